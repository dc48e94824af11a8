/-! ===== the reference's search, its loop ===== -/
def SkI (B : Nat → Int) (D : Nat) (t h o μ : Int) (F : Nat → Nat → Int) (X : Nat → Nat → Prop) (any : Bool) (v8 v9 : Int32) (T : St) : Prop := ∃ b, SkS T B D μ F ∧ SkF T B D t b v8 ∧ ((v9 = iz (-1) ∧ b = SK B t h o X D any) ∨ ∃ (d i : Nat) (c : Nat → Nat), d < 8 ∧ D.testBit d = true ∧ v9 = iz (sn D d) ∧ i ≤ chn B d ∧ T.2.2.1 586 (sn D d) = iz ((i : Int) - 1) ∧ SkP T B D t X d c ∧ un B t h o X D any d c (pn B t h o X D any d i c b) = SK B t h o X D any)
theorem b_seek {B : Nat → Int} {D : Nat} {t h o μ : Int} {F : Nat → Nat → Int} {X : Nat → Nat → Prop} {any ne : Bool} (hW : WF B) (hD : ∀ d, D.testBit d = true → (d : Int) < B 16) (hD2 : D < 2 ^ (B 16).toNat) (hn : sn D 8 ≤ 4) (ht : 1 ≤ t ∧ t ≤ 60) (hh : 0 ≤ h ∧ h ≤ 9) (ho : 0 ≤ o ∧ o ≤ 60) (hμ : 0 ≤ μ ∧ μ ≤ 60)
    (hX : ∀ d c, D.testBit d = true → c < chn B d → 0 ≤ bg B t d c 0 → (X d c ↔ (ne = true → cE B d c = 0) ∧ ∀ k, k < nO B d → gk μ (F d) (bg B t d c) k))
    {Kk : Int32 → Int32 → St → Prop} {Q : Int32 × St → Prop} (hK : ∀ v8 v9 T, SkF T B D t (SK B t h o X D any) v8 → Kk v8 v9 T) {l1 : Int32} :
    ∀ v8 v9 T, SkI B D t h o μ F X any v8 v9 T → bd_m_seek_70 l1 (iz t) (iz h) (iz o) (if ne then 1 else 0) (if any then 1 else 0) (iz (sn D 8)) Kk Q (fun u8 u9 uT => SkI B D t h o μ F X any u8 u9 uT ∧ msr u9.toInt (fun l => (uT.2.2.1 586 l).toInt) < msr v9.toInt (fun l => (T.2.2.1 586 l).toInt)) v8 v9 T := by
  rintro v8 v9 T ⟨b, hS, hF, hcase⟩
  have h8 := hW.2.2.1
  unfold bd_m_seek_70
  rcases hcase with ⟨rfl, rfl⟩ | ⟨d, i, c, hd, hm, rfl, hi, h6, hP, hR⟩
  · exact ⟨fun _ => hK _ _ _ hF, fun q => absurd q (by rw [lt0 (by omega)]; omega)⟩
  have sn4 : sn D d + 1 ≤ sn D 8 := sn_lt hm hd
  refine ⟨fun q => absurd q (by rw [lt0 (by omega)]; omega), fun _ => ?_⟩
  have hd' := hD d hm
  have hcb := ch_b hW hd'
  have ei : (iz (sn D d : Int)).toNatClampNeg = sn D d := by rw [iz_n (by omega), Int.toNat_natCast]
  have ei1 : (iz (sn D d : Int) + 1).toNatClampNeg = sn D d + 1 := by rw [z_1, iz_add, iz_n (by omega)]; omega
  have e61 : iz ((i : Int) - 1) + 1 = iz i := by rw [z_1, iz_add]; exact iz_inj (by omega)
  refine jk1 (fun hx1 => ?_) (fun q1 q2 => hK _ _ _ (by
    rcases hF with ⟨_, g⟩ | ⟨c0, g1, g2⟩
    · exact absurd g q1
    · have : any = true := by cases any with
        | false => exact absurd rfl q2
        | true => rfl
      rw [← hR, g1]
      subst this
      rw [pn_any, un_any]
      exact Or.inr ⟨c0, rfl, g2⟩))
  rw [ei, h6, e61]
  have T1r : (sA T 586 (sn D d) (iz i)).2.2.1 586 (sn D d) = iz i := by rw [gA_A, if_pos ⟨rfl, rfl⟩]
  have T1o : ∀ e j, e ≠ 586 → (sA T 586 (sn D d) (iz i)).2.2.1 e j = T.2.2.1 e j := fun e j he => by rw [gA_A, if_neg (fun z => he z.1)]
  have T16 : ∀ j, j ≠ sn D d → (sA T 586 (sn D d) (iz i)).2.2.1 586 j = T.2.2.1 586 j := fun j hj => by rw [gA_A, if_neg (fun z => hj z.2)]
  have T1F : (sA T 586 (sn D d) (iz i)).1 = T.1 := rfl
  generalize sA T 586 (sn D d) (iz i) = T1 at *
  rw [T1r, T1o 585 _ (by omega), hS.2.2.1 d hd hm]
  have hS1 : SkS T1 B D μ F := SkS_fr hS (fun e j he => T1o e j (by omega)) (by rw [T1F])
  have hF1 : SkF T1 B D t b v8 := SkF_fr hF (fun e j he => T1o e j (by omega)) (by rw [T1F])
  have hP1 : SkP T1 B D t X d c := SkP_fr hW hD hm hP (fun j hj => T16 j (by omega)) (fun j hj => T1o _ _ (by omega)) (fun j hj => T1o _ _ (by omega)) (fun e j a1 a2 a3 => T1o _ _ (by omega))
  obtain ⟨oc, ec⟩ := s_choices hS1.1 hW hd'
  have lw := SkP_l hW hD hP
  have t6 : (T.2.2.1 586 (sn D d)).toInt = (i : Int) - 1 := by rw [h6, iz_t (by omega)]
  have ms1 : ∀ T3 : St, (∀ j, T3.2.2.1 586 j = T1.2.2.1 586 j) → i < chn B d → msr (iz (sn D d : Int)).toInt (fun l => (T3.2.2.1 586 l).toInt) < msr (iz (sn D d : Int)).toInt (fun l => (T.2.2.1 586 l).toInt) := fun T3 h3 hi2 => by
    rw [iz_t (by omega)]
    refine msr_same (by omega) (fun l hl => ⟨?_, lw l hl⟩) ?_ (by omega)
    · show (T3.2.2.1 586 l).toInt = (T.2.2.1 586 l).toInt
      rw [h3, T16 l (by omega)]
    · show (T3.2.2.1 586 (sn D d)).toInt = (T.2.2.1 586 (sn D d)).toInt + 1
      rw [h3, T1r, t6, iz_t (by omega)]; omega
  refine ⟨(iz_in (by omega)).2 (by omega), (iz_in (by omega)).2 (by omega), jo ?_⟩
  try dsimp only
  rw [ec, iz_eq (by omega)]
  refine ⟨oc, fun q => ?_, fun q => ?_⟩
  · -- no choice is left
    have q' : i = chn B d := by omega
    have pz : pn B t h o X D any d i c b = b := pend_z (by omega)
    rw [pz] at hR
    have n1 : iz (sn D d : Int) + -1 = iz ((sn D d : Int) - 1) := by rw [show (-1 : Int32) = iz (-1) from rfl, iz_add]; exact iz_inj (by omega)
    rw [n1]
    refine ⟨?_, ?_⟩
    · by_cases z : sn D d = 0
      · rw [R_fin z] at hR
        exact ⟨b, hS1, hF1, Or.inl ⟨iz_inj (by omega), hR⟩⟩
      · obtain ⟨d0, g1, g2, g3⟩ := sn_ex (D := D) (a := sn D d - 1) d (by omega)
        rw [R_back g1 g2 (by omega)] at hR
        obtain ⟨p1, p2, p3, p4⟩ := hP1.1 d0 g1 g2
        refine ⟨b, hS1, hF1, Or.inr ⟨d0, c d0 + 1, c, by omega, g2, iz_inj (by omega), by omega, ?_, ?_, hR⟩⟩
        · rw [p3]; exact iz_inj (by omega)
        · exact ⟨fun e he hme => hP1.1 e (by omega) hme, fun e he hme => hP1.2 e (by omega) hme⟩
    · rw [iz_t (by omega), iz_t (by omega)]
      refine msr_back (by omega) (fun l hl => ⟨?_, lw l hl⟩) (by omega)
      show (T1.2.2.1 586 l).toInt = (T.2.2.1 586 l).toInt
      rw [T16 l (by omega)]
  · -- a choice more
    have q' : i < chn B d := by omega
    have hkb := (wf_d hW hd').1
    have d0 := md0 hS1.1 (z := (d : Int)) (by omega)
    rw [Int.toNat_natCast] at d0
    have qe : (i : Int) - (i : Int) / (1 + bKeep B d) * (1 + bKeep B d) = cE B d i := by unfold cE; rw [Int.emod_def, Int.mul_comm]
    have ce := (ch_e hW hd' q').1
    have skip : ∀ T3 : St, SkS T3 B D μ F → SkF T3 B D t b v8 → SkP T3 B D t X d c → (∀ j, T3.2.2.1 586 j = T1.2.2.1 586 j) → (∀ c2 : Nat → Nat, (∀ e, e < d + 1 → c2 e = upc c d i e) → (∀ e, d + 1 ≤ e → e < 8 → D.testBit e = true → c2 e < chn B e) → PLp B t h o X D 8 c2 → ∃ c0, b = some c0 ∧ (any = false → csm B D 8 c0 ≤ csm B D 8 c2)) → SkI B D t h o μ F X any v8 (iz (sn D d)) T3 ∧ msr (iz (sn D d : Int)).toInt (fun l => (T3.2.2.1 586 l).toInt) < msr (iz (sn D d : Int)).toInt (fun l => (T.2.2.1 586 l).toInt) := fun T3 a1 a2 a3 a4 a5 => by
      refine ⟨⟨b, a1, a2, Or.inr ⟨d, i + 1, c, hd, hm, rfl, by omega, ?_, a3, ?_⟩⟩, ms1 T3 a4 q'⟩
      · rw [a4, T1r]; exact iz_inj (by omega)
      · rw [← R_skip q' a5 hd]; exact hR
    rw [d0, z_1, iz_add, iz_div (by omega), iz_mul, iz_sub, qe, ← z_1]
    refine jk2 (fun hx => ?_) (fun z => ⟨okd0 (by omega), by rw [eq0 (by omega)]; omega⟩) (fun z1 z2 => by
      rw [gt0 (by omega)] at z2
      have hne1 : ne = true := by cases ne with
        | false => exact absurd rfl z1
        | true => rfl
      refine skip T1 hS1 hF1 hP1 (fun _ => rfl) fun c2 b1 b2 b3 => ?_
      have e1 : c2 d = i := by rw [b1 d (by omega), upc_s]
      have b4 := b3.1 d hd hm
      rw [e1] at b4
      have := ((hX d i hm q' b4.1).1 b4.2).1 hne1
      omega)
    have hne : ne = true → cE B d i = 0 := by
      intro e
      rcases hx with hx | hx
      · rw [e] at hx; exact absurd hx (by decide)
      · rw [gt0 (by omega)] at hx; omega
    obtain ⟨p1, p2⟩ := hP1.2 d (Nat.le_refl d) hm
    have hbd : fbd (tv B D (fun x => bg B t x (c x)) (lgs B) d) 500 := fun m hm' => by
      have := tv_b (b := fun x => bg B t x (c x)) (l := lgs B) hW hD d m hm'
      exact ⟨fun w hw => by have := this.1 w hw; omega, this.2⟩
    obtain ⟨okf, f1, f2, f3, f4, f5, f6, f7, f8⟩ := s_fits (T := T1) (B := B) (a := sn D d) (d := d) (c := i) (t := t) (μ := μ) (C := csm B D d c) (h := h) (o := o) (F := F d) hS1.1 hW hd' q' (by omega) ht (hS1.2.2.1 d hd hm) T1r p1 hS1.2.1 hμ (fun k hk => hS1.2.2.2 d hd hm k hk) p2 hbd hh ho
    have fr : Fr _ T1 _ := fr_m_fits _ _ _ _ okf
    refine ⟨okf, jo ?_⟩
    try dsimp only
    generalize (x_m_fits T1 (iz (sn D d : Int)) (iz t) (iz h) (iz o)).1 = r at *
    generalize (x_m_fits T1 (iz (sn D d : Int)) (iz t) (iz h) (iz o)).2 = T3 at *
    have A3 : ∀ e j, ¬ ((578 ≤ e ∧ e < 585) ∨ (587 ≤ e ∧ e < 589)) → T3.2.2.1 e j = T1.2.2.1 e j := fun e j he => q_A fr he
    have F3 : ∀ k, T3.1 571 k = T1.1 571 k := fun k => q_F fr (by unfold W_m_fits; omega)
    have hS3 : SkS T3 B D μ F := SkS_fr hS1 (fun e j he => A3 e j (by omega)) (F3 32)
    have hF3 : SkF T3 B D t b v8 := SkF_fr hF1 (fun e j he => A3 e j (by omega)) (F3 31)
    have hP3 : SkP T3 B D t X d c := SkP_fr hW hD hm hP1 (fun j hj => A3 586 j (by omega)) (fun j hj => f6 j hj) (fun j hj => f7 j hj) (fun e j a1 a2 a3 => f8 e j a1 a2 a3)
    have bb : ∀ x, x ≠ d → (fun x => bg B t x (c x)) x = (fun x => bg B t x (upc c d i x)) x := fun x hx => by show bg B t x (c x) = bg B t x (upc c d i x); rw [upc_n c i hx]
    have tvd : ∀ e w m, e ≤ d → tv B D (fun x => bg B t x (c x)) (lgs B) e w m = tv B D (fun x => bg B t x (upc c d i x)) (lgs B) e w m := fun e w m he => tv_cg (fun x hx _ => bb x (by omega))
    have adv : adD B d (bg B t d i) (lgs B d) (tv B D (fun x => bg B t x (c x)) (lgs B) d) = tv B D (fun x => bg B t x (upc c d i x)) (lgs B) (d + 1) := by
      funext w m
      rw [← tv_s hm]
      have e2 : tv B D (fun x => bg B t x (c x)) (lgs B) d = tv B D (fun x => bg B t x (upc c d i x)) (lgs B) d := by funext w m; exact tvd d w m (Nat.le_refl d)
      rw [e2, upc_s]
    rw [adv, lkw_ful] at f2
    rw [adv] at f3
    have csd : csm B D (d + 1) (upc c d i) = csm B D d c + cst B d i := by
      rw [csm_s, if_pos hm, upc_s, csm_cg (c2 := c) (fun x hx _ => upc_n c i (by omega))]
    have vld : ∀ c2 : Nat → Nat, (∀ e, e < d + 1 → c2 e = upc c d i e) → (∀ e, d + 1 ≤ e → e < 8 → D.testBit e = true → c2 e < chn B e) → ∀ e, e < 8 → D.testBit e = true → c2 e < chn B e := fun c2 b1 b2 e he hme => by
      by_cases z : e < d + 1
      · rw [b1 e z]
        by_cases z2 : e = d
        · subst z2; rw [upc_s]; exact q'
        · rw [upc_n c i z2]; exact (hP1.1 e (by omega) hme).1
      · exact b2 e (by omega) he hme
    refine ⟨fun z => ?_, fun z => ?_⟩
    · refine skip T3 hS3 hF3 hP3 (fun j => A3 586 j (by omega)) fun c2 b1 b2 b3 => ?_
      have := f2.2 ?_
      · exact absurd z this
      · have b4 := PLp_cg (c2 := upc c d i) (fun x hx _ => b1 x hx) (PLp_mono (show d + 1 ≤ 8 by omega) b3)
        have b5 := b4.1 d (by omega) hm
        rw [upc_s] at b5
        exact ⟨⟨b5.1, ((hX d i hm q' b5.1).1 b5.2).2⟩, b4.2⟩
    · obtain ⟨⟨g1, g2⟩, g3⟩ := f2.1 z
      have hXd : X d i := (hX d i hm q' g1).2 ⟨hne, g2⟩
      have lv3 := f3 z
      have plp : PLp B t h o X D (d + 1) (upc c d i) := by
        refine ⟨fun e he hme => ?_, g3⟩
        by_cases z2 : e = d
        · subst z2; rw [upc_s]; exact ⟨g1, hXd⟩
        · rw [upc_n c i z2]; exact (hP1.1 e (by omega) hme).2.1
      have csb := csm_b (c := c) hW hD2 d (fun e he hme => (hP1.1 e he hme).1)
      have cstb := cst_b hW hd' q'
      have sn8 : sn D d ≤ 3 := by omega
      refine jk3 (fun hx3 => ?_) (fun _ => by rw [z_1, iz_add, iz_in (by omega)]; omega) (fun z1 z2 => by
        rcases hF3 with ⟨_, y⟩ | ⟨c0, y1, y2, y3, y4⟩
        · exact absurd y z1
        · have c0b := csm_b (c := c0) hW hD2 8 (fun e he hme => (y4 e he hme).1)
          rw [y3, ei1, f5, iz_le (by omega), ← csd] at z2
          refine skip T3 hS3 (Or.inr ⟨c0, y1, y2, y3, y4⟩) hP3 (fun j => A3 586 j (by omega)) fun c2 b1 b2 b3 => ⟨c0, y1, fun _ => ?_⟩
          have k1 := csm_le (c := c2) hW hD2 (8 - (d + 1)) (d + 1) (fun e he hme => vld c2 b1 b2 e (by omega) hme)
          rw [show d + 1 + (8 - (d + 1)) = 8 by omega, csm_cg (c2 := upc c d i) (fun x hx _ => b1 x hx)] at k1
          omega)
      have hc0 : ∀ c0, b = some c0 → csm B D (d + 1) (upc c d i) < csm B D 8 c0 := by
        intro c0 e0
        rcases hF3 with ⟨y, _⟩ | ⟨c1, y1, y2, y3, y4⟩
        · rw [y] at e0; cases e0
        · have ec : c1 = c0 := by rw [y1] at e0; exact Option.some.inj e0
          subst ec
          have c0b := csm_b (c := c1) hW hD2 8 (fun e he hme => (y4 e he hme).1)
          rcases hx3 with hx3 | hx3
          · rw [y2] at hx3; exact absurd hx3 (by decide)
          · rw [y3, ei1, f5, iz_le (by omega), ← csd] at hx3
            omega
      have hany : ∀ c0, b = some c0 → any = false := by
        intro c0 e0
        rcases hF3 with ⟨y, _⟩ | ⟨c1, y1, y2, _⟩
        · rw [y] at e0; cases e0
        · rcases hx1 with hx1 | hx1
          · rw [y2] at hx1; exact absurd hx1 (by decide)
          · cases any with
            | false => rfl
            | true => exact absurd hx1 (by decide)
      have cne : ∀ e, e ≤ d → D.testBit e = true → ∀ k, k < nO B e → T3.2.2.1 588 (3 * sn D e + k) = iz (bg B t e (upc c d i e) k) := fun e he hme k hk => by
        by_cases z2 : e = d
        · subst z2; rw [upc_s]; exact f4 k hk
        · rw [upc_n c i z2]; exact (hP3.1 e (by omega) hme).2.2.2 k hk
      have c6 : ∀ e, e ≤ d → D.testBit e = true → T3.2.2.1 586 (sn D e) = iz (upc c d i e) := fun e he hme => by
        by_cases z2 : e = d
        · subst z2; rw [upc_s, A3 586 _ (by omega)]; exact T1r
        · rw [upc_n c i z2]; exact (hP3.1 e (by omega) hme).2.2.1
      rw [z_1, iz_sub, iz_add, iz_le (by omega), ← z_1]
      refine ⟨fun z3 => ⟨(iz_in (by omega)).2 (by omega), s_best (fun T5 b1 b2 b3 b4 => ?_)⟩, fun z3 => ⟨(iz_in (by omega)).2 (by omega), ?_⟩⟩
      · -- a plan is found
        have es : sn D d + 1 = sn D 8 := by omega
        have en8 : (iz (sn D 8 : Int)).toNatClampNeg = sn D d + 1 := by rw [iz_n (by omega)]; omega
        rw [en8, f5] at b2
        have b1' : ∀ e j, e ≠ 589 → e ≠ 590 → T5.2.2.1 e j = T3.2.2.1 e j := b1
        have b3' : ∀ j, j < 4 → T5.2.2.1 589 j = T3.2.2.1 586 j := b3
        have b4' : ∀ j, j < 12 → T5.2.2.1 590 j = T3.2.2.1 588 j := b4
        obtain ⟨lf1, lf2⟩ := R_leaf (B := B) (t := t) (h := h) (o := o) (X := X) (any := any) (b := b) hd hm es q' plp (fun c0 e0 => ⟨hany c0 e0, hc0 c0 e0⟩)
        have le8 : ∀ e, e < 8 → D.testBit e = true → e ≤ d := fun e he hme => by
          rcases Nat.lt_or_ge d e with y | y
          · have y1 := sn_lt hm y
            have y2 := sn_lt hme he
            omega
          · exact y
        refine ⟨⟨some (upc c d i), SkS_fr hS3 (fun e j he => b1' e j (by omega) (by omega)) (by rw [b2]; rfl), Or.inr ⟨upc c d i, rfl, rfl, ?_, fun e he hme => ⟨?_, ?_, fun k hk => ?_⟩⟩, Or.inr ⟨d, i + 1, c, hd, hm, rfl, by omega, ?_, ?_, ?_⟩⟩, ms1 T5 (fun j => by rw [b1' 586 j (by omega) (by omega)]; exact A3 586 j (by omega)) q'⟩
        · rw [b2, lf2, csd]; rfl
        · exact vld (upc c d i) (fun _ _ => rfl) (fun x y1 y2 y3 => absurd (le8 x y2 y3) (by omega)) e he hme
        · have y1 := sn_mo (D := D) (le8 e he hme)
          rw [b3' _ (by omega)]; exact c6 e (le8 e he hme) hme
        · have y1 := sn_mo (D := D) (le8 e he hme)
          have y2 := wf_n hW (hD e hme)
          rw [b4' _ (by omega)]; exact cne e (le8 e he hme) hme k hk
        · rw [b1' 586 _ (by omega) (by omega), A3 586 _ (by omega), T1r]; exact iz_inj (by omega)
        · exact SkP_fr hW hD hm hP3 (fun j hj => b1' _ _ (by omega) (by omega)) (fun j hj => b1' _ _ (by omega) (by omega)) (fun j hj => b1' _ _ (by omega) (by omega)) (fun e j a1 a2 a3 => b1' _ _ (by omega) (by omega))
        · rw [← lf1]; exact hR
      · -- on to the next seat
        obtain ⟨d2, y1, y2, y3⟩ := sn_ex (D := D) (a := sn D d + 1) 8 (by omega)
        have y4 : d < d2 := by
          rcases Nat.lt_or_ge d d2 with y | y
          · exact y
          · have := sn_mo (D := D) y; omega
        have gap := sn_gap (D := D) (d := d + 1) (e := d2) (by rw [sn_s, if_pos hm]; omega)
        rw [show ((sn D d : Int) + 1) = ((sn D d + 1 : Nat) : Int) by omega, iz_n (by omega), Int.toNat_natCast]
        have G6 : ∀ j, j ≤ sn D d → (sA T3 586 (sn D d + 1) (-1)).2.2.1 586 j = T3.2.2.1 586 j := fun j hj => by rw [gA_A, if_neg (by omega)]
        have GA : ∀ e j, e ≠ 586 → (sA T3 586 (sn D d + 1) (-1)).2.2.1 e j = T3.2.2.1 e j := fun e j he => by rw [gA_A, if_neg (fun w => he w.1)]
        have GN : (sA T3 586 (sn D d + 1) (-1)).2.2.1 586 (sn D d + 1) = -1 := by rw [gA_A, if_pos ⟨rfl, rfl⟩]
        have GF : (sA T3 586 (sn D d + 1) (-1)).1 = T3.1 := rfl
        generalize sA T3 586 (sn D d + 1) (-1) = G at *
        refine ⟨⟨b, SkS_fr hS3 (fun e j he => GA e j (by omega)) (by rw [GF]), SkF_fr hF3 (fun e j he => GA e j (by omega)) (by rw [GF]), Or.inr ⟨d2, 0, upc c d i, y1, y2, by rw [y3], by omega, ?_, ⟨fun e he hme => ?_, fun e he hme => ?_⟩, ?_⟩⟩, ?_⟩
        · rw [y3, GN]; rfl
        · have ed : e ≤ d := by
            rcases Nat.lt_or_ge d e with y | y
            · rw [gap e (by omega) he] at hme; cases hme
            · exact y
          have := sn_mo (D := D) ed
          refine ⟨?_, plp.1 e (by omega) hme, ?_, fun k hk => ?_⟩
          · by_cases z2 : e = d
            · subst z2; rw [upc_s]; exact q'
            · rw [upc_n c i z2]; exact (hP1.1 e (by omega) hme).1
          · rw [G6 _ this]; exact c6 e ed hme
          · rw [GA _ _ (by omega)]; exact cne e ed hme k hk
        · rcases Nat.lt_or_ge d e with w1 | w1
          · have e2 : e = d2 := by
              rcases Nat.lt_or_ge e d2 with w2 | w2
              · rw [gap e (by omega) w2] at hme; cases hme
              · omega
            subst e2
            have g1' := csm_sk (B := B) (D := D) (e := d + 1) (k := e - (d + 1)) (c := upc c d i) (fun x w2 w3 => gap x w2 (by omega))
            have g2' := tv_g (B := B) (D := D) (d := d + 1) (b := fun x => bg B t x (upc c d i x)) (l := lgs B) (e - (d + 1)) (fun x w2 w3 => gap x w2 (by omega))
            rw [show d + 1 + (e - (d + 1)) = e by omega] at g1' g2'
            rw [g1', g2', y3, GA _ _ (by omega), f5, csd]
            exact ⟨rfl, Lv_eq (fun x j _ _ _ _ => GA x j (by omega)) lv3⟩
          · have w2 := hP3.2 e w1 hme
            have w3 := sn_mo (D := D) w1
            rw [GA _ _ (by omega), csm_cg (c := upc c d i) (c2 := c) (fun x hx _ => upc_n c i (by omega))]
            refine ⟨w2.1, Lv_cg (fun w m _ _ => tvd e w m w1) (Lv_eq (fun x j _ _ _ _ => GA x j (by omega)) w2.2)⟩
        · rw [R_desc y4 y1 hm y2 (by omega) q']; exact hR
        · rw [iz_t (by omega), iz_t (by omega)]
          refine msr_desc (by omega) (fun l hl => ⟨?_, lw l hl⟩) ?_ ?_ (by omega)
          · show (G.2.2.1 586 l).toInt = (T.2.2.1 586 l).toInt
            rw [G6 l (by omega), A3 586 l (by omega), T16 l (by omega)]
          · show (G.2.2.1 586 (sn D d)).toInt = (T.2.2.1 586 (sn D d)).toInt + 1
            rw [G6 _ (Nat.le_refl _), A3 586 _ (by omega), T1r, t6, iz_t (by omega)]; omega
          · show (G.2.2.1 586 (sn D d + 1)).toInt = -1
            rw [GN]; rfl
