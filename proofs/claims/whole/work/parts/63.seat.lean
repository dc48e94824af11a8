/-! ===== all seated ===== -/
section SA
variable {T : St} {B : Nat → Int} {t h o : Int} {cn : Nat → Nat → Prop} {S b ki D d : Nat}
theorem s_can (hW : WF B) (hd : (d : Int) < B 16) (hG : SgQ T B t cn d) : ok_pl_choicesThatCan T (iz d) ∧ x_pl_choicesThatCan T (iz d) = iz ((msk (cn d) (chn B d) : Nat) : Int) := by
  have h8 := hW.2.2.1
  have cb := ch_b hW hd
  obtain ⟨s82, _, _, sW⟩ := hG
  refine so_pl_choicesThatCan (Q := fun r => r = iz ((msk (cn d) (chn B d) : Nat) : Int)) _ ?_
  unfold wp_pl_choicesThatCan
  refine wr_pl_choicesThatCan_4 T _ (fun v2 v3 => ∃ i : Nat, i ≤ chn B d ∧ v3 = iz i ∧ v2 = iz ((msk (cn d) i : Nat) : Int)) (fun v2 v3 => 12 - v3.toInt.toNat) ?_ _ _ _ ?_ ?_
  · rintro _ _ ⟨i, hi, rfl, rfl⟩
    unfold bd_pl_choicesThatCan_4
    rw [ix_nat (by omega), s82, iz_le (by omega)]
    refine ⟨in_nat (by omega) (by omega), fun q => ?_, fun q => ?_⟩
    · have ei : i = chn B d := by omega
      rw [ei]
    · have ix2 : iz (d : Int) * 12 + iz (i : Int) = iz ((12 * d + i : Nat) : Int) := by rw [z_12, iz_mul, iz_add]; exact iz_inj (by omega)
      have nx : iz (i : Int) + 1 = iz ((i + 1 : Nat) : Int) := by rw [z_1, iz_add]; exact iz_inj (by omega)
      have ms : 12 - (iz ((i + 1 : Nat) : Int)).toInt.toNat < 12 - (iz (i : Int)).toInt.toNat := by rw [iz_t (by omega), iz_t (by omega)]; omega
      rw [ix2, ix_nat (by omega), show 123 + 4 * (12 * d + i) = wc d i from rfl, nx]
      have wsi := sW i (by omega)
      refine ⟨in_nat (by omega) (by omega), fun z => ?_, fun z => ?_⟩
      · have nc : ¬ cn d i := fun y => by rw [(WsQ_Y y wsi).1] at z; exact absurd z (by decide)
        exact ⟨⟨i + 1, by omega, rfl, by rw [msk_n nc]⟩, ms⟩
      · have yc : cn d i := by
          rcases wsi.2.2.2 with ⟨_, g, _⟩ | ⟨g, _⟩
          · exact g
          · exact absurd g z
        rw [sh12 i (by omega), or_iz]
        exact ⟨⟨i + 1, by omega, rfl, by rw [msk_y yc]⟩, ms⟩
  · show 12 - (0 : Int32).toInt.toNat < 1000
    omega
  · exact ⟨0, by omega, rfl, rfl⟩
end SA
noncomputable def fq (B : Nat → Int) (t : Int) (cn : Nat → Nat → Prop) (D j w m : Nat) : Nat := sN (fun e => if D.testBit e = true ∧ j ≤ sn D e then bN (cmP B t cn e w m) else 0) 8
def SaQ (B : Nat → Int) (t h o : Int) (X : Nat → Nat → Prop) (S b' ki D d0 : Nat) (any : Bool) (chx : Nat → Int) (r : Int32 × St) : Prop := PlQ r.2 B t h o (cnX B t h o X) S b' ki ∧ BsQ r.2 B D any none ∧ ((r.1 = 0 ∧ ∀ c2 : Nat → Nat, (∀ e, e < 8 → D.testBit e = true → c2 e < chn B e) → ¬ PLp B t h o X D 8 c2) ∨ (r.1 = 1 ∧ (∀ e, e < 8 → D.testBit e = true → chP B (cnX B t h o X) e (chx e) ∧ chx e ≤ 900) ∧ PrS B t h o (cnX B t h o X) S b' ki D any chx r.2 d0 (fun _ => 0) none))
theorem BsQ_0 {T U : St} {B : Nat → Int} {D : Nat} {any : Bool} (h : BsQ T B D any none) (h1 : U.1 80 14 = T.1 80 14) (h2 : U.1 80 13 = T.1 80 13) (h3 : U.1 80 17 = T.1 80 17) : BsQ U B D any none := ⟨by rw [h1]; exact h.1, by rw [h2]; exact h.2.1, fun z => by rw [h3]; exact h.2.2.1 z, fun c0 z => by cases z⟩
theorem s_seat {T : St} {B : Nat → Int} {t h o : Int} {X : Nat → Nat → Prop} {S b' ki D d0 : Nat} {any : Bool}
    (hb : sh b' = .inr 1) (hb2 : b' + 14 < 76) (hk : sh ki = .inr 3) (hk2 : ki + 1 < 80) (hW : WF B) (hS2 : S < 2 ^ (B 16).toNat) (hDS : ∀ e, D.testBit e = true → S.testBit e = true) (hD2 : D < 2 ^ (B 16).toNat) (hn : sn D 8 ≤ 4) (ht : 1 ≤ t ∧ t ≤ 60) (ho : o < 60 → 1 ≤ B 1) (hP : PlQ T B t h o (cnX B t h o X) S b' ki) (hBs : BsQ T B D any none) (hd0 : d0 < 8) (hm0 : D.testBit d0 = true) (hs0 : sn D d0 = 0) :
    ok_pl_seatAll T (iz D) ∧ SaQ B t h o X S b' ki D d0 any (fun e => (T.2.2.1 83 e).toInt) (x_pl_seatAll T (iz D)) := by
  have hD := mem_lt hW hD2
  have h256 := D_256 hW hD2
  have h8 := hW.2.2.1
  obtain ⟨chx, hchx⟩ : ∃ chx : Nat → Int, chx = fun e => (T.2.2.1 83 e).toInt := ⟨_, rfl⟩
  rw [← hchx]
  have h83 : ∀ e, e < 8 → D.testBit e = true → T.2.2.1 83 e = iz (chx e) ∧ chP B (cnX B t h o X) e (chx e) ∧ 0 ≤ chx e ∧ chx e ≤ 1000000 := fun e he hme => by
    obtain ⟨_, ⟨x, x1, x2⟩, _⟩ := hP.2.2.2.2.1 e he (hDS e hme)
    have xb : 0 ≤ x ∧ x ≤ 1000000 := by
      rcases x2.2 with ⟨c', w1, _, w3⟩ | ⟨w1, _⟩
      · have := cst_b hW (hD e hme) w1; omega
      · omega
    have ex : chx e = x := by rw [hchx]; show (T.2.2.1 83 e).toInt = x; rw [x1, iz_t (by omega)]
    rw [ex]; exact ⟨x1, x2, xb⟩
  have c900 : ∀ e, e < 8 → D.testBit e = true → chx e ≠ 1000000 → chx e ≤ 900 ∧ ∃ c, c < chn B e ∧ cnX B t h o X e c := fun e he hme hne => by
    rcases (h83 e he hme).2.1.2 with ⟨c', w1, w2, w3⟩ | ⟨w1, _⟩
    · have := cst_b hW (hD e hme) w1; exact ⟨by omega, c', w1, w2⟩
    · exact absurd w1 hne
  refine so_pl_seatAll (Q := SaQ B t h o X S b' ki D d0 any chx) _ ?_
  unfold wp_pl_seatAll
  refine wr_pl_seatAll_7 _ (fun v U => ∃ e : Nat, (e : Int) ≤ B 16 ∧ v = iz e ∧ PlQ U B t h o (cnX B t h o X) S b' ki ∧ BsQ U B D any none ∧ U.1 80 12 = iz (sn D e) ∧ (∀ z, U.2.2.1 83 z = T.2.2.1 83 z) ∧ ∀ d, d < e → D.testBit d = true → U.2.2.1 94 (sn D d) = iz d ∧ U.2.2.1 100 (sn D d) = iz ((msk (cnX B t h o X d) (chn B d) : Nat) : Int) ∧ chx d ≠ 1000000) (fun v U => 8 - v.toInt.toNat) ?_ _ _ _ ?_ ?_
  · rintro _ U ⟨e, he, rfl, u1, u2, u3, u4, u5⟩
    have sle := sn_mo (D := D) (d := e) (e := 8) (by omega)
    -- all are seated
    have K : (∀ d, d < 8 → D.testBit d = true → d < e) → (vp_in (U.1 80 12) 5) ∧ (ok_ta_open (sA U 97 (U.1 80 12 : Int32).toNatClampNeg 0) (507 + 5 * (0 : Int32).toNatClampNeg) ((sA U 97 (U.1 80 12 : Int32).toNatClampNeg 0).2.1 3)) ∧ jn (fun (T2 : St) => wp_pl_seatAll_119 (iz D) (fun w2_2 T202 => SaQ B t h o X S b' ki D d0 any chx (1, T202)) (SaQ B t h o X S b' ki D d0 any chx) 1000 ((T2.1 80 12) - 1) T2) (x_ta_open (sA U 97 (U.1 80 12 : Int32).toNatClampNeg 0) (507 + 5 * (0 : Int32).toNatClampNeg) ((sA U 97 (U.1 80 12 : Int32).toNatClampNeg 0).2.1 3)) := by
      intro hall
      have s8 : sn D e = sn D 8 := by
        have := sn_g (D := D) (d := e) (8 - e) (fun x a1 a2 => by
          cases q : D.testBit x with
          | false => rfl
          | true => have := hall x (by omega) q; omega)
        rw [show e + (8 - e) = 8 by omega] at this
        exact this.symm
      rw [u3, s8, ix_nat (by omega), n_0]
      refine ⟨in_nat (by omega) (by omega), ?_⟩
      have plG : PlQ (sA U 97 (sn D 8) 0) B t h o (cnX B t h o X) S b' ki := PlQ_fr (W := fun y => y = 97) hW hS2 hb2 hk2 u1 (fr_sA fr_rfl rfl) (fun y hy => by unfold sW; omega)
      have gA : ∀ y z, ¬ (y = 97 ∧ z = sn D 8) → (sA U 97 (sn D 8) 0).2.2.1 y z = U.2.2.1 y z := fun y z hy => by rw [gA_A, if_neg hy]
      have g97 : (sA U 97 (sn D 8) 0).2.2.1 97 (sn D 8) = 0 := by rw [gA_A, if_pos ⟨rfl, rfl⟩]
      have gF : (sA U 97 (sn D 8) 0).1 = U.1 := rfl
      generalize sA U 97 (sn D 8) 0 = G at *
      rw [plG.2.1]
      obtain ⟨oko, tyo⟩ := s_open (a := 507) (by decide) hk (by omega) plG.2.2.2.1
      have fro : Fr _ G _ := fr_ta_open _ _ oko
      refine ⟨oko, jo ?_⟩
      try dsimp only
      have plH : PlQ (x_ta_open G 507 ki) B t h o (cnX B t h o X) S b' ki := PlQ_fr hW hS2 hb2 hk2 plG fro (fun y hy => by unfold W_ta_open at hy; unfold sW; omega)
      have hA : ∀ y z, y < 500 → (x_ta_open G 507 ki).2.2.1 y z = G.2.2.1 y z := fun y z hy => q_A fro (by unfold W_ta_open; omega)
      have hF : ∀ z, z < 100 → (x_ta_open G 507 ki).1 80 z = G.1 80 z := fun z hz => q_F fro (by unfold W_ta_open; omega)
      generalize x_ta_open G 507 ki = H at *
      have h12 : H.1 80 12 = iz (sn D 8) := by rw [hF 12 (by omega), gF, u3, s8]
      rw [h12, z_1, iz_sub, ← z_1]
      refine wr_pl_seatAll_119 _ (fun v V => ∃ j : Nat, j ≤ sn D 8 ∧ v = iz ((j : Int) - 1) ∧ PlQ V B t h o (cnX B t h o X) S b' ki ∧ BsQ V B D any none ∧ Sea V D ∧ (∀ z, V.2.2.1 83 z = T.2.2.1 83 z) ∧ (∀ d, d < 8 → D.testBit d = true → V.2.2.1 100 (sn D d) = iz ((msk (cnX B t h o X d) (chn B d) : Nat) : Int)) ∧ (∀ e, e ≤ 8 → (e < 8 → D.testBit e = true) → j ≤ sn D e → V.2.2.1 97 (sn D e) = iz (rst D chx e)) ∧ TyX V 507 B h o (fq B t (cnX B t h o X) D j) ∧ ∀ w m : Nat, w < 5 → m < 60 → (fq B t (cnX B t h o X) D j w m : Int) ≤ gv B h o w m) (fun v V => (v.toInt + 1).toNat) ?_ _ _ _ ?_ ?_
      · rintro _ V ⟨j, hj, rfl, v1, v2, v3, v4, v5, v6, v7, v8⟩
        unfold bd_pl_seatAll_119
        rw [lt0 (by omega)]
        refine ⟨fun q => ?_, fun q => ?_⟩
        · -- all is laid
          have j0 : j = 0 := by omega
          subst j0
          refine ⟨v1, v2, Or.inr ⟨rfl, fun e he hme => ⟨(h83 e he hme).2.1, (c900 e he hme (u5 e (hall e he hme) hme).2.2).1⟩, v1, v3, fun e a1 a2 => v6 e a1 a2 (Nat.zero_le _), fun e he hme => ?_, fun e f _ hf hme hmf => ?_, fun w m hw hm => ?_, fun _ => ?_, fun e he hme hde => ?_, v2⟩⟩
          · have := sn_lt hme he; omega
          · have := sn_lt hmf hf; omega
          · have e0 : cnt B t (cnX B t h o X) D (fun _ => 0) d0 w m = fq B t (cnX B t h o X) D 0 w m := by
              refine sN_eq 8 fun e he => ?_
              unfold qd
              by_cases z : D.testBit e = true
              · rw [if_pos z, if_neg (fun y => by have := sn_lt z y; omega), if_pos ⟨z, Nat.zero_le _⟩]; rfl
              · rw [if_neg z, if_neg (fun y => z y.1)]
            rw [e0]; exact v8 w m hw hm
          · have e0 : cnt B t (cnX B t h o X) D (fun _ => 0) d0 = fq B t (cnX B t h o X) D 0 := by
              funext w m
              refine sN_eq 8 fun e he => ?_
              unfold qd
              by_cases z : D.testBit e = true
              · rw [if_pos z, if_neg (fun y => by have := sn_lt z y; omega), if_pos ⟨z, Nat.zero_le _⟩]; rfl
              · rw [if_neg z, if_neg (fun y => z y.1)]
            rw [e0, hs0]; exact v7
          · rw [hs0, v5 e he hme]
            refine iz_inj (congrArg Int.ofNat (Nat.eq_of_testBit_eq fun i => ?_))
            rw [Bool.eq_iff_iff, opm_t, msk_t]
            exact ⟨fun z => ⟨z.1, z.2, fun x hx hmx => by have := sn_lt hmx hx; omega⟩, fun z => ⟨z.1, z.2.1⟩⟩
        · obtain ⟨e, he, hme, hse⟩ := sn_ex (D := D) (a := j - 1) 8 (by omega)
          have ej : (j : Int) - 1 = (sn D e : Int) := by omega
          have he16 := hD e hme
          rw [ej, ix_nat (by omega), v3.2 e he hme, ix_nat (by omega), n_0]
          have hcm := (c900 e he hme (u5 e (hall e he hme) hme).2.2).2
          have bi : BiX V (85 + e) (cmP B t (cnX B t h o X) e) := fun w m hw hm => by
            rw [(v1.2.2.2.2.1 e he (hDS e hme)).2.2.1 w m hw hm]
            obtain ⟨c', w1, w2⟩ := hcm
            exact ⟨fun y => ⟨(y c' w1 w2).1, fun c'' a1 a2 => (y c'' a1 a2).2⟩, fun y c'' a1 a2 => ⟨y.1, y.2 c'' a1 a2⟩⟩
          have s85 : sh (85 + e) = .inl (1, 5) := (by decide +kernel : ∀ a, a < 8 → sh (85 + a) = .inl (1, 5)) e he
          have hroom := s_hasRoom v7 bi
          have fqs : ∀ w m, fq B t (cnX B t h o X) D (sn D e) w m = fq B t (cnX B t h o X) D j w m + bN (cmP B t (cnX B t h o X) e w m) := fun w m => by
            refine sN_up (d := e) 8 he (fun x _ hx => ?_) ?_
            · by_cases z : D.testBit x = true ∧ sn D e ≤ sn D x
              · rw [if_pos z, if_pos ⟨z.1, by
                  rcases Nat.lt_or_ge (sn D x) j with y | y
                  · exact absurd (sn_in z.1 hme (by omega)) hx
                  · exact y⟩]
              · rw [if_neg z, if_neg (fun y => z ⟨y.1, by omega⟩)]
            · rw [if_pos ⟨hme, Nat.le_refl _⟩, if_neg (fun y => by omega)]; omega
          have f3 : ∀ w m, fq B t (cnX B t h o X) D j w m ≤ 3 := fun w m => by
            have a1 : sN (fun x => if x = e then 1 else if D.testBit x = true ∧ j ≤ sn D x then bN (cmP B t (cnX B t h o X) x w m) else 0) 8 = fq B t (cnX B t h o X) D j w m + 1 := sN_up (d := e) 8 he (fun x _ hx => if_neg hx) (by simp; omega)
            have a2 : sN (fun x => if x = e then 1 else if D.testBit x = true ∧ j ≤ sn D x then bN (cmP B t (cnX B t h o X) x w m) else 0) 8 ≤ sn D 8 := by
              rw [← sN_sn]
              refine sN_le 8 fun x _ => ?_
              by_cases z : x = e
              · subst z; simp [hme]
              · simp only [z, if_false]
                by_cases y : D.testBit x = true ∧ j ≤ sn D x
                · rw [if_pos y, if_pos y.1]; exact bN_1 _
                · rw [if_neg y]; exact Nat.zero_le _
            omega
          refine ⟨in_nat (by omega) (by omega), in_nat (by omega) (by omega), jo ?_⟩
          try dsimp only
          refine ⟨⟨by decide, s85, trivial⟩, fun z => ?_, fun z => ?_⟩
          · -- too much in any case
            refine ⟨v1, v2, Or.inl ⟨rfl, fun c2 b1 b2 => ?_⟩⟩
            have PI := (PL_iff hW hD2 ht b1).1 b2
            refine (hroom.1 z) fun w m hw hm hc => ?_
            rw [fll_i hW ho hm (f3 w m)]
            have k3 := PI.2.1 w m hw hm
            have k1 := fqs w m
            rw [bN_y hc] at k1
            have k2 : fq B t (cnX B t h o X) D (sn D e) w m ≤ sN (fun e => if D.testBit e = true then bN (u1P B t e (c2 e) w m) else 0) 8 := by
              refine sN_le 8 fun x hx => ?_
              by_cases y : D.testBit x = true ∧ sn D e ≤ sn D x
              · rw [if_pos y, if_pos y.1]
                by_cases y2 : cmP B t (cnX B t h o X) x w m
                · rw [bN_y (y2 (c2 x) (b1 x hx y.1) (PI.1 x hx y.1))]; exact bN_1 _
                · rw [bN_n y2]; exact Nat.zero_le _
              · rw [if_neg y]; exact Nat.zero_le _
            omega
          · have room : ∀ w m : Nat, w < 5 → m < 60 → cmP B t (cnX B t h o X) e w m → ¬ fll B h o w m (fq B t (cnX B t h o X) D j w m) := Classical.byContradiction fun y => z (hroom.2 y)
            rw [v1.2.1]
            obtain ⟨oka, tya⟩ := s_add (a := 507) (b := 507) (q := 85 + e) (ki := ki) (by decide) (by decide) s85 hk (Or.inl rfl) (by omega) (by omega) v1.2.2.2.1 v7 bi
            have fra : Fr _ V _ := fr_ta_add _ _ _ _ oka
            have ec : ad1 (fq B t (cnX B t h o X) D j) (cmP B t (cnX B t h o X) e) = fq B t (cnX B t h o X) D (sn D e) := by funext w m; rw [fqs w m]; rfl
            rw [ec] at tya
            have plM := PlQ_fr hW hS2 hb2 hk2 v1 fra (fun y hy => by unfold W_ta_add at hy; unfold sW; omega)
            have mA : ∀ y z, y < 500 → (x_ta_add V 507 507 (85 + e) ki).2.2.1 y z = V.2.2.1 y z := fun y z hy => q_A fra (by unfold W_ta_add; omega)
            have mF : ∀ z, z < 100 → (x_ta_add V 507 507 (85 + e) ki).1 80 z = V.1 80 z := fun z hz => q_F fra (by unfold W_ta_add; omega)
            refine ⟨oka, jo ?_⟩
            try dsimp only
            generalize x_ta_add V 507 507 (85 + e) ki = M at *
            have nx : iz (sn D e : Int) + 1 = iz ((sn D e + 1 : Nat) : Int) := by rw [z_1, iz_add]; exact iz_inj (by omega)
            -- the next seat
            obtain ⟨d2, y1, y2, y3, y4⟩ : ∃ d2, e < d2 ∧ d2 ≤ 8 ∧ (d2 < 8 → D.testBit d2 = true) ∧ sn D d2 = sn D e + 1 := by
              by_cases z : sn D e + 1 = sn D 8
              · exact ⟨8, he, Nat.le_refl 8, fun z => by omega, z.symm⟩
              · obtain ⟨d2, g1, g2, g3⟩ := sn_ex (D := D) (a := sn D e + 1) 8 (by omega)
                refine ⟨d2, ?_, by omega, fun _ => g2, g3⟩
                rcases Nat.lt_or_ge e d2 with y | y
                · exact y
                · have := sn_mo (D := D) y; omega
            have gap := sn_gap (D := D) (d := e + 1) (e := d2) (by rw [sn_s, if_pos hme]; omega)
            have rs2 : rst D chx d2 = rst D chx (e + 1) := by
              have := rst_g (chx := chx) (d2 - (e + 1)) (fun x a1 a2 => gap x a1 (by omega))
              rw [show e + 1 + (d2 - (e + 1)) = d2 by omega] at this
              exact this
            have r97 : M.2.2.1 97 (sn D e + 1) = iz (rst D chx d2) := by rw [mA _ _ (by omega), ← y4]; exact v6 d2 y2 y3 (by omega)
            have r83 : M.2.2.1 83 e = iz (chx e) := by rw [mA _ _ (by omega), v4]; exact (h83 e he hme).1
            have n1 : iz (sn D e : Int) + -1 = iz ((sn D e : Int) - 1) := by rw [show (-1 : Int32) = iz (-1) from rfl, iz_add]; exact iz_inj (by omega)
            rw [nx, ix_nat (by omega), mA 94 _ (by omega), v3.2 e he hme, ix_nat (by omega), r97, r83, n1, iz_add, show rst D chx d2 + chx e = rst D chx e by rw [rst_s hme, rs2]; omega]
            refine ⟨in_nat (by omega) (by omega), in_nat (by omega) (by omega), in_nat (by omega) (by omega), ⟨sn D e, by omega, rfl, ?_, ?_, ⟨?_, fun f hf hmf => ?_⟩, fun z => ?_, fun f hf hmf => ?_, fun f a1 a2 a3 => ?_, fun w m hw hm => tya w m hw hm, fun w m hw hm => ?_⟩, ?_⟩
            · exact PlQ_fr (W := fun y => y = 97) hW hS2 hb2 hk2 plM (fr_sA fr_rfl rfl) (fun y hy => by unfold sW; omega)
            · exact BsQ_0 v2 (mF 14 (by omega)) (mF 13 (by omega)) (mF 17 (by omega))
            · show M.1 80 12 = _; rw [mF 12 (by omega)]; exact v3.1
            · rw [gA_A, if_neg (by omega), mA _ _ (by omega)]; exact v3.2 f hf hmf
            · rw [gA_A, if_neg (by omega), mA _ _ (by omega)]; exact v4 z
            · rw [gA_A, if_neg (by omega), mA _ _ (by omega)]; exact v5 f hf hmf
            · rw [gA_A]
              by_cases y : sn D f = sn D e
              · have ef : f = e := by
                  rcases Nat.lt_or_ge f 8 with y5 | y5
                  · exact sn_in (a2 y5) hme y
                  · have := sn_lt hme he
                    rw [show f = 8 by omega] at y; omega
                rw [if_pos ⟨rfl, y⟩, ef]
              · rw [if_neg (fun w => y w.2), mA _ _ (by omega)]; exact v6 f a1 a2 (by omega)
            · rw [fqs w m]
              by_cases y : cmP B t (cnX B t h o X) e w m
              · have := room w m hw hm y
                rw [fll_i hW ho hm (f3 w m)] at this
                rw [bN_y y]; omega
              · rw [bN_n y]; exact v8 w m hw hm
            · rw [iz_t (by omega), iz_t (by omega)]; omega
      · rw [iz_t (by omega)]; omega
      · have f0 : fq B t (cnX B t h o X) D (sn D 8) = fun _ _ => 0 := by
          funext w m
          have : fq B t (cnX B t h o X) D (sn D 8) w m = sN (fun _ => 0) 8 := sN_eq 8 fun x hx => if_neg (fun y => by have := sn_lt y.1 hx; omega)
          rw [this]; rfl
        refine ⟨sn D 8, Nat.le_refl _, rfl, plH, BsQ_0 u2 (by rw [hF 14 (by omega), gF]) (by rw [hF 13 (by omega), gF]) (by rw [hF 17 (by omega), gF]), ⟨h12, fun f hf hmf => ?_⟩, fun z => ?_, fun f hf hmf => ?_, fun f a1 a2 a3 => ?_, ?_, fun w m hw hm => ?_⟩
        · rw [hA _ _ (by omega), gA _ _ (by omega)]; exact (u5 f (hall f hf hmf) hmf).1
        · rw [hA _ _ (by omega), gA _ _ (by omega)]; exact u4 z
        · rw [hA _ _ (by omega), gA _ _ (by omega)]; exact (u5 f (hall f hf hmf) hmf).2.1
        · have e8 := d_8 a1 a2 a3
          subst e8
          rw [hA _ _ (by omega), g97]
          have r8 : rst D chx 8 = 0 := by unfold rst; omega
          rw [r8]; rfl
        · rw [f0]; exact tyo
        · rw [f0]; exact gv_nn hW ho hm
    unfold bd_pl_seatAll_7
    rw [u1.1, u1.2.2.1.2.1.1, iz_le (by omega)]
    refine ⟨hb, fun q => K (fun d hd hm => by have := hD d hm; omega), fun q => ⟨fun q4 => K (fun d hd hm => by
      rw [u3, z_4, iz_le (by omega)] at q4
      rcases Nat.lt_or_ge d e with y | y
      · exact y
      · have a1 := sn_mo (D := D) y
        have a2 := sn_lt hm hd
        omega), fun q4 => ?_⟩⟩
    have he8 : e < 8 := by omega
    have hbt : (((iz (D : Int)) >>> (iz (e : Int) &&& 31)) &&& 1) = if D.testBit e then (1 : Int32) else 0 := bt_t D h256 e he8
    have nx : iz (e : Int) + 1 = iz ((e + 1 : Nat) : Int) := by rw [z_1, iz_add]; exact iz_inj (by omega)
    have ms : 8 - (iz ((e + 1 : Nat) : Int)).toInt.toNat < 8 - (iz (e : Int)).toInt.toNat := by rw [iz_t (by omega), iz_t (by omega)]; omega
    rw [hbt, nx]
    cases hme : D.testBit e with
    | false =>
      refine ⟨fun _ => ⟨⟨e + 1, by omega, rfl, u1, u2, ?_, u4, fun d hd hm => ?_⟩, ms⟩, fun z => absurd rfl z⟩
      · rw [u3, sn_s, hme]; rfl
      · by_cases z : d = e
        · subst z; rw [hme] at hm; cases hm
        · exact u5 d (by omega) hm
    | true =>
      refine ⟨fun z => absurd z (by decide), fun _ => ⟨in_nat (by omega) (by omega), ?_⟩⟩
      rw [ix_nat (by omega), u4 e, (h83 e he8 hme).1, show (1000000 : Int32) = iz 1000000 from rfl, iz_eq (by have := (h83 e he8 hme).2.2; omega)]
      refine ⟨fun z => ?_, fun z => ?_⟩
      · refine ⟨u1, u2, Or.inl ⟨rfl, fun c2 b1 b2 => ?_⟩⟩
        have := ((PL_iff hW hD2 ht b1).1 b2).1 e he8 hme
        rcases (h83 e he8 hme).2.1.2 with ⟨c', w1, w2, w3⟩ | ⟨_, w2⟩
        · have := cst_b hW (hD e hme) w1; omega
        · exact w2 (c2 e) (b1 e he8 hme) this
      · rw [u3, ix_nat (by omega)]
        have plG : PlQ (sA U 94 (sn D e) (iz (e : Int))) B t h o (cnX B t h o X) S b' ki := PlQ_fr (W := fun y => y = 94) hW hS2 hb2 hk2 u1 (fr_sA fr_rfl rfl) (fun y hy => by unfold sW; omega)
        have gA : ∀ y z, ¬ (y = 94 ∧ z = sn D e) → (sA U 94 (sn D e) (iz (e : Int))).2.2.1 y z = U.2.2.1 y z := fun y z hy => by rw [gA_A, if_neg hy]
        have g94 : (sA U 94 (sn D e) (iz (e : Int))).2.2.1 94 (sn D e) = iz e := by rw [gA_A, if_pos ⟨rfl, rfl⟩]
        have gF : (sA U 94 (sn D e) (iz (e : Int))).1 = U.1 := rfl
        generalize sA U 94 (sn D e) (iz (e : Int)) = G at *
        obtain ⟨okc, ec⟩ := s_can hW (hD e hme) (plG.2.2.2.2.1 e he8 (hDS e hme))
        rw [gF, u3, ix_nat (by omega), ec, n_0]
        have sl := sn_lt hme he8
        refine ⟨in_nat (by omega) (by omega), okc, in_nat (by omega) (by omega), ⟨e + 1, by omega, rfl, ?_, ?_, ?_, fun z' => ?_, fun d hd hm => ?_⟩, ms⟩
        · exact PlQ_fr (W := fun y => y = 100 ∨ y = 18012) hW hS2 hb2 hk2 plG (fr_sF (fr_sA fr_rfl (by omega)) (by omega)) (fun y hy => by unfold sW; omega)
        · refine BsQ_0 u2 ?_ ?_ ?_
          · rw [gF_F, if_neg (by omega)]; show G.1 80 14 = _; rw [gF]
          · rw [gF_F, if_neg (by omega)]; show G.1 80 13 = _; rw [gF]
          · rw [gF_F, if_neg (by omega)]; show G.1 80 17 = _; rw [gF]
        · rw [gF_F, if_pos ⟨rfl, rfl⟩]; show G.1 80 12 + 1 = _; rw [gF, u3, sn_s, if_pos hme, z_1, iz_add]; exact iz_inj (by omega)
        · rw [gF_A, gA_A, if_neg (by omega), gA _ _ (by omega)]; exact u4 z'
        · rw [gF_A, gA_A, gA_A]
          by_cases y : d = e
          · subst y
            rw [if_neg (by omega), if_pos ⟨rfl, rfl⟩]
            exact ⟨g94, rfl, z⟩
          · have a1 := sn_lt hm (show d < e by omega)
            rw [if_neg (by omega), if_neg (by omega), gA _ _ (by omega), gA _ _ (by omega)]
            exact u5 d (by omega) hm
  · show 8 - (0 : Int32).toInt.toNat < 1000
    omega
  · refine ⟨0, by omega, rfl, ?_, BsQ_0 hBs ?_ ?_ ?_, ?_, fun _ => rfl, fun d hd => by omega⟩
    · exact PlQ_fr (W := fun y => y = 18012) hW hS2 hb2 hk2 hP (fr_sF fr_rfl (by omega)) (fun y hy => by unfold sW; omega)
    · rw [gF_F, if_neg (by omega)]
    · rw [gF_F, if_neg (by omega)]
    · rw [gF_F, if_neg (by omega)]
    · rw [gF_F, if_pos ⟨rfl, rfl⟩]; rfl
