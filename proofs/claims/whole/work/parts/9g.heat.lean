/-! ===== the pairs heat and wanted ===== -/
def bk (w : Int) (lo : Nat → Int) : Nat → Int
  | 0 => lo 59
  | j + 1 => max (lo (59 - (j + 1))) (bk w lo j - w)
theorem bk_b {w : Int} {lo : Nat → Int} (hw : 0 ≤ w ∧ w ≤ 9) (h : ∀ m, m < 60 → 0 ≤ lo m ∧ lo m ≤ 9) : ∀ j, 0 ≤ bk w lo j ∧ bk w lo j ≤ 9 := by
  intro j
  induction j with
  | zero => exact h 59 (by omega)
  | succ j ih => have := h (59 - (j + 1)) (by omega); show 0 ≤ max _ _ ∧ max _ _ ≤ 9; omega
theorem tv_5 {B : Nat → Int} {D e m : Nat} {b l : Nat → Nat → Int} : tv B D b l e 5 m = tlo B D b l e m := rfl
theorem pv_s {g : Nat → Int} {m : Nat} : pv g (m + 1) = g m := rfl
def htV (B : Nat → Int) (D : Nat) (b l : Nat → Nat → Int) (m : Nat) : Int := hL (B 4) (fun x => bk (B 3) (tlo B D b l 8) (59 - x)) m
theorem s_settleO {T : St} {w c : Int} {lo : Nat → Int} (hw : 0 ≤ w ∧ w ≤ 9) (hc : 0 ≤ c ∧ c ≤ 9) (h : ∀ m, m < 60 → T.2.2.1 529 m = iz (lo m) ∧ 0 ≤ lo m ∧ lo m ≤ 9) : ok_ov_settle T (iz w) (iz c) ∧ (fun U : St => ∀ m, m < 60 → U.2.2.1 531 m = iz (hL c (fun x => bk w lo (59 - x)) m)) (x_ov_settle T (iz w) (iz c)) := by
  have bb := bk_b (lo := lo) hw (fun m hm => (h m hm).2)
  refine so_ov_settle (Q := fun U : St => ∀ m, m < 60 → U.2.2.1 531 m = iz (hL c (fun x => bk w lo (59 - x)) m)) _ _ ?_
  unfold wp_ov_settle
  refine wr_ov_settle_3 _ _ (fun v U => ∃ j : Nat, j ≤ 59 ∧ v = iz (58 - (j : Int)) ∧ ∀ m, m < 60 → U.2.2.1 529 m = iz (if 59 - j ≤ m then bk w lo (59 - m) else lo m)) (fun v U => (v.toInt + 1).toNat) ?_ _ _ _ (by show ((58 : Int32).toInt + 1).toNat < 1000; decide) ⟨0, by omega, rfl, fun m hm => ?_⟩
  · rintro _ U ⟨j, hj, rfl, u1⟩
    unfold bd_ov_settle_3
    rw [lt0 (by omega)]
    refine ⟨fun q => ?_, fun q => ?_⟩
    · have e : j = 59 := by omega
      subst e
      have u1' : ∀ m, m < 60 → U.2.2.1 529 m = iz (bk w lo (59 - m)) := fun m hm => by rw [u1 m hm, if_pos (by omega)]
      refine wr_ov_settle_43 _ _ (fun v3 v4 V => ∃ m : Nat, m ≤ 60 ∧ v4 = iz m ∧ v3 = iz (pv (hL c (fun x => bk w lo (59 - x))) m) ∧ (∀ x, x < 60 → V.2.2.1 529 x = iz (bk w lo (59 - x))) ∧ ∀ x, x < m → V.2.2.1 531 x = iz (hL c (fun x => bk w lo (59 - x)) x)) (fun v3 v4 V => 60 - v4.toInt.toNat) ?_ _ _ _ _ (by show 60 - (0 : Int32).toInt.toNat < 1000; omega) ⟨0, by omega, rfl, rfl, u1', fun x hx => absurd hx (Nat.not_lt_zero _)⟩
      rintro _ _ V ⟨m, hm, rfl, rfl, v1, v2⟩
      unfold bd_ov_settle_43
      rw [z_60, iz_le (by omega)]
      refine ⟨fun y x hx => v2 x (by omega), fun y => ?_⟩
      have hm60 : m < 60 := by omega
      have pb : 0 ≤ pv (hL c (fun x => bk w lo (59 - x))) m ∧ pv (hL c (fun x => bk w lo (59 - x))) m ≤ 9 := by
        cases m with
        | zero => exact ⟨Int.le_refl 0, (by decide : (0 : Int) ≤ 9)⟩
        | succ k => exact hL_b hc k (fun x _ => bb _)
      have b1 := bb (59 - m)
      have e1 : (if iz (bk w lo (59 - m)) < iz (pv (hL c (fun x => bk w lo (59 - x))) m) - iz c then iz (pv (hL c (fun x => bk w lo (59 - x))) m) - iz c else iz (bk w lo (59 - m)) : Int32) = iz (hL c (fun x => bk w lo (59 - x)) m) := by
        rw [iz_sub, hL_pv]
        by_cases z : bk w lo (59 - m) < pv (hL c (fun x => bk w lo (59 - x))) m - c
        · rw [if_pos ((iz_lt (by omega)).2 z)]; exact iz_inj (by show _ = max (bk w lo (59 - m)) _; omega)
        · rw [if_neg (fun x => z ((iz_lt (by omega)).1 x))]; exact iz_inj (by show _ = max (bk w lo (59 - m)) _; omega)
      have nx : iz (m : Int) + 1 = iz ((m + 1 : Nat) : Int) := by rw [z_1, iz_add]; exact iz_inj (by omega)
      rw [ix_nat (k := m) (by omega), v1 m hm60, e1, nx]
      refine ⟨in_nat (by omega) (by omega), jo ⟨⟨m + 1, by omega, rfl, rfl, fun x hx => ?_, fun x hx => ?_⟩, ?_⟩⟩
      · rw [gA_A, if_neg (by omega)]; exact v1 x hx
      · rw [gA_A]
        by_cases z : x = m
        · rw [if_pos ⟨rfl, z⟩, z]
        · rw [if_neg (by omega)]; exact v2 x (by omega)
      · rw [iz_t (by omega), iz_t (by omega)]; omega
    · obtain ⟨m, hm⟩ : ∃ m : Nat, (58 : Int) - j = m := ⟨58 - j, by omega⟩
      have e1 := u1 m (by omega)
      have e2 := u1 (m + 1) (by omega)
      rw [if_neg (by omega)] at e1
      rw [if_pos (by omega)] at e2
      have bj : bk w lo (j + 1) = max (lo (59 - (j + 1))) (bk w lo j - w) := rfl
      have b1 := bb j
      have l1 := (h m (by omega)).2
      have nx : iz (m : Int) + 1 = iz ((m + 1 : Nat) : Int) := by rw [z_1, iz_add]; exact iz_inj (by omega)
      rw [hm, nx, ix_nat (k := m) (by omega), ix_nat (k := m + 1) (by omega), e1, e2, iz_sub, show 59 - (m + 1) = j by omega]
      have em : (if iz (lo m) < iz (bk w lo j - w) then iz (bk w lo j - w) else iz (lo m) : Int32) = iz (bk w lo (j + 1)) := by
        rw [bj, show 59 - (j + 1) = m by omega]
        by_cases z : lo m < bk w lo j - w
        · rw [if_pos ((iz_lt (by omega)).2 z)]; exact iz_inj (by omega)
        · rw [if_neg (fun x => z ((iz_lt (by omega)).1 x))]; exact iz_inj (by omega)
      rw [em]
      refine ⟨in_nat (by omega) (by omega), in_nat (by omega) (by omega), jo ⟨⟨j + 1, by omega, ?_, fun x hx => ?_⟩, ?_⟩⟩
      · rw [show (-1 : Int32) = iz (-1) from rfl, iz_add]; exact iz_inj (by omega)
      · rw [gA_A]
        by_cases z : x = m
        · rw [if_pos ⟨rfl, z⟩, if_pos (by omega), show 59 - x = j + 1 by omega]
        · rw [if_neg (by omega), u1 x hx]
          by_cases z2 : 59 - j ≤ x
          · rw [if_pos z2, if_pos (by omega)]
          · rw [if_neg z2, if_neg (by omega)]
      · rw [show (-1 : Int32) = iz (-1) from rfl, iz_add, iz_t (by omega), iz_t (by omega)]; omega
  · rw [(h m hm).1]
    by_cases z : 59 - 0 ≤ m
    · rw [if_pos z, show m = 59 by omega]; rfl
    · rw [if_neg z]
theorem s_layPlan {T : St} {B : Nat → Int} {D : Nat} {b l : Nat → Nat → Int} (hM : MkX T B) (hW : WF B) (hD2 : D < 2 ^ (B 16).toNat) (hn : sn D 8 ≤ 4) (hR : RwM T B D b l) (hs : ∀ d, d < 8 → D.testBit d = true → sq B d (b d) (l d)) : ok_m_layPlan T ∧ (fun U : St => Fr (fun c => 578 ≤ c ∧ c < 585) T U ∧ Lv U 0 (tv B D b l 8)) (x_m_layPlan T) := by
  have h12 : ps B D 8 ≤ 12 := by have := ps_3 hW hD2 8; omega
  refine so_m_layPlan (Q := fun U : St => Fr (fun c => 578 ≤ c ∧ c < 585) T U ∧ Lv U 0 (tv B D b l 8)) ?_
  unfold wp_m_layPlan
  obtain ⟨oc, lc⟩ := s_clear T
  have fc : Fr _ T _ := fr_m_clearLevel oc
  refine ⟨oc, ?_⟩
  generalize x_m_clearLevel T = C at *
  have hMc : MkX C B := MkX_fr fc (by unfold W_m_clearLevel; omega) hM
  have hRc : RwM C B D b l := RwM_fr fc (fun c hc hw => by unfold W_m_clearLevel at hw; omega) hR
  exact lvl_p hMc hW hD2 h12 hRc hs lc (fun v w Z z1 z2 => ⟨fr_tr (fr_le fc (fun c hc => by unfold W_m_clearLevel at hc; omega)) z1 (fun c hc => hc), z2⟩)
def htC (B : Nat → Int) (D : Nat) (t m : Int) (c : Nat → Nat) (v : Int32) : Prop := v = iz (htV B D (fun d => bg B t d (c d)) (lgs B) m.toNat)
theorem lx_heat {T : St} {t m : Int} (hI : Inv T) (htr : -2147483648 ≤ t ∧ t < 2147483648) (hkr : -2147483648 ≤ m ∧ m < 2147483648) : ok_x_heat T (iz t) (iz m) ∧ GX T (0 ≤ m ∧ m < 60) t (htC (nB T) (nB T 202).toNat t m) (x_x_heat T (iz t) (iz m)) := by
  refine so_x_heat (Q := GX T (0 ≤ m ∧ m < 60) t (htC (nB T) (nB T 202).toNat t m)) _ _ ?_
  unfold wp_x_heat
  refine jo ?_
  try dsimp only
  obtain ⟨o0, r0, _⟩ := x_ref hI 0
  obtain ⟨o1, _, r1, r2⟩ := x_ref hI 1
  have no : ¬ ((1 ≤ t ∧ t ≤ 60) ∧ 0 ≤ m ∧ m < 60) → ∀ P : Prop, ok_x_refusal T 0 ∧ ((x_x_refusal T 0 = 0 → P) ∧ (¬ x_x_refusal T 0 = 0 → GX T (0 ≤ m ∧ m < 60) t (htC (nB T) (nB T 202).toNat t m) (x_x_refusal T 0, T))) := fun q P => ⟨o0, fun z => absurd z (by rw [r0 rfl]; decide), fun _ => by rw [r0 rfl]; exact ⟨GV_1 q, hI, rfl, rfl⟩⟩
  rw [x_time htr, x_min hkr]
  refine ⟨fun q => no (by omega) _, fun q => ⟨fun q2 => no (by omega) _, fun q2 => ⟨o1, fun z => ?_, fun z => ?_⟩⟩⟩
  · have h7 : ¬ T.1 571 7 = 0 := fun y => by rw [r1 (by decide) y] at z; exact absurd z (by decide)
    have hg : (1 ≤ t ∧ t ≤ 60) ∧ 0 ≤ m ∧ m < 60 := by omega
    obtain ⟨tt, rfl⟩ : ∃ n : Nat, t = n := ⟨t.toNat, by omega⟩
    obtain ⟨hW, hX, hK, hM, h46⟩ := I_there hI h7
    obtain ⟨D, d1, d2, d3, d4⟩ := WF_D hW
    have w0 := hW.1
    obtain ⟨ok, f1, f2, f3⟩ := s_fplan (t := tt) hI h7 (by omega)
    obtain ⟨i1, i2, i3⟩ := I_fplan (t := tt) hI h7 (by omega)
    refine ⟨ok, fun y => ⟨GV_3 hg h7 (fun _ => rfl) (fun c hc => ?_), i1, i2, i3⟩, fun y => ?_⟩
    · rw [(f3 c hc).1] at y; exact absurd y (by decide)
    cases hS : SK0 (nB T) tt with
    | none => exact absurd (f2 hS) y
    | some c =>
      obtain ⟨_, _, g2, g3, _⟩ := f3 c hS
      rw [d2] at g2 g3 ⊢
      have psq := pl_sq hW d3 d2 (by omega) hS
      have i7 : ¬ (x_x_findsPlan T (iz tt)).2.1 571 7 = 0 := by rw [i3]; exact h7
      obtain ⟨_, hX1, hK1, _, h461⟩ := I_there i1 i7
      rw [i2] at hX1 hK1
      generalize (x_x_findsPlan T (iz tt)).2 = S at *
      obtain ⟨hb, hb2⟩ := b_46 h461
      obtain ⟨k, rfl⟩ : ∃ i : Nat, m = i := ⟨m.toNat, by omega⟩
      obtain ⟨ow, wq⟩ := s_want (r := 557) (bk := S.2.1 0) (by decide) (by omega) hb hb2 (BkP_X hX1) hW d3 d4.2 (RwX_of g2 g3) psq
      have frw : Fr _ S _ := fr_ov_want _ _ ow
      refine ⟨ow, ?_⟩
      have e0 : (x_ov_want S (S.2.1 0) 557).2.1 0 = S.2.1 0 := q_R frw (by unfold W_ov_want; omega)
      have hP2 : BkP (x_ov_want S (S.2.1 0) 557) (S.2.1 0) (nB T) := BkP_fr (BkP_X hX1) (q_F frw (by unfold W_ov_want; omega)) (fun y z h1 h2 => q_A frw (by unfold W_ov_want; omega))
      rw [e0]
      generalize x_ov_want S (S.2.1 0) 557 = S2 at *
      rw [n_3, n_4, hP2.1 3 (by omega), hP2.1 4 (by omega)]
      have lvb : ∀ m, 0 ≤ tlo (nB T) D (fun d => bg (nB T) tt d (c d)) (lgs (nB T)) 8 m ∧ tlo (nB T) D (fun d => bg (nB T) tt d (c d)) (lgs (nB T)) 8 m ≤ 9 := fun m => by
        have := (lv_b (b := fun d => bg (nB T) tt d (c d)) (l := lgs (nB T)) (m := m) hW d3 (Nat.le_refl (ps (nB T) D 8))).2
        rw [lv_end hW d3 (by omega), lv_end hW d3 (by omega), tv_5] at this
        exact ⟨this.1, this.2.1⟩
      obtain ⟨os, sq'⟩ := s_settleO (T := S2) (w := nB T 3) (c := nB T 4) (lo := tlo (nB T) D (fun d => bg (nB T) tt d (c d)) (lgs (nB T)) 8) (by omega) (by omega) (fun m hm => ⟨(wq m hm).1, lvb m⟩)
      have frs : Fr _ S2 _ := fr_ov_settle _ _ os
      have frA := fr_ww frw frs
      have j1 : Inv (x_ov_settle S2 (iz (nB T 3)) (iz (nB T 4))) := Inv_irr frA (fun c hc => by unfold W_ov_want W_ov_settle at hc; unfold irr; omega) i1
      have j2 : nB (x_ov_settle S2 (iz (nB T 3)) (iz (nB T 4))) = nB T := by rw [nB_fr frA (by unfold W_ov_want W_ov_settle; omega)]; exact i2
      have j3 : (x_ov_settle S2 (iz (nB T 3)) (iz (nB T 4))).1 571 7 = T.1 571 7 := by rw [q_F frA (by unfold W_ov_want W_ov_settle; omega)]; exact i3
      refine ⟨hb, os, jo ?_⟩
      try dsimp only
      generalize x_ov_settle S2 (iz (nB T 3)) (iz (nB T 4)) = S3 at *
      refine ⟨in_nat (by omega) (by omega), GV_3 hg h7 (fun hn => by rw [hS] at hn; cases hn) (fun c' hc => ?_), j1, j2, j3⟩
      rw [hS] at hc; injection hc with hc; subst hc
      have hk := sq' k (by omega)
      unfold htC htV
      dsimp only
      rw [Int.toNat_natCast, ix_nat (k := k) (by omega)]
      exact hk
  · have h7 : T.1 571 7 = 0 := Classical.byContradiction fun y => z (r2 (by decide) y)
    rw [r1 (by decide) h7]
    exact ⟨GV_2 (by omega) h7, hI, rfl, rfl⟩
theorem lm_heat {T U : St} {t m : Int} (x2 : Inv U) (x3 : nB U = nB T) (x4 : U.1 571 7 = T.1 571 7) (htr : -2147483648 ≤ t ∧ t < 2147483648) (hkr : -2147483648 ≤ m ∧ m < 2147483648) : ok_m_heat U (iz t) (iz m) ∧ (fun r : Int32 × St => GV T (0 ≤ m ∧ m < 60) t (htC (nB T) (nB T 202).toNat t m) r.1 ∧ Inv r.2) (x_m_heat U (iz t) (iz m)) := by
  refine so_m_heat (Q := fun r : Int32 × St => GV T (0 ≤ m ∧ m < 60) t (htC (nB T) (nB T 202).toNat t m) r.1 ∧ Inv r.2) _ _ ?_
  have tt := Inv_t 0 x2
  have e7' : (sF U 571 0 0).1 571 7 = T.1 571 7 := by rw [gF_F, if_neg (by omega)]; exact x4
  have eB' : nB (sF U 571 0 0) = nB T := x3
  unfold wp_m_heat
  rw [m_by htr, m_min hkr, e7']
  generalize sF U 571 0 0 = V at *
  refine ⟨fun c1 => ⟨GV_1 (by omega), tt⟩, fun c1 => ⟨fun c2 => ⟨GV_1 (by omega), tt⟩, fun c2 => ⟨fun c7 => ⟨GV_2 (by omega) c7, tt⟩, fun c7 => ?_⟩⟩⟩
  have hg : (1 ≤ t ∧ t ≤ 60) ∧ 0 ≤ m ∧ m < 60 := by omega
  obtain ⟨tn, rfl⟩ : ∃ n : Nat, t = n := ⟨t.toNat, by omega⟩
  obtain ⟨ok, ⟨q1, q2, q3, q4, q5⟩, i1, i2, i3⟩ := I_know (t := tn) tt (by rw [e7']; exact c7) (by omega)
  obtain ⟨hW, _, _, _, _⟩ := I_there tt (by rw [e7']; exact c7)
  rw [eB'] at q1 q4 q5 hW
  obtain ⟨D, d1, d2, d3, d4⟩ := WF_D hW
  have w0 := hW.1
  refine ⟨ok, fun y => ⟨GV_3 hg c7 (fun _ => rfl) (fun c hc => ?_), i1⟩, fun y => ?_⟩
  · rw [(q5 c hc).1] at y; exact absurd y (by decide)
  cases hS : SK0 (nB T) tn with
  | none => exact absurd (q4 hS) y
  | some c =>
    obtain ⟨_, _, g1, g3⟩ := q5 c hS
    rw [d2] at g1 g3 ⊢
    have psq := pl_sq hW d3 d2 (by omega) hS
    have rm : RwM (x_m_know V (iz tn)).2 (nB T) D (fun d => bg (nB T) tn d (c d)) (lgs (nB T)) := RwM_kn g1 (fun d hd hm k hk => (g3 d hd hm).2 k hk)
    generalize (x_m_know V (iz tn)).2 = S at *
    obtain ⟨k, rfl⟩ : ∃ i : Nat, m = i := ⟨m.toNat, by omega⟩
    obtain ⟨ol', fl, lv⟩ := s_layPlan q1 hW d3 d4.2 rm psq
    refine ⟨ol', jo ?_⟩
    generalize x_m_layPlan S = L at *
    have l583 : ∀ x, x < 60 → L.2.2.1 583 x = iz (tlo (nB T) D (fun d => bg (nB T) tn d (c d)) (lgs (nB T)) 8 x) := fun x hx => by
      have := (lv x hx).2.2.2.2.2.1
      rw [show 60 * 0 + x = x by omega, tv_5] at this
      exact this
    have lvb : ∀ m, 0 ≤ tlo (nB T) D (fun d => bg (nB T) tn d (c d)) (lgs (nB T)) 8 m ∧ tlo (nB T) D (fun d => bg (nB T) tn d (c d)) (lgs (nB T)) 8 m ≤ 9 := fun m => by
      have := (lv_b (b := fun d => bg (nB T) tn d (c d)) (l := lgs (nB T)) (m := m) hW d3 (Nat.le_refl (ps (nB T) D 8))).2
      rw [lv_end hW d3 (by omega), lv_end hW d3 (by omega), tv_5] at this
      exact ⟨this.1, this.2.1⟩
    have hv : ∀ v, v = iz (hL (nB T 4) (fun x => bk (nB T 3) (tlo (nB T) D (fun d => bg (nB T) tn d (c d)) (lgs (nB T)) 8) (59 - x)) k) → htC (nB T) D tn k c v := fun v e => by
      rw [e]; unfold htC htV; rw [Int.toNat_natCast]
    generalize tlo (nB T) D (fun d => bg (nB T) tn d (c d)) (lgs (nB T)) 8 = lo at *
    have bb := bk_b (w := nB T 3) (lo := lo) (by omega) (fun m _ => lvb m)
    have n60 : (60 : Int32).toNatClampNeg = 60 := rfl
    rw [n60]
    have fr0 : Fr (fun c => c = 597 ∨ c = 598) L (sA (sA L 597 60 0) 598 60 9) := fr_sA (fr_sA fr_rfl (by omega)) (by omega)
    have e60 : (sA (sA L 597 60 0) 598 60 9).2.2.1 597 60 = 0 := by rw [gA_A, if_neg (by omega), gA_A, if_pos ⟨rfl, rfl⟩]
    generalize sA (sA L 597 60 0) 598 60 9 = S0 at *
    refine wr_m_heat_67 _ _ (fun v W => ∃ j : Nat, j ≤ 60 ∧ v = iz (59 - (j : Int)) ∧ Fr (fun c => c = 597 ∨ c = 598) L W ∧ W.2.2.1 597 60 = 0 ∧ ∀ x, 60 - j ≤ x → x < 60 → W.2.2.1 597 x = iz (bk (nB T 3) lo (59 - x))) (fun v W => (v.toInt + 1).toNat) ?_ _ _ _ (by show ((59 : Int32).toInt + 1).toNat < 1000; decide) ⟨0, by omega, rfl, fr0, e60, fun x h1 h2 => by omega⟩
    rintro _ W ⟨j, hj, rfl, u1, u2, u3⟩
    have hMW : MkX W (nB T) := MkX_fr u1 (by omega) (MkX_fr fl (by omega) q1)
    unfold bd_m_heat_67
    rw [lt0 (by omega)]
    refine ⟨fun q => ?_, fun q => ?_⟩
    · have ej : j = 60 := by omega
      subst ej
      refine wr_m_heat_172 _ _ (fun v3 v4 Z => W = Z ∧ ∃ x : Nat, x ≤ k + 1 ∧ v4 = iz x ∧ v3 = iz (pv (hL (nB T 4) (fun x => bk (nB T 3) lo (59 - x))) x)) (fun v3 v4 Z => 61 - v4.toInt.toNat) ?_ _ _ _ _ (by show 61 - (0 : Int32).toInt.toNat < 1000; omega) ⟨rfl, 0, by omega, rfl, rfl⟩
      rintro _ _ _ ⟨rfl, x, hx, rfl, rfl⟩
      have pb : 0 ≤ pv (hL (nB T 4) (fun x => bk (nB T 3) lo (59 - x))) x ∧ pv (hL (nB T 4) (fun x => bk (nB T 3) lo (59 - x))) x ≤ 9 := by
        cases x with
        | zero => exact ⟨Int.le_refl 0, (by decide : (0 : Int) ≤ 9)⟩
        | succ y => exact hL_b (by omega) y (fun z _ => bb _)
      unfold bd_m_heat_172
      rw [iz_lt (by omega)]
      refine ⟨fun z => ⟨GV_3 hg c7 (fun hn => by rw [hS] at hn; cases hn) (fun c' hc => ?_), Inv_irr (fr_ww fl u1) (fun c hc => by unfold irr; omega) i1⟩, fun z => ?_⟩
      · rw [hS] at hc; injection hc with hc; subst hc
        refine hv _ ?_
        dsimp only
        rw [show x = k + 1 by omega, pv_s]
      · have hx60 : x < 60 := by omega
        have ux := u3 x (by omega) hx60
        have bx := bb (59 - x)
        have nx : iz (x : Int) + 1 = iz ((x + 1 : Nat) : Int) := by rw [z_1, iz_add]; exact iz_inj (by omega)
        have ms : 61 - (iz ((x + 1 : Nat) : Int)).toInt.toNat < 61 - (iz (x : Int)).toInt.toNat := by rw [iz_t (by omega), iz_t (by omega)]; omega
        have pe : hL (nB T 4) (fun x => bk (nB T 3) lo (59 - x)) x = max (bk (nB T 3) lo (59 - x)) (pv (hL (nB T 4) (fun x => bk (nB T 3) lo (59 - x))) x - nB T 4) := hL_pv x
        rw [n_4, hMW 4 (by omega), ix_nat (k := x) (by omega), ux, nx, iz_sub]
        refine jo ⟨in_nat (by omega) (by omega), ?_⟩
        rw [iz_le (by omega)]
        refine ⟨fun z2 => jo ⟨⟨rfl, x + 1, by omega, rfl, ?_⟩, ms⟩, fun z2 => ⟨⟨rfl, x + 1, by omega, rfl, ?_⟩, ms⟩⟩
        · refine iz_inj ?_
          show _ = hL (nB T 4) (fun x => bk (nB T 3) lo (59 - x)) x
          rw [pe]; omega
        · refine iz_inj ?_
          show _ = hL (nB T 4) (fun x => bk (nB T 3) lo (59 - x)) x
          rw [pe]; omega
    · obtain ⟨x, hx⟩ : ∃ x : Nat, (59 : Int) - j = x := ⟨59 - j, by omega⟩
      have lx := lvb x
      have u583 : W.2.2.1 583 x = iz (lo x) := by rw [q_A u1 (by omega)]; exact l583 x (by omega)
      have nx : iz (x : Int) + 1 = iz ((x + 1 : Nat) : Int) := by rw [z_1, iz_add]; exact iz_inj (by omega)
      have prev : ∃ a : Int, W.2.2.1 597 (x + 1) = iz a ∧ 0 ≤ a ∧ a ≤ 9 ∧ max (lo x) (a - nB T 3) = bk (nB T 3) lo (59 - x) := by
        rcases Nat.eq_zero_or_pos j with y | y
        · refine ⟨0, ?_, by omega, by omega, ?_⟩
          · rw [show x + 1 = 60 by omega]; exact u2
          · rw [show 59 - x = 0 by omega]
            show _ = lo 59
            rw [show x = 59 by omega] at lx ⊢
            omega
        · have b1 := bb (59 - (x + 1))
          refine ⟨bk (nB T 3) lo (59 - (x + 1)), u3 (x + 1) (by omega) (by omega), b1.1, b1.2, ?_⟩
          rw [show 59 - x = (59 - (x + 1)) + 1 by omega]
          show _ = max (lo (59 - (59 - (x + 1) + 1))) _
          rw [show 59 - (59 - (x + 1) + 1) = x by omega]
      obtain ⟨a, pa, a0, a9, pm⟩ := prev
      have mn : iz (59 - (j : Int)) + (-1) = iz (59 - ((j + 1 : Nat) : Int)) := by rw [show (-1 : Int32) = iz (-1) from rfl, iz_add]; exact iz_inj (by omega)
      have msx : (iz (59 - ((j + 1 : Nat) : Int))).toInt.toNat + 0 = (iz (59 - ((j + 1 : Nat) : Int))).toInt.toNat := rfl
      have ms : ((iz (59 - ((j + 1 : Nat) : Int))).toInt + 1).toNat < ((iz (59 - (j : Int))).toInt + 1).toNat := by rw [iz_t (by omega), iz_t (by omega)]; omega
      rw [mn]
      rw [hx] at ms ⊢
      rw [nx, n_3, n_4, hMW 3 (by omega), ix_nat (k := x + 1) (by omega), ix_nat (k := x) (by omega), pa, u583, iz_sub]
      have step : ∀ (y z : Int32), y = iz (bk (nB T 3) lo (59 - x)) → (∃ j' : Nat, j' ≤ 60 ∧ iz (59 - ((j + 1 : Nat) : Int)) = iz (59 - (j' : Int)) ∧ Fr (fun c => c = 597 ∨ c = 598) L (sA (sA W 597 x y) 598 x z) ∧ (sA (sA W 597 x y) 598 x z).2.2.1 597 60 = 0 ∧ ∀ x', 60 - j' ≤ x' → x' < 60 → (sA (sA W 597 x y) 598 x z).2.2.1 597 x' = iz (bk (nB T 3) lo (59 - x'))) ∧ ((iz (59 - ((j + 1 : Nat) : Int))).toInt + 1).toNat < ((iz (x : Int)).toInt + 1).toNat := by
        intro y z hy
        refine ⟨⟨j + 1, by omega, rfl, fr_sA (fr_sA u1 (by omega)) (by omega), ?_, fun x' h1 h2 => ?_⟩, ms⟩
        · rw [gA_A, if_neg (by omega), gA_A, if_neg (by omega)]; exact u2
        · rw [gA_A, if_neg (by omega), gA_A]
          by_cases e : x' = x
          · rw [if_pos ⟨rfl, e⟩, hy, e]
          · rw [if_neg (by omega)]; exact u3 x' (by omega) h2
      refine ⟨in_nat (by omega) (by omega), jo (jo ⟨in_nat (by omega) (by omega), jo ?_⟩)⟩
      try dsimp only
      rw [iz_le (by omega)]
      refine ⟨fun z => ⟨in_nat (by omega) (by omega), fun z2 => jo (step _ _ (iz_inj (by omega))), fun z2 => step _ _ (iz_inj (by omega))⟩, fun z => ⟨in_nat (by omega) (by omega), fun z2 => jo (step _ _ (iz_inj (by omega))), fun z2 => step _ _ (iz_inj (by omega))⟩⟩
theorem i_heat : P_heat Inv := by
  intro T hI p0 p1
  obtain ⟨t, htr, rfl⟩ := iz_ex p0
  obtain ⟨k, hkr, rfl⟩ := iz_ex p1
  have xs := lx_heat hI htr hkr
  have ms := lm_heat xs.2.2.1 xs.2.2.2.1 xs.2.2.2.2 htr hkr
  have x1 : GV T (0 ≤ k ∧ k < 60) t (htC (nB T) (nB T 202).toNat t k) (x_x_heat T (iz t) (iz k)).1 := xs.2.1
  have m1 : GV T (0 ≤ k ∧ k < 60) t (htC (nB T) (nB T 202).toNat t k) (x_m_heat (x_x_heat T (iz t) (iz k)).2 (iz t) (iz k)).1 := ms.2.1
  have m2 : Inv (x_m_heat (x_x_heat T (iz t) (iz k)).2 (iz t) (iz k)).2 := ms.2.2
  have hu : ∀ v w, GV T (0 ≤ k ∧ k < 60) t (htC (nB T) (nB T 202).toNat t k) v → GV T (0 ≤ k ∧ k < 60) t (htC (nB T) (nB T 202).toNat t k) w → v = w := fun v w a b => GV_u (g := 0 ≤ k ∧ k < 60) (C := htC (nB T) (nB T 202).toNat t k) (fun hg _ c v w h1 h2 => by unfold htC at h1 h2; rw [h1, h2]) a b
  exact ⟨xs.1, ms.1, hu _ _ x1 m1, m2⟩
