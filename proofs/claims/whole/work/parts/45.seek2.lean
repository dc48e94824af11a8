/-! ===== the reference's search ===== -/
theorem sn_g {D d : Nat} : ∀ k, (∀ x, d ≤ x → x < d + k → D.testBit x = false) → sn D (d + k) = sn D d := by
  intro k
  induction k with
  | zero => intro _; rfl
  | succ k ih =>
    intro h
    have hk := h (d + k) (by omega) (by omega)
    rw [← Nat.add_assoc, sn_s, hk, ih fun x h1 h2 => h x h1 (by omega)]
    rfl
theorem mem_lt {B : Nat → Int} {D : Nat} (hW : WF B) (hD2 : D < 2 ^ (B 16).toNat) : ∀ d, D.testBit d = true → (d : Int) < B 16 := by
  intro d hm
  rcases Nat.lt_or_ge d (B 16).toNat with g | g
  · omega
  · rw [tb_hi hD2 g] at hm; cases hm
theorem D_256 {B : Nat → Int} {D : Nat} (hW : WF B) (hD2 : D < 2 ^ (B 16).toNat) : D < 256 := by
  have h2 : 2 ^ (B 16).toNat ≤ 2 ^ 8 := Nat.pow_le_pow_right (by decide) (by have := hW.2.2.1; omega)
  have : (2 : Nat) ^ 8 = 256 := rfl
  omega
theorem SkF01 {T : St} {B : Nat → Int} {D : Nat} {t : Int} {b : Option (Nat → Nat)} {v : Int32} (h : SkF T B D t b v) : v = 0 ∨ v = 1 := by
  rcases h with ⟨_, g⟩ | ⟨_, _, g, _⟩
  · exact Or.inl g
  · exact Or.inr g
theorem s_seek {T : St} {B : Nat → Int} {D : Nat} {t h o μ : Int} {X : Nat → Nat → Prop} {any ne : Bool} (hM : MkX T B) (hW : WF B) (hD2 : D < 2 ^ (B 16).toNat) (hn : 1 ≤ sn D 8 ∧ sn D 8 ≤ 4) (ht : 1 ≤ t ∧ t ≤ 60) (hh : 0 ≤ h ∧ h ≤ 9) (ho : 0 ≤ o ∧ o ≤ 60) (hμ : 0 ≤ μ ∧ μ ≤ 60) (hm : T.1 571 32 = iz μ)
    (hX : ∀ d c, D.testBit d = true → c < chn B d → 0 ≤ bg B t d c 0 → (X d c ↔ (ne = true → cE B d c = 0) ∧ ∀ k, k < nO B d → gk μ (fun k => (T.2.2.1 591 (3 * sn D d + k)).toInt) (bg B t d c) k)) :
    ok_m_seek T (iz D) (iz t) (iz h) (iz o) (if ne then 1 else 0) (if any then 1 else 0) ∧ SkF (x_m_seek T (iz D) (iz t) (iz h) (iz o) (if ne then 1 else 0) (if any then 1 else 0)).2 B D t (SK B t h o X D any) (x_m_seek T (iz D) (iz t) (iz h) (iz o) (if ne then 1 else 0) (if any then 1 else 0)).1 := by
  have hD := mem_lt hW hD2
  have h256 := D_256 hW hD2
  have h8 := hW.2.2.1
  refine so_m_seek (Q := fun r => SkF r.2 B D t (SK B t h o X D any) r.1) _ _ _ _ _ _ ?_
  unfold wp_m_seek
  refine wr_m_seek_6 _ _ _ _ _ _ (fun v7 v8 U => ∃ e : Nat, (e : Int) ≤ B 16 ∧ v7 = iz (sn D e) ∧ v8 = iz e ∧ U.1 = T.1 ∧ (∀ x j, x ≠ 585 → U.2.2.1 x j = T.2.2.1 x j) ∧ ∀ d, d < e → D.testBit d = true → U.2.2.1 585 (sn D d) = iz d) (fun v7 v8 U => 8 - v8.toInt.toNat) ?_ _ _ _ _ ?_ ?_
  · rintro _ _ U ⟨e, h1, rfl, rfl, h2, h3, h4⟩
    have r16 : U.2.2.1 575 16 = iz (B 16) := by rw [h3 575 16 (by omega)]; exact hM 16 (by omega)
    have sle := sn_mo (D := D) (d := e) (e := 8) (by omega)
    unfold bd_m_seek_6
    rw [n_16, r16, iz_le (by omega)]
    refine ⟨fun q => ?_, fun q => ?_⟩
    · have ee : e = (B 16).toNat := by omega
      have s8 : sn D e = sn D 8 := by
        have := sn_g (D := D) (d := e) (8 - e) (fun x y1 y2 => tb_hi hD2 (by omega))
        rw [show e + (8 - e) = 8 by omega] at this
        exact this.symm
      obtain ⟨oc, lc⟩ := s_clear U
      have frc : Fr _ U _ := fr_m_clearLevel oc
      refine ⟨oc, jo ?_⟩
      try dsimp only
      rw [n_0, s8]
      have GA : ∀ x j, (x < 578 ∨ 588 ≤ x ∨ x = 585) → (sA (sA (x_m_clearLevel U) 587 0 0) 586 0 (-1)).2.2.1 x j = U.2.2.1 x j := fun x j hx => by
        rw [gA_A, if_neg (by omega), gA_A, if_neg (by omega)]
        exact q_A frc (by unfold W_m_clearLevel; omega)
      have GF : (sA (sA (x_m_clearLevel U) 587 0 0) 586 0 (-1)).1 571 32 = U.1 571 32 := by
        rw [gA_F, gA_F]
        exact q_F frc (by unfold W_m_clearLevel; omega)
      have G6 : (sA (sA (x_m_clearLevel U) 587 0 0) 586 0 (-1)).2.2.1 586 0 = -1 := by rw [gA_A, if_pos ⟨rfl, rfl⟩]
      have G7 : (sA (sA (x_m_clearLevel U) 587 0 0) 586 0 (-1)).2.2.1 587 0 = 0 := by rw [gA_A, if_neg (by omega), gA_A, if_pos ⟨rfl, rfl⟩]
      have GL : Lv (sA (sA (x_m_clearLevel U) 587 0 0) 586 0 (-1)) 0 lv0 := Lv_eq (fun x j a1 a2 _ _ => by rw [gA_A, if_neg (by omega), gA_A, if_neg (by omega)]) lc
      generalize sA (sA (x_m_clearLevel U) 587 0 0) 586 0 (-1) = G at *
      obtain ⟨d0, y1, y2, y3⟩ := sn_ex (D := D) (a := 0) 8 (by omega)
      have gap := sn_gap (D := D) (d := 0) (e := d0) (by rw [y3]; rfl)
      refine wr_m_seek_70 _ _ _ _ _ _ _ (SkI B D t h o μ (fun d k => (T.2.2.1 591 (3 * sn D d + k)).toInt) X any) (fun v8 v9 V => msr v9.toInt (fun l => (V.2.2.1 586 l).toInt)) (b_seek hW hD hD2 hn.2 ht hh ho hμ hX (fun v8 v9 V hv => ⟨SkF01 hv, hv⟩)) _ _ _ _ ?_ ?_
      · show msr (0 : Int32).toInt (fun l => (G.2.2.1 586 l).toInt) < 1000000
        unfold msr
        simp only [G6, i_0]
        rw [i_m1, if_neg (by omega), if_neg (by omega), if_neg (by omega), if_neg (by omega)]
        decide
      · refine ⟨none, ⟨fun j hj => ?_, ?_, fun d hd hmd => ?_, fun d hd hmd k hk => ⟨?_, i_rg _⟩⟩, Or.inl ⟨rfl, rfl⟩, Or.inr ⟨d0, 0, fun _ => 0, y1, y2, by rw [y3]; rfl, by omega, by rw [y3, G6]; rfl, ⟨fun x hx hmx => ?_, fun x hx hmx => ?_⟩, R_start y1 y2 y3⟩⟩
        · rw [GA _ _ (by omega), h3 _ _ (by omega)]; exact hM j hj
        · rw [GF, h2]; exact hm
        · rw [GA _ _ (by omega)]; exact h4 d (by have := hD d hmd; omega) hmd
        · rw [GA _ _ (by omega), h3 _ _ (by omega)]; exact (iz_self _).symm
        · rw [gap x (by omega) hx] at hmx; cases hmx
        · have ex : x = d0 := by
            rcases Nat.lt_or_ge x d0 with y | y
            · rw [gap x (by omega) y] at hmx; cases hmx
            · omega
          subst ex
          have e1 := csm_sk (B := B) (D := D) (e := 0) (k := x) (c := fun _ => 0) (fun z w1 w2 => gap z w1 (by omega))
          have e2 := tv_g (B := B) (D := D) (d := 0) (b := fun x => bg B t x 0) (l := lgs B) x (fun z w1 w2 => gap z w1 (by omega))
          rw [Nat.zero_add] at e1 e2
          rw [y3, e1, e2, G7]
          exact ⟨rfl, Lv_cg (fun w m hw _ => tv_0 hw) GL⟩
    · have he : e < 8 := by omega
      have hb : (((iz (D : Int)) >>> (iz (e : Int) &&& 31)) &&& 1) = if D.testBit e then (1 : Int32) else 0 := bt_t D h256 e he
      rw [hb]
      have si : (iz (sn D e : Int)).toNatClampNeg = sn D e := by rw [iz_n (by omega), Int.toNat_natCast]
      refine ⟨fun z => ?_, fun z => ?_⟩
      · have hme : D.testBit e = true := by
          cases q2 : D.testBit e with
          | true => rfl
          | false => rw [q2] at z; exact absurd z (by decide)
        have sl := sn_lt hme he
        rw [si]
        refine ⟨(iz_in (by omega)).2 (by omega), ⟨e + 1, by omega, ?_, ?_, h2, fun x j hx => ?_, fun d hd hmd => ?_⟩, ?_⟩
        · rw [z_1, iz_add, sn_s, if_pos hme]; exact iz_inj (by omega)
        · rw [z_1, iz_add]; exact iz_inj (by omega)
        · rw [gA_A, if_neg (fun w => hx w.1)]; exact h3 x j hx
        · rw [gA_A]
          by_cases q2 : d = e
          · subst q2; rw [if_pos ⟨rfl, rfl⟩]
          · have := sn_lt hmd (show d < e by omega)
            rw [if_neg (by omega)]; exact h4 d (by omega) hmd
        · rw [z_1, iz_add, iz_t (by omega), iz_t (by omega)]; omega
      · have hme : D.testBit e = false := by
          cases q2 : D.testBit e with
          | false => rfl
          | true => rw [q2] at z; exact absurd rfl z
        refine ⟨⟨e + 1, by omega, ?_, ?_, h2, h3, fun d hd hmd => ?_⟩, ?_⟩
        · rw [sn_s, hme]; rfl
        · rw [z_1, iz_add]; exact iz_inj (by omega)
        · by_cases q2 : d = e
          · subst q2; rw [hme] at hmd; cases hmd
          · exact h4 d (by omega) hmd
        · rw [z_1, iz_add, iz_t (by omega), iz_t (by omega)]; omega
  · show 8 - (0 : Int32).toInt.toNat < 1000
    omega
  · exact ⟨0, by omega, rfl, rfl, rfl, fun _ _ _ => rfl, fun d hd => by omega⟩
