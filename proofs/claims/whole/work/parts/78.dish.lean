/-! ===== the pairs kind and dish ===== -/
theorem I_has {T : St} (hI : Inv T) (h : 0 < nB T 17 ∨ 0 < nB T 16) : WF (nB T) ∧ BkX T (T.2.1 0) (nB T) := by
  rcases hI.2.2.2.1.2.2 with ⟨g1, g2, _⟩ | ⟨_, g2, g3, _⟩
  · have e : ∀ j, j < 204 → nB T j = 0 := fun j hj => by
      unfold nB
      rw [g2 j hj]; rfl
    rw [e 17 (by omega), e 16 (by omega)] at h
    omega
  · exact ⟨g2, g3⟩
theorem m_isd {T : St} {B : Nat → Int} {a : Int} (hM : MkX T B) (ha : -2147483648 ≤ a ∧ a < 2147483648) (hn : 0 ≤ B 16 ∧ B 16 ≤ 8) : (x_m_isDish T (iz a) = 0) ↔ ¬ (0 ≤ a ∧ a < B 16) := by
  unfold x_m_isDish
  rw [n_16, hM 16 (by omega), z_1, iz_sub, lz_w ha, lz_w (by omega), y_0, m_in (by omega)]
  omega
theorem lm_dish {T : St} {a c : Int} {v : Int32} (hI : Inv T) (ha : -2147483648 ≤ a ∧ a < 2147483648) (hc : -2147483648 ≤ c ∧ c < 2147483648) (h1 : ¬ ((0 ≤ a ∧ a < nB T 16) ∧ 0 ≤ c ∧ c ≤ 5) → v = -1000001) (h2 : (0 ≤ a ∧ a < nB T 16) ∧ 0 ≤ c ∧ c ≤ 4 → v = iz (nB T (18 + 5 * a.toNat + c.toNat))) (h3 : (0 ≤ a ∧ a < nB T 16) ∧ c = 5 → v = iz (chn (nB T) a.toNat)) : wp_m_dish T (iz a) (iz c) (fun q => v = q.1 ∧ Inv q.2) := by
  have tt := Inv_t 0 hI
  obtain ⟨_, hM, _, ⟨_, hn, _⟩, _⟩ := I_cnt hI
  have hM2 : MkX (sF T 571 0 0) (nB T) := hM
  have e5 : (iz c = 5) ↔ c = 5 := by rw [z_5, iz_eq (by omega)]
  unfold wp_m_dish
  rw [m_isd hM2 ha hn, lz_w hc, y_0, y_5, m_in (by omega), e5]
  refine ⟨fun q => ⟨h1 (by omega), tt⟩, fun q => ⟨fun q2 => ⟨h1 (by omega), tt⟩, fun q2 => ⟨fun q3 => ?_, fun q3 => ?_⟩⟩⟩
  · obtain ⟨n, rfl⟩ : ∃ n : Nat, a = n := ⟨a.toNat, by omega⟩
    obtain ⟨hW, _⟩ := I_has hI (by omega)
    obtain ⟨ok, e⟩ := s_choices (T := sF T 571 0 0) (d := n) hM2 hW (by omega)
    rw [e]
    exact ⟨ok, h3 ⟨by omega, q3⟩, tt⟩
  · obtain ⟨k, rfl⟩ : ∃ k : Nat, c = k := ⟨c.toNat, by omega⟩
    rw [md hM2 (by omega) (by omega)]
    exact ⟨okd (by omega) (by omega), h2 (by omega), tt⟩
theorem i_dish : P_dish Inv := pw_dish fun T hI p0 p1 => by
  obtain ⟨a, ha, rfl⟩ := iz_ex p0
  obtain ⟨c, hc, rfl⟩ := iz_ex p1
  obtain ⟨h46, hM, _, ⟨hc4, hn, hf⟩, _⟩ := I_cnt hI
  obtain ⟨hb, hb2⟩ := b_46 h46
  have e0 : (iz c = 0) ↔ c = 0 := eq0 (by omega)
  have e1 : (iz c = 1) ↔ c = 1 := by rw [z_1, iz_eq (by omega)]
  have e2 : (iz c = 2) ↔ c = 2 := by rw [z_2, iz_eq (by omega)]
  have e3 : (iz c = 3) ↔ c = 3 := by rw [z_3, iz_eq (by omega)]
  have e4 : (iz c = 4) ↔ c = 4 := by rw [z_4, iz_eq (by omega)]
  have e5 : (iz c = 5) ↔ c = 5 := by rw [z_5, iz_eq (by omega)]
  unfold wp_x_dish
  rw [hc4, lt0 (by omega), iz_lt (by omega), e0, e1, e2, e3, e4, e5]
  refine ⟨fun q => lm_dish hI ha hc (fun _ => rfl) (fun z => by omega) (fun z => by omega), fun q => ⟨hb, fun q2 => ?_, fun q2 => lm_dish hI ha hc (fun _ => rfl) (fun z => by omega) (fun z => by omega)⟩⟩
  have qa : 0 ≤ a ∧ a < nB T 16 := by omega
  obtain ⟨hW, hX⟩ := I_has hI (by omega)
  obtain ⟨n, rfl⟩ : ∃ n : Nat, a = n := ⟨a.toNat, by omega⟩
  obtain ⟨f0, f1, f2, f3, f4⟩ := hf n qa.2
  have vi : vp_in (iz (n : Int)) 8 := in_nat (by omega) (by omega)
  obtain ⟨k0, k1⟩ := s_waitB (d := n) (k := 0) hb (BkP_X hX) hW qa.2 (by omega)
  obtain ⟨l0, l1⟩ := s_waitB (d := n) (k := 1) hb (BkP_X hX) hW qa.2 (by omega)
  have cb := (ch_b hW qa.2).2.2
  have kk0 : ok_bk_waitBehind T (T.2.1 0) (iz n) 0 := k0
  have ll0 : ok_bk_waitBehind T (T.2.1 0) (iz n) 1 := l0
  have kk1 : x_bk_waitBehind T (T.2.1 0) (iz n) 0 = iz (wts (nB T) n 0 - 1) := k1
  have ll1 : x_bk_waitBehind T (T.2.1 0) (iz n) 1 = iz (wts (nB T) n 1 - 1) := l1
  have pr : (iz (bKeep (nB T) n) + 1) * (iz (wts (nB T) n 0 - 1) + 1) * (iz (wts (nB T) n 1 - 1) + 1) = iz (chn (nB T) n) := by
    rw [z_1, iz_add, iz_add, iz_add, iz_mul, iz_mul, cb]
    refine iz_inj ?_
    rw [Int.sub_add_cancel, Int.sub_add_cancel, Int.add_comm]
  rw [ix_nat (by omega), f0, f1, f2, f3, f4, kk1, ll1, pr]
  have bad : ∀ {P : Prop}, ((0 ≤ (n : Int) ∧ (n : Int) < nB T 16) ∧ c = 5) → c ≠ 5 → P := fun z y => absurd z.2 y
  refine ⟨fun w => ⟨vi, ?_⟩, fun w0 => ⟨fun w => ⟨vi, ?_⟩, fun w1 => ⟨fun w => ⟨vi, ?_⟩, fun w2 => ⟨fun w => ⟨vi, ?_⟩, fun w3 => ⟨fun w => ⟨vi, ?_⟩, fun w4 => ⟨fun w => ⟨vi, kk0, ll0, ?_⟩, fun w5 => ?_⟩⟩⟩⟩⟩⟩
  · exact lm_dish hI ha hc (fun z => absurd ⟨qa, by omega⟩ z) (fun _ => by subst w; rfl) (fun z => by omega)
  · exact lm_dish hI ha hc (fun z => absurd ⟨qa, by omega⟩ z) (fun _ => by subst w; rfl) (fun z => by omega)
  · exact lm_dish hI ha hc (fun z => absurd ⟨qa, by omega⟩ z) (fun _ => by subst w; rfl) (fun z => by omega)
  · exact lm_dish hI ha hc (fun z => absurd ⟨qa, by omega⟩ z) (fun _ => by subst w; rfl) (fun z => by omega)
  · exact lm_dish hI ha hc (fun z => absurd ⟨qa, by omega⟩ z) (fun _ => by subst w; rfl) (fun z => by omega)
  · exact lm_dish hI ha hc (fun z => absurd ⟨qa, by omega⟩ z) (fun z => by omega) (fun _ => rfl)
  · exact lm_dish hI ha hc (fun _ => rfl) (fun z => by omega) (fun z => by omega)
