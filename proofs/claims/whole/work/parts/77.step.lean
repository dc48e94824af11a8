/-! ===== the pair step ===== -/
theorem I_cnt {T : St} (hI : Inv T) : (T.2.1 0 = 46 ∨ T.2.1 0 = 61) ∧ MkX T (nB T) ∧
    (T.1 (T.2.1 0) 10 = iz (nB T 17) ∧ (0 ≤ nB T 17 ∧ nB T 17 ≤ 24) ∧ ∀ s : Nat, (s : Int) < nB T 17 → T.2.2.1 (T.2.1 0 + 9) s = iz (kd (nB T) s - 1) ∧ T.2.2.1 (T.2.1 0 + 10) s = iz (lg (nB T) s) ∧ T.2.2.1 (T.2.1 0 + 11) s = iz (wt (nB T) s) ∧ T.2.2.1 (T.2.1 0 + 12) s = iz (sr (nB T) s) ∧ T.2.2.1 (T.2.1 0 + 13) s = iz (on (nB T) s) ∧ T.2.2.1 (T.2.1 0 + 14) s = iz (tw (nB T) s)) ∧
    (T.1 (T.2.1 0) 4 = iz (nB T 16) ∧ (0 ≤ nB T 16 ∧ nB T 16 ≤ 8) ∧ ∀ d : Nat, (d : Int) < nB T 16 → T.2.2.1 (T.2.1 0 + 4) d = iz (bKeep (nB T) d) ∧ T.2.2.1 (T.2.1 0 + 5) d = iz (bCold (nB T) d) ∧ T.2.2.1 (T.2.1 0 + 6) d = iz (bPan (nB T) d) ∧ T.2.2.1 (T.2.1 0 + 7) d = iz (bOwn (nB T) d) ∧ T.2.2.1 (T.2.1 0 + 8) d = iz (bFst (nB T) d)) ∧
    T.1 (T.2.1 0) 1 = iz (nB T 7) ∧ T.1 (T.2.1 0) 17 = iz (nB T 202) := by
  obtain ⟨h1, _, h3⟩ := hI.2.2.2.1
  refine ⟨by rcases h1 with h | h <;> simp [h.1], fun j _ => (iz_self _).symm, ?_⟩
  rcases h3 with ⟨g1, g2, g3, g4, g5, g6, g7⟩ | ⟨g1, g2, g3, g4, g5, g6, g7⟩
  · have e : ∀ j, j < 204 → nB T j = 0 := fun j hj => by
      unfold nB
      rw [g2 j hj]; rfl
    rw [e 17 (by omega), e 16 (by omega), e 7 (by omega), e 202 (by omega), g3, g4, g5, g6]
    exact ⟨⟨rfl, by omega, fun s hs => by omega⟩, ⟨rfl, by omega, fun d hd => by omega⟩, rfl, rfl⟩
  · have k17 := wf_17 g2
    have h8 := g2.2.2.1
    exact ⟨⟨g3.2.2.2.1.1, by omega, g3.2.2.2.1.2⟩, ⟨g3.2.2.1.1, by omega, g3.2.2.1.2⟩, g3.2.1.1, g3.2.2.2.2.1⟩
theorem x_has {T : St} {b : Nat} {a n : Int} (ha : -2147483648 ≤ a ∧ a < 2147483648) (hn : 0 ≤ n ∧ n ≤ 24) (h : T.1 b 10 = iz n) : (x_bk_hasStep T b (iz a) = 0) ↔ ¬ (0 ≤ a ∧ a < n) := by
  unfold x_bk_hasStep
  rw [h]
  simp (disch := omega) only [lt0, iz_le]
  by_cases h1 : a < 0
  · rw [if_pos h1]; exact ⟨fun _ => by omega, fun _ => rfl⟩
  · rw [if_neg h1]
    by_cases h2 : n ≤ a
    · rw [if_pos h2]; exact ⟨fun _ => by omega, fun _ => rfl⟩
    · rw [if_neg h2]
      refine ⟨fun q => absurd q (by decide), fun q => by omega⟩
theorem m_ist {T : St} {B : Nat → Int} {a : Int} (hM : MkX T B) (ha : -2147483648 ≤ a ∧ a < 2147483648) (hn : 0 ≤ B 17 ∧ B 17 ≤ 24) : (x_m_isStep T (iz a) = 0) ↔ ¬ (0 ≤ a ∧ a < B 17) := by
  unfold x_m_isStep
  rw [n_17, hM 17 (by omega), z_1, iz_sub, lz_w ha, lz_w (by omega), y_0, m_in (by omega)]
  omega
theorem lm_step {T : St} {a c : Int} {v : Int32} (hI : Inv T) (ha : -2147483648 ≤ a ∧ a < 2147483648) (hc : -2147483648 ≤ c ∧ c < 2147483648) (h1 : ¬ ((0 ≤ a ∧ a < nB T 17) ∧ 0 ≤ c ∧ c ≤ 4) → v = -1000001) (h2 : (0 ≤ a ∧ a < nB T 17) ∧ 0 ≤ c ∧ c ≤ 4 → v = iz (nB T (58 + 6 * a.toNat + (c.toNat + 1)))) : wp_m_step T (iz a) (iz c) (fun q => v = q.1 ∧ Inv q.2) := by
  have tt := Inv_t 0 hI
  obtain ⟨_, hM, ⟨_, hn, _⟩, _⟩ := I_cnt hI
  have hM2 : MkX (sF T 571 0 0) (nB T) := hM
  unfold wp_m_step
  rw [m_ist hM2 ha hn, lz_w hc, y_0, y_4, m_in (by omega)]
  refine ⟨fun q => ⟨h1 (by omega), tt⟩, fun q => ⟨fun q2 => ⟨h1 (by omega), tt⟩, fun q2 => ?_⟩⟩
  have e : iz c + 1 = iz ((c.toNat + 1 : Nat) : Int) := by rw [z_1, iz_add]; exact iz_inj (by omega)
  rw [e, ms hM2 (by omega) (by omega)]
  exact ⟨oks (by omega) (by omega), h2 (by omega), tt⟩
theorem i_step : P_step Inv := pw_step fun T hI p0 p1 => by
  obtain ⟨a, ha, rfl⟩ := iz_ex p0
  obtain ⟨c, hc, rfl⟩ := iz_ex p1
  obtain ⟨h46, hM, ⟨hc10, hn, hf⟩, _⟩ := I_cnt hI
  obtain ⟨hb, hb2⟩ := b_46 h46
  have e0 : (iz c = 0) ↔ c = 0 := eq0 (by omega)
  have e1 : (iz c = 1) ↔ c = 1 := by rw [z_1, iz_eq (by omega)]
  have e2 : (iz c = 2) ↔ c = 2 := by rw [z_2, iz_eq (by omega)]
  have e3 : (iz c = 3) ↔ c = 3 := by rw [z_3, iz_eq (by omega)]
  have e4 : (iz c = 4) ↔ c = 4 := by rw [z_4, iz_eq (by omega)]
  unfold wp_x_step
  rw [x_has ha hn hc10, e0, e1, e2, e3, e4]
  refine ⟨fun _ => ⟨hb, trivial⟩, hb, fun q => lm_step hI ha hc (fun _ => rfl) (fun z => absurd z.1 q), fun q => ?_⟩
  have qa : 0 ≤ a ∧ a < nB T 17 := Classical.byContradiction q
  obtain ⟨n, rfl⟩ : ∃ n : Nat, a = n := ⟨a.toNat, by omega⟩
  obtain ⟨_, f1, f2, f3, f4, f5⟩ := hf n qa.2
  have vi : vp_in (iz (n : Int)) 24 := in_nat (by omega) (by omega)
  rw [ix_nat (by omega), f1, f2, f3, f4, f5]
  refine ⟨fun w => ⟨vi, ?_⟩, fun w0 => ⟨fun w => ⟨vi, ?_⟩, fun w1 => ⟨fun w => ⟨vi, ?_⟩, fun w2 => ⟨fun w => ⟨vi, ?_⟩, fun w3 => ⟨fun w => ⟨vi, ?_⟩, fun w4 => ?_⟩⟩⟩⟩⟩
  · subst w; exact lm_step hI ha hc (fun z => absurd ⟨qa, by omega⟩ z) (fun _ => rfl)
  · subst w; exact lm_step hI ha hc (fun z => absurd ⟨qa, by omega⟩ z) (fun _ => rfl)
  · subst w; exact lm_step hI ha hc (fun z => absurd ⟨qa, by omega⟩ z) (fun _ => rfl)
  · subst w; exact lm_step hI ha hc (fun z => absurd ⟨qa, by omega⟩ z) (fun _ => rfl)
  · subst w; exact lm_step hI ha hc (fun z => absurd ⟨qa, by omega⟩ z) (fun _ => rfl)
  · exact lm_step hI ha hc (fun _ => rfl) (fun z => by omega)
