/-! ===== the pair gives ===== -/
theorem s_given {T : St} {b m c : Nat} {B : Nat → Int} (hb : sh b = .inr 1) (hX : BkX T b B) (hW : WF B) (hm : m < 60) (hc : c < 5) : ok_bk_given T b (iz m) (iz c) ∧ x_bk_given T b (iz m) (iz c) = iz (gv B (B 5) (B 203) c m) := by
  have w0 := hW.1
  have w3 := hW.2.2.2.2.2.2.2
  have ab := awy_b (B := B) (m := m) (B 7).toNat
  have h7 := hW.2.1
  obtain ⟨oa, ea⟩ := s_away hb hX hW hm
  refine so_bk_given (Q := fun r => r = iz (gv B (B 5) (B 203) c m)) _ _ _ ?_
  unfold wp_bk_given
  have e0 : (iz (c : Int) = 0) ↔ c = 0 := by rw [eq0 (by omega)]; omega
  have e1 : (iz (c : Int) = 1) ↔ c = 1 := by rw [z_1, iz_eq (by omega)]; omega
  have e2 : (iz (c : Int) = 2) ↔ c = 2 := by rw [z_2, iz_eq (by omega)]; omega
  have e3 : (iz (c : Int) = 3) ↔ c = 3 := by rw [z_3, iz_eq (by omega)]; omega
  rw [n_0, n_1, n_2, n_5, n_6, hX.1 0 (by omega), hX.1 1 (by omega), hX.1 2 (by omega), hX.1 5 (by omega), hX.1 6 (by omega), hX.2.2.2.2.2, iz_lt (by omega), e0, e1, e2, e3, ea]
  refine ⟨hb, jo ?_⟩
  try dsimp only
  have main : ∀ j : Int, j = (if (m : Int) < B 203 then 0 else 1) → ((c = 0 → iz (B 0) + iz (B 1) - iz j = iz (gv B (B 5) (B 203) c m)) ∧ (¬ c = 0 → ((c = 1 → iz (B 1) - iz j = iz (gv B (B 5) (B 203) c m)) ∧ (¬ c = 1 → ((c = 2 → iz (B 2) = iz (gv B (B 5) (B 203) c m)) ∧ (¬ c = 2 → ((c = 3 → ok_bk_awayAt T b (iz m) ∧ (if 0 < iz (B 5) - iz (awy B m (B 7).toNat) then iz (B 5) - iz (awy B m (B 7).toNat) else 0) = iz (gv B (B 5) (B 203) c m)) ∧ (¬ c = 3 → iz (B 6) = iz (gv B (B 5) (B 203) c m))))))))) := by
    intro j hj
    refine ⟨fun z => ?_, fun z0 => ⟨fun z => ?_, fun z1 => ⟨fun z => ?_, fun z2 => ⟨fun z => ⟨oa, ?_⟩, fun z3 => ?_⟩⟩⟩⟩
    · subst z
      rw [iz_add, iz_sub]
      refine iz_inj ?_
      show B 0 + B 1 - j = B 0 + (B 1 - (if (m : Int) < B 203 then 0 else 1))
      rw [← hj]; omega
    · subst z
      rw [iz_sub]
      refine iz_inj ?_
      show B 1 - j = B 1 - (if (m : Int) < B 203 then 0 else 1)
      rw [← hj]
    · subst z; rfl
    · subst z
      rw [iz_sub]
      show _ = iz (if 0 ≤ B 5 - awy B m (B 7).toNat then B 5 - awy B m (B 7).toNat else 0)
      by_cases z : 0 < B 5 - awy B m (B 7).toNat
      · rw [if_pos ((gt0 (by omega)).2 z), if_pos (by omega)]
      · rw [if_neg (fun y => z ((gt0 (by omega)).1 y))]
        by_cases z2 : 0 ≤ B 5 - awy B m (B 7).toNat
        · rw [if_pos z2, show B 5 - awy B m (B 7).toNat = 0 by omega]; rfl
        · rw [if_neg z2]; rfl
    · have : c = 4 := by omega
      subst this; rfl
  exact ⟨fun q => main 0 (by rw [if_pos q]), fun q => main 1 (by rw [if_neg q])⟩
theorem x_read {T : St} (hI : Inv T) : (x_bk_isRead T (T.2.1 0) = 0) ↔ T.1 571 7 = 0 := by
  unfold x_bk_isRead
  rcases hI.2.2.2.1.2.2 with ⟨g1, g2, g3, g4, _⟩ | ⟨g1, g2, g3, _⟩
  · rw [g4, g1]; exact ⟨fun _ => rfl, fun _ => rfl⟩
  · have h8 := g2.2.2.1
    rw [g3.2.2.1.1, g1, if_neg (fun y => by have := (ge0 (by omega)).1 y; omega)]
theorem lm_gives {T : St} {a c : Int} {v : Int32} (hI : Inv T) (ha : -2147483648 ≤ a ∧ a < 2147483648) (hc : -2147483648 ≤ c ∧ c < 2147483648) (h0 : T.1 571 7 = 0 → v = -1000002) (h1 : ¬ T.1 571 7 = 0 → ¬ ((0 ≤ a ∧ a < 60) ∧ 0 ≤ c ∧ c < 5) → v = -1000001) (h2 : ¬ T.1 571 7 = 0 → (0 ≤ a ∧ a < 60) ∧ 0 ≤ c ∧ c < 5 → v = iz (gv (nB T) (nB T 5) (nB T 203) c.toNat a.toNat)) : wp_m_gives T (iz a) (iz c) (fun q => v = q.1 ∧ Inv q.2) := by
  have tt := Inv_t 0 hI
  unfold wp_m_gives
  rw [show (sF T 571 0 0).1 571 7 = T.1 571 7 from rfl, m_min ha, lz_w hc, y_0, y_4, m_in (by omega)]
  refine ⟨fun q => ⟨h0 q, tt⟩, fun q7 => ⟨fun q => ⟨h1 q7 (by omega), tt⟩, fun q => ⟨fun q2 => ⟨h1 q7 (by omega), tt⟩, fun q2 => ?_⟩⟩⟩
  have h2 := h2 q7 (by omega)
  obtain ⟨hW, _, _, hM, _⟩ := I_there hI q7
  have hM2 : MkX (sF T 571 0 0) (nB T) := hM
  have w0 := hW.1
  have w3 := hW.2.2.2.2.2.2.2
  obtain ⟨m, rfl⟩ : ∃ m : Nat, a = m := ⟨a.toNat, by omega⟩
  obtain ⟨k, rfl⟩ : ∃ k : Nat, c = k := ⟨c.toNat, by omega⟩
  rw [Int.toNat_natCast, Int.toNat_natCast] at h2
  have e0 : (iz (k : Int) = 0) ↔ k = 0 := by rw [eq0 (by omega)]; omega
  have e1 : (iz (k : Int) = 1) ↔ k = 1 := by rw [z_1, iz_eq (by omega)]; omega
  have e2 : (iz (k : Int) = 2) ↔ k = 2 := by rw [z_2, iz_eq (by omega)]; omega
  have e3 : (iz (k : Int) = 3) ↔ k = 3 := by rw [z_3, iz_eq (by omega)]; omega
  obtain ⟨oh, eh⟩ := s_hands (T := sF T 571 0 0) (m := m) (h := nB T 5) hM2 hW (by omega) (by omega)
  rw [n_0, n_2, n_5, n_6, show (203 : Int32).toNatClampNeg = 203 from rfl, hM2 0 (by omega), hM2 2 (by omega), hM2 5 (by omega), hM2 6 (by omega), hM2 203 (by omega), s_big hM2 (by omega) (by omega), eh, iz_add, e0, e1, e2, e3]
  refine ⟨fun z => ⟨?_, tt⟩, fun z0 => ⟨fun z => ⟨?_, tt⟩, fun z1 => ⟨fun z => ⟨?_, tt⟩, fun z2 => ⟨fun z => ⟨oh, ?_, tt⟩, fun z3 => ⟨?_, tt⟩⟩⟩⟩⟩
  · subst z; exact h2
  · subst z; exact h2
  · subst z; exact h2
  · subst z; exact h2
  · have : k = 4 := by omega
    subst this; exact h2
theorem i_gives : P_gives Inv := pw_gives fun T hI p0 p1 => by
  obtain ⟨a, ha, rfl⟩ := iz_ex p0
  obtain ⟨c, hc, rfl⟩ := iz_ex p1
  obtain ⟨h46, _⟩ := I_cnt hI
  obtain ⟨hb, hb2⟩ := b_46 h46
  have e5 : (iz c < 5) ↔ c < 5 := by rw [z_5, iz_lt (by omega)]
  unfold wp_x_gives
  rw [x_read hI, x_min ha, lt0 (by omega), e5]
  refine ⟨⟨hb, trivial⟩, hb, fun q => lm_gives hI ha hc (fun _ => rfl) (fun z => absurd q z) (fun z => absurd q z), fun q7 => ⟨fun q => lm_gives hI ha hc (fun z => absurd z q7) (fun _ _ => rfl) (fun _ z => absurd z.1 q), fun q => ⟨fun q2 => lm_gives hI ha hc (fun z => absurd z q7) (fun _ _ => rfl) (fun _ z => by omega), fun q2 => ⟨fun q3 => ?_, fun q3 => lm_gives hI ha hc (fun z => absurd z q7) (fun _ _ => rfl) (fun _ z => by omega)⟩⟩⟩⟩
  obtain ⟨hW, hX, _⟩ := I_there hI q7
  obtain ⟨m, rfl⟩ : ∃ m : Nat, a = m := ⟨a.toNat, by omega⟩
  obtain ⟨k, rfl⟩ : ∃ k : Nat, c = k := ⟨c.toNat, by omega⟩
  obtain ⟨ok, e⟩ := s_given (m := m) (c := k) hb hX hW (by omega) (by omega)
  rw [e]
  exact ⟨ok, lm_gives hI ha hc (fun z => absurd z q7) (fun _ z => absurd (by omega) z) (fun _ _ => rfl)⟩
