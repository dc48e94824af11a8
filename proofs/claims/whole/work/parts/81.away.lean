/-! ===== who is away, as the class counts it ===== -/
theorem s_away {T : St} {b m : Nat} {B : Nat → Int} (hb : sh b = .inr 1) (hX : BkX T b B) (hW : WF B) (hm : m < 60) : ok_bk_awayAt T b (iz m) ∧ x_bk_awayAt T b (iz m) = iz (awy B m (B 7).toNat) := by
  have h7 := hW.2.1
  refine so_bk_awayAt (Q := fun r => r = iz (awy B m (B 7).toNat)) _ _ ?_
  unfold wp_bk_awayAt
  refine wr_bk_awayAt_4 T b (iz m) (fun v2 v3 => ∃ i : Nat, (i : Int) ≤ B 7 ∧ v3 = iz i ∧ v2 = iz (awy B m i)) (fun v2 v3 => 4 - v3.toInt.toNat) ?_ _ _ _ ?_ ?_
  · rintro _ _ ⟨i, h1, rfl, rfl⟩
    have hb2 := awy_b (B := B) (m := m) i
    unfold bd_bk_awayAt_4
    rw [hX.2.1.1, iz_le (by omega)]
    refine ⟨hb, fun c => ?_, fun c => ?_⟩
    · have e : (B 7).toNat = i := by omega
      rw [e]
    · have h2 := h7.2.2 i (by omega)
      obtain ⟨a1, a2⟩ := hX.2.1.2 i (by omega)
      have nx : iz (i : Int) + 1 = iz ((i + 1 : Nat) : Int) := by rw [z_1, iz_add]; exact iz_inj (by omega)
      have ms : 4 - (iz ((i + 1 : Nat) : Int)).toInt.toNat < 4 - (iz (i : Int)).toInt.toNat := by rw [iz_t (by omega), iz_t (by omega)]; omega
      have e : awy B m (i + 1) = awy B m i + (if B (8 + 2 * i) ≤ m ∧ (m : Int) ≤ B (8 + 2 * i + 1) then 1 else 0) := rfl
      rw [ix_nat (by omega), a1, a2, iz_lt (by omega), iz_lt (by omega), nx]
      refine ⟨in_nat (by omega) (by omega), fun q => ⟨⟨i + 1, by omega, rfl, iz_inj ?_⟩, ms⟩, fun q => ⟨fun q2 => ⟨⟨i + 1, by omega, rfl, iz_inj ?_⟩, ms⟩, fun q2 => ⟨⟨i + 1, by omega, rfl, ?_⟩, ms⟩⟩⟩
      · rw [e, if_neg (by omega)]; omega
      · rw [e, if_neg (by omega)]; omega
      · rw [e, if_pos (by omega), z_1, iz_add]
  · show 4 - (0 : Int32).toInt.toNat < 1000
    omega
  · exact ⟨0, by omega, rfl, rfl⟩
