/-! ===== the start, and the claim ===== -/
theorem Inv_0 : Inv2 T0 := by
  refine ⟨⟨⟨by decide, fun s hs => ?_⟩, ⟨by decide, 0, by omega, by decide, by decide, fun j hj => absurd hj (Nat.not_lt_zero _)⟩, ⟨0, by omega, by decide, by decide, fun j hj => absurd hj (Nat.not_lt_zero _)⟩, ⟨Or.inl ⟨by decide, by decide⟩, by decide, Or.inl ⟨by decide, fun j hj => rfl, by decide, by decide, by decide, by decide, by decide⟩⟩, fun k hk => Or.inl ⟨rfl, ?_⟩⟩, fun k hk h => ?_⟩
  · have e2 : T0.2.2.1 2 s = lane0 s := rfl
    have e572 : T0.2.2.1 572 s = lane0 s := rfl
    rw [e2, e572]
    refine ⟨rfl, rfl, ?_, ⟨0, rfl, by omega⟩, fun i hi => ?_⟩
    · exact (by decide +kernel : ∀ s : Nat, s < 8 → lane0 s = iz (-1)) s hs ▸ ⟨-1, rfl, by omega, by omega⟩
    · show (if 574 = 2 ∨ 574 = 572 then lane0 else fun _ => 0) (40 * s + i) = (if 5 + s = 2 ∨ 5 + s = 572 then lane0 else fun _ => 0) i
      rw [if_neg (by omega), if_neg (by omega)]
  · rcases (show k = 0 ∨ k = 1 by omega) with rfl | rfl <;> decide
  · have : T0.2.2.1 599 k = 0 := rfl
    rw [this] at h; exact absurd h (by decide)
theorem i_vc_of (hb : P_book Inv2) : Claimed_1_1 ∧ Claimed_1_2 := i_vc_open (law_pure (I := Inv2) ⟨Inv_0, l_sheet, l_set, l_copy, l_drop, l_feed, hb, l_fault, l_dish, l_step, l_gives, l_dinner, l_out, l_judge, l_least, l_begins, l_seven, l_earliest, l_heat, l_wanted, l_dinners, l_more, l_mend, l_slack, l_bears, l_mind, i_image, i_restore, l_kind, l_as, l_ask, l_trace, l_count, l_status⟩)
theorem i_vc : Claimed_1_1 ∧ Claimed_1_2 := i_vc_of i_book
