/-! ===== sheets, the class ===== -/
theorem sh5 {j : Nat} (h : j < 8) : sh (5 + j) = .inl (0, 40) := (by decide +kernel : ∀ j, j < 8 → sh (5 + j) = .inl (0, 40)) j h
theorem rf4 {i : Int32} (h : vp_in i 8) : rfa 4 i.toNatClampNeg = some (5 + i.toNatClampNeg) := by
  have : i.toNatClampNeg < 8 := Nat.not_le.mp fun q => h (Or.inr q)
  simp [rfa, this]
theorem c_isOne {X : Nat × (Nat → Int32)} {T : St} (s : Int32) : tC X 1 mX8_isOne [.ref 1, .int s] T (some (.int (if 0 ≤ s ∧ s < 8 then 1 else 0))) T := by
  refine tC_of ?_
  refine r_p dX8_isOne_0 rfl rfl ?_
  refine r_ilt dX8_isOne_1 rfl (fun c1 => ?_) (fun c1 => ?_)
  · refine r_ci (x := 0) dX8_isOne_14 rfl ?_
    exact r_ri dX8_isOne_15 rfl rfl (by first | (rw [if_pos (by (try simp only [i_b10] at *); (try simp only [lg_lt, lg_gt, lg_le, lg_eq, j_lt, j_le, j_w, i_lt, i_le, i_eq, i_in, i_cl, i_m1, i_NONE, i_BAD, i_STATE, i_FULL, i_0, j_0, i_1, j_1, i_2, j_2, i_3, j_3, i_4, j_4, i_5, j_5, i_6, j_6, i_7, j_7, i_8, j_8, i_9, j_9, i_40, j_40, i_60, j_60, i_59, j_59] at *); omega)]) | (rw [if_neg (by (try simp only [i_b10] at *); (try simp only [lg_lt, lg_gt, lg_le, lg_eq, j_lt, j_le, j_w, i_lt, i_le, i_eq, i_in, i_cl, i_m1, i_NONE, i_BAD, i_STATE, i_FULL, i_0, j_0, i_1, j_1, i_2, j_2, i_3, j_3, i_4, j_4, i_5, j_5, i_6, j_6, i_7, j_7, i_8, j_8, i_9, j_9, i_40, j_40, i_60, j_60, i_59, j_59] at *); omega)])) rfl
  · refine r_p dX8_isOne_4 rfl rfl ?_
    refine r_cb (x := 8) dX8_isOne_5 rfl ?_
    refine r_cge dX8_isOne_7 rfl (fun c7 => ?_) (fun c7 => ?_)
    · refine r_ci (x := 0) dX8_isOne_14 rfl ?_
      exact r_ri dX8_isOne_15 rfl rfl (by first | (rw [if_pos (by (try simp only [i_b10] at *); (try simp only [lg_lt, lg_gt, lg_le, lg_eq, j_lt, j_le, j_w, i_lt, i_le, i_eq, i_in, i_cl, i_m1, i_NONE, i_BAD, i_STATE, i_FULL, i_0, j_0, i_1, j_1, i_2, j_2, i_3, j_3, i_4, j_4, i_5, j_5, i_6, j_6, i_7, j_7, i_8, j_8, i_9, j_9, i_40, j_40, i_60, j_60, i_59, j_59] at *); omega)]) | (rw [if_neg (by (try simp only [i_b10] at *); (try simp only [lg_lt, lg_gt, lg_le, lg_eq, j_lt, j_le, j_w, i_lt, i_le, i_eq, i_in, i_cl, i_m1, i_NONE, i_BAD, i_STATE, i_FULL, i_0, j_0, i_1, j_1, i_2, j_2, i_3, j_3, i_4, j_4, i_5, j_5, i_6, j_6, i_7, j_7, i_8, j_8, i_9, j_9, i_40, j_40, i_60, j_60, i_59, j_59] at *); omega)])) rfl
    · refine r_ci (x := 1) dX8_isOne_10 rfl ?_
      refine r_go dX8_isOne_11 rfl ?_
      exact r_ri dX8_isOne_15 rfl rfl (by first | (rw [if_pos (by (try simp only [i_b10] at *); (try simp only [lg_lt, lg_gt, lg_le, lg_eq, j_lt, j_le, j_w, i_lt, i_le, i_eq, i_in, i_cl, i_m1, i_NONE, i_BAD, i_STATE, i_FULL, i_0, j_0, i_1, j_1, i_2, j_2, i_3, j_3, i_4, j_4, i_5, j_5, i_6, j_6, i_7, j_7, i_8, j_8, i_9, j_9, i_40, j_40, i_60, j_60, i_59, j_59] at *); omega)]) | (rw [if_neg (by (try simp only [i_b10] at *); (try simp only [lg_lt, lg_gt, lg_le, lg_eq, j_lt, j_le, j_w, i_lt, i_le, i_eq, i_in, i_cl, i_m1, i_NONE, i_BAD, i_STATE, i_FULL, i_0, j_0, i_1, j_1, i_2, j_2, i_3, j_3, i_4, j_4, i_5, j_5, i_6, j_6, i_7, j_7, i_8, j_8, i_9, j_9, i_40, j_40, i_60, j_60, i_59, j_59] at *); omega)])) rfl
theorem c_isMissing {X : Nat × (Nat → Int32)} {T : St} (s : Int32) (hs : vp_in s 8) : tC X 1 mX8_isMissing [.ref 1, .int s] T (some (.int (if T.2.2.1 2 s.toNatClampNeg = -1 then 1 else 0))) T := by
  refine tC_of ?_
  refine r_p dX8_isMissing_0 rfl rfl ?_
  refine r_get dX8_isMissing_1 fkX8_9 (by first | rfl | assumption) rfl ?_
  refine r_p dX8_isMissing_4 rfl rfl ?_
  refine r_ia dX8_isMissing_5 (by first | rfl | assumption) (by assumption) ?_
  refine r_ci (x := -1) dX8_isMissing_6 rfl ?_
  refine r_cne dX8_isMissing_7 rfl (fun c7 => ?_) (fun c7 => ?_)
  · refine r_ci (x := 0) dX8_isMissing_14 rfl ?_
    exact r_ri dX8_isMissing_15 rfl rfl (by first | (rw [if_pos (by assumption)]) | (rw [if_neg (by assumption)])) rfl
  · refine r_ci (x := 1) dX8_isMissing_10 rfl ?_
    refine r_go dX8_isMissing_11 rfl ?_
    exact r_ri dX8_isMissing_15 rfl rfl (by first | (rw [if_pos (by assumption)]) | (rw [if_neg (by assumption)])) rfl
theorem c_reaches {X : Nat × (Nat → Int32)} {T : St} (s i n : Int32) (hs : vp_in s 8) : tC X 1 mX8_reaches [.ref 1, .int s, .int i, .int n] T (some (.int (if 0 ≤ i ∧ 0 ≤ n ∧ n ≤ T.2.2.1 3 s.toNatClampNeg ∧ i ≤ T.2.2.1 3 s.toNatClampNeg - n then 1 else 0))) T := by
  refine tC_of ?_
  refine r_p dX8_reaches_0 rfl rfl ?_
  refine r_ilt dX8_reaches_1 rfl (fun c1 => ?_) (fun c1 => ?_)
  · refine r_ci (x := 0) dX8_reaches_34 rfl ?_
    exact r_ri dX8_reaches_35 rfl rfl (by first | (rw [if_pos (by simp only [i_lt, i_le, i_0] at *; omega)]) | (rw [if_neg (by simp only [i_lt, i_le, i_0] at *; omega)])) rfl
  · refine r_p dX8_reaches_4 rfl rfl ?_
    refine r_ilt dX8_reaches_5 rfl (fun c5 => ?_) (fun c5 => ?_)
    · refine r_ci (x := 0) dX8_reaches_34 rfl ?_
      exact r_ri dX8_reaches_35 rfl rfl (by first | (rw [if_pos (by simp only [i_lt, i_le, i_0] at *; omega)]) | (rw [if_neg (by simp only [i_lt, i_le, i_0] at *; omega)])) rfl
    · refine r_p dX8_reaches_8 rfl rfl ?_
      refine r_p dX8_reaches_9 rfl rfl ?_
      refine r_get dX8_reaches_10 fkX8_13 (by first | rfl | assumption) rfl ?_
      refine r_p dX8_reaches_13 rfl rfl ?_
      refine r_ia dX8_reaches_14 (by first | rfl | assumption) (by assumption) ?_
      refine r_cgt dX8_reaches_15 rfl (fun c15 => ?_) (fun c15 => ?_)
      · refine r_ci (x := 0) dX8_reaches_34 rfl ?_
        exact r_ri dX8_reaches_35 rfl rfl (by first | (rw [if_pos (by simp only [i_lt, i_le, i_0] at *; omega)]) | (rw [if_neg (by simp only [i_lt, i_le, i_0] at *; omega)])) rfl
      · refine r_p dX8_reaches_18 rfl rfl ?_
        refine r_p dX8_reaches_19 rfl rfl ?_
        refine r_get dX8_reaches_20 fkX8_13 (by first | rfl | assumption) rfl ?_
        refine r_p dX8_reaches_23 rfl rfl ?_
        refine r_ia dX8_reaches_24 (by first | rfl | assumption) (by assumption) ?_
        refine r_p dX8_reaches_25 rfl rfl ?_
        refine r_p dX8_reaches_26 rfl rfl ?_
        refine r_cgt dX8_reaches_27 rfl (fun c27 => ?_) (fun c27 => ?_)
        · refine r_ci (x := 0) dX8_reaches_34 rfl ?_
          exact r_ri dX8_reaches_35 rfl rfl (by first | (rw [if_pos (by simp only [i_lt, i_le, i_0] at *; omega)]) | (rw [if_neg (by simp only [i_lt, i_le, i_0] at *; omega)])) rfl
        · refine r_ci (x := 1) dX8_reaches_30 rfl ?_
          refine r_go dX8_reaches_31 rfl ?_
          exact r_ri dX8_reaches_35 rfl rfl (by first | (rw [if_pos (by simp only [i_lt, i_le, i_0] at *; omega)]) | (rw [if_neg (by simp only [i_lt, i_le, i_0] at *; omega)])) rfl
def x_lay (T : St) (s l n : Int32) : St := sAr (sA (sA T 2 s.toNatClampNeg l) 3 s.toNatClampNeg n) (5 + s.toNatClampNeg) (fun j => if j < 40 then 0 else (sA (sA T 2 s.toNatClampNeg l) 3 s.toNatClampNeg n).2.2.1 (5 + s.toNatClampNeg) j)
theorem c_lay {X : Nat × (Nat → Int32)} {T : St} (s l n : Int32) (hs : vp_in s 8) : tC X 2 mX8_lay [.ref 1, .int s, .int l, .int n] T none (x_lay T s l n) := by
  refine tC_of ?_
  refine r_p dX8_lay_0 rfl rfl ?_
  refine r_get dX8_lay_1 fkX8_9 (by first | rfl | assumption) rfl ?_
  refine r_p dX8_lay_4 rfl rfl ?_
  refine r_p dX8_lay_5 rfl rfl ?_
  refine r_ias dX8_lay_6 (by first | rfl | assumption) (by assumption) ?_
  refine r_p dX8_lay_7 rfl rfl ?_
  refine r_get dX8_lay_8 fkX8_13 (by first | rfl | assumption) rfl ?_
  refine r_p dX8_lay_11 rfl rfl ?_
  refine r_p dX8_lay_12 rfl rfl ?_
  refine r_ias dX8_lay_13 (by first | rfl | assumption) (by assumption) ?_
  refine r_p dX8_lay_14 rfl rfl ?_
  refine r_get dX8_lay_15 fkX8_18 (by first | rfl | assumption) rfl ?_
  refine r_p dX8_lay_18 rfl rfl ?_
  refine r_aa dX8_lay_19 (by first | rfl | assumption) (by decide) (by assumption) (rf4 hs) ?_
  refine r_ci (x := 0) dX8_lay_20 rfl ?_
  refine r_cs (d1 := 1) dX8_lay_21 csX8_21 rfl rfl (Nat.le_of_ble_eq_true rfl) (Nat.le_of_ble_eq_true rfl) (Nat.le_of_ble_eq_true rfl) (c_fill (sh5 (in_lt hs)) (by decide)) ?_
  exact r_rv dX8_lay_24 rfl rfl rfl
def x_kept (l v : Int32) : Int32 := if l = 0 then v.toInt8.toInt32 else if l = 1 then v.toInt16.toInt32 else v
theorem c_write {X : Nat × (Nat → Int32)} {T : St} (s i v : Int32) (hs : vp_in s 8) (hi : vp_in i 40) : tC X 1 mX8_write [.ref 1, .int s, .int i, .int v] T (some (.int (x_kept (T.2.2.1 2 s.toNatClampNeg) v))) (sA T (5 + s.toNatClampNeg) i.toNatClampNeg (x_kept (T.2.2.1 2 s.toNatClampNeg) v)) := by
  refine tC_of ?_
  refine r_p dX8_write_0 rfl rfl ?_
  refine r_get dX8_write_1 fkX8_9 (by first | rfl | assumption) rfl ?_
  refine r_p dX8_write_4 rfl rfl ?_
  refine r_ia dX8_write_5 (by first | rfl | assumption) (by assumption) ?_
  refine r_ine dX8_write_6 rfl (fun c6 => ?_) (fun c6 => ?_)
  · refine r_p dX8_write_14 rfl rfl ?_
    refine r_get dX8_write_15 fkX8_9 (by first | rfl | assumption) rfl ?_
    refine r_p dX8_write_18 rfl rfl ?_
    refine r_ia dX8_write_19 (by first | rfl | assumption) (by assumption) ?_
    refine r_ci (x := 1) dX8_write_20 rfl ?_
    refine r_cne dX8_write_21 rfl (fun c21 => ?_) (fun c21 => ?_)
    · refine r_p dX8_write_29 rfl rfl ?_
      refine r_p dX8_write_30 rfl rfl ?_
      refine r_p dX8_write_32 rfl rfl ?_
      refine r_get dX8_write_33 fkX8_18 (by first | rfl | assumption) rfl ?_
      refine r_p dX8_write_36 rfl rfl ?_
      refine r_aa dX8_write_37 (by first | rfl | assumption) (by decide) (by assumption) (rf4 hs) ?_
      refine r_p dX8_write_38 rfl rfl ?_
      refine r_p dX8_write_39 rfl rfl ?_
      refine r_ias dX8_write_41 (sh5 (in_lt hs)) (by assumption) ?_
      refine r_p dX8_write_42 rfl rfl ?_
      exact r_ri dX8_write_44 rfl rfl (by unfold x_kept; repeat (first | rw [if_pos (by assumption)] | rw [if_neg (by assumption)])) (by unfold x_kept; repeat (first | rw [if_pos (by assumption)] | rw [if_neg (by assumption)]))
    · refine r_p dX8_write_24 rfl rfl ?_
      refine r_p dX8_write_25 rfl rfl ?_
      refine r_go dX8_write_26 rfl ?_
      refine r_p dX8_write_30 rfl rfl ?_
      refine r_p dX8_write_32 rfl rfl ?_
      refine r_get dX8_write_33 fkX8_18 (by first | rfl | assumption) rfl ?_
      refine r_p dX8_write_36 rfl rfl ?_
      refine r_aa dX8_write_37 (by first | rfl | assumption) (by decide) (by assumption) (rf4 hs) ?_
      refine r_p dX8_write_38 rfl rfl ?_
      refine r_p dX8_write_39 rfl rfl ?_
      refine r_ias dX8_write_41 (sh5 (in_lt hs)) (by assumption) ?_
      refine r_p dX8_write_42 rfl rfl ?_
      exact r_ri dX8_write_44 rfl rfl (by unfold x_kept; repeat (first | rw [if_pos (by assumption)] | rw [if_neg (by assumption)])) (by unfold x_kept; repeat (first | rw [if_pos (by assumption)] | rw [if_neg (by assumption)]))
  · refine r_p dX8_write_9 rfl rfl ?_
    refine r_p dX8_write_10 rfl rfl ?_
    refine r_go dX8_write_11 rfl ?_
    refine r_p dX8_write_30 rfl rfl ?_
    refine r_p dX8_write_32 rfl rfl ?_
    refine r_get dX8_write_33 fkX8_18 (by first | rfl | assumption) rfl ?_
    refine r_p dX8_write_36 rfl rfl ?_
    refine r_aa dX8_write_37 (by first | rfl | assumption) (by decide) (by assumption) (rf4 hs) ?_
    refine r_p dX8_write_38 rfl rfl ?_
    refine r_p dX8_write_39 rfl rfl ?_
    refine r_ias dX8_write_41 (sh5 (in_lt hs)) (by assumption) ?_
    refine r_p dX8_write_42 rfl rfl ?_
    exact r_ri dX8_write_44 rfl rfl (by unfold x_kept; repeat (first | rw [if_pos (by assumption)] | rw [if_neg (by assumption)])) (by unfold x_kept; repeat (first | rw [if_pos (by assumption)] | rw [if_neg (by assumption)]))
theorem c_lose {X : Nat × (Nat → Int32)} {T : St} (s : Int32) (hs : vp_in s 8) : tC X 1 mX8_lose [.ref 1, .int s] T (some (.int (T.2.2.1 3 s.toNatClampNeg))) (sA T 2 s.toNatClampNeg (-1)) := by
  refine tC_of ?_
  refine r_p dX8_lose_0 rfl rfl ?_
  refine r_get dX8_lose_1 fkX8_9 (by first | rfl | assumption) rfl ?_
  refine r_p dX8_lose_4 rfl rfl ?_
  refine r_ci (x := -1) dX8_lose_5 rfl ?_
  refine r_ias dX8_lose_6 (by first | rfl | assumption) (by assumption) ?_
  refine r_p dX8_lose_7 rfl rfl ?_
  refine r_get dX8_lose_8 fkX8_13 (by first | rfl | assumption) rfl ?_
  refine r_p dX8_lose_11 rfl rfl ?_
  refine r_ia dX8_lose_12 (by first | rfl | assumption) (by assumption) ?_
  exact r_ri dX8_lose_13 rfl rfl rfl rfl
theorem c_found {X : Nat × (Nat → Int32)} {T : St} (k : Int32) : tC X 1 mX11_found [.ref 0, .int k] T (some (.int (-1000010 - k))) (sF T 0 12 k) := by
  refine tC_of ?_
  refine r_p dX11_found_0 rfl rfl ?_
  refine r_p dX11_found_1 rfl rfl ?_
  refine r_put dX11_found_2 fkX11_354 rfl (by first | rfl | assumption) rfl (Nat.le_of_ble_eq_true rfl) rfl rfl ?_
  refine r_kw dX11_found_5 kkX11_357 ?_
  refine r_p dX11_found_8 rfl rfl ?_
  refine r_p dX11_found_9 rfl rfl ?_
  exact r_ri dX11_found_10 rfl rfl rfl rfl
theorem c_fine {X : Nat × (Nat → Int32)} {T : St} (k : Int32) : tC X 1 mX11_fine [.ref 0, .int k] T (some (.int k)) (sF T 0 12 0) := by
  refine tC_of ?_
  refine r_p dX11_fine_0 rfl rfl ?_
  refine r_ci (x := 0) dX11_fine_1 rfl ?_
  refine r_put dX11_fine_2 fkX11_354 rfl (by first | rfl | assumption) rfl (Nat.le_of_ble_eq_true rfl) rfl rfl ?_
  refine r_p dX11_fine_5 rfl rfl ?_
  exact r_ri dX11_fine_6 rfl rfl rfl rfl
def x_sheet (T : St) (s l n : Int32) : Int32 × St := if 0 ≤ s ∧ s < 8 ∧ 0 ≤ l ∧ l < 3 ∧ n ≤ 40 then (if n < 0 then (-1000010 - 4, sF T 0 12 4) else (n, sF (x_lay T s l n) 0 12 0)) else (-1000001, T)
theorem c_sheet {X : Nat × (Nat → Int32)} {T : St} (s l n : Int32) : tC X 3 mX11_sheet [.ref 0, .int s, .int l, .int n] T (some (.int (x_sheet T s l n).1)) (x_sheet T s l n).2 := by
  refine tC_of ?_
  refine r_p dX11_sheet_0 rfl rfl ?_
  refine r_get dX11_sheet_1 fkX11_10 (by first | rfl | assumption) rfl ?_
  refine r_p dX11_sheet_4 rfl rfl ?_
  refine r_cv (d1 := 1) dX11_sheet_5 cvX11_78 rfl rfl (by first | rfl | assumption) rfl (Nat.le_of_ble_eq_true rfl) (Nat.le_of_ble_eq_true rfl) (Nat.le_of_ble_eq_true rfl) (c_isOne s) ?_
  refine r_ieq dX11_sheet_8 rfl (fun c8 => ?_) (fun c8 => ?_)
  · refine r_k dX11_sheet_26 kkX11_82 ?_
    exact r_ri dX11_sheet_28 rfl rfl (by unfold x_sheet; repeat (first | rw [if_pos (by (try simp only [i_b10] at *); (try simp only [lg_lt, lg_gt, lg_le, lg_eq, j_lt, j_le, j_w, i_lt, i_le, i_eq, i_in, i_cl, i_m1, i_NONE, i_BAD, i_STATE, i_FULL, i_0, j_0, i_1, j_1, i_2, j_2, i_3, j_3, i_4, j_4, i_5, j_5, i_6, j_6, i_7, j_7, i_8, j_8, i_9, j_9, i_40, j_40, i_60, j_60, i_59, j_59] at *); omega)] | rw [if_neg (by (try simp only [i_b10] at *); (try simp only [lg_lt, lg_gt, lg_le, lg_eq, j_lt, j_le, j_w, i_lt, i_le, i_eq, i_in, i_cl, i_m1, i_NONE, i_BAD, i_STATE, i_FULL, i_0, j_0, i_1, j_1, i_2, j_2, i_3, j_3, i_4, j_4, i_5, j_5, i_6, j_6, i_7, j_7, i_8, j_8, i_9, j_9, i_40, j_40, i_60, j_60, i_59, j_59] at *); omega)])) (by unfold x_sheet; repeat (first | rw [if_pos (by (try simp only [i_b10] at *); (try simp only [lg_lt, lg_gt, lg_le, lg_eq, j_lt, j_le, j_w, i_lt, i_le, i_eq, i_in, i_cl, i_m1, i_NONE, i_BAD, i_STATE, i_FULL, i_0, j_0, i_1, j_1, i_2, j_2, i_3, j_3, i_4, j_4, i_5, j_5, i_6, j_6, i_7, j_7, i_8, j_8, i_9, j_9, i_40, j_40, i_60, j_60, i_59, j_59] at *); omega)] | rw [if_neg (by (try simp only [i_b10] at *); (try simp only [lg_lt, lg_gt, lg_le, lg_eq, j_lt, j_le, j_w, i_lt, i_le, i_eq, i_in, i_cl, i_m1, i_NONE, i_BAD, i_STATE, i_FULL, i_0, j_0, i_1, j_1, i_2, j_2, i_3, j_3, i_4, j_4, i_5, j_5, i_6, j_6, i_7, j_7, i_8, j_8, i_9, j_9, i_40, j_40, i_60, j_60, i_59, j_59] at *); omega)]))
  · refine r_p dX11_sheet_11 rfl rfl ?_
    refine r_ilt dX11_sheet_12 rfl (fun c12 => ?_) (fun c12 => ?_)
    · refine r_k dX11_sheet_26 kkX11_82 ?_
      exact r_ri dX11_sheet_28 rfl rfl (by unfold x_sheet; repeat (first | rw [if_pos (by (try simp only [i_b10] at *); (try simp only [lg_lt, lg_gt, lg_le, lg_eq, j_lt, j_le, j_w, i_lt, i_le, i_eq, i_in, i_cl, i_m1, i_NONE, i_BAD, i_STATE, i_FULL, i_0, j_0, i_1, j_1, i_2, j_2, i_3, j_3, i_4, j_4, i_5, j_5, i_6, j_6, i_7, j_7, i_8, j_8, i_9, j_9, i_40, j_40, i_60, j_60, i_59, j_59] at *); omega)] | rw [if_neg (by (try simp only [i_b10] at *); (try simp only [lg_lt, lg_gt, lg_le, lg_eq, j_lt, j_le, j_w, i_lt, i_le, i_eq, i_in, i_cl, i_m1, i_NONE, i_BAD, i_STATE, i_FULL, i_0, j_0, i_1, j_1, i_2, j_2, i_3, j_3, i_4, j_4, i_5, j_5, i_6, j_6, i_7, j_7, i_8, j_8, i_9, j_9, i_40, j_40, i_60, j_60, i_59, j_59] at *); omega)])) (by unfold x_sheet; repeat (first | rw [if_pos (by (try simp only [i_b10] at *); (try simp only [lg_lt, lg_gt, lg_le, lg_eq, j_lt, j_le, j_w, i_lt, i_le, i_eq, i_in, i_cl, i_m1, i_NONE, i_BAD, i_STATE, i_FULL, i_0, j_0, i_1, j_1, i_2, j_2, i_3, j_3, i_4, j_4, i_5, j_5, i_6, j_6, i_7, j_7, i_8, j_8, i_9, j_9, i_40, j_40, i_60, j_60, i_59, j_59] at *); omega)] | rw [if_neg (by (try simp only [i_b10] at *); (try simp only [lg_lt, lg_gt, lg_le, lg_eq, j_lt, j_le, j_w, i_lt, i_le, i_eq, i_in, i_cl, i_m1, i_NONE, i_BAD, i_STATE, i_FULL, i_0, j_0, i_1, j_1, i_2, j_2, i_3, j_3, i_4, j_4, i_5, j_5, i_6, j_6, i_7, j_7, i_8, j_8, i_9, j_9, i_40, j_40, i_60, j_60, i_59, j_59] at *); omega)]))
    · refine r_p dX11_sheet_15 rfl rfl ?_
      refine r_ci (x := 3) dX11_sheet_16 rfl ?_
      refine r_cge dX11_sheet_17 rfl (fun c17 => ?_) (fun c17 => ?_)
      · refine r_k dX11_sheet_26 kkX11_82 ?_
        exact r_ri dX11_sheet_28 rfl rfl (by unfold x_sheet; repeat (first | rw [if_pos (by (try simp only [i_b10] at *); (try simp only [lg_lt, lg_gt, lg_le, lg_eq, j_lt, j_le, j_w, i_lt, i_le, i_eq, i_in, i_cl, i_m1, i_NONE, i_BAD, i_STATE, i_FULL, i_0, j_0, i_1, j_1, i_2, j_2, i_3, j_3, i_4, j_4, i_5, j_5, i_6, j_6, i_7, j_7, i_8, j_8, i_9, j_9, i_40, j_40, i_60, j_60, i_59, j_59] at *); omega)] | rw [if_neg (by (try simp only [i_b10] at *); (try simp only [lg_lt, lg_gt, lg_le, lg_eq, j_lt, j_le, j_w, i_lt, i_le, i_eq, i_in, i_cl, i_m1, i_NONE, i_BAD, i_STATE, i_FULL, i_0, j_0, i_1, j_1, i_2, j_2, i_3, j_3, i_4, j_4, i_5, j_5, i_6, j_6, i_7, j_7, i_8, j_8, i_9, j_9, i_40, j_40, i_60, j_60, i_59, j_59] at *); omega)])) (by unfold x_sheet; repeat (first | rw [if_pos (by (try simp only [i_b10] at *); (try simp only [lg_lt, lg_gt, lg_le, lg_eq, j_lt, j_le, j_w, i_lt, i_le, i_eq, i_in, i_cl, i_m1, i_NONE, i_BAD, i_STATE, i_FULL, i_0, j_0, i_1, j_1, i_2, j_2, i_3, j_3, i_4, j_4, i_5, j_5, i_6, j_6, i_7, j_7, i_8, j_8, i_9, j_9, i_40, j_40, i_60, j_60, i_59, j_59] at *); omega)] | rw [if_neg (by (try simp only [i_b10] at *); (try simp only [lg_lt, lg_gt, lg_le, lg_eq, j_lt, j_le, j_w, i_lt, i_le, i_eq, i_in, i_cl, i_m1, i_NONE, i_BAD, i_STATE, i_FULL, i_0, j_0, i_1, j_1, i_2, j_2, i_3, j_3, i_4, j_4, i_5, j_5, i_6, j_6, i_7, j_7, i_8, j_8, i_9, j_9, i_40, j_40, i_60, j_60, i_59, j_59] at *); omega)]))
      · refine r_p dX11_sheet_20 rfl rfl ?_
        refine r_cb (x := 40) dX11_sheet_21 rfl ?_
        refine r_cle dX11_sheet_23 rfl (fun c23 => ?_) (fun c23 => ?_)
        · refine r_p dX11_sheet_29 rfl rfl ?_
          refine r_ige dX11_sheet_30 rfl (fun c30 => ?_) (fun c30 => ?_)
          · refine r_p dX11_sheet_39 rfl rfl ?_
            refine r_get dX11_sheet_40 fkX11_10 (by first | rfl | assumption) rfl ?_
            refine r_p dX11_sheet_43 rfl rfl ?_
            refine r_p dX11_sheet_44 rfl rfl ?_
            refine r_p dX11_sheet_45 rfl rfl ?_
            refine r_cv (d1 := 2) dX11_sheet_46 cvX11_87 rfl rfl (by first | rfl | assumption) rfl (Nat.le_of_ble_eq_true rfl) (Nat.le_of_ble_eq_true rfl) (Nat.le_of_ble_eq_true rfl) (c_lay s l n (by (try simp only [i_b10] at *); (try simp only [lg_lt, lg_gt, lg_le, lg_eq, j_lt, j_le, j_w, i_lt, i_le, i_eq, i_in, i_cl, i_m1, i_NONE, i_BAD, i_STATE, i_FULL, i_0, j_0, i_1, j_1, i_2, j_2, i_3, j_3, i_4, j_4, i_5, j_5, i_6, j_6, i_7, j_7, i_8, j_8, i_9, j_9, i_40, j_40, i_60, j_60, i_59, j_59] at *); omega)) ?_
            refine r_p dX11_sheet_49 rfl rfl ?_
            refine r_p dX11_sheet_50 rfl rfl ?_
            refine r_cv (d1 := 1) dX11_sheet_51 cvX11_91 rfl rfl (by first | rfl | assumption) rfl (Nat.le_of_ble_eq_true rfl) (Nat.le_of_ble_eq_true rfl) (Nat.le_of_ble_eq_true rfl) (c_fine n) ?_
            exact r_ri dX11_sheet_54 rfl rfl (by unfold x_sheet; repeat (first | rw [if_pos (by (try simp only [i_b10] at *); (try simp only [lg_lt, lg_gt, lg_le, lg_eq, j_lt, j_le, j_w, i_lt, i_le, i_eq, i_in, i_cl, i_m1, i_NONE, i_BAD, i_STATE, i_FULL, i_0, j_0, i_1, j_1, i_2, j_2, i_3, j_3, i_4, j_4, i_5, j_5, i_6, j_6, i_7, j_7, i_8, j_8, i_9, j_9, i_40, j_40, i_60, j_60, i_59, j_59] at *); omega)] | rw [if_neg (by (try simp only [i_b10] at *); (try simp only [lg_lt, lg_gt, lg_le, lg_eq, j_lt, j_le, j_w, i_lt, i_le, i_eq, i_in, i_cl, i_m1, i_NONE, i_BAD, i_STATE, i_FULL, i_0, j_0, i_1, j_1, i_2, j_2, i_3, j_3, i_4, j_4, i_5, j_5, i_6, j_6, i_7, j_7, i_8, j_8, i_9, j_9, i_40, j_40, i_60, j_60, i_59, j_59] at *); omega)])) (by unfold x_sheet; repeat (first | rw [if_pos (by (try simp only [i_b10] at *); (try simp only [lg_lt, lg_gt, lg_le, lg_eq, j_lt, j_le, j_w, i_lt, i_le, i_eq, i_in, i_cl, i_m1, i_NONE, i_BAD, i_STATE, i_FULL, i_0, j_0, i_1, j_1, i_2, j_2, i_3, j_3, i_4, j_4, i_5, j_5, i_6, j_6, i_7, j_7, i_8, j_8, i_9, j_9, i_40, j_40, i_60, j_60, i_59, j_59] at *); omega)] | rw [if_neg (by (try simp only [i_b10] at *); (try simp only [lg_lt, lg_gt, lg_le, lg_eq, j_lt, j_le, j_w, i_lt, i_le, i_eq, i_in, i_cl, i_m1, i_NONE, i_BAD, i_STATE, i_FULL, i_0, j_0, i_1, j_1, i_2, j_2, i_3, j_3, i_4, j_4, i_5, j_5, i_6, j_6, i_7, j_7, i_8, j_8, i_9, j_9, i_40, j_40, i_60, j_60, i_59, j_59] at *); omega)]))
          · refine r_p dX11_sheet_33 rfl rfl ?_
            refine r_ci (x := 4) dX11_sheet_34 rfl ?_
            refine r_cv (d1 := 1) dX11_sheet_35 cvX11_83 rfl rfl (by first | rfl | assumption) rfl (Nat.le_of_ble_eq_true rfl) (Nat.le_of_ble_eq_true rfl) (Nat.le_of_ble_eq_true rfl) (c_found 4) ?_
            exact r_ri dX11_sheet_38 rfl rfl (by unfold x_sheet; repeat (first | rw [if_pos (by (try simp only [i_b10] at *); (try simp only [lg_lt, lg_gt, lg_le, lg_eq, j_lt, j_le, j_w, i_lt, i_le, i_eq, i_in, i_cl, i_m1, i_NONE, i_BAD, i_STATE, i_FULL, i_0, j_0, i_1, j_1, i_2, j_2, i_3, j_3, i_4, j_4, i_5, j_5, i_6, j_6, i_7, j_7, i_8, j_8, i_9, j_9, i_40, j_40, i_60, j_60, i_59, j_59] at *); omega)] | rw [if_neg (by (try simp only [i_b10] at *); (try simp only [lg_lt, lg_gt, lg_le, lg_eq, j_lt, j_le, j_w, i_lt, i_le, i_eq, i_in, i_cl, i_m1, i_NONE, i_BAD, i_STATE, i_FULL, i_0, j_0, i_1, j_1, i_2, j_2, i_3, j_3, i_4, j_4, i_5, j_5, i_6, j_6, i_7, j_7, i_8, j_8, i_9, j_9, i_40, j_40, i_60, j_60, i_59, j_59] at *); omega)])) (by unfold x_sheet; repeat (first | rw [if_pos (by (try simp only [i_b10] at *); (try simp only [lg_lt, lg_gt, lg_le, lg_eq, j_lt, j_le, j_w, i_lt, i_le, i_eq, i_in, i_cl, i_m1, i_NONE, i_BAD, i_STATE, i_FULL, i_0, j_0, i_1, j_1, i_2, j_2, i_3, j_3, i_4, j_4, i_5, j_5, i_6, j_6, i_7, j_7, i_8, j_8, i_9, j_9, i_40, j_40, i_60, j_60, i_59, j_59] at *); omega)] | rw [if_neg (by (try simp only [i_b10] at *); (try simp only [lg_lt, lg_gt, lg_le, lg_eq, j_lt, j_le, j_w, i_lt, i_le, i_eq, i_in, i_cl, i_m1, i_NONE, i_BAD, i_STATE, i_FULL, i_0, j_0, i_1, j_1, i_2, j_2, i_3, j_3, i_4, j_4, i_5, j_5, i_6, j_6, i_7, j_7, i_8, j_8, i_9, j_9, i_40, j_40, i_60, j_60, i_59, j_59] at *); omega)]))
        · refine r_k dX11_sheet_26 kkX11_82 ?_
          exact r_ri dX11_sheet_28 rfl rfl (by unfold x_sheet; repeat (first | rw [if_pos (by (try simp only [i_b10] at *); (try simp only [lg_lt, lg_gt, lg_le, lg_eq, j_lt, j_le, j_w, i_lt, i_le, i_eq, i_in, i_cl, i_m1, i_NONE, i_BAD, i_STATE, i_FULL, i_0, j_0, i_1, j_1, i_2, j_2, i_3, j_3, i_4, j_4, i_5, j_5, i_6, j_6, i_7, j_7, i_8, j_8, i_9, j_9, i_40, j_40, i_60, j_60, i_59, j_59] at *); omega)] | rw [if_neg (by (try simp only [i_b10] at *); (try simp only [lg_lt, lg_gt, lg_le, lg_eq, j_lt, j_le, j_w, i_lt, i_le, i_eq, i_in, i_cl, i_m1, i_NONE, i_BAD, i_STATE, i_FULL, i_0, j_0, i_1, j_1, i_2, j_2, i_3, j_3, i_4, j_4, i_5, j_5, i_6, j_6, i_7, j_7, i_8, j_8, i_9, j_9, i_40, j_40, i_60, j_60, i_59, j_59] at *); omega)])) (by unfold x_sheet; repeat (first | rw [if_pos (by (try simp only [i_b10] at *); (try simp only [lg_lt, lg_gt, lg_le, lg_eq, j_lt, j_le, j_w, i_lt, i_le, i_eq, i_in, i_cl, i_m1, i_NONE, i_BAD, i_STATE, i_FULL, i_0, j_0, i_1, j_1, i_2, j_2, i_3, j_3, i_4, j_4, i_5, j_5, i_6, j_6, i_7, j_7, i_8, j_8, i_9, j_9, i_40, j_40, i_60, j_60, i_59, j_59] at *); omega)] | rw [if_neg (by (try simp only [i_b10] at *); (try simp only [lg_lt, lg_gt, lg_le, lg_eq, j_lt, j_le, j_w, i_lt, i_le, i_eq, i_in, i_cl, i_m1, i_NONE, i_BAD, i_STATE, i_FULL, i_0, j_0, i_1, j_1, i_2, j_2, i_3, j_3, i_4, j_4, i_5, j_5, i_6, j_6, i_7, j_7, i_8, j_8, i_9, j_9, i_40, j_40, i_60, j_60, i_59, j_59] at *); omega)]))
