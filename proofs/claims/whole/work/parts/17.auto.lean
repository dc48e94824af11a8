/-! ===== methods without loops ===== -/
theorem nar_b {x : Int32} (h : x = 0 ∨ x = 1) : narrow .boolean (.int x) = .int x := by rcases h with rfl | rfl <;> rfl
theorem fit_b {x : Int32} (h : x = 0 ∨ x = 1) : fits .boolean (.int x) = true := by rcases h with rfl | rfl <;> rfl
def cpok (sp dp c : Int32) (nb na : Nat) : Prop := ¬ sp < 0 ∧ ¬ dp < 0 ∧ ¬ c < 0 ∧ sp.toNatClampNeg + c.toNatClampNeg ≤ nb ∧ dp.toNatClampNeg + c.toNatClampNeg ≤ na
def x_isOne (T : St) (s : Int32) : Int32 := if 0 ≤ s ∧ s < 8 then 1 else 0
def x_AX12_in (T : St) (v : Int64) (lo : Int64) (hi : Int64) : Int32 := if (lg_cmp v lo) < 0 then (0) else (if 0 < (lg_cmp v hi) then (0) else (1))
theorem c_AX12_in {X : Nat × (Nat → Int32)} {T : St} (v : Int64) (lo : Int64) (hi : Int64) : tC X 1 mX12_in [.long v, .long lo, .long hi] T (some (.int (x_AX12_in T v lo hi))) T := by
  refine tC_of ?_
  refine r_p dX12_in_0 rfl rfl ?_
  refine r_p dX12_in_1 rfl rfl ?_
  refine r_p dX12_in_2 rfl rfl ?_
  refine r_ilt dX12_in_3 rfl (fun c3 => ?_) (fun c3 => ?_)
  · refine r_ci (x := 0) dX12_in_17 rfl ?_
    exact r_ri dX12_in_18 rfl rfl (by unfold x_AX12_in; rw [if_pos c3]) rfl
  · refine r_p dX12_in_6 rfl rfl ?_
    refine r_p dX12_in_7 rfl rfl ?_
    refine r_p dX12_in_9 rfl rfl ?_
    refine r_igt dX12_in_10 rfl (fun c10 => ?_) (fun c10 => ?_)
    · refine r_ci (x := 0) dX12_in_17 rfl ?_
      exact r_ri dX12_in_18 rfl rfl (by unfold x_AX12_in; rw [if_neg c3, if_pos c10]) rfl
    · refine r_ci (x := 1) dX12_in_13 rfl ?_
      refine r_go dX12_in_14 rfl ?_
      exact r_ri dX12_in_18 rfl rfl (by unfold x_AX12_in; rw [if_neg c3, if_neg c10]) rfl
theorem b_AX12_in (T : St) (v : Int64) (lo : Int64) (hi : Int64) : x_AX12_in T v lo hi = 0 ∨ x_AX12_in T v lo hi = 1 := by
  unfold x_AX12_in
  repeat' split
  all_goals (first | exact Or.inl rfl | exact Or.inr rfl)
def x_AX12_isSheet (T : St) (s : Int32) : Int32 := x_AX12_in T ((s : Int32).toInt64) 0 7
theorem c_AX12_isSheet {X : Nat × (Nat → Int32)} {T : St} (s : Int32) : tC X 2 mX12_isSheet [.int s] T (some (.int (x_AX12_isSheet T s))) T := by
  refine tC_of ?_
  refine r_p dX12_isSheet_0 rfl rfl ?_
  refine r_p dX12_isSheet_1 rfl rfl ?_
  refine r_cl (x := 0) dX12_isSheet_2 rfl ?_
  refine r_kl dX12_isSheet_3 klX12_109 ?_
  refine r_cs (d1 := 1) dX12_isSheet_6 csX12_111 rfl rfl (Nat.le_of_ble_eq_true rfl) (Nat.le_of_ble_eq_true rfl) (Nat.le_of_ble_eq_true rfl) (c_AX12_in ((s : Int32).toInt64) 0 7) ?_
  exact r_ri dX12_isSheet_9 rfl (nar_b (b_AX12_in T ((s : Int32).toInt64) 0 7)) rfl rfl
theorem b_AX12_isSheet (T : St) (s : Int32) : x_AX12_isSheet T s = 0 ∨ x_AX12_isSheet T s = 1 := by
  unfold x_AX12_isSheet
  repeat' split
  all_goals (first | exact Or.inl rfl | exact Or.inr rfl | apply b_AX12_in)
def x_AX12_finding (T : St) (n : Int32) : Int32 × St := ((-1000010) - n, sF T 571 1 n)
theorem c_AX12_finding {X : Nat × (Nat → Int32)} {T : St} (n : Int32) : tC X 1 mX12_finding [.ref 571, .int n] T (some (.int ((x_AX12_finding T n).1))) ((x_AX12_finding T n).2) := by
  refine tC_of ?_
  refine r_p dX12_finding_0 rfl rfl ?_
  refine r_p dX12_finding_1 rfl rfl ?_
  refine r_put dX12_finding_2 fkX12_105 rfl rfl rfl (Nat.le_of_ble_eq_true rfl) rfl rfl ?_
  refine r_k dX12_finding_5 kkX12_108 ?_
  refine r_p dX12_finding_7 rfl rfl ?_
  refine r_p dX12_finding_8 rfl rfl ?_
  exact r_ri dX12_finding_9 rfl rfl rfl rfl
def x_AX8_isMissing (T : St) (s : Int32) : Int32 := if (T.2.2.1 2 (s : Int32).toNatClampNeg) = (-1) then (1) else (0)
def ok_AX8_isMissing (T : St) (s : Int32) : Prop := (vp_in s 8) ∧ True
theorem c_AX8_isMissing {X : Nat × (Nat → Int32)} {T : St} (s : Int32) (kk : ok_AX8_isMissing T s) : tC X 1 mX8_isMissing [.ref 1, .int s] T (some (.int (x_AX8_isMissing T s))) T := by
  unfold ok_AX8_isMissing at kk
  refine tC_of ?_
  refine r_p dX8_isMissing_0 rfl rfl ?_
  refine r_get dX8_isMissing_1 fkX8_9 rfl rfl ?_
  refine r_p dX8_isMissing_4 rfl rfl ?_
  obtain ⟨q0, kk⟩ := kk
  refine r_ia dX8_isMissing_5 rfl q0 ?_
  refine r_ci (x := -1) dX8_isMissing_6 rfl ?_
  refine r_cne dX8_isMissing_7 rfl (fun c7 => ?_) (fun c7 => ?_)
  · refine r_ci (x := 0) dX8_isMissing_14 rfl ?_
    exact r_ri dX8_isMissing_15 rfl rfl (by unfold x_AX8_isMissing; rw [if_neg c7]) rfl
  · refine r_ci (x := 1) dX8_isMissing_10 rfl ?_
    refine r_go dX8_isMissing_11 rfl ?_
    exact r_ri dX8_isMissing_15 rfl rfl (by unfold x_AX8_isMissing; rw [if_pos c7]) rfl
theorem b_AX8_isMissing (T : St) (s : Int32) : x_AX8_isMissing T s = 0 ∨ x_AX8_isMissing T s = 1 := by
  unfold x_AX8_isMissing
  repeat' split
  all_goals (first | exact Or.inl rfl | exact Or.inr rfl)
def x_AX8_reaches (T : St) (s : Int32) (i : Int32) (n : Int32) : Int32 := if i < 0 then (0) else (if n < 0 then (0) else (if (T.2.2.1 3 (s : Int32).toNatClampNeg) < n then (0) else (if ((T.2.2.1 3 (s : Int32).toNatClampNeg) - n) < i then (0) else (1))))
def ok_AX8_reaches (T : St) (s : Int32) (i : Int32) (n : Int32) : Prop := (¬ i < 0 → (¬ n < 0 → (vp_in s 8) ∧ True))
theorem c_AX8_reaches {X : Nat × (Nat → Int32)} {T : St} (s : Int32) (i : Int32) (n : Int32) (kk : ok_AX8_reaches T s i n) : tC X 1 mX8_reaches [.ref 1, .int s, .int i, .int n] T (some (.int (x_AX8_reaches T s i n))) T := by
  unfold ok_AX8_reaches at kk
  refine tC_of ?_
  refine r_p dX8_reaches_0 rfl rfl ?_
  refine r_ilt dX8_reaches_1 rfl (fun c1 => ?_) (fun c1 => ?_)
  · refine r_ci (x := 0) dX8_reaches_34 rfl ?_
    exact r_ri dX8_reaches_35 rfl rfl (by unfold x_AX8_reaches; rw [if_pos c1]) rfl
  · have kk := kk c1
    refine r_p dX8_reaches_4 rfl rfl ?_
    refine r_ilt dX8_reaches_5 rfl (fun c5 => ?_) (fun c5 => ?_)
    · refine r_ci (x := 0) dX8_reaches_34 rfl ?_
      exact r_ri dX8_reaches_35 rfl rfl (by unfold x_AX8_reaches; rw [if_neg c1, if_pos c5]) rfl
    · have kk := kk c5
      refine r_p dX8_reaches_8 rfl rfl ?_
      refine r_p dX8_reaches_9 rfl rfl ?_
      refine r_get dX8_reaches_10 fkX8_13 rfl rfl ?_
      refine r_p dX8_reaches_13 rfl rfl ?_
      obtain ⟨q0, kk⟩ := kk
      refine r_ia dX8_reaches_14 rfl q0 ?_
      refine r_cgt dX8_reaches_15 rfl (fun c15 => ?_) (fun c15 => ?_)
      · refine r_ci (x := 0) dX8_reaches_34 rfl ?_
        exact r_ri dX8_reaches_35 rfl rfl (by unfold x_AX8_reaches; rw [if_neg c1, if_neg c5, if_pos c15]) rfl
      · refine r_p dX8_reaches_18 rfl rfl ?_
        refine r_p dX8_reaches_19 rfl rfl ?_
        refine r_get dX8_reaches_20 fkX8_13 rfl rfl ?_
        refine r_p dX8_reaches_23 rfl rfl ?_
        refine r_ia dX8_reaches_24 rfl q0 ?_
        refine r_p dX8_reaches_25 rfl rfl ?_
        refine r_p dX8_reaches_26 rfl rfl ?_
        refine r_cgt dX8_reaches_27 rfl (fun c27 => ?_) (fun c27 => ?_)
        · refine r_ci (x := 0) dX8_reaches_34 rfl ?_
          exact r_ri dX8_reaches_35 rfl rfl (by unfold x_AX8_reaches; rw [if_neg c1, if_neg c5, if_neg c15, if_pos c27]) rfl
        · refine r_ci (x := 1) dX8_reaches_30 rfl ?_
          refine r_go dX8_reaches_31 rfl ?_
          exact r_ri dX8_reaches_35 rfl rfl (by unfold x_AX8_reaches; rw [if_neg c1, if_neg c5, if_neg c15, if_neg c27]) rfl
theorem b_AX8_reaches (T : St) (s : Int32) (i : Int32) (n : Int32) : x_AX8_reaches T s i n = 0 ∨ x_AX8_reaches T s i n = 1 := by
  unfold x_AX8_reaches
  repeat' split
  all_goals (first | exact Or.inl rfl | exact Or.inr rfl)
def x_AX8_lose (T : St) (s : Int32) : Int32 × St := ((sA T 2 (s : Int32).toNatClampNeg (-1)).2.2.1 3 (s : Int32).toNatClampNeg, sA T 2 (s : Int32).toNatClampNeg (-1))
def ok_AX8_lose (T : St) (s : Int32) : Prop := (vp_in s 8) ∧ True
theorem c_AX8_lose {X : Nat × (Nat → Int32)} {T : St} (s : Int32) (kk : ok_AX8_lose T s) : tC X 1 mX8_lose [.ref 1, .int s] T (some (.int ((x_AX8_lose T s).1))) ((x_AX8_lose T s).2) := by
  unfold ok_AX8_lose at kk
  refine tC_of ?_
  refine r_p dX8_lose_0 rfl rfl ?_
  refine r_get dX8_lose_1 fkX8_9 rfl rfl ?_
  refine r_p dX8_lose_4 rfl rfl ?_
  refine r_ci (x := -1) dX8_lose_5 rfl ?_
  obtain ⟨q0, kk⟩ := kk
  refine r_ias dX8_lose_6 rfl q0 ?_
  refine r_p dX8_lose_7 rfl rfl ?_
  refine r_get dX8_lose_8 fkX8_13 rfl rfl ?_
  refine r_p dX8_lose_11 rfl rfl ?_
  refine r_ia dX8_lose_12 rfl q0 ?_
  exact r_ri dX8_lose_13 rfl rfl rfl rfl
def x_AX8_write (T : St) (s : Int32) (i : Int32) (v : Int32) : Int32 × St := if (T.2.2.1 2 (s : Int32).toNatClampNeg) = 0 then ((v : Int32).toInt8.toInt32, sA T (5 + (s : Int32).toNatClampNeg) (i : Int32).toNatClampNeg ((v : Int32).toInt8.toInt32)) else (if (T.2.2.1 2 (s : Int32).toNatClampNeg) = 1 then ((v : Int32).toInt16.toInt32, sA T (5 + (s : Int32).toNatClampNeg) (i : Int32).toNatClampNeg ((v : Int32).toInt16.toInt32)) else (v, sA T (5 + (s : Int32).toNatClampNeg) (i : Int32).toNatClampNeg v))
def ok_AX8_write (T : St) (s : Int32) (i : Int32) (v : Int32) : Prop := (vp_in s 8) ∧ (((T.2.2.1 2 (s : Int32).toNatClampNeg) = 0 → (sh (5 + (s : Int32).toNatClampNeg) = .inl (0, 40)) ∧ (vp_in i 40) ∧ True) ∧ (¬ (T.2.2.1 2 (s : Int32).toNatClampNeg) = 0 → (((T.2.2.1 2 (s : Int32).toNatClampNeg) = 1 → (sh (5 + (s : Int32).toNatClampNeg) = .inl (0, 40)) ∧ (vp_in i 40) ∧ True) ∧ (¬ (T.2.2.1 2 (s : Int32).toNatClampNeg) = 1 → (sh (5 + (s : Int32).toNatClampNeg) = .inl (0, 40)) ∧ (vp_in i 40) ∧ True))))
theorem c_AX8_write {X : Nat × (Nat → Int32)} {T : St} (s : Int32) (i : Int32) (v : Int32) (kk : ok_AX8_write T s i v) : tC X 1 mX8_write [.ref 1, .int s, .int i, .int v] T (some (.int ((x_AX8_write T s i v).1))) ((x_AX8_write T s i v).2) := by
  unfold ok_AX8_write at kk
  refine tC_of ?_
  refine r_p dX8_write_0 rfl rfl ?_
  refine r_get dX8_write_1 fkX8_9 rfl rfl ?_
  refine r_p dX8_write_4 rfl rfl ?_
  obtain ⟨q0, kk⟩ := kk
  refine r_ia dX8_write_5 rfl q0 ?_
  refine r_ine dX8_write_6 rfl (fun c6 => ?_) (fun c6 => ?_)
  · have kk := kk.2 c6
    refine r_p dX8_write_14 rfl rfl ?_
    refine r_get dX8_write_15 fkX8_9 rfl rfl ?_
    refine r_p dX8_write_18 rfl rfl ?_
    refine r_ia dX8_write_19 rfl q0 ?_
    refine r_ci (x := 1) dX8_write_20 rfl ?_
    refine r_cne dX8_write_21 rfl (fun c21 => ?_) (fun c21 => ?_)
    · have kk := kk.2 c21
      refine r_p dX8_write_29 rfl rfl ?_
      refine r_p dX8_write_30 rfl rfl ?_
      refine r_p dX8_write_32 rfl rfl ?_
      refine r_get dX8_write_33 fkX8_18 rfl rfl ?_
      refine r_p dX8_write_36 rfl rfl ?_
      refine r_aa dX8_write_37 rfl (by decide) q0 (rf4 q0) ?_
      refine r_p dX8_write_38 rfl rfl ?_
      refine r_p dX8_write_39 rfl rfl ?_
      obtain ⟨q1, kk⟩ := kk
      obtain ⟨q2, kk⟩ := kk
      refine r_ias dX8_write_41 q1 q2 ?_
      refine r_p dX8_write_42 rfl rfl ?_
      exact r_ri dX8_write_44 rfl rfl (by unfold x_AX8_write; rw [if_neg c6, if_neg c21]) (by unfold x_AX8_write; rw [if_neg c6, if_neg c21])
    · have kk := kk.1 c21
      refine r_p dX8_write_24 rfl rfl ?_
      refine r_p dX8_write_25 rfl rfl ?_
      refine r_go dX8_write_26 rfl ?_
      refine r_p dX8_write_30 rfl rfl ?_
      refine r_p dX8_write_32 rfl rfl ?_
      refine r_get dX8_write_33 fkX8_18 rfl rfl ?_
      refine r_p dX8_write_36 rfl rfl ?_
      refine r_aa dX8_write_37 rfl (by decide) q0 (rf4 q0) ?_
      refine r_p dX8_write_38 rfl rfl ?_
      refine r_p dX8_write_39 rfl rfl ?_
      obtain ⟨q3, kk⟩ := kk
      obtain ⟨q4, kk⟩ := kk
      refine r_ias dX8_write_41 q3 q4 ?_
      refine r_p dX8_write_42 rfl rfl ?_
      exact r_ri dX8_write_44 rfl rfl (by unfold x_AX8_write; rw [if_neg c6, if_pos c21]) (by unfold x_AX8_write; rw [if_neg c6, if_pos c21])
  · have kk := kk.1 c6
    refine r_p dX8_write_9 rfl rfl ?_
    refine r_p dX8_write_10 rfl rfl ?_
    refine r_go dX8_write_11 rfl ?_
    refine r_p dX8_write_30 rfl rfl ?_
    refine r_p dX8_write_32 rfl rfl ?_
    refine r_get dX8_write_33 fkX8_18 rfl rfl ?_
    refine r_p dX8_write_36 rfl rfl ?_
    refine r_aa dX8_write_37 rfl (by decide) q0 (rf4 q0) ?_
    refine r_p dX8_write_38 rfl rfl ?_
    refine r_p dX8_write_39 rfl rfl ?_
    obtain ⟨q5, kk⟩ := kk
    obtain ⟨q6, kk⟩ := kk
    refine r_ias dX8_write_41 q5 q6 ?_
    refine r_p dX8_write_42 rfl rfl ?_
    exact r_ri dX8_write_44 rfl rfl (by unfold x_AX8_write; rw [if_pos c6]) (by unfold x_AX8_write; rw [if_pos c6])
def x_AX11_found (T : St) (n : Int32) : Int32 × St := ((-1000010) - n, sF T 0 12 n)
theorem c_AX11_found {X : Nat × (Nat → Int32)} {T : St} (n : Int32) : tC X 1 mX11_found [.ref 0, .int n] T (some (.int ((x_AX11_found T n).1))) ((x_AX11_found T n).2) := by
  refine tC_of ?_
  refine r_p dX11_found_0 rfl rfl ?_
  refine r_p dX11_found_1 rfl rfl ?_
  refine r_put dX11_found_2 fkX11_354 rfl rfl rfl (Nat.le_of_ble_eq_true rfl) rfl rfl ?_
  refine r_kw dX11_found_5 kkX11_357 ?_
  refine r_p dX11_found_8 rfl rfl ?_
  refine r_p dX11_found_9 rfl rfl ?_
  exact r_ri dX11_found_10 rfl rfl rfl rfl
def x_AX11_fine (T : St) (n : Int32) : Int32 × St := (n, sF T 0 12 0)
theorem c_AX11_fine {X : Nat × (Nat → Int32)} {T : St} (n : Int32) : tC X 1 mX11_fine [.ref 0, .int n] T (some (.int ((x_AX11_fine T n).1))) ((x_AX11_fine T n).2) := by
  refine tC_of ?_
  refine r_p dX11_fine_0 rfl rfl ?_
  refine r_ci (x := 0) dX11_fine_1 rfl ?_
  refine r_put dX11_fine_2 fkX11_354 rfl rfl rfl (Nat.le_of_ble_eq_true rfl) rfl rfl ?_
  refine r_p dX11_fine_5 rfl rfl ?_
  exact r_ri dX11_fine_6 rfl rfl rfl rfl
def x_AX12_drop (T : St) (s : Int32) : Int32 × St := if (x_AX12_isSheet (sF T 571 0 0) s) = 0 then ((-1000001), sF T 571 0 0) else (if 0 ≤ ((sF (sF T 571 0 0) 571 1 0).2.2.1 572 (s : Int32).toNatClampNeg) then ((sA (sF (sF T 571 0 0) 571 1 0) 572 (s : Int32).toNatClampNeg (-1)).2.2.1 573 (s : Int32).toNatClampNeg, sA (sF (sF T 571 0 0) 571 1 0) 572 (s : Int32).toNatClampNeg (-1)) else ((x_AX12_finding (sF (sF T 571 0 0) 571 1 0) 1).1, (x_AX12_finding (sF (sF T 571 0 0) 571 1 0) 1).2))
def ok_AX12_drop (T : St) (s : Int32) : Prop := (¬ (x_AX12_isSheet (sF T 571 0 0) s) = 0 → (vp_in s 8) ∧ True)
theorem c_AX12_drop {X : Nat × (Nat → Int32)} {T : St} (s : Int32) (kk : ok_AX12_drop T s) : tC X 3 mX12_drop [.ref 571, .int s] T (some (.int ((x_AX12_drop T s).1))) ((x_AX12_drop T s).2) := by
  unfold ok_AX12_drop at kk
  refine tC_of ?_
  refine r_p dX12_drop_0 rfl rfl ?_
  refine r_ci (x := 0) dX12_drop_1 rfl ?_
  refine r_put dX12_drop_2 fkX12_101 rfl rfl rfl (Nat.le_of_ble_eq_true rfl) rfl rfl ?_
  refine r_p dX12_drop_5 rfl rfl ?_
  refine r_cs (d1 := 2) dX12_drop_6 csX12_115 rfl rfl (Nat.le_of_ble_eq_true rfl) (Nat.le_of_ble_eq_true rfl) (Nat.le_of_ble_eq_true rfl) (c_AX12_isSheet s) ?_
  refine r_ine dX12_drop_9 rfl (fun c9 => ?_) (fun c9 => ?_)
  · have kk := kk c9
    refine r_p dX12_drop_15 rfl rfl ?_
    refine r_ci (x := 0) dX12_drop_16 rfl ?_
    refine r_put dX12_drop_17 fkX12_105 rfl rfl rfl (Nat.le_of_ble_eq_true rfl) rfl rfl ?_
    refine r_p dX12_drop_20 rfl rfl ?_
    refine r_get dX12_drop_21 fkX12_7 rfl rfl ?_
    refine r_p dX12_drop_24 rfl rfl ?_
    obtain ⟨q0, kk⟩ := kk
    refine r_ia dX12_drop_25 rfl q0 ?_
    refine r_ige dX12_drop_26 rfl (fun c26 => ?_) (fun c26 => ?_)
    · refine r_p dX12_drop_35 rfl rfl ?_
      refine r_get dX12_drop_36 fkX12_7 rfl rfl ?_
      refine r_p dX12_drop_39 rfl rfl ?_
      refine r_ci (x := -1) dX12_drop_40 rfl ?_
      refine r_ias dX12_drop_41 rfl q0 ?_
      refine r_p dX12_drop_42 rfl rfl ?_
      refine r_get dX12_drop_43 fkX12_13 rfl rfl ?_
      refine r_p dX12_drop_46 rfl rfl ?_
      refine r_ia dX12_drop_47 rfl q0 ?_
      exact r_ri dX12_drop_48 rfl rfl (by unfold x_AX12_drop; rw [if_neg c9, if_pos c26]) (by unfold x_AX12_drop; rw [if_neg c9, if_pos c26])
    · refine r_p dX12_drop_29 rfl rfl ?_
      refine r_ci (x := 1) dX12_drop_30 rfl ?_
      refine r_cv (d1 := 1) dX12_drop_31 cvX12_122 rfl rfl rfl rfl (Nat.le_of_ble_eq_true rfl) (Nat.le_of_ble_eq_true rfl) (Nat.le_of_ble_eq_true rfl) (c_AX12_finding 1) ?_
      exact r_ri dX12_drop_34 rfl rfl (by unfold x_AX12_drop; rw [if_neg c9, if_neg c26]) (by unfold x_AX12_drop; rw [if_neg c9, if_neg c26])
  · refine r_k dX12_drop_12 kkX12_121 ?_
    exact r_ri dX12_drop_14 rfl rfl (by unfold x_AX12_drop; rw [if_pos c9]) (by unfold x_AX12_drop; rw [if_pos c9])
