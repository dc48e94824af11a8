def x_ask_isKind (T : St) (p0 : Int32) (p1 : Int32) : Int32 := if p0 = p1 then (1) else (if (([0, 0, 0, 0, 0, 4, 1] : List Int32).getD (p0 : Int32).toNatClampNeg 0) = p1 then (1) else (if p1 = 0 then (1) else (0)))
def ok_ask_isKind (T : St) (p0 : Int32) (p1 : Int32) : Prop := (¬ p0 = p1 → (vp_in p0 7) ∧ True)
theorem c_ask_isKind {X : Nat × (Nat → Int32)} {T : St} (p0 : Int32) (p1 : Int32) (kk : ok_ask_isKind T p0 p1) : tC X 1 mX0_isKind [.ref 555, .int p0, .int p1] T (some (.int (x_ask_isKind T p0 p1))) T := by
  unfold ok_ask_isKind at kk
  refine tC_of ?_
  refine r_p dX0_isKind_0 rfl rfl ?_
  refine r_p dX0_isKind_1 rfl rfl ?_
  refine r_ceq dX0_isKind_2 rfl (fun c2_1 => ?_) (fun c2_1 => ?_)
  · refine r_ci (x := 1) dX0_isKind_18 rfl ?_
    refine r_go dX0_isKind_19 rfl ?_
    exact r_eIp (r' := 1) (by unfold x_ask_isKind; rw [if_pos c2_1]) (r_ri dX0_isKind_23 rfl rfl rfl rfl)
  · have kk := kk c2_1
    refine r_gs 3 rfl dX0_isKind_5 gsX0_13 ?_
    refine r_p dX0_isKind_8 rfl rfl ?_
    obtain ⟨q1, kk⟩ := kk
    refine r_ta (j := 3) rfl dX0_isKind_9 q1 ?_
    refine r_p dX0_isKind_10 rfl rfl ?_
    refine r_ceq dX0_isKind_11 rfl (fun c11_2 => ?_) (fun c11_2 => ?_)
    · refine r_ci (x := 1) dX0_isKind_18 rfl ?_
      refine r_go dX0_isKind_19 rfl ?_
      exact r_eIp (r' := 1) (by unfold x_ask_isKind; rw [if_neg c2_1, if_pos c11_2]) (r_ri dX0_isKind_23 rfl rfl rfl rfl)
    · refine r_p dX0_isKind_14 rfl rfl ?_
      refine r_ine dX0_isKind_15 rfl (fun c15_3 => ?_) (fun c15_3 => ?_)
      · refine r_ci (x := 0) dX0_isKind_22 rfl ?_
        exact r_eIp (r' := 0) (by unfold x_ask_isKind; rw [if_neg c2_1, if_neg c11_2, if_neg c15_3]) (r_ri dX0_isKind_23 rfl rfl rfl rfl)
      · refine r_ci (x := 1) dX0_isKind_18 rfl ?_
        refine r_go dX0_isKind_19 rfl ?_
        exact r_eIp (r' := 1) (by unfold x_ask_isKind; rw [if_neg c2_1, if_neg c11_2, if_pos c15_3]) (r_ri dX0_isKind_23 rfl rfl rfl rfl)
theorem b_ask_isKind (T : St) (p0 : Int32) (p1 : Int32) : x_ask_isKind T p0 p1 = 0 ∨ x_ask_isKind T p0 p1 = 1 := by
  unfold x_ask_isKind
  repeat' split
  all_goals (first | exact Or.inl rfl | exact Or.inr rfl)
def x_ask_begin (T : St) (p0 : Int32) : St := if 16 ≤ (T.1 555 1) then (T) else (sF (sA T 556 (T.1 555 1 : Int32).toNatClampNeg p0) 555 1 (((sA T 556 (T.1 555 1 : Int32).toNatClampNeg p0).1 555 1) + 1))
def ok_ask_begin (T : St) (p0 : Int32) : Prop := (¬ 16 ≤ (T.1 555 1) → (vp_in (T.1 555 1) 16) ∧ True)
theorem c_ask_begin {X : Nat × (Nat → Int32)} {T : St} (p0 : Int32) (kk : ok_ask_begin T p0) : tC X 1 mX0_begin [.ref 555, .int p0] T none (x_ask_begin T p0) := by
  unfold ok_ask_begin at kk
  refine tC_of ?_
  refine r_p dX0_begin_0 rfl rfl ?_
  refine r_get dX0_begin_1 fkX0_16 rfl rfl ?_
  refine r_cb (x := 16) dX0_begin_4 rfl ?_
  refine r_cge dX0_begin_6 rfl (fun c6_1 => ?_) (fun c6_1 => ?_)
  · exact r_eV (r' := T) (by unfold x_ask_begin; rw [if_pos c6_1]) (r_rv dX0_begin_29 rfl rfl rfl)
  · have kk := kk c6_1
    refine r_p dX0_begin_9 rfl rfl ?_
    refine r_get dX0_begin_10 fkX0_9 rfl rfl ?_
    refine r_p dX0_begin_13 rfl rfl ?_
    refine r_get dX0_begin_14 fkX0_16 rfl rfl ?_
    refine r_p dX0_begin_17 rfl rfl ?_
    obtain ⟨q1, kk⟩ := kk
    refine r_ias dX0_begin_18 rfl q1 ?_
    refine r_p dX0_begin_19 rfl rfl ?_
    refine r_p dX0_begin_20 rfl rfl ?_
    refine r_get dX0_begin_21 fkX0_16 rfl rfl ?_
    refine r_ci (x := 1) dX0_begin_24 rfl ?_
    refine r_p dX0_begin_25 rfl rfl ?_
    refine r_put dX0_begin_26 fkX0_16 rfl rfl rfl (Nat.le_of_ble_eq_true rfl) rfl rfl ?_
    exact r_eV (r' := (sF (sA T 556 (T.1 555 1 : Int32).toNatClampNeg p0) 555 1 (((sA T 556 (T.1 555 1 : Int32).toNatClampNeg p0).1 555 1) + 1))) (by unfold x_ask_begin; rw [if_neg c6_1]) (r_rv dX0_begin_29 rfl rfl rfl)
def x_ask_sizeOfAny (T : St) (p0 : Nat) (p1 : Int32) : Int32 × St := ((x_ask_begin T 10).2.2.1 (p0 + 10) (p1 : Int32).toNatClampNeg, x_ask_begin T 10)
def ok_ask_sizeOfAny (T : St) (p0 : Nat) (p1 : Int32) : Prop := (ok_ask_begin T 10) ∧ (sh p0 = .inr 1) ∧ (sh (p0 + 10) = .inl (0, 24)) ∧ (vp_in p1 24) ∧ True
theorem c_ask_sizeOfAny {X : Nat × (Nat → Int32)} {T : St} (p0 : Nat) (p1 : Int32) (kk : ok_ask_sizeOfAny T p0 p1) : tC X 2 mX0_sizeOfAny [.ref 555, .ref p0, .int p1] T (some (.int (x_ask_sizeOfAny T p0 p1).1)) ((x_ask_sizeOfAny T p0 p1).2) := by
  unfold ok_ask_sizeOfAny at kk
  refine tC_of ?_
  refine r_p dX0_sizeOfAny_0 rfl rfl ?_
  refine r_cb (x := 10) dX0_sizeOfAny_1 rfl ?_
  obtain ⟨q1, kk⟩ := kk
  refine r_cv (d1 := 1) dX0_sizeOfAny_3 cvX0_37 rfl rfl rfl rfl (Nat.le_of_ble_eq_true rfl) (Nat.le_of_ble_eq_true rfl) (Nat.le_of_ble_eq_true rfl) (c_ask_begin 10 q1) ?_
  refine r_p dX0_sizeOfAny_6 rfl rfl ?_
  obtain ⟨q2, kk⟩ := kk
  refine r_get dX0_sizeOfAny_7 fkX0_50 q2 rfl ?_
  refine r_p dX0_sizeOfAny_10 rfl rfl ?_
  obtain ⟨q3, kk⟩ := kk
  obtain ⟨q4, kk⟩ := kk
  refine r_ia dX0_sizeOfAny_11 q3 q4 ?_
  exact r_eI (r' := ((x_ask_begin T 10).2.2.1 (p0 + 10) (p1 : Int32).toNatClampNeg, x_ask_begin T 10)) (by unfold x_ask_sizeOfAny; rfl) (r_ri dX0_sizeOfAny_12 rfl rfl rfl rfl)
def x_ask_sizeOfRinged (T : St) (p0 : Nat) (p1 : Int32) : Int32 × St := (((x_ask_sizeOfAny (x_ask_begin T 11) p0 p1).1) + (10 * (((x_ask_sizeOfAny (x_ask_begin T 11) p0 p1).2).2.2.1 (p0 + 13) (p1 : Int32).toNatClampNeg)), (x_ask_sizeOfAny (x_ask_begin T 11) p0 p1).2)
def ok_ask_sizeOfRinged (T : St) (p0 : Nat) (p1 : Int32) : Prop := (ok_ask_begin T 11) ∧ (ok_ask_sizeOfAny (x_ask_begin T 11) p0 p1) ∧ (sh p0 = .inr 1) ∧ (sh (p0 + 13) = .inl (0, 24)) ∧ (vp_in p1 24) ∧ True
theorem c_ask_sizeOfRinged {X : Nat × (Nat → Int32)} {T : St} (p0 : Nat) (p1 : Int32) (kk : ok_ask_sizeOfRinged T p0 p1) : tC X 3 mX0_sizeOfRinged [.ref 555, .ref p0, .int p1] T (some (.int (x_ask_sizeOfRinged T p0 p1).1)) ((x_ask_sizeOfRinged T p0 p1).2) := by
  unfold ok_ask_sizeOfRinged at kk
  refine tC_of ?_
  refine r_p dX0_sizeOfRinged_0 rfl rfl ?_
  refine r_cb (x := 11) dX0_sizeOfRinged_1 rfl ?_
  obtain ⟨q1, kk⟩ := kk
  refine r_cv (d1 := 1) dX0_sizeOfRinged_3 cvX0_37 rfl rfl rfl rfl (Nat.le_of_ble_eq_true rfl) (Nat.le_of_ble_eq_true rfl) (Nat.le_of_ble_eq_true rfl) (c_ask_begin 11 q1) ?_
  refine r_p dX0_sizeOfRinged_6 rfl rfl ?_
  refine r_p dX0_sizeOfRinged_7 rfl rfl ?_
  refine r_p dX0_sizeOfRinged_8 rfl rfl ?_
  obtain ⟨q2, kk⟩ := kk
  refine r_cv (d1 := 2) dX0_sizeOfRinged_9 cvX0_41 rfl rfl rfl rfl (Nat.le_of_ble_eq_true rfl) (Nat.le_of_ble_eq_true rfl) (Nat.le_of_ble_eq_true rfl) (c_ask_sizeOfAny p0 p1 q2) ?_
  refine r_cb (x := 10) dX0_sizeOfRinged_12 rfl ?_
  refine r_p dX0_sizeOfRinged_14 rfl rfl ?_
  obtain ⟨q3, kk⟩ := kk
  refine r_get dX0_sizeOfRinged_15 fkX0_47 q3 rfl ?_
  refine r_p dX0_sizeOfRinged_18 rfl rfl ?_
  obtain ⟨q4, kk⟩ := kk
  obtain ⟨q5, kk⟩ := kk
  refine r_ia dX0_sizeOfRinged_19 q4 q5 ?_
  refine r_p dX0_sizeOfRinged_20 rfl rfl ?_
  refine r_p dX0_sizeOfRinged_21 rfl rfl ?_
  exact r_eI (r' := (((x_ask_sizeOfAny (x_ask_begin T 11) p0 p1).1) + (10 * (((x_ask_sizeOfAny (x_ask_begin T 11) p0 p1).2).2.2.1 (p0 + 13) (p1 : Int32).toNatClampNeg)), (x_ask_sizeOfAny (x_ask_begin T 11) p0 p1).2)) (by unfold x_ask_sizeOfRinged; rfl) (r_ri dX0_sizeOfRinged_22 rfl rfl rfl rfl)
def x_ask_markOfAny (T : St) (p0 : Int32) : Int32 × St := (p0, x_ask_begin T 20)
def ok_ask_markOfAny (T : St) (p0 : Int32) : Prop := (ok_ask_begin T 20) ∧ True
theorem c_ask_markOfAny {X : Nat × (Nat → Int32)} {T : St} (p0 : Int32) (kk : ok_ask_markOfAny T p0) : tC X 2 mX0_markOfAny [.ref 555, .int p0] T (some (.int (x_ask_markOfAny T p0).1)) ((x_ask_markOfAny T p0).2) := by
  unfold ok_ask_markOfAny at kk
  refine tC_of ?_
  refine r_p dX0_markOfAny_0 rfl rfl ?_
  refine r_cb (x := 20) dX0_markOfAny_1 rfl ?_
  obtain ⟨q1, kk⟩ := kk
  refine r_cv (d1 := 1) dX0_markOfAny_3 cvX0_37 rfl rfl rfl rfl (Nat.le_of_ble_eq_true rfl) (Nat.le_of_ble_eq_true rfl) (Nat.le_of_ble_eq_true rfl) (c_ask_begin 20 q1) ?_
  refine r_p dX0_markOfAny_6 rfl rfl ?_
  exact r_eI (r' := (p0, x_ask_begin T 20)) (by unfold x_ask_markOfAny; rfl) (r_ri dX0_markOfAny_7 rfl rfl rfl rfl)
def x_ask_markOfRested (T : St) (p0 : Int32) : Int32 × St := (((x_ask_markOfAny (x_ask_begin T 21) p0).1) + 50, (x_ask_markOfAny (x_ask_begin T 21) p0).2)
def ok_ask_markOfRested (T : St) (p0 : Int32) : Prop := (ok_ask_begin T 21) ∧ (ok_ask_markOfAny (x_ask_begin T 21) p0) ∧ True
theorem c_ask_markOfRested {X : Nat × (Nat → Int32)} {T : St} (p0 : Int32) (kk : ok_ask_markOfRested T p0) : tC X 3 mX0_markOfRested [.ref 555, .int p0] T (some (.int (x_ask_markOfRested T p0).1)) ((x_ask_markOfRested T p0).2) := by
  unfold ok_ask_markOfRested at kk
  refine tC_of ?_
  refine r_p dX0_markOfRested_0 rfl rfl ?_
  refine r_cb (x := 21) dX0_markOfRested_1 rfl ?_
  obtain ⟨q1, kk⟩ := kk
  refine r_cv (d1 := 1) dX0_markOfRested_3 cvX0_37 rfl rfl rfl rfl (Nat.le_of_ble_eq_true rfl) (Nat.le_of_ble_eq_true rfl) (Nat.le_of_ble_eq_true rfl) (c_ask_begin 21 q1) ?_
  refine r_p dX0_markOfRested_6 rfl rfl ?_
  refine r_p dX0_markOfRested_7 rfl rfl ?_
  obtain ⟨q2, kk⟩ := kk
  refine r_cv (d1 := 2) dX0_markOfRested_8 cvX0_56 rfl rfl rfl rfl (Nat.le_of_ble_eq_true rfl) (Nat.le_of_ble_eq_true rfl) (Nat.le_of_ble_eq_true rfl) (c_ask_markOfAny p0 q2) ?_
  refine r_cb (x := 50) dX0_markOfRested_11 rfl ?_
  refine r_p dX0_markOfRested_13 rfl rfl ?_
  exact r_eI (r' := (((x_ask_markOfAny (x_ask_begin T 21) p0).1) + 50, (x_ask_markOfAny (x_ask_begin T 21) p0).2)) (by unfold x_ask_markOfRested; rfl) (r_ri dX0_markOfRested_14 rfl rfl rfl rfl)
def x_bk_clear (T : St) (a : Nat) : St := sF (sF (sF (sF (sF T a 1 0) a 4 0) a 10 0) a 17 1) a 18 60
def ok_bk_clear (T : St) (a : Nat) : Prop := (sh a = .inr 1) ∧ True
theorem c_bk_clear {X : Nat × (Nat → Int32)} {T : St} (a : Nat) (kk : ok_bk_clear T a) : tC X 1 mX1_clear [.ref a] T none (x_bk_clear T a) := by
  unfold ok_bk_clear at kk
  refine tC_of ?_
  refine r_p dX1_clear_0 rfl rfl ?_
  refine r_ci (x := 0) dX1_clear_1 rfl ?_
  obtain ⟨q1, kk⟩ := kk
  refine r_put dX1_clear_2 fkX1_58 rfl q1 rfl (Nat.le_of_ble_eq_true rfl) rfl rfl ?_
  refine r_p dX1_clear_5 rfl rfl ?_
  refine r_ci (x := 0) dX1_clear_6 rfl ?_
  refine r_put dX1_clear_7 fkX1_61 rfl q1 rfl (Nat.le_of_ble_eq_true rfl) rfl rfl ?_
  refine r_p dX1_clear_10 rfl rfl ?_
  refine r_ci (x := 0) dX1_clear_11 rfl ?_
  refine r_put dX1_clear_12 fkX1_64 rfl q1 rfl (Nat.le_of_ble_eq_true rfl) rfl rfl ?_
  refine r_p dX1_clear_15 rfl rfl ?_
  refine r_ci (x := 1) dX1_clear_16 rfl ?_
  refine r_put dX1_clear_17 fkX1_67 rfl q1 rfl (Nat.le_of_ble_eq_true rfl) rfl rfl ?_
  refine r_p dX1_clear_20 rfl rfl ?_
  refine r_cb (x := 60) dX1_clear_21 rfl ?_
  refine r_put dX1_clear_23 fkX1_54 rfl q1 rfl (Nat.le_of_ble_eq_true rfl) rfl rfl ?_
  exact r_eV (r' := (sF (sF (sF (sF (sF T a 1 0) a 4 0) a 10 0) a 17 1) a 18 60)) (by unfold x_bk_clear; rfl) (r_rv dX1_clear_26 rfl rfl rfl)
def x_bk_take (T : St) (a : Nat) (p0 : Nat) : St := (fun (T1 : St) => (fun (T2 : St) => (fun (T3 : St) => (fun (T4 : St) => (fun (T5 : St) => (fun (T6 : St) => (fun (T7 : St) => (fun (T8 : St) => (fun (T9 : St) => (fun (T10 : St) => (fun (T11 : St) => (fun (T12 : St) => (fun (T13 : St) => (fun (T14 : St) => sF (sF T14 a 17 (T14.1 p0 17)) a 18 ((sF T14 a 17 (T14.1 p0 17)).1 p0 18)) (sAr T13 (a + 14) (va_cpy (T13.2.2.1 (p0 + 14)) (T13.2.2.1 (a + 14)) (0 : Int32).toNatClampNeg (0 : Int32).toNatClampNeg (24 : Int32).toNatClampNeg))) (sAr T12 (a + 13) (va_cpy (T12.2.2.1 (p0 + 13)) (T12.2.2.1 (a + 13)) (0 : Int32).toNatClampNeg (0 : Int32).toNatClampNeg (24 : Int32).toNatClampNeg))) (sAr T11 (a + 12) (va_cpy (T11.2.2.1 (p0 + 12)) (T11.2.2.1 (a + 12)) (0 : Int32).toNatClampNeg (0 : Int32).toNatClampNeg (24 : Int32).toNatClampNeg))) (sAr T10 (a + 11) (va_cpy (T10.2.2.1 (p0 + 11)) (T10.2.2.1 (a + 11)) (0 : Int32).toNatClampNeg (0 : Int32).toNatClampNeg (24 : Int32).toNatClampNeg))) (sAr T9 (a + 10) (va_cpy (T9.2.2.1 (p0 + 10)) (T9.2.2.1 (a + 10)) (0 : Int32).toNatClampNeg (0 : Int32).toNatClampNeg (24 : Int32).toNatClampNeg))) (sAr (sF T8 a 10 (T8.1 p0 10)) (a + 9) (va_cpy ((sF T8 a 10 (T8.1 p0 10)).2.2.1 (p0 + 9)) ((sF T8 a 10 (T8.1 p0 10)).2.2.1 (a + 9)) (0 : Int32).toNatClampNeg (0 : Int32).toNatClampNeg (24 : Int32).toNatClampNeg))) (sAr T7 (a + 8) (va_cpy (T7.2.2.1 (p0 + 8)) (T7.2.2.1 (a + 8)) (0 : Int32).toNatClampNeg (0 : Int32).toNatClampNeg (8 : Int32).toNatClampNeg))) (sAr T6 (a + 7) (va_cpy (T6.2.2.1 (p0 + 7)) (T6.2.2.1 (a + 7)) (0 : Int32).toNatClampNeg (0 : Int32).toNatClampNeg (8 : Int32).toNatClampNeg))) (sAr T5 (a + 6) (va_cpy (T5.2.2.1 (p0 + 6)) (T5.2.2.1 (a + 6)) (0 : Int32).toNatClampNeg (0 : Int32).toNatClampNeg (8 : Int32).toNatClampNeg))) (sAr T4 (a + 5) (va_cpy (T4.2.2.1 (p0 + 5)) (T4.2.2.1 (a + 5)) (0 : Int32).toNatClampNeg (0 : Int32).toNatClampNeg (8 : Int32).toNatClampNeg))) (sAr (sF T3 a 4 (T3.1 p0 4)) (a + 4) (va_cpy ((sF T3 a 4 (T3.1 p0 4)).2.2.1 (p0 + 4)) ((sF T3 a 4 (T3.1 p0 4)).2.2.1 (a + 4)) (0 : Int32).toNatClampNeg (0 : Int32).toNatClampNeg (8 : Int32).toNatClampNeg))) (sAr T2 (a + 3) (va_cpy (T2.2.2.1 (p0 + 3)) (T2.2.2.1 (a + 3)) (0 : Int32).toNatClampNeg (0 : Int32).toNatClampNeg (4 : Int32).toNatClampNeg))) (sAr (sF T1 a 1 (T1.1 p0 1)) (a + 2) (va_cpy ((sF T1 a 1 (T1.1 p0 1)).2.2.1 (p0 + 2)) ((sF T1 a 1 (T1.1 p0 1)).2.2.1 (a + 2)) (0 : Int32).toNatClampNeg (0 : Int32).toNatClampNeg (4 : Int32).toNatClampNeg))) (sAr T (a + 1) (va_cpy (T.2.2.1 (p0 + 1)) (T.2.2.1 (a + 1)) (0 : Int32).toNatClampNeg (0 : Int32).toNatClampNeg ((Int32.ofNat 7) : Int32).toNatClampNeg))
def ok_bk_take (T : St) (a : Nat) (p0 : Nat) : Prop := (sh p0 = .inr 1) ∧ (sh a = .inr 1) ∧ (sh (a + 1) = .inl (0, 7)) ∧ (cpok 0 0 (Int32.ofNat 7) 7 7) ∧ (sh (p0 + 1) = .inl (0, 7)) ∧ (fun (T1 : St) => (sh p0 = .inr 1) ∧ (sh a = .inr 1) ∧ (cpok 0 0 4 4 4) ∧ (sh (a + 2) = .inl (0, 4)) ∧ (sh (p0 + 2) = .inl (0, 4)) ∧ (fun (T2 : St) => (sh p0 = .inr 1) ∧ (sh a = .inr 1) ∧ (cpok 0 0 4 4 4) ∧ (sh (a + 3) = .inl (0, 4)) ∧ (sh (p0 + 3) = .inl (0, 4)) ∧ (fun (T3 : St) => (sh p0 = .inr 1) ∧ (sh a = .inr 1) ∧ (cpok 0 0 8 8 8) ∧ (sh (a + 4) = .inl (0, 8)) ∧ (sh (p0 + 4) = .inl (0, 8)) ∧ (fun (T4 : St) => (sh p0 = .inr 1) ∧ (sh a = .inr 1) ∧ (cpok 0 0 8 8 8) ∧ (sh (a + 5) = .inl (0, 8)) ∧ (sh (p0 + 5) = .inl (0, 8)) ∧ (fun (T5 : St) => (sh p0 = .inr 1) ∧ (sh a = .inr 1) ∧ (cpok 0 0 8 8 8) ∧ (sh (a + 6) = .inl (0, 8)) ∧ (sh (p0 + 6) = .inl (0, 8)) ∧ (fun (T6 : St) => (sh p0 = .inr 1) ∧ (sh a = .inr 1) ∧ (cpok 0 0 8 8 8) ∧ (sh (a + 7) = .inl (0, 8)) ∧ (sh (p0 + 7) = .inl (0, 8)) ∧ (fun (T7 : St) => (sh p0 = .inr 1) ∧ (sh a = .inr 1) ∧ (cpok 0 0 8 8 8) ∧ (sh (a + 8) = .inl (0, 8)) ∧ (sh (p0 + 8) = .inl (0, 8)) ∧ (fun (T8 : St) => (sh p0 = .inr 1) ∧ (sh a = .inr 1) ∧ (cpok 0 0 24 24 24) ∧ (sh (a + 9) = .inl (0, 24)) ∧ (sh (p0 + 9) = .inl (0, 24)) ∧ (fun (T9 : St) => (sh p0 = .inr 1) ∧ (sh a = .inr 1) ∧ (cpok 0 0 24 24 24) ∧ (sh (a + 10) = .inl (0, 24)) ∧ (sh (p0 + 10) = .inl (0, 24)) ∧ (fun (T10 : St) => (sh p0 = .inr 1) ∧ (sh a = .inr 1) ∧ (cpok 0 0 24 24 24) ∧ (sh (a + 11) = .inl (0, 24)) ∧ (sh (p0 + 11) = .inl (0, 24)) ∧ (fun (T11 : St) => (sh p0 = .inr 1) ∧ (sh a = .inr 1) ∧ (cpok 0 0 24 24 24) ∧ (sh (a + 12) = .inl (0, 24)) ∧ (sh (p0 + 12) = .inl (0, 24)) ∧ (fun (T12 : St) => (sh p0 = .inr 1) ∧ (sh a = .inr 1) ∧ (cpok 0 0 24 24 24) ∧ (sh (a + 13) = .inl (0, 24)) ∧ (sh (p0 + 13) = .inl (0, 24)) ∧ (fun (T13 : St) => (sh p0 = .inr 1) ∧ (sh a = .inr 1) ∧ (cpok 0 0 24 24 24) ∧ (sh (a + 14) = .inl (0, 24)) ∧ (sh (p0 + 14) = .inl (0, 24)) ∧ (fun (T14 : St) => (sh p0 = .inr 1) ∧ (sh a = .inr 1) ∧ True) (sAr T13 (a + 14) (va_cpy (T13.2.2.1 (p0 + 14)) (T13.2.2.1 (a + 14)) (0 : Int32).toNatClampNeg (0 : Int32).toNatClampNeg (24 : Int32).toNatClampNeg))) (sAr T12 (a + 13) (va_cpy (T12.2.2.1 (p0 + 13)) (T12.2.2.1 (a + 13)) (0 : Int32).toNatClampNeg (0 : Int32).toNatClampNeg (24 : Int32).toNatClampNeg))) (sAr T11 (a + 12) (va_cpy (T11.2.2.1 (p0 + 12)) (T11.2.2.1 (a + 12)) (0 : Int32).toNatClampNeg (0 : Int32).toNatClampNeg (24 : Int32).toNatClampNeg))) (sAr T10 (a + 11) (va_cpy (T10.2.2.1 (p0 + 11)) (T10.2.2.1 (a + 11)) (0 : Int32).toNatClampNeg (0 : Int32).toNatClampNeg (24 : Int32).toNatClampNeg))) (sAr T9 (a + 10) (va_cpy (T9.2.2.1 (p0 + 10)) (T9.2.2.1 (a + 10)) (0 : Int32).toNatClampNeg (0 : Int32).toNatClampNeg (24 : Int32).toNatClampNeg))) (sAr (sF T8 a 10 (T8.1 p0 10)) (a + 9) (va_cpy ((sF T8 a 10 (T8.1 p0 10)).2.2.1 (p0 + 9)) ((sF T8 a 10 (T8.1 p0 10)).2.2.1 (a + 9)) (0 : Int32).toNatClampNeg (0 : Int32).toNatClampNeg (24 : Int32).toNatClampNeg))) (sAr T7 (a + 8) (va_cpy (T7.2.2.1 (p0 + 8)) (T7.2.2.1 (a + 8)) (0 : Int32).toNatClampNeg (0 : Int32).toNatClampNeg (8 : Int32).toNatClampNeg))) (sAr T6 (a + 7) (va_cpy (T6.2.2.1 (p0 + 7)) (T6.2.2.1 (a + 7)) (0 : Int32).toNatClampNeg (0 : Int32).toNatClampNeg (8 : Int32).toNatClampNeg))) (sAr T5 (a + 6) (va_cpy (T5.2.2.1 (p0 + 6)) (T5.2.2.1 (a + 6)) (0 : Int32).toNatClampNeg (0 : Int32).toNatClampNeg (8 : Int32).toNatClampNeg))) (sAr T4 (a + 5) (va_cpy (T4.2.2.1 (p0 + 5)) (T4.2.2.1 (a + 5)) (0 : Int32).toNatClampNeg (0 : Int32).toNatClampNeg (8 : Int32).toNatClampNeg))) (sAr (sF T3 a 4 (T3.1 p0 4)) (a + 4) (va_cpy ((sF T3 a 4 (T3.1 p0 4)).2.2.1 (p0 + 4)) ((sF T3 a 4 (T3.1 p0 4)).2.2.1 (a + 4)) (0 : Int32).toNatClampNeg (0 : Int32).toNatClampNeg (8 : Int32).toNatClampNeg))) (sAr T2 (a + 3) (va_cpy (T2.2.2.1 (p0 + 3)) (T2.2.2.1 (a + 3)) (0 : Int32).toNatClampNeg (0 : Int32).toNatClampNeg (4 : Int32).toNatClampNeg))) (sAr (sF T1 a 1 (T1.1 p0 1)) (a + 2) (va_cpy ((sF T1 a 1 (T1.1 p0 1)).2.2.1 (p0 + 2)) ((sF T1 a 1 (T1.1 p0 1)).2.2.1 (a + 2)) (0 : Int32).toNatClampNeg (0 : Int32).toNatClampNeg (4 : Int32).toNatClampNeg))) (sAr T (a + 1) (va_cpy (T.2.2.1 (p0 + 1)) (T.2.2.1 (a + 1)) (0 : Int32).toNatClampNeg (0 : Int32).toNatClampNeg ((Int32.ofNat 7) : Int32).toNatClampNeg))
theorem c_bk_take {X : Nat × (Nat → Int32)} {T : St} (a : Nat) (p0 : Nat) (kk : ok_bk_take T a p0) : tC X 1 mX1_take [.ref a, .ref p0] T none (x_bk_take T a p0) := by
  unfold ok_bk_take at kk
  refine tC_of ?_
  refine r_p dX1_take_0 rfl rfl ?_
  obtain ⟨q1, kk⟩ := kk
  refine r_get dX1_take_1 fkX1_9 q1 rfl ?_
  refine r_ci (x := 0) dX1_take_4 rfl ?_
  refine r_p dX1_take_5 rfl rfl ?_
  obtain ⟨q2, kk⟩ := kk
  refine r_get dX1_take_6 fkX1_9 q2 rfl ?_
  refine r_ci (x := 0) dX1_take_9 rfl ?_
  refine r_p dX1_take_10 rfl rfl ?_
  refine r_get dX1_take_11 fkX1_9 q2 rfl ?_
  obtain ⟨q3, kk⟩ := kk
  refine r_al dX1_take_14 q3 (by decide) ?_
  obtain ⟨q4, kk⟩ := kk
  obtain ⟨q5, kk⟩ := kk
  refine r_cpy dX1_take_15 cpX1_70 q3 q5 q4.1 q4.2.1 q4.2.2.1 q4.2.2.2.1 q4.2.2.2.2 (Nat.le_of_ble_eq_true rfl) ?_
  refine r_eV (r' := (fun (T1 : St) => (fun (T2 : St) => (fun (T3 : St) => (fun (T4 : St) => (fun (T5 : St) => (fun (T6 : St) => (fun (T7 : St) => (fun (T8 : St) => (fun (T9 : St) => (fun (T10 : St) => (fun (T11 : St) => (fun (T12 : St) => (fun (T13 : St) => (fun (T14 : St) => sF (sF T14 a 17 (T14.1 p0 17)) a 18 ((sF T14 a 17 (T14.1 p0 17)).1 p0 18)) (sAr T13 (a + 14) (va_cpy (T13.2.2.1 (p0 + 14)) (T13.2.2.1 (a + 14)) (0 : Int32).toNatClampNeg (0 : Int32).toNatClampNeg (24 : Int32).toNatClampNeg))) (sAr T12 (a + 13) (va_cpy (T12.2.2.1 (p0 + 13)) (T12.2.2.1 (a + 13)) (0 : Int32).toNatClampNeg (0 : Int32).toNatClampNeg (24 : Int32).toNatClampNeg))) (sAr T11 (a + 12) (va_cpy (T11.2.2.1 (p0 + 12)) (T11.2.2.1 (a + 12)) (0 : Int32).toNatClampNeg (0 : Int32).toNatClampNeg (24 : Int32).toNatClampNeg))) (sAr T10 (a + 11) (va_cpy (T10.2.2.1 (p0 + 11)) (T10.2.2.1 (a + 11)) (0 : Int32).toNatClampNeg (0 : Int32).toNatClampNeg (24 : Int32).toNatClampNeg))) (sAr T9 (a + 10) (va_cpy (T9.2.2.1 (p0 + 10)) (T9.2.2.1 (a + 10)) (0 : Int32).toNatClampNeg (0 : Int32).toNatClampNeg (24 : Int32).toNatClampNeg))) (sAr (sF T8 a 10 (T8.1 p0 10)) (a + 9) (va_cpy ((sF T8 a 10 (T8.1 p0 10)).2.2.1 (p0 + 9)) ((sF T8 a 10 (T8.1 p0 10)).2.2.1 (a + 9)) (0 : Int32).toNatClampNeg (0 : Int32).toNatClampNeg (24 : Int32).toNatClampNeg))) (sAr T7 (a + 8) (va_cpy (T7.2.2.1 (p0 + 8)) (T7.2.2.1 (a + 8)) (0 : Int32).toNatClampNeg (0 : Int32).toNatClampNeg (8 : Int32).toNatClampNeg))) (sAr T6 (a + 7) (va_cpy (T6.2.2.1 (p0 + 7)) (T6.2.2.1 (a + 7)) (0 : Int32).toNatClampNeg (0 : Int32).toNatClampNeg (8 : Int32).toNatClampNeg))) (sAr T5 (a + 6) (va_cpy (T5.2.2.1 (p0 + 6)) (T5.2.2.1 (a + 6)) (0 : Int32).toNatClampNeg (0 : Int32).toNatClampNeg (8 : Int32).toNatClampNeg))) (sAr T4 (a + 5) (va_cpy (T4.2.2.1 (p0 + 5)) (T4.2.2.1 (a + 5)) (0 : Int32).toNatClampNeg (0 : Int32).toNatClampNeg (8 : Int32).toNatClampNeg))) (sAr (sF T3 a 4 (T3.1 p0 4)) (a + 4) (va_cpy ((sF T3 a 4 (T3.1 p0 4)).2.2.1 (p0 + 4)) ((sF T3 a 4 (T3.1 p0 4)).2.2.1 (a + 4)) (0 : Int32).toNatClampNeg (0 : Int32).toNatClampNeg (8 : Int32).toNatClampNeg))) (sAr T2 (a + 3) (va_cpy (T2.2.2.1 (p0 + 3)) (T2.2.2.1 (a + 3)) (0 : Int32).toNatClampNeg (0 : Int32).toNatClampNeg (4 : Int32).toNatClampNeg))) (sAr (sF T1 a 1 (T1.1 p0 1)) (a + 2) (va_cpy ((sF T1 a 1 (T1.1 p0 1)).2.2.1 (p0 + 2)) ((sF T1 a 1 (T1.1 p0 1)).2.2.1 (a + 2)) (0 : Int32).toNatClampNeg (0 : Int32).toNatClampNeg (4 : Int32).toNatClampNeg))) (sAr T (a + 1) (va_cpy (T.2.2.1 (p0 + 1)) (T.2.2.1 (a + 1)) (0 : Int32).toNatClampNeg (0 : Int32).toNatClampNeg ((Int32.ofNat 7) : Int32).toNatClampNeg))) (by unfold x_bk_take; rfl) ?_
  generalize sAr T (a + 1) (va_cpy (T.2.2.1 (p0 + 1)) (T.2.2.1 (a + 1)) (0 : Int32).toNatClampNeg (0 : Int32).toNatClampNeg ((Int32.ofNat 7) : Int32).toNatClampNeg) = T1 at kk ⊢
  try dsimp only at kk
  refine r_p dX1_take_18 rfl rfl ?_
  refine r_p dX1_take_19 rfl rfl ?_
  obtain ⟨q6, kk⟩ := kk
  refine r_get dX1_take_20 fkX1_58 q6 rfl ?_
  obtain ⟨q7, kk⟩ := kk
  refine r_put dX1_take_23 fkX1_58 rfl q7 rfl (Nat.le_of_ble_eq_true rfl) rfl rfl ?_
  refine r_p dX1_take_26 rfl rfl ?_
  refine r_get dX1_take_27 fkX1_15 q6 rfl ?_
  refine r_ci (x := 0) dX1_take_30 rfl ?_
  refine r_p dX1_take_31 rfl rfl ?_
  refine r_get dX1_take_32 fkX1_15 q7 rfl ?_
  refine r_ci (x := 0) dX1_take_35 rfl ?_
  refine r_ci (x := 4) dX1_take_36 rfl ?_
  obtain ⟨q8, kk⟩ := kk
  obtain ⟨q9, kk⟩ := kk
  obtain ⟨q10, kk⟩ := kk
  refine r_cpy dX1_take_37 cpX1_70 q9 q10 q8.1 q8.2.1 q8.2.2.1 q8.2.2.2.1 q8.2.2.2.2 (Nat.le_of_ble_eq_true rfl) ?_
  refine r_eV (r' := (fun (T2 : St) => (fun (T3 : St) => (fun (T4 : St) => (fun (T5 : St) => (fun (T6 : St) => (fun (T7 : St) => (fun (T8 : St) => (fun (T9 : St) => (fun (T10 : St) => (fun (T11 : St) => (fun (T12 : St) => (fun (T13 : St) => (fun (T14 : St) => sF (sF T14 a 17 (T14.1 p0 17)) a 18 ((sF T14 a 17 (T14.1 p0 17)).1 p0 18)) (sAr T13 (a + 14) (va_cpy (T13.2.2.1 (p0 + 14)) (T13.2.2.1 (a + 14)) (0 : Int32).toNatClampNeg (0 : Int32).toNatClampNeg (24 : Int32).toNatClampNeg))) (sAr T12 (a + 13) (va_cpy (T12.2.2.1 (p0 + 13)) (T12.2.2.1 (a + 13)) (0 : Int32).toNatClampNeg (0 : Int32).toNatClampNeg (24 : Int32).toNatClampNeg))) (sAr T11 (a + 12) (va_cpy (T11.2.2.1 (p0 + 12)) (T11.2.2.1 (a + 12)) (0 : Int32).toNatClampNeg (0 : Int32).toNatClampNeg (24 : Int32).toNatClampNeg))) (sAr T10 (a + 11) (va_cpy (T10.2.2.1 (p0 + 11)) (T10.2.2.1 (a + 11)) (0 : Int32).toNatClampNeg (0 : Int32).toNatClampNeg (24 : Int32).toNatClampNeg))) (sAr T9 (a + 10) (va_cpy (T9.2.2.1 (p0 + 10)) (T9.2.2.1 (a + 10)) (0 : Int32).toNatClampNeg (0 : Int32).toNatClampNeg (24 : Int32).toNatClampNeg))) (sAr (sF T8 a 10 (T8.1 p0 10)) (a + 9) (va_cpy ((sF T8 a 10 (T8.1 p0 10)).2.2.1 (p0 + 9)) ((sF T8 a 10 (T8.1 p0 10)).2.2.1 (a + 9)) (0 : Int32).toNatClampNeg (0 : Int32).toNatClampNeg (24 : Int32).toNatClampNeg))) (sAr T7 (a + 8) (va_cpy (T7.2.2.1 (p0 + 8)) (T7.2.2.1 (a + 8)) (0 : Int32).toNatClampNeg (0 : Int32).toNatClampNeg (8 : Int32).toNatClampNeg))) (sAr T6 (a + 7) (va_cpy (T6.2.2.1 (p0 + 7)) (T6.2.2.1 (a + 7)) (0 : Int32).toNatClampNeg (0 : Int32).toNatClampNeg (8 : Int32).toNatClampNeg))) (sAr T5 (a + 6) (va_cpy (T5.2.2.1 (p0 + 6)) (T5.2.2.1 (a + 6)) (0 : Int32).toNatClampNeg (0 : Int32).toNatClampNeg (8 : Int32).toNatClampNeg))) (sAr T4 (a + 5) (va_cpy (T4.2.2.1 (p0 + 5)) (T4.2.2.1 (a + 5)) (0 : Int32).toNatClampNeg (0 : Int32).toNatClampNeg (8 : Int32).toNatClampNeg))) (sAr (sF T3 a 4 (T3.1 p0 4)) (a + 4) (va_cpy ((sF T3 a 4 (T3.1 p0 4)).2.2.1 (p0 + 4)) ((sF T3 a 4 (T3.1 p0 4)).2.2.1 (a + 4)) (0 : Int32).toNatClampNeg (0 : Int32).toNatClampNeg (8 : Int32).toNatClampNeg))) (sAr T2 (a + 3) (va_cpy (T2.2.2.1 (p0 + 3)) (T2.2.2.1 (a + 3)) (0 : Int32).toNatClampNeg (0 : Int32).toNatClampNeg (4 : Int32).toNatClampNeg))) (sAr (sF T1 a 1 (T1.1 p0 1)) (a + 2) (va_cpy ((sF T1 a 1 (T1.1 p0 1)).2.2.1 (p0 + 2)) ((sF T1 a 1 (T1.1 p0 1)).2.2.1 (a + 2)) (0 : Int32).toNatClampNeg (0 : Int32).toNatClampNeg (4 : Int32).toNatClampNeg))) rfl ?_
  generalize sAr (sF T1 a 1 (T1.1 p0 1)) (a + 2) (va_cpy ((sF T1 a 1 (T1.1 p0 1)).2.2.1 (p0 + 2)) ((sF T1 a 1 (T1.1 p0 1)).2.2.1 (a + 2)) (0 : Int32).toNatClampNeg (0 : Int32).toNatClampNeg (4 : Int32).toNatClampNeg) = T2 at kk ⊢
  try dsimp only at kk
  refine r_p dX1_take_40 rfl rfl ?_
  obtain ⟨q11, kk⟩ := kk
  refine r_get dX1_take_41 fkX1_18 q11 rfl ?_
  refine r_ci (x := 0) dX1_take_44 rfl ?_
  refine r_p dX1_take_45 rfl rfl ?_
  obtain ⟨q12, kk⟩ := kk
  refine r_get dX1_take_46 fkX1_18 q12 rfl ?_
  refine r_ci (x := 0) dX1_take_49 rfl ?_
  refine r_ci (x := 4) dX1_take_50 rfl ?_
  obtain ⟨q13, kk⟩ := kk
  obtain ⟨q14, kk⟩ := kk
  obtain ⟨q15, kk⟩ := kk
  refine r_cpy dX1_take_51 cpX1_70 q14 q15 q13.1 q13.2.1 q13.2.2.1 q13.2.2.2.1 q13.2.2.2.2 (Nat.le_of_ble_eq_true rfl) ?_
  refine r_eV (r' := (fun (T3 : St) => (fun (T4 : St) => (fun (T5 : St) => (fun (T6 : St) => (fun (T7 : St) => (fun (T8 : St) => (fun (T9 : St) => (fun (T10 : St) => (fun (T11 : St) => (fun (T12 : St) => (fun (T13 : St) => (fun (T14 : St) => sF (sF T14 a 17 (T14.1 p0 17)) a 18 ((sF T14 a 17 (T14.1 p0 17)).1 p0 18)) (sAr T13 (a + 14) (va_cpy (T13.2.2.1 (p0 + 14)) (T13.2.2.1 (a + 14)) (0 : Int32).toNatClampNeg (0 : Int32).toNatClampNeg (24 : Int32).toNatClampNeg))) (sAr T12 (a + 13) (va_cpy (T12.2.2.1 (p0 + 13)) (T12.2.2.1 (a + 13)) (0 : Int32).toNatClampNeg (0 : Int32).toNatClampNeg (24 : Int32).toNatClampNeg))) (sAr T11 (a + 12) (va_cpy (T11.2.2.1 (p0 + 12)) (T11.2.2.1 (a + 12)) (0 : Int32).toNatClampNeg (0 : Int32).toNatClampNeg (24 : Int32).toNatClampNeg))) (sAr T10 (a + 11) (va_cpy (T10.2.2.1 (p0 + 11)) (T10.2.2.1 (a + 11)) (0 : Int32).toNatClampNeg (0 : Int32).toNatClampNeg (24 : Int32).toNatClampNeg))) (sAr T9 (a + 10) (va_cpy (T9.2.2.1 (p0 + 10)) (T9.2.2.1 (a + 10)) (0 : Int32).toNatClampNeg (0 : Int32).toNatClampNeg (24 : Int32).toNatClampNeg))) (sAr (sF T8 a 10 (T8.1 p0 10)) (a + 9) (va_cpy ((sF T8 a 10 (T8.1 p0 10)).2.2.1 (p0 + 9)) ((sF T8 a 10 (T8.1 p0 10)).2.2.1 (a + 9)) (0 : Int32).toNatClampNeg (0 : Int32).toNatClampNeg (24 : Int32).toNatClampNeg))) (sAr T7 (a + 8) (va_cpy (T7.2.2.1 (p0 + 8)) (T7.2.2.1 (a + 8)) (0 : Int32).toNatClampNeg (0 : Int32).toNatClampNeg (8 : Int32).toNatClampNeg))) (sAr T6 (a + 7) (va_cpy (T6.2.2.1 (p0 + 7)) (T6.2.2.1 (a + 7)) (0 : Int32).toNatClampNeg (0 : Int32).toNatClampNeg (8 : Int32).toNatClampNeg))) (sAr T5 (a + 6) (va_cpy (T5.2.2.1 (p0 + 6)) (T5.2.2.1 (a + 6)) (0 : Int32).toNatClampNeg (0 : Int32).toNatClampNeg (8 : Int32).toNatClampNeg))) (sAr T4 (a + 5) (va_cpy (T4.2.2.1 (p0 + 5)) (T4.2.2.1 (a + 5)) (0 : Int32).toNatClampNeg (0 : Int32).toNatClampNeg (8 : Int32).toNatClampNeg))) (sAr (sF T3 a 4 (T3.1 p0 4)) (a + 4) (va_cpy ((sF T3 a 4 (T3.1 p0 4)).2.2.1 (p0 + 4)) ((sF T3 a 4 (T3.1 p0 4)).2.2.1 (a + 4)) (0 : Int32).toNatClampNeg (0 : Int32).toNatClampNeg (8 : Int32).toNatClampNeg))) (sAr T2 (a + 3) (va_cpy (T2.2.2.1 (p0 + 3)) (T2.2.2.1 (a + 3)) (0 : Int32).toNatClampNeg (0 : Int32).toNatClampNeg (4 : Int32).toNatClampNeg))) rfl ?_
  generalize sAr T2 (a + 3) (va_cpy (T2.2.2.1 (p0 + 3)) (T2.2.2.1 (a + 3)) (0 : Int32).toNatClampNeg (0 : Int32).toNatClampNeg (4 : Int32).toNatClampNeg) = T3 at kk ⊢
  try dsimp only at kk
  refine r_p dX1_take_54 rfl rfl ?_
  refine r_p dX1_take_55 rfl rfl ?_
  obtain ⟨q16, kk⟩ := kk
  refine r_get dX1_take_56 fkX1_61 q16 rfl ?_
  obtain ⟨q17, kk⟩ := kk
  refine r_put dX1_take_59 fkX1_61 rfl q17 rfl (Nat.le_of_ble_eq_true rfl) rfl rfl ?_
  refine r_p dX1_take_62 rfl rfl ?_
  refine r_get dX1_take_63 fkX1_21 q16 rfl ?_
  refine r_ci (x := 0) dX1_take_66 rfl ?_
  refine r_p dX1_take_67 rfl rfl ?_
  refine r_get dX1_take_68 fkX1_21 q17 rfl ?_
  refine r_ci (x := 0) dX1_take_71 rfl ?_
  refine r_cb (x := 8) dX1_take_72 rfl ?_
  obtain ⟨q18, kk⟩ := kk
  obtain ⟨q19, kk⟩ := kk
  obtain ⟨q20, kk⟩ := kk
  refine r_cpy dX1_take_74 cpX1_70 q19 q20 q18.1 q18.2.1 q18.2.2.1 q18.2.2.2.1 q18.2.2.2.2 (Nat.le_of_ble_eq_true rfl) ?_
  refine r_eV (r' := (fun (T4 : St) => (fun (T5 : St) => (fun (T6 : St) => (fun (T7 : St) => (fun (T8 : St) => (fun (T9 : St) => (fun (T10 : St) => (fun (T11 : St) => (fun (T12 : St) => (fun (T13 : St) => (fun (T14 : St) => sF (sF T14 a 17 (T14.1 p0 17)) a 18 ((sF T14 a 17 (T14.1 p0 17)).1 p0 18)) (sAr T13 (a + 14) (va_cpy (T13.2.2.1 (p0 + 14)) (T13.2.2.1 (a + 14)) (0 : Int32).toNatClampNeg (0 : Int32).toNatClampNeg (24 : Int32).toNatClampNeg))) (sAr T12 (a + 13) (va_cpy (T12.2.2.1 (p0 + 13)) (T12.2.2.1 (a + 13)) (0 : Int32).toNatClampNeg (0 : Int32).toNatClampNeg (24 : Int32).toNatClampNeg))) (sAr T11 (a + 12) (va_cpy (T11.2.2.1 (p0 + 12)) (T11.2.2.1 (a + 12)) (0 : Int32).toNatClampNeg (0 : Int32).toNatClampNeg (24 : Int32).toNatClampNeg))) (sAr T10 (a + 11) (va_cpy (T10.2.2.1 (p0 + 11)) (T10.2.2.1 (a + 11)) (0 : Int32).toNatClampNeg (0 : Int32).toNatClampNeg (24 : Int32).toNatClampNeg))) (sAr T9 (a + 10) (va_cpy (T9.2.2.1 (p0 + 10)) (T9.2.2.1 (a + 10)) (0 : Int32).toNatClampNeg (0 : Int32).toNatClampNeg (24 : Int32).toNatClampNeg))) (sAr (sF T8 a 10 (T8.1 p0 10)) (a + 9) (va_cpy ((sF T8 a 10 (T8.1 p0 10)).2.2.1 (p0 + 9)) ((sF T8 a 10 (T8.1 p0 10)).2.2.1 (a + 9)) (0 : Int32).toNatClampNeg (0 : Int32).toNatClampNeg (24 : Int32).toNatClampNeg))) (sAr T7 (a + 8) (va_cpy (T7.2.2.1 (p0 + 8)) (T7.2.2.1 (a + 8)) (0 : Int32).toNatClampNeg (0 : Int32).toNatClampNeg (8 : Int32).toNatClampNeg))) (sAr T6 (a + 7) (va_cpy (T6.2.2.1 (p0 + 7)) (T6.2.2.1 (a + 7)) (0 : Int32).toNatClampNeg (0 : Int32).toNatClampNeg (8 : Int32).toNatClampNeg))) (sAr T5 (a + 6) (va_cpy (T5.2.2.1 (p0 + 6)) (T5.2.2.1 (a + 6)) (0 : Int32).toNatClampNeg (0 : Int32).toNatClampNeg (8 : Int32).toNatClampNeg))) (sAr T4 (a + 5) (va_cpy (T4.2.2.1 (p0 + 5)) (T4.2.2.1 (a + 5)) (0 : Int32).toNatClampNeg (0 : Int32).toNatClampNeg (8 : Int32).toNatClampNeg))) (sAr (sF T3 a 4 (T3.1 p0 4)) (a + 4) (va_cpy ((sF T3 a 4 (T3.1 p0 4)).2.2.1 (p0 + 4)) ((sF T3 a 4 (T3.1 p0 4)).2.2.1 (a + 4)) (0 : Int32).toNatClampNeg (0 : Int32).toNatClampNeg (8 : Int32).toNatClampNeg))) rfl ?_
  generalize sAr (sF T3 a 4 (T3.1 p0 4)) (a + 4) (va_cpy ((sF T3 a 4 (T3.1 p0 4)).2.2.1 (p0 + 4)) ((sF T3 a 4 (T3.1 p0 4)).2.2.1 (a + 4)) (0 : Int32).toNatClampNeg (0 : Int32).toNatClampNeg (8 : Int32).toNatClampNeg) = T4 at kk ⊢
  try dsimp only at kk
  refine r_p dX1_take_77 rfl rfl ?_
  obtain ⟨q21, kk⟩ := kk
  refine r_get dX1_take_78 fkX1_24 q21 rfl ?_
  refine r_ci (x := 0) dX1_take_81 rfl ?_
  refine r_p dX1_take_82 rfl rfl ?_
  obtain ⟨q22, kk⟩ := kk
  refine r_get dX1_take_83 fkX1_24 q22 rfl ?_
  refine r_ci (x := 0) dX1_take_86 rfl ?_
  refine r_cb (x := 8) dX1_take_87 rfl ?_
  obtain ⟨q23, kk⟩ := kk
  obtain ⟨q24, kk⟩ := kk
  obtain ⟨q25, kk⟩ := kk
  refine r_cpy dX1_take_89 cpX1_70 q24 q25 q23.1 q23.2.1 q23.2.2.1 q23.2.2.2.1 q23.2.2.2.2 (Nat.le_of_ble_eq_true rfl) ?_
  refine r_eV (r' := (fun (T5 : St) => (fun (T6 : St) => (fun (T7 : St) => (fun (T8 : St) => (fun (T9 : St) => (fun (T10 : St) => (fun (T11 : St) => (fun (T12 : St) => (fun (T13 : St) => (fun (T14 : St) => sF (sF T14 a 17 (T14.1 p0 17)) a 18 ((sF T14 a 17 (T14.1 p0 17)).1 p0 18)) (sAr T13 (a + 14) (va_cpy (T13.2.2.1 (p0 + 14)) (T13.2.2.1 (a + 14)) (0 : Int32).toNatClampNeg (0 : Int32).toNatClampNeg (24 : Int32).toNatClampNeg))) (sAr T12 (a + 13) (va_cpy (T12.2.2.1 (p0 + 13)) (T12.2.2.1 (a + 13)) (0 : Int32).toNatClampNeg (0 : Int32).toNatClampNeg (24 : Int32).toNatClampNeg))) (sAr T11 (a + 12) (va_cpy (T11.2.2.1 (p0 + 12)) (T11.2.2.1 (a + 12)) (0 : Int32).toNatClampNeg (0 : Int32).toNatClampNeg (24 : Int32).toNatClampNeg))) (sAr T10 (a + 11) (va_cpy (T10.2.2.1 (p0 + 11)) (T10.2.2.1 (a + 11)) (0 : Int32).toNatClampNeg (0 : Int32).toNatClampNeg (24 : Int32).toNatClampNeg))) (sAr T9 (a + 10) (va_cpy (T9.2.2.1 (p0 + 10)) (T9.2.2.1 (a + 10)) (0 : Int32).toNatClampNeg (0 : Int32).toNatClampNeg (24 : Int32).toNatClampNeg))) (sAr (sF T8 a 10 (T8.1 p0 10)) (a + 9) (va_cpy ((sF T8 a 10 (T8.1 p0 10)).2.2.1 (p0 + 9)) ((sF T8 a 10 (T8.1 p0 10)).2.2.1 (a + 9)) (0 : Int32).toNatClampNeg (0 : Int32).toNatClampNeg (24 : Int32).toNatClampNeg))) (sAr T7 (a + 8) (va_cpy (T7.2.2.1 (p0 + 8)) (T7.2.2.1 (a + 8)) (0 : Int32).toNatClampNeg (0 : Int32).toNatClampNeg (8 : Int32).toNatClampNeg))) (sAr T6 (a + 7) (va_cpy (T6.2.2.1 (p0 + 7)) (T6.2.2.1 (a + 7)) (0 : Int32).toNatClampNeg (0 : Int32).toNatClampNeg (8 : Int32).toNatClampNeg))) (sAr T5 (a + 6) (va_cpy (T5.2.2.1 (p0 + 6)) (T5.2.2.1 (a + 6)) (0 : Int32).toNatClampNeg (0 : Int32).toNatClampNeg (8 : Int32).toNatClampNeg))) (sAr T4 (a + 5) (va_cpy (T4.2.2.1 (p0 + 5)) (T4.2.2.1 (a + 5)) (0 : Int32).toNatClampNeg (0 : Int32).toNatClampNeg (8 : Int32).toNatClampNeg))) rfl ?_
  generalize sAr T4 (a + 5) (va_cpy (T4.2.2.1 (p0 + 5)) (T4.2.2.1 (a + 5)) (0 : Int32).toNatClampNeg (0 : Int32).toNatClampNeg (8 : Int32).toNatClampNeg) = T5 at kk ⊢
  try dsimp only at kk
  refine r_p dX1_take_92 rfl rfl ?_
  obtain ⟨q26, kk⟩ := kk
  refine r_get dX1_take_93 fkX1_27 q26 rfl ?_
  refine r_ci (x := 0) dX1_take_96 rfl ?_
  refine r_p dX1_take_97 rfl rfl ?_
  obtain ⟨q27, kk⟩ := kk
  refine r_get dX1_take_98 fkX1_27 q27 rfl ?_
  refine r_ci (x := 0) dX1_take_101 rfl ?_
  refine r_cb (x := 8) dX1_take_102 rfl ?_
  obtain ⟨q28, kk⟩ := kk
  obtain ⟨q29, kk⟩ := kk
  obtain ⟨q30, kk⟩ := kk
  refine r_cpy dX1_take_104 cpX1_70 q29 q30 q28.1 q28.2.1 q28.2.2.1 q28.2.2.2.1 q28.2.2.2.2 (Nat.le_of_ble_eq_true rfl) ?_
  refine r_eV (r' := (fun (T6 : St) => (fun (T7 : St) => (fun (T8 : St) => (fun (T9 : St) => (fun (T10 : St) => (fun (T11 : St) => (fun (T12 : St) => (fun (T13 : St) => (fun (T14 : St) => sF (sF T14 a 17 (T14.1 p0 17)) a 18 ((sF T14 a 17 (T14.1 p0 17)).1 p0 18)) (sAr T13 (a + 14) (va_cpy (T13.2.2.1 (p0 + 14)) (T13.2.2.1 (a + 14)) (0 : Int32).toNatClampNeg (0 : Int32).toNatClampNeg (24 : Int32).toNatClampNeg))) (sAr T12 (a + 13) (va_cpy (T12.2.2.1 (p0 + 13)) (T12.2.2.1 (a + 13)) (0 : Int32).toNatClampNeg (0 : Int32).toNatClampNeg (24 : Int32).toNatClampNeg))) (sAr T11 (a + 12) (va_cpy (T11.2.2.1 (p0 + 12)) (T11.2.2.1 (a + 12)) (0 : Int32).toNatClampNeg (0 : Int32).toNatClampNeg (24 : Int32).toNatClampNeg))) (sAr T10 (a + 11) (va_cpy (T10.2.2.1 (p0 + 11)) (T10.2.2.1 (a + 11)) (0 : Int32).toNatClampNeg (0 : Int32).toNatClampNeg (24 : Int32).toNatClampNeg))) (sAr T9 (a + 10) (va_cpy (T9.2.2.1 (p0 + 10)) (T9.2.2.1 (a + 10)) (0 : Int32).toNatClampNeg (0 : Int32).toNatClampNeg (24 : Int32).toNatClampNeg))) (sAr (sF T8 a 10 (T8.1 p0 10)) (a + 9) (va_cpy ((sF T8 a 10 (T8.1 p0 10)).2.2.1 (p0 + 9)) ((sF T8 a 10 (T8.1 p0 10)).2.2.1 (a + 9)) (0 : Int32).toNatClampNeg (0 : Int32).toNatClampNeg (24 : Int32).toNatClampNeg))) (sAr T7 (a + 8) (va_cpy (T7.2.2.1 (p0 + 8)) (T7.2.2.1 (a + 8)) (0 : Int32).toNatClampNeg (0 : Int32).toNatClampNeg (8 : Int32).toNatClampNeg))) (sAr T6 (a + 7) (va_cpy (T6.2.2.1 (p0 + 7)) (T6.2.2.1 (a + 7)) (0 : Int32).toNatClampNeg (0 : Int32).toNatClampNeg (8 : Int32).toNatClampNeg))) (sAr T5 (a + 6) (va_cpy (T5.2.2.1 (p0 + 6)) (T5.2.2.1 (a + 6)) (0 : Int32).toNatClampNeg (0 : Int32).toNatClampNeg (8 : Int32).toNatClampNeg))) rfl ?_
  generalize sAr T5 (a + 6) (va_cpy (T5.2.2.1 (p0 + 6)) (T5.2.2.1 (a + 6)) (0 : Int32).toNatClampNeg (0 : Int32).toNatClampNeg (8 : Int32).toNatClampNeg) = T6 at kk ⊢
  try dsimp only at kk
  refine r_p dX1_take_107 rfl rfl ?_
  obtain ⟨q31, kk⟩ := kk
  refine r_get dX1_take_108 fkX1_30 q31 rfl ?_
  refine r_ci (x := 0) dX1_take_111 rfl ?_
  refine r_p dX1_take_112 rfl rfl ?_
  obtain ⟨q32, kk⟩ := kk
  refine r_get dX1_take_113 fkX1_30 q32 rfl ?_
  refine r_ci (x := 0) dX1_take_116 rfl ?_
  refine r_cb (x := 8) dX1_take_117 rfl ?_
  obtain ⟨q33, kk⟩ := kk
  obtain ⟨q34, kk⟩ := kk
  obtain ⟨q35, kk⟩ := kk
  refine r_cpy dX1_take_119 cpX1_70 q34 q35 q33.1 q33.2.1 q33.2.2.1 q33.2.2.2.1 q33.2.2.2.2 (Nat.le_of_ble_eq_true rfl) ?_
  refine r_eV (r' := (fun (T7 : St) => (fun (T8 : St) => (fun (T9 : St) => (fun (T10 : St) => (fun (T11 : St) => (fun (T12 : St) => (fun (T13 : St) => (fun (T14 : St) => sF (sF T14 a 17 (T14.1 p0 17)) a 18 ((sF T14 a 17 (T14.1 p0 17)).1 p0 18)) (sAr T13 (a + 14) (va_cpy (T13.2.2.1 (p0 + 14)) (T13.2.2.1 (a + 14)) (0 : Int32).toNatClampNeg (0 : Int32).toNatClampNeg (24 : Int32).toNatClampNeg))) (sAr T12 (a + 13) (va_cpy (T12.2.2.1 (p0 + 13)) (T12.2.2.1 (a + 13)) (0 : Int32).toNatClampNeg (0 : Int32).toNatClampNeg (24 : Int32).toNatClampNeg))) (sAr T11 (a + 12) (va_cpy (T11.2.2.1 (p0 + 12)) (T11.2.2.1 (a + 12)) (0 : Int32).toNatClampNeg (0 : Int32).toNatClampNeg (24 : Int32).toNatClampNeg))) (sAr T10 (a + 11) (va_cpy (T10.2.2.1 (p0 + 11)) (T10.2.2.1 (a + 11)) (0 : Int32).toNatClampNeg (0 : Int32).toNatClampNeg (24 : Int32).toNatClampNeg))) (sAr T9 (a + 10) (va_cpy (T9.2.2.1 (p0 + 10)) (T9.2.2.1 (a + 10)) (0 : Int32).toNatClampNeg (0 : Int32).toNatClampNeg (24 : Int32).toNatClampNeg))) (sAr (sF T8 a 10 (T8.1 p0 10)) (a + 9) (va_cpy ((sF T8 a 10 (T8.1 p0 10)).2.2.1 (p0 + 9)) ((sF T8 a 10 (T8.1 p0 10)).2.2.1 (a + 9)) (0 : Int32).toNatClampNeg (0 : Int32).toNatClampNeg (24 : Int32).toNatClampNeg))) (sAr T7 (a + 8) (va_cpy (T7.2.2.1 (p0 + 8)) (T7.2.2.1 (a + 8)) (0 : Int32).toNatClampNeg (0 : Int32).toNatClampNeg (8 : Int32).toNatClampNeg))) (sAr T6 (a + 7) (va_cpy (T6.2.2.1 (p0 + 7)) (T6.2.2.1 (a + 7)) (0 : Int32).toNatClampNeg (0 : Int32).toNatClampNeg (8 : Int32).toNatClampNeg))) rfl ?_
  generalize sAr T6 (a + 7) (va_cpy (T6.2.2.1 (p0 + 7)) (T6.2.2.1 (a + 7)) (0 : Int32).toNatClampNeg (0 : Int32).toNatClampNeg (8 : Int32).toNatClampNeg) = T7 at kk ⊢
  try dsimp only at kk
  refine r_p dX1_take_122 rfl rfl ?_
  obtain ⟨q36, kk⟩ := kk
  refine r_get dX1_take_123 fkX1_33 q36 rfl ?_
  refine r_ci (x := 0) dX1_take_126 rfl ?_
  refine r_p dX1_take_127 rfl rfl ?_
  obtain ⟨q37, kk⟩ := kk
  refine r_get dX1_take_128 fkX1_33 q37 rfl ?_
  refine r_ci (x := 0) dX1_take_131 rfl ?_
  refine r_cb (x := 8) dX1_take_132 rfl ?_
  obtain ⟨q38, kk⟩ := kk
  obtain ⟨q39, kk⟩ := kk
  obtain ⟨q40, kk⟩ := kk
  refine r_cpy dX1_take_134 cpX1_70 q39 q40 q38.1 q38.2.1 q38.2.2.1 q38.2.2.2.1 q38.2.2.2.2 (Nat.le_of_ble_eq_true rfl) ?_
  refine r_eV (r' := (fun (T8 : St) => (fun (T9 : St) => (fun (T10 : St) => (fun (T11 : St) => (fun (T12 : St) => (fun (T13 : St) => (fun (T14 : St) => sF (sF T14 a 17 (T14.1 p0 17)) a 18 ((sF T14 a 17 (T14.1 p0 17)).1 p0 18)) (sAr T13 (a + 14) (va_cpy (T13.2.2.1 (p0 + 14)) (T13.2.2.1 (a + 14)) (0 : Int32).toNatClampNeg (0 : Int32).toNatClampNeg (24 : Int32).toNatClampNeg))) (sAr T12 (a + 13) (va_cpy (T12.2.2.1 (p0 + 13)) (T12.2.2.1 (a + 13)) (0 : Int32).toNatClampNeg (0 : Int32).toNatClampNeg (24 : Int32).toNatClampNeg))) (sAr T11 (a + 12) (va_cpy (T11.2.2.1 (p0 + 12)) (T11.2.2.1 (a + 12)) (0 : Int32).toNatClampNeg (0 : Int32).toNatClampNeg (24 : Int32).toNatClampNeg))) (sAr T10 (a + 11) (va_cpy (T10.2.2.1 (p0 + 11)) (T10.2.2.1 (a + 11)) (0 : Int32).toNatClampNeg (0 : Int32).toNatClampNeg (24 : Int32).toNatClampNeg))) (sAr T9 (a + 10) (va_cpy (T9.2.2.1 (p0 + 10)) (T9.2.2.1 (a + 10)) (0 : Int32).toNatClampNeg (0 : Int32).toNatClampNeg (24 : Int32).toNatClampNeg))) (sAr (sF T8 a 10 (T8.1 p0 10)) (a + 9) (va_cpy ((sF T8 a 10 (T8.1 p0 10)).2.2.1 (p0 + 9)) ((sF T8 a 10 (T8.1 p0 10)).2.2.1 (a + 9)) (0 : Int32).toNatClampNeg (0 : Int32).toNatClampNeg (24 : Int32).toNatClampNeg))) (sAr T7 (a + 8) (va_cpy (T7.2.2.1 (p0 + 8)) (T7.2.2.1 (a + 8)) (0 : Int32).toNatClampNeg (0 : Int32).toNatClampNeg (8 : Int32).toNatClampNeg))) rfl ?_
  generalize sAr T7 (a + 8) (va_cpy (T7.2.2.1 (p0 + 8)) (T7.2.2.1 (a + 8)) (0 : Int32).toNatClampNeg (0 : Int32).toNatClampNeg (8 : Int32).toNatClampNeg) = T8 at kk ⊢
  try dsimp only at kk
  refine r_p dX1_take_137 rfl rfl ?_
  refine r_p dX1_take_138 rfl rfl ?_
  obtain ⟨q41, kk⟩ := kk
  refine r_get dX1_take_139 fkX1_64 q41 rfl ?_
  obtain ⟨q42, kk⟩ := kk
  refine r_put dX1_take_142 fkX1_64 rfl q42 rfl (Nat.le_of_ble_eq_true rfl) rfl rfl ?_
  refine r_p dX1_take_145 rfl rfl ?_
  refine r_get dX1_take_146 fkX1_36 q41 rfl ?_
  refine r_ci (x := 0) dX1_take_149 rfl ?_
  refine r_p dX1_take_150 rfl rfl ?_
  refine r_get dX1_take_151 fkX1_36 q42 rfl ?_
  refine r_ci (x := 0) dX1_take_154 rfl ?_
  refine r_cb (x := 24) dX1_take_155 rfl ?_
  obtain ⟨q43, kk⟩ := kk
  obtain ⟨q44, kk⟩ := kk
  obtain ⟨q45, kk⟩ := kk
  refine r_cpy dX1_take_157 cpX1_70 q44 q45 q43.1 q43.2.1 q43.2.2.1 q43.2.2.2.1 q43.2.2.2.2 (Nat.le_of_ble_eq_true rfl) ?_
  refine r_eV (r' := (fun (T9 : St) => (fun (T10 : St) => (fun (T11 : St) => (fun (T12 : St) => (fun (T13 : St) => (fun (T14 : St) => sF (sF T14 a 17 (T14.1 p0 17)) a 18 ((sF T14 a 17 (T14.1 p0 17)).1 p0 18)) (sAr T13 (a + 14) (va_cpy (T13.2.2.1 (p0 + 14)) (T13.2.2.1 (a + 14)) (0 : Int32).toNatClampNeg (0 : Int32).toNatClampNeg (24 : Int32).toNatClampNeg))) (sAr T12 (a + 13) (va_cpy (T12.2.2.1 (p0 + 13)) (T12.2.2.1 (a + 13)) (0 : Int32).toNatClampNeg (0 : Int32).toNatClampNeg (24 : Int32).toNatClampNeg))) (sAr T11 (a + 12) (va_cpy (T11.2.2.1 (p0 + 12)) (T11.2.2.1 (a + 12)) (0 : Int32).toNatClampNeg (0 : Int32).toNatClampNeg (24 : Int32).toNatClampNeg))) (sAr T10 (a + 11) (va_cpy (T10.2.2.1 (p0 + 11)) (T10.2.2.1 (a + 11)) (0 : Int32).toNatClampNeg (0 : Int32).toNatClampNeg (24 : Int32).toNatClampNeg))) (sAr T9 (a + 10) (va_cpy (T9.2.2.1 (p0 + 10)) (T9.2.2.1 (a + 10)) (0 : Int32).toNatClampNeg (0 : Int32).toNatClampNeg (24 : Int32).toNatClampNeg))) (sAr (sF T8 a 10 (T8.1 p0 10)) (a + 9) (va_cpy ((sF T8 a 10 (T8.1 p0 10)).2.2.1 (p0 + 9)) ((sF T8 a 10 (T8.1 p0 10)).2.2.1 (a + 9)) (0 : Int32).toNatClampNeg (0 : Int32).toNatClampNeg (24 : Int32).toNatClampNeg))) rfl ?_
  generalize sAr (sF T8 a 10 (T8.1 p0 10)) (a + 9) (va_cpy ((sF T8 a 10 (T8.1 p0 10)).2.2.1 (p0 + 9)) ((sF T8 a 10 (T8.1 p0 10)).2.2.1 (a + 9)) (0 : Int32).toNatClampNeg (0 : Int32).toNatClampNeg (24 : Int32).toNatClampNeg) = T9 at kk ⊢
  try dsimp only at kk
  refine r_p dX1_take_160 rfl rfl ?_
  obtain ⟨q46, kk⟩ := kk
  refine r_get dX1_take_161 fkX1_39 q46 rfl ?_
  refine r_ci (x := 0) dX1_take_164 rfl ?_
  refine r_p dX1_take_165 rfl rfl ?_
  obtain ⟨q47, kk⟩ := kk
  refine r_get dX1_take_166 fkX1_39 q47 rfl ?_
  refine r_ci (x := 0) dX1_take_169 rfl ?_
  refine r_cb (x := 24) dX1_take_170 rfl ?_
  obtain ⟨q48, kk⟩ := kk
  obtain ⟨q49, kk⟩ := kk
  obtain ⟨q50, kk⟩ := kk
  refine r_cpy dX1_take_172 cpX1_70 q49 q50 q48.1 q48.2.1 q48.2.2.1 q48.2.2.2.1 q48.2.2.2.2 (Nat.le_of_ble_eq_true rfl) ?_
  refine r_eV (r' := (fun (T10 : St) => (fun (T11 : St) => (fun (T12 : St) => (fun (T13 : St) => (fun (T14 : St) => sF (sF T14 a 17 (T14.1 p0 17)) a 18 ((sF T14 a 17 (T14.1 p0 17)).1 p0 18)) (sAr T13 (a + 14) (va_cpy (T13.2.2.1 (p0 + 14)) (T13.2.2.1 (a + 14)) (0 : Int32).toNatClampNeg (0 : Int32).toNatClampNeg (24 : Int32).toNatClampNeg))) (sAr T12 (a + 13) (va_cpy (T12.2.2.1 (p0 + 13)) (T12.2.2.1 (a + 13)) (0 : Int32).toNatClampNeg (0 : Int32).toNatClampNeg (24 : Int32).toNatClampNeg))) (sAr T11 (a + 12) (va_cpy (T11.2.2.1 (p0 + 12)) (T11.2.2.1 (a + 12)) (0 : Int32).toNatClampNeg (0 : Int32).toNatClampNeg (24 : Int32).toNatClampNeg))) (sAr T10 (a + 11) (va_cpy (T10.2.2.1 (p0 + 11)) (T10.2.2.1 (a + 11)) (0 : Int32).toNatClampNeg (0 : Int32).toNatClampNeg (24 : Int32).toNatClampNeg))) (sAr T9 (a + 10) (va_cpy (T9.2.2.1 (p0 + 10)) (T9.2.2.1 (a + 10)) (0 : Int32).toNatClampNeg (0 : Int32).toNatClampNeg (24 : Int32).toNatClampNeg))) rfl ?_
  generalize sAr T9 (a + 10) (va_cpy (T9.2.2.1 (p0 + 10)) (T9.2.2.1 (a + 10)) (0 : Int32).toNatClampNeg (0 : Int32).toNatClampNeg (24 : Int32).toNatClampNeg) = T10 at kk ⊢
  try dsimp only at kk
  refine r_p dX1_take_175 rfl rfl ?_
  obtain ⟨q51, kk⟩ := kk
  refine r_get dX1_take_176 fkX1_42 q51 rfl ?_
  refine r_ci (x := 0) dX1_take_179 rfl ?_
  refine r_p dX1_take_180 rfl rfl ?_
  obtain ⟨q52, kk⟩ := kk
  refine r_get dX1_take_181 fkX1_42 q52 rfl ?_
  refine r_ci (x := 0) dX1_take_184 rfl ?_
  refine r_cb (x := 24) dX1_take_185 rfl ?_
  obtain ⟨q53, kk⟩ := kk
  obtain ⟨q54, kk⟩ := kk
  obtain ⟨q55, kk⟩ := kk
  refine r_cpy dX1_take_187 cpX1_70 q54 q55 q53.1 q53.2.1 q53.2.2.1 q53.2.2.2.1 q53.2.2.2.2 (Nat.le_of_ble_eq_true rfl) ?_
  refine r_eV (r' := (fun (T11 : St) => (fun (T12 : St) => (fun (T13 : St) => (fun (T14 : St) => sF (sF T14 a 17 (T14.1 p0 17)) a 18 ((sF T14 a 17 (T14.1 p0 17)).1 p0 18)) (sAr T13 (a + 14) (va_cpy (T13.2.2.1 (p0 + 14)) (T13.2.2.1 (a + 14)) (0 : Int32).toNatClampNeg (0 : Int32).toNatClampNeg (24 : Int32).toNatClampNeg))) (sAr T12 (a + 13) (va_cpy (T12.2.2.1 (p0 + 13)) (T12.2.2.1 (a + 13)) (0 : Int32).toNatClampNeg (0 : Int32).toNatClampNeg (24 : Int32).toNatClampNeg))) (sAr T11 (a + 12) (va_cpy (T11.2.2.1 (p0 + 12)) (T11.2.2.1 (a + 12)) (0 : Int32).toNatClampNeg (0 : Int32).toNatClampNeg (24 : Int32).toNatClampNeg))) (sAr T10 (a + 11) (va_cpy (T10.2.2.1 (p0 + 11)) (T10.2.2.1 (a + 11)) (0 : Int32).toNatClampNeg (0 : Int32).toNatClampNeg (24 : Int32).toNatClampNeg))) rfl ?_
  generalize sAr T10 (a + 11) (va_cpy (T10.2.2.1 (p0 + 11)) (T10.2.2.1 (a + 11)) (0 : Int32).toNatClampNeg (0 : Int32).toNatClampNeg (24 : Int32).toNatClampNeg) = T11 at kk ⊢
  try dsimp only at kk
  refine r_p dX1_take_190 rfl rfl ?_
  obtain ⟨q56, kk⟩ := kk
  refine r_get dX1_take_191 fkX1_45 q56 rfl ?_
  refine r_ci (x := 0) dX1_take_194 rfl ?_
  refine r_p dX1_take_195 rfl rfl ?_
  obtain ⟨q57, kk⟩ := kk
  refine r_get dX1_take_196 fkX1_45 q57 rfl ?_
  refine r_ci (x := 0) dX1_take_199 rfl ?_
  refine r_cb (x := 24) dX1_take_200 rfl ?_
  obtain ⟨q58, kk⟩ := kk
  obtain ⟨q59, kk⟩ := kk
  obtain ⟨q60, kk⟩ := kk
  refine r_cpy dX1_take_202 cpX1_70 q59 q60 q58.1 q58.2.1 q58.2.2.1 q58.2.2.2.1 q58.2.2.2.2 (Nat.le_of_ble_eq_true rfl) ?_
  refine r_eV (r' := (fun (T12 : St) => (fun (T13 : St) => (fun (T14 : St) => sF (sF T14 a 17 (T14.1 p0 17)) a 18 ((sF T14 a 17 (T14.1 p0 17)).1 p0 18)) (sAr T13 (a + 14) (va_cpy (T13.2.2.1 (p0 + 14)) (T13.2.2.1 (a + 14)) (0 : Int32).toNatClampNeg (0 : Int32).toNatClampNeg (24 : Int32).toNatClampNeg))) (sAr T12 (a + 13) (va_cpy (T12.2.2.1 (p0 + 13)) (T12.2.2.1 (a + 13)) (0 : Int32).toNatClampNeg (0 : Int32).toNatClampNeg (24 : Int32).toNatClampNeg))) (sAr T11 (a + 12) (va_cpy (T11.2.2.1 (p0 + 12)) (T11.2.2.1 (a + 12)) (0 : Int32).toNatClampNeg (0 : Int32).toNatClampNeg (24 : Int32).toNatClampNeg))) rfl ?_
  generalize sAr T11 (a + 12) (va_cpy (T11.2.2.1 (p0 + 12)) (T11.2.2.1 (a + 12)) (0 : Int32).toNatClampNeg (0 : Int32).toNatClampNeg (24 : Int32).toNatClampNeg) = T12 at kk ⊢
  try dsimp only at kk
  refine r_p dX1_take_205 rfl rfl ?_
  obtain ⟨q61, kk⟩ := kk
  refine r_get dX1_take_206 fkX1_48 q61 rfl ?_
  refine r_ci (x := 0) dX1_take_209 rfl ?_
  refine r_p dX1_take_210 rfl rfl ?_
  obtain ⟨q62, kk⟩ := kk
  refine r_get dX1_take_211 fkX1_48 q62 rfl ?_
  refine r_ci (x := 0) dX1_take_214 rfl ?_
  refine r_cb (x := 24) dX1_take_215 rfl ?_
  obtain ⟨q63, kk⟩ := kk
  obtain ⟨q64, kk⟩ := kk
  obtain ⟨q65, kk⟩ := kk
  refine r_cpy dX1_take_217 cpX1_70 q64 q65 q63.1 q63.2.1 q63.2.2.1 q63.2.2.2.1 q63.2.2.2.2 (Nat.le_of_ble_eq_true rfl) ?_
  refine r_eV (r' := (fun (T13 : St) => (fun (T14 : St) => sF (sF T14 a 17 (T14.1 p0 17)) a 18 ((sF T14 a 17 (T14.1 p0 17)).1 p0 18)) (sAr T13 (a + 14) (va_cpy (T13.2.2.1 (p0 + 14)) (T13.2.2.1 (a + 14)) (0 : Int32).toNatClampNeg (0 : Int32).toNatClampNeg (24 : Int32).toNatClampNeg))) (sAr T12 (a + 13) (va_cpy (T12.2.2.1 (p0 + 13)) (T12.2.2.1 (a + 13)) (0 : Int32).toNatClampNeg (0 : Int32).toNatClampNeg (24 : Int32).toNatClampNeg))) rfl ?_
  generalize sAr T12 (a + 13) (va_cpy (T12.2.2.1 (p0 + 13)) (T12.2.2.1 (a + 13)) (0 : Int32).toNatClampNeg (0 : Int32).toNatClampNeg (24 : Int32).toNatClampNeg) = T13 at kk ⊢
  try dsimp only at kk
  refine r_p dX1_take_220 rfl rfl ?_
  obtain ⟨q66, kk⟩ := kk
  refine r_get dX1_take_221 fkX1_51 q66 rfl ?_
  refine r_ci (x := 0) dX1_take_224 rfl ?_
  refine r_p dX1_take_225 rfl rfl ?_
  obtain ⟨q67, kk⟩ := kk
  refine r_get dX1_take_226 fkX1_51 q67 rfl ?_
  refine r_ci (x := 0) dX1_take_229 rfl ?_
  refine r_cb (x := 24) dX1_take_230 rfl ?_
  obtain ⟨q68, kk⟩ := kk
  obtain ⟨q69, kk⟩ := kk
  obtain ⟨q70, kk⟩ := kk
  refine r_cpy dX1_take_232 cpX1_70 q69 q70 q68.1 q68.2.1 q68.2.2.1 q68.2.2.2.1 q68.2.2.2.2 (Nat.le_of_ble_eq_true rfl) ?_
  refine r_eV (r' := (fun (T14 : St) => sF (sF T14 a 17 (T14.1 p0 17)) a 18 ((sF T14 a 17 (T14.1 p0 17)).1 p0 18)) (sAr T13 (a + 14) (va_cpy (T13.2.2.1 (p0 + 14)) (T13.2.2.1 (a + 14)) (0 : Int32).toNatClampNeg (0 : Int32).toNatClampNeg (24 : Int32).toNatClampNeg))) rfl ?_
  generalize sAr T13 (a + 14) (va_cpy (T13.2.2.1 (p0 + 14)) (T13.2.2.1 (a + 14)) (0 : Int32).toNatClampNeg (0 : Int32).toNatClampNeg (24 : Int32).toNatClampNeg) = T14 at kk ⊢
  try dsimp only at kk
  refine r_p dX1_take_235 rfl rfl ?_
  refine r_p dX1_take_236 rfl rfl ?_
  obtain ⟨q71, kk⟩ := kk
  refine r_get dX1_take_237 fkX1_67 q71 rfl ?_
  obtain ⟨q72, kk⟩ := kk
  refine r_put dX1_take_240 fkX1_67 rfl q72 rfl (Nat.le_of_ble_eq_true rfl) rfl rfl ?_
  refine r_p dX1_take_243 rfl rfl ?_
  refine r_p dX1_take_244 rfl rfl ?_
  refine r_get dX1_take_245 fkX1_54 q71 rfl ?_
  refine r_put dX1_take_248 fkX1_54 rfl q72 rfl (Nat.le_of_ble_eq_true rfl) rfl rfl ?_
  exact r_eV (r' := (sF (sF T14 a 17 (T14.1 p0 17)) a 18 ((sF T14 a 17 (T14.1 p0 17)).1 p0 18))) rfl (r_rv dX1_take_251 rfl rfl rfl)
def x_bk_isRead (T : St) (a : Nat) : Int32 := if (T.1 a 4) ≤ 0 then (0) else (1)
def ok_bk_isRead (T : St) (a : Nat) : Prop := (sh a = .inr 1) ∧ True
theorem c_bk_isRead {X : Nat × (Nat → Int32)} {T : St} (a : Nat) (kk : ok_bk_isRead T a) : tC X 1 mX1_isRead [.ref a] T (some (.int (x_bk_isRead T a))) T := by
  unfold ok_bk_isRead at kk
  refine tC_of ?_
  refine r_p dX1_isRead_0 rfl rfl ?_
  obtain ⟨q1, kk⟩ := kk
  refine r_get dX1_isRead_1 fkX1_61 q1 rfl ?_
  refine r_ile dX1_isRead_4 rfl (fun c4_1 => ?_) (fun c4_1 => ?_)
  · refine r_ci (x := 0) dX1_isRead_11 rfl ?_
    exact r_eIp (r' := 0) (by unfold x_bk_isRead; rw [if_pos c4_1]) (r_ri dX1_isRead_12 rfl rfl rfl rfl)
  · refine r_ci (x := 1) dX1_isRead_7 rfl ?_
    refine r_go dX1_isRead_8 rfl ?_
    exact r_eIp (r' := 1) (by unfold x_bk_isRead; rw [if_neg c4_1]) (r_ri dX1_isRead_12 rfl rfl rfl rfl)
theorem b_bk_isRead (T : St) (a : Nat) : x_bk_isRead T a = 0 ∨ x_bk_isRead T a = 1 := by
  unfold x_bk_isRead
  repeat' split
  all_goals (first | exact Or.inl rfl | exact Or.inr rfl)
def x_bk_hasStep (T : St) (a : Nat) (p0 : Int32) : Int32 := if p0 < 0 then (0) else (if (T.1 a 10) ≤ p0 then (0) else (1))
def ok_bk_hasStep (T : St) (a : Nat) (p0 : Int32) : Prop := (¬ p0 < 0 → (sh a = .inr 1) ∧ True)
theorem c_bk_hasStep {X : Nat × (Nat → Int32)} {T : St} (a : Nat) (p0 : Int32) (kk : ok_bk_hasStep T a p0) : tC X 1 mX1_hasStep [.ref a, .int p0] T (some (.int (x_bk_hasStep T a p0))) T := by
  unfold ok_bk_hasStep at kk
  refine tC_of ?_
  refine r_p dX1_hasStep_0 rfl rfl ?_
  refine r_ilt dX1_hasStep_1 rfl (fun c1_1 => ?_) (fun c1_1 => ?_)
  · refine r_ci (x := 0) dX1_hasStep_16 rfl ?_
    exact r_eIp (r' := 0) (by unfold x_bk_hasStep; rw [if_pos c1_1]) (r_ri dX1_hasStep_17 rfl rfl rfl rfl)
  · have kk := kk c1_1
    refine r_p dX1_hasStep_4 rfl rfl ?_
    refine r_p dX1_hasStep_5 rfl rfl ?_
    obtain ⟨q1, kk⟩ := kk
    refine r_get dX1_hasStep_6 fkX1_64 q1 rfl ?_
    refine r_cge dX1_hasStep_9 rfl (fun c9_2 => ?_) (fun c9_2 => ?_)
    · refine r_ci (x := 0) dX1_hasStep_16 rfl ?_
      exact r_eIp (r' := 0) (by unfold x_bk_hasStep; rw [if_neg c1_1, if_pos c9_2]) (r_ri dX1_hasStep_17 rfl rfl rfl rfl)
    · refine r_ci (x := 1) dX1_hasStep_12 rfl ?_
      refine r_go dX1_hasStep_13 rfl ?_
      exact r_eIp (r' := 1) (by unfold x_bk_hasStep; rw [if_neg c1_1, if_neg c9_2]) (r_ri dX1_hasStep_17 rfl rfl rfl rfl)
theorem b_bk_hasStep (T : St) (a : Nat) (p0 : Int32) : x_bk_hasStep T a p0 = 0 ∨ x_bk_hasStep T a p0 = 1 := by
  unfold x_bk_hasStep
  repeat' split
  all_goals (first | exact Or.inl rfl | exact Or.inr rfl)
def x_bk_allDishes (T : St) (a : Nat) : Int32 := (1 <<< ((T.1 a 4) &&& 31)) - 1
def ok_bk_allDishes (T : St) (a : Nat) : Prop := (sh a = .inr 1) ∧ True
theorem c_bk_allDishes {X : Nat × (Nat → Int32)} {T : St} (a : Nat) (kk : ok_bk_allDishes T a) : tC X 1 mX1_allDishes [.ref a] T (some (.int (x_bk_allDishes T a))) T := by
  unfold ok_bk_allDishes at kk
  refine tC_of ?_
  refine r_ci (x := 1) dX1_allDishes_0 rfl ?_
  refine r_p dX1_allDishes_1 rfl rfl ?_
  obtain ⟨q1, kk⟩ := kk
  refine r_get dX1_allDishes_2 fkX1_61 q1 rfl ?_
  refine r_p dX1_allDishes_5 rfl rfl ?_
  refine r_ci (x := 1) dX1_allDishes_6 rfl ?_
  refine r_p dX1_allDishes_7 rfl rfl ?_
  exact r_eIp (r' := ((1 <<< ((T.1 a 4) &&& 31)) - 1)) (by unfold x_bk_allDishes; rfl) (r_ri dX1_allDishes_8 rfl rfl rfl rfl)
def x_bk_dinnerSteps_4 (T : St) (l0 : Nat) (K : Int32 → Int32 → Int32) : Nat → Int32 → Int32 → Int32
  | 0, _, _ => 0
  | f + 1, v1, v2 => if (T.1 l0 4) ≤ v2 then (K v1 v2) else (if (((T.1 l0 17) >>> (v2 &&& 31)) &&& 1) = 0 then (x_bk_dinnerSteps_4 T l0 K f v1 (v2 + 1)) else (x_bk_dinnerSteps_4 T l0 K f (v1 + (T.2.2.1 (l0 + 7) (v2 : Int32).toNatClampNeg)) (v2 + 1)))
def ok_bk_dinnerSteps_4 (T : St) (l0 : Nat) (Kk : Int32 → Int32 → Prop) : Nat → Int32 → Int32 → Prop
  | 0, _, _ => False
  | f + 1, v1, v2 => (sh l0 = .inr 1) ∧ (((T.1 l0 4) ≤ v2 → Kk v1 v2) ∧ (¬ (T.1 l0 4) ≤ v2 → (((((T.1 l0 17) >>> (v2 &&& 31)) &&& 1) = 0 → ok_bk_dinnerSteps_4 T l0 Kk f v1 (v2 + 1)) ∧ (¬ (((T.1 l0 17) >>> (v2 &&& 31)) &&& 1) = 0 → (sh (l0 + 7) = .inl (0, 8)) ∧ (vp_in v2 8) ∧ ok_bk_dinnerSteps_4 T l0 Kk f (v1 + (T.2.2.1 (l0 + 7) (v2 : Int32).toNatClampNeg)) (v2 + 1)))))
theorem c_bk_dinnerSteps_4 {X : Nat × (Nat → Int32)} (T : St) (l0 : Nat) {K : Int32 → Int32 → Int32} {Kk : Int32 → Int32 → Prop} (hk : ∀ (v1 : Int32) (v2 : Int32), Kk v1 v2 → tR X 0 mX1_dinnerSteps 38 [some (.ref l0), some (.int v1), some (.int v2)] [] T (some (.int (K v1 v2))) T) : ∀ (f : Nat) (v1 : Int32) (v2 : Int32), ok_bk_dinnerSteps_4 T l0 Kk f v1 v2 → tR X 0 mX1_dinnerSteps 4 [some (.ref l0), some (.int v1), some (.int v2)] [] T (some (.int (x_bk_dinnerSteps_4 T l0 K f v1 v2))) T := by
  intro f
  induction f with
  | zero => intro v1 v2 kk; exact kk.elim
  | succ f ih =>
    intro v1 v2 kk
    rw [ok_bk_dinnerSteps_4] at kk
    refine r_p dX1_dinnerSteps_4 rfl rfl ?_
    refine r_p dX1_dinnerSteps_5 rfl rfl ?_
    obtain ⟨q1, kk⟩ := kk
    refine r_get dX1_dinnerSteps_6 fkX1_61 q1 rfl ?_
    refine r_cge dX1_dinnerSteps_9 rfl (fun c9_1 => ?_) (fun c9_1 => ?_)
    · have kk := kk.1 c9_1
      show tR _ _ _ _ [some (.ref l0), some (.int v1), some (.int v2)] _ _ _ _
      exact r_eIp (r' := K v1 v2) (by rw [x_bk_dinnerSteps_4]; rw [if_pos c9_1]) ((hk v1 v2  kk))
    · have kk := kk.2 c9_1
      refine r_p dX1_dinnerSteps_12 rfl rfl ?_
      refine r_get dX1_dinnerSteps_13 fkX1_67 q1 rfl ?_
      refine r_p dX1_dinnerSteps_16 rfl rfl ?_
      refine r_p dX1_dinnerSteps_17 rfl rfl ?_
      refine r_ci (x := 1) dX1_dinnerSteps_18 rfl ?_
      refine r_p dX1_dinnerSteps_19 rfl rfl ?_
      refine r_ieq dX1_dinnerSteps_20 rfl (fun c20_2 => ?_) (fun c20_2 => ?_)
      · have kk := kk.1 c20_2
        refine r_inc (y := 1) dX1_dinnerSteps_32 rfl rfl rfl ?_
        refine r_go dX1_dinnerSteps_35 rfl ?_
        show tR _ _ _ _ [some (.ref l0), some (.int v1), some (.int (v2 + 1))] _ _ _ _
        exact r_eIp (r' := x_bk_dinnerSteps_4 T l0 K f v1 (v2 + 1)) (by rw [x_bk_dinnerSteps_4]; rw [if_neg c9_1, if_pos c20_2]) ((ih v1 (v2 + 1)  kk))
      · have kk := kk.2 c20_2
        refine r_p dX1_dinnerSteps_23 rfl rfl ?_
        refine r_p dX1_dinnerSteps_24 rfl rfl ?_
        refine r_get dX1_dinnerSteps_25 fkX1_30 q1 rfl ?_
        refine r_p dX1_dinnerSteps_28 rfl rfl ?_
        obtain ⟨q2, kk⟩ := kk
        obtain ⟨q3, kk⟩ := kk
        refine r_ia dX1_dinnerSteps_29 q2 q3 ?_
        refine r_p dX1_dinnerSteps_30 rfl rfl ?_
        refine r_p dX1_dinnerSteps_31 rfl rfl ?_
        refine r_inc (y := 1) dX1_dinnerSteps_32 rfl rfl rfl ?_
        refine r_go dX1_dinnerSteps_35 rfl ?_
        show tR _ _ _ _ [some (.ref l0), some (.int (v1 + (T.2.2.1 (l0 + 7) (v2 : Int32).toNatClampNeg))), some (.int (v2 + 1))] _ _ _ _
        exact r_eIp (r' := x_bk_dinnerSteps_4 T l0 K f (v1 + (T.2.2.1 (l0 + 7) (v2 : Int32).toNatClampNeg)) (v2 + 1)) (by rw [x_bk_dinnerSteps_4]; rw [if_neg c9_1, if_neg c20_2]) ((ih (v1 + (T.2.2.1 (l0 + 7) (v2 : Int32).toNatClampNeg)) (v2 + 1)  kk))
def x_bk_dinnerSteps (T : St) (a : Nat) : Int32 := x_bk_dinnerSteps_4 T a (fun (w1_1 : Int32) (w1_2 : Int32) => w1_1) 1000 0 0
def ok_bk_dinnerSteps (T : St) (a : Nat) : Prop := ok_bk_dinnerSteps_4 T a (fun (w1_1 : Int32) (w1_2 : Int32) => True) 1000 0 0
theorem c_bk_dinnerSteps {X : Nat × (Nat → Int32)} {T : St} (a : Nat) (kk : ok_bk_dinnerSteps T a) : tC X 1 mX1_dinnerSteps [.ref a] T (some (.int (x_bk_dinnerSteps T a))) T := by
  unfold ok_bk_dinnerSteps at kk
  refine tC_of ?_
  refine r_ci (x := 0) dX1_dinnerSteps_0 rfl ?_
  refine r_p dX1_dinnerSteps_1 rfl rfl ?_
  refine r_ci (x := 0) dX1_dinnerSteps_2 rfl ?_
  refine r_p dX1_dinnerSteps_3 rfl rfl ?_
  show tR _ _ _ _ [some (.ref a), some (.int 0), some (.int 0)] _ _ _ _
  refine r_eIp (r' := x_bk_dinnerSteps_4 T a (fun (w1_1 : Int32) (w1_2 : Int32) => w1_1) 1000 0 0) (by unfold x_bk_dinnerSteps; rfl) ((c_bk_dinnerSteps_4 T a (fun w1_1 w1_2 kk => ?_) 1000 0 0  kk))
  · refine r_p dX1_dinnerSteps_38 rfl rfl ?_
    exact r_eIp (r' := w1_1) rfl (r_ri dX1_dinnerSteps_39 rfl rfl rfl rfl)
def x_bk_waitBehind (T : St) (a : Nat) (p0 : Int32) (p1 : Int32) : Int32 := if ((T.2.2.1 (a + 7) (p0 : Int32).toNatClampNeg) - 1) ≤ p1 then (0) else (T.2.2.1 (a + 11) ((T.2.2.1 (a + 8) (p0 : Int32).toNatClampNeg) + p1 : Int32).toNatClampNeg)
def ok_bk_waitBehind (T : St) (a : Nat) (p0 : Int32) (p1 : Int32) : Prop := (sh a = .inr 1) ∧ (sh (a + 7) = .inl (0, 8)) ∧ (vp_in p0 8) ∧ (¬ ((T.2.2.1 (a + 7) (p0 : Int32).toNatClampNeg) - 1) ≤ p1 → (sh (a + 8) = .inl (0, 8)) ∧ (sh (a + 11) = .inl (0, 24)) ∧ (vp_in ((T.2.2.1 (a + 8) (p0 : Int32).toNatClampNeg) + p1) 24) ∧ True)
theorem c_bk_waitBehind {X : Nat × (Nat → Int32)} {T : St} (a : Nat) (p0 : Int32) (p1 : Int32) (kk : ok_bk_waitBehind T a p0 p1) : tC X 1 mX1_waitBehind [.ref a, .int p0, .int p1] T (some (.int (x_bk_waitBehind T a p0 p1))) T := by
  unfold ok_bk_waitBehind at kk
  refine tC_of ?_
  refine r_p dX1_waitBehind_0 rfl rfl ?_
  refine r_p dX1_waitBehind_1 rfl rfl ?_
  obtain ⟨q1, kk⟩ := kk
  refine r_get dX1_waitBehind_2 fkX1_30 q1 rfl ?_
  refine r_p dX1_waitBehind_5 rfl rfl ?_
  obtain ⟨q2, kk⟩ := kk
  obtain ⟨q3, kk⟩ := kk
  refine r_ia dX1_waitBehind_6 q2 q3 ?_
  refine r_ci (x := 1) dX1_waitBehind_7 rfl ?_
  refine r_p dX1_waitBehind_8 rfl rfl ?_
  refine r_cge dX1_waitBehind_9 rfl (fun c9_1 => ?_) (fun c9_1 => ?_)
  · refine r_ci (x := 0) dX1_waitBehind_28 rfl ?_
    exact r_eIp (r' := 0) (by unfold x_bk_waitBehind; rw [if_pos c9_1]) (r_ri dX1_waitBehind_29 rfl rfl rfl rfl)
  · have kk := kk c9_1
    refine r_p dX1_waitBehind_12 rfl rfl ?_
    refine r_get dX1_waitBehind_13 fkX1_42 q1 rfl ?_
    refine r_p dX1_waitBehind_16 rfl rfl ?_
    refine r_get dX1_waitBehind_17 fkX1_33 q1 rfl ?_
    refine r_p dX1_waitBehind_20 rfl rfl ?_
    obtain ⟨q4, kk⟩ := kk
    refine r_ia dX1_waitBehind_21 q4 q3 ?_
    refine r_p dX1_waitBehind_22 rfl rfl ?_
    refine r_p dX1_waitBehind_23 rfl rfl ?_
    obtain ⟨q5, kk⟩ := kk
    obtain ⟨q6, kk⟩ := kk
    refine r_ia dX1_waitBehind_24 q5 q6 ?_
    refine r_go dX1_waitBehind_25 rfl ?_
    exact r_eIp (r' := (T.2.2.1 (a + 11) ((T.2.2.1 (a + 8) (p0 : Int32).toNatClampNeg) + p1 : Int32).toNatClampNeg)) (by unfold x_bk_waitBehind; rw [if_neg c9_1]) (r_ri dX1_waitBehind_29 rfl rfl rfl rfl)
def x_bk_awayAt_4 (T : St) (l0 : Nat) (l1 : Int32) (K : Int32 → Int32 → Int32) : Nat → Int32 → Int32 → Int32
  | 0, _, _ => 0
  | f + 1, v2, v3 => if (T.1 l0 1) ≤ v3 then (K v2 v3) else (if l1 < (T.2.2.1 (l0 + 2) (v3 : Int32).toNatClampNeg) then (x_bk_awayAt_4 T l0 l1 K f v2 (v3 + 1)) else (if (T.2.2.1 (l0 + 3) (v3 : Int32).toNatClampNeg) < l1 then (x_bk_awayAt_4 T l0 l1 K f v2 (v3 + 1)) else (x_bk_awayAt_4 T l0 l1 K f (v2 + 1) (v3 + 1))))
def ok_bk_awayAt_4 (T : St) (l0 : Nat) (l1 : Int32) (Kk : Int32 → Int32 → Prop) : Nat → Int32 → Int32 → Prop
  | 0, _, _ => False
  | f + 1, v2, v3 => (sh l0 = .inr 1) ∧ (((T.1 l0 1) ≤ v3 → Kk v2 v3) ∧ (¬ (T.1 l0 1) ≤ v3 → (sh (l0 + 2) = .inl (0, 4)) ∧ (vp_in v3 4) ∧ ((l1 < (T.2.2.1 (l0 + 2) (v3 : Int32).toNatClampNeg) → ok_bk_awayAt_4 T l0 l1 Kk f v2 (v3 + 1)) ∧ (¬ l1 < (T.2.2.1 (l0 + 2) (v3 : Int32).toNatClampNeg) → (sh (l0 + 3) = .inl (0, 4)) ∧ (((T.2.2.1 (l0 + 3) (v3 : Int32).toNatClampNeg) < l1 → ok_bk_awayAt_4 T l0 l1 Kk f v2 (v3 + 1)) ∧ (¬ (T.2.2.1 (l0 + 3) (v3 : Int32).toNatClampNeg) < l1 → ok_bk_awayAt_4 T l0 l1 Kk f (v2 + 1) (v3 + 1)))))))
theorem c_bk_awayAt_4 {X : Nat × (Nat → Int32)} (T : St) (l0 : Nat) (l1 : Int32) {K : Int32 → Int32 → Int32} {Kk : Int32 → Int32 → Prop} (hk : ∀ (v2 : Int32) (v3 : Int32), Kk v2 v3 → tR X 0 mX1_awayAt 41 [some (.ref l0), some (.int l1), some (.int v2), some (.int v3)] [] T (some (.int (K v2 v3))) T) : ∀ (f : Nat) (v2 : Int32) (v3 : Int32), ok_bk_awayAt_4 T l0 l1 Kk f v2 v3 → tR X 0 mX1_awayAt 4 [some (.ref l0), some (.int l1), some (.int v2), some (.int v3)] [] T (some (.int (x_bk_awayAt_4 T l0 l1 K f v2 v3))) T := by
  intro f
  induction f with
  | zero => intro v2 v3 kk; exact kk.elim
  | succ f ih =>
    intro v2 v3 kk
    rw [ok_bk_awayAt_4] at kk
    refine r_p dX1_awayAt_4 rfl rfl ?_
    refine r_p dX1_awayAt_5 rfl rfl ?_
    obtain ⟨q1, kk⟩ := kk
    refine r_get dX1_awayAt_6 fkX1_58 q1 rfl ?_
    refine r_cge dX1_awayAt_9 rfl (fun c9_1 => ?_) (fun c9_1 => ?_)
    · have kk := kk.1 c9_1
      show tR _ _ _ _ [some (.ref l0), some (.int l1), some (.int v2), some (.int v3)] _ _ _ _
      exact r_eIp (r' := K v2 v3) (by rw [x_bk_awayAt_4]; rw [if_pos c9_1]) ((hk v2 v3  kk))
    · have kk := kk.2 c9_1
      refine r_p dX1_awayAt_12 rfl rfl ?_
      refine r_get dX1_awayAt_13 fkX1_15 q1 rfl ?_
      refine r_p dX1_awayAt_16 rfl rfl ?_
      obtain ⟨q2, kk⟩ := kk
      obtain ⟨q3, kk⟩ := kk
      refine r_ia dX1_awayAt_17 q2 q3 ?_
      refine r_p dX1_awayAt_18 rfl rfl ?_
      refine r_cgt dX1_awayAt_19 rfl (fun c19_2 => ?_) (fun c19_2 => ?_)
      · have kk := kk.1 c19_2
        refine r_inc (y := 1) dX1_awayAt_35 rfl rfl rfl ?_
        refine r_go dX1_awayAt_38 rfl ?_
        show tR _ _ _ _ [some (.ref l0), some (.int l1), some (.int v2), some (.int (v3 + 1))] _ _ _ _
        exact r_eIp (r' := x_bk_awayAt_4 T l0 l1 K f v2 (v3 + 1)) (by rw [x_bk_awayAt_4]; rw [if_neg c9_1, if_pos c19_2]) ((ih v2 (v3 + 1)  kk))
      · have kk := kk.2 c19_2
        refine r_p dX1_awayAt_22 rfl rfl ?_
        refine r_p dX1_awayAt_23 rfl rfl ?_
        refine r_get dX1_awayAt_24 fkX1_18 q1 rfl ?_
        refine r_p dX1_awayAt_27 rfl rfl ?_
        obtain ⟨q4, kk⟩ := kk
        refine r_ia dX1_awayAt_28 q4 q3 ?_
        refine r_cgt dX1_awayAt_29 rfl (fun c29_3 => ?_) (fun c29_3 => ?_)
        · have kk := kk.1 c29_3
          refine r_inc (y := 1) dX1_awayAt_35 rfl rfl rfl ?_
          refine r_go dX1_awayAt_38 rfl ?_
          show tR _ _ _ _ [some (.ref l0), some (.int l1), some (.int v2), some (.int (v3 + 1))] _ _ _ _
          exact r_eIp (r' := x_bk_awayAt_4 T l0 l1 K f v2 (v3 + 1)) (by rw [x_bk_awayAt_4]; rw [if_neg c9_1, if_neg c19_2, if_pos c29_3]) ((ih v2 (v3 + 1)  kk))
        · have kk := kk.2 c29_3
          refine r_inc (y := 1) dX1_awayAt_32 rfl rfl rfl ?_
          refine r_inc (y := 1) dX1_awayAt_35 rfl rfl rfl ?_
          refine r_go dX1_awayAt_38 rfl ?_
          show tR _ _ _ _ [some (.ref l0), some (.int l1), some (.int (v2 + 1)), some (.int (v3 + 1))] _ _ _ _
          exact r_eIp (r' := x_bk_awayAt_4 T l0 l1 K f (v2 + 1) (v3 + 1)) (by rw [x_bk_awayAt_4]; rw [if_neg c9_1, if_neg c19_2, if_neg c29_3]) ((ih (v2 + 1) (v3 + 1)  kk))
def x_bk_awayAt (T : St) (a : Nat) (p0 : Int32) : Int32 := x_bk_awayAt_4 T a p0 (fun (w1_2 : Int32) (w1_3 : Int32) => w1_2) 1000 0 0
def ok_bk_awayAt (T : St) (a : Nat) (p0 : Int32) : Prop := ok_bk_awayAt_4 T a p0 (fun (w1_2 : Int32) (w1_3 : Int32) => True) 1000 0 0
theorem c_bk_awayAt {X : Nat × (Nat → Int32)} {T : St} (a : Nat) (p0 : Int32) (kk : ok_bk_awayAt T a p0) : tC X 1 mX1_awayAt [.ref a, .int p0] T (some (.int (x_bk_awayAt T a p0))) T := by
  unfold ok_bk_awayAt at kk
  refine tC_of ?_
  refine r_ci (x := 0) dX1_awayAt_0 rfl ?_
  refine r_p dX1_awayAt_1 rfl rfl ?_
  refine r_ci (x := 0) dX1_awayAt_2 rfl ?_
  refine r_p dX1_awayAt_3 rfl rfl ?_
  show tR _ _ _ _ [some (.ref a), some (.int p0), some (.int 0), some (.int 0)] _ _ _ _
  refine r_eIp (r' := x_bk_awayAt_4 T a p0 (fun (w1_2 : Int32) (w1_3 : Int32) => w1_2) 1000 0 0) (by unfold x_bk_awayAt; rfl) ((c_bk_awayAt_4 T a p0 (fun w1_2 w1_3 kk => ?_) 1000 0 0  kk))
  · refine r_p dX1_awayAt_41 rfl rfl ?_
    exact r_eIp (r' := w1_2) rfl (r_ri dX1_awayAt_42 rfl rfl rfl rfl)
def x_bk_kindOf (T : St) (a : Nat) (p0 : Int32) : Int32 := if (T.2.2.1 (a + 9) (p0 : Int32).toNatClampNeg) = 0 then (if (T.2.2.1 (a + 12) (p0 : Int32).toNatClampNeg) = 2 then (6) else (1)) else (if (T.2.2.1 (a + 9) (p0 : Int32).toNatClampNeg) = 1 then (2) else (if (T.2.2.1 (a + 9) (p0 : Int32).toNatClampNeg) = 2 then (3) else (if (T.2.2.1 (a + 9) (p0 : Int32).toNatClampNeg) = 3 then (4) else (5))))
def ok_bk_kindOf (T : St) (a : Nat) (p0 : Int32) : Prop := (sh a = .inr 1) ∧ (sh (a + 9) = .inl (0, 24)) ∧ (vp_in p0 24) ∧ ((T.2.2.1 (a + 9) (p0 : Int32).toNatClampNeg) = 0 → (sh (a + 12) = .inl (0, 24)) ∧ True)
theorem c_bk_kindOf {X : Nat × (Nat → Int32)} {T : St} (a : Nat) (p0 : Int32) (kk : ok_bk_kindOf T a p0) : tC X 1 mX1_kindOf [.ref a, .int p0] T (some (.int (x_bk_kindOf T a p0))) T := by
  unfold ok_bk_kindOf at kk
  refine tC_of ?_
  refine r_p dX1_kindOf_0 rfl rfl ?_
  obtain ⟨q1, kk⟩ := kk
  refine r_get dX1_kindOf_1 fkX1_36 q1 rfl ?_
  refine r_p dX1_kindOf_4 rfl rfl ?_
  obtain ⟨q2, kk⟩ := kk
  obtain ⟨q3, kk⟩ := kk
  refine r_ia dX1_kindOf_5 q2 q3 ?_
  by_cases s6_1_0 : (T.2.2.1 (a + 9) (p0 : Int32).toNatClampNeg) = 0
  · have kk := kk s6_1_0
    refine r_tin dX1_kindOf_6 (by rw [s6_1_0]; decide) (by rw [s6_1_0]; decide) (off := 30) (by rw [s6_1_0]; rfl) rfl ?_
    refine r_p dX1_kindOf_36 rfl rfl ?_
    refine r_get dX1_kindOf_37 fkX1_45 q1 rfl ?_
    refine r_p dX1_kindOf_40 rfl rfl ?_
    obtain ⟨q4, kk⟩ := kk
    refine r_ia dX1_kindOf_41 q4 q3 ?_
    refine r_ci (x := 2) dX1_kindOf_42 rfl ?_
    refine r_cne dX1_kindOf_43 rfl (fun c43_2 => ?_) (fun c43_2 => ?_)
    · refine r_ci (x := 1) dX1_kindOf_51 rfl ?_
      exact r_eIp (r' := 1) (by unfold x_bk_kindOf; rw [if_pos s6_1_0, if_neg c43_2]) (r_ri dX1_kindOf_52 rfl rfl rfl rfl)
    · refine r_cb (x := 6) dX1_kindOf_46 rfl ?_
      refine r_go dX1_kindOf_48 rfl ?_
      exact r_eIp (r' := 6) (by unfold x_bk_kindOf; rw [if_pos s6_1_0, if_pos c43_2]) (r_ri dX1_kindOf_52 rfl rfl rfl rfl)
  · by_cases s6_1_1 : (T.2.2.1 (a + 9) (p0 : Int32).toNatClampNeg) = 1
    · refine r_tin dX1_kindOf_6 (by rw [s6_1_1]; decide) (by rw [s6_1_1]; decide) (off := 47) (by rw [s6_1_1]; rfl) rfl ?_
      refine r_ci (x := 2) dX1_kindOf_53 rfl ?_
      exact r_eIp (r' := 2) (by unfold x_bk_kindOf; rw [if_neg s6_1_0, if_pos s6_1_1]) (r_ri dX1_kindOf_54 rfl rfl rfl rfl)
    · by_cases s6_1_2 : (T.2.2.1 (a + 9) (p0 : Int32).toNatClampNeg) = 2
      · refine r_tin dX1_kindOf_6 (by rw [s6_1_2]; decide) (by rw [s6_1_2]; decide) (off := 49) (by rw [s6_1_2]; rfl) rfl ?_
        refine r_ci (x := 3) dX1_kindOf_55 rfl ?_
        exact r_eIp (r' := 3) (by unfold x_bk_kindOf; rw [if_neg s6_1_0, if_neg s6_1_1, if_pos s6_1_2]) (r_ri dX1_kindOf_56 rfl rfl rfl rfl)
      · by_cases s6_1_3 : (T.2.2.1 (a + 9) (p0 : Int32).toNatClampNeg) = 3
        · refine r_tin dX1_kindOf_6 (by rw [s6_1_3]; decide) (by rw [s6_1_3]; decide) (off := 51) (by rw [s6_1_3]; rfl) rfl ?_
          refine r_ci (x := 4) dX1_kindOf_57 rfl ?_
          exact r_eIp (r' := 4) (by unfold x_bk_kindOf; rw [if_neg s6_1_0, if_neg s6_1_1, if_neg s6_1_2, if_pos s6_1_3]) (r_ri dX1_kindOf_58 rfl rfl rfl rfl)
        · refine r_tout dX1_kindOf_6 (by have := i_rg (T.2.2.1 (a + 9) (p0 : Int32).toNatClampNeg); simp only [i_eq, i_0, i_1, i_2, i_3] at s6_1_0 s6_1_1 s6_1_2 s6_1_3; omega) rfl ?_
          refine r_ci (x := 5) dX1_kindOf_59 rfl ?_
          exact r_eIp (r' := 5) (by unfold x_bk_kindOf; rw [if_neg s6_1_0, if_neg s6_1_1, if_neg s6_1_2, if_neg s6_1_3]) (r_ri dX1_kindOf_60 rfl rfl rfl rfl)
def x_bk_warmsBy (T : St) (a : Nat) (p0 : Int32) (p1 : Int32) : Int32 := if ((T.2.2.1 (a + 1) (3 : Int32).toNatClampNeg) * (p1 + 1)) < (T.2.2.1 (a + 13) (p0 : Int32).toNatClampNeg) then (0) else (1)
def ok_bk_warmsBy (T : St) (a : Nat) (p0 : Int32) (p1 : Int32) : Prop := (sh a = .inr 1) ∧ (sh (a + 13) = .inl (0, 24)) ∧ (vp_in p0 24) ∧ (sh (a + 1) = .inl (0, 7)) ∧ (vp_in 3 7) ∧ True
theorem c_bk_warmsBy {X : Nat × (Nat → Int32)} {T : St} (a : Nat) (p0 : Int32) (p1 : Int32) (kk : ok_bk_warmsBy T a p0 p1) : tC X 1 mX1_warmsBy [.ref a, .int p0, .int p1] T (some (.int (x_bk_warmsBy T a p0 p1))) T := by
  unfold ok_bk_warmsBy at kk
  refine tC_of ?_
  refine r_p dX1_warmsBy_0 rfl rfl ?_
  obtain ⟨q1, kk⟩ := kk
  refine r_get dX1_warmsBy_1 fkX1_48 q1 rfl ?_
  refine r_p dX1_warmsBy_4 rfl rfl ?_
  obtain ⟨q2, kk⟩ := kk
  obtain ⟨q3, kk⟩ := kk
  refine r_ia dX1_warmsBy_5 q2 q3 ?_
  refine r_p dX1_warmsBy_6 rfl rfl ?_
  refine r_get dX1_warmsBy_7 fkX1_9 q1 rfl ?_
  refine r_ci (x := 3) dX1_warmsBy_10 rfl ?_
  obtain ⟨q4, kk⟩ := kk
  obtain ⟨q5, kk⟩ := kk
  refine r_ia dX1_warmsBy_11 q4 q5 ?_
  refine r_p dX1_warmsBy_12 rfl rfl ?_
  refine r_ci (x := 1) dX1_warmsBy_13 rfl ?_
  refine r_p dX1_warmsBy_14 rfl rfl ?_
  refine r_p dX1_warmsBy_15 rfl rfl ?_
  refine r_cgt dX1_warmsBy_16 rfl (fun c16_1 => ?_) (fun c16_1 => ?_)
  · refine r_ci (x := 0) dX1_warmsBy_23 rfl ?_
    exact r_eIp (r' := 0) (by unfold x_bk_warmsBy; rw [if_pos c16_1]) (r_ri dX1_warmsBy_24 rfl rfl rfl rfl)
  · refine r_ci (x := 1) dX1_warmsBy_19 rfl ?_
    refine r_go dX1_warmsBy_20 rfl ?_
    exact r_eIp (r' := 1) (by unfold x_bk_warmsBy; rw [if_neg c16_1]) (r_ri dX1_warmsBy_24 rfl rfl rfl rfl)
theorem b_bk_warmsBy (T : St) (a : Nat) (p0 : Int32) (p1 : Int32) : x_bk_warmsBy T a p0 p1 = 0 ∨ x_bk_warmsBy T a p0 p1 = 1 := by
  unfold x_bk_warmsBy
  repeat' split
  all_goals (first | exact Or.inl rfl | exact Or.inr rfl)
