def x_ask_isKind (T : St) (p0 : Int32) (p1 : Int32) : Int32 := if p0 = p1 then (1) else (if (([0, 0, 0, 0, 0, 4, 1] : List Int32).getD (p0 : Int32).toNatClampNeg 0) = p1 then (1) else (if p1 = 0 then (1) else (0)))
def ok_ask_isKind (T : St) (p0 : Int32) (p1 : Int32) : Prop := (¬ p0 = p1 → (vp_in p0 7) ∧ True)
theorem c_ask_isKind {X : Nat × (Nat → Int32)} {T : St} (p0 : Int32) (p1 : Int32) (kk : ok_ask_isKind T p0 p1) : tC X 1 mX0_isKind [.ref (555 : Nat), .int p0, .int p1] T (some (.int (x_ask_isKind T p0 p1))) T := by
  unfold ok_ask_isKind at kk
  refine tC_orIp (L := [some (.ref (555 : Nat)), some (.int p0), some (.int p1)]) (x_ask_isKind T p0 p1) rfl ?_
  unfold x_ask_isKind
  refine r_p (pc2 := 1) dX0_isKind_0 rfl rfl ?_
  refine r_p (pc2 := 2) dX0_isKind_1 rfl rfl ?_
  refine r_ceq dX0_isKind_2 rfl (fun c2_1 => ?_) (fun c2_1 => ?_)
  · refine r_ip (R := (rIp T)) c2_1 ?_
    refine r_ci (x := 1) dX0_isKind_18 rfl ?_
    refine r_go dX0_isKind_19 rfl ?_
    exact r_qIp dX0_isKind_23 rfl rfl rfl
  · refine r_in (R := (rIp T)) c2_1 ?_
    have kk := kk c2_1
    refine r_gs 3 rfl dX0_isKind_5 gsX0_13 ?_
    refine r_p (pc2 := 9) dX0_isKind_8 rfl rfl ?_
    obtain ⟨q1, kk⟩ := kk
    refine r_ta (j := 3) rfl dX0_isKind_9 q1 ?_
    refine r_p (pc2 := 11) dX0_isKind_10 rfl rfl ?_
    refine r_ceq dX0_isKind_11 rfl (fun c11_2 => ?_) (fun c11_2 => ?_)
    · refine r_ip (R := (rIp T)) c11_2 ?_
      refine r_ci (x := 1) dX0_isKind_18 rfl ?_
      refine r_go dX0_isKind_19 rfl ?_
      exact r_qIp dX0_isKind_23 rfl rfl rfl
    · refine r_in (R := (rIp T)) c11_2 ?_
      refine r_p (pc2 := 15) dX0_isKind_14 rfl rfl ?_
      refine r_ine dX0_isKind_15 rfl (fun c15_3 => ?_) (fun c15_3 => ?_)
      · refine r_in (R := (rIp T)) c15_3 ?_
        refine r_ci (x := 0) dX0_isKind_22 rfl ?_
        exact r_qIp dX0_isKind_23 rfl rfl rfl
      · refine r_ip (R := (rIp T)) c15_3 ?_
        refine r_ci (x := 1) dX0_isKind_18 rfl ?_
        refine r_go dX0_isKind_19 rfl ?_
        exact r_qIp dX0_isKind_23 rfl rfl rfl
theorem b_ask_isKind (T : St) (p0 : Int32) (p1 : Int32) : x_ask_isKind T p0 p1 = 0 ∨ x_ask_isKind T p0 p1 = 1 := by
  unfold x_ask_isKind
  try simp only [jn]
  repeat' split
  all_goals (first | exact Or.inl rfl | exact Or.inr rfl)
def x_ask_begin (T : St) (p0 : Int32) : St := if 16 ≤ (T.1 555 1) then (T) else (sF (sA T 556 (T.1 555 1 : Int32).toNatClampNeg p0) 555 1 (((sA T 556 (T.1 555 1 : Int32).toNatClampNeg p0).1 555 1) + 1))
def ok_ask_begin (T : St) (p0 : Int32) : Prop := (¬ 16 ≤ (T.1 555 1) → (vp_in (T.1 555 1) 16) ∧ True)
theorem c_ask_begin {X : Nat × (Nat → Int32)} {T : St} (p0 : Int32) (kk : ok_ask_begin T p0) : tC X 1 mX0_begin [.ref (555 : Nat), .int p0] T none (x_ask_begin T p0) := by
  unfold ok_ask_begin at kk
  refine tC_orV (L := [some (.ref (555 : Nat)), some (.int p0)]) (x_ask_begin T p0) rfl ?_
  unfold x_ask_begin
  refine r_p (pc2 := 1) dX0_begin_0 rfl rfl ?_
  refine r_get dX0_begin_1 fkX0_16 rfl rfl ?_
  refine r_cb (x := 16) dX0_begin_4 rfl ?_
  refine r_cge dX0_begin_6 rfl (fun c6_1 => ?_) (fun c6_1 => ?_)
  · refine r_ip (R := rV) c6_1 ?_
    exact r_qV dX0_begin_29 rfl rfl
  · refine r_in (R := rV) c6_1 ?_
    have kk := kk c6_1
    refine r_p (pc2 := 10) dX0_begin_9 rfl rfl ?_
    refine r_get dX0_begin_10 fkX0_9 rfl rfl ?_
    refine r_p (pc2 := 14) dX0_begin_13 rfl rfl ?_
    refine r_get dX0_begin_14 fkX0_16 rfl rfl ?_
    refine r_p (pc2 := 18) dX0_begin_17 rfl rfl ?_
    obtain ⟨q1, kk⟩ := kk
    refine r_ias dX0_begin_18 rfl q1 ?_
    refine r_p (pc2 := 20) dX0_begin_19 rfl rfl ?_
    refine r_p (pc2 := 21) dX0_begin_20 rfl rfl ?_
    refine r_get dX0_begin_21 fkX0_16 rfl rfl ?_
    refine r_ci (x := 1) dX0_begin_24 rfl ?_
    refine r_p (pc2 := 26) dX0_begin_25 rfl rfl ?_
    refine r_put dX0_begin_26 fkX0_16 rfl rfl rfl (Nat.le_of_ble_eq_true rfl) rfl rfl ?_
    exact r_qV dX0_begin_29 rfl rfl
def x_ask_sizeOfAny (T : St) (p0 : Nat) (p1 : Int32) : Int32 × St := ((x_ask_begin T 10).2.2.1 (p0 + 10) (p1 : Int32).toNatClampNeg, x_ask_begin T 10)
def ok_ask_sizeOfAny (T : St) (p0 : Nat) (p1 : Int32) : Prop := (ok_ask_begin T 10) ∧ (sh p0 = .inr 1) ∧ (vp_in p1 24) ∧ True
theorem c_ask_sizeOfAny {X : Nat × (Nat → Int32)} {T : St} (p0 : Nat) (p1 : Int32) (kk : ok_ask_sizeOfAny T p0 p1) : tC X 2 mX0_sizeOfAny [.ref (555 : Nat), .ref p0, .int p1] T (some (.int (x_ask_sizeOfAny T p0 p1).1)) ((x_ask_sizeOfAny T p0 p1).2) := by
  unfold ok_ask_sizeOfAny at kk
  refine tC_orI (L := [some (.ref (555 : Nat)), some (.ref p0), some (.int p1)]) (x_ask_sizeOfAny T p0 p1) rfl ?_
  unfold x_ask_sizeOfAny
  refine r_p (pc2 := 1) dX0_sizeOfAny_0 rfl rfl ?_
  refine r_cb (x := 10) dX0_sizeOfAny_1 rfl ?_
  obtain ⟨q1, kk⟩ := kk
  refine r_cv (d1 := 1) dX0_sizeOfAny_3 cvX0_37 rfl rfl rfl rfl (Nat.le_of_ble_eq_true rfl) (Nat.le_of_ble_eq_true rfl) (Nat.le_of_ble_eq_true rfl) (c_ask_begin 10 q1) ?_
  refine r_p (pc2 := 7) dX0_sizeOfAny_6 rfl rfl ?_
  obtain ⟨q2, kk⟩ := kk
  refine r_get dX0_sizeOfAny_7 fkX0_50 q2 rfl ?_
  refine r_p (pc2 := 11) dX0_sizeOfAny_10 rfl rfl ?_
  obtain ⟨q3, kk⟩ := kk
  refine r_ia dX0_sizeOfAny_11 (shl1_10 q2) q3 ?_
  exact r_qI dX0_sizeOfAny_12 rfl rfl rfl rfl
def x_ask_sizeOfRinged (T : St) (p0 : Nat) (p1 : Int32) : Int32 × St := (((x_ask_sizeOfAny (x_ask_begin T 11) p0 p1).1) + (10 * (((x_ask_sizeOfAny (x_ask_begin T 11) p0 p1).2).2.2.1 (p0 + 13) (p1 : Int32).toNatClampNeg)), (x_ask_sizeOfAny (x_ask_begin T 11) p0 p1).2)
def ok_ask_sizeOfRinged (T : St) (p0 : Nat) (p1 : Int32) : Prop := (ok_ask_begin T 11) ∧ (ok_ask_sizeOfAny (x_ask_begin T 11) p0 p1) ∧ (sh p0 = .inr 1) ∧ (vp_in p1 24) ∧ True
theorem c_ask_sizeOfRinged {X : Nat × (Nat → Int32)} {T : St} (p0 : Nat) (p1 : Int32) (kk : ok_ask_sizeOfRinged T p0 p1) : tC X 3 mX0_sizeOfRinged [.ref (555 : Nat), .ref p0, .int p1] T (some (.int (x_ask_sizeOfRinged T p0 p1).1)) ((x_ask_sizeOfRinged T p0 p1).2) := by
  unfold ok_ask_sizeOfRinged at kk
  refine tC_orI (L := [some (.ref (555 : Nat)), some (.ref p0), some (.int p1)]) (x_ask_sizeOfRinged T p0 p1) rfl ?_
  unfold x_ask_sizeOfRinged
  refine r_p (pc2 := 1) dX0_sizeOfRinged_0 rfl rfl ?_
  refine r_cb (x := 11) dX0_sizeOfRinged_1 rfl ?_
  obtain ⟨q1, kk⟩ := kk
  refine r_cv (d1 := 1) dX0_sizeOfRinged_3 cvX0_37 rfl rfl rfl rfl (Nat.le_of_ble_eq_true rfl) (Nat.le_of_ble_eq_true rfl) (Nat.le_of_ble_eq_true rfl) (c_ask_begin 11 q1) ?_
  refine r_p (pc2 := 7) dX0_sizeOfRinged_6 rfl rfl ?_
  refine r_p (pc2 := 8) dX0_sizeOfRinged_7 rfl rfl ?_
  refine r_p (pc2 := 9) dX0_sizeOfRinged_8 rfl rfl ?_
  obtain ⟨q2, kk⟩ := kk
  refine r_cv (d1 := 2) dX0_sizeOfRinged_9 cvX0_41 rfl rfl rfl rfl (Nat.le_of_ble_eq_true rfl) (Nat.le_of_ble_eq_true rfl) (Nat.le_of_ble_eq_true rfl) (c_ask_sizeOfAny p0 p1 q2) ?_
  refine r_cb (x := 10) dX0_sizeOfRinged_12 rfl ?_
  refine r_p (pc2 := 15) dX0_sizeOfRinged_14 rfl rfl ?_
  obtain ⟨q3, kk⟩ := kk
  refine r_get dX0_sizeOfRinged_15 fkX0_47 q3 rfl ?_
  refine r_p (pc2 := 19) dX0_sizeOfRinged_18 rfl rfl ?_
  obtain ⟨q4, kk⟩ := kk
  refine r_ia dX0_sizeOfRinged_19 (shl1_13 q3) q4 ?_
  refine r_p (pc2 := 21) dX0_sizeOfRinged_20 rfl rfl ?_
  refine r_p (pc2 := 22) dX0_sizeOfRinged_21 rfl rfl ?_
  exact r_qI dX0_sizeOfRinged_22 rfl rfl rfl rfl
def x_ask_markOfAny (T : St) (p0 : Int32) : Int32 × St := (p0, x_ask_begin T 20)
def ok_ask_markOfAny (T : St) (p0 : Int32) : Prop := (ok_ask_begin T 20) ∧ True
theorem c_ask_markOfAny {X : Nat × (Nat → Int32)} {T : St} (p0 : Int32) (kk : ok_ask_markOfAny T p0) : tC X 2 mX0_markOfAny [.ref (555 : Nat), .int p0] T (some (.int (x_ask_markOfAny T p0).1)) ((x_ask_markOfAny T p0).2) := by
  unfold ok_ask_markOfAny at kk
  refine tC_orI (L := [some (.ref (555 : Nat)), some (.int p0)]) (x_ask_markOfAny T p0) rfl ?_
  unfold x_ask_markOfAny
  refine r_p (pc2 := 1) dX0_markOfAny_0 rfl rfl ?_
  refine r_cb (x := 20) dX0_markOfAny_1 rfl ?_
  obtain ⟨q1, kk⟩ := kk
  refine r_cv (d1 := 1) dX0_markOfAny_3 cvX0_37 rfl rfl rfl rfl (Nat.le_of_ble_eq_true rfl) (Nat.le_of_ble_eq_true rfl) (Nat.le_of_ble_eq_true rfl) (c_ask_begin 20 q1) ?_
  refine r_p (pc2 := 7) dX0_markOfAny_6 rfl rfl ?_
  exact r_qI dX0_markOfAny_7 rfl rfl rfl rfl
def x_ask_markOfRested (T : St) (p0 : Int32) : Int32 × St := (((x_ask_markOfAny (x_ask_begin T 21) p0).1) + 50, (x_ask_markOfAny (x_ask_begin T 21) p0).2)
def ok_ask_markOfRested (T : St) (p0 : Int32) : Prop := (ok_ask_begin T 21) ∧ (ok_ask_markOfAny (x_ask_begin T 21) p0) ∧ True
theorem c_ask_markOfRested {X : Nat × (Nat → Int32)} {T : St} (p0 : Int32) (kk : ok_ask_markOfRested T p0) : tC X 3 mX0_markOfRested [.ref (555 : Nat), .int p0] T (some (.int (x_ask_markOfRested T p0).1)) ((x_ask_markOfRested T p0).2) := by
  unfold ok_ask_markOfRested at kk
  refine tC_orI (L := [some (.ref (555 : Nat)), some (.int p0)]) (x_ask_markOfRested T p0) rfl ?_
  unfold x_ask_markOfRested
  refine r_p (pc2 := 1) dX0_markOfRested_0 rfl rfl ?_
  refine r_cb (x := 21) dX0_markOfRested_1 rfl ?_
  obtain ⟨q1, kk⟩ := kk
  refine r_cv (d1 := 1) dX0_markOfRested_3 cvX0_37 rfl rfl rfl rfl (Nat.le_of_ble_eq_true rfl) (Nat.le_of_ble_eq_true rfl) (Nat.le_of_ble_eq_true rfl) (c_ask_begin 21 q1) ?_
  refine r_p (pc2 := 7) dX0_markOfRested_6 rfl rfl ?_
  refine r_p (pc2 := 8) dX0_markOfRested_7 rfl rfl ?_
  obtain ⟨q2, kk⟩ := kk
  refine r_cv (d1 := 2) dX0_markOfRested_8 cvX0_56 rfl rfl rfl rfl (Nat.le_of_ble_eq_true rfl) (Nat.le_of_ble_eq_true rfl) (Nat.le_of_ble_eq_true rfl) (c_ask_markOfAny p0 q2) ?_
  refine r_cb (x := 50) dX0_markOfRested_11 rfl ?_
  refine r_p (pc2 := 14) dX0_markOfRested_13 rfl rfl ?_
  exact r_qI dX0_markOfRested_14 rfl rfl rfl rfl
def x_bk_clear (T : St) (a : Nat) : St := sF (sF (sF (sF (sF T a 1 0) a 4 0) a 10 0) a 17 1) a 18 60
def ok_bk_clear (T : St) (a : Nat) : Prop := (sh a = .inr 1) ∧ True
theorem c_bk_clear {X : Nat × (Nat → Int32)} {T : St} (a : Nat) (kk : ok_bk_clear T a) : tC X 1 mX1_clear [.ref a] T none (x_bk_clear T a) := by
  unfold ok_bk_clear at kk
  refine tC_orV (L := [some (.ref a)]) (x_bk_clear T a) rfl ?_
  unfold x_bk_clear
  refine r_p (pc2 := 1) dX1_clear_0 rfl rfl ?_
  refine r_ci (x := 0) dX1_clear_1 rfl ?_
  obtain ⟨q1, kk⟩ := kk
  refine r_put dX1_clear_2 fkX1_58 rfl q1 rfl (Nat.le_of_ble_eq_true rfl) rfl rfl ?_
  refine r_p (pc2 := 6) dX1_clear_5 rfl rfl ?_
  refine r_ci (x := 0) dX1_clear_6 rfl ?_
  refine r_put dX1_clear_7 fkX1_61 rfl q1 rfl (Nat.le_of_ble_eq_true rfl) rfl rfl ?_
  refine r_p (pc2 := 11) dX1_clear_10 rfl rfl ?_
  refine r_ci (x := 0) dX1_clear_11 rfl ?_
  refine r_put dX1_clear_12 fkX1_64 rfl q1 rfl (Nat.le_of_ble_eq_true rfl) rfl rfl ?_
  refine r_p (pc2 := 16) dX1_clear_15 rfl rfl ?_
  refine r_ci (x := 1) dX1_clear_16 rfl ?_
  refine r_put dX1_clear_17 fkX1_67 rfl q1 rfl (Nat.le_of_ble_eq_true rfl) rfl rfl ?_
  refine r_p (pc2 := 21) dX1_clear_20 rfl rfl ?_
  refine r_cb (x := 60) dX1_clear_21 rfl ?_
  refine r_put dX1_clear_23 fkX1_54 rfl q1 rfl (Nat.le_of_ble_eq_true rfl) rfl rfl ?_
  exact r_qV dX1_clear_26 rfl rfl
def x_bk_take (T : St) (a : Nat) (p0 : Nat) : St := jn (fun (T1 : St) => jn (fun (T2 : St) => jn (fun (T3 : St) => jn (fun (T4 : St) => jn (fun (T5 : St) => jn (fun (T6 : St) => jn (fun (T7 : St) => jn (fun (T8 : St) => jn (fun (T9 : St) => jn (fun (T10 : St) => jn (fun (T11 : St) => jn (fun (T12 : St) => jn (fun (T13 : St) => jn (fun (T14 : St) => sF (sF T14 a 17 (T14.1 p0 17)) a 18 ((sF T14 a 17 (T14.1 p0 17)).1 p0 18)) (sAr T13 (a + 14) (va_cpy (T13.2.2.1 (p0 + 14)) (T13.2.2.1 (a + 14)) (0 : Int32).toNatClampNeg (0 : Int32).toNatClampNeg (24 : Int32).toNatClampNeg))) (sAr T12 (a + 13) (va_cpy (T12.2.2.1 (p0 + 13)) (T12.2.2.1 (a + 13)) (0 : Int32).toNatClampNeg (0 : Int32).toNatClampNeg (24 : Int32).toNatClampNeg))) (sAr T11 (a + 12) (va_cpy (T11.2.2.1 (p0 + 12)) (T11.2.2.1 (a + 12)) (0 : Int32).toNatClampNeg (0 : Int32).toNatClampNeg (24 : Int32).toNatClampNeg))) (sAr T10 (a + 11) (va_cpy (T10.2.2.1 (p0 + 11)) (T10.2.2.1 (a + 11)) (0 : Int32).toNatClampNeg (0 : Int32).toNatClampNeg (24 : Int32).toNatClampNeg))) (sAr T9 (a + 10) (va_cpy (T9.2.2.1 (p0 + 10)) (T9.2.2.1 (a + 10)) (0 : Int32).toNatClampNeg (0 : Int32).toNatClampNeg (24 : Int32).toNatClampNeg))) (sAr (sF T8 a 10 (T8.1 p0 10)) (a + 9) (va_cpy ((sF T8 a 10 (T8.1 p0 10)).2.2.1 (p0 + 9)) ((sF T8 a 10 (T8.1 p0 10)).2.2.1 (a + 9)) (0 : Int32).toNatClampNeg (0 : Int32).toNatClampNeg (24 : Int32).toNatClampNeg))) (sAr T7 (a + 8) (va_cpy (T7.2.2.1 (p0 + 8)) (T7.2.2.1 (a + 8)) (0 : Int32).toNatClampNeg (0 : Int32).toNatClampNeg (8 : Int32).toNatClampNeg))) (sAr T6 (a + 7) (va_cpy (T6.2.2.1 (p0 + 7)) (T6.2.2.1 (a + 7)) (0 : Int32).toNatClampNeg (0 : Int32).toNatClampNeg (8 : Int32).toNatClampNeg))) (sAr T5 (a + 6) (va_cpy (T5.2.2.1 (p0 + 6)) (T5.2.2.1 (a + 6)) (0 : Int32).toNatClampNeg (0 : Int32).toNatClampNeg (8 : Int32).toNatClampNeg))) (sAr T4 (a + 5) (va_cpy (T4.2.2.1 (p0 + 5)) (T4.2.2.1 (a + 5)) (0 : Int32).toNatClampNeg (0 : Int32).toNatClampNeg (8 : Int32).toNatClampNeg))) (sAr (sF T3 a 4 (T3.1 p0 4)) (a + 4) (va_cpy ((sF T3 a 4 (T3.1 p0 4)).2.2.1 (p0 + 4)) ((sF T3 a 4 (T3.1 p0 4)).2.2.1 (a + 4)) (0 : Int32).toNatClampNeg (0 : Int32).toNatClampNeg (8 : Int32).toNatClampNeg))) (sAr T2 (a + 3) (va_cpy (T2.2.2.1 (p0 + 3)) (T2.2.2.1 (a + 3)) (0 : Int32).toNatClampNeg (0 : Int32).toNatClampNeg (4 : Int32).toNatClampNeg))) (sAr (sF T1 a 1 (T1.1 p0 1)) (a + 2) (va_cpy ((sF T1 a 1 (T1.1 p0 1)).2.2.1 (p0 + 2)) ((sF T1 a 1 (T1.1 p0 1)).2.2.1 (a + 2)) (0 : Int32).toNatClampNeg (0 : Int32).toNatClampNeg (4 : Int32).toNatClampNeg))) (sAr T (a + 1) (va_cpy (T.2.2.1 (p0 + 1)) (T.2.2.1 (a + 1)) (0 : Int32).toNatClampNeg (0 : Int32).toNatClampNeg ((Int32.ofNat 7) : Int32).toNatClampNeg))
def ok_bk_take (T : St) (a : Nat) (p0 : Nat) : Prop := (sh p0 = .inr 1) ∧ (sh a = .inr 1) ∧ (cpok 0 0 (Int32.ofNat 7) 7 7) ∧ jn (fun (T1 : St) => (cpok 0 0 4 4 4) ∧ jn (fun (T2 : St) => jn (fun (T3 : St) => (cpok 0 0 8 8 8) ∧ jn (fun (T4 : St) => jn (fun (T5 : St) => jn (fun (T6 : St) => jn (fun (T7 : St) => jn (fun (T8 : St) => (cpok 0 0 24 24 24) ∧ True) (sAr T7 (a + 8) (va_cpy (T7.2.2.1 (p0 + 8)) (T7.2.2.1 (a + 8)) (0 : Int32).toNatClampNeg (0 : Int32).toNatClampNeg (8 : Int32).toNatClampNeg))) (sAr T6 (a + 7) (va_cpy (T6.2.2.1 (p0 + 7)) (T6.2.2.1 (a + 7)) (0 : Int32).toNatClampNeg (0 : Int32).toNatClampNeg (8 : Int32).toNatClampNeg))) (sAr T5 (a + 6) (va_cpy (T5.2.2.1 (p0 + 6)) (T5.2.2.1 (a + 6)) (0 : Int32).toNatClampNeg (0 : Int32).toNatClampNeg (8 : Int32).toNatClampNeg))) (sAr T4 (a + 5) (va_cpy (T4.2.2.1 (p0 + 5)) (T4.2.2.1 (a + 5)) (0 : Int32).toNatClampNeg (0 : Int32).toNatClampNeg (8 : Int32).toNatClampNeg))) (sAr (sF T3 a 4 (T3.1 p0 4)) (a + 4) (va_cpy ((sF T3 a 4 (T3.1 p0 4)).2.2.1 (p0 + 4)) ((sF T3 a 4 (T3.1 p0 4)).2.2.1 (a + 4)) (0 : Int32).toNatClampNeg (0 : Int32).toNatClampNeg (8 : Int32).toNatClampNeg))) (sAr T2 (a + 3) (va_cpy (T2.2.2.1 (p0 + 3)) (T2.2.2.1 (a + 3)) (0 : Int32).toNatClampNeg (0 : Int32).toNatClampNeg (4 : Int32).toNatClampNeg))) (sAr (sF T1 a 1 (T1.1 p0 1)) (a + 2) (va_cpy ((sF T1 a 1 (T1.1 p0 1)).2.2.1 (p0 + 2)) ((sF T1 a 1 (T1.1 p0 1)).2.2.1 (a + 2)) (0 : Int32).toNatClampNeg (0 : Int32).toNatClampNeg (4 : Int32).toNatClampNeg))) (sAr T (a + 1) (va_cpy (T.2.2.1 (p0 + 1)) (T.2.2.1 (a + 1)) (0 : Int32).toNatClampNeg (0 : Int32).toNatClampNeg ((Int32.ofNat 7) : Int32).toNatClampNeg))
theorem c_bk_take {X : Nat × (Nat → Int32)} {T : St} (a : Nat) (p0 : Nat) (kk : ok_bk_take T a p0) : tC X 1 mX1_take [.ref a, .ref p0] T none (x_bk_take T a p0) := by
  unfold ok_bk_take at kk
  refine tC_orV (L := [some (.ref a), some (.ref p0)]) (x_bk_take T a p0) rfl ?_
  unfold x_bk_take
  refine r_p (pc2 := 1) dX1_take_0 rfl rfl ?_
  obtain ⟨q1, kk⟩ := kk
  refine r_get dX1_take_1 fkX1_9 q1 rfl ?_
  refine r_ci (x := 0) dX1_take_4 rfl ?_
  refine r_p (pc2 := 6) dX1_take_5 rfl rfl ?_
  obtain ⟨q2, kk⟩ := kk
  refine r_get dX1_take_6 fkX1_9 q2 rfl ?_
  refine r_ci (x := 0) dX1_take_9 rfl ?_
  refine r_p (pc2 := 11) dX1_take_10 rfl rfl ?_
  refine r_get dX1_take_11 fkX1_9 q2 rfl ?_
  refine r_al dX1_take_14 (shl1_1 q2) (by decide) ?_
  obtain ⟨q3, kk⟩ := kk
  refine r_cpy dX1_take_15 cpX1_70 (shl1_1 q2) (shl1_1 q1) q3.1 q3.2.1 q3.2.2.1 q3.2.2.2.1 q3.2.2.2.2 (Nat.le_of_ble_eq_true rfl) ?_
  refine r_nT (R := rV) rfl kk (fun T1 kk => ?_)
  refine r_p (pc2 := 19) dX1_take_18 rfl rfl ?_
  refine r_p (pc2 := 20) dX1_take_19 rfl rfl ?_
  refine r_get dX1_take_20 fkX1_58 q1 rfl ?_
  refine r_put dX1_take_23 fkX1_58 rfl q2 rfl (Nat.le_of_ble_eq_true rfl) rfl rfl ?_
  refine r_p (pc2 := 27) dX1_take_26 rfl rfl ?_
  refine r_get dX1_take_27 fkX1_15 q1 rfl ?_
  refine r_ci (x := 0) dX1_take_30 rfl ?_
  refine r_p (pc2 := 32) dX1_take_31 rfl rfl ?_
  refine r_get dX1_take_32 fkX1_15 q2 rfl ?_
  refine r_ci (x := 0) dX1_take_35 rfl ?_
  refine r_ci (x := 4) dX1_take_36 rfl ?_
  obtain ⟨q4, kk⟩ := kk
  refine r_cpy dX1_take_37 cpX1_70 (shl1_2 q2) (shl1_2 q1) q4.1 q4.2.1 q4.2.2.1 q4.2.2.2.1 q4.2.2.2.2 (Nat.le_of_ble_eq_true rfl) ?_
  refine r_nT (R := rV) rfl kk (fun T2 kk => ?_)
  refine r_p (pc2 := 41) dX1_take_40 rfl rfl ?_
  refine r_get dX1_take_41 fkX1_18 q1 rfl ?_
  refine r_ci (x := 0) dX1_take_44 rfl ?_
  refine r_p (pc2 := 46) dX1_take_45 rfl rfl ?_
  refine r_get dX1_take_46 fkX1_18 q2 rfl ?_
  refine r_ci (x := 0) dX1_take_49 rfl ?_
  refine r_ci (x := 4) dX1_take_50 rfl ?_
  refine r_cpy dX1_take_51 cpX1_70 (shl1_3 q2) (shl1_3 q1) q4.1 q4.2.1 q4.2.2.1 q4.2.2.2.1 q4.2.2.2.2 (Nat.le_of_ble_eq_true rfl) ?_
  refine r_nT (R := rV) rfl kk (fun T3 kk => ?_)
  refine r_p (pc2 := 55) dX1_take_54 rfl rfl ?_
  refine r_p (pc2 := 56) dX1_take_55 rfl rfl ?_
  refine r_get dX1_take_56 fkX1_61 q1 rfl ?_
  refine r_put dX1_take_59 fkX1_61 rfl q2 rfl (Nat.le_of_ble_eq_true rfl) rfl rfl ?_
  refine r_p (pc2 := 63) dX1_take_62 rfl rfl ?_
  refine r_get dX1_take_63 fkX1_21 q1 rfl ?_
  refine r_ci (x := 0) dX1_take_66 rfl ?_
  refine r_p (pc2 := 68) dX1_take_67 rfl rfl ?_
  refine r_get dX1_take_68 fkX1_21 q2 rfl ?_
  refine r_ci (x := 0) dX1_take_71 rfl ?_
  refine r_cb (x := 8) dX1_take_72 rfl ?_
  obtain ⟨q5, kk⟩ := kk
  refine r_cpy dX1_take_74 cpX1_70 (shl1_4 q2) (shl1_4 q1) q5.1 q5.2.1 q5.2.2.1 q5.2.2.2.1 q5.2.2.2.2 (Nat.le_of_ble_eq_true rfl) ?_
  refine r_nT (R := rV) rfl kk (fun T4 kk => ?_)
  refine r_p (pc2 := 78) dX1_take_77 rfl rfl ?_
  refine r_get dX1_take_78 fkX1_24 q1 rfl ?_
  refine r_ci (x := 0) dX1_take_81 rfl ?_
  refine r_p (pc2 := 83) dX1_take_82 rfl rfl ?_
  refine r_get dX1_take_83 fkX1_24 q2 rfl ?_
  refine r_ci (x := 0) dX1_take_86 rfl ?_
  refine r_cb (x := 8) dX1_take_87 rfl ?_
  refine r_cpy dX1_take_89 cpX1_70 (shl1_5 q2) (shl1_5 q1) q5.1 q5.2.1 q5.2.2.1 q5.2.2.2.1 q5.2.2.2.2 (Nat.le_of_ble_eq_true rfl) ?_
  refine r_nT (R := rV) rfl kk (fun T5 kk => ?_)
  refine r_p (pc2 := 93) dX1_take_92 rfl rfl ?_
  refine r_get dX1_take_93 fkX1_27 q1 rfl ?_
  refine r_ci (x := 0) dX1_take_96 rfl ?_
  refine r_p (pc2 := 98) dX1_take_97 rfl rfl ?_
  refine r_get dX1_take_98 fkX1_27 q2 rfl ?_
  refine r_ci (x := 0) dX1_take_101 rfl ?_
  refine r_cb (x := 8) dX1_take_102 rfl ?_
  refine r_cpy dX1_take_104 cpX1_70 (shl1_6 q2) (shl1_6 q1) q5.1 q5.2.1 q5.2.2.1 q5.2.2.2.1 q5.2.2.2.2 (Nat.le_of_ble_eq_true rfl) ?_
  refine r_nT (R := rV) rfl kk (fun T6 kk => ?_)
  refine r_p (pc2 := 108) dX1_take_107 rfl rfl ?_
  refine r_get dX1_take_108 fkX1_30 q1 rfl ?_
  refine r_ci (x := 0) dX1_take_111 rfl ?_
  refine r_p (pc2 := 113) dX1_take_112 rfl rfl ?_
  refine r_get dX1_take_113 fkX1_30 q2 rfl ?_
  refine r_ci (x := 0) dX1_take_116 rfl ?_
  refine r_cb (x := 8) dX1_take_117 rfl ?_
  refine r_cpy dX1_take_119 cpX1_70 (shl1_7 q2) (shl1_7 q1) q5.1 q5.2.1 q5.2.2.1 q5.2.2.2.1 q5.2.2.2.2 (Nat.le_of_ble_eq_true rfl) ?_
  refine r_nT (R := rV) rfl kk (fun T7 kk => ?_)
  refine r_p (pc2 := 123) dX1_take_122 rfl rfl ?_
  refine r_get dX1_take_123 fkX1_33 q1 rfl ?_
  refine r_ci (x := 0) dX1_take_126 rfl ?_
  refine r_p (pc2 := 128) dX1_take_127 rfl rfl ?_
  refine r_get dX1_take_128 fkX1_33 q2 rfl ?_
  refine r_ci (x := 0) dX1_take_131 rfl ?_
  refine r_cb (x := 8) dX1_take_132 rfl ?_
  refine r_cpy dX1_take_134 cpX1_70 (shl1_8 q2) (shl1_8 q1) q5.1 q5.2.1 q5.2.2.1 q5.2.2.2.1 q5.2.2.2.2 (Nat.le_of_ble_eq_true rfl) ?_
  refine r_nT (R := rV) rfl kk (fun T8 kk => ?_)
  refine r_p (pc2 := 138) dX1_take_137 rfl rfl ?_
  refine r_p (pc2 := 139) dX1_take_138 rfl rfl ?_
  refine r_get dX1_take_139 fkX1_64 q1 rfl ?_
  refine r_put dX1_take_142 fkX1_64 rfl q2 rfl (Nat.le_of_ble_eq_true rfl) rfl rfl ?_
  refine r_p (pc2 := 146) dX1_take_145 rfl rfl ?_
  refine r_get dX1_take_146 fkX1_36 q1 rfl ?_
  refine r_ci (x := 0) dX1_take_149 rfl ?_
  refine r_p (pc2 := 151) dX1_take_150 rfl rfl ?_
  refine r_get dX1_take_151 fkX1_36 q2 rfl ?_
  refine r_ci (x := 0) dX1_take_154 rfl ?_
  refine r_cb (x := 24) dX1_take_155 rfl ?_
  obtain ⟨q6, kk⟩ := kk
  refine r_cpy dX1_take_157 cpX1_70 (shl1_9 q2) (shl1_9 q1) q6.1 q6.2.1 q6.2.2.1 q6.2.2.2.1 q6.2.2.2.2 (Nat.le_of_ble_eq_true rfl) ?_
  refine r_nT0 (R := rV) rfl (fun T9 => ?_)
  refine r_p (pc2 := 161) dX1_take_160 rfl rfl ?_
  refine r_get dX1_take_161 fkX1_39 q1 rfl ?_
  refine r_ci (x := 0) dX1_take_164 rfl ?_
  refine r_p (pc2 := 166) dX1_take_165 rfl rfl ?_
  refine r_get dX1_take_166 fkX1_39 q2 rfl ?_
  refine r_ci (x := 0) dX1_take_169 rfl ?_
  refine r_cb (x := 24) dX1_take_170 rfl ?_
  refine r_cpy dX1_take_172 cpX1_70 (shl1_10 q2) (shl1_10 q1) q6.1 q6.2.1 q6.2.2.1 q6.2.2.2.1 q6.2.2.2.2 (Nat.le_of_ble_eq_true rfl) ?_
  refine r_nT0 (R := rV) rfl (fun T10 => ?_)
  refine r_p (pc2 := 176) dX1_take_175 rfl rfl ?_
  refine r_get dX1_take_176 fkX1_42 q1 rfl ?_
  refine r_ci (x := 0) dX1_take_179 rfl ?_
  refine r_p (pc2 := 181) dX1_take_180 rfl rfl ?_
  refine r_get dX1_take_181 fkX1_42 q2 rfl ?_
  refine r_ci (x := 0) dX1_take_184 rfl ?_
  refine r_cb (x := 24) dX1_take_185 rfl ?_
  refine r_cpy dX1_take_187 cpX1_70 (shl1_11 q2) (shl1_11 q1) q6.1 q6.2.1 q6.2.2.1 q6.2.2.2.1 q6.2.2.2.2 (Nat.le_of_ble_eq_true rfl) ?_
  refine r_nT0 (R := rV) rfl (fun T11 => ?_)
  refine r_p (pc2 := 191) dX1_take_190 rfl rfl ?_
  refine r_get dX1_take_191 fkX1_45 q1 rfl ?_
  refine r_ci (x := 0) dX1_take_194 rfl ?_
  refine r_p (pc2 := 196) dX1_take_195 rfl rfl ?_
  refine r_get dX1_take_196 fkX1_45 q2 rfl ?_
  refine r_ci (x := 0) dX1_take_199 rfl ?_
  refine r_cb (x := 24) dX1_take_200 rfl ?_
  refine r_cpy dX1_take_202 cpX1_70 (shl1_12 q2) (shl1_12 q1) q6.1 q6.2.1 q6.2.2.1 q6.2.2.2.1 q6.2.2.2.2 (Nat.le_of_ble_eq_true rfl) ?_
  refine r_nT0 (R := rV) rfl (fun T12 => ?_)
  refine r_p (pc2 := 206) dX1_take_205 rfl rfl ?_
  refine r_get dX1_take_206 fkX1_48 q1 rfl ?_
  refine r_ci (x := 0) dX1_take_209 rfl ?_
  refine r_p (pc2 := 211) dX1_take_210 rfl rfl ?_
  refine r_get dX1_take_211 fkX1_48 q2 rfl ?_
  refine r_ci (x := 0) dX1_take_214 rfl ?_
  refine r_cb (x := 24) dX1_take_215 rfl ?_
  refine r_cpy dX1_take_217 cpX1_70 (shl1_13 q2) (shl1_13 q1) q6.1 q6.2.1 q6.2.2.1 q6.2.2.2.1 q6.2.2.2.2 (Nat.le_of_ble_eq_true rfl) ?_
  refine r_nT0 (R := rV) rfl (fun T13 => ?_)
  refine r_p (pc2 := 221) dX1_take_220 rfl rfl ?_
  refine r_get dX1_take_221 fkX1_51 q1 rfl ?_
  refine r_ci (x := 0) dX1_take_224 rfl ?_
  refine r_p (pc2 := 226) dX1_take_225 rfl rfl ?_
  refine r_get dX1_take_226 fkX1_51 q2 rfl ?_
  refine r_ci (x := 0) dX1_take_229 rfl ?_
  refine r_cb (x := 24) dX1_take_230 rfl ?_
  refine r_cpy dX1_take_232 cpX1_70 (shl1_14 q2) (shl1_14 q1) q6.1 q6.2.1 q6.2.2.1 q6.2.2.2.1 q6.2.2.2.2 (Nat.le_of_ble_eq_true rfl) ?_
  refine r_nT0 (R := rV) rfl (fun T14 => ?_)
  refine r_p (pc2 := 236) dX1_take_235 rfl rfl ?_
  refine r_p (pc2 := 237) dX1_take_236 rfl rfl ?_
  refine r_get dX1_take_237 fkX1_67 q1 rfl ?_
  refine r_put dX1_take_240 fkX1_67 rfl q2 rfl (Nat.le_of_ble_eq_true rfl) rfl rfl ?_
  refine r_p (pc2 := 244) dX1_take_243 rfl rfl ?_
  refine r_p (pc2 := 245) dX1_take_244 rfl rfl ?_
  refine r_get dX1_take_245 fkX1_54 q1 rfl ?_
  refine r_put dX1_take_248 fkX1_54 rfl q2 rfl (Nat.le_of_ble_eq_true rfl) rfl rfl ?_
  exact r_qV dX1_take_251 rfl rfl
def x_bk_isRead (T : St) (a : Nat) : Int32 := if (T.1 a 4) ≤ 0 then (0) else (1)
def ok_bk_isRead (T : St) (a : Nat) : Prop := (sh a = .inr 1) ∧ True
theorem c_bk_isRead {X : Nat × (Nat → Int32)} {T : St} (a : Nat) (kk : ok_bk_isRead T a) : tC X 1 mX1_isRead [.ref a] T (some (.int (x_bk_isRead T a))) T := by
  unfold ok_bk_isRead at kk
  refine tC_orIp (L := [some (.ref a)]) (x_bk_isRead T a) rfl ?_
  unfold x_bk_isRead
  refine r_p (pc2 := 1) dX1_isRead_0 rfl rfl ?_
  obtain ⟨q1, kk⟩ := kk
  refine r_get dX1_isRead_1 fkX1_61 q1 rfl ?_
  refine r_ile dX1_isRead_4 rfl (fun c4_1 => ?_) (fun c4_1 => ?_)
  · refine r_ip (R := (rIp T)) c4_1 ?_
    refine r_ci (x := 0) dX1_isRead_11 rfl ?_
    exact r_qIp dX1_isRead_12 rfl rfl rfl
  · refine r_in (R := (rIp T)) c4_1 ?_
    refine r_ci (x := 1) dX1_isRead_7 rfl ?_
    refine r_go dX1_isRead_8 rfl ?_
    exact r_qIp dX1_isRead_12 rfl rfl rfl
theorem b_bk_isRead (T : St) (a : Nat) : x_bk_isRead T a = 0 ∨ x_bk_isRead T a = 1 := by
  unfold x_bk_isRead
  try simp only [jn]
  repeat' split
  all_goals (first | exact Or.inl rfl | exact Or.inr rfl)
def x_bk_hasStep (T : St) (a : Nat) (p0 : Int32) : Int32 := if p0 < 0 then (0) else (if (T.1 a 10) ≤ p0 then (0) else (1))
def ok_bk_hasStep (T : St) (a : Nat) (p0 : Int32) : Prop := (¬ p0 < 0 → (sh a = .inr 1) ∧ True)
theorem c_bk_hasStep {X : Nat × (Nat → Int32)} {T : St} (a : Nat) (p0 : Int32) (kk : ok_bk_hasStep T a p0) : tC X 1 mX1_hasStep [.ref a, .int p0] T (some (.int (x_bk_hasStep T a p0))) T := by
  unfold ok_bk_hasStep at kk
  refine tC_orIp (L := [some (.ref a), some (.int p0)]) (x_bk_hasStep T a p0) rfl ?_
  unfold x_bk_hasStep
  refine r_p (pc2 := 1) dX1_hasStep_0 rfl rfl ?_
  refine r_ilt dX1_hasStep_1 rfl (fun c1_1 => ?_) (fun c1_1 => ?_)
  · refine r_ip (R := (rIp T)) c1_1 ?_
    refine r_ci (x := 0) dX1_hasStep_16 rfl ?_
    exact r_qIp dX1_hasStep_17 rfl rfl rfl
  · refine r_in (R := (rIp T)) c1_1 ?_
    have kk := kk c1_1
    refine r_p (pc2 := 5) dX1_hasStep_4 rfl rfl ?_
    refine r_p (pc2 := 6) dX1_hasStep_5 rfl rfl ?_
    obtain ⟨q1, kk⟩ := kk
    refine r_get dX1_hasStep_6 fkX1_64 q1 rfl ?_
    refine r_cge dX1_hasStep_9 rfl (fun c9_2 => ?_) (fun c9_2 => ?_)
    · refine r_ip (R := (rIp T)) c9_2 ?_
      refine r_ci (x := 0) dX1_hasStep_16 rfl ?_
      exact r_qIp dX1_hasStep_17 rfl rfl rfl
    · refine r_in (R := (rIp T)) c9_2 ?_
      refine r_ci (x := 1) dX1_hasStep_12 rfl ?_
      refine r_go dX1_hasStep_13 rfl ?_
      exact r_qIp dX1_hasStep_17 rfl rfl rfl
theorem b_bk_hasStep (T : St) (a : Nat) (p0 : Int32) : x_bk_hasStep T a p0 = 0 ∨ x_bk_hasStep T a p0 = 1 := by
  unfold x_bk_hasStep
  try simp only [jn]
  repeat' split
  all_goals (first | exact Or.inl rfl | exact Or.inr rfl)
def x_bk_allDishes (T : St) (a : Nat) : Int32 := (1 <<< ((T.1 a 4) &&& 31)) - 1
def ok_bk_allDishes (T : St) (a : Nat) : Prop := (sh a = .inr 1) ∧ True
theorem c_bk_allDishes {X : Nat × (Nat → Int32)} {T : St} (a : Nat) (kk : ok_bk_allDishes T a) : tC X 1 mX1_allDishes [.ref a] T (some (.int (x_bk_allDishes T a))) T := by
  unfold ok_bk_allDishes at kk
  refine tC_orIp (L := [some (.ref a)]) (x_bk_allDishes T a) rfl ?_
  unfold x_bk_allDishes
  refine r_ci (x := 1) dX1_allDishes_0 rfl ?_
  refine r_p (pc2 := 2) dX1_allDishes_1 rfl rfl ?_
  obtain ⟨q1, kk⟩ := kk
  refine r_get dX1_allDishes_2 fkX1_61 q1 rfl ?_
  refine r_p (pc2 := 6) dX1_allDishes_5 rfl rfl ?_
  refine r_ci (x := 1) dX1_allDishes_6 rfl ?_
  refine r_p (pc2 := 8) dX1_allDishes_7 rfl rfl ?_
  exact r_qIp dX1_allDishes_8 rfl rfl rfl
def x_bk_dinnerSteps_4 (T : St) (l0 : Nat) (K : Int32 → Int32 → Int32) : Nat → Int32 → Int32 → Int32
  | 0, _, _ => 0
  | f + 1, v1, v2 => if (T.1 l0 4) ≤ v2 then (K v1 v2) else (if (((T.1 l0 17) >>> (v2 &&& 31)) &&& 1) = 0 then (x_bk_dinnerSteps_4 T l0 K f v1 (v2 + 1)) else (jn (fun (i1 : Int32) => x_bk_dinnerSteps_4 T l0 K f i1 (v2 + 1)) (v1 + (T.2.2.1 (l0 + 7) (v2 : Int32).toNatClampNeg))))
def ok_bk_dinnerSteps_4 (T : St) (l0 : Nat) (Kk : Int32 → Int32 → Prop) : Nat → Int32 → Int32 → Prop
  | 0, _, _ => False
  | f + 1, v1, v2 => (sh l0 = .inr 1) ∧ (((T.1 l0 4) ≤ v2 → Kk v1 v2) ∧ (¬ (T.1 l0 4) ≤ v2 → (((((T.1 l0 17) >>> (v2 &&& 31)) &&& 1) = 0 → ok_bk_dinnerSteps_4 T l0 Kk f v1 (v2 + 1)) ∧ (¬ (((T.1 l0 17) >>> (v2 &&& 31)) &&& 1) = 0 → (vp_in v2 8) ∧ jn (fun (i1 : Int32) => ok_bk_dinnerSteps_4 T l0 Kk f i1 (v2 + 1)) (v1 + (T.2.2.1 (l0 + 7) (v2 : Int32).toNatClampNeg))))))
theorem c_bk_dinnerSteps_4 {X : Nat × (Nat → Int32)} (T : St) (l0 : Nat) {K : Int32 → Int32 → Int32} {Kk : Int32 → Int32 → Prop} (hk : ∀ (v1 : Int32) (v2 : Int32), Kk v1 v2 → tR X 0 mX1_dinnerSteps 38 [some (.ref l0), some (.int v1), some (.int v2)] [] T ((rIp T) (K v1 v2)).1 (((rIp T) (K v1 v2)).2)) : ∀ (f : Nat) (v1 : Int32) (v2 : Int32), ok_bk_dinnerSteps_4 T l0 Kk f v1 v2 → tR X 0 mX1_dinnerSteps 4 [some (.ref l0), some (.int v1), some (.int v2)] [] T ((rIp T) (x_bk_dinnerSteps_4 T l0 K f v1 v2)).1 (((rIp T) (x_bk_dinnerSteps_4 T l0 K f v1 v2)).2) := by
  intro f
  induction f with
  | zero => intro v1 v2 kk; exact kk.elim
  | succ f ih =>
    intro v1 v2 kk
    rw [ok_bk_dinnerSteps_4] at kk
    rw [x_bk_dinnerSteps_4]
    refine r_p (pc2 := 5) dX1_dinnerSteps_4 rfl rfl ?_
    refine r_p (pc2 := 6) dX1_dinnerSteps_5 rfl rfl ?_
    obtain ⟨q1, kk⟩ := kk
    refine r_get dX1_dinnerSteps_6 fkX1_61 q1 rfl ?_
    refine r_cge dX1_dinnerSteps_9 rfl (fun c9_1 => ?_) (fun c9_1 => ?_)
    · refine r_ip (R := (rIp T)) c9_1 ?_
      have kk := kk.1 c9_1
      show tR _ _ _ _ [some (.ref l0), some (.int v1), some (.int v2)] _ _ _ _
      exact (hk v1 v2  kk)
    · refine r_in (R := (rIp T)) c9_1 ?_
      have kk := kk.2 c9_1
      refine r_p (pc2 := 13) dX1_dinnerSteps_12 rfl rfl ?_
      refine r_get dX1_dinnerSteps_13 fkX1_67 q1 rfl ?_
      refine r_p (pc2 := 17) dX1_dinnerSteps_16 rfl rfl ?_
      refine r_p (pc2 := 18) dX1_dinnerSteps_17 rfl rfl ?_
      refine r_ci (x := 1) dX1_dinnerSteps_18 rfl ?_
      refine r_p (pc2 := 20) dX1_dinnerSteps_19 rfl rfl ?_
      refine r_ieq dX1_dinnerSteps_20 rfl (fun c20_2 => ?_) (fun c20_2 => ?_)
      · refine r_ip (R := (rIp T)) c20_2 ?_
        have kk := kk.1 c20_2
        refine r_inc (L2 := [some (.ref l0), some (.int v1), some (.int (v2 + 1))]) (y := 1) dX1_dinnerSteps_32 rfl rfl rfl ?_
        refine r_go dX1_dinnerSteps_35 rfl ?_
        show tR _ _ _ _ [some (.ref l0), some (.int v1), some (.int (v2 + 1))] _ _ _ _
        exact (ih v1 (v2 + 1)  kk)
      · refine r_in (R := (rIp T)) c20_2 ?_
        have kk := kk.2 c20_2
        refine r_p (pc2 := 24) dX1_dinnerSteps_23 rfl rfl ?_
        refine r_p (pc2 := 25) dX1_dinnerSteps_24 rfl rfl ?_
        refine r_get dX1_dinnerSteps_25 fkX1_30 q1 rfl ?_
        refine r_p (pc2 := 29) dX1_dinnerSteps_28 rfl rfl ?_
        obtain ⟨q2, kk⟩ := kk
        refine r_ia dX1_dinnerSteps_29 (shl1_7 q1) q2 ?_
        refine r_p (pc2 := 31) dX1_dinnerSteps_30 rfl rfl ?_
        refine r_nI (R := (rIp T)) rfl kk (fun i1 kk => ?_)
        refine r_p (pc2 := 32) (L2 := [some (.ref l0), some (.int i1), some (.int v2)]) dX1_dinnerSteps_31 rfl rfl ?_
        refine r_inc (L2 := [some (.ref l0), some (.int i1), some (.int (v2 + 1))]) (y := 1) dX1_dinnerSteps_32 rfl rfl rfl ?_
        refine r_go dX1_dinnerSteps_35 rfl ?_
        show tR _ _ _ _ [some (.ref l0), some (.int i1), some (.int (v2 + 1))] _ _ _ _
        exact (ih i1 (v2 + 1)  kk)
def x_bk_dinnerSteps (T : St) (a : Nat) : Int32 := x_bk_dinnerSteps_4 T a (fun (w1_1 : Int32) (w1_2 : Int32) => w1_1) 1000 0 0
def ok_bk_dinnerSteps (T : St) (a : Nat) : Prop := ok_bk_dinnerSteps_4 T a (fun (w1_1 : Int32) (w1_2 : Int32) => True) 1000 0 0
theorem c_bk_dinnerSteps {X : Nat × (Nat → Int32)} {T : St} (a : Nat) (kk : ok_bk_dinnerSteps T a) : tC X 1 mX1_dinnerSteps [.ref a] T (some (.int (x_bk_dinnerSteps T a))) T := by
  unfold ok_bk_dinnerSteps at kk
  refine tC_orIp (L := [some (.ref a), none, none]) (x_bk_dinnerSteps T a) rfl ?_
  unfold x_bk_dinnerSteps
  refine r_ci (x := 0) dX1_dinnerSteps_0 rfl ?_
  refine r_p (pc2 := 2) (L2 := [some (.ref a), some (.int 0), none]) dX1_dinnerSteps_1 rfl rfl ?_
  refine r_ci (x := 0) dX1_dinnerSteps_2 rfl ?_
  refine r_p (pc2 := 4) (L2 := [some (.ref a), some (.int 0), some (.int 0)]) dX1_dinnerSteps_3 rfl rfl ?_
  show tR _ _ _ _ [some (.ref a), some (.int 0), some (.int 0)] _ _ _ _
  refine (c_bk_dinnerSteps_4 T a (fun w1_1 w1_2 kk => ?_) 1000 0 0  kk)
  · skip
    refine r_p (pc2 := 39) dX1_dinnerSteps_38 rfl rfl ?_
    exact r_qIp dX1_dinnerSteps_39 rfl rfl rfl
def x_bk_waitBehind (T : St) (a : Nat) (p0 : Int32) (p1 : Int32) : Int32 := if ((T.2.2.1 (a + 7) (p0 : Int32).toNatClampNeg) - 1) ≤ p1 then (0) else (T.2.2.1 (a + 11) ((T.2.2.1 (a + 8) (p0 : Int32).toNatClampNeg) + p1 : Int32).toNatClampNeg)
def ok_bk_waitBehind (T : St) (a : Nat) (p0 : Int32) (p1 : Int32) : Prop := (sh a = .inr 1) ∧ (vp_in p0 8) ∧ (¬ ((T.2.2.1 (a + 7) (p0 : Int32).toNatClampNeg) - 1) ≤ p1 → (vp_in ((T.2.2.1 (a + 8) (p0 : Int32).toNatClampNeg) + p1) 24) ∧ True)
theorem c_bk_waitBehind {X : Nat × (Nat → Int32)} {T : St} (a : Nat) (p0 : Int32) (p1 : Int32) (kk : ok_bk_waitBehind T a p0 p1) : tC X 1 mX1_waitBehind [.ref a, .int p0, .int p1] T (some (.int (x_bk_waitBehind T a p0 p1))) T := by
  unfold ok_bk_waitBehind at kk
  refine tC_orIp (L := [some (.ref a), some (.int p0), some (.int p1)]) (x_bk_waitBehind T a p0 p1) rfl ?_
  unfold x_bk_waitBehind
  refine r_p (pc2 := 1) dX1_waitBehind_0 rfl rfl ?_
  refine r_p (pc2 := 2) dX1_waitBehind_1 rfl rfl ?_
  obtain ⟨q1, kk⟩ := kk
  refine r_get dX1_waitBehind_2 fkX1_30 q1 rfl ?_
  refine r_p (pc2 := 6) dX1_waitBehind_5 rfl rfl ?_
  obtain ⟨q2, kk⟩ := kk
  refine r_ia dX1_waitBehind_6 (shl1_7 q1) q2 ?_
  refine r_ci (x := 1) dX1_waitBehind_7 rfl ?_
  refine r_p (pc2 := 9) dX1_waitBehind_8 rfl rfl ?_
  refine r_cge dX1_waitBehind_9 rfl (fun c9_1 => ?_) (fun c9_1 => ?_)
  · refine r_ip (R := (rIp T)) c9_1 ?_
    refine r_ci (x := 0) dX1_waitBehind_28 rfl ?_
    exact r_qIp dX1_waitBehind_29 rfl rfl rfl
  · refine r_in (R := (rIp T)) c9_1 ?_
    have kk := kk c9_1
    refine r_p (pc2 := 13) dX1_waitBehind_12 rfl rfl ?_
    refine r_get dX1_waitBehind_13 fkX1_42 q1 rfl ?_
    refine r_p (pc2 := 17) dX1_waitBehind_16 rfl rfl ?_
    refine r_get dX1_waitBehind_17 fkX1_33 q1 rfl ?_
    refine r_p (pc2 := 21) dX1_waitBehind_20 rfl rfl ?_
    refine r_ia dX1_waitBehind_21 (shl1_8 q1) q2 ?_
    refine r_p (pc2 := 23) dX1_waitBehind_22 rfl rfl ?_
    refine r_p (pc2 := 24) dX1_waitBehind_23 rfl rfl ?_
    obtain ⟨q3, kk⟩ := kk
    refine r_ia dX1_waitBehind_24 (shl1_11 q1) q3 ?_
    refine r_go dX1_waitBehind_25 rfl ?_
    exact r_qIp dX1_waitBehind_29 rfl rfl rfl
def x_bk_awayAt_4 (T : St) (l0 : Nat) (l1 : Int32) (K : Int32 → Int32 → Int32) : Nat → Int32 → Int32 → Int32
  | 0, _, _ => 0
  | f + 1, v2, v3 => if (T.1 l0 1) ≤ v3 then (K v2 v3) else (if l1 < (T.2.2.1 (l0 + 2) (v3 : Int32).toNatClampNeg) then (x_bk_awayAt_4 T l0 l1 K f v2 (v3 + 1)) else (if (T.2.2.1 (l0 + 3) (v3 : Int32).toNatClampNeg) < l1 then (x_bk_awayAt_4 T l0 l1 K f v2 (v3 + 1)) else (x_bk_awayAt_4 T l0 l1 K f (v2 + 1) (v3 + 1))))
def ok_bk_awayAt_4 (T : St) (l0 : Nat) (l1 : Int32) (Kk : Int32 → Int32 → Prop) : Nat → Int32 → Int32 → Prop
  | 0, _, _ => False
  | f + 1, v2, v3 => (sh l0 = .inr 1) ∧ (((T.1 l0 1) ≤ v3 → Kk v2 v3) ∧ (¬ (T.1 l0 1) ≤ v3 → (vp_in v3 4) ∧ ((l1 < (T.2.2.1 (l0 + 2) (v3 : Int32).toNatClampNeg) → ok_bk_awayAt_4 T l0 l1 Kk f v2 (v3 + 1)) ∧ (¬ l1 < (T.2.2.1 (l0 + 2) (v3 : Int32).toNatClampNeg) → (((T.2.2.1 (l0 + 3) (v3 : Int32).toNatClampNeg) < l1 → ok_bk_awayAt_4 T l0 l1 Kk f v2 (v3 + 1)) ∧ (¬ (T.2.2.1 (l0 + 3) (v3 : Int32).toNatClampNeg) < l1 → ok_bk_awayAt_4 T l0 l1 Kk f (v2 + 1) (v3 + 1)))))))
theorem c_bk_awayAt_4 {X : Nat × (Nat → Int32)} (T : St) (l0 : Nat) (l1 : Int32) {K : Int32 → Int32 → Int32} {Kk : Int32 → Int32 → Prop} (hk : ∀ (v2 : Int32) (v3 : Int32), Kk v2 v3 → tR X 0 mX1_awayAt 41 [some (.ref l0), some (.int l1), some (.int v2), some (.int v3)] [] T ((rIp T) (K v2 v3)).1 (((rIp T) (K v2 v3)).2)) : ∀ (f : Nat) (v2 : Int32) (v3 : Int32), ok_bk_awayAt_4 T l0 l1 Kk f v2 v3 → tR X 0 mX1_awayAt 4 [some (.ref l0), some (.int l1), some (.int v2), some (.int v3)] [] T ((rIp T) (x_bk_awayAt_4 T l0 l1 K f v2 v3)).1 (((rIp T) (x_bk_awayAt_4 T l0 l1 K f v2 v3)).2) := by
  intro f
  induction f with
  | zero => intro v2 v3 kk; exact kk.elim
  | succ f ih =>
    intro v2 v3 kk
    rw [ok_bk_awayAt_4] at kk
    rw [x_bk_awayAt_4]
    refine r_p (pc2 := 5) dX1_awayAt_4 rfl rfl ?_
    refine r_p (pc2 := 6) dX1_awayAt_5 rfl rfl ?_
    obtain ⟨q1, kk⟩ := kk
    refine r_get dX1_awayAt_6 fkX1_58 q1 rfl ?_
    refine r_cge dX1_awayAt_9 rfl (fun c9_1 => ?_) (fun c9_1 => ?_)
    · refine r_ip (R := (rIp T)) c9_1 ?_
      have kk := kk.1 c9_1
      show tR _ _ _ _ [some (.ref l0), some (.int l1), some (.int v2), some (.int v3)] _ _ _ _
      exact (hk v2 v3  kk)
    · refine r_in (R := (rIp T)) c9_1 ?_
      have kk := kk.2 c9_1
      refine r_p (pc2 := 13) dX1_awayAt_12 rfl rfl ?_
      refine r_get dX1_awayAt_13 fkX1_15 q1 rfl ?_
      refine r_p (pc2 := 17) dX1_awayAt_16 rfl rfl ?_
      obtain ⟨q2, kk⟩ := kk
      refine r_ia dX1_awayAt_17 (shl1_2 q1) q2 ?_
      refine r_p (pc2 := 19) dX1_awayAt_18 rfl rfl ?_
      refine r_cgt dX1_awayAt_19 rfl (fun c19_2 => ?_) (fun c19_2 => ?_)
      · refine r_ip (R := (rIp T)) c19_2 ?_
        have kk := kk.1 c19_2
        refine r_inc (L2 := [some (.ref l0), some (.int l1), some (.int v2), some (.int (v3 + 1))]) (y := 1) dX1_awayAt_35 rfl rfl rfl ?_
        refine r_go dX1_awayAt_38 rfl ?_
        show tR _ _ _ _ [some (.ref l0), some (.int l1), some (.int v2), some (.int (v3 + 1))] _ _ _ _
        exact (ih v2 (v3 + 1)  kk)
      · refine r_in (R := (rIp T)) c19_2 ?_
        have kk := kk.2 c19_2
        refine r_p (pc2 := 23) dX1_awayAt_22 rfl rfl ?_
        refine r_p (pc2 := 24) dX1_awayAt_23 rfl rfl ?_
        refine r_get dX1_awayAt_24 fkX1_18 q1 rfl ?_
        refine r_p (pc2 := 28) dX1_awayAt_27 rfl rfl ?_
        refine r_ia dX1_awayAt_28 (shl1_3 q1) q2 ?_
        refine r_cgt dX1_awayAt_29 rfl (fun c29_3 => ?_) (fun c29_3 => ?_)
        · refine r_ip (R := (rIp T)) c29_3 ?_
          have kk := kk.1 c29_3
          refine r_inc (L2 := [some (.ref l0), some (.int l1), some (.int v2), some (.int (v3 + 1))]) (y := 1) dX1_awayAt_35 rfl rfl rfl ?_
          refine r_go dX1_awayAt_38 rfl ?_
          show tR _ _ _ _ [some (.ref l0), some (.int l1), some (.int v2), some (.int (v3 + 1))] _ _ _ _
          exact (ih v2 (v3 + 1)  kk)
        · refine r_in (R := (rIp T)) c29_3 ?_
          have kk := kk.2 c29_3
          refine r_inc (L2 := [some (.ref l0), some (.int l1), some (.int (v2 + 1)), some (.int v3)]) (y := 1) dX1_awayAt_32 rfl rfl rfl ?_
          refine r_inc (L2 := [some (.ref l0), some (.int l1), some (.int (v2 + 1)), some (.int (v3 + 1))]) (y := 1) dX1_awayAt_35 rfl rfl rfl ?_
          refine r_go dX1_awayAt_38 rfl ?_
          show tR _ _ _ _ [some (.ref l0), some (.int l1), some (.int (v2 + 1)), some (.int (v3 + 1))] _ _ _ _
          exact (ih (v2 + 1) (v3 + 1)  kk)
def x_bk_awayAt (T : St) (a : Nat) (p0 : Int32) : Int32 := x_bk_awayAt_4 T a p0 (fun (w1_2 : Int32) (w1_3 : Int32) => w1_2) 1000 0 0
def ok_bk_awayAt (T : St) (a : Nat) (p0 : Int32) : Prop := ok_bk_awayAt_4 T a p0 (fun (w1_2 : Int32) (w1_3 : Int32) => True) 1000 0 0
theorem c_bk_awayAt {X : Nat × (Nat → Int32)} {T : St} (a : Nat) (p0 : Int32) (kk : ok_bk_awayAt T a p0) : tC X 1 mX1_awayAt [.ref a, .int p0] T (some (.int (x_bk_awayAt T a p0))) T := by
  unfold ok_bk_awayAt at kk
  refine tC_orIp (L := [some (.ref a), some (.int p0), none, none]) (x_bk_awayAt T a p0) rfl ?_
  unfold x_bk_awayAt
  refine r_ci (x := 0) dX1_awayAt_0 rfl ?_
  refine r_p (pc2 := 2) (L2 := [some (.ref a), some (.int p0), some (.int 0), none]) dX1_awayAt_1 rfl rfl ?_
  refine r_ci (x := 0) dX1_awayAt_2 rfl ?_
  refine r_p (pc2 := 4) (L2 := [some (.ref a), some (.int p0), some (.int 0), some (.int 0)]) dX1_awayAt_3 rfl rfl ?_
  show tR _ _ _ _ [some (.ref a), some (.int p0), some (.int 0), some (.int 0)] _ _ _ _
  refine (c_bk_awayAt_4 T a p0 (fun w1_2 w1_3 kk => ?_) 1000 0 0  kk)
  · skip
    refine r_p (pc2 := 42) dX1_awayAt_41 rfl rfl ?_
    exact r_qIp dX1_awayAt_42 rfl rfl rfl
def x_bk_kindOf (T : St) (a : Nat) (p0 : Int32) : Int32 := if (T.2.2.1 (a + 9) (p0 : Int32).toNatClampNeg) = 0 then (if (T.2.2.1 (a + 12) (p0 : Int32).toNatClampNeg) = 2 then (6) else (1)) else (if (T.2.2.1 (a + 9) (p0 : Int32).toNatClampNeg) = 1 then (2) else (if (T.2.2.1 (a + 9) (p0 : Int32).toNatClampNeg) = 2 then (3) else (if (T.2.2.1 (a + 9) (p0 : Int32).toNatClampNeg) = 3 then (4) else (5))))
def ok_bk_kindOf (T : St) (a : Nat) (p0 : Int32) : Prop := (sh a = .inr 1) ∧ (vp_in p0 24) ∧ True
theorem c_bk_kindOf {X : Nat × (Nat → Int32)} {T : St} (a : Nat) (p0 : Int32) (kk : ok_bk_kindOf T a p0) : tC X 1 mX1_kindOf [.ref a, .int p0] T (some (.int (x_bk_kindOf T a p0))) T := by
  unfold ok_bk_kindOf at kk
  refine tC_orIp (L := [some (.ref a), some (.int p0)]) (x_bk_kindOf T a p0) rfl ?_
  unfold x_bk_kindOf
  refine r_p (pc2 := 1) dX1_kindOf_0 rfl rfl ?_
  obtain ⟨q1, kk⟩ := kk
  refine r_get dX1_kindOf_1 fkX1_36 q1 rfl ?_
  refine r_p (pc2 := 5) dX1_kindOf_4 rfl rfl ?_
  obtain ⟨q2, kk⟩ := kk
  refine r_ia dX1_kindOf_5 (shl1_9 q1) q2 ?_
  by_cases s6_1_0 : (T.2.2.1 (a + 9) (p0 : Int32).toNatClampNeg) = 0
  · refine r_ip (R := (rIp T)) s6_1_0 ?_
    refine r_tin dX1_kindOf_6 (by rw [s6_1_0]; decide) (by rw [s6_1_0]; decide) (off := 30) (by rw [s6_1_0]; rfl) rfl ?_
    refine r_p (pc2 := 37) dX1_kindOf_36 rfl rfl ?_
    refine r_get dX1_kindOf_37 fkX1_45 q1 rfl ?_
    refine r_p (pc2 := 41) dX1_kindOf_40 rfl rfl ?_
    refine r_ia dX1_kindOf_41 (shl1_12 q1) q2 ?_
    refine r_ci (x := 2) dX1_kindOf_42 rfl ?_
    refine r_cne dX1_kindOf_43 rfl (fun c43_2 => ?_) (fun c43_2 => ?_)
    · refine r_in (R := (rIp T)) c43_2 ?_
      refine r_ci (x := 1) dX1_kindOf_51 rfl ?_
      exact r_qIp dX1_kindOf_52 rfl rfl rfl
    · refine r_ip (R := (rIp T)) c43_2 ?_
      refine r_cb (x := 6) dX1_kindOf_46 rfl ?_
      refine r_go dX1_kindOf_48 rfl ?_
      exact r_qIp dX1_kindOf_52 rfl rfl rfl
  · refine r_in (R := (rIp T)) s6_1_0 ?_
    by_cases s6_1_1 : (T.2.2.1 (a + 9) (p0 : Int32).toNatClampNeg) = 1
    · refine r_ip (R := (rIp T)) s6_1_1 ?_
      refine r_tin dX1_kindOf_6 (by rw [s6_1_1]; decide) (by rw [s6_1_1]; decide) (off := 47) (by rw [s6_1_1]; rfl) rfl ?_
      refine r_ci (x := 2) dX1_kindOf_53 rfl ?_
      exact r_qIp dX1_kindOf_54 rfl rfl rfl
    · refine r_in (R := (rIp T)) s6_1_1 ?_
      by_cases s6_1_2 : (T.2.2.1 (a + 9) (p0 : Int32).toNatClampNeg) = 2
      · refine r_ip (R := (rIp T)) s6_1_2 ?_
        refine r_tin dX1_kindOf_6 (by rw [s6_1_2]; decide) (by rw [s6_1_2]; decide) (off := 49) (by rw [s6_1_2]; rfl) rfl ?_
        refine r_ci (x := 3) dX1_kindOf_55 rfl ?_
        exact r_qIp dX1_kindOf_56 rfl rfl rfl
      · refine r_in (R := (rIp T)) s6_1_2 ?_
        by_cases s6_1_3 : (T.2.2.1 (a + 9) (p0 : Int32).toNatClampNeg) = 3
        · refine r_ip (R := (rIp T)) s6_1_3 ?_
          refine r_tin dX1_kindOf_6 (by rw [s6_1_3]; decide) (by rw [s6_1_3]; decide) (off := 51) (by rw [s6_1_3]; rfl) rfl ?_
          refine r_ci (x := 4) dX1_kindOf_57 rfl ?_
          exact r_qIp dX1_kindOf_58 rfl rfl rfl
        · refine r_in (R := (rIp T)) s6_1_3 ?_
          refine r_tout dX1_kindOf_6 (by have := i_rg (T.2.2.1 (a + 9) (p0 : Int32).toNatClampNeg); simp only [i_eq, i_0, i_1, i_2, i_3] at s6_1_0 s6_1_1 s6_1_2 s6_1_3; omega) rfl ?_
          refine r_ci (x := 5) dX1_kindOf_59 rfl ?_
          exact r_qIp dX1_kindOf_60 rfl rfl rfl
def x_bk_warmsBy (T : St) (a : Nat) (p0 : Int32) (p1 : Int32) : Int32 := if ((T.2.2.1 (a + 1) (3 : Int32).toNatClampNeg) * (p1 + 1)) < (T.2.2.1 (a + 13) (p0 : Int32).toNatClampNeg) then (0) else (1)
def ok_bk_warmsBy (T : St) (a : Nat) (p0 : Int32) (p1 : Int32) : Prop := (sh a = .inr 1) ∧ (vp_in p0 24) ∧ True
theorem c_bk_warmsBy {X : Nat × (Nat → Int32)} {T : St} (a : Nat) (p0 : Int32) (p1 : Int32) (kk : ok_bk_warmsBy T a p0 p1) : tC X 1 mX1_warmsBy [.ref a, .int p0, .int p1] T (some (.int (x_bk_warmsBy T a p0 p1))) T := by
  unfold ok_bk_warmsBy at kk
  refine tC_orIp (L := [some (.ref a), some (.int p0), some (.int p1)]) (x_bk_warmsBy T a p0 p1) rfl ?_
  unfold x_bk_warmsBy
  refine r_p (pc2 := 1) dX1_warmsBy_0 rfl rfl ?_
  obtain ⟨q1, kk⟩ := kk
  refine r_get dX1_warmsBy_1 fkX1_48 q1 rfl ?_
  refine r_p (pc2 := 5) dX1_warmsBy_4 rfl rfl ?_
  obtain ⟨q2, kk⟩ := kk
  refine r_ia dX1_warmsBy_5 (shl1_13 q1) q2 ?_
  refine r_p (pc2 := 7) dX1_warmsBy_6 rfl rfl ?_
  refine r_get dX1_warmsBy_7 fkX1_9 q1 rfl ?_
  refine r_ci (x := 3) dX1_warmsBy_10 rfl ?_
  refine r_ia dX1_warmsBy_11 (shl1_1 q1) (in_c (by decide)) ?_
  refine r_p (pc2 := 13) dX1_warmsBy_12 rfl rfl ?_
  refine r_ci (x := 1) dX1_warmsBy_13 rfl ?_
  refine r_p (pc2 := 15) dX1_warmsBy_14 rfl rfl ?_
  refine r_p (pc2 := 16) dX1_warmsBy_15 rfl rfl ?_
  refine r_cgt dX1_warmsBy_16 rfl (fun c16_1 => ?_) (fun c16_1 => ?_)
  · refine r_ip (R := (rIp T)) c16_1 ?_
    refine r_ci (x := 0) dX1_warmsBy_23 rfl ?_
    exact r_qIp dX1_warmsBy_24 rfl rfl rfl
  · refine r_in (R := (rIp T)) c16_1 ?_
    refine r_ci (x := 1) dX1_warmsBy_19 rfl ?_
    refine r_go dX1_warmsBy_20 rfl ?_
    exact r_qIp dX1_warmsBy_24 rfl rfl rfl
theorem b_bk_warmsBy (T : St) (a : Nat) (p0 : Int32) (p1 : Int32) : x_bk_warmsBy T a p0 p1 = 0 ∨ x_bk_warmsBy T a p0 p1 = 1 := by
  unfold x_bk_warmsBy
  try simp only [jn]
  repeat' split
  all_goals (first | exact Or.inl rfl | exact Or.inr rfl)
def x_bk_heatsAgree (T : St) (a : Nat) (p0 : Int32) (p1 : Int32) (p2 : Int32) (p3 : Int32) : Int32 := jn (fun (i1 : Int32) => jn (fun (i2 : Int32) => jn (fun (KJ1 : Int32 → Int32 → Int32) => if i1 ≤ 0 then (if i2 ≤ 0 then (KJ1 0 0) else (jn (fun (i7 : Int32) => jn (fun (i8 : Int32) => KJ1 i7 i8) ((T.2.2.1 (a + 1) (3 : Int32).toNatClampNeg) * i2)) ((T.2.2.1 (a + 1) (4 : Int32).toNatClampNeg) * i2))) else (jn (fun (i9 : Int32) => jn (fun (i10 : Int32) => KJ1 i9 i10) ((T.2.2.1 (a + 1) (4 : Int32).toNatClampNeg) * i1)) ((T.2.2.1 (a + 1) (3 : Int32).toNatClampNeg) * i1))) (fun (j1_7 : Int32) (j1_8 : Int32) => if ((T.2.2.1 (a + 14) (p0 : Int32).toNatClampNeg) + j1_7) < (T.2.2.1 (a + 13) (p2 : Int32).toNatClampNeg) then (0) else (if ((T.2.2.1 (a + 14) (p2 : Int32).toNatClampNeg) + j1_8) < (T.2.2.1 (a + 13) (p0 : Int32).toNatClampNeg) then (0) else (1)))) (p1 - ((p3 + (T.2.2.1 (a + 10) (p2 : Int32).toNatClampNeg)) - 1))) (p3 - ((p1 + (T.2.2.1 (a + 10) (p0 : Int32).toNatClampNeg)) - 1))
def ok_bk_heatsAgree (T : St) (a : Nat) (p0 : Int32) (p1 : Int32) (p2 : Int32) (p3 : Int32) : Prop := (sh a = .inr 1) ∧ (vp_in p0 24) ∧ jn (fun (i1 : Int32) => (vp_in p2 24) ∧ True) (p3 - ((p1 + (T.2.2.1 (a + 10) (p0 : Int32).toNatClampNeg)) - 1))
theorem c_bk_heatsAgree {X : Nat × (Nat → Int32)} {T : St} (a : Nat) (p0 : Int32) (p1 : Int32) (p2 : Int32) (p3 : Int32) (kk : ok_bk_heatsAgree T a p0 p1 p2 p3) : tC X 1 mX1_heatsAgree [.ref a, .int p0, .int p1, .int p2, .int p3] T (some (.int (x_bk_heatsAgree T a p0 p1 p2 p3))) T := by
  unfold ok_bk_heatsAgree at kk
  refine tC_orIp (L := [some (.ref a), some (.int p0), some (.int p1), some (.int p2), some (.int p3), none, none, none, none]) (x_bk_heatsAgree T a p0 p1 p2 p3) rfl ?_
  unfold x_bk_heatsAgree
  refine r_p (pc2 := 2) dX1_heatsAgree_0 rfl rfl ?_
  refine r_p (pc2 := 3) dX1_heatsAgree_2 rfl rfl ?_
  refine r_p (pc2 := 4) dX1_heatsAgree_3 rfl rfl ?_
  obtain ⟨q1, kk⟩ := kk
  refine r_get dX1_heatsAgree_4 fkX1_39 q1 rfl ?_
  refine r_p (pc2 := 8) dX1_heatsAgree_7 rfl rfl ?_
  obtain ⟨q2, kk⟩ := kk
  refine r_ia dX1_heatsAgree_8 (shl1_10 q1) q2 ?_
  refine r_p (pc2 := 10) dX1_heatsAgree_9 rfl rfl ?_
  refine r_ci (x := 1) dX1_heatsAgree_10 rfl ?_
  refine r_p (pc2 := 12) dX1_heatsAgree_11 rfl rfl ?_
  refine r_p (pc2 := 13) dX1_heatsAgree_12 rfl rfl ?_
  refine r_nI (R := (rIp T)) rfl kk (fun i1 kk => ?_)
  refine r_p (pc2 := 15) (L2 := [some (.ref a), some (.int p0), some (.int p1), some (.int p2), some (.int p3), some (.int i1), none, none, none]) dX1_heatsAgree_13 rfl rfl ?_
  refine r_p (pc2 := 16) dX1_heatsAgree_15 rfl rfl ?_
  refine r_p (pc2 := 18) dX1_heatsAgree_16 rfl rfl ?_
  refine r_p (pc2 := 19) dX1_heatsAgree_18 rfl rfl ?_
  refine r_get dX1_heatsAgree_19 fkX1_39 q1 rfl ?_
  refine r_p (pc2 := 23) dX1_heatsAgree_22 rfl rfl ?_
  obtain ⟨q3, kk⟩ := kk
  refine r_ia dX1_heatsAgree_23 (shl1_10 q1) q3 ?_
  refine r_p (pc2 := 25) dX1_heatsAgree_24 rfl rfl ?_
  refine r_ci (x := 1) dX1_heatsAgree_25 rfl ?_
  refine r_p (pc2 := 27) dX1_heatsAgree_26 rfl rfl ?_
  refine r_p (pc2 := 28) dX1_heatsAgree_27 rfl rfl ?_
  refine r_nI0 (R := (rIp T)) rfl (fun i2 => ?_)
  refine r_p (pc2 := 30) (L2 := [some (.ref a), some (.int p0), some (.int p1), some (.int p2), some (.int p3), some (.int i1), some (.int i2), none, none]) dX1_heatsAgree_28 rfl rfl ?_
  refine r_ci (x := 0) dX1_heatsAgree_30 rfl ?_
  refine r_p (pc2 := 33) (L2 := [some (.ref a), some (.int p0), some (.int p1), some (.int p2), some (.int p3), some (.int i1), some (.int i2), some (.int 0), none]) dX1_heatsAgree_31 rfl rfl ?_
  refine r_ci (x := 0) dX1_heatsAgree_33 rfl ?_
  refine r_p (pc2 := 36) (L2 := [some (.ref a), some (.int p0), some (.int p1), some (.int p2), some (.int p3), some (.int i1), some (.int i2), some (.int 0), some (.int 0)]) dX1_heatsAgree_34 rfl rfl ?_
  refine r_p (pc2 := 38) dX1_heatsAgree_36 rfl rfl ?_
  refine r_jn0 (R := (rIp T)) (J := fun (KJ1 : Int32 → Int32 → Int32) => ∀ (j1_7 : Int32) (j1_8 : Int32), tR X 0 mX1_heatsAgree 93 [some (.ref a), some (.int p0), some (.int p1), some (.int p2), some (.int p3), some (.int i1), some (.int i2), some (.int j1_7), some (.int j1_8)] [] T ((rIp T) (KJ1 j1_7 j1_8)).1 ((rIp T) (KJ1 j1_7 j1_8)).2) (fun j1_7 j1_8 => ?_) (fun KJ1 hJ1 => ?_)
  · skip
    refine r_p (pc2 := 94) dX1_heatsAgree_93 rfl rfl ?_
    refine r_get dX1_heatsAgree_94 fkX1_48 q1 rfl ?_
    refine r_p (pc2 := 98) dX1_heatsAgree_97 rfl rfl ?_
    refine r_ia dX1_heatsAgree_98 (shl1_13 q1) q3 ?_
    refine r_p (pc2 := 100) dX1_heatsAgree_99 rfl rfl ?_
    refine r_get dX1_heatsAgree_100 fkX1_51 q1 rfl ?_
    refine r_p (pc2 := 104) dX1_heatsAgree_103 rfl rfl ?_
    refine r_ia dX1_heatsAgree_104 (shl1_14 q1) q2 ?_
    refine r_p (pc2 := 107) dX1_heatsAgree_105 rfl rfl ?_
    refine r_p (pc2 := 108) dX1_heatsAgree_107 rfl rfl ?_
    refine r_cgt dX1_heatsAgree_108 rfl (fun c108_3 => ?_) (fun c108_3 => ?_)
    · refine r_ip (R := (rIp T)) c108_3 ?_
      refine r_ci (x := 0) dX1_heatsAgree_133 rfl ?_
      exact r_qIp dX1_heatsAgree_134 rfl rfl rfl
    · refine r_in (R := (rIp T)) c108_3 ?_
      refine r_p (pc2 := 112) dX1_heatsAgree_111 rfl rfl ?_
      refine r_get dX1_heatsAgree_112 fkX1_48 q1 rfl ?_
      refine r_p (pc2 := 116) dX1_heatsAgree_115 rfl rfl ?_
      refine r_ia dX1_heatsAgree_116 (shl1_13 q1) q2 ?_
      refine r_p (pc2 := 118) dX1_heatsAgree_117 rfl rfl ?_
      refine r_get dX1_heatsAgree_118 fkX1_51 q1 rfl ?_
      refine r_p (pc2 := 122) dX1_heatsAgree_121 rfl rfl ?_
      refine r_ia dX1_heatsAgree_122 (shl1_14 q1) q3 ?_
      refine r_p (pc2 := 125) dX1_heatsAgree_123 rfl rfl ?_
      refine r_p (pc2 := 126) dX1_heatsAgree_125 rfl rfl ?_
      refine r_cgt dX1_heatsAgree_126 rfl (fun c126_4 => ?_) (fun c126_4 => ?_)
      · refine r_ip (R := (rIp T)) c126_4 ?_
        refine r_ci (x := 0) dX1_heatsAgree_133 rfl ?_
        exact r_qIp dX1_heatsAgree_134 rfl rfl rfl
      · refine r_in (R := (rIp T)) c126_4 ?_
        refine r_ci (x := 1) dX1_heatsAgree_129 rfl ?_
        refine r_go dX1_heatsAgree_130 rfl ?_
        exact r_qIp dX1_heatsAgree_134 rfl rfl rfl
  refine r_ile dX1_heatsAgree_38 rfl (fun c38_5 => ?_) (fun c38_5 => ?_)
  · refine r_ip (R := (rIp T)) c38_5 ?_
    refine r_p (pc2 := 68) dX1_heatsAgree_66 rfl rfl ?_
    refine r_ile dX1_heatsAgree_68 rfl (fun c68_6 => ?_) (fun c68_6 => ?_)
    · refine r_ip (R := (rIp T)) c68_6 ?_
      show tR _ _ _ _ [some (.ref a), some (.int p0), some (.int p1), some (.int p2), some (.int p3), some (.int i1), some (.int i2), some (.int 0), some (.int 0)] [] _ _ _
      exact (hJ1 0 0)
    · refine r_in (R := (rIp T)) c68_6 ?_
      refine r_p (pc2 := 72) dX1_heatsAgree_71 rfl rfl ?_
      refine r_get dX1_heatsAgree_72 fkX1_9 q1 rfl ?_
      refine r_ci (x := 4) dX1_heatsAgree_75 rfl ?_
      refine r_ia dX1_heatsAgree_76 (shl1_1 q1) (in_c (by decide)) ?_
      refine r_p (pc2 := 79) dX1_heatsAgree_77 rfl rfl ?_
      refine r_p (pc2 := 80) dX1_heatsAgree_79 rfl rfl ?_
      refine r_nI0 (R := (rIp T)) rfl (fun i7 => ?_)
      refine r_p (pc2 := 82) (L2 := [some (.ref a), some (.int p0), some (.int p1), some (.int p2), some (.int p3), some (.int i1), some (.int i2), some (.int i7), some (.int 0)]) dX1_heatsAgree_80 rfl rfl ?_
      refine r_p (pc2 := 83) dX1_heatsAgree_82 rfl rfl ?_
      refine r_get dX1_heatsAgree_83 fkX1_9 q1 rfl ?_
      refine r_ci (x := 3) dX1_heatsAgree_86 rfl ?_
      refine r_ia dX1_heatsAgree_87 (shl1_1 q1) (in_c (by decide)) ?_
      refine r_p (pc2 := 90) dX1_heatsAgree_88 rfl rfl ?_
      refine r_p (pc2 := 91) dX1_heatsAgree_90 rfl rfl ?_
      refine r_nI0 (R := (rIp T)) rfl (fun i8 => ?_)
      refine r_p (pc2 := 93) (L2 := [some (.ref a), some (.int p0), some (.int p1), some (.int p2), some (.int p3), some (.int i1), some (.int i2), some (.int i7), some (.int i8)]) dX1_heatsAgree_91 rfl rfl ?_
      show tR _ _ _ _ [some (.ref a), some (.int p0), some (.int p1), some (.int p2), some (.int p3), some (.int i1), some (.int i2), some (.int i7), some (.int i8)] [] _ _ _
      exact (hJ1 i7 i8)
  · refine r_in (R := (rIp T)) c38_5 ?_
    refine r_p (pc2 := 42) dX1_heatsAgree_41 rfl rfl ?_
    refine r_get dX1_heatsAgree_42 fkX1_9 q1 rfl ?_
    refine r_ci (x := 3) dX1_heatsAgree_45 rfl ?_
    refine r_ia dX1_heatsAgree_46 (shl1_1 q1) (in_c (by decide)) ?_
    refine r_p (pc2 := 49) dX1_heatsAgree_47 rfl rfl ?_
    refine r_p (pc2 := 50) dX1_heatsAgree_49 rfl rfl ?_
    refine r_nI0 (R := (rIp T)) rfl (fun i9 => ?_)
    refine r_p (pc2 := 52) (L2 := [some (.ref a), some (.int p0), some (.int p1), some (.int p2), some (.int p3), some (.int i1), some (.int i2), some (.int i9), some (.int 0)]) dX1_heatsAgree_50 rfl rfl ?_
    refine r_p (pc2 := 53) dX1_heatsAgree_52 rfl rfl ?_
    refine r_get dX1_heatsAgree_53 fkX1_9 q1 rfl ?_
    refine r_ci (x := 4) dX1_heatsAgree_56 rfl ?_
    refine r_ia dX1_heatsAgree_57 (shl1_1 q1) (in_c (by decide)) ?_
    refine r_p (pc2 := 60) dX1_heatsAgree_58 rfl rfl ?_
    refine r_p (pc2 := 61) dX1_heatsAgree_60 rfl rfl ?_
    refine r_nI0 (R := (rIp T)) rfl (fun i10 => ?_)
    refine r_p (pc2 := 63) (L2 := [some (.ref a), some (.int p0), some (.int p1), some (.int p2), some (.int p3), some (.int i1), some (.int i2), some (.int i9), some (.int i10)]) dX1_heatsAgree_61 rfl rfl ?_
    refine r_go dX1_heatsAgree_63 rfl ?_
    show tR _ _ _ _ [some (.ref a), some (.int p0), some (.int p1), some (.int p2), some (.int p3), some (.int i1), some (.int i2), some (.int i9), some (.int i10)] [] _ _ _
    exact (hJ1 i9 i10)
theorem b_bk_heatsAgree (T : St) (a : Nat) (p0 : Int32) (p1 : Int32) (p2 : Int32) (p3 : Int32) : x_bk_heatsAgree T a p0 p1 p2 p3 = 0 ∨ x_bk_heatsAgree T a p0 p1 p2 p3 = 1 := by
  unfold x_bk_heatsAgree
  try simp only [jn]
  repeat' split
  all_goals (first | exact Or.inl rfl | exact Or.inr rfl)
def x_jd_followsInTime (T : St) (p0 : Nat) (p1 : Nat) (p2 : Int32) : Int32 := jn (fun (i1 : Int32) => if i1 < 0 then (0) else (if (T.2.2.1 (p0 + 11) (T.2.2.1 (p1 + 3) (p2 - 1 : Int32).toNatClampNeg : Int32).toNatClampNeg) < i1 then (0) else (1))) (((T.2.2.1 (p1 + 5) (p2 : Int32).toNatClampNeg) - (T.2.2.1 (p1 + 5) (p2 - 1 : Int32).toNatClampNeg)) - (T.2.2.1 (p1 + 6) (p2 - 1 : Int32).toNatClampNeg))
def ok_jd_followsInTime (T : St) (p0 : Nat) (p1 : Nat) (p2 : Int32) : Prop := (sh p1 = .inr 7) ∧ (vp_in p2 12) ∧ (vp_in (p2 - 1) 12) ∧ jn (fun (i1 : Int32) => (¬ i1 < 0 → (sh p0 = .inr 1) ∧ (vp_in (T.2.2.1 (p1 + 3) (p2 - 1 : Int32).toNatClampNeg) 24) ∧ True)) (((T.2.2.1 (p1 + 5) (p2 : Int32).toNatClampNeg) - (T.2.2.1 (p1 + 5) (p2 - 1 : Int32).toNatClampNeg)) - (T.2.2.1 (p1 + 6) (p2 - 1 : Int32).toNatClampNeg))
theorem c_jd_followsInTime {X : Nat × (Nat → Int32)} {T : St} (p0 : Nat) (p1 : Nat) (p2 : Int32) (kk : ok_jd_followsInTime T p0 p1 p2) : tC X 1 mX2_followsInTime [.ref (527 : Nat), .ref p0, .ref p1, .int p2] T (some (.int (x_jd_followsInTime T p0 p1 p2))) T := by
  unfold ok_jd_followsInTime at kk
  refine tC_orIp (L := [some (.ref (527 : Nat)), some (.ref p0), some (.ref p1), some (.int p2), none]) (x_jd_followsInTime T p0 p1 p2) rfl ?_
  unfold x_jd_followsInTime
  refine r_p (pc2 := 1) dX2_followsInTime_0 rfl rfl ?_
  obtain ⟨q1, kk⟩ := kk
  refine r_get dX2_followsInTime_1 fkX2_42 q1 rfl ?_
  refine r_p (pc2 := 5) dX2_followsInTime_4 rfl rfl ?_
  obtain ⟨q2, kk⟩ := kk
  refine r_ia dX2_followsInTime_5 (shl7_5 q1) q2 ?_
  refine r_p (pc2 := 7) dX2_followsInTime_6 rfl rfl ?_
  refine r_get dX2_followsInTime_7 fkX2_42 q1 rfl ?_
  refine r_p (pc2 := 11) dX2_followsInTime_10 rfl rfl ?_
  refine r_ci (x := 1) dX2_followsInTime_11 rfl ?_
  refine r_p (pc2 := 13) dX2_followsInTime_12 rfl rfl ?_
  obtain ⟨q3, kk⟩ := kk
  refine r_ia dX2_followsInTime_13 (shl7_5 q1) q3 ?_
  refine r_p (pc2 := 15) dX2_followsInTime_14 rfl rfl ?_
  refine r_p (pc2 := 16) dX2_followsInTime_15 rfl rfl ?_
  refine r_get dX2_followsInTime_16 fkX2_46 q1 rfl ?_
  refine r_p (pc2 := 20) dX2_followsInTime_19 rfl rfl ?_
  refine r_ci (x := 1) dX2_followsInTime_20 rfl ?_
  refine r_p (pc2 := 22) dX2_followsInTime_21 rfl rfl ?_
  refine r_ia dX2_followsInTime_22 (shl7_6 q1) q3 ?_
  refine r_p (pc2 := 24) dX2_followsInTime_23 rfl rfl ?_
  refine r_nI (R := (rIp T)) rfl kk (fun i1 kk => ?_)
  refine r_p (pc2 := 26) (L2 := [some (.ref (527 : Nat)), some (.ref p0), some (.ref p1), some (.int p2), some (.int i1)]) dX2_followsInTime_24 rfl rfl ?_
  refine r_p (pc2 := 28) dX2_followsInTime_26 rfl rfl ?_
  refine r_ilt dX2_followsInTime_28 rfl (fun c28_1 => ?_) (fun c28_1 => ?_)
  · refine r_ip (R := (rIp T)) c28_1 ?_
    refine r_ci (x := 0) dX2_followsInTime_53 rfl ?_
    exact r_qIp dX2_followsInTime_54 rfl rfl rfl
  · refine r_in (R := (rIp T)) c28_1 ?_
    have kk := kk c28_1
    refine r_p (pc2 := 33) dX2_followsInTime_31 rfl rfl ?_
    refine r_p (pc2 := 34) dX2_followsInTime_33 rfl rfl ?_
    obtain ⟨q4, kk⟩ := kk
    refine r_get dX2_followsInTime_34 fkX2_75 q4 rfl ?_
    refine r_p (pc2 := 38) dX2_followsInTime_37 rfl rfl ?_
    refine r_get dX2_followsInTime_38 fkX2_78 q1 rfl ?_
    refine r_p (pc2 := 42) dX2_followsInTime_41 rfl rfl ?_
    refine r_ci (x := 1) dX2_followsInTime_42 rfl ?_
    refine r_p (pc2 := 44) dX2_followsInTime_43 rfl rfl ?_
    refine r_ia dX2_followsInTime_44 (shl7_3 q1) q3 ?_
    obtain ⟨q5, kk⟩ := kk
    refine r_ia dX2_followsInTime_45 (shl1_11 q4) q5 ?_
    refine r_cgt dX2_followsInTime_46 rfl (fun c46_2 => ?_) (fun c46_2 => ?_)
    · refine r_ip (R := (rIp T)) c46_2 ?_
      refine r_ci (x := 0) dX2_followsInTime_53 rfl ?_
      exact r_qIp dX2_followsInTime_54 rfl rfl rfl
    · refine r_in (R := (rIp T)) c46_2 ?_
      refine r_ci (x := 1) dX2_followsInTime_49 rfl ?_
      refine r_go dX2_followsInTime_50 rfl ?_
      exact r_qIp dX2_followsInTime_54 rfl rfl rfl
theorem b_jd_followsInTime (T : St) (p0 : Nat) (p1 : Nat) (p2 : Int32) : x_jd_followsInTime T p0 p1 p2 = 0 ∨ x_jd_followsInTime T p0 p1 p2 = 1 := by
  unfold x_jd_followsInTime
  try simp only [jn]
  repeat' split
  all_goals (first | exact Or.inl rfl | exact Or.inr rfl)
def x_jd_lackAt (T : St) (p0 : Int64) (p1 : Int32) : Int32 := if (lg_cmp ((T.2.2.2 538 (1 : Int32).toNatClampNeg) &&& p0) 0) = 0 then (if (lg_cmp ((T.2.2.2 538 (0 : Int32).toNatClampNeg) &&& p0) 0) = 0 then (if (lg_cmp ((T.2.2.2 538 (2 : Int32).toNatClampNeg) &&& p0) 0) = 0 then (if p1 = 0 then (if (lg_cmp ((T.2.2.2 538 (3 : Int32).toNatClampNeg) &&& p0) 0) = 0 then (if (lg_cmp ((T.2.2.2 538 (4 : Int32).toNatClampNeg) &&& p0) 0) = 0 then (0) else (6)) else (5)) else (4)) else (3)) else (2)) else (1)
theorem c_jd_lackAt {X : Nat × (Nat → Int32)} {T : St} (p0 : Int64) (p1 : Int32) : tC X 1 mX2_lackAt [.ref (527 : Nat), .long p0, .int p1] T (some (.int (x_jd_lackAt T p0 p1))) T := by
  refine tC_orIp (L := [some (.ref (527 : Nat)), some (.long p0), none, some (.int p1)]) (x_jd_lackAt T p0 p1) rfl ?_
  unfold x_jd_lackAt
  refine r_p (pc2 := 1) dX2_lackAt_0 rfl rfl ?_
  refine r_get dX2_lackAt_1 fkX2_31 rfl rfl ?_
  refine r_ci (x := 1) dX2_lackAt_4 rfl ?_
  refine r_la dX2_lackAt_5 rfl (in_c (by decide)) ?_
  refine r_p (pc2 := 7) dX2_lackAt_6 rfl rfl ?_
  refine r_p (pc2 := 8) dX2_lackAt_7 rfl rfl ?_
  refine r_cl (x := 0) dX2_lackAt_8 rfl ?_
  refine r_p (pc2 := 10) dX2_lackAt_9 rfl rfl ?_
  refine r_ieq dX2_lackAt_10 rfl (fun c10_1 => ?_) (fun c10_1 => ?_)
  · refine r_ip (R := (rIp T)) c10_1 ?_
    refine r_p (pc2 := 16) dX2_lackAt_15 rfl rfl ?_
    refine r_get dX2_lackAt_16 fkX2_31 rfl rfl ?_
    refine r_ci (x := 0) dX2_lackAt_19 rfl ?_
    refine r_la dX2_lackAt_20 rfl (in_c (by decide)) ?_
    refine r_p (pc2 := 22) dX2_lackAt_21 rfl rfl ?_
    refine r_p (pc2 := 23) dX2_lackAt_22 rfl rfl ?_
    refine r_cl (x := 0) dX2_lackAt_23 rfl ?_
    refine r_p (pc2 := 25) dX2_lackAt_24 rfl rfl ?_
    refine r_ieq dX2_lackAt_25 rfl (fun c25_2 => ?_) (fun c25_2 => ?_)
    · refine r_ip (R := (rIp T)) c25_2 ?_
      refine r_p (pc2 := 31) dX2_lackAt_30 rfl rfl ?_
      refine r_get dX2_lackAt_31 fkX2_31 rfl rfl ?_
      refine r_ci (x := 2) dX2_lackAt_34 rfl ?_
      refine r_la dX2_lackAt_35 rfl (in_c (by decide)) ?_
      refine r_p (pc2 := 37) dX2_lackAt_36 rfl rfl ?_
      refine r_p (pc2 := 38) dX2_lackAt_37 rfl rfl ?_
      refine r_cl (x := 0) dX2_lackAt_38 rfl ?_
      refine r_p (pc2 := 40) dX2_lackAt_39 rfl rfl ?_
      refine r_ieq dX2_lackAt_40 rfl (fun c40_3 => ?_) (fun c40_3 => ?_)
      · refine r_ip (R := (rIp T)) c40_3 ?_
        refine r_p (pc2 := 46) dX2_lackAt_45 rfl rfl ?_
        refine r_ieq dX2_lackAt_46 rfl (fun c46_4 => ?_) (fun c46_4 => ?_)
        · refine r_ip (R := (rIp T)) c46_4 ?_
          refine r_p (pc2 := 52) dX2_lackAt_51 rfl rfl ?_
          refine r_get dX2_lackAt_52 fkX2_31 rfl rfl ?_
          refine r_ci (x := 3) dX2_lackAt_55 rfl ?_
          refine r_la dX2_lackAt_56 rfl (in_c (by decide)) ?_
          refine r_p (pc2 := 58) dX2_lackAt_57 rfl rfl ?_
          refine r_p (pc2 := 59) dX2_lackAt_58 rfl rfl ?_
          refine r_cl (x := 0) dX2_lackAt_59 rfl ?_
          refine r_p (pc2 := 61) dX2_lackAt_60 rfl rfl ?_
          refine r_ieq dX2_lackAt_61 rfl (fun c61_5 => ?_) (fun c61_5 => ?_)
          · refine r_ip (R := (rIp T)) c61_5 ?_
            refine r_p (pc2 := 67) dX2_lackAt_66 rfl rfl ?_
            refine r_get dX2_lackAt_67 fkX2_31 rfl rfl ?_
            refine r_ci (x := 4) dX2_lackAt_70 rfl ?_
            refine r_la dX2_lackAt_71 rfl (in_c (by decide)) ?_
            refine r_p (pc2 := 73) dX2_lackAt_72 rfl rfl ?_
            refine r_p (pc2 := 74) dX2_lackAt_73 rfl rfl ?_
            refine r_cl (x := 0) dX2_lackAt_74 rfl ?_
            refine r_p (pc2 := 76) dX2_lackAt_75 rfl rfl ?_
            refine r_ieq dX2_lackAt_76 rfl (fun c76_6 => ?_) (fun c76_6 => ?_)
            · refine r_ip (R := (rIp T)) c76_6 ?_
              refine r_ci (x := 0) dX2_lackAt_84 rfl ?_
              exact r_qIp dX2_lackAt_85 rfl rfl rfl
            · refine r_in (R := (rIp T)) c76_6 ?_
              refine r_cb (x := 6) dX2_lackAt_79 rfl ?_
              refine r_go dX2_lackAt_81 rfl ?_
              exact r_qIp dX2_lackAt_85 rfl rfl rfl
          · refine r_in (R := (rIp T)) c61_5 ?_
            refine r_ci (x := 5) dX2_lackAt_64 rfl ?_
            exact r_qIp dX2_lackAt_65 rfl rfl rfl
        · refine r_in (R := (rIp T)) c46_4 ?_
          refine r_ci (x := 4) dX2_lackAt_49 rfl ?_
          exact r_qIp dX2_lackAt_50 rfl rfl rfl
      · refine r_in (R := (rIp T)) c40_3 ?_
        refine r_ci (x := 3) dX2_lackAt_43 rfl ?_
        exact r_qIp dX2_lackAt_44 rfl rfl rfl
    · refine r_in (R := (rIp T)) c25_2 ?_
      refine r_ci (x := 2) dX2_lackAt_28 rfl ?_
      exact r_qIp dX2_lackAt_29 rfl rfl rfl
  · refine r_in (R := (rIp T)) c10_1 ?_
    refine r_ci (x := 1) dX2_lackAt_13 rfl ?_
    exact r_qIp dX2_lackAt_14 rfl rfl rfl
def x_jd_wantedAt_6 (T : St) (l1 : Nat) (l2 : Int32) (l3 : Int32) (K : Int32 → Int32 → Int32) : Nat → Int32 → Int32 → Int32
  | 0, _, _ => 0
  | f + 1, v4, v5 => if (T.1 l1 0) ≤ v5 then (K v4 v5) else (if (lg_cmp (((T.2.2.2 ((539 + 4 * (v5 : Int32).toNatClampNeg) + 3) (l3 : Int32).toNatClampNeg) >>> ((l2 : Int32).toInt64 &&& 63)) &&& 1) 0) = 0 then (x_jd_wantedAt_6 T l1 l2 l3 K f v4 (v5 + 1)) else (x_jd_wantedAt_6 T l1 l2 l3 K f (v4 + 1) (v5 + 1)))
def ok_jd_wantedAt_6 (T : St) (l1 : Nat) (l2 : Int32) (l3 : Int32) (Kk : Int32 → Int32 → Prop) : Nat → Int32 → Int32 → Prop
  | 0, _, _ => False
  | f + 1, v4, v5 => (sh l1 = .inr 7) ∧ (((T.1 l1 0) ≤ v5 → Kk v4 v5) ∧ (¬ (T.1 l1 0) ≤ v5 → (vp_in v5 4) ∧ (sh ((539 + 4 * (v5 : Int32).toNatClampNeg) + 3) = .inl (1, 5)) ∧ (vp_in l3 5) ∧ (((lg_cmp (((T.2.2.2 ((539 + 4 * (v5 : Int32).toNatClampNeg) + 3) (l3 : Int32).toNatClampNeg) >>> ((l2 : Int32).toInt64 &&& 63)) &&& 1) 0) = 0 → ok_jd_wantedAt_6 T l1 l2 l3 Kk f v4 (v5 + 1)) ∧ (¬ (lg_cmp (((T.2.2.2 ((539 + 4 * (v5 : Int32).toNatClampNeg) + 3) (l3 : Int32).toNatClampNeg) >>> ((l2 : Int32).toInt64 &&& 63)) &&& 1) 0) = 0 → ok_jd_wantedAt_6 T l1 l2 l3 Kk f (v4 + 1) (v5 + 1)))))
theorem c_jd_wantedAt_6 {X : Nat × (Nat → Int32)} (T : St) (l1 : Nat) (l2 : Int32) (l3 : Int32) {K : Int32 → Int32 → Int32} {Kk : Int32 → Int32 → Prop} (hk : ∀ (v4 : Int32) (v5 : Int32), Kk v4 v5 → tR X 0 mX2_wantedAt 45 [some (.ref (527 : Nat)), some (.ref l1), some (.int l2), some (.int l3), some (.int v4), some (.int v5)] [] T ((rIp T) (K v4 v5)).1 (((rIp T) (K v4 v5)).2)) : ∀ (f : Nat) (v4 : Int32) (v5 : Int32), ok_jd_wantedAt_6 T l1 l2 l3 Kk f v4 v5 → tR X 0 mX2_wantedAt 6 [some (.ref (527 : Nat)), some (.ref l1), some (.int l2), some (.int l3), some (.int v4), some (.int v5)] [] T ((rIp T) (x_jd_wantedAt_6 T l1 l2 l3 K f v4 v5)).1 (((rIp T) (x_jd_wantedAt_6 T l1 l2 l3 K f v4 v5)).2) := by
  intro f
  induction f with
  | zero => intro v4 v5 kk; exact kk.elim
  | succ f ih =>
    intro v4 v5 kk
    rw [ok_jd_wantedAt_6] at kk
    rw [x_jd_wantedAt_6]
    refine r_p (pc2 := 8) dX2_wantedAt_6 rfl rfl ?_
    refine r_p (pc2 := 9) dX2_wantedAt_8 rfl rfl ?_
    obtain ⟨q1, kk⟩ := kk
    refine r_get dX2_wantedAt_9 fkX2_129 q1 rfl ?_
    refine r_cge dX2_wantedAt_12 rfl (fun c12_1 => ?_) (fun c12_1 => ?_)
    · refine r_ip (R := (rIp T)) c12_1 ?_
      have kk := kk.1 c12_1
      show tR _ _ _ _ [some (.ref (527 : Nat)), some (.ref l1), some (.int l2), some (.int l3), some (.int v4), some (.int v5)] _ _ _ _
      exact (hk v4 v5  kk)
    · refine r_in (R := (rIp T)) c12_1 ?_
      have kk := kk.2 c12_1
      refine r_p (pc2 := 16) dX2_wantedAt_15 rfl rfl ?_
      refine r_get dX2_wantedAt_16 fkX2_20 rfl rfl ?_
      refine r_p (pc2 := 21) dX2_wantedAt_19 rfl rfl ?_
      obtain ⟨q2, kk⟩ := kk
      refine r_aa dX2_wantedAt_21 rfl (by decide) q2 (rf532 q2) ?_
      refine r_get dX2_wantedAt_22 fkX2_122 (shr532 q2) rfl ?_
      refine r_p (pc2 := 26) dX2_wantedAt_25 rfl rfl ?_
      obtain ⟨q3, kk⟩ := kk
      obtain ⟨q4, kk⟩ := kk
      refine r_la dX2_wantedAt_26 q3 q4 ?_
      refine r_p (pc2 := 28) dX2_wantedAt_27 rfl rfl ?_
      refine r_p (pc2 := 29) dX2_wantedAt_28 rfl rfl ?_
      refine r_cl (x := 1) dX2_wantedAt_29 rfl ?_
      refine r_p (pc2 := 31) dX2_wantedAt_30 rfl rfl ?_
      refine r_cl (x := 0) dX2_wantedAt_31 rfl ?_
      refine r_p (pc2 := 33) dX2_wantedAt_32 rfl rfl ?_
      refine r_ieq dX2_wantedAt_33 rfl (fun c33_2 => ?_) (fun c33_2 => ?_)
      · refine r_ip (R := (rIp T)) c33_2 ?_
        have kk := kk.1 c33_2
        refine r_inc (L2 := [some (.ref (527 : Nat)), some (.ref l1), some (.int l2), some (.int l3), some (.int v4), some (.int (v5 + 1))]) (y := 1) dX2_wantedAt_39 rfl rfl rfl ?_
        refine r_go dX2_wantedAt_42 rfl ?_
        show tR _ _ _ _ [some (.ref (527 : Nat)), some (.ref l1), some (.int l2), some (.int l3), some (.int v4), some (.int (v5 + 1))] _ _ _ _
        exact (ih v4 (v5 + 1)  kk)
      · refine r_in (R := (rIp T)) c33_2 ?_
        have kk := kk.2 c33_2
        refine r_inc (L2 := [some (.ref (527 : Nat)), some (.ref l1), some (.int l2), some (.int l3), some (.int (v4 + 1)), some (.int v5)]) (y := 1) dX2_wantedAt_36 rfl rfl rfl ?_
        refine r_inc (L2 := [some (.ref (527 : Nat)), some (.ref l1), some (.int l2), some (.int l3), some (.int (v4 + 1)), some (.int (v5 + 1))]) (y := 1) dX2_wantedAt_39 rfl rfl rfl ?_
        refine r_go dX2_wantedAt_42 rfl ?_
        show tR _ _ _ _ [some (.ref (527 : Nat)), some (.ref l1), some (.int l2), some (.int l3), some (.int (v4 + 1)), some (.int (v5 + 1))] _ _ _ _
        exact (ih (v4 + 1) (v5 + 1)  kk)
def x_jd_wantedAt (T : St) (p0 : Nat) (p1 : Int32) (p2 : Int32) : Int32 := x_jd_wantedAt_6 T p0 p1 p2 (fun (w1_4 : Int32) (w1_5 : Int32) => w1_4) 1000 0 0
def ok_jd_wantedAt (T : St) (p0 : Nat) (p1 : Int32) (p2 : Int32) : Prop := ok_jd_wantedAt_6 T p0 p1 p2 (fun (w1_4 : Int32) (w1_5 : Int32) => True) 1000 0 0
theorem c_jd_wantedAt {X : Nat × (Nat → Int32)} {T : St} (p0 : Nat) (p1 : Int32) (p2 : Int32) (kk : ok_jd_wantedAt T p0 p1 p2) : tC X 1 mX2_wantedAt [.ref (527 : Nat), .ref p0, .int p1, .int p2] T (some (.int (x_jd_wantedAt T p0 p1 p2))) T := by
  unfold ok_jd_wantedAt at kk
  refine tC_orIp (L := [some (.ref (527 : Nat)), some (.ref p0), some (.int p1), some (.int p2), none, none]) (x_jd_wantedAt T p0 p1 p2) rfl ?_
  unfold x_jd_wantedAt
  refine r_ci (x := 0) dX2_wantedAt_0 rfl ?_
  refine r_p (pc2 := 3) (L2 := [some (.ref (527 : Nat)), some (.ref p0), some (.int p1), some (.int p2), some (.int 0), none]) dX2_wantedAt_1 rfl rfl ?_
  refine r_ci (x := 0) dX2_wantedAt_3 rfl ?_
  refine r_p (pc2 := 6) (L2 := [some (.ref (527 : Nat)), some (.ref p0), some (.int p1), some (.int p2), some (.int 0), some (.int 0)]) dX2_wantedAt_4 rfl rfl ?_
  show tR _ _ _ _ [some (.ref (527 : Nat)), some (.ref p0), some (.int p1), some (.int p2), some (.int 0), some (.int 0)] _ _ _ _
  refine (c_jd_wantedAt_6 T p0 p1 p2 (fun w1_4 w1_5 kk => ?_) 1000 0 0  kk)
  · skip
    refine r_p (pc2 := 47) dX2_wantedAt_45 rfl rfl ?_
    exact r_qIp dX2_wantedAt_47 rfl rfl rfl
