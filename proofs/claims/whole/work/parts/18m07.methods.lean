def x_m_fault (T : St)  : Int32 × St := ((sF T 571 0 0).1 571 10, sF T 571 0 0)
theorem c_m_fault {X : Nat × (Nat → Int32)} {T : St}  : tC X 1 mX12_fault [.ref (571 : Nat)] T (some (.int (x_m_fault T).1)) ((x_m_fault T).2) := by
  refine tC_orI (L := [some (.ref (571 : Nat))]) (x_m_fault T ) rfl ?_
  unfold x_m_fault
  refine r_p (pc2 := 1) dX12_fault_0 rfl rfl ?_
  refine r_ci (x := 0) dX12_fault_1 rfl ?_
  refine r_put dX12_fault_2 fkX12_101 rfl rfl rfl (Nat.le_of_ble_eq_true rfl) rfl rfl ?_
  refine r_p (pc2 := 6) dX12_fault_5 rfl rfl ?_
  refine r_get dX12_fault_6 fkX12_217 rfl rfl ?_
  exact r_qI dX12_fault_9 rfl rfl rfl rfl
def x_m_dishOf (T : St) (p0 : Int32) (p1 : Int32) : Int32 := T.2.2.1 575 ((18 + (5 * p0)) + p1 : Int32).toNatClampNeg
def ok_m_dishOf (T : St) (p0 : Int32) (p1 : Int32) : Prop := (vp_in ((18 + (5 * p0)) + p1) 204) ∧ True
theorem c_m_dishOf {X : Nat × (Nat → Int32)} {T : St} (p0 : Int32) (p1 : Int32) (kk : ok_m_dishOf T p0 p1) : tC X 1 mX12_dishOf [.ref (571 : Nat), .int p0, .int p1] T (some (.int (x_m_dishOf T p0 p1))) T := by
  unfold ok_m_dishOf at kk
  refine tC_orIp (L := [some (.ref (571 : Nat)), some (.int p0), some (.int p1)]) (x_m_dishOf T p0 p1) rfl ?_
  unfold x_m_dishOf
  refine r_p (pc2 := 1) dX12_dishOf_0 rfl rfl ?_
  refine r_get dX12_dishOf_1 fkX12_19 rfl rfl ?_
  refine r_cb (x := 18) dX12_dishOf_4 rfl ?_
  refine r_ci (x := 5) dX12_dishOf_6 rfl ?_
  refine r_p (pc2 := 8) dX12_dishOf_7 rfl rfl ?_
  refine r_p (pc2 := 9) dX12_dishOf_8 rfl rfl ?_
  refine r_p (pc2 := 10) dX12_dishOf_9 rfl rfl ?_
  refine r_p (pc2 := 11) dX12_dishOf_10 rfl rfl ?_
  refine r_p (pc2 := 12) dX12_dishOf_11 rfl rfl ?_
  obtain ⟨q1, kk⟩ := kk
  refine r_ia dX12_dishOf_12 rfl q1 ?_
  exact r_qIp dX12_dishOf_13 rfl rfl rfl
def x_m_stepOf (T : St) (p0 : Int32) (p1 : Int32) : Int32 := T.2.2.1 575 ((58 + (6 * p0)) + p1 : Int32).toNatClampNeg
def ok_m_stepOf (T : St) (p0 : Int32) (p1 : Int32) : Prop := (vp_in ((58 + (6 * p0)) + p1) 204) ∧ True
theorem c_m_stepOf {X : Nat × (Nat → Int32)} {T : St} (p0 : Int32) (p1 : Int32) (kk : ok_m_stepOf T p0 p1) : tC X 1 mX12_stepOf [.ref (571 : Nat), .int p0, .int p1] T (some (.int (x_m_stepOf T p0 p1))) T := by
  unfold ok_m_stepOf at kk
  refine tC_orIp (L := [some (.ref (571 : Nat)), some (.int p0), some (.int p1)]) (x_m_stepOf T p0 p1) rfl ?_
  unfold x_m_stepOf
  refine r_p (pc2 := 1) dX12_stepOf_0 rfl rfl ?_
  refine r_get dX12_stepOf_1 fkX12_19 rfl rfl ?_
  refine r_cb (x := 58) dX12_stepOf_4 rfl ?_
  refine r_cb (x := 6) dX12_stepOf_6 rfl ?_
  refine r_p (pc2 := 9) dX12_stepOf_8 rfl rfl ?_
  refine r_p (pc2 := 10) dX12_stepOf_9 rfl rfl ?_
  refine r_p (pc2 := 11) dX12_stepOf_10 rfl rfl ?_
  refine r_p (pc2 := 12) dX12_stepOf_11 rfl rfl ?_
  refine r_p (pc2 := 13) dX12_stepOf_12 rfl rfl ?_
  obtain ⟨q1, kk⟩ := kk
  refine r_ia dX12_stepOf_13 rfl q1 ?_
  exact r_qIp dX12_stepOf_14 rfl rfl rfl
def x_m_isDish (T : St) (p0 : Int32) : Int32 := x_m_in T ((p0 : Int32).toInt64) 0 (((T.2.2.1 575 (16 : Int32).toNatClampNeg) - 1 : Int32).toInt64)
theorem c_m_isDish {X : Nat × (Nat → Int32)} {T : St} (p0 : Int32) : tC X 2 mX12_isDish [.ref (571 : Nat), .int p0] T (some (.int (x_m_isDish T p0))) T := by
  refine tC_orIp (L := [some (.ref (571 : Nat)), some (.int p0)]) (x_m_isDish T p0) rfl ?_
  unfold x_m_isDish
  refine r_p (pc2 := 1) dX12_isDish_0 rfl rfl ?_
  refine r_p (pc2 := 2) dX12_isDish_1 rfl rfl ?_
  refine r_cl (x := 0) dX12_isDish_2 rfl ?_
  refine r_p (pc2 := 4) dX12_isDish_3 rfl rfl ?_
  refine r_get dX12_isDish_4 fkX12_19 rfl rfl ?_
  refine r_cb (x := 16) dX12_isDish_7 rfl ?_
  refine r_ia dX12_isDish_9 rfl (in_c (by decide)) ?_
  refine r_ci (x := 1) dX12_isDish_10 rfl ?_
  refine r_p (pc2 := 12) dX12_isDish_11 rfl rfl ?_
  refine r_p (pc2 := 13) dX12_isDish_12 rfl rfl ?_
  refine r_cs (d1 := 1) dX12_isDish_13 csX12_111 rfl rfl (Nat.le_of_ble_eq_true rfl) (Nat.le_of_ble_eq_true rfl) (Nat.le_of_ble_eq_true rfl) (c_m_in ((p0 : Int32).toInt64) 0 (((T.2.2.1 575 (16 : Int32).toNatClampNeg) - 1 : Int32).toInt64)) ?_
  exact r_qIp dX12_isDish_16 rfl (nar_b (b_m_in T ((p0 : Int32).toInt64) 0 (((T.2.2.1 575 (16 : Int32).toNatClampNeg) - 1 : Int32).toInt64))) rfl
theorem b_m_isDish (T : St) (p0 : Int32) : x_m_isDish T p0 = 0 ∨ x_m_isDish T p0 = 1 := by
  unfold x_m_isDish
  try simp only [jn]
  repeat' split
  all_goals (first | exact Or.inl rfl | exact Or.inr rfl | apply b_m_in)
def x_m_isStep (T : St) (p0 : Int32) : Int32 := x_m_in T ((p0 : Int32).toInt64) 0 (((T.2.2.1 575 (17 : Int32).toNatClampNeg) - 1 : Int32).toInt64)
theorem c_m_isStep {X : Nat × (Nat → Int32)} {T : St} (p0 : Int32) : tC X 2 mX12_isStep [.ref (571 : Nat), .int p0] T (some (.int (x_m_isStep T p0))) T := by
  refine tC_orIp (L := [some (.ref (571 : Nat)), some (.int p0)]) (x_m_isStep T p0) rfl ?_
  unfold x_m_isStep
  refine r_p (pc2 := 1) dX12_isStep_0 rfl rfl ?_
  refine r_p (pc2 := 2) dX12_isStep_1 rfl rfl ?_
  refine r_cl (x := 0) dX12_isStep_2 rfl ?_
  refine r_p (pc2 := 4) dX12_isStep_3 rfl rfl ?_
  refine r_get dX12_isStep_4 fkX12_19 rfl rfl ?_
  refine r_cb (x := 17) dX12_isStep_7 rfl ?_
  refine r_ia dX12_isStep_9 rfl (in_c (by decide)) ?_
  refine r_ci (x := 1) dX12_isStep_10 rfl ?_
  refine r_p (pc2 := 12) dX12_isStep_11 rfl rfl ?_
  refine r_p (pc2 := 13) dX12_isStep_12 rfl rfl ?_
  refine r_cs (d1 := 1) dX12_isStep_13 csX12_111 rfl rfl (Nat.le_of_ble_eq_true rfl) (Nat.le_of_ble_eq_true rfl) (Nat.le_of_ble_eq_true rfl) (c_m_in ((p0 : Int32).toInt64) 0 (((T.2.2.1 575 (17 : Int32).toNatClampNeg) - 1 : Int32).toInt64)) ?_
  exact r_qIp dX12_isStep_16 rfl (nar_b (b_m_in T ((p0 : Int32).toInt64) 0 (((T.2.2.1 575 (17 : Int32).toNatClampNeg) - 1 : Int32).toInt64))) rfl
theorem b_m_isStep (T : St) (p0 : Int32) : x_m_isStep T p0 = 0 ∨ x_m_isStep T p0 = 1 := by
  unfold x_m_isStep
  try simp only [jn]
  repeat' split
  all_goals (first | exact Or.inl rfl | exact Or.inr rfl | apply b_m_in)
def x_m_waitsOf (T : St) (p0 : Int32) (p1 : Int32) : Int32 := if ((x_m_dishOf T p0 3) - 1) ≤ p1 then (1) else (1 + (x_m_stepOf T ((x_m_dishOf T p0 4) + p1) 2))
def ok_m_waitsOf (T : St) (p0 : Int32) (p1 : Int32) : Prop := (ok_m_dishOf T p0 3) ∧ (¬ ((x_m_dishOf T p0 3) - 1) ≤ p1 → (ok_m_dishOf T p0 4) ∧ (ok_m_stepOf T ((x_m_dishOf T p0 4) + p1) 2) ∧ True)
theorem c_m_waitsOf {X : Nat × (Nat → Int32)} {T : St} (p0 : Int32) (p1 : Int32) (kk : ok_m_waitsOf T p0 p1) : tC X 2 mX12_waitsOf [.ref (571 : Nat), .int p0, .int p1] T (some (.int (x_m_waitsOf T p0 p1))) T := by
  unfold ok_m_waitsOf at kk
  refine tC_orIp (L := [some (.ref (571 : Nat)), some (.int p0), some (.int p1)]) (x_m_waitsOf T p0 p1) rfl ?_
  unfold x_m_waitsOf
  refine r_p (pc2 := 1) dX12_waitsOf_0 rfl rfl ?_
  refine r_p (pc2 := 2) dX12_waitsOf_1 rfl rfl ?_
  refine r_p (pc2 := 3) dX12_waitsOf_2 rfl rfl ?_
  refine r_ci (x := 3) dX12_waitsOf_3 rfl ?_
  obtain ⟨q1, kk⟩ := kk
  refine r_cv (d1 := 1) dX12_waitsOf_4 cvX12_228 rfl rfl rfl rfl (Nat.le_of_ble_eq_true rfl) (Nat.le_of_ble_eq_true rfl) (Nat.le_of_ble_eq_true rfl) (c_m_dishOf p0 3 q1) ?_
  refine r_ci (x := 1) dX12_waitsOf_7 rfl ?_
  refine r_p (pc2 := 9) dX12_waitsOf_8 rfl rfl ?_
  refine r_cge dX12_waitsOf_9 rfl (fun c9_1 => ?_) (fun c9_1 => ?_)
  · refine r_ip (R := (rIp T)) c9_1 ?_
    refine r_ci (x := 1) dX12_waitsOf_30 rfl ?_
    exact r_qIp dX12_waitsOf_31 rfl rfl rfl
  · refine r_in (R := (rIp T)) c9_1 ?_
    have kk := kk c9_1
    refine r_ci (x := 1) dX12_waitsOf_12 rfl ?_
    refine r_p (pc2 := 14) dX12_waitsOf_13 rfl rfl ?_
    refine r_p (pc2 := 15) dX12_waitsOf_14 rfl rfl ?_
    refine r_p (pc2 := 16) dX12_waitsOf_15 rfl rfl ?_
    refine r_ci (x := 4) dX12_waitsOf_16 rfl ?_
    obtain ⟨q2, kk⟩ := kk
    refine r_cv (d1 := 1) dX12_waitsOf_17 cvX12_228 rfl rfl rfl rfl (Nat.le_of_ble_eq_true rfl) (Nat.le_of_ble_eq_true rfl) (Nat.le_of_ble_eq_true rfl) (c_m_dishOf p0 4 q2) ?_
    refine r_p (pc2 := 21) dX12_waitsOf_20 rfl rfl ?_
    refine r_p (pc2 := 22) dX12_waitsOf_21 rfl rfl ?_
    refine r_ci (x := 2) dX12_waitsOf_22 rfl ?_
    obtain ⟨q3, kk⟩ := kk
    refine r_cv (d1 := 1) dX12_waitsOf_23 cvX12_232 rfl rfl rfl rfl (Nat.le_of_ble_eq_true rfl) (Nat.le_of_ble_eq_true rfl) (Nat.le_of_ble_eq_true rfl) (c_m_stepOf ((x_m_dishOf T p0 4) + p1) 2 q3) ?_
    refine r_p (pc2 := 27) dX12_waitsOf_26 rfl rfl ?_
    refine r_go dX12_waitsOf_27 rfl ?_
    exact r_qIp dX12_waitsOf_31 rfl rfl rfl
def x_m_choicesOf (T : St) (p0 : Int32) : Int32 := ((1 + (x_m_dishOf T p0 0)) * (x_m_waitsOf T p0 0)) * (x_m_waitsOf T p0 1)
def ok_m_choicesOf (T : St) (p0 : Int32) : Prop := (ok_m_dishOf T p0 0) ∧ (ok_m_waitsOf T p0 0) ∧ (ok_m_waitsOf T p0 1) ∧ True
theorem c_m_choicesOf {X : Nat × (Nat → Int32)} {T : St} (p0 : Int32) (kk : ok_m_choicesOf T p0) : tC X 3 mX12_choicesOf [.ref (571 : Nat), .int p0] T (some (.int (x_m_choicesOf T p0))) T := by
  unfold ok_m_choicesOf at kk
  refine tC_orIp (L := [some (.ref (571 : Nat)), some (.int p0)]) (x_m_choicesOf T p0) rfl ?_
  unfold x_m_choicesOf
  refine r_ci (x := 1) dX12_choicesOf_0 rfl ?_
  refine r_p (pc2 := 2) dX12_choicesOf_1 rfl rfl ?_
  refine r_p (pc2 := 3) dX12_choicesOf_2 rfl rfl ?_
  refine r_ci (x := 0) dX12_choicesOf_3 rfl ?_
  obtain ⟨q1, kk⟩ := kk
  refine r_cv (d1 := 1) dX12_choicesOf_4 cvX12_228 rfl rfl rfl rfl (Nat.le_of_ble_eq_true rfl) (Nat.le_of_ble_eq_true rfl) (Nat.le_of_ble_eq_true rfl) (c_m_dishOf p0 0 q1) ?_
  refine r_p (pc2 := 8) dX12_choicesOf_7 rfl rfl ?_
  refine r_p (pc2 := 9) dX12_choicesOf_8 rfl rfl ?_
  refine r_p (pc2 := 10) dX12_choicesOf_9 rfl rfl ?_
  refine r_ci (x := 0) dX12_choicesOf_10 rfl ?_
  obtain ⟨q2, kk⟩ := kk
  refine r_cv (d1 := 2) dX12_choicesOf_11 cvX12_235 rfl rfl rfl rfl (Nat.le_of_ble_eq_true rfl) (Nat.le_of_ble_eq_true rfl) (Nat.le_of_ble_eq_true rfl) (c_m_waitsOf p0 0 q2) ?_
  refine r_p (pc2 := 15) dX12_choicesOf_14 rfl rfl ?_
  refine r_p (pc2 := 16) dX12_choicesOf_15 rfl rfl ?_
  refine r_p (pc2 := 17) dX12_choicesOf_16 rfl rfl ?_
  refine r_ci (x := 1) dX12_choicesOf_17 rfl ?_
  obtain ⟨q3, kk⟩ := kk
  refine r_cv (d1 := 2) dX12_choicesOf_18 cvX12_235 rfl rfl rfl rfl (Nat.le_of_ble_eq_true rfl) (Nat.le_of_ble_eq_true rfl) (Nat.le_of_ble_eq_true rfl) (c_m_waitsOf p0 1 q3) ?_
  refine r_p (pc2 := 22) dX12_choicesOf_21 rfl rfl ?_
  exact r_qIp dX12_choicesOf_22 rfl rfl rfl
def x_m_dish (T : St) (p0 : Int32) (p1 : Int32) : Int32 × St := if (x_m_isDish (sF T 571 0 0) p0) = 0 then ((-1000001), sF T 571 0 0) else (if (x_m_in (sF T 571 0 0) ((p1 : Int32).toInt64) 0 5) = 0 then ((-1000001), sF T 571 0 0) else (if p1 = 5 then (x_m_choicesOf (sF T 571 0 0) p0, sF T 571 0 0) else (x_m_dishOf (sF T 571 0 0) p0 p1, sF T 571 0 0)))
def ok_m_dish (T : St) (p0 : Int32) (p1 : Int32) : Prop := (¬ (x_m_isDish (sF T 571 0 0) p0) = 0 → (¬ (x_m_in (sF T 571 0 0) ((p1 : Int32).toInt64) 0 5) = 0 → ((p1 = 5 → (ok_m_choicesOf (sF T 571 0 0) p0) ∧ True) ∧ (¬ p1 = 5 → (ok_m_dishOf (sF T 571 0 0) p0 p1) ∧ True))))
theorem c_m_dish {X : Nat × (Nat → Int32)} {T : St} (p0 : Int32) (p1 : Int32) (kk : ok_m_dish T p0 p1) : tC X 4 mX12_dish [.ref (571 : Nat), .int p0, .int p1] T (some (.int (x_m_dish T p0 p1).1)) ((x_m_dish T p0 p1).2) := by
  unfold ok_m_dish at kk
  refine tC_orI (L := [some (.ref (571 : Nat)), some (.int p0), some (.int p1)]) (x_m_dish T p0 p1) rfl ?_
  unfold x_m_dish
  refine r_p (pc2 := 1) dX12_dish_0 rfl rfl ?_
  refine r_ci (x := 0) dX12_dish_1 rfl ?_
  refine r_put dX12_dish_2 fkX12_101 rfl rfl rfl (Nat.le_of_ble_eq_true rfl) rfl rfl ?_
  refine r_p (pc2 := 6) dX12_dish_5 rfl rfl ?_
  refine r_p (pc2 := 7) dX12_dish_6 rfl rfl ?_
  refine r_cv (d1 := 2) dX12_dish_7 cvX12_238 rfl rfl rfl rfl (Nat.le_of_ble_eq_true rfl) (Nat.le_of_ble_eq_true rfl) (Nat.le_of_ble_eq_true rfl) (c_m_isDish p0) ?_
  refine r_ieq dX12_dish_10 rfl (fun c10_1 => ?_) (fun c10_1 => ?_)
  · refine r_ip (R := rI) c10_1 ?_
    refine r_k dX12_dish_25 kkX12_121 ?_
    refine r_go dX12_dish_27 rfl ?_
    exact r_qI dX12_dish_49 rfl rfl rfl rfl
  · refine r_in (R := rI) c10_1 ?_
    have kk := kk c10_1
    refine r_p (pc2 := 14) dX12_dish_13 rfl rfl ?_
    refine r_p (pc2 := 15) dX12_dish_14 rfl rfl ?_
    refine r_cl (x := 0) dX12_dish_15 rfl ?_
    refine r_kl dX12_dish_16 klX12_241 ?_
    refine r_cs (d1 := 1) dX12_dish_19 csX12_111 rfl rfl (Nat.le_of_ble_eq_true rfl) (Nat.le_of_ble_eq_true rfl) (Nat.le_of_ble_eq_true rfl) (c_m_in ((p1 : Int32).toInt64) 0 5) ?_
    refine r_ine dX12_dish_22 rfl (fun c22_2 => ?_) (fun c22_2 => ?_)
    · refine r_in (R := rI) c22_2 ?_
      have kk := kk c22_2
      refine r_p (pc2 := 31) dX12_dish_30 rfl rfl ?_
      refine r_ci (x := 5) dX12_dish_31 rfl ?_
      refine r_cne dX12_dish_32 rfl (fun c32_3 => ?_) (fun c32_3 => ?_)
      · refine r_in (R := rI) c32_3 ?_
        have kk := kk.2 c32_3
        refine r_p (pc2 := 44) dX12_dish_43 rfl rfl ?_
        refine r_p (pc2 := 45) dX12_dish_44 rfl rfl ?_
        refine r_p (pc2 := 46) dX12_dish_45 rfl rfl ?_
        obtain ⟨q1, kk⟩ := kk
        refine r_cv (d1 := 1) dX12_dish_46 cvX12_228 rfl rfl rfl rfl (Nat.le_of_ble_eq_true rfl) (Nat.le_of_ble_eq_true rfl) (Nat.le_of_ble_eq_true rfl) (c_m_dishOf p0 p1 q1) ?_
        exact r_qI dX12_dish_49 rfl rfl rfl rfl
      · refine r_ip (R := rI) c32_3 ?_
        have kk := kk.1 c32_3
        refine r_p (pc2 := 36) dX12_dish_35 rfl rfl ?_
        refine r_p (pc2 := 37) dX12_dish_36 rfl rfl ?_
        obtain ⟨q2, kk⟩ := kk
        refine r_cv (d1 := 3) dX12_dish_37 cvX12_243 rfl rfl rfl rfl (Nat.le_of_ble_eq_true rfl) (Nat.le_of_ble_eq_true rfl) (Nat.le_of_ble_eq_true rfl) (c_m_choicesOf p0 q2) ?_
        refine r_go dX12_dish_40 rfl ?_
        exact r_qI dX12_dish_49 rfl rfl rfl rfl
    · refine r_ip (R := rI) c22_2 ?_
      refine r_k dX12_dish_25 kkX12_121 ?_
      refine r_go dX12_dish_27 rfl ?_
      exact r_qI dX12_dish_49 rfl rfl rfl rfl
def x_m_step (T : St) (p0 : Int32) (p1 : Int32) : Int32 × St := if (x_m_isStep (sF T 571 0 0) p0) = 0 then ((-1000001), sF T 571 0 0) else (if (x_m_in (sF T 571 0 0) ((p1 : Int32).toInt64) 0 4) = 0 then ((-1000001), sF T 571 0 0) else (x_m_stepOf (sF T 571 0 0) p0 (p1 + 1), sF T 571 0 0))
def ok_m_step (T : St) (p0 : Int32) (p1 : Int32) : Prop := (¬ (x_m_isStep (sF T 571 0 0) p0) = 0 → (¬ (x_m_in (sF T 571 0 0) ((p1 : Int32).toInt64) 0 4) = 0 → (ok_m_stepOf (sF T 571 0 0) p0 (p1 + 1)) ∧ True))
theorem c_m_step {X : Nat × (Nat → Int32)} {T : St} (p0 : Int32) (p1 : Int32) (kk : ok_m_step T p0 p1) : tC X 3 mX12_step [.ref (571 : Nat), .int p0, .int p1] T (some (.int (x_m_step T p0 p1).1)) ((x_m_step T p0 p1).2) := by
  unfold ok_m_step at kk
  refine tC_orI (L := [some (.ref (571 : Nat)), some (.int p0), some (.int p1)]) (x_m_step T p0 p1) rfl ?_
  unfold x_m_step
  refine r_p (pc2 := 1) dX12_step_0 rfl rfl ?_
  refine r_ci (x := 0) dX12_step_1 rfl ?_
  refine r_put dX12_step_2 fkX12_101 rfl rfl rfl (Nat.le_of_ble_eq_true rfl) rfl rfl ?_
  refine r_p (pc2 := 6) dX12_step_5 rfl rfl ?_
  refine r_p (pc2 := 7) dX12_step_6 rfl rfl ?_
  refine r_cv (d1 := 2) dX12_step_7 cvX12_246 rfl rfl rfl rfl (Nat.le_of_ble_eq_true rfl) (Nat.le_of_ble_eq_true rfl) (Nat.le_of_ble_eq_true rfl) (c_m_isStep p0) ?_
  refine r_ieq dX12_step_10 rfl (fun c10_1 => ?_) (fun c10_1 => ?_)
  · refine r_ip (R := rI) c10_1 ?_
    refine r_k dX12_step_36 kkX12_121 ?_
    exact r_qI dX12_step_38 rfl rfl rfl rfl
  · refine r_in (R := rI) c10_1 ?_
    have kk := kk c10_1
    refine r_p (pc2 := 14) dX12_step_13 rfl rfl ?_
    refine r_p (pc2 := 15) dX12_step_14 rfl rfl ?_
    refine r_cl (x := 0) dX12_step_15 rfl ?_
    refine r_kl dX12_step_16 klX12_249 ?_
    refine r_cs (d1 := 1) dX12_step_19 csX12_111 rfl rfl (Nat.le_of_ble_eq_true rfl) (Nat.le_of_ble_eq_true rfl) (Nat.le_of_ble_eq_true rfl) (c_m_in ((p1 : Int32).toInt64) 0 4) ?_
    refine r_ieq dX12_step_22 rfl (fun c22_2 => ?_) (fun c22_2 => ?_)
    · refine r_ip (R := rI) c22_2 ?_
      refine r_k dX12_step_36 kkX12_121 ?_
      exact r_qI dX12_step_38 rfl rfl rfl rfl
    · refine r_in (R := rI) c22_2 ?_
      have kk := kk c22_2
      refine r_p (pc2 := 26) dX12_step_25 rfl rfl ?_
      refine r_p (pc2 := 27) dX12_step_26 rfl rfl ?_
      refine r_p (pc2 := 28) dX12_step_27 rfl rfl ?_
      refine r_ci (x := 1) dX12_step_28 rfl ?_
      refine r_p (pc2 := 30) dX12_step_29 rfl rfl ?_
      obtain ⟨q1, kk⟩ := kk
      refine r_cv (d1 := 1) dX12_step_30 cvX12_232 rfl rfl rfl rfl (Nat.le_of_ble_eq_true rfl) (Nat.le_of_ble_eq_true rfl) (Nat.le_of_ble_eq_true rfl) (c_m_stepOf p0 (p1 + 1) q1) ?_
      refine r_go dX12_step_33 rfl ?_
      exact r_qI dX12_step_38 rfl rfl rfl rfl
def x_m_bigOnes (T : St) (p0 : Int32) (p1 : Int32) : Int32 := if p0 < p1 then (T.2.2.1 575 (1 : Int32).toNatClampNeg) - 0 else (T.2.2.1 575 (1 : Int32).toNatClampNeg) - 1
theorem c_m_bigOnes {X : Nat × (Nat → Int32)} {T : St} (p0 : Int32) (p1 : Int32) : tC X 1 mX12_bigOnes [.ref (571 : Nat), .int p0, .int p1] T (some (.int (x_m_bigOnes T p0 p1))) T := by
  refine tC_orIp (L := [some (.ref (571 : Nat)), some (.int p0), some (.int p1)]) (x_m_bigOnes T p0 p1) rfl ?_
  unfold x_m_bigOnes
  refine r_p (pc2 := 1) dX12_bigOnes_0 rfl rfl ?_
  refine r_get dX12_bigOnes_1 fkX12_19 rfl rfl ?_
  refine r_ci (x := 1) dX12_bigOnes_4 rfl ?_
  refine r_ia dX12_bigOnes_5 rfl (in_c (by decide)) ?_
  refine r_p (pc2 := 7) dX12_bigOnes_6 rfl rfl ?_
  refine r_p (pc2 := 8) dX12_bigOnes_7 rfl rfl ?_
  refine r_clt dX12_bigOnes_8 rfl (fun c8_1 => ?_) (fun c8_1 => ?_)
  · refine r_ip (R := (rIp T)) c8_1 ?_
    refine r_ci (x := 0) dX12_bigOnes_15 rfl ?_
    refine r_p (pc2 := 17) dX12_bigOnes_16 rfl rfl ?_
    exact r_qIp dX12_bigOnes_17 rfl rfl rfl
  · refine r_in (R := (rIp T)) c8_1 ?_
    refine r_ci (x := 1) dX12_bigOnes_11 rfl ?_
    refine r_go dX12_bigOnes_12 rfl ?_
    refine r_p (pc2 := 17) dX12_bigOnes_16 rfl rfl ?_
    exact r_qIp dX12_bigOnes_17 rfl rfl rfl
def x_m_handsAt_5 (T : St) (l1 : Int32) (l2 : Int32) (K : Int32 → Int32 → Int32) : Nat → Int32 → Int32 → Int32
  | 0, _, _ => 0
  | f + 1, v3, v4 => if (T.2.2.1 575 (7 : Int32).toNatClampNeg) ≤ v4 then (K v3 v4) else (if (x_m_in T ((l1 : Int32).toInt64) ((T.2.2.1 575 (8 + (2 * v4) : Int32).toNatClampNeg : Int32).toInt64) ((T.2.2.1 575 ((8 + (2 * v4)) + 1 : Int32).toNatClampNeg : Int32).toInt64)) = 0 then (x_m_handsAt_5 T l1 l2 K f (v3 - 0) (v4 + 1)) else (x_m_handsAt_5 T l1 l2 K f (v3 - 1) (v4 + 1)))
def ok_m_handsAt_5 (T : St) (l1 : Int32) (l2 : Int32) (Kk : Int32 → Int32 → Prop) : Nat → Int32 → Int32 → Prop
  | 0, _, _ => False
  | f + 1, v3, v4 => (((T.2.2.1 575 (7 : Int32).toNatClampNeg) ≤ v4 → Kk v3 v4) ∧ (¬ (T.2.2.1 575 (7 : Int32).toNatClampNeg) ≤ v4 → (vp_in (8 + (2 * v4)) 204) ∧ (vp_in ((8 + (2 * v4)) + 1) 204) ∧ (((x_m_in T ((l1 : Int32).toInt64) ((T.2.2.1 575 (8 + (2 * v4) : Int32).toNatClampNeg : Int32).toInt64) ((T.2.2.1 575 ((8 + (2 * v4)) + 1 : Int32).toNatClampNeg : Int32).toInt64)) = 0 → ok_m_handsAt_5 T l1 l2 Kk f (v3 - 0) (v4 + 1)) ∧ (¬ (x_m_in T ((l1 : Int32).toInt64) ((T.2.2.1 575 (8 + (2 * v4) : Int32).toNatClampNeg : Int32).toInt64) ((T.2.2.1 575 ((8 + (2 * v4)) + 1 : Int32).toNatClampNeg : Int32).toInt64)) = 0 → ok_m_handsAt_5 T l1 l2 Kk f (v3 - 1) (v4 + 1)))))
theorem c_m_handsAt_5 {X : Nat × (Nat → Int32)} (T : St) (l1 : Int32) (l2 : Int32) {K : Int32 → Int32 → Int32} {Kk : Int32 → Int32 → Prop} (hk : ∀ (v3 : Int32) (v4 : Int32), Kk v3 v4 → tR X 1 mX12_handsAt 67 [some (.ref (571 : Nat)), some (.int l1), some (.int l2), some (.int v3), some (.int v4)] [] T ((rIp T) (K v3 v4)).1 (((rIp T) (K v3 v4)).2)) : ∀ (f : Nat) (v3 : Int32) (v4 : Int32), ok_m_handsAt_5 T l1 l2 Kk f v3 v4 → tR X 1 mX12_handsAt 5 [some (.ref (571 : Nat)), some (.int l1), some (.int l2), some (.int v3), some (.int v4)] [] T ((rIp T) (x_m_handsAt_5 T l1 l2 K f v3 v4)).1 (((rIp T) (x_m_handsAt_5 T l1 l2 K f v3 v4)).2) := by
  intro f
  induction f with
  | zero => intro v3 v4 kk; exact kk.elim
  | succ f ih =>
    intro v3 v4 kk
    rw [ok_m_handsAt_5] at kk
    rw [x_m_handsAt_5]
    refine r_p (pc2 := 7) dX12_handsAt_5 rfl rfl ?_
    refine r_p (pc2 := 8) dX12_handsAt_7 rfl rfl ?_
    refine r_get dX12_handsAt_8 fkX12_19 rfl rfl ?_
    refine r_cb (x := 7) dX12_handsAt_11 rfl ?_
    refine r_ia dX12_handsAt_13 rfl (in_c (by decide)) ?_
    refine r_cge dX12_handsAt_14 rfl (fun c14_1 => ?_) (fun c14_1 => ?_)
    · refine r_ip (R := (rIp T)) c14_1 ?_
      have kk := kk.1 c14_1
      show tR _ _ _ _ [some (.ref (571 : Nat)), some (.int l1), some (.int l2), some (.int v3), some (.int v4)] _ _ _ _
      exact (hk v3 v4  kk)
    · refine r_in (R := (rIp T)) c14_1 ?_
      have kk := kk.2 c14_1
      refine r_p (pc2 := 18) dX12_handsAt_17 rfl rfl ?_
      refine r_p (pc2 := 19) dX12_handsAt_18 rfl rfl ?_
      refine r_p (pc2 := 20) dX12_handsAt_19 rfl rfl ?_
      refine r_p (pc2 := 21) dX12_handsAt_20 rfl rfl ?_
      refine r_get dX12_handsAt_21 fkX12_19 rfl rfl ?_
      refine r_cb (x := 8) dX12_handsAt_24 rfl ?_
      refine r_ci (x := 2) dX12_handsAt_26 rfl ?_
      refine r_p (pc2 := 29) dX12_handsAt_27 rfl rfl ?_
      refine r_p (pc2 := 30) dX12_handsAt_29 rfl rfl ?_
      refine r_p (pc2 := 31) dX12_handsAt_30 rfl rfl ?_
      obtain ⟨q1, kk⟩ := kk
      refine r_ia dX12_handsAt_31 rfl q1 ?_
      refine r_p (pc2 := 33) dX12_handsAt_32 rfl rfl ?_
      refine r_p (pc2 := 34) dX12_handsAt_33 rfl rfl ?_
      refine r_get dX12_handsAt_34 fkX12_19 rfl rfl ?_
      refine r_cb (x := 8) dX12_handsAt_37 rfl ?_
      refine r_ci (x := 2) dX12_handsAt_39 rfl ?_
      refine r_p (pc2 := 42) dX12_handsAt_40 rfl rfl ?_
      refine r_p (pc2 := 43) dX12_handsAt_42 rfl rfl ?_
      refine r_p (pc2 := 44) dX12_handsAt_43 rfl rfl ?_
      refine r_ci (x := 1) dX12_handsAt_44 rfl ?_
      refine r_p (pc2 := 46) dX12_handsAt_45 rfl rfl ?_
      obtain ⟨q2, kk⟩ := kk
      refine r_ia dX12_handsAt_46 rfl q2 ?_
      refine r_p (pc2 := 48) dX12_handsAt_47 rfl rfl ?_
      refine r_cs (d1 := 1) dX12_handsAt_48 csX12_111 rfl rfl (Nat.le_of_ble_eq_true rfl) (Nat.le_of_ble_eq_true rfl) (Nat.le_of_ble_eq_true rfl) (c_m_in ((l1 : Int32).toInt64) ((T.2.2.1 575 (8 + (2 * v4) : Int32).toNatClampNeg : Int32).toInt64) ((T.2.2.1 575 ((8 + (2 * v4)) + 1 : Int32).toNatClampNeg : Int32).toInt64)) ?_
      refine r_ieq dX12_handsAt_51 rfl (fun c51_2 => ?_) (fun c51_2 => ?_)
      · refine r_ip (R := (rIp T)) c51_2 ?_
        have kk := kk.1 c51_2
        refine r_ci (x := 0) dX12_handsAt_58 rfl ?_
        refine r_p (pc2 := 60) dX12_handsAt_59 rfl rfl ?_
        refine r_p (pc2 := 61) (L2 := [some (.ref (571 : Nat)), some (.int l1), some (.int l2), some (.int (v3 - 0)), some (.int v4)]) dX12_handsAt_60 rfl rfl ?_
        refine r_inc (L2 := [some (.ref (571 : Nat)), some (.int l1), some (.int l2), some (.int (v3 - 0)), some (.int (v4 + 1))]) (y := 1) dX12_handsAt_61 rfl rfl rfl ?_
        refine r_go dX12_handsAt_64 rfl ?_
        show tR _ _ _ _ [some (.ref (571 : Nat)), some (.int l1), some (.int l2), some (.int (v3 - 0)), some (.int (v4 + 1))] _ _ _ _
        exact (ih (v3 - 0) (v4 + 1)  kk)
      · refine r_in (R := (rIp T)) c51_2 ?_
        have kk := kk.2 c51_2
        refine r_ci (x := 1) dX12_handsAt_54 rfl ?_
        refine r_go dX12_handsAt_55 rfl ?_
        refine r_p (pc2 := 60) dX12_handsAt_59 rfl rfl ?_
        refine r_p (pc2 := 61) (L2 := [some (.ref (571 : Nat)), some (.int l1), some (.int l2), some (.int (v3 - 1)), some (.int v4)]) dX12_handsAt_60 rfl rfl ?_
        refine r_inc (L2 := [some (.ref (571 : Nat)), some (.int l1), some (.int l2), some (.int (v3 - 1)), some (.int (v4 + 1))]) (y := 1) dX12_handsAt_61 rfl rfl rfl ?_
        refine r_go dX12_handsAt_64 rfl ?_
        show tR _ _ _ _ [some (.ref (571 : Nat)), some (.int l1), some (.int l2), some (.int (v3 - 1)), some (.int (v4 + 1))] _ _ _ _
        exact (ih (v3 - 1) (v4 + 1)  kk)
def x_m_handsAt (T : St) (p0 : Int32) (p1 : Int32) : Int32 := x_m_handsAt_5 T p0 p1 (fun (w1_3 : Int32) (w1_4 : Int32) => if 0 ≤ w1_3 then (w1_3) else (0)) 1000 p1 0
def ok_m_handsAt (T : St) (p0 : Int32) (p1 : Int32) : Prop := ok_m_handsAt_5 T p0 p1 (fun (w1_3 : Int32) (w1_4 : Int32) => True) 1000 p1 0
theorem c_m_handsAt {X : Nat × (Nat → Int32)} {T : St} (p0 : Int32) (p1 : Int32) (kk : ok_m_handsAt T p0 p1) : tC X 2 mX12_handsAt [.ref (571 : Nat), .int p0, .int p1] T (some (.int (x_m_handsAt T p0 p1))) T := by
  unfold ok_m_handsAt at kk
  refine tC_orIp (L := [some (.ref (571 : Nat)), some (.int p0), some (.int p1), none, none]) (x_m_handsAt T p0 p1) rfl ?_
  unfold x_m_handsAt
  refine r_p (pc2 := 1) dX12_handsAt_0 rfl rfl ?_
  refine r_p (pc2 := 2) (L2 := [some (.ref (571 : Nat)), some (.int p0), some (.int p1), some (.int p1), none]) dX12_handsAt_1 rfl rfl ?_
  refine r_ci (x := 0) dX12_handsAt_2 rfl ?_
  refine r_p (pc2 := 5) (L2 := [some (.ref (571 : Nat)), some (.int p0), some (.int p1), some (.int p1), some (.int 0)]) dX12_handsAt_3 rfl rfl ?_
  show tR _ _ _ _ [some (.ref (571 : Nat)), some (.int p0), some (.int p1), some (.int p1), some (.int 0)] _ _ _ _
  refine (c_m_handsAt_5 T p0 p1 (fun w1_3 w1_4 kk => ?_) 1000 p1 0  kk)
  · skip
    refine r_p (pc2 := 68) dX12_handsAt_67 rfl rfl ?_
    refine r_ige dX12_handsAt_68 rfl (fun c68_3 => ?_) (fun c68_3 => ?_)
    · refine r_ip (R := (rIp T)) c68_3 ?_
      refine r_p (pc2 := 76) dX12_handsAt_75 rfl rfl ?_
      exact r_qIp dX12_handsAt_76 rfl rfl rfl
    · refine r_in (R := (rIp T)) c68_3 ?_
      refine r_ci (x := 0) dX12_handsAt_71 rfl ?_
      refine r_go dX12_handsAt_72 rfl ?_
      exact r_qIp dX12_handsAt_76 rfl rfl rfl
def x_m_isMinute (T : St) (p0 : Int32) : Int32 := x_m_in T ((p0 : Int32).toInt64) 0 59
theorem c_m_isMinute {X : Nat × (Nat → Int32)} {T : St} (p0 : Int32) : tC X 2 mX12_isMinute [.int p0] T (some (.int (x_m_isMinute T p0))) T := by
  refine tC_orIp (L := [some (.int p0)]) (x_m_isMinute T p0) rfl ?_
  unfold x_m_isMinute
  refine r_p (pc2 := 1) dX12_isMinute_0 rfl rfl ?_
  refine r_p (pc2 := 2) dX12_isMinute_1 rfl rfl ?_
  refine r_cl (x := 0) dX12_isMinute_2 rfl ?_
  refine r_kl dX12_isMinute_3 klX12_251 ?_
  refine r_cs (d1 := 1) dX12_isMinute_6 csX12_111 rfl rfl (Nat.le_of_ble_eq_true rfl) (Nat.le_of_ble_eq_true rfl) (Nat.le_of_ble_eq_true rfl) (c_m_in ((p0 : Int32).toInt64) 0 59) ?_
  exact r_qIp dX12_isMinute_9 rfl (nar_b (b_m_in T ((p0 : Int32).toInt64) 0 59)) rfl
theorem b_m_isMinute (T : St) (p0 : Int32) : x_m_isMinute T p0 = 0 ∨ x_m_isMinute T p0 = 1 := by
  unfold x_m_isMinute
  try simp only [jn]
  repeat' split
  all_goals (first | exact Or.inl rfl | exact Or.inr rfl | apply b_m_in)
def x_m_gives (T : St) (p0 : Int32) (p1 : Int32) : Int32 × St := if ((sF T 571 0 0).1 571 7) = 0 then ((-1000002), sF T 571 0 0) else (if (x_m_isMinute (sF T 571 0 0) p0) = 0 then ((-1000001), sF T 571 0 0) else (if (x_m_in (sF T 571 0 0) ((p1 : Int32).toInt64) 0 4) = 0 then ((-1000001), sF T 571 0 0) else (if p1 = 0 then (((sF T 571 0 0).2.2.1 575 (0 : Int32).toNatClampNeg) + (x_m_bigOnes (sF T 571 0 0) p0 ((sF T 571 0 0).2.2.1 575 (203 : Int32).toNatClampNeg)), sF T 571 0 0) else (if p1 = 1 then (x_m_bigOnes (sF T 571 0 0) p0 ((sF T 571 0 0).2.2.1 575 (203 : Int32).toNatClampNeg), sF T 571 0 0) else (if p1 = 2 then ((sF T 571 0 0).2.2.1 575 (2 : Int32).toNatClampNeg, sF T 571 0 0) else (if p1 = 3 then (x_m_handsAt (sF T 571 0 0) p0 ((sF T 571 0 0).2.2.1 575 (5 : Int32).toNatClampNeg), sF T 571 0 0) else ((sF T 571 0 0).2.2.1 575 (6 : Int32).toNatClampNeg, sF T 571 0 0)))))))
def ok_m_gives (T : St) (p0 : Int32) (p1 : Int32) : Prop := (¬ ((sF T 571 0 0).1 571 7) = 0 → (¬ (x_m_isMinute (sF T 571 0 0) p0) = 0 → (¬ (x_m_in (sF T 571 0 0) ((p1 : Int32).toInt64) 0 4) = 0 → (¬ p1 = 0 → (¬ p1 = 1 → (¬ p1 = 2 → (p1 = 3 → (ok_m_handsAt (sF T 571 0 0) p0 ((sF T 571 0 0).2.2.1 575 (5 : Int32).toNatClampNeg)) ∧ True)))))))
theorem c_m_gives {X : Nat × (Nat → Int32)} {T : St} (p0 : Int32) (p1 : Int32) (kk : ok_m_gives T p0 p1) : tC X 3 mX12_gives [.ref (571 : Nat), .int p0, .int p1] T (some (.int (x_m_gives T p0 p1).1)) ((x_m_gives T p0 p1).2) := by
  unfold ok_m_gives at kk
  refine tC_orI (L := [some (.ref (571 : Nat)), some (.int p0), some (.int p1)]) (x_m_gives T p0 p1) rfl ?_
  unfold x_m_gives
  refine r_p (pc2 := 1) dX12_gives_0 rfl rfl ?_
  refine r_ci (x := 0) dX12_gives_1 rfl ?_
  refine r_put dX12_gives_2 fkX12_101 rfl rfl rfl (Nat.le_of_ble_eq_true rfl) rfl rfl ?_
  refine r_p (pc2 := 6) dX12_gives_5 rfl rfl ?_
  refine r_get dX12_gives_6 fkX12_221 rfl rfl ?_
  refine r_ine dX12_gives_9 rfl (fun c9_1 => ?_) (fun c9_1 => ?_)
  · refine r_in (R := rI) c9_1 ?_
    have kk := kk c9_1
    refine r_p (pc2 := 16) dX12_gives_15 rfl rfl ?_
    refine r_cs (d1 := 2) dX12_gives_16 csX12_254 rfl rfl (Nat.le_of_ble_eq_true rfl) (Nat.le_of_ble_eq_true rfl) (Nat.le_of_ble_eq_true rfl) (c_m_isMinute p0) ?_
    refine r_ieq dX12_gives_19 rfl (fun c19_2 => ?_) (fun c19_2 => ?_)
    · refine r_ip (R := rI) c19_2 ?_
      refine r_k dX12_gives_34 kkX12_121 ?_
      exact r_qI dX12_gives_36 rfl rfl rfl rfl
    · refine r_in (R := rI) c19_2 ?_
      have kk := kk c19_2
      refine r_p (pc2 := 23) dX12_gives_22 rfl rfl ?_
      refine r_p (pc2 := 24) dX12_gives_23 rfl rfl ?_
      refine r_cl (x := 0) dX12_gives_24 rfl ?_
      refine r_kl dX12_gives_25 klX12_249 ?_
      refine r_cs (d1 := 1) dX12_gives_28 csX12_111 rfl rfl (Nat.le_of_ble_eq_true rfl) (Nat.le_of_ble_eq_true rfl) (Nat.le_of_ble_eq_true rfl) (c_m_in ((p1 : Int32).toInt64) 0 4) ?_
      refine r_ine dX12_gives_31 rfl (fun c31_3 => ?_) (fun c31_3 => ?_)
      · refine r_in (R := rI) c31_3 ?_
        have kk := kk c31_3
        refine r_p (pc2 := 38) dX12_gives_37 rfl rfl ?_
        by_cases s38_4_0 : p1 = 0
        · refine r_ip (R := rI) s38_4_0 ?_
          refine r_tin dX12_gives_38 (by rw [s38_4_0]; decide) (by rw [s38_4_0]; decide) (off := 30) (by rw [s38_4_0]; rfl) rfl ?_
          refine r_p (pc2 := 69) dX12_gives_68 rfl rfl ?_
          refine r_get dX12_gives_69 fkX12_19 rfl rfl ?_
          refine r_ci (x := 0) dX12_gives_72 rfl ?_
          refine r_ia dX12_gives_73 rfl (in_c (by decide)) ?_
          refine r_p (pc2 := 75) dX12_gives_74 rfl rfl ?_
          refine r_p (pc2 := 76) dX12_gives_75 rfl rfl ?_
          refine r_p (pc2 := 77) dX12_gives_76 rfl rfl ?_
          refine r_get dX12_gives_77 fkX12_19 rfl rfl ?_
          refine r_csi (x := 203) dX12_gives_80 rfl ?_
          refine r_ia dX12_gives_83 rfl (in_c (by decide)) ?_
          refine r_cv (d1 := 1) dX12_gives_84 cvX12_257 rfl rfl rfl rfl (Nat.le_of_ble_eq_true rfl) (Nat.le_of_ble_eq_true rfl) (Nat.le_of_ble_eq_true rfl) (c_m_bigOnes p0 ((sF T 571 0 0).2.2.1 575 (203 : Int32).toNatClampNeg)) ?_
          refine r_p (pc2 := 88) dX12_gives_87 rfl rfl ?_
          exact r_qI dX12_gives_88 rfl rfl rfl rfl
        · refine r_in (R := rI) s38_4_0 ?_
          have kk := kk s38_4_0
          by_cases s38_4_1 : p1 = 1
          · refine r_ip (R := rI) s38_4_1 ?_
            refine r_tin dX12_gives_38 (by rw [s38_4_1]; decide) (by rw [s38_4_1]; decide) (off := 51) (by rw [s38_4_1]; rfl) rfl ?_
            refine r_p (pc2 := 90) dX12_gives_89 rfl rfl ?_
            refine r_p (pc2 := 91) dX12_gives_90 rfl rfl ?_
            refine r_p (pc2 := 92) dX12_gives_91 rfl rfl ?_
            refine r_get dX12_gives_92 fkX12_19 rfl rfl ?_
            refine r_csi (x := 203) dX12_gives_95 rfl ?_
            refine r_ia dX12_gives_98 rfl (in_c (by decide)) ?_
            refine r_cv (d1 := 1) dX12_gives_99 cvX12_257 rfl rfl rfl rfl (Nat.le_of_ble_eq_true rfl) (Nat.le_of_ble_eq_true rfl) (Nat.le_of_ble_eq_true rfl) (c_m_bigOnes p0 ((sF T 571 0 0).2.2.1 575 (203 : Int32).toNatClampNeg)) ?_
            exact r_qI dX12_gives_102 rfl rfl rfl rfl
          · refine r_in (R := rI) s38_4_1 ?_
            have kk := kk s38_4_1
            by_cases s38_4_2 : p1 = 2
            · refine r_ip (R := rI) s38_4_2 ?_
              refine r_tin dX12_gives_38 (by rw [s38_4_2]; decide) (by rw [s38_4_2]; decide) (off := 65) (by rw [s38_4_2]; rfl) rfl ?_
              refine r_p (pc2 := 104) dX12_gives_103 rfl rfl ?_
              refine r_get dX12_gives_104 fkX12_19 rfl rfl ?_
              refine r_ci (x := 2) dX12_gives_107 rfl ?_
              refine r_ia dX12_gives_108 rfl (in_c (by decide)) ?_
              exact r_qI dX12_gives_109 rfl rfl rfl rfl
            · refine r_in (R := rI) s38_4_2 ?_
              have kk := kk s38_4_2
              by_cases s38_4_3 : p1 = 3
              · refine r_ip (R := rI) s38_4_3 ?_
                have kk := kk s38_4_3
                refine r_tin dX12_gives_38 (by rw [s38_4_3]; decide) (by rw [s38_4_3]; decide) (off := 72) (by rw [s38_4_3]; rfl) rfl ?_
                refine r_p (pc2 := 111) dX12_gives_110 rfl rfl ?_
                refine r_p (pc2 := 112) dX12_gives_111 rfl rfl ?_
                refine r_p (pc2 := 113) dX12_gives_112 rfl rfl ?_
                refine r_get dX12_gives_113 fkX12_19 rfl rfl ?_
                refine r_ci (x := 5) dX12_gives_116 rfl ?_
                refine r_ia dX12_gives_117 rfl (in_c (by decide)) ?_
                obtain ⟨q1, kk⟩ := kk
                refine r_cv (d1 := 2) dX12_gives_118 cvX12_260 rfl rfl rfl rfl (Nat.le_of_ble_eq_true rfl) (Nat.le_of_ble_eq_true rfl) (Nat.le_of_ble_eq_true rfl) (c_m_handsAt p0 ((sF T 571 0 0).2.2.1 575 (5 : Int32).toNatClampNeg) q1) ?_
                exact r_qI dX12_gives_121 rfl rfl rfl rfl
              · refine r_in (R := rI) s38_4_3 ?_
                refine r_tout dX12_gives_38 (by have := i_rg (p1); simp only [i_eq, i_0, i_1, i_2, i_3] at s38_4_0 s38_4_1 s38_4_2 s38_4_3; omega) rfl ?_
                refine r_p (pc2 := 123) dX12_gives_122 rfl rfl ?_
                refine r_get dX12_gives_123 fkX12_19 rfl rfl ?_
                refine r_cb (x := 6) dX12_gives_126 rfl ?_
                refine r_ia dX12_gives_128 rfl (in_c (by decide)) ?_
                exact r_qI dX12_gives_129 rfl rfl rfl rfl
      · refine r_ip (R := rI) c31_3 ?_
        refine r_k dX12_gives_34 kkX12_121 ?_
        exact r_qI dX12_gives_36 rfl rfl rfl rfl
  · refine r_ip (R := rI) c9_1 ?_
    refine r_k dX12_gives_12 kkX12_253 ?_
    exact r_qI dX12_gives_14 rfl rfl rfl rfl
def x_m_bits_4 (T : St) (l0 : Int32) (K : Int32 → Int32 → Int32) : Nat → Int32 → Int32 → Int32
  | 0, _, _ => 0
  | f + 1, v1, v2 => if v2 = 0 then (K v1 v2) else (x_m_bits_4 T l0 K f (v1 + 1) (v2 &&& (v2 - 1)))
def ok_m_bits_4 (T : St) (l0 : Int32) (Kk : Int32 → Int32 → Prop) : Nat → Int32 → Int32 → Prop
  | 0, _, _ => False
  | f + 1, v1, v2 => ((v2 = 0 → Kk v1 v2) ∧ (¬ v2 = 0 → ok_m_bits_4 T l0 Kk f (v1 + 1) (v2 &&& (v2 - 1))))
theorem c_m_bits_4 {X : Nat × (Nat → Int32)} (T : St) (l0 : Int32) {K : Int32 → Int32 → Int32} {Kk : Int32 → Int32 → Prop} (hk : ∀ (v1 : Int32) (v2 : Int32), Kk v1 v2 → tR X 0 mX12_bits 20 [some (.int l0), some (.int v1), some (.int v2)] [] T ((rIp T) (K v1 v2)).1 (((rIp T) (K v1 v2)).2)) : ∀ (f : Nat) (v1 : Int32) (v2 : Int32), ok_m_bits_4 T l0 Kk f v1 v2 → tR X 0 mX12_bits 4 [some (.int l0), some (.int v1), some (.int v2)] [] T ((rIp T) (x_m_bits_4 T l0 K f v1 v2)).1 (((rIp T) (x_m_bits_4 T l0 K f v1 v2)).2) := by
  intro f
  induction f with
  | zero => intro v1 v2 kk; exact kk.elim
  | succ f ih =>
    intro v1 v2 kk
    rw [ok_m_bits_4] at kk
    rw [x_m_bits_4]
    refine r_p (pc2 := 5) dX12_bits_4 rfl rfl ?_
    refine r_ieq dX12_bits_5 rfl (fun c5_1 => ?_) (fun c5_1 => ?_)
    · refine r_ip (R := (rIp T)) c5_1 ?_
      have kk := kk.1 c5_1
      show tR _ _ _ _ [some (.int l0), some (.int v1), some (.int v2)] _ _ _ _
      exact (hk v1 v2  kk)
    · refine r_in (R := (rIp T)) c5_1 ?_
      have kk := kk.2 c5_1
      refine r_inc (L2 := [some (.int l0), some (.int (v1 + 1)), some (.int v2)]) (y := 1) dX12_bits_8 rfl rfl rfl ?_
      refine r_p (pc2 := 12) dX12_bits_11 rfl rfl ?_
      refine r_p (pc2 := 13) dX12_bits_12 rfl rfl ?_
      refine r_ci (x := 1) dX12_bits_13 rfl ?_
      refine r_p (pc2 := 15) dX12_bits_14 rfl rfl ?_
      refine r_p (pc2 := 16) dX12_bits_15 rfl rfl ?_
      refine r_p (pc2 := 17) (L2 := [some (.int l0), some (.int (v1 + 1)), some (.int (v2 &&& (v2 - 1)))]) dX12_bits_16 rfl rfl ?_
      refine r_go dX12_bits_17 rfl ?_
      show tR _ _ _ _ [some (.int l0), some (.int (v1 + 1)), some (.int (v2 &&& (v2 - 1)))] _ _ _ _
      exact (ih (v1 + 1) (v2 &&& (v2 - 1))  kk)
def x_m_bits (T : St) (p0 : Int32) : Int32 := x_m_bits_4 T p0 (fun (w1_1 : Int32) (w1_2 : Int32) => w1_1) 1000 0 p0
def ok_m_bits (T : St) (p0 : Int32) : Prop := ok_m_bits_4 T p0 (fun (w1_1 : Int32) (w1_2 : Int32) => True) 1000 0 p0
theorem c_m_bits {X : Nat × (Nat → Int32)} {T : St} (p0 : Int32) (kk : ok_m_bits T p0) : tC X 1 mX12_bits [.int p0] T (some (.int (x_m_bits T p0))) T := by
  unfold ok_m_bits at kk
  refine tC_orIp (L := [some (.int p0), none, none]) (x_m_bits T p0) rfl ?_
  unfold x_m_bits
  refine r_ci (x := 0) dX12_bits_0 rfl ?_
  refine r_p (pc2 := 2) (L2 := [some (.int p0), some (.int 0), none]) dX12_bits_1 rfl rfl ?_
  refine r_p (pc2 := 3) dX12_bits_2 rfl rfl ?_
  refine r_p (pc2 := 4) (L2 := [some (.int p0), some (.int 0), some (.int p0)]) dX12_bits_3 rfl rfl ?_
  show tR _ _ _ _ [some (.int p0), some (.int 0), some (.int p0)] _ _ _ _
  refine (c_m_bits_4 T p0 (fun w1_1 w1_2 kk => ?_) 1000 0 p0  kk)
  · skip
    refine r_p (pc2 := 21) dX12_bits_20 rfl rfl ?_
    exact r_qIp dX12_bits_21 rfl rfl rfl
def x_m_clearLevel_2  (K : Int32 → St → St) : Nat → Int32 → St → St
  | 0, _, T => T
  | f + 1, v1, T => if 60 ≤ v1 then (K v1 T) else (jn (fun (T1 : St) => jn (fun (T2 : St) => x_m_clearLevel_2 K f (v1 + 1) (sA T2 584 (v1 : Int32).toNatClampNeg 9)) (sA (sA (sA T1 581 (v1 : Int32).toNatClampNeg 0) 582 (v1 : Int32).toNatClampNeg 0) 583 (v1 : Int32).toNatClampNeg 0)) (sA (sA (sA T 578 (v1 : Int32).toNatClampNeg 0) 579 (v1 : Int32).toNatClampNeg 0) 580 (v1 : Int32).toNatClampNeg 0))
def ok_m_clearLevel_2  (Kk : Int32 → St → Prop) : Nat → Int32 → St → Prop
  | 0, _, _ => False
  | f + 1, v1, T => ((60 ≤ v1 → Kk v1 T) ∧ (¬ 60 ≤ v1 → (vp_in v1 300) ∧ jn (fun (T1 : St) => jn (fun (T2 : St) => ok_m_clearLevel_2 Kk f (v1 + 1) (sA T2 584 (v1 : Int32).toNatClampNeg 9)) (sA (sA (sA T1 581 (v1 : Int32).toNatClampNeg 0) 582 (v1 : Int32).toNatClampNeg 0) 583 (v1 : Int32).toNatClampNeg 0)) (sA (sA (sA T 578 (v1 : Int32).toNatClampNeg 0) 579 (v1 : Int32).toNatClampNeg 0) 580 (v1 : Int32).toNatClampNeg 0)))
theorem c_m_clearLevel_2 {X : Nat × (Nat → Int32)}  {K : Int32 → St → St} {Kk : Int32 → St → Prop} (hk : ∀ (v1 : Int32) (T : St), Kk v1 T → tR X 0 mX12_clearLevel 64 [some (.ref (571 : Nat)), some (.int v1)] [] T (rV (K v1 T)).1 ((rV (K v1 T)).2)) : ∀ (f : Nat) (v1 : Int32) (T : St), ok_m_clearLevel_2  Kk f v1 T → tR X 0 mX12_clearLevel 2 [some (.ref (571 : Nat)), some (.int v1)] [] T (rV (x_m_clearLevel_2 K f v1 T)).1 ((rV (x_m_clearLevel_2 K f v1 T)).2) := by
  intro f
  induction f with
  | zero => intro v1 T kk; exact kk.elim
  | succ f ih =>
    intro v1 T kk
    rw [ok_m_clearLevel_2] at kk
    rw [x_m_clearLevel_2]
    refine r_p (pc2 := 3) dX12_clearLevel_2 rfl rfl ?_
    refine r_cb (x := 60) dX12_clearLevel_3 rfl ?_
    refine r_cge dX12_clearLevel_5 rfl (fun c5_1 => ?_) (fun c5_1 => ?_)
    · refine r_ip (R := rV) c5_1 ?_
      have kk := kk.1 c5_1
      show tR _ _ _ _ [some (.ref (571 : Nat)), some (.int v1)] _ _ _ _
      exact (hk v1 T kk)
    · refine r_in (R := rV) c5_1 ?_
      have kk := kk.2 c5_1
      refine r_p (pc2 := 9) dX12_clearLevel_8 rfl rfl ?_
      refine r_get dX12_clearLevel_9 fkX12_28 rfl rfl ?_
      refine r_p (pc2 := 13) dX12_clearLevel_12 rfl rfl ?_
      refine r_ci (x := 0) dX12_clearLevel_13 rfl ?_
      obtain ⟨q1, kk⟩ := kk
      refine r_ias dX12_clearLevel_14 rfl q1 ?_
      refine r_p (pc2 := 16) dX12_clearLevel_15 rfl rfl ?_
      refine r_get dX12_clearLevel_16 fkX12_31 rfl rfl ?_
      refine r_p (pc2 := 20) dX12_clearLevel_19 rfl rfl ?_
      refine r_ci (x := 0) dX12_clearLevel_20 rfl ?_
      refine r_ias dX12_clearLevel_21 rfl q1 ?_
      refine r_p (pc2 := 23) dX12_clearLevel_22 rfl rfl ?_
      refine r_get dX12_clearLevel_23 fkX12_34 rfl rfl ?_
      refine r_p (pc2 := 27) dX12_clearLevel_26 rfl rfl ?_
      refine r_ci (x := 0) dX12_clearLevel_27 rfl ?_
      refine r_ias dX12_clearLevel_28 rfl q1 ?_
      refine r_nT (R := rV) rfl kk (fun T1 kk => ?_)
      refine r_p (pc2 := 30) dX12_clearLevel_29 rfl rfl ?_
      refine r_get dX12_clearLevel_30 fkX12_37 rfl rfl ?_
      refine r_p (pc2 := 34) dX12_clearLevel_33 rfl rfl ?_
      refine r_ci (x := 0) dX12_clearLevel_34 rfl ?_
      refine r_ias dX12_clearLevel_35 rfl q1 ?_
      refine r_p (pc2 := 37) dX12_clearLevel_36 rfl rfl ?_
      refine r_get dX12_clearLevel_37 fkX12_40 rfl rfl ?_
      refine r_p (pc2 := 41) dX12_clearLevel_40 rfl rfl ?_
      refine r_ci (x := 0) dX12_clearLevel_41 rfl ?_
      refine r_ias dX12_clearLevel_42 rfl q1 ?_
      refine r_p (pc2 := 44) dX12_clearLevel_43 rfl rfl ?_
      refine r_get dX12_clearLevel_44 fkX12_43 rfl rfl ?_
      refine r_p (pc2 := 48) dX12_clearLevel_47 rfl rfl ?_
      refine r_ci (x := 0) dX12_clearLevel_48 rfl ?_
      refine r_ias dX12_clearLevel_49 rfl q1 ?_
      refine r_nT (R := rV) rfl kk (fun T2 kk => ?_)
      refine r_p (pc2 := 51) dX12_clearLevel_50 rfl rfl ?_
      refine r_get dX12_clearLevel_51 fkX12_46 rfl rfl ?_
      refine r_p (pc2 := 55) dX12_clearLevel_54 rfl rfl ?_
      refine r_cb (x := 9) dX12_clearLevel_55 rfl ?_
      refine r_ias dX12_clearLevel_57 rfl q1 ?_
      refine r_inc (L2 := [some (.ref (571 : Nat)), some (.int (v1 + 1))]) (y := 1) dX12_clearLevel_58 rfl rfl rfl ?_
      refine r_go dX12_clearLevel_61 rfl ?_
      show tR _ _ _ _ [some (.ref (571 : Nat)), some (.int (v1 + 1))] _ _ _ _
      exact (ih (v1 + 1) (sA T2 584 (v1 : Int32).toNatClampNeg 9) kk)
def x_m_clearLevel (T : St)  : St := x_m_clearLevel_2  (fun (w1_1 : Int32) (T201 : St) => T201) 1000 0 T
def ok_m_clearLevel (T : St)  : Prop := ok_m_clearLevel_2  (fun (w1_1 : Int32) (T201 : St) => True) 1000 0 T
theorem c_m_clearLevel {X : Nat × (Nat → Int32)} {T : St}  (kk : ok_m_clearLevel T ) : tC X 1 mX12_clearLevel [.ref (571 : Nat)] T none (x_m_clearLevel T) := by
  unfold ok_m_clearLevel at kk
  refine tC_orV (L := [some (.ref (571 : Nat)), none]) (x_m_clearLevel T ) rfl ?_
  unfold x_m_clearLevel
  refine r_ci (x := 0) dX12_clearLevel_0 rfl ?_
  refine r_p (pc2 := 2) (L2 := [some (.ref (571 : Nat)), some (.int 0)]) dX12_clearLevel_1 rfl rfl ?_
  show tR _ _ _ _ [some (.ref (571 : Nat)), some (.int 0)] _ _ _ _
  refine (c_m_clearLevel_2  (fun w1_1 T201 kk => ?_) 1000 0 T kk)
  · skip
    exact r_qV dX12_clearLevel_64 rfl rfl
def x_m_copyLevel_5 (l1 : Int32) (K : Int32 → St → St) : Nat → Int32 → St → St
  | 0, _, T => T
  | f + 1, v2, T => if ((60 * l1) + 60) ≤ v2 then (K v2 T) else (jn (fun (T1 : St) => jn (fun (T2 : St) => jn (fun (T3 : St) => x_m_copyLevel_5 l1 K f (v2 + 1) (sA T3 584 (v2 : Int32).toNatClampNeg (T3.2.2.1 584 (v2 - 60 : Int32).toNatClampNeg))) (sA (sA T2 582 (v2 : Int32).toNatClampNeg (T2.2.2.1 582 (v2 - 60 : Int32).toNatClampNeg)) 583 (v2 : Int32).toNatClampNeg ((sA T2 582 (v2 : Int32).toNatClampNeg (T2.2.2.1 582 (v2 - 60 : Int32).toNatClampNeg)).2.2.1 583 (v2 - 60 : Int32).toNatClampNeg))) (sA (sA T1 580 (v2 : Int32).toNatClampNeg (T1.2.2.1 580 (v2 - 60 : Int32).toNatClampNeg)) 581 (v2 : Int32).toNatClampNeg ((sA T1 580 (v2 : Int32).toNatClampNeg (T1.2.2.1 580 (v2 - 60 : Int32).toNatClampNeg)).2.2.1 581 (v2 - 60 : Int32).toNatClampNeg))) (sA (sA T 578 (v2 : Int32).toNatClampNeg (T.2.2.1 578 (v2 - 60 : Int32).toNatClampNeg)) 579 (v2 : Int32).toNatClampNeg ((sA T 578 (v2 : Int32).toNatClampNeg (T.2.2.1 578 (v2 - 60 : Int32).toNatClampNeg)).2.2.1 579 (v2 - 60 : Int32).toNatClampNeg)))
def ok_m_copyLevel_5 (l1 : Int32) (Kk : Int32 → St → Prop) : Nat → Int32 → St → Prop
  | 0, _, _ => False
  | f + 1, v2, T => ((((60 * l1) + 60) ≤ v2 → Kk v2 T) ∧ (¬ ((60 * l1) + 60) ≤ v2 → (vp_in (v2 - 60) 300) ∧ (vp_in v2 300) ∧ jn (fun (T1 : St) => jn (fun (T2 : St) => jn (fun (T3 : St) => ok_m_copyLevel_5 l1 Kk f (v2 + 1) (sA T3 584 (v2 : Int32).toNatClampNeg (T3.2.2.1 584 (v2 - 60 : Int32).toNatClampNeg))) (sA (sA T2 582 (v2 : Int32).toNatClampNeg (T2.2.2.1 582 (v2 - 60 : Int32).toNatClampNeg)) 583 (v2 : Int32).toNatClampNeg ((sA T2 582 (v2 : Int32).toNatClampNeg (T2.2.2.1 582 (v2 - 60 : Int32).toNatClampNeg)).2.2.1 583 (v2 - 60 : Int32).toNatClampNeg))) (sA (sA T1 580 (v2 : Int32).toNatClampNeg (T1.2.2.1 580 (v2 - 60 : Int32).toNatClampNeg)) 581 (v2 : Int32).toNatClampNeg ((sA T1 580 (v2 : Int32).toNatClampNeg (T1.2.2.1 580 (v2 - 60 : Int32).toNatClampNeg)).2.2.1 581 (v2 - 60 : Int32).toNatClampNeg))) (sA (sA T 578 (v2 : Int32).toNatClampNeg (T.2.2.1 578 (v2 - 60 : Int32).toNatClampNeg)) 579 (v2 : Int32).toNatClampNeg ((sA T 578 (v2 : Int32).toNatClampNeg (T.2.2.1 578 (v2 - 60 : Int32).toNatClampNeg)).2.2.1 579 (v2 - 60 : Int32).toNatClampNeg))))
theorem c_m_copyLevel_5 {X : Nat × (Nat → Int32)} (l1 : Int32) {K : Int32 → St → St} {Kk : Int32 → St → Prop} (hk : ∀ (v2 : Int32) (T : St), Kk v2 T → tR X 0 mX12_copyLevel 127 [some (.ref (571 : Nat)), some (.int l1), some (.int v2)] [] T (rV (K v2 T)).1 ((rV (K v2 T)).2)) : ∀ (f : Nat) (v2 : Int32) (T : St), ok_m_copyLevel_5 l1 Kk f v2 T → tR X 0 mX12_copyLevel 5 [some (.ref (571 : Nat)), some (.int l1), some (.int v2)] [] T (rV (x_m_copyLevel_5 l1 K f v2 T)).1 ((rV (x_m_copyLevel_5 l1 K f v2 T)).2) := by
  intro f
  induction f with
  | zero => intro v2 T kk; exact kk.elim
  | succ f ih =>
    intro v2 T kk
    rw [ok_m_copyLevel_5] at kk
    rw [x_m_copyLevel_5]
    refine r_p (pc2 := 6) dX12_copyLevel_5 rfl rfl ?_
    refine r_cb (x := 60) dX12_copyLevel_6 rfl ?_
    refine r_p (pc2 := 9) dX12_copyLevel_8 rfl rfl ?_
    refine r_p (pc2 := 10) dX12_copyLevel_9 rfl rfl ?_
    refine r_cb (x := 60) dX12_copyLevel_10 rfl ?_
    refine r_p (pc2 := 13) dX12_copyLevel_12 rfl rfl ?_
    refine r_cge dX12_copyLevel_13 rfl (fun c13_1 => ?_) (fun c13_1 => ?_)
    · refine r_ip (R := rV) c13_1 ?_
      have kk := kk.1 c13_1
      show tR _ _ _ _ [some (.ref (571 : Nat)), some (.int l1), some (.int v2)] _ _ _ _
      exact (hk v2 T kk)
    · refine r_in (R := rV) c13_1 ?_
      have kk := kk.2 c13_1
      refine r_p (pc2 := 17) dX12_copyLevel_16 rfl rfl ?_
      refine r_get dX12_copyLevel_17 fkX12_28 rfl rfl ?_
      refine r_p (pc2 := 21) dX12_copyLevel_20 rfl rfl ?_
      refine r_p (pc2 := 22) dX12_copyLevel_21 rfl rfl ?_
      refine r_get dX12_copyLevel_22 fkX12_28 rfl rfl ?_
      refine r_p (pc2 := 26) dX12_copyLevel_25 rfl rfl ?_
      refine r_cb (x := 60) dX12_copyLevel_26 rfl ?_
      refine r_p (pc2 := 29) dX12_copyLevel_28 rfl rfl ?_
      obtain ⟨q1, kk⟩ := kk
      refine r_ia dX12_copyLevel_29 rfl q1 ?_
      obtain ⟨q2, kk⟩ := kk
      refine r_ias dX12_copyLevel_30 rfl q2 ?_
      refine r_p (pc2 := 32) dX12_copyLevel_31 rfl rfl ?_
      refine r_get dX12_copyLevel_32 fkX12_31 rfl rfl ?_
      refine r_p (pc2 := 36) dX12_copyLevel_35 rfl rfl ?_
      refine r_p (pc2 := 37) dX12_copyLevel_36 rfl rfl ?_
      refine r_get dX12_copyLevel_37 fkX12_31 rfl rfl ?_
      refine r_p (pc2 := 41) dX12_copyLevel_40 rfl rfl ?_
      refine r_cb (x := 60) dX12_copyLevel_41 rfl ?_
      refine r_p (pc2 := 44) dX12_copyLevel_43 rfl rfl ?_
      refine r_ia dX12_copyLevel_44 rfl q1 ?_
      refine r_ias dX12_copyLevel_45 rfl q2 ?_
      refine r_nT (R := rV) rfl kk (fun T1 kk => ?_)
      refine r_p (pc2 := 47) dX12_copyLevel_46 rfl rfl ?_
      refine r_get dX12_copyLevel_47 fkX12_34 rfl rfl ?_
      refine r_p (pc2 := 51) dX12_copyLevel_50 rfl rfl ?_
      refine r_p (pc2 := 52) dX12_copyLevel_51 rfl rfl ?_
      refine r_get dX12_copyLevel_52 fkX12_34 rfl rfl ?_
      refine r_p (pc2 := 56) dX12_copyLevel_55 rfl rfl ?_
      refine r_cb (x := 60) dX12_copyLevel_56 rfl ?_
      refine r_p (pc2 := 59) dX12_copyLevel_58 rfl rfl ?_
      refine r_ia dX12_copyLevel_59 rfl q1 ?_
      refine r_ias dX12_copyLevel_60 rfl q2 ?_
      refine r_p (pc2 := 62) dX12_copyLevel_61 rfl rfl ?_
      refine r_get dX12_copyLevel_62 fkX12_37 rfl rfl ?_
      refine r_p (pc2 := 66) dX12_copyLevel_65 rfl rfl ?_
      refine r_p (pc2 := 67) dX12_copyLevel_66 rfl rfl ?_
      refine r_get dX12_copyLevel_67 fkX12_37 rfl rfl ?_
      refine r_p (pc2 := 71) dX12_copyLevel_70 rfl rfl ?_
      refine r_cb (x := 60) dX12_copyLevel_71 rfl ?_
      refine r_p (pc2 := 74) dX12_copyLevel_73 rfl rfl ?_
      refine r_ia dX12_copyLevel_74 rfl q1 ?_
      refine r_ias dX12_copyLevel_75 rfl q2 ?_
      refine r_nT (R := rV) rfl kk (fun T2 kk => ?_)
      refine r_p (pc2 := 77) dX12_copyLevel_76 rfl rfl ?_
      refine r_get dX12_copyLevel_77 fkX12_40 rfl rfl ?_
      refine r_p (pc2 := 81) dX12_copyLevel_80 rfl rfl ?_
      refine r_p (pc2 := 82) dX12_copyLevel_81 rfl rfl ?_
      refine r_get dX12_copyLevel_82 fkX12_40 rfl rfl ?_
      refine r_p (pc2 := 86) dX12_copyLevel_85 rfl rfl ?_
      refine r_cb (x := 60) dX12_copyLevel_86 rfl ?_
      refine r_p (pc2 := 89) dX12_copyLevel_88 rfl rfl ?_
      refine r_ia dX12_copyLevel_89 rfl q1 ?_
      refine r_ias dX12_copyLevel_90 rfl q2 ?_
      refine r_p (pc2 := 92) dX12_copyLevel_91 rfl rfl ?_
      refine r_get dX12_copyLevel_92 fkX12_43 rfl rfl ?_
      refine r_p (pc2 := 96) dX12_copyLevel_95 rfl rfl ?_
      refine r_p (pc2 := 97) dX12_copyLevel_96 rfl rfl ?_
      refine r_get dX12_copyLevel_97 fkX12_43 rfl rfl ?_
      refine r_p (pc2 := 101) dX12_copyLevel_100 rfl rfl ?_
      refine r_cb (x := 60) dX12_copyLevel_101 rfl ?_
      refine r_p (pc2 := 104) dX12_copyLevel_103 rfl rfl ?_
      refine r_ia dX12_copyLevel_104 rfl q1 ?_
      refine r_ias dX12_copyLevel_105 rfl q2 ?_
      refine r_nT (R := rV) rfl kk (fun T3 kk => ?_)
      refine r_p (pc2 := 107) dX12_copyLevel_106 rfl rfl ?_
      refine r_get dX12_copyLevel_107 fkX12_46 rfl rfl ?_
      refine r_p (pc2 := 111) dX12_copyLevel_110 rfl rfl ?_
      refine r_p (pc2 := 112) dX12_copyLevel_111 rfl rfl ?_
      refine r_get dX12_copyLevel_112 fkX12_46 rfl rfl ?_
      refine r_p (pc2 := 116) dX12_copyLevel_115 rfl rfl ?_
      refine r_cb (x := 60) dX12_copyLevel_116 rfl ?_
      refine r_p (pc2 := 119) dX12_copyLevel_118 rfl rfl ?_
      refine r_ia dX12_copyLevel_119 rfl q1 ?_
      refine r_ias dX12_copyLevel_120 rfl q2 ?_
      refine r_inc (L2 := [some (.ref (571 : Nat)), some (.int l1), some (.int (v2 + 1))]) (y := 1) dX12_copyLevel_121 rfl rfl rfl ?_
      refine r_go dX12_copyLevel_124 rfl ?_
      show tR _ _ _ _ [some (.ref (571 : Nat)), some (.int l1), some (.int (v2 + 1))] _ _ _ _
      exact (ih (v2 + 1) (sA T3 584 (v2 : Int32).toNatClampNeg (T3.2.2.1 584 (v2 - 60 : Int32).toNatClampNeg)) kk)
def x_m_copyLevel (T : St) (p0 : Int32) : St := x_m_copyLevel_5 p0 (fun (w1_2 : Int32) (T201 : St) => T201) 1000 (60 * p0) T
def ok_m_copyLevel (T : St) (p0 : Int32) : Prop := ok_m_copyLevel_5 p0 (fun (w1_2 : Int32) (T201 : St) => True) 1000 (60 * p0) T
theorem c_m_copyLevel {X : Nat × (Nat → Int32)} {T : St} (p0 : Int32) (kk : ok_m_copyLevel T p0) : tC X 1 mX12_copyLevel [.ref (571 : Nat), .int p0] T none (x_m_copyLevel T p0) := by
  unfold ok_m_copyLevel at kk
  refine tC_orV (L := [some (.ref (571 : Nat)), some (.int p0), none]) (x_m_copyLevel T p0) rfl ?_
  unfold x_m_copyLevel
  refine r_cb (x := 60) dX12_copyLevel_0 rfl ?_
  refine r_p (pc2 := 3) dX12_copyLevel_2 rfl rfl ?_
  refine r_p (pc2 := 4) dX12_copyLevel_3 rfl rfl ?_
  refine r_p (pc2 := 5) (L2 := [some (.ref (571 : Nat)), some (.int p0), some (.int (60 * p0))]) dX12_copyLevel_4 rfl rfl ?_
  show tR _ _ _ _ [some (.ref (571 : Nat)), some (.int p0), some (.int (60 * p0))] _ _ _ _
  refine (c_m_copyLevel_5 p0 (fun w1_2 T201 kk => ?_) 1000 (60 * p0) T kk)
  · skip
    exact r_qV dX12_copyLevel_127 rfl rfl
def x_m_addStep_11 (l1 : Int32) (l2 : Int32) (l3 : Int32) (l4 : Int32) (l5 : Int32) (K : Int32 → St → St) : Nat → Int32 → St → St
  | 0, _, T => T
  | f + 1, v6, T => if l4 ≤ v6 then (K v6 T) else (jn (fun (i1 : Int32) => jn (fun (KJ1 : Int32 → St) => if l5 = 1 then (KJ1 1) else (KJ1 0)) (fun (j1_s3 : Int32) => jn (fun (KJ2 : St) => if l5 = 1 then (if (x_m_stepOf (sA T 579 (i1 : Int32).toNatClampNeg ((T.2.2.1 579 (i1 : Int32).toNatClampNeg) + j1_s3)) l2 4) = 1 then (jn (fun (T25 : St) => jn (fun (KJ7 : St → St) => if l5 = 2 then (jn (fun (KJ10 : Int32 → St) => if (x_m_stepOf (sA T25 580 (i1 : Int32).toNatClampNeg ((T25.2.2.1 580 (i1 : Int32).toNatClampNeg) + 1)) l2 4) ≤ ((sA T25 580 (i1 : Int32).toNatClampNeg ((T25.2.2.1 580 (i1 : Int32).toNatClampNeg) + 1)).2.2.1 583 (i1 : Int32).toNatClampNeg) then (KJ10 ((sA T25 580 (i1 : Int32).toNatClampNeg ((T25.2.2.1 580 (i1 : Int32).toNatClampNeg) + 1)).2.2.1 583 (i1 : Int32).toNatClampNeg)) else (KJ10 (x_m_stepOf (sA T25 580 (i1 : Int32).toNatClampNeg ((T25.2.2.1 580 (i1 : Int32).toNatClampNeg) + 1)) l2 4))) (fun (j10_s2 : Int32) => jn (fun (T28 : St) => if (T28.2.2.1 584 (i1 : Int32).toNatClampNeg) ≤ (x_m_stepOf T28 l2 5) then (KJ7 (sA T28 584 (i1 : Int32).toNatClampNeg (T28.2.2.1 584 (i1 : Int32).toNatClampNeg))) else (KJ7 (sA T28 584 (i1 : Int32).toNatClampNeg (x_m_stepOf T28 l2 5)))) (sA (sA T25 580 (i1 : Int32).toNatClampNeg ((T25.2.2.1 580 (i1 : Int32).toNatClampNeg) + 1)) 583 (i1 : Int32).toNatClampNeg j10_s2))) else (KJ7 T25)) (fun (T307 : St) => jn (fun (KJ8 : St) => if (x_m_stepOf T307 l2 3) = 2 then (KJ8) else (jn (fun (KJ9 : St) => if (x_m_stepOf T307 l2 3) = 1 then (if v6 = 0 then (KJ8) else (KJ9)) else (KJ9)) (x_m_addStep_11 l1 l2 l3 l4 l5 K f (v6 + 1) (sA T307 581 (i1 : Int32).toNatClampNeg ((T307.2.2.1 581 (i1 : Int32).toNatClampNeg) + 0))))) (x_m_addStep_11 l1 l2 l3 l4 l5 K f (v6 + 1) (sA T307 581 (i1 : Int32).toNatClampNeg ((T307.2.2.1 581 (i1 : Int32).toNatClampNeg) + 1))))) (sA (sA T 579 (i1 : Int32).toNatClampNeg ((T.2.2.1 579 (i1 : Int32).toNatClampNeg) + j1_s3)) 578 (i1 : Int32).toNatClampNeg (((sA T 579 (i1 : Int32).toNatClampNeg ((T.2.2.1 579 (i1 : Int32).toNatClampNeg) + j1_s3)).2.2.1 578 (i1 : Int32).toNatClampNeg) + 1))) else (KJ2)) else (KJ2)) (jn (fun (T21 : St) => jn (fun (KJ3 : St → St) => if l5 = 2 then (jn (fun (KJ6 : Int32 → St) => if (x_m_stepOf (sA T21 580 (i1 : Int32).toNatClampNeg ((T21.2.2.1 580 (i1 : Int32).toNatClampNeg) + 1)) l2 4) ≤ ((sA T21 580 (i1 : Int32).toNatClampNeg ((T21.2.2.1 580 (i1 : Int32).toNatClampNeg) + 1)).2.2.1 583 (i1 : Int32).toNatClampNeg) then (KJ6 ((sA T21 580 (i1 : Int32).toNatClampNeg ((T21.2.2.1 580 (i1 : Int32).toNatClampNeg) + 1)).2.2.1 583 (i1 : Int32).toNatClampNeg)) else (KJ6 (x_m_stepOf (sA T21 580 (i1 : Int32).toNatClampNeg ((T21.2.2.1 580 (i1 : Int32).toNatClampNeg) + 1)) l2 4))) (fun (j6_s2 : Int32) => jn (fun (T24 : St) => if (T24.2.2.1 584 (i1 : Int32).toNatClampNeg) ≤ (x_m_stepOf T24 l2 5) then (KJ3 (sA T24 584 (i1 : Int32).toNatClampNeg (T24.2.2.1 584 (i1 : Int32).toNatClampNeg))) else (KJ3 (sA T24 584 (i1 : Int32).toNatClampNeg (x_m_stepOf T24 l2 5)))) (sA (sA T21 580 (i1 : Int32).toNatClampNeg ((T21.2.2.1 580 (i1 : Int32).toNatClampNeg) + 1)) 583 (i1 : Int32).toNatClampNeg j6_s2))) else (KJ3 T21)) (fun (T303 : St) => jn (fun (KJ4 : St) => if (x_m_stepOf T303 l2 3) = 2 then (KJ4) else (jn (fun (KJ5 : St) => if (x_m_stepOf T303 l2 3) = 1 then (if v6 = 0 then (KJ4) else (KJ5)) else (KJ5)) (x_m_addStep_11 l1 l2 l3 l4 l5 K f (v6 + 1) (sA T303 581 (i1 : Int32).toNatClampNeg ((T303.2.2.1 581 (i1 : Int32).toNatClampNeg) + 0))))) (x_m_addStep_11 l1 l2 l3 l4 l5 K f (v6 + 1) (sA T303 581 (i1 : Int32).toNatClampNeg ((T303.2.2.1 581 (i1 : Int32).toNatClampNeg) + 1))))) (sA (sA T 579 (i1 : Int32).toNatClampNeg ((T.2.2.1 579 (i1 : Int32).toNatClampNeg) + j1_s3)) 578 (i1 : Int32).toNatClampNeg (((sA T 579 (i1 : Int32).toNatClampNeg ((T.2.2.1 579 (i1 : Int32).toNatClampNeg) + j1_s3)).2.2.1 578 (i1 : Int32).toNatClampNeg) + 0))))) (((60 * l1) + l3) + v6))
def ok_m_addStep_11 (l1 : Int32) (l2 : Int32) (l3 : Int32) (l4 : Int32) (l5 : Int32) (Kk : Int32 → St → Prop) : Nat → Int32 → St → Prop
  | 0, _, _ => False
  | f + 1, v6, T => ((l4 ≤ v6 → Kk v6 T) ∧ (¬ l4 ≤ v6 → jn (fun (i1 : Int32) => (vp_in i1 300) ∧ jn (fun (OJ1 : Int32 → Prop) => ((l5 = 1 → OJ1 1) ∧ (¬ l5 = 1 → OJ1 0))) (fun (j1_s3 : Int32) => jn (fun (OJ2 : Prop) => ((l5 = 1 → (ok_m_stepOf (sA T 579 (i1 : Int32).toNatClampNeg ((T.2.2.1 579 (i1 : Int32).toNatClampNeg) + j1_s3)) l2 4) ∧ (((x_m_stepOf (sA T 579 (i1 : Int32).toNatClampNeg ((T.2.2.1 579 (i1 : Int32).toNatClampNeg) + j1_s3)) l2 4) = 1 → jn (fun (T25 : St) => jn (fun (OJ7 : St → Prop) => ((l5 = 2 → (ok_m_stepOf (sA T25 580 (i1 : Int32).toNatClampNeg ((T25.2.2.1 580 (i1 : Int32).toNatClampNeg) + 1)) l2 4) ∧ jn (fun (OJ10 : Int32 → Prop) => (((x_m_stepOf (sA T25 580 (i1 : Int32).toNatClampNeg ((T25.2.2.1 580 (i1 : Int32).toNatClampNeg) + 1)) l2 4) ≤ ((sA T25 580 (i1 : Int32).toNatClampNeg ((T25.2.2.1 580 (i1 : Int32).toNatClampNeg) + 1)).2.2.1 583 (i1 : Int32).toNatClampNeg) → OJ10 ((sA T25 580 (i1 : Int32).toNatClampNeg ((T25.2.2.1 580 (i1 : Int32).toNatClampNeg) + 1)).2.2.1 583 (i1 : Int32).toNatClampNeg)) ∧ (¬ (x_m_stepOf (sA T25 580 (i1 : Int32).toNatClampNeg ((T25.2.2.1 580 (i1 : Int32).toNatClampNeg) + 1)) l2 4) ≤ ((sA T25 580 (i1 : Int32).toNatClampNeg ((T25.2.2.1 580 (i1 : Int32).toNatClampNeg) + 1)).2.2.1 583 (i1 : Int32).toNatClampNeg) → OJ10 (x_m_stepOf (sA T25 580 (i1 : Int32).toNatClampNeg ((T25.2.2.1 580 (i1 : Int32).toNatClampNeg) + 1)) l2 4)))) (fun (j10_s2 : Int32) => jn (fun (T28 : St) => (ok_m_stepOf T28 l2 5) ∧ (((T28.2.2.1 584 (i1 : Int32).toNatClampNeg) ≤ (x_m_stepOf T28 l2 5) → OJ7 (sA T28 584 (i1 : Int32).toNatClampNeg (T28.2.2.1 584 (i1 : Int32).toNatClampNeg))) ∧ (¬ (T28.2.2.1 584 (i1 : Int32).toNatClampNeg) ≤ (x_m_stepOf T28 l2 5) → OJ7 (sA T28 584 (i1 : Int32).toNatClampNeg (x_m_stepOf T28 l2 5))))) (sA (sA T25 580 (i1 : Int32).toNatClampNeg ((T25.2.2.1 580 (i1 : Int32).toNatClampNeg) + 1)) 583 (i1 : Int32).toNatClampNeg j10_s2))) ∧ (¬ l5 = 2 → OJ7 T25))) (fun (T307 : St) => (ok_m_stepOf T307 l2 3) ∧ jn (fun (OJ8 : Prop) => (((x_m_stepOf T307 l2 3) = 2 → OJ8) ∧ (¬ (x_m_stepOf T307 l2 3) = 2 → jn (fun (OJ9 : Prop) => (((x_m_stepOf T307 l2 3) = 1 → ((v6 = 0 → OJ8) ∧ (¬ v6 = 0 → OJ9))) ∧ (¬ (x_m_stepOf T307 l2 3) = 1 → OJ9))) (ok_m_addStep_11 l1 l2 l3 l4 l5 Kk f (v6 + 1) (sA T307 581 (i1 : Int32).toNatClampNeg ((T307.2.2.1 581 (i1 : Int32).toNatClampNeg) + 0)))))) (ok_m_addStep_11 l1 l2 l3 l4 l5 Kk f (v6 + 1) (sA T307 581 (i1 : Int32).toNatClampNeg ((T307.2.2.1 581 (i1 : Int32).toNatClampNeg) + 1))))) (sA (sA T 579 (i1 : Int32).toNatClampNeg ((T.2.2.1 579 (i1 : Int32).toNatClampNeg) + j1_s3)) 578 (i1 : Int32).toNatClampNeg (((sA T 579 (i1 : Int32).toNatClampNeg ((T.2.2.1 579 (i1 : Int32).toNatClampNeg) + j1_s3)).2.2.1 578 (i1 : Int32).toNatClampNeg) + 1))) ∧ (¬ (x_m_stepOf (sA T 579 (i1 : Int32).toNatClampNeg ((T.2.2.1 579 (i1 : Int32).toNatClampNeg) + j1_s3)) l2 4) = 1 → OJ2))) ∧ (¬ l5 = 1 → OJ2))) (jn (fun (T21 : St) => jn (fun (OJ3 : St → Prop) => ((l5 = 2 → (ok_m_stepOf (sA T21 580 (i1 : Int32).toNatClampNeg ((T21.2.2.1 580 (i1 : Int32).toNatClampNeg) + 1)) l2 4) ∧ jn (fun (OJ6 : Int32 → Prop) => (((x_m_stepOf (sA T21 580 (i1 : Int32).toNatClampNeg ((T21.2.2.1 580 (i1 : Int32).toNatClampNeg) + 1)) l2 4) ≤ ((sA T21 580 (i1 : Int32).toNatClampNeg ((T21.2.2.1 580 (i1 : Int32).toNatClampNeg) + 1)).2.2.1 583 (i1 : Int32).toNatClampNeg) → OJ6 ((sA T21 580 (i1 : Int32).toNatClampNeg ((T21.2.2.1 580 (i1 : Int32).toNatClampNeg) + 1)).2.2.1 583 (i1 : Int32).toNatClampNeg)) ∧ (¬ (x_m_stepOf (sA T21 580 (i1 : Int32).toNatClampNeg ((T21.2.2.1 580 (i1 : Int32).toNatClampNeg) + 1)) l2 4) ≤ ((sA T21 580 (i1 : Int32).toNatClampNeg ((T21.2.2.1 580 (i1 : Int32).toNatClampNeg) + 1)).2.2.1 583 (i1 : Int32).toNatClampNeg) → OJ6 (x_m_stepOf (sA T21 580 (i1 : Int32).toNatClampNeg ((T21.2.2.1 580 (i1 : Int32).toNatClampNeg) + 1)) l2 4)))) (fun (j6_s2 : Int32) => jn (fun (T24 : St) => (ok_m_stepOf T24 l2 5) ∧ (((T24.2.2.1 584 (i1 : Int32).toNatClampNeg) ≤ (x_m_stepOf T24 l2 5) → OJ3 (sA T24 584 (i1 : Int32).toNatClampNeg (T24.2.2.1 584 (i1 : Int32).toNatClampNeg))) ∧ (¬ (T24.2.2.1 584 (i1 : Int32).toNatClampNeg) ≤ (x_m_stepOf T24 l2 5) → OJ3 (sA T24 584 (i1 : Int32).toNatClampNeg (x_m_stepOf T24 l2 5))))) (sA (sA T21 580 (i1 : Int32).toNatClampNeg ((T21.2.2.1 580 (i1 : Int32).toNatClampNeg) + 1)) 583 (i1 : Int32).toNatClampNeg j6_s2))) ∧ (¬ l5 = 2 → OJ3 T21))) (fun (T303 : St) => (ok_m_stepOf T303 l2 3) ∧ jn (fun (OJ4 : Prop) => (((x_m_stepOf T303 l2 3) = 2 → OJ4) ∧ (¬ (x_m_stepOf T303 l2 3) = 2 → jn (fun (OJ5 : Prop) => (((x_m_stepOf T303 l2 3) = 1 → ((v6 = 0 → OJ4) ∧ (¬ v6 = 0 → OJ5))) ∧ (¬ (x_m_stepOf T303 l2 3) = 1 → OJ5))) (ok_m_addStep_11 l1 l2 l3 l4 l5 Kk f (v6 + 1) (sA T303 581 (i1 : Int32).toNatClampNeg ((T303.2.2.1 581 (i1 : Int32).toNatClampNeg) + 0)))))) (ok_m_addStep_11 l1 l2 l3 l4 l5 Kk f (v6 + 1) (sA T303 581 (i1 : Int32).toNatClampNeg ((T303.2.2.1 581 (i1 : Int32).toNatClampNeg) + 1))))) (sA (sA T 579 (i1 : Int32).toNatClampNeg ((T.2.2.1 579 (i1 : Int32).toNatClampNeg) + j1_s3)) 578 (i1 : Int32).toNatClampNeg (((sA T 579 (i1 : Int32).toNatClampNeg ((T.2.2.1 579 (i1 : Int32).toNatClampNeg) + j1_s3)).2.2.1 578 (i1 : Int32).toNatClampNeg) + 0))))) (((60 * l1) + l3) + v6)))
theorem c_m_addStep_11 {X : Nat × (Nat → Int32)} (l1 : Int32) (l2 : Int32) (l3 : Int32) (l4 : Int32) (l5 : Int32) {K : Int32 → St → St} {Kk : Int32 → St → Prop} (hk : ∀ (v6 : Int32) (T : St), Kk v6 T → tR X 1 mX12_addStep 222 [some (.ref (571 : Nat)), some (.int l1), some (.int l2), some (.int l3), some (.int l4), some (.int l5), some (.int v6), none] [] T (rV (K v6 T)).1 ((rV (K v6 T)).2)) : ∀ (f : Nat) (v6 : Int32) (T : St), ok_m_addStep_11 l1 l2 l3 l4 l5 Kk f v6 T → tR X 1 mX12_addStep 11 [some (.ref (571 : Nat)), some (.int l1), some (.int l2), some (.int l3), some (.int l4), some (.int l5), some (.int v6), none] [] T (rV (x_m_addStep_11 l1 l2 l3 l4 l5 K f v6 T)).1 ((rV (x_m_addStep_11 l1 l2 l3 l4 l5 K f v6 T)).2) := by
  intro f
  induction f with
  | zero => intro v6 T kk; exact kk.elim
  | succ f ih =>
    intro v6 T kk
    rw [ok_m_addStep_11] at kk
    rw [x_m_addStep_11]
    refine r_p (pc2 := 13) dX12_addStep_11 rfl rfl ?_
    refine r_p (pc2 := 15) dX12_addStep_13 rfl rfl ?_
    refine r_cge dX12_addStep_15 rfl (fun c15_1 => ?_) (fun c15_1 => ?_)
    · refine r_ip (R := rV) c15_1 ?_
      have kk := kk.1 c15_1
      show tR _ _ _ _ [some (.ref (571 : Nat)), some (.int l1), some (.int l2), some (.int l3), some (.int l4), some (.int l5), some (.int v6), none] _ _ _ _
      exact (hk v6 T kk)
    · refine r_in (R := rV) c15_1 ?_
      have kk := kk.2 c15_1
      refine r_cb (x := 60) dX12_addStep_18 rfl ?_
      refine r_p (pc2 := 21) dX12_addStep_20 rfl rfl ?_
      refine r_p (pc2 := 22) dX12_addStep_21 rfl rfl ?_
      refine r_p (pc2 := 23) dX12_addStep_22 rfl rfl ?_
      refine r_p (pc2 := 24) dX12_addStep_23 rfl rfl ?_
      refine r_p (pc2 := 26) dX12_addStep_24 rfl rfl ?_
      refine r_p (pc2 := 27) dX12_addStep_26 rfl rfl ?_
      refine r_nI (R := rV) rfl kk (fun i1 kk => ?_)
      refine r_p (pc2 := 29) (L2 := [some (.ref (571 : Nat)), some (.int l1), some (.int l2), some (.int l3), some (.int l4), some (.int l5), some (.int v6), some (.int i1)]) dX12_addStep_27 rfl rfl ?_
      refine r_p (pc2 := 30) dX12_addStep_29 rfl rfl ?_
      refine r_get dX12_addStep_30 fkX12_31 rfl rfl ?_
      refine r_p (pc2 := 35) dX12_addStep_33 rfl rfl ?_
      refine r_p (pc2 := 36) dX12_addStep_35 rfl rfl ?_
      obtain ⟨q2, kk⟩ := kk
      refine r_ia dX12_addStep_36 rfl q2 ?_
      refine r_p (pc2 := 39) dX12_addStep_37 rfl rfl ?_
      refine r_ci (x := 1) dX12_addStep_39 rfl ?_
      refine r_jn (R := rV) (J := fun (KJ1 : Int32 → St) (OJ1 : Int32 → Prop) => ∀ (j1_s3 : Int32), OJ1 j1_s3 → tR X 1 mX12_addStep 48 [some (.ref (571 : Nat)), some (.int l1), some (.int l2), some (.int l3), some (.int l4), some (.int l5), some (.int v6), some (.int i1)] [.int j1_s3, .int (T.2.2.1 579 (i1 : Int32).toNatClampNeg), .int i1, .ref (579 : Nat)] T (rV (KJ1 j1_s3)).1 (rV (KJ1 j1_s3)).2) kk (fun j1_s3 kk => ?_) (fun KJ1 OJ1 hJ1 kk => ?_)
      · skip
        refine r_p (pc2 := 49) dX12_addStep_48 rfl rfl ?_
        refine r_ias dX12_addStep_49 rfl q2 ?_
        refine r_p (pc2 := 51) dX12_addStep_50 rfl rfl ?_
        refine r_get dX12_addStep_51 fkX12_28 rfl rfl ?_
        refine r_p (pc2 := 56) dX12_addStep_54 rfl rfl ?_
        refine r_p (pc2 := 57) dX12_addStep_56 rfl rfl ?_
        refine r_ia dX12_addStep_57 rfl q2 ?_
        refine r_p (pc2 := 60) dX12_addStep_58 rfl rfl ?_
        refine r_ci (x := 1) dX12_addStep_60 rfl ?_
        refine r_jn (R := rV) (J := fun (KJ2 : St) (OJ2 : Prop) => OJ2 → tR X 1 mX12_addStep 78 [some (.ref (571 : Nat)), some (.int l1), some (.int l2), some (.int l3), some (.int l4), some (.int l5), some (.int v6), some (.int i1)] [.int ((sA T 579 (i1 : Int32).toNatClampNeg ((T.2.2.1 579 (i1 : Int32).toNatClampNeg) + j1_s3)).2.2.1 578 (i1 : Int32).toNatClampNeg), .int i1, .ref (578 : Nat)] (sA T 579 (i1 : Int32).toNatClampNeg ((T.2.2.1 579 (i1 : Int32).toNatClampNeg) + j1_s3)) (rV KJ2).1 (rV KJ2).2) kk (fun  kk => ?_) (fun KJ2 OJ2 hJ2 kk => ?_)
        · skip
          refine r_ci (x := 0) dX12_addStep_78 rfl ?_
          refine r_p (pc2 := 80) dX12_addStep_79 rfl rfl ?_
          refine r_ias dX12_addStep_80 rfl q2 ?_
          refine r_nT (R := rV) rfl kk (fun T21 kk => ?_)
          refine r_p (pc2 := 83) dX12_addStep_81 rfl rfl ?_
          refine r_ci (x := 2) dX12_addStep_83 rfl ?_
          refine r_jn (R := rV) (J := fun (KJ3 : St → St) (OJ3 : St → Prop) => ∀ (T303 : St), OJ3 T303 → tR X 1 mX12_addStep 176 [some (.ref (571 : Nat)), some (.int l1), some (.int l2), some (.int l3), some (.int l4), some (.int l5), some (.int v6), some (.int i1)] [] T303 (rV (KJ3 T303)).1 (rV (KJ3 T303)).2) kk (fun T303 kk => ?_) (fun KJ3 OJ3 hJ3 kk => ?_)
          · skip
            refine r_p (pc2 := 177) dX12_addStep_176 rfl rfl ?_
            refine r_get dX12_addStep_177 fkX12_37 rfl rfl ?_
            refine r_p (pc2 := 182) dX12_addStep_180 rfl rfl ?_
            refine r_p (pc2 := 183) dX12_addStep_182 rfl rfl ?_
            refine r_ia dX12_addStep_183 rfl q2 ?_
            refine r_p (pc2 := 185) dX12_addStep_184 rfl rfl ?_
            refine r_p (pc2 := 186) dX12_addStep_185 rfl rfl ?_
            refine r_ci (x := 3) dX12_addStep_186 rfl ?_
            obtain ⟨q15, kk⟩ := kk
            refine r_cv (d1 := 1) dX12_addStep_187 cvX12_232 rfl rfl rfl rfl (Nat.le_of_ble_eq_true rfl) (Nat.le_of_ble_eq_true rfl) (Nat.le_of_ble_eq_true rfl) (c_m_stepOf l2 3 q15) ?_
            refine r_ci (x := 2) dX12_addStep_190 rfl ?_
            refine r_jn (R := rV) (J := fun (KJ4 : St) (OJ4 : Prop) => OJ4 → tR X 1 mX12_addStep 209 [some (.ref (571 : Nat)), some (.int l1), some (.int l2), some (.int l3), some (.int l4), some (.int l5), some (.int v6), some (.int i1)] [.int (T303.2.2.1 581 (i1 : Int32).toNatClampNeg), .int i1, .ref (581 : Nat)] T303 (rV KJ4).1 (rV KJ4).2) kk (fun  kk => ?_) (fun KJ4 OJ4 hJ4 kk => ?_)
            · skip
              refine r_ci (x := 1) dX12_addStep_209 rfl ?_
              refine r_go dX12_addStep_210 rfl ?_
              refine r_p (pc2 := 215) dX12_addStep_214 rfl rfl ?_
              refine r_ias dX12_addStep_215 rfl q2 ?_
              refine r_inc (L2 := [some (.ref (571 : Nat)), some (.int l1), some (.int l2), some (.int l3), some (.int l4), some (.int l5), some (.int (v6 + 1)), some (.int i1)]) (y := 1) dX12_addStep_216 rfl rfl rfl ?_
              refine r_go dX12_addStep_219 rfl ?_
              show tR _ _ _ _ [some (.ref (571 : Nat)), some (.int l1), some (.int l2), some (.int l3), some (.int l4), some (.int l5), some (.int (v6 + 1)), some (.int i1)] _ _ _ _
              exact r_le (le_s (le_s (le_s (le_s (le_s (le_s (le_s (le_n (le_0))))))))) (ih (v6 + 1) (sA T303 581 (i1 : Int32).toNatClampNeg ((T303.2.2.1 581 (i1 : Int32).toNatClampNeg) + 1)) kk)
            refine r_ceq dX12_addStep_191 rfl (fun c191_31 => ?_) (fun c191_31 => ?_)
            · refine r_ip (R := rV) c191_31 ?_
              have kk := kk.1 c191_31
              show tR _ _ _ _ [some (.ref (571 : Nat)), some (.int l1), some (.int l2), some (.int l3), some (.int l4), some (.int l5), some (.int v6), some (.int i1)] [.int (T303.2.2.1 581 (i1 : Int32).toNatClampNeg), .int i1, .ref (581 : Nat)] _ _ _
              exact (hJ4  kk)
            · refine r_in (R := rV) c191_31 ?_
              have kk := kk.2 c191_31
              refine r_p (pc2 := 195) dX12_addStep_194 rfl rfl ?_
              refine r_p (pc2 := 196) dX12_addStep_195 rfl rfl ?_
              refine r_ci (x := 3) dX12_addStep_196 rfl ?_
              refine r_cv (d1 := 1) dX12_addStep_197 cvX12_232 rfl rfl rfl rfl (Nat.le_of_ble_eq_true rfl) (Nat.le_of_ble_eq_true rfl) (Nat.le_of_ble_eq_true rfl) (c_m_stepOf l2 3 q15) ?_
              refine r_ci (x := 1) dX12_addStep_200 rfl ?_
              refine r_jn (R := rV) (J := fun (KJ5 : St) (OJ5 : Prop) => OJ5 → tR X 1 mX12_addStep 213 [some (.ref (571 : Nat)), some (.int l1), some (.int l2), some (.int l3), some (.int l4), some (.int l5), some (.int v6), some (.int i1)] [.int (T303.2.2.1 581 (i1 : Int32).toNatClampNeg), .int i1, .ref (581 : Nat)] T303 (rV KJ5).1 (rV KJ5).2) kk (fun  kk => ?_) (fun KJ5 OJ5 hJ5 kk => ?_)
              · skip
                refine r_ci (x := 0) dX12_addStep_213 rfl ?_
                refine r_p (pc2 := 215) dX12_addStep_214 rfl rfl ?_
                refine r_ias dX12_addStep_215 rfl q2 ?_
                refine r_inc (L2 := [some (.ref (571 : Nat)), some (.int l1), some (.int l2), some (.int l3), some (.int l4), some (.int l5), some (.int (v6 + 1)), some (.int i1)]) (y := 1) dX12_addStep_216 rfl rfl rfl ?_
                refine r_go dX12_addStep_219 rfl ?_
                show tR _ _ _ _ [some (.ref (571 : Nat)), some (.int l1), some (.int l2), some (.int l3), some (.int l4), some (.int l5), some (.int (v6 + 1)), some (.int i1)] _ _ _ _
                exact r_le (le_s (le_s (le_s (le_s (le_s (le_s (le_s (le_n (le_0))))))))) (ih (v6 + 1) (sA T303 581 (i1 : Int32).toNatClampNeg ((T303.2.2.1 581 (i1 : Int32).toNatClampNeg) + 0)) kk)
              refine r_cne dX12_addStep_201 rfl (fun c201_34 => ?_) (fun c201_34 => ?_)
              · refine r_in (R := rV) c201_34 ?_
                have kk := kk.2 c201_34
                show tR _ _ _ _ [some (.ref (571 : Nat)), some (.int l1), some (.int l2), some (.int l3), some (.int l4), some (.int l5), some (.int v6), some (.int i1)] [.int (T303.2.2.1 581 (i1 : Int32).toNatClampNeg), .int i1, .ref (581 : Nat)] _ _ _
                exact (hJ5  kk)
              · refine r_ip (R := rV) c201_34 ?_
                have kk := kk.1 c201_34
                refine r_p (pc2 := 206) dX12_addStep_204 rfl rfl ?_
                refine r_ine dX12_addStep_206 rfl (fun c206_35 => ?_) (fun c206_35 => ?_)
                · refine r_in (R := rV) c206_35 ?_
                  have kk := kk.2 c206_35
                  show tR _ _ _ _ [some (.ref (571 : Nat)), some (.int l1), some (.int l2), some (.int l3), some (.int l4), some (.int l5), some (.int v6), some (.int i1)] [.int (T303.2.2.1 581 (i1 : Int32).toNatClampNeg), .int i1, .ref (581 : Nat)] _ _ _
                  exact (hJ5  kk)
                · refine r_ip (R := rV) c206_35 ?_
                  have kk := kk.1 c206_35
                  show tR _ _ _ _ [some (.ref (571 : Nat)), some (.int l1), some (.int l2), some (.int l3), some (.int l4), some (.int l5), some (.int v6), some (.int i1)] [.int (T303.2.2.1 581 (i1 : Int32).toNatClampNeg), .int i1, .ref (581 : Nat)] _ _ _
                  exact (hJ4  kk)
          refine r_cne dX12_addStep_84 rfl (fun c84_36 => ?_) (fun c84_36 => ?_)
          · refine r_in (R := rV) c84_36 ?_
            have kk := kk.2 c84_36
            show tR _ _ _ _ [some (.ref (571 : Nat)), some (.int l1), some (.int l2), some (.int l3), some (.int l4), some (.int l5), some (.int v6), some (.int i1)] [] _ _ _
            exact (hJ3 T21 kk)
          · refine r_ip (R := rV) c84_36 ?_
            have kk := kk.1 c84_36
            refine r_p (pc2 := 88) dX12_addStep_87 rfl rfl ?_
            refine r_get dX12_addStep_88 fkX12_34 rfl rfl ?_
            refine r_p (pc2 := 93) dX12_addStep_91 rfl rfl ?_
            refine r_p (pc2 := 94) dX12_addStep_93 rfl rfl ?_
            refine r_ia dX12_addStep_94 rfl q2 ?_
            refine r_ci (x := 1) dX12_addStep_95 rfl ?_
            refine r_p (pc2 := 97) dX12_addStep_96 rfl rfl ?_
            refine r_ias dX12_addStep_97 rfl q2 ?_
            refine r_p (pc2 := 99) dX12_addStep_98 rfl rfl ?_
            refine r_get dX12_addStep_99 fkX12_43 rfl rfl ?_
            refine r_p (pc2 := 104) dX12_addStep_102 rfl rfl ?_
            refine r_p (pc2 := 105) dX12_addStep_104 rfl rfl ?_
            refine r_p (pc2 := 106) dX12_addStep_105 rfl rfl ?_
            refine r_ci (x := 4) dX12_addStep_106 rfl ?_
            obtain ⟨q16, kk⟩ := kk
            refine r_cv (d1 := 1) dX12_addStep_107 cvX12_232 rfl rfl rfl rfl (Nat.le_of_ble_eq_true rfl) (Nat.le_of_ble_eq_true rfl) (Nat.le_of_ble_eq_true rfl) (c_m_stepOf l2 4 q16) ?_
            refine r_p (pc2 := 111) dX12_addStep_110 rfl rfl ?_
            refine r_get dX12_addStep_111 fkX12_43 rfl rfl ?_
            refine r_p (pc2 := 116) dX12_addStep_114 rfl rfl ?_
            refine r_ia dX12_addStep_116 rfl q2 ?_
            refine r_jn (R := rV) (J := fun (KJ6 : Int32 → St) (OJ6 : Int32 → Prop) => ∀ (j6_s2 : Int32), OJ6 j6_s2 → tR X 1 mX12_addStep 136 [some (.ref (571 : Nat)), some (.int l1), some (.int l2), some (.int l3), some (.int l4), some (.int l5), some (.int v6), some (.int i1)] [.int j6_s2, .int i1, .ref (583 : Nat)] (sA T21 580 (i1 : Int32).toNatClampNeg ((T21.2.2.1 580 (i1 : Int32).toNatClampNeg) + 1)) (rV (KJ6 j6_s2)).1 (rV (KJ6 j6_s2)).2) kk (fun j6_s2 kk => ?_) (fun KJ6 OJ6 hJ6 kk => ?_)
            · skip
              refine r_ias dX12_addStep_136 rfl q2 ?_
              refine r_nT (R := rV) rfl kk (fun T24 kk => ?_)
              refine r_p (pc2 := 138) dX12_addStep_137 rfl rfl ?_
              refine r_get dX12_addStep_138 fkX12_46 rfl rfl ?_
              refine r_p (pc2 := 143) dX12_addStep_141 rfl rfl ?_
              refine r_p (pc2 := 144) dX12_addStep_143 rfl rfl ?_
              refine r_p (pc2 := 145) dX12_addStep_144 rfl rfl ?_
              refine r_ci (x := 5) dX12_addStep_145 rfl ?_
              obtain ⟨q17, kk⟩ := kk
              refine r_cv (d1 := 1) dX12_addStep_146 cvX12_232 rfl rfl rfl rfl (Nat.le_of_ble_eq_true rfl) (Nat.le_of_ble_eq_true rfl) (Nat.le_of_ble_eq_true rfl) (c_m_stepOf l2 5 q17) ?_
              refine r_p (pc2 := 150) dX12_addStep_149 rfl rfl ?_
              refine r_get dX12_addStep_150 fkX12_46 rfl rfl ?_
              refine r_p (pc2 := 155) dX12_addStep_153 rfl rfl ?_
              refine r_ia dX12_addStep_155 rfl q2 ?_
              refine r_cge dX12_addStep_156 rfl (fun c156_38 => ?_) (fun c156_38 => ?_)
              · refine r_ip (R := rV) c156_38 ?_
                have kk := kk.1 c156_38
                refine r_p (pc2 := 169) dX12_addStep_168 rfl rfl ?_
                refine r_get dX12_addStep_169 fkX12_46 rfl rfl ?_
                refine r_p (pc2 := 174) dX12_addStep_172 rfl rfl ?_
                refine r_ia dX12_addStep_174 rfl q2 ?_
                refine r_ias dX12_addStep_175 rfl q2 ?_
                show tR _ _ _ _ [some (.ref (571 : Nat)), some (.int l1), some (.int l2), some (.int l3), some (.int l4), some (.int l5), some (.int v6), some (.int i1)] [] _ _ _
                exact (hJ3 (sA T24 584 (i1 : Int32).toNatClampNeg (T24.2.2.1 584 (i1 : Int32).toNatClampNeg)) kk)
              · refine r_in (R := rV) c156_38 ?_
                have kk := kk.2 c156_38
                refine r_p (pc2 := 160) dX12_addStep_159 rfl rfl ?_
                refine r_p (pc2 := 161) dX12_addStep_160 rfl rfl ?_
                refine r_ci (x := 5) dX12_addStep_161 rfl ?_
                refine r_cv (d1 := 1) dX12_addStep_162 cvX12_232 rfl rfl rfl rfl (Nat.le_of_ble_eq_true rfl) (Nat.le_of_ble_eq_true rfl) (Nat.le_of_ble_eq_true rfl) (c_m_stepOf l2 5 q17) ?_
                refine r_go dX12_addStep_165 rfl ?_
                refine r_ias dX12_addStep_175 rfl q2 ?_
                show tR _ _ _ _ [some (.ref (571 : Nat)), some (.int l1), some (.int l2), some (.int l3), some (.int l4), some (.int l5), some (.int v6), some (.int i1)] [] _ _ _
                exact (hJ3 (sA T24 584 (i1 : Int32).toNatClampNeg (x_m_stepOf T24 l2 5)) kk)
            refine r_cle dX12_addStep_117 rfl (fun c117_39 => ?_) (fun c117_39 => ?_)
            · refine r_ip (R := rV) c117_39 ?_
              have kk := kk.1 c117_39
              refine r_p (pc2 := 130) dX12_addStep_129 rfl rfl ?_
              refine r_get dX12_addStep_130 fkX12_43 rfl rfl ?_
              refine r_p (pc2 := 135) dX12_addStep_133 rfl rfl ?_
              refine r_ia dX12_addStep_135 rfl q2 ?_
              show tR _ _ _ _ [some (.ref (571 : Nat)), some (.int l1), some (.int l2), some (.int l3), some (.int l4), some (.int l5), some (.int v6), some (.int i1)] [.int ((sA T21 580 (i1 : Int32).toNatClampNeg ((T21.2.2.1 580 (i1 : Int32).toNatClampNeg) + 1)).2.2.1 583 (i1 : Int32).toNatClampNeg), .int i1, .ref (583 : Nat)] _ _ _
              exact (hJ6 ((sA T21 580 (i1 : Int32).toNatClampNeg ((T21.2.2.1 580 (i1 : Int32).toNatClampNeg) + 1)).2.2.1 583 (i1 : Int32).toNatClampNeg) kk)
            · refine r_in (R := rV) c117_39 ?_
              have kk := kk.2 c117_39
              refine r_p (pc2 := 121) dX12_addStep_120 rfl rfl ?_
              refine r_p (pc2 := 122) dX12_addStep_121 rfl rfl ?_
              refine r_ci (x := 4) dX12_addStep_122 rfl ?_
              refine r_cv (d1 := 1) dX12_addStep_123 cvX12_232 rfl rfl rfl rfl (Nat.le_of_ble_eq_true rfl) (Nat.le_of_ble_eq_true rfl) (Nat.le_of_ble_eq_true rfl) (c_m_stepOf l2 4 q16) ?_
              refine r_go dX12_addStep_126 rfl ?_
              show tR _ _ _ _ [some (.ref (571 : Nat)), some (.int l1), some (.int l2), some (.int l3), some (.int l4), some (.int l5), some (.int v6), some (.int i1)] [.int (x_m_stepOf (sA T21 580 (i1 : Int32).toNatClampNeg ((T21.2.2.1 580 (i1 : Int32).toNatClampNeg) + 1)) l2 4), .int i1, .ref (583 : Nat)] _ _ _
              exact (hJ6 (x_m_stepOf (sA T21 580 (i1 : Int32).toNatClampNeg ((T21.2.2.1 580 (i1 : Int32).toNatClampNeg) + 1)) l2 4) kk)
        refine r_cne dX12_addStep_61 rfl (fun c61_40 => ?_) (fun c61_40 => ?_)
        · refine r_in (R := rV) c61_40 ?_
          have kk := kk.2 c61_40
          show tR _ _ _ _ [some (.ref (571 : Nat)), some (.int l1), some (.int l2), some (.int l3), some (.int l4), some (.int l5), some (.int v6), some (.int i1)] [.int ((sA T 579 (i1 : Int32).toNatClampNeg ((T.2.2.1 579 (i1 : Int32).toNatClampNeg) + j1_s3)).2.2.1 578 (i1 : Int32).toNatClampNeg), .int i1, .ref (578 : Nat)] _ _ _
          exact (hJ2  kk)
        · refine r_ip (R := rV) c61_40 ?_
          have kk := kk.1 c61_40
          refine r_p (pc2 := 65) dX12_addStep_64 rfl rfl ?_
          refine r_p (pc2 := 66) dX12_addStep_65 rfl rfl ?_
          refine r_ci (x := 4) dX12_addStep_66 rfl ?_
          obtain ⟨q18, kk⟩ := kk
          refine r_cv (d1 := 1) dX12_addStep_67 cvX12_232 rfl rfl rfl rfl (Nat.le_of_ble_eq_true rfl) (Nat.le_of_ble_eq_true rfl) (Nat.le_of_ble_eq_true rfl) (c_m_stepOf l2 4 q18) ?_
          refine r_ci (x := 1) dX12_addStep_70 rfl ?_
          refine r_cne dX12_addStep_71 rfl (fun c71_41 => ?_) (fun c71_41 => ?_)
          · refine r_in (R := rV) c71_41 ?_
            have kk := kk.2 c71_41
            show tR _ _ _ _ [some (.ref (571 : Nat)), some (.int l1), some (.int l2), some (.int l3), some (.int l4), some (.int l5), some (.int v6), some (.int i1)] [.int ((sA T 579 (i1 : Int32).toNatClampNeg ((T.2.2.1 579 (i1 : Int32).toNatClampNeg) + j1_s3)).2.2.1 578 (i1 : Int32).toNatClampNeg), .int i1, .ref (578 : Nat)] _ _ _
            exact (hJ2  kk)
          · refine r_ip (R := rV) c71_41 ?_
            have kk := kk.1 c71_41
            refine r_ci (x := 1) dX12_addStep_74 rfl ?_
            refine r_go dX12_addStep_75 rfl ?_
            refine r_p (pc2 := 80) dX12_addStep_79 rfl rfl ?_
            refine r_ias dX12_addStep_80 rfl q2 ?_
            refine r_nT (R := rV) rfl kk (fun T25 kk => ?_)
            refine r_p (pc2 := 83) dX12_addStep_81 rfl rfl ?_
            refine r_ci (x := 2) dX12_addStep_83 rfl ?_
            refine r_jn (R := rV) (J := fun (KJ7 : St → St) (OJ7 : St → Prop) => ∀ (T307 : St), OJ7 T307 → tR X 1 mX12_addStep 176 [some (.ref (571 : Nat)), some (.int l1), some (.int l2), some (.int l3), some (.int l4), some (.int l5), some (.int v6), some (.int i1)] [] T307 (rV (KJ7 T307)).1 (rV (KJ7 T307)).2) kk (fun T307 kk => ?_) (fun KJ7 OJ7 hJ7 kk => ?_)
            · skip
              refine r_p (pc2 := 177) dX12_addStep_176 rfl rfl ?_
              refine r_get dX12_addStep_177 fkX12_37 rfl rfl ?_
              refine r_p (pc2 := 182) dX12_addStep_180 rfl rfl ?_
              refine r_p (pc2 := 183) dX12_addStep_182 rfl rfl ?_
              refine r_ia dX12_addStep_183 rfl q2 ?_
              refine r_p (pc2 := 185) dX12_addStep_184 rfl rfl ?_
              refine r_p (pc2 := 186) dX12_addStep_185 rfl rfl ?_
              refine r_ci (x := 3) dX12_addStep_186 rfl ?_
              obtain ⟨q22, kk⟩ := kk
              refine r_cv (d1 := 1) dX12_addStep_187 cvX12_232 rfl rfl rfl rfl (Nat.le_of_ble_eq_true rfl) (Nat.le_of_ble_eq_true rfl) (Nat.le_of_ble_eq_true rfl) (c_m_stepOf l2 3 q22) ?_
              refine r_ci (x := 2) dX12_addStep_190 rfl ?_
              refine r_jn (R := rV) (J := fun (KJ8 : St) (OJ8 : Prop) => OJ8 → tR X 1 mX12_addStep 209 [some (.ref (571 : Nat)), some (.int l1), some (.int l2), some (.int l3), some (.int l4), some (.int l5), some (.int v6), some (.int i1)] [.int (T307.2.2.1 581 (i1 : Int32).toNatClampNeg), .int i1, .ref (581 : Nat)] T307 (rV KJ8).1 (rV KJ8).2) kk (fun  kk => ?_) (fun KJ8 OJ8 hJ8 kk => ?_)
              · skip
                refine r_ci (x := 1) dX12_addStep_209 rfl ?_
                refine r_go dX12_addStep_210 rfl ?_
                refine r_p (pc2 := 215) dX12_addStep_214 rfl rfl ?_
                refine r_ias dX12_addStep_215 rfl q2 ?_
                refine r_inc (L2 := [some (.ref (571 : Nat)), some (.int l1), some (.int l2), some (.int l3), some (.int l4), some (.int l5), some (.int (v6 + 1)), some (.int i1)]) (y := 1) dX12_addStep_216 rfl rfl rfl ?_
                refine r_go dX12_addStep_219 rfl ?_
                show tR _ _ _ _ [some (.ref (571 : Nat)), some (.int l1), some (.int l2), some (.int l3), some (.int l4), some (.int l5), some (.int (v6 + 1)), some (.int i1)] _ _ _ _
                exact r_le (le_s (le_s (le_s (le_s (le_s (le_s (le_s (le_n (le_0))))))))) (ih (v6 + 1) (sA T307 581 (i1 : Int32).toNatClampNeg ((T307.2.2.1 581 (i1 : Int32).toNatClampNeg) + 1)) kk)
              refine r_ceq dX12_addStep_191 rfl (fun c191_49 => ?_) (fun c191_49 => ?_)
              · refine r_ip (R := rV) c191_49 ?_
                have kk := kk.1 c191_49
                show tR _ _ _ _ [some (.ref (571 : Nat)), some (.int l1), some (.int l2), some (.int l3), some (.int l4), some (.int l5), some (.int v6), some (.int i1)] [.int (T307.2.2.1 581 (i1 : Int32).toNatClampNeg), .int i1, .ref (581 : Nat)] _ _ _
                exact (hJ8  kk)
              · refine r_in (R := rV) c191_49 ?_
                have kk := kk.2 c191_49
                refine r_p (pc2 := 195) dX12_addStep_194 rfl rfl ?_
                refine r_p (pc2 := 196) dX12_addStep_195 rfl rfl ?_
                refine r_ci (x := 3) dX12_addStep_196 rfl ?_
                refine r_cv (d1 := 1) dX12_addStep_197 cvX12_232 rfl rfl rfl rfl (Nat.le_of_ble_eq_true rfl) (Nat.le_of_ble_eq_true rfl) (Nat.le_of_ble_eq_true rfl) (c_m_stepOf l2 3 q22) ?_
                refine r_ci (x := 1) dX12_addStep_200 rfl ?_
                refine r_jn (R := rV) (J := fun (KJ9 : St) (OJ9 : Prop) => OJ9 → tR X 1 mX12_addStep 213 [some (.ref (571 : Nat)), some (.int l1), some (.int l2), some (.int l3), some (.int l4), some (.int l5), some (.int v6), some (.int i1)] [.int (T307.2.2.1 581 (i1 : Int32).toNatClampNeg), .int i1, .ref (581 : Nat)] T307 (rV KJ9).1 (rV KJ9).2) kk (fun  kk => ?_) (fun KJ9 OJ9 hJ9 kk => ?_)
                · skip
                  refine r_ci (x := 0) dX12_addStep_213 rfl ?_
                  refine r_p (pc2 := 215) dX12_addStep_214 rfl rfl ?_
                  refine r_ias dX12_addStep_215 rfl q2 ?_
                  refine r_inc (L2 := [some (.ref (571 : Nat)), some (.int l1), some (.int l2), some (.int l3), some (.int l4), some (.int l5), some (.int (v6 + 1)), some (.int i1)]) (y := 1) dX12_addStep_216 rfl rfl rfl ?_
                  refine r_go dX12_addStep_219 rfl ?_
                  show tR _ _ _ _ [some (.ref (571 : Nat)), some (.int l1), some (.int l2), some (.int l3), some (.int l4), some (.int l5), some (.int (v6 + 1)), some (.int i1)] _ _ _ _
                  exact r_le (le_s (le_s (le_s (le_s (le_s (le_s (le_s (le_n (le_0))))))))) (ih (v6 + 1) (sA T307 581 (i1 : Int32).toNatClampNeg ((T307.2.2.1 581 (i1 : Int32).toNatClampNeg) + 0)) kk)
                refine r_cne dX12_addStep_201 rfl (fun c201_52 => ?_) (fun c201_52 => ?_)
                · refine r_in (R := rV) c201_52 ?_
                  have kk := kk.2 c201_52
                  show tR _ _ _ _ [some (.ref (571 : Nat)), some (.int l1), some (.int l2), some (.int l3), some (.int l4), some (.int l5), some (.int v6), some (.int i1)] [.int (T307.2.2.1 581 (i1 : Int32).toNatClampNeg), .int i1, .ref (581 : Nat)] _ _ _
                  exact (hJ9  kk)
                · refine r_ip (R := rV) c201_52 ?_
                  have kk := kk.1 c201_52
                  refine r_p (pc2 := 206) dX12_addStep_204 rfl rfl ?_
                  refine r_ine dX12_addStep_206 rfl (fun c206_53 => ?_) (fun c206_53 => ?_)
                  · refine r_in (R := rV) c206_53 ?_
                    have kk := kk.2 c206_53
                    show tR _ _ _ _ [some (.ref (571 : Nat)), some (.int l1), some (.int l2), some (.int l3), some (.int l4), some (.int l5), some (.int v6), some (.int i1)] [.int (T307.2.2.1 581 (i1 : Int32).toNatClampNeg), .int i1, .ref (581 : Nat)] _ _ _
                    exact (hJ9  kk)
                  · refine r_ip (R := rV) c206_53 ?_
                    have kk := kk.1 c206_53
                    show tR _ _ _ _ [some (.ref (571 : Nat)), some (.int l1), some (.int l2), some (.int l3), some (.int l4), some (.int l5), some (.int v6), some (.int i1)] [.int (T307.2.2.1 581 (i1 : Int32).toNatClampNeg), .int i1, .ref (581 : Nat)] _ _ _
                    exact (hJ8  kk)
            refine r_cne dX12_addStep_84 rfl (fun c84_54 => ?_) (fun c84_54 => ?_)
            · refine r_in (R := rV) c84_54 ?_
              have kk := kk.2 c84_54
              show tR _ _ _ _ [some (.ref (571 : Nat)), some (.int l1), some (.int l2), some (.int l3), some (.int l4), some (.int l5), some (.int v6), some (.int i1)] [] _ _ _
              exact (hJ7 T25 kk)
            · refine r_ip (R := rV) c84_54 ?_
              have kk := kk.1 c84_54
              refine r_p (pc2 := 88) dX12_addStep_87 rfl rfl ?_
              refine r_get dX12_addStep_88 fkX12_34 rfl rfl ?_
              refine r_p (pc2 := 93) dX12_addStep_91 rfl rfl ?_
              refine r_p (pc2 := 94) dX12_addStep_93 rfl rfl ?_
              refine r_ia dX12_addStep_94 rfl q2 ?_
              refine r_ci (x := 1) dX12_addStep_95 rfl ?_
              refine r_p (pc2 := 97) dX12_addStep_96 rfl rfl ?_
              refine r_ias dX12_addStep_97 rfl q2 ?_
              refine r_p (pc2 := 99) dX12_addStep_98 rfl rfl ?_
              refine r_get dX12_addStep_99 fkX12_43 rfl rfl ?_
              refine r_p (pc2 := 104) dX12_addStep_102 rfl rfl ?_
              refine r_p (pc2 := 105) dX12_addStep_104 rfl rfl ?_
              refine r_p (pc2 := 106) dX12_addStep_105 rfl rfl ?_
              refine r_ci (x := 4) dX12_addStep_106 rfl ?_
              obtain ⟨q23, kk⟩ := kk
              refine r_cv (d1 := 1) dX12_addStep_107 cvX12_232 rfl rfl rfl rfl (Nat.le_of_ble_eq_true rfl) (Nat.le_of_ble_eq_true rfl) (Nat.le_of_ble_eq_true rfl) (c_m_stepOf l2 4 q23) ?_
              refine r_p (pc2 := 111) dX12_addStep_110 rfl rfl ?_
              refine r_get dX12_addStep_111 fkX12_43 rfl rfl ?_
              refine r_p (pc2 := 116) dX12_addStep_114 rfl rfl ?_
              refine r_ia dX12_addStep_116 rfl q2 ?_
              refine r_jn (R := rV) (J := fun (KJ10 : Int32 → St) (OJ10 : Int32 → Prop) => ∀ (j10_s2 : Int32), OJ10 j10_s2 → tR X 1 mX12_addStep 136 [some (.ref (571 : Nat)), some (.int l1), some (.int l2), some (.int l3), some (.int l4), some (.int l5), some (.int v6), some (.int i1)] [.int j10_s2, .int i1, .ref (583 : Nat)] (sA T25 580 (i1 : Int32).toNatClampNeg ((T25.2.2.1 580 (i1 : Int32).toNatClampNeg) + 1)) (rV (KJ10 j10_s2)).1 (rV (KJ10 j10_s2)).2) kk (fun j10_s2 kk => ?_) (fun KJ10 OJ10 hJ10 kk => ?_)
              · skip
                refine r_ias dX12_addStep_136 rfl q2 ?_
                refine r_nT (R := rV) rfl kk (fun T28 kk => ?_)
                refine r_p (pc2 := 138) dX12_addStep_137 rfl rfl ?_
                refine r_get dX12_addStep_138 fkX12_46 rfl rfl ?_
                refine r_p (pc2 := 143) dX12_addStep_141 rfl rfl ?_
                refine r_p (pc2 := 144) dX12_addStep_143 rfl rfl ?_
                refine r_p (pc2 := 145) dX12_addStep_144 rfl rfl ?_
                refine r_ci (x := 5) dX12_addStep_145 rfl ?_
                obtain ⟨q24, kk⟩ := kk
                refine r_cv (d1 := 1) dX12_addStep_146 cvX12_232 rfl rfl rfl rfl (Nat.le_of_ble_eq_true rfl) (Nat.le_of_ble_eq_true rfl) (Nat.le_of_ble_eq_true rfl) (c_m_stepOf l2 5 q24) ?_
                refine r_p (pc2 := 150) dX12_addStep_149 rfl rfl ?_
                refine r_get dX12_addStep_150 fkX12_46 rfl rfl ?_
                refine r_p (pc2 := 155) dX12_addStep_153 rfl rfl ?_
                refine r_ia dX12_addStep_155 rfl q2 ?_
                refine r_cge dX12_addStep_156 rfl (fun c156_56 => ?_) (fun c156_56 => ?_)
                · refine r_ip (R := rV) c156_56 ?_
                  have kk := kk.1 c156_56
                  refine r_p (pc2 := 169) dX12_addStep_168 rfl rfl ?_
                  refine r_get dX12_addStep_169 fkX12_46 rfl rfl ?_
                  refine r_p (pc2 := 174) dX12_addStep_172 rfl rfl ?_
                  refine r_ia dX12_addStep_174 rfl q2 ?_
                  refine r_ias dX12_addStep_175 rfl q2 ?_
                  show tR _ _ _ _ [some (.ref (571 : Nat)), some (.int l1), some (.int l2), some (.int l3), some (.int l4), some (.int l5), some (.int v6), some (.int i1)] [] _ _ _
                  exact (hJ7 (sA T28 584 (i1 : Int32).toNatClampNeg (T28.2.2.1 584 (i1 : Int32).toNatClampNeg)) kk)
                · refine r_in (R := rV) c156_56 ?_
                  have kk := kk.2 c156_56
                  refine r_p (pc2 := 160) dX12_addStep_159 rfl rfl ?_
                  refine r_p (pc2 := 161) dX12_addStep_160 rfl rfl ?_
                  refine r_ci (x := 5) dX12_addStep_161 rfl ?_
                  refine r_cv (d1 := 1) dX12_addStep_162 cvX12_232 rfl rfl rfl rfl (Nat.le_of_ble_eq_true rfl) (Nat.le_of_ble_eq_true rfl) (Nat.le_of_ble_eq_true rfl) (c_m_stepOf l2 5 q24) ?_
                  refine r_go dX12_addStep_165 rfl ?_
                  refine r_ias dX12_addStep_175 rfl q2 ?_
                  show tR _ _ _ _ [some (.ref (571 : Nat)), some (.int l1), some (.int l2), some (.int l3), some (.int l4), some (.int l5), some (.int v6), some (.int i1)] [] _ _ _
                  exact (hJ7 (sA T28 584 (i1 : Int32).toNatClampNeg (x_m_stepOf T28 l2 5)) kk)
              refine r_cle dX12_addStep_117 rfl (fun c117_57 => ?_) (fun c117_57 => ?_)
              · refine r_ip (R := rV) c117_57 ?_
                have kk := kk.1 c117_57
                refine r_p (pc2 := 130) dX12_addStep_129 rfl rfl ?_
                refine r_get dX12_addStep_130 fkX12_43 rfl rfl ?_
                refine r_p (pc2 := 135) dX12_addStep_133 rfl rfl ?_
                refine r_ia dX12_addStep_135 rfl q2 ?_
                show tR _ _ _ _ [some (.ref (571 : Nat)), some (.int l1), some (.int l2), some (.int l3), some (.int l4), some (.int l5), some (.int v6), some (.int i1)] [.int ((sA T25 580 (i1 : Int32).toNatClampNeg ((T25.2.2.1 580 (i1 : Int32).toNatClampNeg) + 1)).2.2.1 583 (i1 : Int32).toNatClampNeg), .int i1, .ref (583 : Nat)] _ _ _
                exact (hJ10 ((sA T25 580 (i1 : Int32).toNatClampNeg ((T25.2.2.1 580 (i1 : Int32).toNatClampNeg) + 1)).2.2.1 583 (i1 : Int32).toNatClampNeg) kk)
              · refine r_in (R := rV) c117_57 ?_
                have kk := kk.2 c117_57
                refine r_p (pc2 := 121) dX12_addStep_120 rfl rfl ?_
                refine r_p (pc2 := 122) dX12_addStep_121 rfl rfl ?_
                refine r_ci (x := 4) dX12_addStep_122 rfl ?_
                refine r_cv (d1 := 1) dX12_addStep_123 cvX12_232 rfl rfl rfl rfl (Nat.le_of_ble_eq_true rfl) (Nat.le_of_ble_eq_true rfl) (Nat.le_of_ble_eq_true rfl) (c_m_stepOf l2 4 q23) ?_
                refine r_go dX12_addStep_126 rfl ?_
                show tR _ _ _ _ [some (.ref (571 : Nat)), some (.int l1), some (.int l2), some (.int l3), some (.int l4), some (.int l5), some (.int v6), some (.int i1)] [.int (x_m_stepOf (sA T25 580 (i1 : Int32).toNatClampNeg ((T25.2.2.1 580 (i1 : Int32).toNatClampNeg) + 1)) l2 4), .int i1, .ref (583 : Nat)] _ _ _
                exact (hJ10 (x_m_stepOf (sA T25 580 (i1 : Int32).toNatClampNeg ((T25.2.2.1 580 (i1 : Int32).toNatClampNeg) + 1)) l2 4) kk)
      refine r_cne dX12_addStep_40 rfl (fun c40_58 => ?_) (fun c40_58 => ?_)
      · refine r_in (R := rV) c40_58 ?_
        have kk := kk.2 c40_58
        refine r_ci (x := 0) dX12_addStep_47 rfl ?_
        show tR _ _ _ _ [some (.ref (571 : Nat)), some (.int l1), some (.int l2), some (.int l3), some (.int l4), some (.int l5), some (.int v6), some (.int i1)] [.int 0, .int (T.2.2.1 579 (i1 : Int32).toNatClampNeg), .int i1, .ref (579 : Nat)] _ _ _
        exact (hJ1 0 kk)
      · refine r_ip (R := rV) c40_58 ?_
        have kk := kk.1 c40_58
        refine r_ci (x := 1) dX12_addStep_43 rfl ?_
        refine r_go dX12_addStep_44 rfl ?_
        show tR _ _ _ _ [some (.ref (571 : Nat)), some (.int l1), some (.int l2), some (.int l3), some (.int l4), some (.int l5), some (.int v6), some (.int i1)] [.int 1, .int (T.2.2.1 579 (i1 : Int32).toNatClampNeg), .int i1, .ref (579 : Nat)] _ _ _
        exact (hJ1 1 kk)
def x_m_addStep (T : St) (p0 : Int32) (p1 : Int32) (p2 : Int32) (p3 : Int32) : St := x_m_addStep_11 p0 p1 p2 p3 (x_m_stepOf T p1 0) (fun (w1_6 : Int32) (T201 : St) => T201) 1000 0 T
def ok_m_addStep (T : St) (p0 : Int32) (p1 : Int32) (p2 : Int32) (p3 : Int32) : Prop := (ok_m_stepOf T p1 0) ∧ ok_m_addStep_11 p0 p1 p2 p3 (x_m_stepOf T p1 0) (fun (w1_6 : Int32) (T201 : St) => True) 1000 0 T
theorem c_m_addStep {X : Nat × (Nat → Int32)} {T : St} (p0 : Int32) (p1 : Int32) (p2 : Int32) (p3 : Int32) (kk : ok_m_addStep T p0 p1 p2 p3) : tC X 2 mX12_addStep [.ref (571 : Nat), .int p0, .int p1, .int p2, .int p3] T none (x_m_addStep T p0 p1 p2 p3) := by
  unfold ok_m_addStep at kk
  refine tC_orV (L := [some (.ref (571 : Nat)), some (.int p0), some (.int p1), some (.int p2), some (.int p3), none, none, none]) (x_m_addStep T p0 p1 p2 p3) rfl ?_
  unfold x_m_addStep
  refine r_p (pc2 := 1) dX12_addStep_0 rfl rfl ?_
  refine r_p (pc2 := 2) dX12_addStep_1 rfl rfl ?_
  refine r_ci (x := 0) dX12_addStep_2 rfl ?_
  obtain ⟨q1, kk⟩ := kk
  refine r_cv (d1 := 1) dX12_addStep_3 cvX12_232 rfl rfl rfl rfl (Nat.le_of_ble_eq_true rfl) (Nat.le_of_ble_eq_true rfl) (Nat.le_of_ble_eq_true rfl) (c_m_stepOf p1 0 q1) ?_
  refine r_p (pc2 := 8) (L2 := [some (.ref (571 : Nat)), some (.int p0), some (.int p1), some (.int p2), some (.int p3), some (.int (x_m_stepOf T p1 0)), none, none]) dX12_addStep_6 rfl rfl ?_
  refine r_ci (x := 0) dX12_addStep_8 rfl ?_
  refine r_p (pc2 := 11) (L2 := [some (.ref (571 : Nat)), some (.int p0), some (.int p1), some (.int p2), some (.int p3), some (.int (x_m_stepOf T p1 0)), some (.int 0), none]) dX12_addStep_9 rfl rfl ?_
  show tR _ _ _ _ [some (.ref (571 : Nat)), some (.int p0), some (.int p1), some (.int p2), some (.int p3), some (.int (x_m_stepOf T p1 0)), some (.int 0), none] _ _ _ _
  refine (c_m_addStep_11 p0 p1 p2 p3 (x_m_stepOf T p1 0) (fun w1_6 T201 kk => ?_) 1000 0 T kk)
  · skip
    exact r_qV dX12_addStep_222 rfl rfl
