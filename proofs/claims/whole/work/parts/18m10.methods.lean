def x_m_least (T : St) (p0 : Int32) (p1 : Int32) : Int32 × St := if (x_m_isBy (sF T 571 0 0) p0) = 0 then ((-1000001), sF T 571 0 0) else (if (-1) ≤ p1 then (if ((sF T 571 0 0).1 571 7) = 0 then ((-1000002), sF T 571 0 0) else (if ((x_m_know (sF T 571 0 0) p0).1) = 0 then ((-1000000), (x_m_know (sF T 571 0 0) p0).2) else (if p1 = (-1) then (((x_m_know (sF T 571 0 0) p0).2).1 571 36, (x_m_know (sF T 571 0 0) p0).2) else (if (x_m_bits ((x_m_know (sF T 571 0 0) p0).2) (((x_m_know (sF T 571 0 0) p0).2).2.2.1 575 (202 : Int32).toNatClampNeg)) ≤ p1 then ((-1000000), (x_m_know (sF T 571 0 0) p0).2) else (((x_m_know (sF T 571 0 0) p0).2).2.2.1 592 (p1 : Int32).toNatClampNeg, (x_m_know (sF T 571 0 0) p0).2))))) else ((-1000001), sF T 571 0 0))
def ok_m_least (T : St) (p0 : Int32) (p1 : Int32) : Prop := (¬ (x_m_isBy (sF T 571 0 0) p0) = 0 → ((-1) ≤ p1 → (¬ ((sF T 571 0 0).1 571 7) = 0 → (ok_m_know (sF T 571 0 0) p0) ∧ (¬ ((x_m_know (sF T 571 0 0) p0).1) = 0 → (¬ p1 = (-1) → (ok_m_bits ((x_m_know (sF T 571 0 0) p0).2) (((x_m_know (sF T 571 0 0) p0).2).2.2.1 575 (202 : Int32).toNatClampNeg)) ∧ (¬ (x_m_bits ((x_m_know (sF T 571 0 0) p0).2) (((x_m_know (sF T 571 0 0) p0).2).2.2.1 575 (202 : Int32).toNatClampNeg)) ≤ p1 → (vp_in p1 4) ∧ True))))))
theorem c_m_least {X : Nat × (Nat → Int32)} {T : St} (p0 : Int32) (p1 : Int32) (kk : ok_m_least T p0 p1) : tC X 7 mX12_least [.ref (571 : Nat), .int p0, .int p1] T (some (.int (x_m_least T p0 p1).1)) ((x_m_least T p0 p1).2) := by
  unfold ok_m_least at kk
  refine tC_orI (L := [some (.ref (571 : Nat)), some (.int p0), some (.int p1)]) (x_m_least T p0 p1) rfl ?_
  unfold x_m_least
  refine r_p (pc2 := 1) dX12_least_0 rfl rfl ?_
  refine r_ci (x := 0) dX12_least_1 rfl ?_
  refine r_put dX12_least_2 fkX12_101 rfl rfl rfl (Nat.le_of_ble_eq_true rfl) rfl rfl ?_
  refine r_p (pc2 := 6) dX12_least_5 rfl rfl ?_
  refine r_cs (d1 := 2) dX12_least_6 csX12_318 rfl rfl (Nat.le_of_ble_eq_true rfl) (Nat.le_of_ble_eq_true rfl) (Nat.le_of_ble_eq_true rfl) (c_m_isBy p0) ?_
  refine r_ieq dX12_least_9 rfl (fun c9_1 => ?_) (fun c9_1 => ?_)
  · refine r_ip (R := rI) c9_1 ?_
    refine r_k dX12_least_17 kkX12_121 ?_
    exact r_qI dX12_least_19 rfl rfl rfl rfl
  · refine r_in (R := rI) c9_1 ?_
    have kk := kk c9_1
    refine r_p (pc2 := 13) dX12_least_12 rfl rfl ?_
    refine r_ci (x := -1) dX12_least_13 rfl ?_
    refine r_cge dX12_least_14 rfl (fun c14_2 => ?_) (fun c14_2 => ?_)
    · refine r_ip (R := rI) c14_2 ?_
      have kk := kk c14_2
      refine r_p (pc2 := 21) dX12_least_20 rfl rfl ?_
      refine r_get dX12_least_21 fkX12_221 rfl rfl ?_
      refine r_ine dX12_least_24 rfl (fun c24_3 => ?_) (fun c24_3 => ?_)
      · refine r_in (R := rI) c24_3 ?_
        have kk := kk c24_3
        refine r_p (pc2 := 31) dX12_least_30 rfl rfl ?_
        refine r_p (pc2 := 32) dX12_least_31 rfl rfl ?_
        obtain ⟨q1, kk⟩ := kk
        refine r_cv (d1 := 6) dX12_least_32 cvX12_321 rfl rfl rfl rfl (Nat.le_of_ble_eq_true rfl) (Nat.le_of_ble_eq_true rfl) (Nat.le_of_ble_eq_true rfl) (c_m_know p0 q1) ?_
        refine r_ine dX12_least_35 rfl (fun c35_4 => ?_) (fun c35_4 => ?_)
        · refine r_in (R := rI) c35_4 ?_
          have kk := kk c35_4
          refine r_p (pc2 := 42) dX12_least_41 rfl rfl ?_
          refine r_ci (x := -1) dX12_least_42 rfl ?_
          refine r_cne dX12_least_43 rfl (fun c43_5 => ?_) (fun c43_5 => ?_)
          · refine r_in (R := rI) c43_5 ?_
            have kk := kk c43_5
            refine r_p (pc2 := 54) dX12_least_53 rfl rfl ?_
            refine r_p (pc2 := 55) dX12_least_54 rfl rfl ?_
            refine r_get dX12_least_55 fkX12_19 rfl rfl ?_
            refine r_csi (x := 202) dX12_least_58 rfl ?_
            refine r_ia dX12_least_61 rfl (in_c (by decide)) ?_
            obtain ⟨q2, kk⟩ := kk
            refine r_cs (d1 := 1) dX12_least_62 csX12_263 rfl rfl (Nat.le_of_ble_eq_true rfl) (Nat.le_of_ble_eq_true rfl) (Nat.le_of_ble_eq_true rfl) (c_m_bits (((x_m_know (sF T 571 0 0) p0).2).2.2.1 575 (202 : Int32).toNatClampNeg) q2) ?_
            refine r_cge dX12_least_65 rfl (fun c65_6 => ?_) (fun c65_6 => ?_)
            · refine r_ip (R := rI) c65_6 ?_
              refine r_k dX12_least_77 kkX12_137 ?_
              exact r_qI dX12_least_79 rfl rfl rfl rfl
            · refine r_in (R := rI) c65_6 ?_
              have kk := kk c65_6
              refine r_p (pc2 := 69) dX12_least_68 rfl rfl ?_
              refine r_get dX12_least_69 fkX12_70 rfl rfl ?_
              refine r_p (pc2 := 73) dX12_least_72 rfl rfl ?_
              obtain ⟨q3, kk⟩ := kk
              refine r_ia dX12_least_73 rfl q3 ?_
              refine r_go dX12_least_74 rfl ?_
              exact r_qI dX12_least_79 rfl rfl rfl rfl
          · refine r_ip (R := rI) c43_5 ?_
            refine r_p (pc2 := 47) dX12_least_46 rfl rfl ?_
            refine r_get dX12_least_47 fkX12_312 rfl rfl ?_
            refine r_go dX12_least_50 rfl ?_
            exact r_qI dX12_least_79 rfl rfl rfl rfl
        · refine r_ip (R := rI) c35_4 ?_
          refine r_k dX12_least_38 kkX12_137 ?_
          exact r_qI dX12_least_40 rfl rfl rfl rfl
      · refine r_ip (R := rI) c24_3 ?_
        refine r_k dX12_least_27 kkX12_253 ?_
        exact r_qI dX12_least_29 rfl rfl rfl rfl
    · refine r_in (R := rI) c14_2 ?_
      refine r_k dX12_least_17 kkX12_121 ?_
      exact r_qI dX12_least_19 rfl rfl rfl rfl
def x_m_begins (T : St) (p0 : Int32) (p1 : Int32) : Int32 × St := if (x_m_isBy (sF T 571 0 0) p0) = 0 then ((-1000001), sF T 571 0 0) else (if 0 ≤ p1 then (if ((sF T 571 0 0).1 571 7) = 0 then ((-1000002), sF T 571 0 0) else (if ((x_m_know (sF T 571 0 0) p0).1) = 0 then ((-1000000), (x_m_know (sF T 571 0 0) p0).2) else (if (((x_m_know (sF T 571 0 0) p0).2).1 571 39) ≤ p1 then ((-1000000), (x_m_know (sF T 571 0 0) p0).2) else (((x_m_know (sF T 571 0 0) p0).2).2.2.1 595 (p1 : Int32).toNatClampNeg, (x_m_know (sF T 571 0 0) p0).2)))) else ((-1000001), sF T 571 0 0))
def ok_m_begins (T : St) (p0 : Int32) (p1 : Int32) : Prop := (¬ (x_m_isBy (sF T 571 0 0) p0) = 0 → (0 ≤ p1 → (¬ ((sF T 571 0 0).1 571 7) = 0 → (ok_m_know (sF T 571 0 0) p0) ∧ (¬ ((x_m_know (sF T 571 0 0) p0).1) = 0 → (¬ (((x_m_know (sF T 571 0 0) p0).2).1 571 39) ≤ p1 → (vp_in p1 12) ∧ True)))))
theorem c_m_begins {X : Nat × (Nat → Int32)} {T : St} (p0 : Int32) (p1 : Int32) (kk : ok_m_begins T p0 p1) : tC X 7 mX12_begins [.ref (571 : Nat), .int p0, .int p1] T (some (.int (x_m_begins T p0 p1).1)) ((x_m_begins T p0 p1).2) := by
  unfold ok_m_begins at kk
  refine tC_orI (L := [some (.ref (571 : Nat)), some (.int p0), some (.int p1)]) (x_m_begins T p0 p1) rfl ?_
  unfold x_m_begins
  refine r_p (pc2 := 1) dX12_begins_0 rfl rfl ?_
  refine r_ci (x := 0) dX12_begins_1 rfl ?_
  refine r_put dX12_begins_2 fkX12_101 rfl rfl rfl (Nat.le_of_ble_eq_true rfl) rfl rfl ?_
  refine r_p (pc2 := 6) dX12_begins_5 rfl rfl ?_
  refine r_cs (d1 := 2) dX12_begins_6 csX12_318 rfl rfl (Nat.le_of_ble_eq_true rfl) (Nat.le_of_ble_eq_true rfl) (Nat.le_of_ble_eq_true rfl) (c_m_isBy p0) ?_
  refine r_ieq dX12_begins_9 rfl (fun c9_1 => ?_) (fun c9_1 => ?_)
  · refine r_ip (R := rI) c9_1 ?_
    refine r_k dX12_begins_16 kkX12_121 ?_
    exact r_qI dX12_begins_18 rfl rfl rfl rfl
  · refine r_in (R := rI) c9_1 ?_
    have kk := kk c9_1
    refine r_p (pc2 := 13) dX12_begins_12 rfl rfl ?_
    refine r_ige dX12_begins_13 rfl (fun c13_2 => ?_) (fun c13_2 => ?_)
    · refine r_ip (R := rI) c13_2 ?_
      have kk := kk c13_2
      refine r_p (pc2 := 20) dX12_begins_19 rfl rfl ?_
      refine r_get dX12_begins_20 fkX12_221 rfl rfl ?_
      refine r_ine dX12_begins_23 rfl (fun c23_3 => ?_) (fun c23_3 => ?_)
      · refine r_in (R := rI) c23_3 ?_
        have kk := kk c23_3
        refine r_p (pc2 := 30) dX12_begins_29 rfl rfl ?_
        refine r_p (pc2 := 31) dX12_begins_30 rfl rfl ?_
        obtain ⟨q1, kk⟩ := kk
        refine r_cv (d1 := 6) dX12_begins_31 cvX12_321 rfl rfl rfl rfl (Nat.le_of_ble_eq_true rfl) (Nat.le_of_ble_eq_true rfl) (Nat.le_of_ble_eq_true rfl) (c_m_know p0 q1) ?_
        refine r_ieq dX12_begins_34 rfl (fun c34_4 => ?_) (fun c34_4 => ?_)
        · refine r_ip (R := rI) c34_4 ?_
          refine r_k dX12_begins_54 kkX12_137 ?_
          exact r_qI dX12_begins_56 rfl rfl rfl rfl
        · refine r_in (R := rI) c34_4 ?_
          have kk := kk c34_4
          refine r_p (pc2 := 38) dX12_begins_37 rfl rfl ?_
          refine r_p (pc2 := 39) dX12_begins_38 rfl rfl ?_
          refine r_get dX12_begins_39 fkX12_302 rfl rfl ?_
          refine r_cge dX12_begins_42 rfl (fun c42_5 => ?_) (fun c42_5 => ?_)
          · refine r_ip (R := rI) c42_5 ?_
            refine r_k dX12_begins_54 kkX12_137 ?_
            exact r_qI dX12_begins_56 rfl rfl rfl rfl
          · refine r_in (R := rI) c42_5 ?_
            have kk := kk c42_5
            refine r_p (pc2 := 46) dX12_begins_45 rfl rfl ?_
            refine r_get dX12_begins_46 fkX12_79 rfl rfl ?_
            refine r_p (pc2 := 50) dX12_begins_49 rfl rfl ?_
            obtain ⟨q2, kk⟩ := kk
            refine r_ia dX12_begins_50 rfl q2 ?_
            refine r_go dX12_begins_51 rfl ?_
            exact r_qI dX12_begins_56 rfl rfl rfl rfl
      · refine r_ip (R := rI) c23_3 ?_
        refine r_k dX12_begins_26 kkX12_253 ?_
        exact r_qI dX12_begins_28 rfl rfl rfl rfl
    · refine r_in (R := rI) c13_2 ?_
      refine r_k dX12_begins_16 kkX12_121 ?_
      exact r_qI dX12_begins_18 rfl rfl rfl rfl
def x_m_seven (T : St) (p0 : Int32) : Int32 × St := if (x_m_isBy (sF T 571 0 0) p0) = 0 then ((-1000001), sF T 571 0 0) else (if ((sF T 571 0 0).1 571 7) = 0 then ((-1000002), sF T 571 0 0) else (jn (fun (T1 : St) => if ((x_m_seek (sF (sF T 571 0 0) 571 32 0) ((sF (sF T 571 0 0) 571 32 0).2.2.1 575 (202 : Int32).toNatClampNeg) p0 ((sF (sF T 571 0 0) 571 32 0).2.2.1 575 (5 : Int32).toNatClampNeg) ((sF (sF T 571 0 0) 571 32 0).2.2.1 575 (203 : Int32).toNatClampNeg) 1 1).1) = 0 then (0, T1) else (1, T1)) ((x_m_seek (sF (sF T 571 0 0) 571 32 0) ((sF (sF T 571 0 0) 571 32 0).2.2.1 575 (202 : Int32).toNatClampNeg) p0 ((sF (sF T 571 0 0) 571 32 0).2.2.1 575 (5 : Int32).toNatClampNeg) ((sF (sF T 571 0 0) 571 32 0).2.2.1 575 (203 : Int32).toNatClampNeg) 1 1).2)))
def ok_m_seven (T : St) (p0 : Int32) : Prop := (¬ (x_m_isBy (sF T 571 0 0) p0) = 0 → (¬ ((sF T 571 0 0).1 571 7) = 0 → (ok_m_seek (sF (sF T 571 0 0) 571 32 0) ((sF (sF T 571 0 0) 571 32 0).2.2.1 575 (202 : Int32).toNatClampNeg) p0 ((sF (sF T 571 0 0) 571 32 0).2.2.1 575 (5 : Int32).toNatClampNeg) ((sF (sF T 571 0 0) 571 32 0).2.2.1 575 (203 : Int32).toNatClampNeg) 1 1) ∧ True))
theorem c_m_seven {X : Nat × (Nat → Int32)} {T : St} (p0 : Int32) (kk : ok_m_seven T p0) : tC X 6 mX12_seven [.ref (571 : Nat), .int p0] T (some (.int (x_m_seven T p0).1)) ((x_m_seven T p0).2) := by
  unfold ok_m_seven at kk
  refine tC_orI (L := [some (.ref (571 : Nat)), some (.int p0)]) (x_m_seven T p0) rfl ?_
  unfold x_m_seven
  refine r_p (pc2 := 1) dX12_seven_0 rfl rfl ?_
  refine r_ci (x := 0) dX12_seven_1 rfl ?_
  refine r_put dX12_seven_2 fkX12_101 rfl rfl rfl (Nat.le_of_ble_eq_true rfl) rfl rfl ?_
  refine r_p (pc2 := 6) dX12_seven_5 rfl rfl ?_
  refine r_cs (d1 := 2) dX12_seven_6 csX12_318 rfl rfl (Nat.le_of_ble_eq_true rfl) (Nat.le_of_ble_eq_true rfl) (Nat.le_of_ble_eq_true rfl) (c_m_isBy p0) ?_
  refine r_ine dX12_seven_9 rfl (fun c9_1 => ?_) (fun c9_1 => ?_)
  · refine r_in (R := rI) c9_1 ?_
    have kk := kk c9_1
    refine r_p (pc2 := 16) dX12_seven_15 rfl rfl ?_
    refine r_get dX12_seven_16 fkX12_221 rfl rfl ?_
    refine r_ine dX12_seven_19 rfl (fun c19_2 => ?_) (fun c19_2 => ?_)
    · refine r_in (R := rI) c19_2 ?_
      have kk := kk c19_2
      refine r_p (pc2 := 26) dX12_seven_25 rfl rfl ?_
      refine r_ci (x := 0) dX12_seven_26 rfl ?_
      refine r_put dX12_seven_27 fkX12_268 rfl rfl rfl (Nat.le_of_ble_eq_true rfl) rfl rfl ?_
      refine r_p (pc2 := 31) dX12_seven_30 rfl rfl ?_
      refine r_p (pc2 := 32) dX12_seven_31 rfl rfl ?_
      refine r_get dX12_seven_32 fkX12_19 rfl rfl ?_
      refine r_csi (x := 202) dX12_seven_35 rfl ?_
      refine r_ia dX12_seven_38 rfl (in_c (by decide)) ?_
      refine r_p (pc2 := 40) dX12_seven_39 rfl rfl ?_
      refine r_p (pc2 := 41) dX12_seven_40 rfl rfl ?_
      refine r_get dX12_seven_41 fkX12_19 rfl rfl ?_
      refine r_ci (x := 5) dX12_seven_44 rfl ?_
      refine r_ia dX12_seven_45 rfl (in_c (by decide)) ?_
      refine r_p (pc2 := 47) dX12_seven_46 rfl rfl ?_
      refine r_get dX12_seven_47 fkX12_19 rfl rfl ?_
      refine r_csi (x := 203) dX12_seven_50 rfl ?_
      refine r_ia dX12_seven_53 rfl (in_c (by decide)) ?_
      refine r_ci (x := 1) dX12_seven_54 rfl ?_
      refine r_ci (x := 1) dX12_seven_55 rfl ?_
      obtain ⟨q1, kk⟩ := kk
      refine r_cv (d1 := 5) dX12_seven_56 cvX12_305 rfl rfl rfl rfl (Nat.le_of_ble_eq_true rfl) (Nat.le_of_ble_eq_true rfl) (Nat.le_of_ble_eq_true rfl) (c_m_seek ((sF (sF T 571 0 0) 571 32 0).2.2.1 575 (202 : Int32).toNatClampNeg) p0 ((sF (sF T 571 0 0) 571 32 0).2.2.1 575 (5 : Int32).toNatClampNeg) ((sF (sF T 571 0 0) 571 32 0).2.2.1 575 (203 : Int32).toNatClampNeg) 1 1 q1) ?_
      refine r_nT0 (R := rI) rfl (fun T1 => ?_)
      refine r_ieq dX12_seven_59 rfl (fun c59_3 => ?_) (fun c59_3 => ?_)
      · refine r_ip (R := rI) c59_3 ?_
        refine r_ci (x := 0) dX12_seven_66 rfl ?_
        exact r_qI dX12_seven_67 rfl rfl rfl rfl
      · refine r_in (R := rI) c59_3 ?_
        refine r_ci (x := 1) dX12_seven_62 rfl ?_
        refine r_go dX12_seven_63 rfl ?_
        exact r_qI dX12_seven_67 rfl rfl rfl rfl
    · refine r_ip (R := rI) c19_2 ?_
      refine r_k dX12_seven_22 kkX12_253 ?_
      exact r_qI dX12_seven_24 rfl rfl rfl rfl
  · refine r_ip (R := rI) c9_1 ?_
    refine r_k dX12_seven_12 kkX12_121 ?_
    exact r_qI dX12_seven_14 rfl rfl rfl rfl
def x_m_canBe (T : St) (p0 : Int32) (p1 : Int32) (p2 : Int32) : Int32 × St := ((x_m_seek (sF T 571 32 0) p0 p1 p2 ((sF T 571 32 0).2.2.1 575 (203 : Int32).toNatClampNeg) 0 1).1, (x_m_seek (sF T 571 32 0) p0 p1 p2 ((sF T 571 32 0).2.2.1 575 (203 : Int32).toNatClampNeg) 0 1).2)
def ok_m_canBe (T : St) (p0 : Int32) (p1 : Int32) (p2 : Int32) : Prop := (ok_m_seek (sF T 571 32 0) p0 p1 p2 ((sF T 571 32 0).2.2.1 575 (203 : Int32).toNatClampNeg) 0 1) ∧ (((x_m_seek (sF T 571 32 0) p0 p1 p2 ((sF T 571 32 0).2.2.1 575 (203 : Int32).toNatClampNeg) 0 1).1 = 0 ∨ (x_m_seek (sF T 571 32 0) p0 p1 p2 ((sF T 571 32 0).2.2.1 575 (203 : Int32).toNatClampNeg) 0 1).1 = (1 : Int32))) ∧ True
theorem c_m_canBe {X : Nat × (Nat → Int32)} {T : St} (p0 : Int32) (p1 : Int32) (p2 : Int32) (kk : ok_m_canBe T p0 p1 p2) : tC X 6 mX12_canBe [.ref (571 : Nat), .int p0, .int p1, .int p2] T (some (.int (x_m_canBe T p0 p1 p2).1)) ((x_m_canBe T p0 p1 p2).2) := by
  unfold ok_m_canBe at kk
  refine tC_orI (L := [some (.ref (571 : Nat)), some (.int p0), some (.int p1), some (.int p2)]) (x_m_canBe T p0 p1 p2) rfl ?_
  unfold x_m_canBe
  refine r_p (pc2 := 1) dX12_canBe_0 rfl rfl ?_
  refine r_ci (x := 0) dX12_canBe_1 rfl ?_
  refine r_put dX12_canBe_2 fkX12_268 rfl rfl rfl (Nat.le_of_ble_eq_true rfl) rfl rfl ?_
  refine r_p (pc2 := 6) dX12_canBe_5 rfl rfl ?_
  refine r_p (pc2 := 7) dX12_canBe_6 rfl rfl ?_
  refine r_p (pc2 := 8) dX12_canBe_7 rfl rfl ?_
  refine r_p (pc2 := 9) dX12_canBe_8 rfl rfl ?_
  refine r_p (pc2 := 10) dX12_canBe_9 rfl rfl ?_
  refine r_get dX12_canBe_10 fkX12_19 rfl rfl ?_
  refine r_csi (x := 203) dX12_canBe_13 rfl ?_
  refine r_ia dX12_canBe_16 rfl (in_c (by decide)) ?_
  refine r_ci (x := 0) dX12_canBe_17 rfl ?_
  refine r_ci (x := 1) dX12_canBe_18 rfl ?_
  obtain ⟨q1, kk⟩ := kk
  refine r_cv (d1 := 5) dX12_canBe_19 cvX12_305 rfl rfl rfl rfl (Nat.le_of_ble_eq_true rfl) (Nat.le_of_ble_eq_true rfl) (Nat.le_of_ble_eq_true rfl) (c_m_seek p0 p1 p2 ((sF T 571 32 0).2.2.1 575 (203 : Int32).toNatClampNeg) 0 1 q1) ?_
  obtain ⟨q2, kk⟩ := kk
  exact r_qI dX12_canBe_22 rfl (nar_b q2) rfl rfl
def x_m_earliest_17  (K : Int32 → St → Int32 × St) : Nat → Int32 → St → Int32 × St
  | 0, _, T => (0, T)
  | f + 1, v1, T => if 61 ≤ v1 then (K v1 T) else (jn (fun (T1 : St) => if ((x_m_canBe T (T.2.2.1 575 (202 : Int32).toNatClampNeg) v1 (T.2.2.1 575 (5 : Int32).toNatClampNeg)).1) = 0 then (x_m_earliest_17 K f (v1 + 1) T1) else (v1, T1)) ((x_m_canBe T (T.2.2.1 575 (202 : Int32).toNatClampNeg) v1 (T.2.2.1 575 (5 : Int32).toNatClampNeg)).2))
def ok_m_earliest_17  (Kk : Int32 → St → Prop) : Nat → Int32 → St → Prop
  | 0, _, _ => False
  | f + 1, v1, T => ((61 ≤ v1 → Kk v1 T) ∧ (¬ 61 ≤ v1 → (ok_m_canBe T (T.2.2.1 575 (202 : Int32).toNatClampNeg) v1 (T.2.2.1 575 (5 : Int32).toNatClampNeg)) ∧ jn (fun (T1 : St) => (((x_m_canBe T (T.2.2.1 575 (202 : Int32).toNatClampNeg) v1 (T.2.2.1 575 (5 : Int32).toNatClampNeg)).1) = 0 → ok_m_earliest_17 Kk f (v1 + 1) T1)) ((x_m_canBe T (T.2.2.1 575 (202 : Int32).toNatClampNeg) v1 (T.2.2.1 575 (5 : Int32).toNatClampNeg)).2)))
theorem c_m_earliest_17 {X : Nat × (Nat → Int32)}  {K : Int32 → St → Int32 × St} {Kk : Int32 → St → Prop} (hk : ∀ (v1 : Int32) (T : St), Kk v1 T → tR X 6 mX12_earliest 53 [some (.ref (571 : Nat)), some (.int v1)] [] T (rI (K v1 T)).1 ((rI (K v1 T)).2)) : ∀ (f : Nat) (v1 : Int32) (T : St), ok_m_earliest_17  Kk f v1 T → tR X 6 mX12_earliest 17 [some (.ref (571 : Nat)), some (.int v1)] [] T (rI (x_m_earliest_17 K f v1 T)).1 ((rI (x_m_earliest_17 K f v1 T)).2) := by
  intro f
  induction f with
  | zero => intro v1 T kk; exact kk.elim
  | succ f ih =>
    intro v1 T kk
    rw [ok_m_earliest_17] at kk
    rw [x_m_earliest_17]
    refine r_p (pc2 := 18) dX12_earliest_17 rfl rfl ?_
    refine r_cb (x := 61) dX12_earliest_18 rfl ?_
    refine r_cge dX12_earliest_20 rfl (fun c20_2 => ?_) (fun c20_2 => ?_)
    · refine r_ip (R := rI) c20_2 ?_
      have kk := kk.1 c20_2
      show tR _ _ _ _ [some (.ref (571 : Nat)), some (.int v1)] _ _ _ _
      exact (hk v1 T kk)
    · refine r_in (R := rI) c20_2 ?_
      have kk := kk.2 c20_2
      refine r_p (pc2 := 24) dX12_earliest_23 rfl rfl ?_
      refine r_p (pc2 := 25) dX12_earliest_24 rfl rfl ?_
      refine r_get dX12_earliest_25 fkX12_19 rfl rfl ?_
      refine r_csi (x := 202) dX12_earliest_28 rfl ?_
      refine r_ia dX12_earliest_31 rfl (in_c (by decide)) ?_
      refine r_p (pc2 := 33) dX12_earliest_32 rfl rfl ?_
      refine r_p (pc2 := 34) dX12_earliest_33 rfl rfl ?_
      refine r_get dX12_earliest_34 fkX12_19 rfl rfl ?_
      refine r_ci (x := 5) dX12_earliest_37 rfl ?_
      refine r_ia dX12_earliest_38 rfl (in_c (by decide)) ?_
      obtain ⟨q1, kk⟩ := kk
      refine r_cv (d1 := 6) dX12_earliest_39 cvX12_324 rfl rfl rfl rfl (Nat.le_of_ble_eq_true rfl) (Nat.le_of_ble_eq_true rfl) (Nat.le_of_ble_eq_true rfl) (c_m_canBe (T.2.2.1 575 (202 : Int32).toNatClampNeg) v1 (T.2.2.1 575 (5 : Int32).toNatClampNeg) q1) ?_
      refine r_nT (R := rI) rfl kk (fun T1 kk => ?_)
      refine r_ieq dX12_earliest_42 rfl (fun c42_3 => ?_) (fun c42_3 => ?_)
      · refine r_ip (R := rI) c42_3 ?_
        have kk := kk c42_3
        refine r_inc (L2 := [some (.ref (571 : Nat)), some (.int (v1 + 1))]) (y := 1) dX12_earliest_47 rfl rfl rfl ?_
        refine r_go dX12_earliest_50 rfl ?_
        show tR _ _ _ _ [some (.ref (571 : Nat)), some (.int (v1 + 1))] _ _ _ _
        exact (ih (v1 + 1) T1 kk)
      · refine r_in (R := rI) c42_3 ?_
        refine r_p (pc2 := 46) dX12_earliest_45 rfl rfl ?_
        exact r_qI dX12_earliest_46 rfl rfl rfl rfl
def x_m_earliest (T : St)  : Int32 × St := if ((sF T 571 0 0).1 571 7) = 0 then ((-1000002), sF T 571 0 0) else (x_m_earliest_17  (fun (w1_1 : Int32) (T201 : St) => ((-1000000), T201)) 1000 1 (sF T 571 0 0))
def ok_m_earliest (T : St)  : Prop := (¬ ((sF T 571 0 0).1 571 7) = 0 → ok_m_earliest_17  (fun (w1_1 : Int32) (T201 : St) => True) 1000 1 (sF T 571 0 0))
theorem c_m_earliest {X : Nat × (Nat → Int32)} {T : St}  (kk : ok_m_earliest T ) : tC X 7 mX12_earliest [.ref (571 : Nat)] T (some (.int (x_m_earliest T).1)) ((x_m_earliest T).2) := by
  unfold ok_m_earliest at kk
  refine tC_orI (L := [some (.ref (571 : Nat)), none]) (x_m_earliest T ) rfl ?_
  unfold x_m_earliest
  refine r_p (pc2 := 1) dX12_earliest_0 rfl rfl ?_
  refine r_ci (x := 0) dX12_earliest_1 rfl ?_
  refine r_put dX12_earliest_2 fkX12_101 rfl rfl rfl (Nat.le_of_ble_eq_true rfl) rfl rfl ?_
  refine r_p (pc2 := 6) dX12_earliest_5 rfl rfl ?_
  refine r_get dX12_earliest_6 fkX12_221 rfl rfl ?_
  refine r_ine dX12_earliest_9 rfl (fun c9_1 => ?_) (fun c9_1 => ?_)
  · refine r_in (R := rI) c9_1 ?_
    have kk := kk c9_1
    refine r_ci (x := 1) dX12_earliest_15 rfl ?_
    refine r_p (pc2 := 17) (L2 := [some (.ref (571 : Nat)), some (.int 1)]) dX12_earliest_16 rfl rfl ?_
    show tR _ _ _ _ [some (.ref (571 : Nat)), some (.int 1)] _ _ _ _
    refine (c_m_earliest_17  (fun w1_1 T201 kk => ?_) 1000 1 (sF T 571 0 0) kk)
    · skip
      refine r_k dX12_earliest_53 kkX12_137 ?_
      exact r_qI dX12_earliest_55 rfl rfl rfl rfl
  · refine r_ip (R := rI) c9_1 ?_
    refine r_k dX12_earliest_12 kkX12_253 ?_
    exact r_qI dX12_earliest_14 rfl rfl rfl rfl
def x_m_endOf (T : St) (p0 : Int32) : Int32 := ((T.2.2.1 595 (p0 : Int32).toNatClampNeg) + (x_m_stepOf T (T.2.2.1 594 (p0 : Int32).toNatClampNeg) 1)) + (T.2.2.1 596 (p0 : Int32).toNatClampNeg)
def ok_m_endOf (T : St) (p0 : Int32) : Prop := (vp_in p0 12) ∧ (ok_m_stepOf T (T.2.2.1 594 (p0 : Int32).toNatClampNeg) 1) ∧ True
theorem c_m_endOf {X : Nat × (Nat → Int32)} {T : St} (p0 : Int32) (kk : ok_m_endOf T p0) : tC X 2 mX12_endOf [.ref (571 : Nat), .int p0] T (some (.int (x_m_endOf T p0))) T := by
  unfold ok_m_endOf at kk
  refine tC_orIp (L := [some (.ref (571 : Nat)), some (.int p0)]) (x_m_endOf T p0) rfl ?_
  unfold x_m_endOf
  refine r_p (pc2 := 1) dX12_endOf_0 rfl rfl ?_
  refine r_get dX12_endOf_1 fkX12_79 rfl rfl ?_
  refine r_p (pc2 := 5) dX12_endOf_4 rfl rfl ?_
  obtain ⟨q1, kk⟩ := kk
  refine r_ia dX12_endOf_5 rfl q1 ?_
  refine r_p (pc2 := 7) dX12_endOf_6 rfl rfl ?_
  refine r_p (pc2 := 8) dX12_endOf_7 rfl rfl ?_
  refine r_get dX12_endOf_8 fkX12_76 rfl rfl ?_
  refine r_p (pc2 := 12) dX12_endOf_11 rfl rfl ?_
  refine r_ia dX12_endOf_12 rfl q1 ?_
  refine r_ci (x := 1) dX12_endOf_13 rfl ?_
  obtain ⟨q2, kk⟩ := kk
  refine r_cv (d1 := 1) dX12_endOf_14 cvX12_232 rfl rfl rfl rfl (Nat.le_of_ble_eq_true rfl) (Nat.le_of_ble_eq_true rfl) (Nat.le_of_ble_eq_true rfl) (c_m_stepOf (T.2.2.1 594 (p0 : Int32).toNatClampNeg) 1 q2) ?_
  refine r_p (pc2 := 18) dX12_endOf_17 rfl rfl ?_
  refine r_p (pc2 := 19) dX12_endOf_18 rfl rfl ?_
  refine r_get dX12_endOf_19 fkX12_82 rfl rfl ?_
  refine r_p (pc2 := 23) dX12_endOf_22 rfl rfl ?_
  refine r_ia dX12_endOf_23 rfl q1 ?_
  refine r_p (pc2 := 25) dX12_endOf_24 rfl rfl ?_
  exact r_qIp dX12_endOf_25 rfl rfl rfl
def x_m_dishBy_4 (T : St) (l1 : Int32) (K : Int32 → Int32 → Int32) : Nat → Int32 → Int32 → Int32
  | 0, _, _ => 0
  | f + 1, v2, v3 => if (T.2.2.1 575 (16 : Int32).toNatClampNeg) ≤ v3 then (K v2 v3) else (if l1 < (x_m_dishOf T v3 4) then (x_m_dishBy_4 T l1 K f v2 (v3 + 1)) else (x_m_dishBy_4 T l1 K f v3 (v3 + 1)))
def ok_m_dishBy_4 (T : St) (l1 : Int32) (Kk : Int32 → Int32 → Prop) : Nat → Int32 → Int32 → Prop
  | 0, _, _ => False
  | f + 1, v2, v3 => (((T.2.2.1 575 (16 : Int32).toNatClampNeg) ≤ v3 → Kk v2 v3) ∧ (¬ (T.2.2.1 575 (16 : Int32).toNatClampNeg) ≤ v3 → (ok_m_dishOf T v3 4) ∧ ((l1 < (x_m_dishOf T v3 4) → ok_m_dishBy_4 T l1 Kk f v2 (v3 + 1)) ∧ (¬ l1 < (x_m_dishOf T v3 4) → ok_m_dishBy_4 T l1 Kk f v3 (v3 + 1)))))
theorem c_m_dishBy_4 {X : Nat × (Nat → Int32)} (T : St) (l1 : Int32) {K : Int32 → Int32 → Int32} {Kk : Int32 → Int32 → Prop} (hk : ∀ (v2 : Int32) (v3 : Int32), Kk v2 v3 → tR X 1 mX12_dishBy 37 [some (.ref (571 : Nat)), some (.int l1), some (.int v2), some (.int v3)] [] T ((rIp T) (K v2 v3)).1 (((rIp T) (K v2 v3)).2)) : ∀ (f : Nat) (v2 : Int32) (v3 : Int32), ok_m_dishBy_4 T l1 Kk f v2 v3 → tR X 1 mX12_dishBy 4 [some (.ref (571 : Nat)), some (.int l1), some (.int v2), some (.int v3)] [] T ((rIp T) (x_m_dishBy_4 T l1 K f v2 v3)).1 (((rIp T) (x_m_dishBy_4 T l1 K f v2 v3)).2) := by
  intro f
  induction f with
  | zero => intro v2 v3 kk; exact kk.elim
  | succ f ih =>
    intro v2 v3 kk
    rw [ok_m_dishBy_4] at kk
    rw [x_m_dishBy_4]
    refine r_p (pc2 := 5) dX12_dishBy_4 rfl rfl ?_
    refine r_p (pc2 := 6) dX12_dishBy_5 rfl rfl ?_
    refine r_get dX12_dishBy_6 fkX12_19 rfl rfl ?_
    refine r_cb (x := 16) dX12_dishBy_9 rfl ?_
    refine r_ia dX12_dishBy_11 rfl (in_c (by decide)) ?_
    refine r_cge dX12_dishBy_12 rfl (fun c12_1 => ?_) (fun c12_1 => ?_)
    · refine r_ip (R := (rIp T)) c12_1 ?_
      have kk := kk.1 c12_1
      show tR _ _ _ _ [some (.ref (571 : Nat)), some (.int l1), some (.int v2), some (.int v3)] _ _ _ _
      exact (hk v2 v3  kk)
    · refine r_in (R := (rIp T)) c12_1 ?_
      have kk := kk.2 c12_1
      refine r_p (pc2 := 16) dX12_dishBy_15 rfl rfl ?_
      refine r_p (pc2 := 17) dX12_dishBy_16 rfl rfl ?_
      refine r_p (pc2 := 18) dX12_dishBy_17 rfl rfl ?_
      refine r_ci (x := 4) dX12_dishBy_18 rfl ?_
      obtain ⟨q1, kk⟩ := kk
      refine r_cv (d1 := 1) dX12_dishBy_19 cvX12_228 rfl rfl rfl rfl (Nat.le_of_ble_eq_true rfl) (Nat.le_of_ble_eq_true rfl) (Nat.le_of_ble_eq_true rfl) (c_m_dishOf v3 4 q1) ?_
      refine r_clt dX12_dishBy_22 rfl (fun c22_2 => ?_) (fun c22_2 => ?_)
      · refine r_ip (R := (rIp T)) c22_2 ?_
        have kk := kk.1 c22_2
        refine r_p (pc2 := 30) dX12_dishBy_29 rfl rfl ?_
        refine r_p (pc2 := 31) (L2 := [some (.ref (571 : Nat)), some (.int l1), some (.int v2), some (.int v3)]) dX12_dishBy_30 rfl rfl ?_
        refine r_inc (L2 := [some (.ref (571 : Nat)), some (.int l1), some (.int v2), some (.int (v3 + 1))]) (y := 1) dX12_dishBy_31 rfl rfl rfl ?_
        refine r_go dX12_dishBy_34 rfl ?_
        show tR _ _ _ _ [some (.ref (571 : Nat)), some (.int l1), some (.int v2), some (.int (v3 + 1))] _ _ _ _
        exact (ih v2 (v3 + 1)  kk)
      · refine r_in (R := (rIp T)) c22_2 ?_
        have kk := kk.2 c22_2
        refine r_p (pc2 := 26) dX12_dishBy_25 rfl rfl ?_
        refine r_go dX12_dishBy_26 rfl ?_
        refine r_p (pc2 := 31) (L2 := [some (.ref (571 : Nat)), some (.int l1), some (.int v3), some (.int v3)]) dX12_dishBy_30 rfl rfl ?_
        refine r_inc (L2 := [some (.ref (571 : Nat)), some (.int l1), some (.int v3), some (.int (v3 + 1))]) (y := 1) dX12_dishBy_31 rfl rfl rfl ?_
        refine r_go dX12_dishBy_34 rfl ?_
        show tR _ _ _ _ [some (.ref (571 : Nat)), some (.int l1), some (.int v3), some (.int (v3 + 1))] _ _ _ _
        exact (ih v3 (v3 + 1)  kk)
def x_m_dishBy (T : St) (p0 : Int32) : Int32 := x_m_dishBy_4 T p0 (fun (w1_2 : Int32) (w1_3 : Int32) => w1_2) 1000 0 0
def ok_m_dishBy (T : St) (p0 : Int32) : Prop := ok_m_dishBy_4 T p0 (fun (w1_2 : Int32) (w1_3 : Int32) => True) 1000 0 0
theorem c_m_dishBy {X : Nat × (Nat → Int32)} {T : St} (p0 : Int32) (kk : ok_m_dishBy T p0) : tC X 2 mX12_dishBy [.ref (571 : Nat), .int p0] T (some (.int (x_m_dishBy T p0))) T := by
  unfold ok_m_dishBy at kk
  refine tC_orIp (L := [some (.ref (571 : Nat)), some (.int p0), none, none]) (x_m_dishBy T p0) rfl ?_
  unfold x_m_dishBy
  refine r_ci (x := 0) dX12_dishBy_0 rfl ?_
  refine r_p (pc2 := 2) (L2 := [some (.ref (571 : Nat)), some (.int p0), some (.int 0), none]) dX12_dishBy_1 rfl rfl ?_
  refine r_ci (x := 0) dX12_dishBy_2 rfl ?_
  refine r_p (pc2 := 4) (L2 := [some (.ref (571 : Nat)), some (.int p0), some (.int 0), some (.int 0)]) dX12_dishBy_3 rfl rfl ?_
  show tR _ _ _ _ [some (.ref (571 : Nat)), some (.int p0), some (.int 0), some (.int 0)] _ _ _ _
  refine (c_m_dishBy_4 T p0 (fun w1_2 w1_3 kk => ?_) 1000 0 0  kk)
  · skip
    refine r_p (pc2 := 38) dX12_dishBy_37 rfl rfl ?_
    exact r_qIp dX12_dishBy_38 rfl rfl rfl
def x_m_dinners_57 (l1 : Int32) (l2 : Int32) (l3 : Int32) (K : Int32 → Int32 → Int32 → St → Int32 × St) : Nat → Int32 → Int32 → Int32 → St → Int32 × St
  | 0, _, _, _, T => (0, T)
  | f + 1, v4, v5, v6, T => if (1 <<< ((T.2.2.1 575 (16 : Int32).toNatClampNeg) &&& 31)) ≤ v6 then (K v4 v5 v6 T) else (if 5 ≤ (x_m_bits T v6) then (x_m_dinners_57 l1 l2 l3 K f v4 v5 (v6 + 1) T) else (if ((x_m_canBe T v6 l2 l1).1) = 0 then (x_m_dinners_57 l1 l2 l3 K f v4 v5 (v6 + 1) ((x_m_canBe T v6 l2 l1).2)) else (jn (fun (KJ1 : Int32 × St) => if v5 = (-1000000) then (KJ1) else (if (x_m_bits ((x_m_canBe T v6 l2 l1).2) v6) ≤ (x_m_bits ((x_m_canBe T v6 l2 l1).2) v5) then (x_m_dinners_57 l1 l2 l3 K f (v4 + 1) v5 (v6 + 1) ((x_m_canBe T v6 l2 l1).2)) else (KJ1))) (x_m_dinners_57 l1 l2 l3 K f (v4 + 1) v6 (v6 + 1) ((x_m_canBe T v6 l2 l1).2)))))
def ok_m_dinners_57 (l1 : Int32) (l2 : Int32) (l3 : Int32) (Kk : Int32 → Int32 → Int32 → St → Prop) : Nat → Int32 → Int32 → Int32 → St → Prop
  | 0, _, _, _, _ => False
  | f + 1, v4, v5, v6, T => (((1 <<< ((T.2.2.1 575 (16 : Int32).toNatClampNeg) &&& 31)) ≤ v6 → Kk v4 v5 v6 T) ∧ (¬ (1 <<< ((T.2.2.1 575 (16 : Int32).toNatClampNeg) &&& 31)) ≤ v6 → (ok_m_bits T v6) ∧ ((5 ≤ (x_m_bits T v6) → ok_m_dinners_57 l1 l2 l3 Kk f v4 v5 (v6 + 1) T) ∧ (¬ 5 ≤ (x_m_bits T v6) → (ok_m_canBe T v6 l2 l1) ∧ ((((x_m_canBe T v6 l2 l1).1) = 0 → ok_m_dinners_57 l1 l2 l3 Kk f v4 v5 (v6 + 1) ((x_m_canBe T v6 l2 l1).2)) ∧ (¬ ((x_m_canBe T v6 l2 l1).1) = 0 → jn (fun (OJ1 : Prop) => ((v5 = (-1000000) → OJ1) ∧ (¬ v5 = (-1000000) → (ok_m_bits ((x_m_canBe T v6 l2 l1).2) v6) ∧ (ok_m_bits ((x_m_canBe T v6 l2 l1).2) v5) ∧ (((x_m_bits ((x_m_canBe T v6 l2 l1).2) v6) ≤ (x_m_bits ((x_m_canBe T v6 l2 l1).2) v5) → ok_m_dinners_57 l1 l2 l3 Kk f (v4 + 1) v5 (v6 + 1) ((x_m_canBe T v6 l2 l1).2)) ∧ (¬ (x_m_bits ((x_m_canBe T v6 l2 l1).2) v6) ≤ (x_m_bits ((x_m_canBe T v6 l2 l1).2) v5) → OJ1))))) (ok_m_dinners_57 l1 l2 l3 Kk f (v4 + 1) v6 (v6 + 1) ((x_m_canBe T v6 l2 l1).2))))))))
theorem c_m_dinners_57 {X : Nat × (Nat → Int32)} (l1 : Int32) (l2 : Int32) (l3 : Int32) {K : Int32 → Int32 → Int32 → St → Int32 × St} {Kk : Int32 → Int32 → Int32 → St → Prop} (hk : ∀ (v4 : Int32) (v5 : Int32) (v6 : Int32) (T : St), Kk v4 v5 v6 T → tR X 6 mX12_dinners 129 [some (.ref (571 : Nat)), some (.int l1), some (.int l2), some (.int l3), some (.int v4), some (.int v5), some (.int v6)] [] T (rI (K v4 v5 v6 T)).1 ((rI (K v4 v5 v6 T)).2)) : ∀ (f : Nat) (v4 : Int32) (v5 : Int32) (v6 : Int32) (T : St), ok_m_dinners_57 l1 l2 l3 Kk f v4 v5 v6 T → tR X 6 mX12_dinners 57 [some (.ref (571 : Nat)), some (.int l1), some (.int l2), some (.int l3), some (.int v4), some (.int v5), some (.int v6)] [] T (rI (x_m_dinners_57 l1 l2 l3 K f v4 v5 v6 T)).1 ((rI (x_m_dinners_57 l1 l2 l3 K f v4 v5 v6 T)).2) := by
  intro f
  induction f with
  | zero => intro v4 v5 v6 T kk; exact kk.elim
  | succ f ih =>
    intro v4 v5 v6 T kk
    rw [ok_m_dinners_57] at kk
    rw [x_m_dinners_57]
    refine r_p (pc2 := 59) dX12_dinners_57 rfl rfl ?_
    refine r_ci (x := 1) dX12_dinners_59 rfl ?_
    refine r_p (pc2 := 61) dX12_dinners_60 rfl rfl ?_
    refine r_get dX12_dinners_61 fkX12_19 rfl rfl ?_
    refine r_cb (x := 16) dX12_dinners_64 rfl ?_
    refine r_ia dX12_dinners_66 rfl (in_c (by decide)) ?_
    refine r_p (pc2 := 68) dX12_dinners_67 rfl rfl ?_
    refine r_cge dX12_dinners_68 rfl (fun c68_5 => ?_) (fun c68_5 => ?_)
    · refine r_ip (R := rI) c68_5 ?_
      have kk := kk.1 c68_5
      show tR _ _ _ _ [some (.ref (571 : Nat)), some (.int l1), some (.int l2), some (.int l3), some (.int v4), some (.int v5), some (.int v6)] _ _ _ _
      exact (hk v4 v5 v6 T kk)
    · refine r_in (R := rI) c68_5 ?_
      have kk := kk.2 c68_5
      refine r_p (pc2 := 73) dX12_dinners_71 rfl rfl ?_
      obtain ⟨q1, kk⟩ := kk
      refine r_cs (d1 := 1) dX12_dinners_73 csX12_263 rfl rfl (Nat.le_of_ble_eq_true rfl) (Nat.le_of_ble_eq_true rfl) (Nat.le_of_ble_eq_true rfl) (c_m_bits v6 q1) ?_
      refine r_ci (x := 5) dX12_dinners_76 rfl ?_
      refine r_cge dX12_dinners_77 rfl (fun c77_6 => ?_) (fun c77_6 => ?_)
      · refine r_ip (R := rI) c77_6 ?_
        have kk := kk.1 c77_6
        refine r_inc (L2 := [some (.ref (571 : Nat)), some (.int l1), some (.int l2), some (.int l3), some (.int v4), some (.int v5), some (.int (v6 + 1))]) (y := 1) dX12_dinners_123 rfl rfl rfl ?_
        refine r_go dX12_dinners_126 rfl ?_
        show tR _ _ _ _ [some (.ref (571 : Nat)), some (.int l1), some (.int l2), some (.int l3), some (.int v4), some (.int v5), some (.int (v6 + 1))] _ _ _ _
        exact (ih v4 v5 (v6 + 1) T kk)
      · refine r_in (R := rI) c77_6 ?_
        have kk := kk.2 c77_6
        refine r_p (pc2 := 81) dX12_dinners_80 rfl rfl ?_
        refine r_p (pc2 := 83) dX12_dinners_81 rfl rfl ?_
        refine r_p (pc2 := 84) dX12_dinners_83 rfl rfl ?_
        refine r_p (pc2 := 85) dX12_dinners_84 rfl rfl ?_
        obtain ⟨q2, kk⟩ := kk
        refine r_cv (d1 := 6) dX12_dinners_85 cvX12_324 rfl rfl rfl rfl (Nat.le_of_ble_eq_true rfl) (Nat.le_of_ble_eq_true rfl) (Nat.le_of_ble_eq_true rfl) (c_m_canBe v6 l2 l1 q2) ?_
        refine r_ieq dX12_dinners_88 rfl (fun c88_7 => ?_) (fun c88_7 => ?_)
        · refine r_ip (R := rI) c88_7 ?_
          have kk := kk.1 c88_7
          refine r_inc (L2 := [some (.ref (571 : Nat)), some (.int l1), some (.int l2), some (.int l3), some (.int v4), some (.int v5), some (.int (v6 + 1))]) (y := 1) dX12_dinners_123 rfl rfl rfl ?_
          refine r_go dX12_dinners_126 rfl ?_
          show tR _ _ _ _ [some (.ref (571 : Nat)), some (.int l1), some (.int l2), some (.int l3), some (.int v4), some (.int v5), some (.int (v6 + 1))] _ _ _ _
          exact (ih v4 v5 (v6 + 1) ((x_m_canBe T v6 l2 l1).2) kk)
        · refine r_in (R := rI) c88_7 ?_
          have kk := kk.2 c88_7
          refine r_inc (L2 := [some (.ref (571 : Nat)), some (.int l1), some (.int l2), some (.int l3), some (.int (v4 + 1)), some (.int v5), some (.int v6)]) (y := 1) dX12_dinners_91 rfl rfl rfl ?_
          refine r_p (pc2 := 96) dX12_dinners_94 rfl rfl ?_
          refine r_k dX12_dinners_96 kkX12_137 ?_
          refine r_jn (R := rI) (J := fun (KJ1 : Int32 × St) (OJ1 : Prop) => OJ1 → tR X 6 mX12_dinners 114 [some (.ref (571 : Nat)), some (.int l1), some (.int l2), some (.int l3), some (.int (v4 + 1)), some (.int v5), some (.int v6)] [] ((x_m_canBe T v6 l2 l1).2) (rI KJ1).1 (rI KJ1).2) kk (fun  kk => ?_) (fun KJ1 OJ1 hJ1 kk => ?_)
          · skip
            refine r_p (pc2 := 116) dX12_dinners_114 rfl rfl ?_
            refine r_go dX12_dinners_116 rfl ?_
            refine r_p (pc2 := 123) (L2 := [some (.ref (571 : Nat)), some (.int l1), some (.int l2), some (.int l3), some (.int (v4 + 1)), some (.int v6), some (.int v6)]) dX12_dinners_121 rfl rfl ?_
            refine r_inc (L2 := [some (.ref (571 : Nat)), some (.int l1), some (.int l2), some (.int l3), some (.int (v4 + 1)), some (.int v6), some (.int (v6 + 1))]) (y := 1) dX12_dinners_123 rfl rfl rfl ?_
            refine r_go dX12_dinners_126 rfl ?_
            show tR _ _ _ _ [some (.ref (571 : Nat)), some (.int l1), some (.int l2), some (.int l3), some (.int (v4 + 1)), some (.int v6), some (.int (v6 + 1))] _ _ _ _
            exact (ih (v4 + 1) v6 (v6 + 1) ((x_m_canBe T v6 l2 l1).2) kk)
          refine r_ceq dX12_dinners_98 rfl (fun c98_10 => ?_) (fun c98_10 => ?_)
          · refine r_ip (R := rI) c98_10 ?_
            have kk := kk.1 c98_10
            show tR _ _ _ _ [some (.ref (571 : Nat)), some (.int l1), some (.int l2), some (.int l3), some (.int (v4 + 1)), some (.int v5), some (.int v6)] [] _ _ _
            exact (hJ1  kk)
          · refine r_in (R := rI) c98_10 ?_
            have kk := kk.2 c98_10
            refine r_p (pc2 := 103) dX12_dinners_101 rfl rfl ?_
            obtain ⟨q5, kk⟩ := kk
            refine r_cs (d1 := 1) dX12_dinners_103 csX12_263 rfl rfl (Nat.le_of_ble_eq_true rfl) (Nat.le_of_ble_eq_true rfl) (Nat.le_of_ble_eq_true rfl) (c_m_bits v6 q5) ?_
            refine r_p (pc2 := 108) dX12_dinners_106 rfl rfl ?_
            obtain ⟨q6, kk⟩ := kk
            refine r_cs (d1 := 1) dX12_dinners_108 csX12_263 rfl rfl (Nat.le_of_ble_eq_true rfl) (Nat.le_of_ble_eq_true rfl) (Nat.le_of_ble_eq_true rfl) (c_m_bits v5 q6) ?_
            refine r_cle dX12_dinners_111 rfl (fun c111_11 => ?_) (fun c111_11 => ?_)
            · refine r_ip (R := rI) c111_11 ?_
              have kk := kk.1 c111_11
              refine r_p (pc2 := 121) dX12_dinners_119 rfl rfl ?_
              refine r_p (pc2 := 123) (L2 := [some (.ref (571 : Nat)), some (.int l1), some (.int l2), some (.int l3), some (.int (v4 + 1)), some (.int v5), some (.int v6)]) dX12_dinners_121 rfl rfl ?_
              refine r_inc (L2 := [some (.ref (571 : Nat)), some (.int l1), some (.int l2), some (.int l3), some (.int (v4 + 1)), some (.int v5), some (.int (v6 + 1))]) (y := 1) dX12_dinners_123 rfl rfl rfl ?_
              refine r_go dX12_dinners_126 rfl ?_
              show tR _ _ _ _ [some (.ref (571 : Nat)), some (.int l1), some (.int l2), some (.int l3), some (.int (v4 + 1)), some (.int v5), some (.int (v6 + 1))] _ _ _ _
              exact (ih (v4 + 1) v5 (v6 + 1) ((x_m_canBe T v6 l2 l1).2) kk)
            · refine r_in (R := rI) c111_11 ?_
              have kk := kk.2 c111_11
              show tR _ _ _ _ [some (.ref (571 : Nat)), some (.int l1), some (.int l2), some (.int l3), some (.int (v4 + 1)), some (.int v5), some (.int v6)] [] _ _ _
              exact (hJ1  kk)
def x_m_dinners (T : St) (p0 : Int32) (p1 : Int32) (p2 : Int32) : Int32 × St := if (x_m_in (sF T 571 0 0) ((p0 : Int32).toInt64) 1 3) = 0 then ((-1000001), sF T 571 0 0) else (if (x_m_isBy (sF T 571 0 0) p1) = 0 then ((-1000001), sF T 571 0 0) else (if (x_m_in (sF T 571 0 0) ((p2 : Int32).toInt64) 0 1) = 0 then ((-1000001), sF T 571 0 0) else (if ((sF T 571 0 0).1 571 7) = 0 then ((-1000002), sF T 571 0 0) else (x_m_dinners_57 p0 p1 p2 (fun (w1_4 : Int32) (w1_5 : Int32) (w1_6 : Int32) (T201 : St) => if p2 = 0 then (w1_4, T201) else (w1_5, T201)) 1000 0 (-1000000) 1 (sF T 571 0 0)))))
def ok_m_dinners (T : St) (p0 : Int32) (p1 : Int32) (p2 : Int32) : Prop := (¬ (x_m_in (sF T 571 0 0) ((p0 : Int32).toInt64) 1 3) = 0 → (¬ (x_m_isBy (sF T 571 0 0) p1) = 0 → (¬ (x_m_in (sF T 571 0 0) ((p2 : Int32).toInt64) 0 1) = 0 → (¬ ((sF T 571 0 0).1 571 7) = 0 → ok_m_dinners_57 p0 p1 p2 (fun (w1_4 : Int32) (w1_5 : Int32) (w1_6 : Int32) (T201 : St) => True) 1000 0 (-1000000) 1 (sF T 571 0 0)))))
theorem c_m_dinners {X : Nat × (Nat → Int32)} {T : St} (p0 : Int32) (p1 : Int32) (p2 : Int32) (kk : ok_m_dinners T p0 p1 p2) : tC X 7 mX12_dinners [.ref (571 : Nat), .int p0, .int p1, .int p2] T (some (.int (x_m_dinners T p0 p1 p2).1)) ((x_m_dinners T p0 p1 p2).2) := by
  unfold ok_m_dinners at kk
  refine tC_orI (L := [some (.ref (571 : Nat)), some (.int p0), some (.int p1), some (.int p2), none, none, none]) (x_m_dinners T p0 p1 p2) rfl ?_
  unfold x_m_dinners
  refine r_p (pc2 := 1) dX12_dinners_0 rfl rfl ?_
  refine r_ci (x := 0) dX12_dinners_1 rfl ?_
  refine r_put dX12_dinners_2 fkX12_101 rfl rfl rfl (Nat.le_of_ble_eq_true rfl) rfl rfl ?_
  refine r_p (pc2 := 6) dX12_dinners_5 rfl rfl ?_
  refine r_p (pc2 := 7) dX12_dinners_6 rfl rfl ?_
  refine r_cl (x := 1) dX12_dinners_7 rfl ?_
  refine r_kl dX12_dinners_8 klX12_346 ?_
  refine r_cs (d1 := 1) dX12_dinners_11 csX12_111 rfl rfl (Nat.le_of_ble_eq_true rfl) (Nat.le_of_ble_eq_true rfl) (Nat.le_of_ble_eq_true rfl) (c_m_in ((p0 : Int32).toInt64) 1 3) ?_
  refine r_ieq dX12_dinners_14 rfl (fun c14_1 => ?_) (fun c14_1 => ?_)
  · refine r_ip (R := rI) c14_1 ?_
    refine r_k dX12_dinners_34 kkX12_121 ?_
    exact r_qI dX12_dinners_36 rfl rfl rfl rfl
  · refine r_in (R := rI) c14_1 ?_
    have kk := kk c14_1
    refine r_p (pc2 := 18) dX12_dinners_17 rfl rfl ?_
    refine r_cs (d1 := 2) dX12_dinners_18 csX12_318 rfl rfl (Nat.le_of_ble_eq_true rfl) (Nat.le_of_ble_eq_true rfl) (Nat.le_of_ble_eq_true rfl) (c_m_isBy p1) ?_
    refine r_ieq dX12_dinners_21 rfl (fun c21_2 => ?_) (fun c21_2 => ?_)
    · refine r_ip (R := rI) c21_2 ?_
      refine r_k dX12_dinners_34 kkX12_121 ?_
      exact r_qI dX12_dinners_36 rfl rfl rfl rfl
    · refine r_in (R := rI) c21_2 ?_
      have kk := kk c21_2
      refine r_p (pc2 := 25) dX12_dinners_24 rfl rfl ?_
      refine r_p (pc2 := 26) dX12_dinners_25 rfl rfl ?_
      refine r_cl (x := 0) dX12_dinners_26 rfl ?_
      refine r_cl (x := 1) dX12_dinners_27 rfl ?_
      refine r_cs (d1 := 1) dX12_dinners_28 csX12_111 rfl rfl (Nat.le_of_ble_eq_true rfl) (Nat.le_of_ble_eq_true rfl) (Nat.le_of_ble_eq_true rfl) (c_m_in ((p2 : Int32).toInt64) 0 1) ?_
      refine r_ine dX12_dinners_31 rfl (fun c31_3 => ?_) (fun c31_3 => ?_)
      · refine r_in (R := rI) c31_3 ?_
        have kk := kk c31_3
        refine r_p (pc2 := 38) dX12_dinners_37 rfl rfl ?_
        refine r_get dX12_dinners_38 fkX12_221 rfl rfl ?_
        refine r_ine dX12_dinners_41 rfl (fun c41_4 => ?_) (fun c41_4 => ?_)
        · refine r_in (R := rI) c41_4 ?_
          have kk := kk c41_4
          refine r_ci (x := 0) dX12_dinners_47 rfl ?_
          refine r_p (pc2 := 50) (L2 := [some (.ref (571 : Nat)), some (.int p0), some (.int p1), some (.int p2), some (.int 0), none, none]) dX12_dinners_48 rfl rfl ?_
          refine r_k dX12_dinners_50 kkX12_137 ?_
          refine r_p (pc2 := 54) (L2 := [some (.ref (571 : Nat)), some (.int p0), some (.int p1), some (.int p2), some (.int 0), some (.int (-1000000)), none]) dX12_dinners_52 rfl rfl ?_
          refine r_ci (x := 1) dX12_dinners_54 rfl ?_
          refine r_p (pc2 := 57) (L2 := [some (.ref (571 : Nat)), some (.int p0), some (.int p1), some (.int p2), some (.int 0), some (.int (-1000000)), some (.int 1)]) dX12_dinners_55 rfl rfl ?_
          show tR _ _ _ _ [some (.ref (571 : Nat)), some (.int p0), some (.int p1), some (.int p2), some (.int 0), some (.int (-1000000)), some (.int 1)] _ _ _ _
          refine (c_m_dinners_57 p0 p1 p2 (fun w1_4 w1_5 w1_6 T201 kk => ?_) 1000 0 (-1000000) 1 (sF T 571 0 0) kk)
          · skip
            refine r_p (pc2 := 130) dX12_dinners_129 rfl rfl ?_
            refine r_ine dX12_dinners_130 rfl (fun c130_12 => ?_) (fun c130_12 => ?_)
            · refine r_in (R := rI) c130_12 ?_
              refine r_p (pc2 := 140) dX12_dinners_138 rfl rfl ?_
              exact r_qI dX12_dinners_140 rfl rfl rfl rfl
            · refine r_ip (R := rI) c130_12 ?_
              refine r_p (pc2 := 135) dX12_dinners_133 rfl rfl ?_
              refine r_go dX12_dinners_135 rfl ?_
              exact r_qI dX12_dinners_140 rfl rfl rfl rfl
        · refine r_ip (R := rI) c41_4 ?_
          refine r_k dX12_dinners_44 kkX12_253 ?_
          exact r_qI dX12_dinners_46 rfl rfl rfl rfl
      · refine r_ip (R := rI) c31_3 ?_
        refine r_k dX12_dinners_34 kkX12_121 ?_
        exact r_qI dX12_dinners_36 rfl rfl rfl rfl
def x_m_more_29 (l1 : Int32) (K : Int32 → Int32 → St → Int32 × St) : Nat → Int32 → Int32 → St → Int32 × St
  | 0, _, _, T => (0, T)
  | f + 1, v2, v3, T => if (T.2.2.1 575 (16 : Int32).toNatClampNeg) ≤ v3 then (K v2 v3 T) else (if 4 ≤ (x_m_bits T (T.2.2.1 575 (202 : Int32).toNatClampNeg)) then (K v2 v3 T) else (jn (fun (KJ1 : Int32 → Int32 × St) => if (((T.2.2.1 575 (202 : Int32).toNatClampNeg) >>> (v3 &&& 31)) &&& 1) = 0 then (KJ1 1) else (KJ1 0)) (fun (j1_s0 : Int32) => jn (fun (KJ2 : St → Int32 × St) => if j1_s0 = 0 then (KJ2 T) else (jn (fun (T3 : St) => if ((x_m_canBe T ((T.2.2.1 575 (202 : Int32).toNatClampNeg) ||| (1 <<< (v3 &&& 31))) l1 (T.2.2.1 575 (5 : Int32).toNatClampNeg)).1) = 0 then (KJ2 T3) else (jn (fun (i4 : Int32) => x_m_more_29 l1 K f i4 (v3 + 1) T3) (v2 ||| (1 <<< (v3 &&& 31))))) ((x_m_canBe T ((T.2.2.1 575 (202 : Int32).toNatClampNeg) ||| (1 <<< (v3 &&& 31))) l1 (T.2.2.1 575 (5 : Int32).toNatClampNeg)).2))) (fun (T302 : St) => x_m_more_29 l1 K f (v2 ||| 0) (v3 + 1) T302))))
def ok_m_more_29 (l1 : Int32) (Kk : Int32 → Int32 → St → Prop) : Nat → Int32 → Int32 → St → Prop
  | 0, _, _, _ => False
  | f + 1, v2, v3, T => (((T.2.2.1 575 (16 : Int32).toNatClampNeg) ≤ v3 → Kk v2 v3 T) ∧ (¬ (T.2.2.1 575 (16 : Int32).toNatClampNeg) ≤ v3 → (ok_m_bits T (T.2.2.1 575 (202 : Int32).toNatClampNeg)) ∧ ((4 ≤ (x_m_bits T (T.2.2.1 575 (202 : Int32).toNatClampNeg)) → Kk v2 v3 T) ∧ (¬ 4 ≤ (x_m_bits T (T.2.2.1 575 (202 : Int32).toNatClampNeg)) → jn (fun (OJ1 : Int32 → Prop) => (((((T.2.2.1 575 (202 : Int32).toNatClampNeg) >>> (v3 &&& 31)) &&& 1) = 0 → OJ1 1) ∧ (¬ (((T.2.2.1 575 (202 : Int32).toNatClampNeg) >>> (v3 &&& 31)) &&& 1) = 0 → OJ1 0))) (fun (j1_s0 : Int32) => jn (fun (OJ2 : St → Prop) => ((j1_s0 = 0 → OJ2 T) ∧ (¬ j1_s0 = 0 → (ok_m_canBe T ((T.2.2.1 575 (202 : Int32).toNatClampNeg) ||| (1 <<< (v3 &&& 31))) l1 (T.2.2.1 575 (5 : Int32).toNatClampNeg)) ∧ jn (fun (T3 : St) => ((((x_m_canBe T ((T.2.2.1 575 (202 : Int32).toNatClampNeg) ||| (1 <<< (v3 &&& 31))) l1 (T.2.2.1 575 (5 : Int32).toNatClampNeg)).1) = 0 → OJ2 T3) ∧ (¬ ((x_m_canBe T ((T.2.2.1 575 (202 : Int32).toNatClampNeg) ||| (1 <<< (v3 &&& 31))) l1 (T.2.2.1 575 (5 : Int32).toNatClampNeg)).1) = 0 → jn (fun (i4 : Int32) => ok_m_more_29 l1 Kk f i4 (v3 + 1) T3) (v2 ||| (1 <<< (v3 &&& 31)))))) ((x_m_canBe T ((T.2.2.1 575 (202 : Int32).toNatClampNeg) ||| (1 <<< (v3 &&& 31))) l1 (T.2.2.1 575 (5 : Int32).toNatClampNeg)).2)))) (fun (T302 : St) => ok_m_more_29 l1 Kk f (v2 ||| 0) (v3 + 1) T302))))))
theorem c_m_more_29 {X : Nat × (Nat → Int32)} (l1 : Int32) {K : Int32 → Int32 → St → Int32 × St} {Kk : Int32 → Int32 → St → Prop} (hk : ∀ (v2 : Int32) (v3 : Int32) (T : St), Kk v2 v3 T → tR X 6 mX12_more 124 [some (.ref (571 : Nat)), some (.int l1), some (.int v2), some (.int v3), none] [] T (rI (K v2 v3 T)).1 ((rI (K v2 v3 T)).2)) : ∀ (f : Nat) (v2 : Int32) (v3 : Int32) (T : St), ok_m_more_29 l1 Kk f v2 v3 T → tR X 6 mX12_more 29 [some (.ref (571 : Nat)), some (.int l1), some (.int v2), some (.int v3), none] [] T (rI (x_m_more_29 l1 K f v2 v3 T)).1 ((rI (x_m_more_29 l1 K f v2 v3 T)).2) := by
  intro f
  induction f with
  | zero => intro v2 v3 T kk; exact kk.elim
  | succ f ih =>
    intro v2 v3 T kk
    rw [ok_m_more_29] at kk
    rw [x_m_more_29]
    refine r_p (pc2 := 30) dX12_more_29 rfl rfl ?_
    refine r_p (pc2 := 31) dX12_more_30 rfl rfl ?_
    refine r_get dX12_more_31 fkX12_19 rfl rfl ?_
    refine r_cb (x := 16) dX12_more_34 rfl ?_
    refine r_ia dX12_more_36 rfl (in_c (by decide)) ?_
    refine r_cge dX12_more_37 rfl (fun c37_3 => ?_) (fun c37_3 => ?_)
    · refine r_ip (R := rI) c37_3 ?_
      have kk := kk.1 c37_3
      show tR _ _ _ _ [some (.ref (571 : Nat)), some (.int l1), some (.int v2), some (.int v3), none] _ _ _ _
      exact (hk v2 v3 T kk)
    · refine r_in (R := rI) c37_3 ?_
      have kk := kk.2 c37_3
      refine r_p (pc2 := 41) dX12_more_40 rfl rfl ?_
      refine r_get dX12_more_41 fkX12_19 rfl rfl ?_
      refine r_csi (x := 202) dX12_more_44 rfl ?_
      refine r_ia dX12_more_47 rfl (in_c (by decide)) ?_
      obtain ⟨q1, kk⟩ := kk
      refine r_cs (d1 := 1) dX12_more_48 csX12_263 rfl rfl (Nat.le_of_ble_eq_true rfl) (Nat.le_of_ble_eq_true rfl) (Nat.le_of_ble_eq_true rfl) (c_m_bits (T.2.2.1 575 (202 : Int32).toNatClampNeg) q1) ?_
      refine r_ci (x := 4) dX12_more_51 rfl ?_
      refine r_cge dX12_more_52 rfl (fun c52_4 => ?_) (fun c52_4 => ?_)
      · refine r_ip (R := rI) c52_4 ?_
        have kk := kk.1 c52_4
        show tR _ _ _ _ [some (.ref (571 : Nat)), some (.int l1), some (.int v2), some (.int v3), none] _ _ _ _
        exact (hk v2 v3 T kk)
      · refine r_in (R := rI) c52_4 ?_
        have kk := kk.2 c52_4
        refine r_p (pc2 := 56) dX12_more_55 rfl rfl ?_
        refine r_get dX12_more_56 fkX12_19 rfl rfl ?_
        refine r_csi (x := 202) dX12_more_59 rfl ?_
        refine r_ia dX12_more_62 rfl (in_c (by decide)) ?_
        refine r_p (pc2 := 64) dX12_more_63 rfl rfl ?_
        refine r_p (pc2 := 65) dX12_more_64 rfl rfl ?_
        refine r_ci (x := 1) dX12_more_65 rfl ?_
        refine r_p (pc2 := 67) dX12_more_66 rfl rfl ?_
        refine r_jn (R := rI) (J := fun (KJ1 : Int32 → Int32 × St) (OJ1 : Int32 → Prop) => ∀ (j1_s0 : Int32), OJ1 j1_s0 → tR X 6 mX12_more 75 [some (.ref (571 : Nat)), some (.int l1), some (.int v2), some (.int v3), none] [.int j1_s0] T (rI (KJ1 j1_s0)).1 (rI (KJ1 j1_s0)).2) kk (fun j1_s0 kk => ?_) (fun KJ1 OJ1 hJ1 kk => ?_)
        · skip
          refine r_p (pc2 := 77) (L2 := [some (.ref (571 : Nat)), some (.int l1), some (.int v2), some (.int v3), some (.int j1_s0)]) dX12_more_75 rfl rfl ?_
          refine r_p (pc2 := 78) dX12_more_77 rfl rfl ?_
          refine r_p (pc2 := 80) dX12_more_78 rfl rfl ?_
          refine r_jn (R := rI) (J := fun (KJ2 : St → Int32 × St) (OJ2 : St → Prop) => ∀ (T302 : St), OJ2 T302 → tR X 6 mX12_more 115 [some (.ref (571 : Nat)), some (.int l1), some (.int v2), some (.int v3), some (.int j1_s0)] [.int v2] T302 (rI (KJ2 T302)).1 (rI (KJ2 T302)).2) kk (fun T302 kk => ?_) (fun KJ2 OJ2 hJ2 kk => ?_)
          · skip
            refine r_ci (x := 0) dX12_more_115 rfl ?_
            refine r_p (pc2 := 117) dX12_more_116 rfl rfl ?_
            refine r_p (pc2 := 118) (L2 := [some (.ref (571 : Nat)), some (.int l1), some (.int (v2 ||| 0)), some (.int v3), some (.int j1_s0)]) dX12_more_117 rfl rfl ?_
            refine r_inc (L2 := [some (.ref (571 : Nat)), some (.int l1), some (.int (v2 ||| 0)), some (.int (v3 + 1)), some (.int j1_s0)]) (y := 1) dX12_more_118 rfl rfl rfl ?_
            refine r_go dX12_more_121 rfl ?_
            show tR _ _ _ _ [some (.ref (571 : Nat)), some (.int l1), some (.int (v2 ||| 0)), some (.int (v3 + 1)), some (.int j1_s0)] _ _ _ _
            exact r_le (le_s (le_s (le_s (le_s (le_n (le_0)))))) (ih (v2 ||| 0) (v3 + 1) T302 kk)
          refine r_ieq dX12_more_80 rfl (fun c80_8 => ?_) (fun c80_8 => ?_)
          · refine r_ip (R := rI) c80_8 ?_
            have kk := kk.1 c80_8
            show tR _ _ _ _ [some (.ref (571 : Nat)), some (.int l1), some (.int v2), some (.int v3), some (.int j1_s0)] [.int v2] _ _ _
            exact (hJ2 T kk)
          · refine r_in (R := rI) c80_8 ?_
            have kk := kk.2 c80_8
            refine r_p (pc2 := 84) dX12_more_83 rfl rfl ?_
            refine r_p (pc2 := 85) dX12_more_84 rfl rfl ?_
            refine r_get dX12_more_85 fkX12_19 rfl rfl ?_
            refine r_csi (x := 202) dX12_more_88 rfl ?_
            refine r_ia dX12_more_91 rfl (in_c (by decide)) ?_
            refine r_ci (x := 1) dX12_more_92 rfl ?_
            refine r_p (pc2 := 94) dX12_more_93 rfl rfl ?_
            refine r_p (pc2 := 95) dX12_more_94 rfl rfl ?_
            refine r_p (pc2 := 96) dX12_more_95 rfl rfl ?_
            refine r_p (pc2 := 97) dX12_more_96 rfl rfl ?_
            refine r_p (pc2 := 98) dX12_more_97 rfl rfl ?_
            refine r_get dX12_more_98 fkX12_19 rfl rfl ?_
            refine r_ci (x := 5) dX12_more_101 rfl ?_
            refine r_ia dX12_more_102 rfl (in_c (by decide)) ?_
            obtain ⟨q3, kk⟩ := kk
            refine r_cv (d1 := 6) dX12_more_103 cvX12_324 rfl rfl rfl rfl (Nat.le_of_ble_eq_true rfl) (Nat.le_of_ble_eq_true rfl) (Nat.le_of_ble_eq_true rfl) (c_m_canBe ((T.2.2.1 575 (202 : Int32).toNatClampNeg) ||| (1 <<< (v3 &&& 31))) l1 (T.2.2.1 575 (5 : Int32).toNatClampNeg) q3) ?_
            refine r_nT (R := rI) rfl kk (fun T3 kk => ?_)
            refine r_ieq dX12_more_106 rfl (fun c106_9 => ?_) (fun c106_9 => ?_)
            · refine r_ip (R := rI) c106_9 ?_
              have kk := kk.1 c106_9
              show tR _ _ _ _ [some (.ref (571 : Nat)), some (.int l1), some (.int v2), some (.int v3), some (.int j1_s0)] [.int v2] _ _ _
              exact (hJ2 T3 kk)
            · refine r_in (R := rI) c106_9 ?_
              have kk := kk.2 c106_9
              refine r_ci (x := 1) dX12_more_109 rfl ?_
              refine r_p (pc2 := 111) dX12_more_110 rfl rfl ?_
              refine r_p (pc2 := 112) dX12_more_111 rfl rfl ?_
              refine r_go dX12_more_112 rfl ?_
              refine r_p (pc2 := 117) dX12_more_116 rfl rfl ?_
              refine r_nI (R := rI) rfl kk (fun i4 kk => ?_)
              refine r_p (pc2 := 118) (L2 := [some (.ref (571 : Nat)), some (.int l1), some (.int i4), some (.int v3), some (.int j1_s0)]) dX12_more_117 rfl rfl ?_
              refine r_inc (L2 := [some (.ref (571 : Nat)), some (.int l1), some (.int i4), some (.int (v3 + 1)), some (.int j1_s0)]) (y := 1) dX12_more_118 rfl rfl rfl ?_
              refine r_go dX12_more_121 rfl ?_
              show tR _ _ _ _ [some (.ref (571 : Nat)), some (.int l1), some (.int i4), some (.int (v3 + 1)), some (.int j1_s0)] _ _ _ _
              exact r_le (le_s (le_s (le_s (le_s (le_n (le_0)))))) (ih i4 (v3 + 1) T3 kk)
        refine r_ine dX12_more_67 rfl (fun c67_10 => ?_) (fun c67_10 => ?_)
        · refine r_in (R := rI) c67_10 ?_
          have kk := kk.2 c67_10
          refine r_ci (x := 0) dX12_more_74 rfl ?_
          show tR _ _ _ _ [some (.ref (571 : Nat)), some (.int l1), some (.int v2), some (.int v3), none] [.int 0] _ _ _
          exact (hJ1 0 kk)
        · refine r_ip (R := rI) c67_10 ?_
          have kk := kk.1 c67_10
          refine r_ci (x := 1) dX12_more_70 rfl ?_
          refine r_go dX12_more_71 rfl ?_
          show tR _ _ _ _ [some (.ref (571 : Nat)), some (.int l1), some (.int v2), some (.int v3), none] [.int 1] _ _ _
          exact (hJ1 1 kk)
def x_m_more (T : St) (p0 : Int32) : Int32 × St := if (x_m_isBy (sF T 571 0 0) p0) = 0 then ((-1000001), sF T 571 0 0) else (if ((sF T 571 0 0).1 571 7) = 0 then ((-1000002), sF T 571 0 0) else (x_m_more_29 p0 (fun (w1_2 : Int32) (w1_3 : Int32) (T201 : St) => (w1_2, T201)) 1000 0 0 (sF T 571 0 0)))
def ok_m_more (T : St) (p0 : Int32) : Prop := (¬ (x_m_isBy (sF T 571 0 0) p0) = 0 → (¬ ((sF T 571 0 0).1 571 7) = 0 → ok_m_more_29 p0 (fun (w1_2 : Int32) (w1_3 : Int32) (T201 : St) => True) 1000 0 0 (sF T 571 0 0)))
theorem c_m_more {X : Nat × (Nat → Int32)} {T : St} (p0 : Int32) (kk : ok_m_more T p0) : tC X 7 mX12_more [.ref (571 : Nat), .int p0] T (some (.int (x_m_more T p0).1)) ((x_m_more T p0).2) := by
  unfold ok_m_more at kk
  refine tC_orI (L := [some (.ref (571 : Nat)), some (.int p0), none, none, none]) (x_m_more T p0) rfl ?_
  unfold x_m_more
  refine r_p (pc2 := 1) dX12_more_0 rfl rfl ?_
  refine r_ci (x := 0) dX12_more_1 rfl ?_
  refine r_put dX12_more_2 fkX12_101 rfl rfl rfl (Nat.le_of_ble_eq_true rfl) rfl rfl ?_
  refine r_p (pc2 := 6) dX12_more_5 rfl rfl ?_
  refine r_cs (d1 := 2) dX12_more_6 csX12_318 rfl rfl (Nat.le_of_ble_eq_true rfl) (Nat.le_of_ble_eq_true rfl) (Nat.le_of_ble_eq_true rfl) (c_m_isBy p0) ?_
  refine r_ine dX12_more_9 rfl (fun c9_1 => ?_) (fun c9_1 => ?_)
  · refine r_in (R := rI) c9_1 ?_
    have kk := kk c9_1
    refine r_p (pc2 := 16) dX12_more_15 rfl rfl ?_
    refine r_get dX12_more_16 fkX12_221 rfl rfl ?_
    refine r_ine dX12_more_19 rfl (fun c19_2 => ?_) (fun c19_2 => ?_)
    · refine r_in (R := rI) c19_2 ?_
      have kk := kk c19_2
      refine r_ci (x := 0) dX12_more_25 rfl ?_
      refine r_p (pc2 := 27) (L2 := [some (.ref (571 : Nat)), some (.int p0), some (.int 0), none, none]) dX12_more_26 rfl rfl ?_
      refine r_ci (x := 0) dX12_more_27 rfl ?_
      refine r_p (pc2 := 29) (L2 := [some (.ref (571 : Nat)), some (.int p0), some (.int 0), some (.int 0), none]) dX12_more_28 rfl rfl ?_
      show tR _ _ _ _ [some (.ref (571 : Nat)), some (.int p0), some (.int 0), some (.int 0), none] _ _ _ _
      refine (c_m_more_29 p0 (fun w1_2 w1_3 T201 kk => ?_) 1000 0 0 (sF T 571 0 0) kk)
      · skip
        refine r_p (pc2 := 125) dX12_more_124 rfl rfl ?_
        exact r_qI dX12_more_125 rfl rfl rfl rfl
    · refine r_ip (R := rI) c19_2 ?_
      refine r_k dX12_more_22 kkX12_253 ?_
      exact r_qI dX12_more_24 rfl rfl rfl rfl
  · refine r_ip (R := rI) c9_1 ?_
    refine r_k dX12_more_12 kkX12_121 ?_
    exact r_qI dX12_more_14 rfl rfl rfl rfl
def x_m_mend_67 (l1 : Int32) (l2 : Int32) (K : Int32 → St → Int32 × St) : Nat → Int32 → St → Int32 × St
  | 0, _, T => (0, T)
  | f + 1, v3, T => if 12 ≤ v3 then (K v3 T) else (x_m_mend_67 l1 l2 K f (v3 + 1) (sA T 591 (v3 : Int32).toNatClampNeg (T.2.2.1 593 (v3 : Int32).toNatClampNeg)))
def ok_m_mend_67 (l1 : Int32) (l2 : Int32) (Kk : Int32 → St → Prop) : Nat → Int32 → St → Prop
  | 0, _, _ => False
  | f + 1, v3, T => ((12 ≤ v3 → Kk v3 T) ∧ (¬ 12 ≤ v3 → (vp_in v3 12) ∧ ok_m_mend_67 l1 l2 Kk f (v3 + 1) (sA T 591 (v3 : Int32).toNatClampNeg (T.2.2.1 593 (v3 : Int32).toNatClampNeg))))
theorem c_m_mend_67 {X : Nat × (Nat → Int32)} (l1 : Int32) (l2 : Int32) {K : Int32 → St → Int32 × St} {Kk : Int32 → St → Prop} (hk : ∀ (v3 : Int32) (T : St), Kk v3 T → tR X 6 mX12_mend 91 [some (.ref (571 : Nat)), some (.int l1), some (.int l2), some (.int v3)] [] T (rI (K v3 T)).1 ((rI (K v3 T)).2)) : ∀ (f : Nat) (v3 : Int32) (T : St), ok_m_mend_67 l1 l2 Kk f v3 T → tR X 6 mX12_mend 67 [some (.ref (571 : Nat)), some (.int l1), some (.int l2), some (.int v3)] [] T (rI (x_m_mend_67 l1 l2 K f v3 T)).1 ((rI (x_m_mend_67 l1 l2 K f v3 T)).2) := by
  intro f
  induction f with
  | zero => intro v3 T kk; exact kk.elim
  | succ f ih =>
    intro v3 T kk
    rw [ok_m_mend_67] at kk
    rw [x_m_mend_67]
    refine r_p (pc2 := 68) dX12_mend_67 rfl rfl ?_
    refine r_cb (x := 12) dX12_mend_68 rfl ?_
    refine r_cge dX12_mend_70 rfl (fun c70_7 => ?_) (fun c70_7 => ?_)
    · refine r_ip (R := rI) c70_7 ?_
      have kk := kk.1 c70_7
      show tR _ _ _ _ [some (.ref (571 : Nat)), some (.int l1), some (.int l2), some (.int v3)] _ _ _ _
      exact (hk v3 T kk)
    · refine r_in (R := rI) c70_7 ?_
      have kk := kk.2 c70_7
      refine r_p (pc2 := 74) dX12_mend_73 rfl rfl ?_
      refine r_get dX12_mend_74 fkX12_67 rfl rfl ?_
      refine r_p (pc2 := 78) dX12_mend_77 rfl rfl ?_
      refine r_p (pc2 := 79) dX12_mend_78 rfl rfl ?_
      refine r_get dX12_mend_79 fkX12_73 rfl rfl ?_
      refine r_p (pc2 := 83) dX12_mend_82 rfl rfl ?_
      obtain ⟨q2, kk⟩ := kk
      refine r_ia dX12_mend_83 rfl q2 ?_
      refine r_ias dX12_mend_84 rfl q2 ?_
      refine r_inc (L2 := [some (.ref (571 : Nat)), some (.int l1), some (.int l2), some (.int (v3 + 1))]) (y := 1) dX12_mend_85 rfl rfl rfl ?_
      refine r_go dX12_mend_88 rfl ?_
      show tR _ _ _ _ [some (.ref (571 : Nat)), some (.int l1), some (.int l2), some (.int (v3 + 1))] _ _ _ _
      exact (ih (v3 + 1) (sA T 591 (v3 : Int32).toNatClampNeg (T.2.2.1 593 (v3 : Int32).toNatClampNeg)) kk)
def x_m_mend (T : St) (p0 : Int32) (p1 : Int32) : Int32 × St := if (x_m_isBy (sF T 571 0 0) p0) = 0 then ((-1000001), sF T 571 0 0) else (if (x_m_isMinute (sF T 571 0 0) p1) = 0 then ((-1000001), sF T 571 0 0) else (if ((sF T 571 0 0).1 571 7) = 0 then ((-1000002), sF T 571 0 0) else (if ((sF T 571 0 0).2.2.1 575 (1 : Int32).toNatClampNeg) = 0 then ((-1000002), sF T 571 0 0) else (if 60 ≤ ((sF T 571 0 0).2.2.1 575 (203 : Int32).toNatClampNeg) then (if ((x_m_know (sF T 571 0 0) p0).1) = 0 then ((-1000000), (x_m_know (sF T 571 0 0) p0).2) else (x_m_mend_67 p0 p1 (fun (w1_3 : Int32) (T201 : St) => jn (fun (T1 : St) => jn (fun (i2 : Int32) => if i2 = 0 then ((-1000000), sF T1 571 32 0) else ((sF T1 571 32 0).1 571 31, sF T1 571 32 0)) ((x_m_seek (sF T201 571 32 p1) ((sF T201 571 32 p1).2.2.1 575 (202 : Int32).toNatClampNeg) p0 ((sF T201 571 32 p1).2.2.1 575 (5 : Int32).toNatClampNeg) p1 0 0).1)) ((x_m_seek (sF T201 571 32 p1) ((sF T201 571 32 p1).2.2.1 575 (202 : Int32).toNatClampNeg) p0 ((sF T201 571 32 p1).2.2.1 575 (5 : Int32).toNatClampNeg) p1 0 0).2)) 1000 0 ((x_m_know (sF T 571 0 0) p0).2))) else ((-1000002), sF T 571 0 0)))))
def ok_m_mend (T : St) (p0 : Int32) (p1 : Int32) : Prop := (¬ (x_m_isBy (sF T 571 0 0) p0) = 0 → (¬ (x_m_isMinute (sF T 571 0 0) p1) = 0 → (¬ ((sF T 571 0 0).1 571 7) = 0 → (¬ ((sF T 571 0 0).2.2.1 575 (1 : Int32).toNatClampNeg) = 0 → (60 ≤ ((sF T 571 0 0).2.2.1 575 (203 : Int32).toNatClampNeg) → (ok_m_know (sF T 571 0 0) p0) ∧ (¬ ((x_m_know (sF T 571 0 0) p0).1) = 0 → ok_m_mend_67 p0 p1 (fun (w1_3 : Int32) (T201 : St) => (ok_m_seek (sF T201 571 32 p1) ((sF T201 571 32 p1).2.2.1 575 (202 : Int32).toNatClampNeg) p0 ((sF T201 571 32 p1).2.2.1 575 (5 : Int32).toNatClampNeg) p1 0 0) ∧ True) 1000 0 ((x_m_know (sF T 571 0 0) p0).2)))))))
theorem c_m_mend {X : Nat × (Nat → Int32)} {T : St} (p0 : Int32) (p1 : Int32) (kk : ok_m_mend T p0 p1) : tC X 7 mX12_mend [.ref (571 : Nat), .int p0, .int p1] T (some (.int (x_m_mend T p0 p1).1)) ((x_m_mend T p0 p1).2) := by
  unfold ok_m_mend at kk
  refine tC_orI (L := [some (.ref (571 : Nat)), some (.int p0), some (.int p1), none]) (x_m_mend T p0 p1) rfl ?_
  unfold x_m_mend
  refine r_p (pc2 := 1) dX12_mend_0 rfl rfl ?_
  refine r_ci (x := 0) dX12_mend_1 rfl ?_
  refine r_put dX12_mend_2 fkX12_101 rfl rfl rfl (Nat.le_of_ble_eq_true rfl) rfl rfl ?_
  refine r_p (pc2 := 6) dX12_mend_5 rfl rfl ?_
  refine r_cs (d1 := 2) dX12_mend_6 csX12_318 rfl rfl (Nat.le_of_ble_eq_true rfl) (Nat.le_of_ble_eq_true rfl) (Nat.le_of_ble_eq_true rfl) (c_m_isBy p0) ?_
  refine r_ieq dX12_mend_9 rfl (fun c9_1 => ?_) (fun c9_1 => ?_)
  · refine r_ip (R := rI) c9_1 ?_
    refine r_k dX12_mend_19 kkX12_121 ?_
    exact r_qI dX12_mend_21 rfl rfl rfl rfl
  · refine r_in (R := rI) c9_1 ?_
    have kk := kk c9_1
    refine r_p (pc2 := 13) dX12_mend_12 rfl rfl ?_
    refine r_cs (d1 := 2) dX12_mend_13 csX12_254 rfl rfl (Nat.le_of_ble_eq_true rfl) (Nat.le_of_ble_eq_true rfl) (Nat.le_of_ble_eq_true rfl) (c_m_isMinute p1) ?_
    refine r_ine dX12_mend_16 rfl (fun c16_2 => ?_) (fun c16_2 => ?_)
    · refine r_in (R := rI) c16_2 ?_
      have kk := kk c16_2
      refine r_p (pc2 := 23) dX12_mend_22 rfl rfl ?_
      refine r_get dX12_mend_23 fkX12_221 rfl rfl ?_
      refine r_ieq dX12_mend_26 rfl (fun c26_3 => ?_) (fun c26_3 => ?_)
      · refine r_ip (R := rI) c26_3 ?_
        refine r_k dX12_mend_51 kkX12_253 ?_
        exact r_qI dX12_mend_53 rfl rfl rfl rfl
      · refine r_in (R := rI) c26_3 ?_
        have kk := kk c26_3
        refine r_p (pc2 := 30) dX12_mend_29 rfl rfl ?_
        refine r_get dX12_mend_30 fkX12_19 rfl rfl ?_
        refine r_ci (x := 1) dX12_mend_33 rfl ?_
        refine r_ia dX12_mend_34 rfl (in_c (by decide)) ?_
        refine r_ieq dX12_mend_35 rfl (fun c35_4 => ?_) (fun c35_4 => ?_)
        · refine r_ip (R := rI) c35_4 ?_
          refine r_k dX12_mend_51 kkX12_253 ?_
          exact r_qI dX12_mend_53 rfl rfl rfl rfl
        · refine r_in (R := rI) c35_4 ?_
          have kk := kk c35_4
          refine r_p (pc2 := 39) dX12_mend_38 rfl rfl ?_
          refine r_get dX12_mend_39 fkX12_19 rfl rfl ?_
          refine r_csi (x := 203) dX12_mend_42 rfl ?_
          refine r_ia dX12_mend_45 rfl (in_c (by decide)) ?_
          refine r_cb (x := 60) dX12_mend_46 rfl ?_
          refine r_cge dX12_mend_48 rfl (fun c48_5 => ?_) (fun c48_5 => ?_)
          · refine r_ip (R := rI) c48_5 ?_
            have kk := kk c48_5
            refine r_p (pc2 := 55) dX12_mend_54 rfl rfl ?_
            refine r_p (pc2 := 56) dX12_mend_55 rfl rfl ?_
            obtain ⟨q1, kk⟩ := kk
            refine r_cv (d1 := 6) dX12_mend_56 cvX12_321 rfl rfl rfl rfl (Nat.le_of_ble_eq_true rfl) (Nat.le_of_ble_eq_true rfl) (Nat.le_of_ble_eq_true rfl) (c_m_know p0 q1) ?_
            refine r_ine dX12_mend_59 rfl (fun c59_6 => ?_) (fun c59_6 => ?_)
            · refine r_in (R := rI) c59_6 ?_
              have kk := kk c59_6
              refine r_ci (x := 0) dX12_mend_65 rfl ?_
              refine r_p (pc2 := 67) (L2 := [some (.ref (571 : Nat)), some (.int p0), some (.int p1), some (.int 0)]) dX12_mend_66 rfl rfl ?_
              show tR _ _ _ _ [some (.ref (571 : Nat)), some (.int p0), some (.int p1), some (.int 0)] _ _ _ _
              refine (c_m_mend_67 p0 p1 (fun w1_3 T201 kk => ?_) 1000 0 ((x_m_know (sF T 571 0 0) p0).2) kk)
              · skip
                refine r_p (pc2 := 92) dX12_mend_91 rfl rfl ?_
                refine r_p (pc2 := 93) dX12_mend_92 rfl rfl ?_
                refine r_put dX12_mend_93 fkX12_268 rfl rfl rfl (Nat.le_of_ble_eq_true rfl) rfl rfl ?_
                refine r_p (pc2 := 97) dX12_mend_96 rfl rfl ?_
                refine r_p (pc2 := 98) dX12_mend_97 rfl rfl ?_
                refine r_get dX12_mend_98 fkX12_19 rfl rfl ?_
                refine r_csi (x := 202) dX12_mend_101 rfl ?_
                refine r_ia dX12_mend_104 rfl (in_c (by decide)) ?_
                refine r_p (pc2 := 106) dX12_mend_105 rfl rfl ?_
                refine r_p (pc2 := 107) dX12_mend_106 rfl rfl ?_
                refine r_get dX12_mend_107 fkX12_19 rfl rfl ?_
                refine r_ci (x := 5) dX12_mend_110 rfl ?_
                refine r_ia dX12_mend_111 rfl (in_c (by decide)) ?_
                refine r_p (pc2 := 113) dX12_mend_112 rfl rfl ?_
                refine r_ci (x := 0) dX12_mend_113 rfl ?_
                refine r_ci (x := 0) dX12_mend_114 rfl ?_
                obtain ⟨q3, kk⟩ := kk
                refine r_cv (d1 := 5) dX12_mend_115 cvX12_305 rfl rfl rfl rfl (Nat.le_of_ble_eq_true rfl) (Nat.le_of_ble_eq_true rfl) (Nat.le_of_ble_eq_true rfl) (c_m_seek ((sF T201 571 32 p1).2.2.1 575 (202 : Int32).toNatClampNeg) p0 ((sF T201 571 32 p1).2.2.1 575 (5 : Int32).toNatClampNeg) p1 0 0 q3) ?_
                refine r_nT0 (R := rI) rfl (fun T1 => ?_)
                refine r_nI0 (R := rI) rfl (fun i2 => ?_)
                refine r_p (pc2 := 119) (L2 := [some (.ref (571 : Nat)), some (.int p0), some (.int p1), some (.int i2)]) dX12_mend_118 rfl rfl ?_
                refine r_p (pc2 := 120) dX12_mend_119 rfl rfl ?_
                refine r_ci (x := 0) dX12_mend_120 rfl ?_
                refine r_put dX12_mend_121 fkX12_268 rfl rfl rfl (Nat.le_of_ble_eq_true rfl) rfl rfl ?_
                refine r_p (pc2 := 125) dX12_mend_124 rfl rfl ?_
                refine r_ieq dX12_mend_125 rfl (fun c125_8 => ?_) (fun c125_8 => ?_)
                · refine r_ip (R := rI) c125_8 ?_
                  refine r_k dX12_mend_135 kkX12_137 ?_
                  exact r_qI dX12_mend_137 rfl rfl rfl rfl
                · refine r_in (R := rI) c125_8 ?_
                  refine r_p (pc2 := 129) dX12_mend_128 rfl rfl ?_
                  refine r_get dX12_mend_129 fkX12_296 rfl rfl ?_
                  refine r_go dX12_mend_132 rfl ?_
                  exact r_qI dX12_mend_137 rfl rfl rfl rfl
            · refine r_ip (R := rI) c59_6 ?_
              refine r_k dX12_mend_62 kkX12_137 ?_
              exact r_qI dX12_mend_64 rfl rfl rfl rfl
          · refine r_in (R := rI) c48_5 ?_
            refine r_k dX12_mend_51 kkX12_253 ?_
            exact r_qI dX12_mend_53 rfl rfl rfl rfl
    · refine r_ip (R := rI) c16_2 ?_
      refine r_k dX12_mend_19 kkX12_121 ?_
      exact r_qI dX12_mend_21 rfl rfl rfl rfl
def x_m_mind_38 (l1 : Int32) (l2 : Int32) (K : Int32 → Int32 → St → Int32 × St) : Nat → Int32 → Int32 → St → Int32 × St
  | 0, _, _, T => (0, T)
  | f + 1, v3, v4, T => if ((x_m_know T l1).1) = 0 then (K v3 v4 ((x_m_know T l1).2)) else (if (((x_m_know T l1).2).1 571 39) ≤ v4 then (K v3 v4 ((x_m_know T l1).2)) else (if (((x_m_know T l1).2).2.2.1 595 (v4 : Int32).toNatClampNeg) < l2 then (x_m_mind_38 l1 l2 K f v3 (v4 + 1) ((x_m_know T l1).2)) else (jn (fun (KJ1 : Int32 × St) => if v3 = (-1000000) then (KJ1) else (if (((x_m_know T l1).2).2.2.1 595 (v3 : Int32).toNatClampNeg) ≤ (((x_m_know T l1).2).2.2.1 595 (v4 : Int32).toNatClampNeg) then (x_m_mind_38 l1 l2 K f v3 (v4 + 1) ((x_m_know T l1).2)) else (KJ1))) (x_m_mind_38 l1 l2 K f v4 (v4 + 1) ((x_m_know T l1).2)))))
def ok_m_mind_38 (l1 : Int32) (l2 : Int32) (Kk : Int32 → Int32 → St → Prop) : Nat → Int32 → Int32 → St → Prop
  | 0, _, _, _ => False
  | f + 1, v3, v4, T => (ok_m_know T l1) ∧ ((((x_m_know T l1).1) = 0 → Kk v3 v4 ((x_m_know T l1).2)) ∧ (¬ ((x_m_know T l1).1) = 0 → (((((x_m_know T l1).2).1 571 39) ≤ v4 → Kk v3 v4 ((x_m_know T l1).2)) ∧ (¬ (((x_m_know T l1).2).1 571 39) ≤ v4 → (vp_in v4 12) ∧ (((((x_m_know T l1).2).2.2.1 595 (v4 : Int32).toNatClampNeg) < l2 → ok_m_mind_38 l1 l2 Kk f v3 (v4 + 1) ((x_m_know T l1).2)) ∧ (¬ (((x_m_know T l1).2).2.2.1 595 (v4 : Int32).toNatClampNeg) < l2 → jn (fun (OJ1 : Prop) => ((v3 = (-1000000) → OJ1) ∧ (¬ v3 = (-1000000) → (vp_in v3 12) ∧ (((((x_m_know T l1).2).2.2.1 595 (v3 : Int32).toNatClampNeg) ≤ (((x_m_know T l1).2).2.2.1 595 (v4 : Int32).toNatClampNeg) → ok_m_mind_38 l1 l2 Kk f v3 (v4 + 1) ((x_m_know T l1).2)) ∧ (¬ (((x_m_know T l1).2).2.2.1 595 (v3 : Int32).toNatClampNeg) ≤ (((x_m_know T l1).2).2.2.1 595 (v4 : Int32).toNatClampNeg) → OJ1))))) (ok_m_mind_38 l1 l2 Kk f v4 (v4 + 1) ((x_m_know T l1).2))))))))
theorem c_m_mind_38 {X : Nat × (Nat → Int32)} (l1 : Int32) (l2 : Int32) {K : Int32 → Int32 → St → Int32 × St} {Kk : Int32 → Int32 → St → Prop} (hk : ∀ (v3 : Int32) (v4 : Int32) (T : St), Kk v3 v4 T → tR X 6 mX12_mind 101 [some (.ref (571 : Nat)), some (.int l1), some (.int l2), some (.int v3), some (.int v4)] [] T (rI (K v3 v4 T)).1 ((rI (K v3 v4 T)).2)) : ∀ (f : Nat) (v3 : Int32) (v4 : Int32) (T : St), ok_m_mind_38 l1 l2 Kk f v3 v4 T → tR X 6 mX12_mind 38 [some (.ref (571 : Nat)), some (.int l1), some (.int l2), some (.int v3), some (.int v4)] [] T (rI (x_m_mind_38 l1 l2 K f v3 v4 T)).1 ((rI (x_m_mind_38 l1 l2 K f v3 v4 T)).2) := by
  intro f
  induction f with
  | zero => intro v3 v4 T kk; exact kk.elim
  | succ f ih =>
    intro v3 v4 T kk
    rw [ok_m_mind_38] at kk
    rw [x_m_mind_38]
    refine r_p (pc2 := 39) dX12_mind_38 rfl rfl ?_
    refine r_p (pc2 := 40) dX12_mind_39 rfl rfl ?_
    obtain ⟨q1, kk⟩ := kk
    refine r_cv (d1 := 6) dX12_mind_40 cvX12_321 rfl rfl rfl rfl (Nat.le_of_ble_eq_true rfl) (Nat.le_of_ble_eq_true rfl) (Nat.le_of_ble_eq_true rfl) (c_m_know l1 q1) ?_
    refine r_ieq dX12_mind_43 rfl (fun c43_4 => ?_) (fun c43_4 => ?_)
    · refine r_ip (R := rI) c43_4 ?_
      have kk := kk.1 c43_4
      show tR _ _ _ _ [some (.ref (571 : Nat)), some (.int l1), some (.int l2), some (.int v3), some (.int v4)] _ _ _ _
      exact (hk v3 v4 ((x_m_know T l1).2) kk)
    · refine r_in (R := rI) c43_4 ?_
      have kk := kk.2 c43_4
      refine r_p (pc2 := 48) dX12_mind_46 rfl rfl ?_
      refine r_p (pc2 := 49) dX12_mind_48 rfl rfl ?_
      refine r_get dX12_mind_49 fkX12_302 rfl rfl ?_
      refine r_cge dX12_mind_52 rfl (fun c52_5 => ?_) (fun c52_5 => ?_)
      · refine r_ip (R := rI) c52_5 ?_
        have kk := kk.1 c52_5
        show tR _ _ _ _ [some (.ref (571 : Nat)), some (.int l1), some (.int l2), some (.int v3), some (.int v4)] _ _ _ _
        exact (hk v3 v4 ((x_m_know T l1).2) kk)
      · refine r_in (R := rI) c52_5 ?_
        have kk := kk.2 c52_5
        refine r_p (pc2 := 56) dX12_mind_55 rfl rfl ?_
        refine r_get dX12_mind_56 fkX12_79 rfl rfl ?_
        refine r_p (pc2 := 61) dX12_mind_59 rfl rfl ?_
        obtain ⟨q2, kk⟩ := kk
        refine r_ia dX12_mind_61 rfl q2 ?_
        refine r_p (pc2 := 63) dX12_mind_62 rfl rfl ?_
        refine r_clt dX12_mind_63 rfl (fun c63_6 => ?_) (fun c63_6 => ?_)
        · refine r_ip (R := rI) c63_6 ?_
          have kk := kk.1 c63_6
          refine r_p (pc2 := 94) dX12_mind_93 rfl rfl ?_
          refine r_p (pc2 := 95) (L2 := [some (.ref (571 : Nat)), some (.int l1), some (.int l2), some (.int v3), some (.int v4)]) dX12_mind_94 rfl rfl ?_
          refine r_inc (L2 := [some (.ref (571 : Nat)), some (.int l1), some (.int l2), some (.int v3), some (.int (v4 + 1))]) (y := 1) dX12_mind_95 rfl rfl rfl ?_
          refine r_go dX12_mind_98 rfl ?_
          show tR _ _ _ _ [some (.ref (571 : Nat)), some (.int l1), some (.int l2), some (.int v3), some (.int (v4 + 1))] _ _ _ _
          exact (ih v3 (v4 + 1) ((x_m_know T l1).2) kk)
        · refine r_in (R := rI) c63_6 ?_
          have kk := kk.2 c63_6
          refine r_p (pc2 := 67) dX12_mind_66 rfl rfl ?_
          refine r_k dX12_mind_67 kkX12_137 ?_
          refine r_jn (R := rI) (J := fun (KJ1 : Int32 × St) (OJ1 : Prop) => OJ1 → tR X 6 mX12_mind 88 [some (.ref (571 : Nat)), some (.int l1), some (.int l2), some (.int v3), some (.int v4)] [] ((x_m_know T l1).2) (rI KJ1).1 (rI KJ1).2) kk (fun  kk => ?_) (fun KJ1 OJ1 hJ1 kk => ?_)
          · skip
            refine r_p (pc2 := 90) dX12_mind_88 rfl rfl ?_
            refine r_go dX12_mind_90 rfl ?_
            refine r_p (pc2 := 95) (L2 := [some (.ref (571 : Nat)), some (.int l1), some (.int l2), some (.int v4), some (.int v4)]) dX12_mind_94 rfl rfl ?_
            refine r_inc (L2 := [some (.ref (571 : Nat)), some (.int l1), some (.int l2), some (.int v4), some (.int (v4 + 1))]) (y := 1) dX12_mind_95 rfl rfl rfl ?_
            refine r_go dX12_mind_98 rfl ?_
            show tR _ _ _ _ [some (.ref (571 : Nat)), some (.int l1), some (.int l2), some (.int v4), some (.int (v4 + 1))] _ _ _ _
            exact (ih v4 (v4 + 1) ((x_m_know T l1).2) kk)
          refine r_ceq dX12_mind_69 rfl (fun c69_9 => ?_) (fun c69_9 => ?_)
          · refine r_ip (R := rI) c69_9 ?_
            have kk := kk.1 c69_9
            show tR _ _ _ _ [some (.ref (571 : Nat)), some (.int l1), some (.int l2), some (.int v3), some (.int v4)] [] _ _ _
            exact (hJ1  kk)
          · refine r_in (R := rI) c69_9 ?_
            have kk := kk.2 c69_9
            refine r_p (pc2 := 73) dX12_mind_72 rfl rfl ?_
            refine r_get dX12_mind_73 fkX12_79 rfl rfl ?_
            refine r_p (pc2 := 78) dX12_mind_76 rfl rfl ?_
            refine r_ia dX12_mind_78 rfl q2 ?_
            refine r_p (pc2 := 80) dX12_mind_79 rfl rfl ?_
            refine r_get dX12_mind_80 fkX12_79 rfl rfl ?_
            refine r_p (pc2 := 84) dX12_mind_83 rfl rfl ?_
            obtain ⟨q4, kk⟩ := kk
            refine r_ia dX12_mind_84 rfl q4 ?_
            refine r_cge dX12_mind_85 rfl (fun c85_10 => ?_) (fun c85_10 => ?_)
            · refine r_ip (R := rI) c85_10 ?_
              have kk := kk.1 c85_10
              refine r_p (pc2 := 94) dX12_mind_93 rfl rfl ?_
              refine r_p (pc2 := 95) (L2 := [some (.ref (571 : Nat)), some (.int l1), some (.int l2), some (.int v3), some (.int v4)]) dX12_mind_94 rfl rfl ?_
              refine r_inc (L2 := [some (.ref (571 : Nat)), some (.int l1), some (.int l2), some (.int v3), some (.int (v4 + 1))]) (y := 1) dX12_mind_95 rfl rfl rfl ?_
              refine r_go dX12_mind_98 rfl ?_
              show tR _ _ _ _ [some (.ref (571 : Nat)), some (.int l1), some (.int l2), some (.int v3), some (.int (v4 + 1))] _ _ _ _
              exact (ih v3 (v4 + 1) ((x_m_know T l1).2) kk)
            · refine r_in (R := rI) c85_10 ?_
              have kk := kk.2 c85_10
              show tR _ _ _ _ [some (.ref (571 : Nat)), some (.int l1), some (.int l2), some (.int v3), some (.int v4)] [] _ _ _
              exact (hJ1  kk)
def x_m_mind (T : St) (p0 : Int32) (p1 : Int32) : Int32 × St := if (x_m_isBy (sF T 571 0 0) p0) = 0 then ((-1000001), sF T 571 0 0) else (if (x_m_isMinute (sF T 571 0 0) p1) = 0 then ((-1000001), sF T 571 0 0) else (if ((sF T 571 0 0).1 571 7) = 0 then ((-1000002), sF T 571 0 0) else (x_m_mind_38 p0 p1 (fun (w1_3 : Int32) (w1_4 : Int32) (T201 : St) => (w1_3, T201)) 1000 (-1000000) 0 (sF T 571 0 0))))
def ok_m_mind (T : St) (p0 : Int32) (p1 : Int32) : Prop := (¬ (x_m_isBy (sF T 571 0 0) p0) = 0 → (¬ (x_m_isMinute (sF T 571 0 0) p1) = 0 → (¬ ((sF T 571 0 0).1 571 7) = 0 → ok_m_mind_38 p0 p1 (fun (w1_3 : Int32) (w1_4 : Int32) (T201 : St) => True) 1000 (-1000000) 0 (sF T 571 0 0))))
theorem c_m_mind {X : Nat × (Nat → Int32)} {T : St} (p0 : Int32) (p1 : Int32) (kk : ok_m_mind T p0 p1) : tC X 7 mX12_mind [.ref (571 : Nat), .int p0, .int p1] T (some (.int (x_m_mind T p0 p1).1)) ((x_m_mind T p0 p1).2) := by
  unfold ok_m_mind at kk
  refine tC_orI (L := [some (.ref (571 : Nat)), some (.int p0), some (.int p1), none, none]) (x_m_mind T p0 p1) rfl ?_
  unfold x_m_mind
  refine r_p (pc2 := 1) dX12_mind_0 rfl rfl ?_
  refine r_ci (x := 0) dX12_mind_1 rfl ?_
  refine r_put dX12_mind_2 fkX12_101 rfl rfl rfl (Nat.le_of_ble_eq_true rfl) rfl rfl ?_
  refine r_p (pc2 := 6) dX12_mind_5 rfl rfl ?_
  refine r_cs (d1 := 2) dX12_mind_6 csX12_318 rfl rfl (Nat.le_of_ble_eq_true rfl) (Nat.le_of_ble_eq_true rfl) (Nat.le_of_ble_eq_true rfl) (c_m_isBy p0) ?_
  refine r_ieq dX12_mind_9 rfl (fun c9_1 => ?_) (fun c9_1 => ?_)
  · refine r_ip (R := rI) c9_1 ?_
    refine r_k dX12_mind_19 kkX12_121 ?_
    exact r_qI dX12_mind_21 rfl rfl rfl rfl
  · refine r_in (R := rI) c9_1 ?_
    have kk := kk c9_1
    refine r_p (pc2 := 13) dX12_mind_12 rfl rfl ?_
    refine r_cs (d1 := 2) dX12_mind_13 csX12_254 rfl rfl (Nat.le_of_ble_eq_true rfl) (Nat.le_of_ble_eq_true rfl) (Nat.le_of_ble_eq_true rfl) (c_m_isMinute p1) ?_
    refine r_ine dX12_mind_16 rfl (fun c16_2 => ?_) (fun c16_2 => ?_)
    · refine r_in (R := rI) c16_2 ?_
      have kk := kk c16_2
      refine r_p (pc2 := 23) dX12_mind_22 rfl rfl ?_
      refine r_get dX12_mind_23 fkX12_221 rfl rfl ?_
      refine r_ine dX12_mind_26 rfl (fun c26_3 => ?_) (fun c26_3 => ?_)
      · refine r_in (R := rI) c26_3 ?_
        have kk := kk c26_3
        refine r_k dX12_mind_32 kkX12_137 ?_
        refine r_p (pc2 := 35) (L2 := [some (.ref (571 : Nat)), some (.int p0), some (.int p1), some (.int (-1000000)), none]) dX12_mind_34 rfl rfl ?_
        refine r_ci (x := 0) dX12_mind_35 rfl ?_
        refine r_p (pc2 := 38) (L2 := [some (.ref (571 : Nat)), some (.int p0), some (.int p1), some (.int (-1000000)), some (.int 0)]) dX12_mind_36 rfl rfl ?_
        show tR _ _ _ _ [some (.ref (571 : Nat)), some (.int p0), some (.int p1), some (.int (-1000000)), some (.int 0)] _ _ _ _
        refine (c_m_mind_38 p0 p1 (fun w1_3 w1_4 T201 kk => ?_) 1000 (-1000000) 0 (sF T 571 0 0) kk)
        · skip
          refine r_p (pc2 := 102) dX12_mind_101 rfl rfl ?_
          exact r_qI dX12_mind_102 rfl rfl rfl rfl
      · refine r_ip (R := rI) c26_3 ?_
        refine r_k dX12_mind_29 kkX12_253 ?_
        exact r_qI dX12_mind_31 rfl rfl rfl rfl
    · refine r_ip (R := rI) c16_2 ?_
      refine r_k dX12_mind_19 kkX12_121 ?_
      exact r_qI dX12_mind_21 rfl rfl rfl rfl
