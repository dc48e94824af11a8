def x_x_judge (T : St) (p0 : Int32) (p1 : Int32) (p2 : Int32) : Int32 × St := jn (fun (KJ1 : Int32 × St) => if (x_sh_isOne T p0) = 0 then (KJ1) else (if (x_x_isTime T p2) = 0 then (KJ1) else (if (x_x_refusal T 1) = 0 then (if (x_sh_isMissing T p0) = 0 then (if (x_sh_reaches (x_ro_fill T 564 (T.2.1 0)) p0 p1 ((x_ro_fill T 564 (T.2.1 0)).1 564 1)) = 0 then ((x_x_found (x_ro_fill T 564 (T.2.1 0)) 2).1, (x_x_found (x_ro_fill T 564 (T.2.1 0)) 2).2) else (jn (fun (T3 : St) => ((x_x_fine ((x_jd_judged T3 (T3.2.1 0) 76 564 p2).2) ((x_jd_judged T3 (T3.2.1 0) 76 564 p2).1)).1, (x_x_fine ((x_jd_judged T3 (T3.2.1 0) 76 564 p2).2) ((x_jd_judged T3 (T3.2.1 0) 76 564 p2).1)).2)) (sAr (x_ro_fill T 564 (T.2.1 0)) 569 (va_cpy ((x_ro_fill T 564 (T.2.1 0)).2.2.1 (5 + (p0 : Int32).toNatClampNeg)) ((x_ro_fill T 564 (T.2.1 0)).2.2.1 569) (p1 : Int32).toNatClampNeg (0 : Int32).toNatClampNeg ((x_ro_fill T 564 (T.2.1 0)).1 564 1 : Int32).toNatClampNeg)))) else ((x_x_found T 1).1, (x_x_found T 1).2)) else (x_x_refusal T 1, T)))) (if (x_x_refusal T 0) = 0 then (if (x_sh_isMissing T p0) = 0 then (if (x_sh_reaches (x_ro_fill T 564 (T.2.1 0)) p0 p1 ((x_ro_fill T 564 (T.2.1 0)).1 564 1)) = 0 then ((x_x_found (x_ro_fill T 564 (T.2.1 0)) 2).1, (x_x_found (x_ro_fill T 564 (T.2.1 0)) 2).2) else (jn (fun (T2 : St) => ((x_x_fine ((x_jd_judged T2 (T2.2.1 0) 76 564 p2).2) ((x_jd_judged T2 (T2.2.1 0) 76 564 p2).1)).1, (x_x_fine ((x_jd_judged T2 (T2.2.1 0) 76 564 p2).2) ((x_jd_judged T2 (T2.2.1 0) 76 564 p2).1)).2)) (sAr (x_ro_fill T 564 (T.2.1 0)) 569 (va_cpy ((x_ro_fill T 564 (T.2.1 0)).2.2.1 (5 + (p0 : Int32).toNatClampNeg)) ((x_ro_fill T 564 (T.2.1 0)).2.2.1 569) (p1 : Int32).toNatClampNeg (0 : Int32).toNatClampNeg ((x_ro_fill T 564 (T.2.1 0)).1 564 1 : Int32).toNatClampNeg)))) else ((x_x_found T 1).1, (x_x_found T 1).2)) else (x_x_refusal T 0, T))
def ok_x_judge (T : St) (p0 : Int32) (p1 : Int32) (p2 : Int32) : Prop := jn (fun (OJ1 : Prop) => (((x_sh_isOne T p0) = 0 → OJ1) ∧ (¬ (x_sh_isOne T p0) = 0 → (((x_x_isTime T p2) = 0 → OJ1) ∧ (¬ (x_x_isTime T p2) = 0 → (ok_x_refusal T 1) ∧ ((x_x_refusal T 1) = 0 → (ok_sh_isMissing T p0) ∧ ((x_sh_isMissing T p0) = 0 → (ok_ro_fill T 564 (T.2.1 0)) ∧ (ok_sh_reaches (x_ro_fill T 564 (T.2.1 0)) p0 p1 ((x_ro_fill T 564 (T.2.1 0)).1 564 1)) ∧ (¬ (x_sh_reaches (x_ro_fill T 564 (T.2.1 0)) p0 p1 ((x_ro_fill T 564 (T.2.1 0)).1 564 1)) = 0 → (vp_in p0 8) ∧ (cpok p1 0 ((x_ro_fill T 564 (T.2.1 0)).1 564 1) 40 12) ∧ jn (fun (T3 : St) => (ok_jd_judged T3 (T3.2.1 0) 76 564 p2) ∧ True) (sAr (x_ro_fill T 564 (T.2.1 0)) 569 (va_cpy ((x_ro_fill T 564 (T.2.1 0)).2.2.1 (5 + (p0 : Int32).toNatClampNeg)) ((x_ro_fill T 564 (T.2.1 0)).2.2.1 569) (p1 : Int32).toNatClampNeg (0 : Int32).toNatClampNeg ((x_ro_fill T 564 (T.2.1 0)).1 564 1 : Int32).toNatClampNeg)))))))))) ((ok_x_refusal T 0) ∧ ((x_x_refusal T 0) = 0 → (ok_sh_isMissing T p0) ∧ ((x_sh_isMissing T p0) = 0 → (ok_ro_fill T 564 (T.2.1 0)) ∧ (ok_sh_reaches (x_ro_fill T 564 (T.2.1 0)) p0 p1 ((x_ro_fill T 564 (T.2.1 0)).1 564 1)) ∧ (¬ (x_sh_reaches (x_ro_fill T 564 (T.2.1 0)) p0 p1 ((x_ro_fill T 564 (T.2.1 0)).1 564 1)) = 0 → (vp_in p0 8) ∧ (cpok p1 0 ((x_ro_fill T 564 (T.2.1 0)).1 564 1) 40 12) ∧ jn (fun (T2 : St) => (ok_jd_judged T2 (T2.2.1 0) 76 564 p2) ∧ True) (sAr (x_ro_fill T 564 (T.2.1 0)) 569 (va_cpy ((x_ro_fill T 564 (T.2.1 0)).2.2.1 (5 + (p0 : Int32).toNatClampNeg)) ((x_ro_fill T 564 (T.2.1 0)).2.2.1 569) (p1 : Int32).toNatClampNeg (0 : Int32).toNatClampNeg ((x_ro_fill T 564 (T.2.1 0)).1 564 1 : Int32).toNatClampNeg))))))
theorem c_x_judge {X : Nat × (Nat → Int32)} {T : St} (p0 : Int32) (p1 : Int32) (p2 : Int32) (kk : ok_x_judge T p0 p1 p2) : tC X 6 mX11_judge [.ref (0 : Nat), .int p0, .int p1, .int p2] T (some (.int (x_x_judge T p0 p1 p2).1)) ((x_x_judge T p0 p1 p2).2) := by
  unfold ok_x_judge at kk
  refine tC_orI (L := [some (.ref (0 : Nat)), some (.int p0), some (.int p1), some (.int p2), none]) (x_x_judge T p0 p1 p2) rfl ?_
  unfold x_x_judge
  refine r_p (pc2 := 1) dX11_judge_0 rfl rfl ?_
  refine r_p (pc2 := 2) dX11_judge_1 rfl rfl ?_
  refine r_get dX11_judge_2 fkX11_10 rfl rfl ?_
  refine r_p (pc2 := 6) dX11_judge_5 rfl rfl ?_
  refine r_cv (d1 := 1) dX11_judge_6 cvX11_78 rfl rfl rfl rfl (Nat.le_of_ble_eq_true rfl) (Nat.le_of_ble_eq_true rfl) (Nat.le_of_ble_eq_true rfl) (c_sh_isOne p0) ?_
  refine r_jn (R := rI) (J := fun (KJ1 : Int32 × St) (OJ1 : Prop) => OJ1 → tR X 5 mX11_judge 23 [some (.ref (0 : Nat)), some (.int p0), some (.int p1), some (.int p2), none] [.ref (0 : Nat)] T (rI KJ1).1 (rI KJ1).2) kk (fun  kk => ?_) (fun KJ1 OJ1 hJ1 kk => ?_)
  · skip
    refine r_ci (x := 0) dX11_judge_23 rfl ?_
    obtain ⟨q8, kk⟩ := kk
    refine r_cv (d1 := 2) dX11_judge_24 cvX11_221 rfl rfl rfl rfl (Nat.le_of_ble_eq_true rfl) (Nat.le_of_ble_eq_true rfl) (Nat.le_of_ble_eq_true rfl) (c_x_refusal 0 q8) ?_
    refine r_p (pc2 := 29) (L2 := [some (.ref (0 : Nat)), some (.int p0), some (.int p1), some (.int p2), some (.int (x_x_refusal T 0))]) dX11_judge_27 rfl rfl ?_
    refine r_p (pc2 := 31) dX11_judge_29 rfl rfl ?_
    refine r_ieq dX11_judge_31 rfl (fun c31_6 => ?_) (fun c31_6 => ?_)
    · refine r_ip (R := rI) c31_6 ?_
      have kk := kk c31_6
      refine r_p (pc2 := 38) dX11_judge_37 rfl rfl ?_
      refine r_get dX11_judge_38 fkX11_10 rfl rfl ?_
      refine r_p (pc2 := 42) dX11_judge_41 rfl rfl ?_
      obtain ⟨q9, kk⟩ := kk
      refine r_cv (d1 := 1) dX11_judge_42 cvX11_94 rfl rfl rfl rfl (Nat.le_of_ble_eq_true rfl) (Nat.le_of_ble_eq_true rfl) (Nat.le_of_ble_eq_true rfl) (c_sh_isMissing p0 q9) ?_
      refine r_ieq dX11_judge_45 rfl (fun c45_7 => ?_) (fun c45_7 => ?_)
      · refine r_ip (R := rI) c45_7 ?_
        have kk := kk c45_7
        refine r_p (pc2 := 55) dX11_judge_54 rfl rfl ?_
        refine r_get dX11_judge_55 fkX11_75 rfl rfl ?_
        refine r_p (pc2 := 59) dX11_judge_58 rfl rfl ?_
        refine r_get dX11_judge_59 fkX11_30 rfl rfl ?_
        obtain ⟨q10, kk⟩ := kk
        refine r_cv (d1 := 2) dX11_judge_62 cvX11_225 rfl rfl rfl rfl (Nat.le_of_ble_eq_true rfl) (Nat.le_of_ble_eq_true rfl) (Nat.le_of_ble_eq_true rfl) (c_ro_fill 564 (T.2.1 0) q10) ?_
        refine r_p (pc2 := 66) dX11_judge_65 rfl rfl ?_
        refine r_get dX11_judge_66 fkX11_10 rfl rfl ?_
        refine r_p (pc2 := 70) dX11_judge_69 rfl rfl ?_
        refine r_p (pc2 := 71) dX11_judge_70 rfl rfl ?_
        refine r_p (pc2 := 72) dX11_judge_71 rfl rfl ?_
        refine r_get dX11_judge_72 fkX11_75 rfl rfl ?_
        refine r_get dX11_judge_75 fkX11_228 rfl rfl ?_
        obtain ⟨q11, kk⟩ := kk
        refine r_cv (d1 := 1) dX11_judge_78 cvX11_97 rfl rfl rfl rfl (Nat.le_of_ble_eq_true rfl) (Nat.le_of_ble_eq_true rfl) (Nat.le_of_ble_eq_true rfl) (c_sh_reaches p0 p1 ((x_ro_fill T 564 (T.2.1 0)).1 564 1) q11) ?_
        refine r_ine dX11_judge_81 rfl (fun c81_8 => ?_) (fun c81_8 => ?_)
        · refine r_in (R := rI) c81_8 ?_
          have kk := kk c81_8
          refine r_p (pc2 := 91) dX11_judge_90 rfl rfl ?_
          refine r_get dX11_judge_91 fkX11_10 rfl rfl ?_
          refine r_get dX11_judge_94 fkX11_109 rfl rfl ?_
          refine r_p (pc2 := 98) dX11_judge_97 rfl rfl ?_
          obtain ⟨q12, kk⟩ := kk
          refine r_aa dX11_judge_98 rfl (by decide) q12 (rf4 q12) ?_
          refine r_p (pc2 := 100) dX11_judge_99 rfl rfl ?_
          refine r_p (pc2 := 101) dX11_judge_100 rfl rfl ?_
          refine r_get dX11_judge_101 fkX11_75 rfl rfl ?_
          refine r_get dX11_judge_104 fkX11_231 rfl rfl ?_
          refine r_ci (x := 0) dX11_judge_107 rfl ?_
          refine r_p (pc2 := 109) dX11_judge_108 rfl rfl ?_
          refine r_get dX11_judge_109 fkX11_75 rfl rfl ?_
          refine r_get dX11_judge_112 fkX11_228 rfl rfl ?_
          obtain ⟨q13, kk⟩ := kk
          refine r_cpy dX11_judge_115 cpX11_113 rfl (shr4 q12) q13.1 q13.2.1 q13.2.2.1 q13.2.2.2.1 q13.2.2.2.2 (Nat.le_of_ble_eq_true rfl) ?_
          refine r_nT (R := rI) rfl kk (fun T2 kk => ?_)
          refine r_p (pc2 := 119) dX11_judge_118 rfl rfl ?_
          refine r_p (pc2 := 120) dX11_judge_119 rfl rfl ?_
          refine r_get dX11_judge_120 fkX11_57 rfl rfl ?_
          refine r_p (pc2 := 124) dX11_judge_123 rfl rfl ?_
          refine r_get dX11_judge_124 fkX11_30 rfl rfl ?_
          refine r_p (pc2 := 128) dX11_judge_127 rfl rfl ?_
          refine r_get dX11_judge_128 fkX11_40 rfl rfl ?_
          refine r_p (pc2 := 132) dX11_judge_131 rfl rfl ?_
          refine r_get dX11_judge_132 fkX11_75 rfl rfl ?_
          refine r_p (pc2 := 136) dX11_judge_135 rfl rfl ?_
          obtain ⟨q14, kk⟩ := kk
          refine r_cv (d1 := 5) dX11_judge_136 cvX11_234 rfl rfl rfl rfl (Nat.le_of_ble_eq_true rfl) (Nat.le_of_ble_eq_true rfl) (Nat.le_of_ble_eq_true rfl) (c_jd_judged (T2.2.1 0) 76 564 p2 q14) ?_
          refine r_cv (d1 := 1) dX11_judge_139 cvX11_91 rfl rfl rfl rfl (Nat.le_of_ble_eq_true rfl) (Nat.le_of_ble_eq_true rfl) (Nat.le_of_ble_eq_true rfl) (c_x_fine ((x_jd_judged T2 (T2.2.1 0) 76 564 p2).1)) ?_
          exact r_qI dX11_judge_142 rfl rfl rfl rfl
        · refine r_ip (R := rI) c81_8 ?_
          refine r_p (pc2 := 85) dX11_judge_84 rfl rfl ?_
          refine r_ci (x := 2) dX11_judge_85 rfl ?_
          refine r_cv (d1 := 1) dX11_judge_86 cvX11_83 rfl rfl rfl rfl (Nat.le_of_ble_eq_true rfl) (Nat.le_of_ble_eq_true rfl) (Nat.le_of_ble_eq_true rfl) (c_x_found 2) ?_
          exact r_qI dX11_judge_89 rfl rfl rfl rfl
      · refine r_in (R := rI) c45_7 ?_
        refine r_p (pc2 := 49) dX11_judge_48 rfl rfl ?_
        refine r_ci (x := 1) dX11_judge_49 rfl ?_
        refine r_cv (d1 := 1) dX11_judge_50 cvX11_83 rfl rfl rfl rfl (Nat.le_of_ble_eq_true rfl) (Nat.le_of_ble_eq_true rfl) (Nat.le_of_ble_eq_true rfl) (c_x_found 1) ?_
        exact r_qI dX11_judge_53 rfl rfl rfl rfl
    · refine r_in (R := rI) c31_6 ?_
      refine r_p (pc2 := 36) dX11_judge_34 rfl rfl ?_
      exact r_qI dX11_judge_36 rfl rfl rfl rfl
  refine r_ieq dX11_judge_9 rfl (fun c9_9 => ?_) (fun c9_9 => ?_)
  · refine r_ip (R := rI) c9_9 ?_
    have kk := kk.1 c9_9
    show tR _ _ _ _ [some (.ref (0 : Nat)), some (.int p0), some (.int p1), some (.int p2), none] [.ref (0 : Nat)] _ _ _
    exact (hJ1  kk)
  · refine r_in (R := rI) c9_9 ?_
    have kk := kk.2 c9_9
    refine r_p (pc2 := 13) dX11_judge_12 rfl rfl ?_
    refine r_cs (d1 := 1) dX11_judge_13 csX11_218 rfl rfl (Nat.le_of_ble_eq_true rfl) (Nat.le_of_ble_eq_true rfl) (Nat.le_of_ble_eq_true rfl) (c_x_isTime p2) ?_
    refine r_ieq dX11_judge_16 rfl (fun c16_10 => ?_) (fun c16_10 => ?_)
    · refine r_ip (R := rI) c16_10 ?_
      have kk := kk.1 c16_10
      show tR _ _ _ _ [some (.ref (0 : Nat)), some (.int p0), some (.int p1), some (.int p2), none] [.ref (0 : Nat)] _ _ _
      exact (hJ1  kk)
    · refine r_in (R := rI) c16_10 ?_
      have kk := kk.2 c16_10
      refine r_ci (x := 1) dX11_judge_19 rfl ?_
      refine r_go dX11_judge_20 rfl ?_
      obtain ⟨q15, kk⟩ := kk
      refine r_cv (d1 := 2) dX11_judge_24 cvX11_221 rfl rfl rfl rfl (Nat.le_of_ble_eq_true rfl) (Nat.le_of_ble_eq_true rfl) (Nat.le_of_ble_eq_true rfl) (c_x_refusal 1 q15) ?_
      refine r_p (pc2 := 29) (L2 := [some (.ref (0 : Nat)), some (.int p0), some (.int p1), some (.int p2), some (.int (x_x_refusal T 1))]) dX11_judge_27 rfl rfl ?_
      refine r_p (pc2 := 31) dX11_judge_29 rfl rfl ?_
      refine r_ieq dX11_judge_31 rfl (fun c31_11 => ?_) (fun c31_11 => ?_)
      · refine r_ip (R := rI) c31_11 ?_
        have kk := kk c31_11
        refine r_p (pc2 := 38) dX11_judge_37 rfl rfl ?_
        refine r_get dX11_judge_38 fkX11_10 rfl rfl ?_
        refine r_p (pc2 := 42) dX11_judge_41 rfl rfl ?_
        obtain ⟨q16, kk⟩ := kk
        refine r_cv (d1 := 1) dX11_judge_42 cvX11_94 rfl rfl rfl rfl (Nat.le_of_ble_eq_true rfl) (Nat.le_of_ble_eq_true rfl) (Nat.le_of_ble_eq_true rfl) (c_sh_isMissing p0 q16) ?_
        refine r_ieq dX11_judge_45 rfl (fun c45_12 => ?_) (fun c45_12 => ?_)
        · refine r_ip (R := rI) c45_12 ?_
          have kk := kk c45_12
          refine r_p (pc2 := 55) dX11_judge_54 rfl rfl ?_
          refine r_get dX11_judge_55 fkX11_75 rfl rfl ?_
          refine r_p (pc2 := 59) dX11_judge_58 rfl rfl ?_
          refine r_get dX11_judge_59 fkX11_30 rfl rfl ?_
          obtain ⟨q17, kk⟩ := kk
          refine r_cv (d1 := 2) dX11_judge_62 cvX11_225 rfl rfl rfl rfl (Nat.le_of_ble_eq_true rfl) (Nat.le_of_ble_eq_true rfl) (Nat.le_of_ble_eq_true rfl) (c_ro_fill 564 (T.2.1 0) q17) ?_
          refine r_p (pc2 := 66) dX11_judge_65 rfl rfl ?_
          refine r_get dX11_judge_66 fkX11_10 rfl rfl ?_
          refine r_p (pc2 := 70) dX11_judge_69 rfl rfl ?_
          refine r_p (pc2 := 71) dX11_judge_70 rfl rfl ?_
          refine r_p (pc2 := 72) dX11_judge_71 rfl rfl ?_
          refine r_get dX11_judge_72 fkX11_75 rfl rfl ?_
          refine r_get dX11_judge_75 fkX11_228 rfl rfl ?_
          obtain ⟨q18, kk⟩ := kk
          refine r_cv (d1 := 1) dX11_judge_78 cvX11_97 rfl rfl rfl rfl (Nat.le_of_ble_eq_true rfl) (Nat.le_of_ble_eq_true rfl) (Nat.le_of_ble_eq_true rfl) (c_sh_reaches p0 p1 ((x_ro_fill T 564 (T.2.1 0)).1 564 1) q18) ?_
          refine r_ine dX11_judge_81 rfl (fun c81_13 => ?_) (fun c81_13 => ?_)
          · refine r_in (R := rI) c81_13 ?_
            have kk := kk c81_13
            refine r_p (pc2 := 91) dX11_judge_90 rfl rfl ?_
            refine r_get dX11_judge_91 fkX11_10 rfl rfl ?_
            refine r_get dX11_judge_94 fkX11_109 rfl rfl ?_
            refine r_p (pc2 := 98) dX11_judge_97 rfl rfl ?_
            obtain ⟨q19, kk⟩ := kk
            refine r_aa dX11_judge_98 rfl (by decide) q19 (rf4 q19) ?_
            refine r_p (pc2 := 100) dX11_judge_99 rfl rfl ?_
            refine r_p (pc2 := 101) dX11_judge_100 rfl rfl ?_
            refine r_get dX11_judge_101 fkX11_75 rfl rfl ?_
            refine r_get dX11_judge_104 fkX11_231 rfl rfl ?_
            refine r_ci (x := 0) dX11_judge_107 rfl ?_
            refine r_p (pc2 := 109) dX11_judge_108 rfl rfl ?_
            refine r_get dX11_judge_109 fkX11_75 rfl rfl ?_
            refine r_get dX11_judge_112 fkX11_228 rfl rfl ?_
            obtain ⟨q20, kk⟩ := kk
            refine r_cpy dX11_judge_115 cpX11_113 rfl (shr4 q19) q20.1 q20.2.1 q20.2.2.1 q20.2.2.2.1 q20.2.2.2.2 (Nat.le_of_ble_eq_true rfl) ?_
            refine r_nT (R := rI) rfl kk (fun T3 kk => ?_)
            refine r_p (pc2 := 119) dX11_judge_118 rfl rfl ?_
            refine r_p (pc2 := 120) dX11_judge_119 rfl rfl ?_
            refine r_get dX11_judge_120 fkX11_57 rfl rfl ?_
            refine r_p (pc2 := 124) dX11_judge_123 rfl rfl ?_
            refine r_get dX11_judge_124 fkX11_30 rfl rfl ?_
            refine r_p (pc2 := 128) dX11_judge_127 rfl rfl ?_
            refine r_get dX11_judge_128 fkX11_40 rfl rfl ?_
            refine r_p (pc2 := 132) dX11_judge_131 rfl rfl ?_
            refine r_get dX11_judge_132 fkX11_75 rfl rfl ?_
            refine r_p (pc2 := 136) dX11_judge_135 rfl rfl ?_
            obtain ⟨q21, kk⟩ := kk
            refine r_cv (d1 := 5) dX11_judge_136 cvX11_234 rfl rfl rfl rfl (Nat.le_of_ble_eq_true rfl) (Nat.le_of_ble_eq_true rfl) (Nat.le_of_ble_eq_true rfl) (c_jd_judged (T3.2.1 0) 76 564 p2 q21) ?_
            refine r_cv (d1 := 1) dX11_judge_139 cvX11_91 rfl rfl rfl rfl (Nat.le_of_ble_eq_true rfl) (Nat.le_of_ble_eq_true rfl) (Nat.le_of_ble_eq_true rfl) (c_x_fine ((x_jd_judged T3 (T3.2.1 0) 76 564 p2).1)) ?_
            exact r_qI dX11_judge_142 rfl rfl rfl rfl
          · refine r_ip (R := rI) c81_13 ?_
            refine r_p (pc2 := 85) dX11_judge_84 rfl rfl ?_
            refine r_ci (x := 2) dX11_judge_85 rfl ?_
            refine r_cv (d1 := 1) dX11_judge_86 cvX11_83 rfl rfl rfl rfl (Nat.le_of_ble_eq_true rfl) (Nat.le_of_ble_eq_true rfl) (Nat.le_of_ble_eq_true rfl) (c_x_found 2) ?_
            exact r_qI dX11_judge_89 rfl rfl rfl rfl
        · refine r_in (R := rI) c45_12 ?_
          refine r_p (pc2 := 49) dX11_judge_48 rfl rfl ?_
          refine r_ci (x := 1) dX11_judge_49 rfl ?_
          refine r_cv (d1 := 1) dX11_judge_50 cvX11_83 rfl rfl rfl rfl (Nat.le_of_ble_eq_true rfl) (Nat.le_of_ble_eq_true rfl) (Nat.le_of_ble_eq_true rfl) (c_x_found 1) ?_
          exact r_qI dX11_judge_53 rfl rfl rfl rfl
      · refine r_in (R := rI) c31_11 ?_
        refine r_p (pc2 := 36) dX11_judge_34 rfl rfl ?_
        exact r_qI dX11_judge_36 rfl rfl rfl rfl
def x_rd_readDish (T : St) (p0 : Nat) : St := jn (fun (KJ1 : St → St) => if (T.1 13 2) = 0 then (if (x_rd_isWord T 2) = 0 then (KJ1 T) else (if (T.1 p0 4) < 8 then (KJ1 T) else (KJ1 (sF T 13 2 3)))) else (KJ1 T)) (fun (T301 : St) => if ((x_rd_takeWord T301 2).1 13 2) = 0 then (jn (fun (i1 : Int32) => jn (fun (T2 : St) => jn (fun (T3 : St) => jn (fun (T4 : St) => jn (fun (T5 : St) => jn (fun (T6 : St) => sF T6 p0 4 ((T6.1 p0 4) + 1)) (sA T5 (p0 + 7) (i1 : Int32).toNatClampNeg ((T5.1 p0 10) - (T5.2.2.1 (p0 + 8) (i1 : Int32).toNatClampNeg)))) (x_rd_readSteps (sA (x_rd_takeSign T4) (p0 + 8) (i1 : Int32).toNatClampNeg ((x_rd_takeSign T4).1 p0 10)) p0)) (sA ((x_rd_takeNumber T3 0 1).2) (p0 + 6) (i1 : Int32).toNatClampNeg ((x_rd_takeNumber T3 0 1).1))) (sA ((x_rd_takeNumber T2 0 9).2) (p0 + 5) (i1 : Int32).toNatClampNeg ((x_rd_takeNumber T2 0 9).1))) (sA ((x_rd_takeNumber (x_rd_takeWord T301 2) 0 2).2) (p0 + 4) (i1 : Int32).toNatClampNeg ((x_rd_takeNumber (x_rd_takeWord T301 2) 0 2).1))) ((x_rd_takeWord T301 2).1 p0 4)) else (x_rd_takeWord T301 2))
def ok_rd_readDish (T : St) (p0 : Nat) : Prop := jn (fun (OJ1 : St → Prop) => (((T.1 13 2) = 0 → (ok_rd_isWord T 2) ∧ (((x_rd_isWord T 2) = 0 → OJ1 T) ∧ (¬ (x_rd_isWord T 2) = 0 → (sh p0 = .inr 1) ∧ (((T.1 p0 4) < 8 → OJ1 T) ∧ (¬ (T.1 p0 4) < 8 → OJ1 (sF T 13 2 3)))))) ∧ (¬ (T.1 13 2) = 0 → OJ1 T))) (fun (T301 : St) => (ok_rd_takeWord T301 2) ∧ (((x_rd_takeWord T301 2).1 13 2) = 0 → (sh p0 = .inr 1) ∧ jn (fun (i1 : Int32) => (ok_rd_takeNumber (x_rd_takeWord T301 2) 0 2) ∧ (vp_in i1 8) ∧ jn (fun (T2 : St) => (ok_rd_takeNumber T2 0 9) ∧ jn (fun (T3 : St) => (ok_rd_takeNumber T3 0 1) ∧ jn (fun (T4 : St) => (ok_rd_takeSign T4) ∧ (ok_rd_readSteps (sA (x_rd_takeSign T4) (p0 + 8) (i1 : Int32).toNatClampNeg ((x_rd_takeSign T4).1 p0 10)) p0) ∧ True) (sA ((x_rd_takeNumber T3 0 1).2) (p0 + 6) (i1 : Int32).toNatClampNeg ((x_rd_takeNumber T3 0 1).1))) (sA ((x_rd_takeNumber T2 0 9).2) (p0 + 5) (i1 : Int32).toNatClampNeg ((x_rd_takeNumber T2 0 9).1))) (sA ((x_rd_takeNumber (x_rd_takeWord T301 2) 0 2).2) (p0 + 4) (i1 : Int32).toNatClampNeg ((x_rd_takeNumber (x_rd_takeWord T301 2) 0 2).1))) ((x_rd_takeWord T301 2).1 p0 4)))
theorem c_rd_readDish {X : Nat × (Nat → Int32)} {T : St} (p0 : Nat) (kk : ok_rd_readDish T p0) : tC X 8 mX6_readDish [.ref (13 : Nat), .ref p0] T none (x_rd_readDish T p0) := by
  unfold ok_rd_readDish at kk
  refine tC_orV (L := [some (.ref (13 : Nat)), some (.ref p0), none]) (x_rd_readDish T p0) rfl ?_
  unfold x_rd_readDish
  refine r_p (pc2 := 1) dX6_readDish_0 rfl rfl ?_
  refine r_get dX6_readDish_1 fkX6_24 rfl rfl ?_
  refine r_jn (R := rV) (J := fun (KJ1 : St → St) (OJ1 : St → Prop) => ∀ (T301 : St), OJ1 T301 → tR X 7 mX6_readDish 30 [some (.ref (13 : Nat)), some (.ref p0), none] [] T301 (rV (KJ1 T301)).1 (rV (KJ1 T301)).2) kk (fun T301 kk => ?_) (fun KJ1 OJ1 hJ1 kk => ?_)
  · skip
    refine r_p (pc2 := 31) dX6_readDish_30 rfl rfl ?_
    refine r_ks 2 rfl dX6_readDish_31 rfl ?_
    obtain ⟨q3, kk⟩ := kk
    refine r_cv (d1 := 6) dX6_readDish_33 cvX6_54 rfl rfl rfl rfl (Nat.le_of_ble_eq_true rfl) (Nat.le_of_ble_eq_true rfl) (Nat.le_of_ble_eq_true rfl) (c_rd_takeWord 2 q3) ?_
    refine r_p (pc2 := 37) dX6_readDish_36 rfl rfl ?_
    refine r_get dX6_readDish_37 fkX6_24 rfl rfl ?_
    refine r_ieq dX6_readDish_40 rfl (fun c40_4 => ?_) (fun c40_4 => ?_)
    · refine r_ip (R := rV) c40_4 ?_
      have kk := kk c40_4
      refine r_p (pc2 := 45) dX6_readDish_44 rfl rfl ?_
      obtain ⟨q4, kk⟩ := kk
      refine r_get dX6_readDish_45 fkX6_84 q4 rfl ?_
      refine r_nI (R := rV) rfl kk (fun i1 kk => ?_)
      refine r_p (pc2 := 49) (L2 := [some (.ref (13 : Nat)), some (.ref p0), some (.int i1)]) dX6_readDish_48 rfl rfl ?_
      refine r_p (pc2 := 50) dX6_readDish_49 rfl rfl ?_
      refine r_get dX6_readDish_50 fkX6_87 q4 rfl ?_
      refine r_p (pc2 := 54) dX6_readDish_53 rfl rfl ?_
      refine r_p (pc2 := 55) dX6_readDish_54 rfl rfl ?_
      refine r_ci (x := 0) dX6_readDish_55 rfl ?_
      refine r_ci (x := 2) dX6_readDish_56 rfl ?_
      obtain ⟨q5, kk⟩ := kk
      refine r_cv (d1 := 3) dX6_readDish_57 cvX6_66 rfl rfl rfl rfl (Nat.le_of_ble_eq_true rfl) (Nat.le_of_ble_eq_true rfl) (Nat.le_of_ble_eq_true rfl) (c_rd_takeNumber 0 2 q5) ?_
      obtain ⟨q6, kk⟩ := kk
      refine r_ias dX6_readDish_60 (shl1_4 q4) q6 ?_
      refine r_nT (R := rV) rfl kk (fun T2 kk => ?_)
      refine r_p (pc2 := 62) dX6_readDish_61 rfl rfl ?_
      refine r_get dX6_readDish_62 fkX6_90 q4 rfl ?_
      refine r_p (pc2 := 66) dX6_readDish_65 rfl rfl ?_
      refine r_p (pc2 := 67) dX6_readDish_66 rfl rfl ?_
      refine r_ci (x := 0) dX6_readDish_67 rfl ?_
      refine r_cb (x := 9) dX6_readDish_68 rfl ?_
      obtain ⟨q7, kk⟩ := kk
      refine r_cv (d1 := 3) dX6_readDish_70 cvX6_66 rfl rfl rfl rfl (Nat.le_of_ble_eq_true rfl) (Nat.le_of_ble_eq_true rfl) (Nat.le_of_ble_eq_true rfl) (c_rd_takeNumber 0 9 q7) ?_
      refine r_ias dX6_readDish_73 (shl1_5 q4) q6 ?_
      refine r_nT (R := rV) rfl kk (fun T3 kk => ?_)
      refine r_p (pc2 := 75) dX6_readDish_74 rfl rfl ?_
      refine r_get dX6_readDish_75 fkX6_93 q4 rfl ?_
      refine r_p (pc2 := 79) dX6_readDish_78 rfl rfl ?_
      refine r_p (pc2 := 80) dX6_readDish_79 rfl rfl ?_
      refine r_ci (x := 0) dX6_readDish_80 rfl ?_
      refine r_ci (x := 1) dX6_readDish_81 rfl ?_
      obtain ⟨q8, kk⟩ := kk
      refine r_cv (d1 := 3) dX6_readDish_82 cvX6_66 rfl rfl rfl rfl (Nat.le_of_ble_eq_true rfl) (Nat.le_of_ble_eq_true rfl) (Nat.le_of_ble_eq_true rfl) (c_rd_takeNumber 0 1 q8) ?_
      refine r_ias dX6_readDish_85 (shl1_6 q4) q6 ?_
      refine r_nT (R := rV) rfl kk (fun T4 kk => ?_)
      refine r_p (pc2 := 87) dX6_readDish_86 rfl rfl ?_
      obtain ⟨q9, kk⟩ := kk
      refine r_cv (d1 := 3) dX6_readDish_87 cvX6_70 rfl rfl rfl rfl (Nat.le_of_ble_eq_true rfl) (Nat.le_of_ble_eq_true rfl) (Nat.le_of_ble_eq_true rfl) (c_rd_takeSign  q9) ?_
      refine r_p (pc2 := 91) dX6_readDish_90 rfl rfl ?_
      refine r_get dX6_readDish_91 fkX6_96 q4 rfl ?_
      refine r_p (pc2 := 95) dX6_readDish_94 rfl rfl ?_
      refine r_p (pc2 := 96) dX6_readDish_95 rfl rfl ?_
      refine r_get dX6_readDish_96 fkX6_99 q4 rfl ?_
      refine r_ias dX6_readDish_99 (shl1_8 q4) q6 ?_
      refine r_p (pc2 := 101) dX6_readDish_100 rfl rfl ?_
      refine r_p (pc2 := 102) dX6_readDish_101 rfl rfl ?_
      obtain ⟨q10, kk⟩ := kk
      refine r_cv (d1 := 7) dX6_readDish_102 cvX6_102 rfl rfl rfl rfl (Nat.le_of_ble_eq_true rfl) (Nat.le_of_ble_eq_true rfl) (Nat.le_of_ble_eq_true rfl) (c_rd_readSteps p0 q10) ?_
      refine r_nT0 (R := rV) rfl (fun T5 => ?_)
      refine r_p (pc2 := 106) dX6_readDish_105 rfl rfl ?_
      refine r_get dX6_readDish_106 fkX6_105 q4 rfl ?_
      refine r_p (pc2 := 110) dX6_readDish_109 rfl rfl ?_
      refine r_p (pc2 := 111) dX6_readDish_110 rfl rfl ?_
      refine r_get dX6_readDish_111 fkX6_99 q4 rfl ?_
      refine r_p (pc2 := 115) dX6_readDish_114 rfl rfl ?_
      refine r_get dX6_readDish_115 fkX6_96 q4 rfl ?_
      refine r_p (pc2 := 119) dX6_readDish_118 rfl rfl ?_
      refine r_ia dX6_readDish_119 (shl1_8 q4) q6 ?_
      refine r_p (pc2 := 121) dX6_readDish_120 rfl rfl ?_
      refine r_ias dX6_readDish_121 (shl1_7 q4) q6 ?_
      refine r_nT0 (R := rV) rfl (fun T6 => ?_)
      refine r_p (pc2 := 123) dX6_readDish_122 rfl rfl ?_
      refine r_p (pc2 := 124) dX6_readDish_123 rfl rfl ?_
      refine r_get dX6_readDish_124 fkX6_84 q4 rfl ?_
      refine r_ci (x := 1) dX6_readDish_127 rfl ?_
      refine r_p (pc2 := 129) dX6_readDish_128 rfl rfl ?_
      refine r_put dX6_readDish_129 fkX6_84 rfl q4 rfl (Nat.le_of_ble_eq_true rfl) rfl rfl ?_
      exact r_qV dX6_readDish_132 rfl rfl
    · refine r_in (R := rV) c40_4 ?_
      exact r_qV dX6_readDish_43 rfl rfl
  refine r_ine dX6_readDish_4 rfl (fun c4_5 => ?_) (fun c4_5 => ?_)
  · refine r_in (R := rV) c4_5 ?_
    have kk := kk.2 c4_5
    show tR _ _ _ _ [some (.ref (13 : Nat)), some (.ref p0), none] [] _ _ _
    exact (hJ1 T kk)
  · refine r_ip (R := rV) c4_5 ?_
    have kk := kk.1 c4_5
    refine r_p (pc2 := 8) dX6_readDish_7 rfl rfl ?_
    refine r_ks 2 rfl dX6_readDish_8 rfl ?_
    obtain ⟨q11, kk⟩ := kk
    refine r_cv (d1 := 5) dX6_readDish_10 cvX6_39 rfl rfl rfl rfl (Nat.le_of_ble_eq_true rfl) (Nat.le_of_ble_eq_true rfl) (Nat.le_of_ble_eq_true rfl) (c_rd_isWord 2 q11) ?_
    refine r_ieq dX6_readDish_13 rfl (fun c13_6 => ?_) (fun c13_6 => ?_)
    · refine r_ip (R := rV) c13_6 ?_
      have kk := kk.1 c13_6
      show tR _ _ _ _ [some (.ref (13 : Nat)), some (.ref p0), none] [] _ _ _
      exact (hJ1 T kk)
    · refine r_in (R := rV) c13_6 ?_
      have kk := kk.2 c13_6
      refine r_p (pc2 := 17) dX6_readDish_16 rfl rfl ?_
      obtain ⟨q12, kk⟩ := kk
      refine r_get dX6_readDish_17 fkX6_84 q12 rfl ?_
      refine r_cb (x := 8) dX6_readDish_20 rfl ?_
      refine r_clt dX6_readDish_22 rfl (fun c22_7 => ?_) (fun c22_7 => ?_)
      · refine r_ip (R := rV) c22_7 ?_
        have kk := kk.1 c22_7
        show tR _ _ _ _ [some (.ref (13 : Nat)), some (.ref p0), none] [] _ _ _
        exact (hJ1 T kk)
      · refine r_in (R := rV) c22_7 ?_
        have kk := kk.2 c22_7
        refine r_p (pc2 := 26) dX6_readDish_25 rfl rfl ?_
        refine r_ci (x := 3) dX6_readDish_26 rfl ?_
        refine r_put dX6_readDish_27 fkX6_24 rfl rfl rfl (Nat.le_of_ble_eq_true rfl) rfl rfl ?_
        show tR _ _ _ _ [some (.ref (13 : Nat)), some (.ref p0), none] [] _ _ _
        exact (hJ1 (sF T 13 2 3) kk)
def x_rd_read_25 (l1 : Nat) (K : Int32 → St → St) : Nat → Int32 → St → St
  | 0, _, T => T
  | f + 1, v2, T => if 4 < v2 then (K v2 T) else (if (T.1 13 2) = 0 then (if (x_rd_isWord T 1) = 0 then (K v2 T) else (x_rd_read_25 l1 K f (v2 + 1) (x_rd_readAway T l1))) else (K v2 T))
def ok_rd_read_25 (l1 : Nat) (Kk : Int32 → St → Prop) : Nat → Int32 → St → Prop
  | 0, _, _ => False
  | f + 1, v2, T => ((4 < v2 → Kk v2 T) ∧ (¬ 4 < v2 → (((T.1 13 2) = 0 → (ok_rd_isWord T 1) ∧ (((x_rd_isWord T 1) = 0 → Kk v2 T) ∧ (¬ (x_rd_isWord T 1) = 0 → (ok_rd_readAway T l1) ∧ ok_rd_read_25 l1 Kk f (v2 + 1) (x_rd_readAway T l1)))) ∧ (¬ (T.1 13 2) = 0 → Kk v2 T))))
theorem c_rd_read_25 {X : Nat × (Nat → Int32)} (l1 : Nat) {K : Int32 → St → St} {Kk : Int32 → St → Prop} (hk : ∀ (v2 : Int32) (T : St), Kk v2 T → tR X 8 mX6_read 57 [some (.ref (13 : Nat)), some (.ref l1), some (.int v2)] [] T (rV (K v2 T)).1 ((rV (K v2 T)).2)) : ∀ (f : Nat) (v2 : Int32) (T : St), ok_rd_read_25 l1 Kk f v2 T → tR X 8 mX6_read 25 [some (.ref (13 : Nat)), some (.ref l1), some (.int v2)] [] T (rV (x_rd_read_25 l1 K f v2 T)).1 ((rV (x_rd_read_25 l1 K f v2 T)).2) := by
  intro f
  induction f with
  | zero => intro v2 T kk; exact kk.elim
  | succ f ih =>
    intro v2 T kk
    rw [ok_rd_read_25] at kk
    rw [x_rd_read_25]
    refine r_p (pc2 := 26) dX6_read_25 rfl rfl ?_
    refine r_ci (x := 4) dX6_read_26 rfl ?_
    refine r_cgt dX6_read_27 rfl (fun c27_1 => ?_) (fun c27_1 => ?_)
    · refine r_ip (R := rV) c27_1 ?_
      have kk := kk.1 c27_1
      show tR _ _ _ _ [some (.ref (13 : Nat)), some (.ref l1), some (.int v2)] _ _ _ _
      exact (hk v2 T kk)
    · refine r_in (R := rV) c27_1 ?_
      have kk := kk.2 c27_1
      refine r_p (pc2 := 31) dX6_read_30 rfl rfl ?_
      refine r_get dX6_read_31 fkX6_24 rfl rfl ?_
      refine r_ine dX6_read_34 rfl (fun c34_2 => ?_) (fun c34_2 => ?_)
      · refine r_in (R := rV) c34_2 ?_
        have kk := kk.2 c34_2
        show tR _ _ _ _ [some (.ref (13 : Nat)), some (.ref l1), some (.int v2)] _ _ _ _
        exact (hk v2 T kk)
      · refine r_ip (R := rV) c34_2 ?_
        have kk := kk.1 c34_2
        refine r_p (pc2 := 38) dX6_read_37 rfl rfl ?_
        refine r_ks 1 rfl dX6_read_38 rfl ?_
        obtain ⟨q5, kk⟩ := kk
        refine r_cv (d1 := 5) dX6_read_40 cvX6_39 rfl rfl rfl rfl (Nat.le_of_ble_eq_true rfl) (Nat.le_of_ble_eq_true rfl) (Nat.le_of_ble_eq_true rfl) (c_rd_isWord 1 q5) ?_
        refine r_ieq dX6_read_43 rfl (fun c43_3 => ?_) (fun c43_3 => ?_)
        · refine r_ip (R := rV) c43_3 ?_
          have kk := kk.1 c43_3
          show tR _ _ _ _ [some (.ref (13 : Nat)), some (.ref l1), some (.int v2)] _ _ _ _
          exact (hk v2 T kk)
        · refine r_in (R := rV) c43_3 ?_
          have kk := kk.2 c43_3
          refine r_p (pc2 := 47) dX6_read_46 rfl rfl ?_
          refine r_p (pc2 := 48) dX6_read_47 rfl rfl ?_
          obtain ⟨q6, kk⟩ := kk
          refine r_cv (d1 := 7) dX6_read_48 cvX6_43 rfl rfl rfl rfl (Nat.le_of_ble_eq_true rfl) (Nat.le_of_ble_eq_true rfl) (Nat.le_of_ble_eq_true rfl) (c_rd_readAway l1 q6) ?_
          refine r_inc (L2 := [some (.ref (13 : Nat)), some (.ref l1), some (.int (v2 + 1))]) (y := 1) dX6_read_51 rfl rfl rfl ?_
          refine r_go dX6_read_54 rfl ?_
          show tR _ _ _ _ [some (.ref (13 : Nat)), some (.ref l1), some (.int (v2 + 1))] _ _ _ _
          exact (ih (v2 + 1) (x_rd_readAway T l1) kk)
def x_rd_read_64 (l1 : Nat) (K : Int32 → St → St) : Nat → Int32 → St → St
  | 0, _, T => T
  | f + 1, v2, T => if 8 < v2 then (K v2 T) else (if (T.1 13 2) = 0 then (if (T.1 13 5) = 0 then (K v2 T) else (x_rd_read_64 l1 K f (v2 + 1) (x_rd_readDish T l1))) else (K v2 T))
def ok_rd_read_64 (l1 : Nat) (Kk : Int32 → St → Prop) : Nat → Int32 → St → Prop
  | 0, _, _ => False
  | f + 1, v2, T => ((8 < v2 → Kk v2 T) ∧ (¬ 8 < v2 → (((T.1 13 2) = 0 → (((T.1 13 5) = 0 → Kk v2 T) ∧ (¬ (T.1 13 5) = 0 → (ok_rd_readDish T l1) ∧ ok_rd_read_64 l1 Kk f (v2 + 1) (x_rd_readDish T l1)))) ∧ (¬ (T.1 13 2) = 0 → Kk v2 T))))
theorem c_rd_read_64 {X : Nat × (Nat → Int32)} (l1 : Nat) {K : Int32 → St → St} {Kk : Int32 → St → Prop} (hk : ∀ (v2 : Int32) (T : St), Kk v2 T → tR X 8 mX6_read 95 [some (.ref (13 : Nat)), some (.ref l1), some (.int v2)] [] T (rV (K v2 T)).1 ((rV (K v2 T)).2)) : ∀ (f : Nat) (v2 : Int32) (T : St), ok_rd_read_64 l1 Kk f v2 T → tR X 8 mX6_read 64 [some (.ref (13 : Nat)), some (.ref l1), some (.int v2)] [] T (rV (x_rd_read_64 l1 K f v2 T)).1 ((rV (x_rd_read_64 l1 K f v2 T)).2) := by
  intro f
  induction f with
  | zero => intro v2 T kk; exact kk.elim
  | succ f ih =>
    intro v2 T kk
    rw [ok_rd_read_64] at kk
    rw [x_rd_read_64]
    refine r_p (pc2 := 65) dX6_read_64 rfl rfl ?_
    refine r_cb (x := 8) dX6_read_65 rfl ?_
    refine r_cgt dX6_read_67 rfl (fun c67_4 => ?_) (fun c67_4 => ?_)
    · refine r_ip (R := rV) c67_4 ?_
      have kk := kk.1 c67_4
      show tR _ _ _ _ [some (.ref (13 : Nat)), some (.ref l1), some (.int v2)] _ _ _ _
      exact (hk v2 T kk)
    · refine r_in (R := rV) c67_4 ?_
      have kk := kk.2 c67_4
      refine r_p (pc2 := 71) dX6_read_70 rfl rfl ?_
      refine r_get dX6_read_71 fkX6_24 rfl rfl ?_
      refine r_ine dX6_read_74 rfl (fun c74_5 => ?_) (fun c74_5 => ?_)
      · refine r_in (R := rV) c74_5 ?_
        have kk := kk.2 c74_5
        show tR _ _ _ _ [some (.ref (13 : Nat)), some (.ref l1), some (.int v2)] _ _ _ _
        exact (hk v2 T kk)
      · refine r_ip (R := rV) c74_5 ?_
        have kk := kk.1 c74_5
        refine r_p (pc2 := 78) dX6_read_77 rfl rfl ?_
        refine r_get dX6_read_78 fkX6_49 rfl rfl ?_
        refine r_ieq dX6_read_81 rfl (fun c81_6 => ?_) (fun c81_6 => ?_)
        · refine r_ip (R := rV) c81_6 ?_
          have kk := kk.1 c81_6
          show tR _ _ _ _ [some (.ref (13 : Nat)), some (.ref l1), some (.int v2)] _ _ _ _
          exact (hk v2 T kk)
        · refine r_in (R := rV) c81_6 ?_
          have kk := kk.2 c81_6
          refine r_p (pc2 := 85) dX6_read_84 rfl rfl ?_
          refine r_p (pc2 := 86) dX6_read_85 rfl rfl ?_
          obtain ⟨q8, kk⟩ := kk
          refine r_cv (d1 := 8) dX6_read_86 cvX6_46 rfl rfl rfl rfl (Nat.le_of_ble_eq_true rfl) (Nat.le_of_ble_eq_true rfl) (Nat.le_of_ble_eq_true rfl) (c_rd_readDish l1 q8) ?_
          refine r_inc (L2 := [some (.ref (13 : Nat)), some (.ref l1), some (.int (v2 + 1))]) (y := 1) dX6_read_89 rfl rfl rfl ?_
          refine r_go dX6_read_92 rfl ?_
          show tR _ _ _ _ [some (.ref (13 : Nat)), some (.ref l1), some (.int (v2 + 1))] _ _ _ _
          exact (ih (v2 + 1) (x_rd_readDish T l1) kk)
def x_rd_read (T : St) (p0 : Nat) : St := x_rd_read_25 p0 (fun (w1_2 : Int32) (T201 : St) => x_rd_read_64 p0 (fun (w2_2 : Int32) (T202 : St) => sF T202 13 1 0) 1000 0 (x_rd_readDish T201 p0)) 1000 0 (x_rd_readKitchen (x_rd_advance (sF (sF (x_bk_clear T p0) 13 2 0) 13 4 0)) p0)
def ok_rd_read (T : St) (p0 : Nat) : Prop := (ok_bk_clear T p0) ∧ (sh p0 = .inr 1) ∧ (ok_rd_advance (sF (sF (x_bk_clear T p0) 13 2 0) 13 4 0)) ∧ (ok_rd_readKitchen (x_rd_advance (sF (sF (x_bk_clear T p0) 13 2 0) 13 4 0)) p0) ∧ ok_rd_read_25 p0 (fun (w1_2 : Int32) (T201 : St) => (ok_rd_readDish T201 p0) ∧ ok_rd_read_64 p0 (fun (w2_2 : Int32) (T202 : St) => True) 1000 0 (x_rd_readDish T201 p0)) 1000 0 (x_rd_readKitchen (x_rd_advance (sF (sF (x_bk_clear T p0) 13 2 0) 13 4 0)) p0)
theorem c_rd_read {X : Nat × (Nat → Int32)} {T : St} (p0 : Nat) (kk : ok_rd_read T p0) : tC X 9 mX6_read [.ref (13 : Nat), .ref p0] T none (x_rd_read T p0) := by
  unfold ok_rd_read at kk
  refine tC_orV (L := [some (.ref (13 : Nat)), some (.ref p0), none]) (x_rd_read T p0) rfl ?_
  unfold x_rd_read
  refine r_p (pc2 := 1) dX6_read_0 rfl rfl ?_
  obtain ⟨q1, kk⟩ := kk
  obtain ⟨q2, kk⟩ := kk
  refine r_cv (d1 := 1) dX6_read_1 cvX6_19 rfl rfl q2 rfl (Nat.le_of_ble_eq_true rfl) (Nat.le_of_ble_eq_true rfl) (Nat.le_of_ble_eq_true rfl) (c_bk_clear p0 q1) ?_
  refine r_p (pc2 := 5) dX6_read_4 rfl rfl ?_
  refine r_ci (x := 0) dX6_read_5 rfl ?_
  refine r_put dX6_read_6 fkX6_24 rfl rfl rfl (Nat.le_of_ble_eq_true rfl) rfl rfl ?_
  refine r_p (pc2 := 10) dX6_read_9 rfl rfl ?_
  refine r_ci (x := 0) dX6_read_10 rfl ?_
  refine r_put dX6_read_11 fkX6_27 rfl rfl rfl (Nat.le_of_ble_eq_true rfl) rfl rfl ?_
  refine r_p (pc2 := 15) dX6_read_14 rfl rfl ?_
  obtain ⟨q3, kk⟩ := kk
  refine r_cv (d1 := 2) dX6_read_15 cvX6_30 rfl rfl rfl rfl (Nat.le_of_ble_eq_true rfl) (Nat.le_of_ble_eq_true rfl) (Nat.le_of_ble_eq_true rfl) (c_rd_advance  q3) ?_
  refine r_p (pc2 := 19) dX6_read_18 rfl rfl ?_
  refine r_p (pc2 := 20) dX6_read_19 rfl rfl ?_
  obtain ⟨q4, kk⟩ := kk
  refine r_cv (d1 := 7) dX6_read_20 cvX6_33 rfl rfl rfl rfl (Nat.le_of_ble_eq_true rfl) (Nat.le_of_ble_eq_true rfl) (Nat.le_of_ble_eq_true rfl) (c_rd_readKitchen p0 q4) ?_
  refine r_ci (x := 0) dX6_read_23 rfl ?_
  refine r_p (pc2 := 25) (L2 := [some (.ref (13 : Nat)), some (.ref p0), some (.int 0)]) dX6_read_24 rfl rfl ?_
  show tR _ _ _ _ [some (.ref (13 : Nat)), some (.ref p0), some (.int 0)] _ _ _ _
  refine (c_rd_read_25 p0 (fun w1_2 T201 kk => ?_) 1000 0 (x_rd_readKitchen (x_rd_advance (sF (sF (x_bk_clear T p0) 13 2 0) 13 4 0)) p0) kk)
  · skip
    refine r_p (pc2 := 58) dX6_read_57 rfl rfl ?_
    refine r_p (pc2 := 59) dX6_read_58 rfl rfl ?_
    obtain ⟨q7, kk⟩ := kk
    refine r_cv (d1 := 8) dX6_read_59 cvX6_46 rfl rfl rfl rfl (Nat.le_of_ble_eq_true rfl) (Nat.le_of_ble_eq_true rfl) (Nat.le_of_ble_eq_true rfl) (c_rd_readDish p0 q7) ?_
    refine r_ci (x := 0) dX6_read_62 rfl ?_
    refine r_p (pc2 := 64) (L2 := [some (.ref (13 : Nat)), some (.ref p0), some (.int 0)]) dX6_read_63 rfl rfl ?_
    show tR _ _ _ _ [some (.ref (13 : Nat)), some (.ref p0), some (.int 0)] _ _ _ _
    refine (c_rd_read_64 p0 (fun w2_2 T202 kk => ?_) 1000 0 (x_rd_readDish T201 p0) kk)
    · skip
      refine r_p (pc2 := 96) dX6_read_95 rfl rfl ?_
      refine r_ci (x := 0) dX6_read_96 rfl ?_
      refine r_put dX6_read_97 fkX6_15 rfl rfl rfl (Nat.le_of_ble_eq_true rfl) rfl rfl ?_
      exact r_qV dX6_read_100 rfl rfl
def x_x_book (T : St)  : Int32 × St := if ((x_rd_read T (T.2.1 1)).1 13 2) = 0 then (jn (fun (r1 : Nat) => ((x_x_changed (sR (sR (x_rd_read T (T.2.1 1)) 1 ((x_rd_read T (T.2.1 1)).2.1 0)) 0 r1)).1 ((x_x_changed (sR (sR (x_rd_read T (T.2.1 1)) 1 ((x_rd_read T (T.2.1 1)).2.1 0)) 0 r1)).2.1 0) 4, x_x_changed (sR (sR (x_rd_read T (T.2.1 1)) 1 ((x_rd_read T (T.2.1 1)).2.1 0)) 0 r1))) ((x_rd_read T (T.2.1 1)).2.1 1)) else ((-1000100) - ((sF (x_rd_read T (T.2.1 1)) 0 13 ((x_rd_read T (T.2.1 1)).1 13 2)).1 13 3), sF (x_rd_read T (T.2.1 1)) 0 13 ((x_rd_read T (T.2.1 1)).1 13 2))
def ok_x_book (T : St)  : Prop := (ok_rd_read T (T.2.1 1)) ∧ (((x_rd_read T (T.2.1 1)).1 13 2) = 0 → jn (fun (r1 : Nat) => (ok_x_changed (sR (sR (x_rd_read T (T.2.1 1)) 1 ((x_rd_read T (T.2.1 1)).2.1 0)) 0 r1)) ∧ (sh ((x_x_changed (sR (sR (x_rd_read T (T.2.1 1)) 1 ((x_rd_read T (T.2.1 1)).2.1 0)) 0 r1)).2.1 0) = .inr 1) ∧ True) ((x_rd_read T (T.2.1 1)).2.1 1))
theorem c_x_book {X : Nat × (Nat → Int32)} {T : St}  (kk : ok_x_book T ) : tC X 10 mX11_book [.ref (0 : Nat)] T (some (.int (x_x_book T).1)) ((x_x_book T).2) := by
  unfold ok_x_book at kk
  refine tC_orI (L := [some (.ref (0 : Nat)), none]) (x_x_book T ) rfl ?_
  unfold x_x_book
  refine r_p (pc2 := 1) dX11_book_0 rfl rfl ?_
  refine r_get dX11_book_1 fkX11_19 rfl rfl ?_
  refine r_p (pc2 := 5) dX11_book_4 rfl rfl ?_
  refine r_get dX11_book_5 fkX11_34 rfl rfl ?_
  obtain ⟨q1, kk⟩ := kk
  refine r_cv (d1 := 9) dX11_book_8 cvX11_134 rfl rfl rfl rfl (Nat.le_of_ble_eq_true rfl) (Nat.le_of_ble_eq_true rfl) (Nat.le_of_ble_eq_true rfl) (c_rd_read (T.2.1 1) q1) ?_
  refine r_p (pc2 := 12) dX11_book_11 rfl rfl ?_
  refine r_get dX11_book_12 fkX11_19 rfl rfl ?_
  refine r_get dX11_book_15 fkX11_138 rfl rfl ?_
  refine r_ieq dX11_book_18 rfl (fun c18_1 => ?_) (fun c18_1 => ?_)
  · refine r_ip (R := rI) c18_1 ?_
    have kk := kk c18_1
    refine r_p (pc2 := 44) dX11_book_43 rfl rfl ?_
    refine r_get dX11_book_44 fkX11_34 rfl rfl ?_
    refine r_nR (R := rI) rfl kk (fun r1 kk => ?_)
    refine r_p (pc2 := 48) (L2 := [some (.ref (0 : Nat)), some (.ref r1)]) dX11_book_47 rfl rfl ?_
    refine r_p (pc2 := 49) dX11_book_48 rfl rfl ?_
    refine r_p (pc2 := 50) dX11_book_49 rfl rfl ?_
    refine r_get dX11_book_50 fkX11_30 rfl rfl ?_
    refine r_putr dX11_book_53 fkX11_34 rfl rfl rfl (Nat.le_of_ble_eq_true rfl) rfl rfl ?_
    refine r_p (pc2 := 57) dX11_book_56 rfl rfl ?_
    refine r_p (pc2 := 58) dX11_book_57 rfl rfl ?_
    refine r_putr dX11_book_58 fkX11_30 rfl rfl rfl (Nat.le_of_ble_eq_true rfl) rfl rfl ?_
    refine r_p (pc2 := 62) dX11_book_61 rfl rfl ?_
    obtain ⟨q2, kk⟩ := kk
    refine r_cv (d1 := 4) dX11_book_62 cvX11_146 rfl rfl rfl rfl (Nat.le_of_ble_eq_true rfl) (Nat.le_of_ble_eq_true rfl) (Nat.le_of_ble_eq_true rfl) (c_x_changed  q2) ?_
    refine r_p (pc2 := 66) dX11_book_65 rfl rfl ?_
    refine r_get dX11_book_66 fkX11_30 rfl rfl ?_
    obtain ⟨q3, kk⟩ := kk
    refine r_get dX11_book_69 fkX11_149 q3 rfl ?_
    exact r_qI dX11_book_72 rfl rfl rfl rfl
  · refine r_in (R := rI) c18_1 ?_
    refine r_p (pc2 := 22) dX11_book_21 rfl rfl ?_
    refine r_p (pc2 := 23) dX11_book_22 rfl rfl ?_
    refine r_get dX11_book_23 fkX11_19 rfl rfl ?_
    refine r_get dX11_book_26 fkX11_138 rfl rfl ?_
    refine r_put dX11_book_29 fkX11_141 rfl rfl rfl (Nat.le_of_ble_eq_true rfl) rfl rfl ?_
    refine r_k dX11_book_32 kkX11_142 ?_
    refine r_p (pc2 := 35) dX11_book_34 rfl rfl ?_
    refine r_get dX11_book_35 fkX11_19 rfl rfl ?_
    refine r_get dX11_book_38 fkX11_143 rfl rfl ?_
    refine r_p (pc2 := 42) dX11_book_41 rfl rfl ?_
    exact r_qI dX11_book_42 rfl rfl rfl rfl
def x_ask_markOf0 (T : St) (p0 : Nat) (p1 : Int32) (p2 : Int32) : Int32 × St := if p2 ≤ 8 then (if (x_bk_kindOf T p0 p1) = 3 then (0, (x_ask_markOfAny (x_ask_begin T 23) p1).2) else (if (x_bk_kindOf T p0 p1) = 4 then ((x_ask_markOfRested T p1).1, (x_ask_markOfRested T p1).2) else (if (x_bk_kindOf T p0 p1) = 5 then (((x_ask_markOfRested (x_ask_begin T 22) p1).1) + (((x_ask_markOfRested (x_ask_begin T 22) p1).2).2.2.1 (p0 + 13) (p1 : Int32).toNatClampNeg), (x_ask_markOfRested (x_ask_begin T 22) p1).2) else (if (x_bk_kindOf T p0 p1) = 6 then (-((x_ask_markOfAny (x_ask_begin T 24) p1).1), (x_ask_markOfAny (x_ask_begin T 24) p1).2) else ((x_ask_markOfAny T p1).1, (x_ask_markOfAny T p1).2))))) else (0, T)
def ok_ask_markOf0 (T : St) (p0 : Nat) (p1 : Int32) (p2 : Int32) : Prop := (p2 ≤ 8 → (ok_bk_kindOf T p0 p1) ∧ (sh p0 = .inr 1) ∧ (((x_bk_kindOf T p0 p1) = 3 → (ok_ask_begin T 23) ∧ (ok_ask_markOfAny (x_ask_begin T 23) p1) ∧ False) ∧ (¬ (x_bk_kindOf T p0 p1) = 3 → (((x_bk_kindOf T p0 p1) = 4 → (ok_ask_markOfRested T p1) ∧ True) ∧ (¬ (x_bk_kindOf T p0 p1) = 4 → (((x_bk_kindOf T p0 p1) = 5 → (ok_ask_begin T 22) ∧ (ok_ask_markOfRested (x_ask_begin T 22) p1) ∧ (vp_in p1 24) ∧ True) ∧ (¬ (x_bk_kindOf T p0 p1) = 5 → (((x_bk_kindOf T p0 p1) = 6 → (ok_ask_begin T 24) ∧ (ok_ask_markOfAny (x_ask_begin T 24) p1) ∧ True) ∧ (¬ (x_bk_kindOf T p0 p1) = 6 → (ok_ask_markOfAny T p1) ∧ True)))))))))
theorem c_ask_markOf0 {X : Nat × (Nat → Int32)} {T : St} (p0 : Nat) (p1 : Int32) (p2 : Int32) (kk : ok_ask_markOf0 T p0 p1 p2) : tC X 4 mX0_markOf [.ref (555 : Nat), .ref p0, .int p1, .int p2] T (some (.int (x_ask_markOf0 T p0 p1 p2).1)) ((x_ask_markOf0 T p0 p1 p2).2) := by
  unfold ok_ask_markOf0 at kk
  refine tC_orI (L := [some (.ref (555 : Nat)), some (.ref p0), some (.int p1), some (.int p2)]) (x_ask_markOf0 T p0 p1 p2) rfl ?_
  unfold x_ask_markOf0
  refine r_p (pc2 := 1) dX0_markOf_0 rfl rfl ?_
  refine r_cb (x := 8) dX0_markOf_1 rfl ?_
  refine r_cle dX0_markOf_3 rfl (fun c3_1 => ?_) (fun c3_1 => ?_)
  · refine r_ip (R := rI) c3_1 ?_
    have kk := kk c3_1
    refine r_p (pc2 := 9) dX0_markOf_8 rfl rfl ?_
    refine r_p (pc2 := 10) dX0_markOf_9 rfl rfl ?_
    obtain ⟨q1, kk⟩ := kk
    obtain ⟨q2, kk⟩ := kk
    refine r_cv (d1 := 1) dX0_markOf_10 cvX0_27 rfl rfl q2 rfl (Nat.le_of_ble_eq_true rfl) (Nat.le_of_ble_eq_true rfl) (Nat.le_of_ble_eq_true rfl) (c_bk_kindOf p0 p1 q1) ?_
    by_cases s13_2_0 : (x_bk_kindOf T p0 p1) = 3
    · refine r_ip (R := rI) s13_2_0 ?_
      have kk := kk.1 s13_2_0
      refine r_tin dX0_markOf_13 (by rw [s13_2_0]; decide) (by rw [s13_2_0]; decide) (off := 56) (by rw [s13_2_0]; rfl) rfl ?_
      refine r_p (pc2 := 70) dX0_markOf_69 rfl rfl ?_
      refine r_cb (x := 23) dX0_markOf_70 rfl ?_
      obtain ⟨q3, kk⟩ := kk
      refine r_cv (d1 := 1) dX0_markOf_72 cvX0_37 rfl rfl rfl rfl (Nat.le_of_ble_eq_true rfl) (Nat.le_of_ble_eq_true rfl) (Nat.le_of_ble_eq_true rfl) (c_ask_begin 23 q3) ?_
      refine r_p (pc2 := 76) dX0_markOf_75 rfl rfl ?_
      refine r_p (pc2 := 77) dX0_markOf_76 rfl rfl ?_
      obtain ⟨q4, kk⟩ := kk
      refine r_cv (d1 := 2) dX0_markOf_77 cvX0_56 rfl rfl rfl rfl (Nat.le_of_ble_eq_true rfl) (Nat.le_of_ble_eq_true rfl) (Nat.le_of_ble_eq_true rfl) (c_ask_markOfAny p1 q4) ?_
      refine r_p (pc2 := 81) dX0_markOf_80 rfl rfl ?_
      refine r_p (pc2 := 82) dX0_markOf_81 rfl rfl ?_
      refine r_p (pc2 := 83) dX0_markOf_82 rfl rfl ?_
      refine r_p (pc2 := 84) dX0_markOf_83 rfl rfl ?_
      refine r_ci (x := 1) dX0_markOf_84 rfl ?_
      refine r_p (pc2 := 86) dX0_markOf_85 rfl rfl ?_
      exact kk.elim
    · refine r_in (R := rI) s13_2_0 ?_
      have kk := kk.2 s13_2_0
      by_cases s13_2_1 : (x_bk_kindOf T p0 p1) = 4
      · refine r_ip (R := rI) s13_2_1 ?_
        have kk := kk.1 s13_2_1
        refine r_tin dX0_markOf_13 (by rw [s13_2_1]; decide) (by rw [s13_2_1]; decide) (off := 31) (by rw [s13_2_1]; rfl) rfl ?_
        refine r_p (pc2 := 45) dX0_markOf_44 rfl rfl ?_
        refine r_p (pc2 := 46) dX0_markOf_45 rfl rfl ?_
        obtain ⟨q5, kk⟩ := kk
        refine r_cv (d1 := 3) dX0_markOf_46 cvX0_53 rfl rfl rfl rfl (Nat.le_of_ble_eq_true rfl) (Nat.le_of_ble_eq_true rfl) (Nat.le_of_ble_eq_true rfl) (c_ask_markOfRested p1 q5) ?_
        exact r_qI dX0_markOf_49 rfl rfl rfl rfl
      · refine r_in (R := rI) s13_2_1 ?_
        have kk := kk.2 s13_2_1
        by_cases s13_2_2 : (x_bk_kindOf T p0 p1) = 5
        · refine r_ip (R := rI) s13_2_2 ?_
          have kk := kk.1 s13_2_2
          refine r_tin dX0_markOf_13 (by rw [s13_2_2]; decide) (by rw [s13_2_2]; decide) (off := 37) (by rw [s13_2_2]; rfl) rfl ?_
          refine r_p (pc2 := 51) dX0_markOf_50 rfl rfl ?_
          refine r_cb (x := 22) dX0_markOf_51 rfl ?_
          obtain ⟨q6, kk⟩ := kk
          refine r_cv (d1 := 1) dX0_markOf_53 cvX0_37 rfl rfl rfl rfl (Nat.le_of_ble_eq_true rfl) (Nat.le_of_ble_eq_true rfl) (Nat.le_of_ble_eq_true rfl) (c_ask_begin 22 q6) ?_
          refine r_p (pc2 := 57) dX0_markOf_56 rfl rfl ?_
          refine r_p (pc2 := 58) dX0_markOf_57 rfl rfl ?_
          obtain ⟨q7, kk⟩ := kk
          refine r_cv (d1 := 3) dX0_markOf_58 cvX0_53 rfl rfl rfl rfl (Nat.le_of_ble_eq_true rfl) (Nat.le_of_ble_eq_true rfl) (Nat.le_of_ble_eq_true rfl) (c_ask_markOfRested p1 q7) ?_
          refine r_p (pc2 := 62) dX0_markOf_61 rfl rfl ?_
          refine r_get dX0_markOf_62 fkX0_47 q2 rfl ?_
          refine r_p (pc2 := 66) dX0_markOf_65 rfl rfl ?_
          obtain ⟨q8, kk⟩ := kk
          refine r_ia dX0_markOf_66 (shl1_13 q2) q8 ?_
          refine r_p (pc2 := 68) dX0_markOf_67 rfl rfl ?_
          exact r_qI dX0_markOf_68 rfl rfl rfl rfl
        · refine r_in (R := rI) s13_2_2 ?_
          have kk := kk.2 s13_2_2
          by_cases s13_2_3 : (x_bk_kindOf T p0 p1) = 6
          · refine r_ip (R := rI) s13_2_3 ?_
            have kk := kk.1 s13_2_3
            refine r_tin dX0_markOf_13 (by rw [s13_2_3]; decide) (by rw [s13_2_3]; decide) (off := 78) (by rw [s13_2_3]; rfl) rfl ?_
            refine r_p (pc2 := 92) dX0_markOf_91 rfl rfl ?_
            refine r_cb (x := 24) dX0_markOf_92 rfl ?_
            obtain ⟨q9, kk⟩ := kk
            refine r_cv (d1 := 1) dX0_markOf_94 cvX0_37 rfl rfl rfl rfl (Nat.le_of_ble_eq_true rfl) (Nat.le_of_ble_eq_true rfl) (Nat.le_of_ble_eq_true rfl) (c_ask_begin 24 q9) ?_
            refine r_p (pc2 := 98) dX0_markOf_97 rfl rfl ?_
            refine r_p (pc2 := 99) dX0_markOf_98 rfl rfl ?_
            obtain ⟨q10, kk⟩ := kk
            refine r_cv (d1 := 2) dX0_markOf_99 cvX0_56 rfl rfl rfl rfl (Nat.le_of_ble_eq_true rfl) (Nat.le_of_ble_eq_true rfl) (Nat.le_of_ble_eq_true rfl) (c_ask_markOfAny p1 q10) ?_
            refine r_p (pc2 := 103) dX0_markOf_102 rfl rfl ?_
            exact r_qI dX0_markOf_103 rfl rfl rfl rfl
          · refine r_in (R := rI) s13_2_3 ?_
            have kk := kk.2 s13_2_3
            refine r_tout dX0_markOf_13 (by have := i_rg (x_bk_kindOf T p0 p1); simp only [i_eq, i_3, i_4, i_5, i_6] at s13_2_0 s13_2_1 s13_2_2 s13_2_3; omega) rfl ?_
            refine r_p (pc2 := 105) dX0_markOf_104 rfl rfl ?_
            refine r_p (pc2 := 106) dX0_markOf_105 rfl rfl ?_
            obtain ⟨q11, kk⟩ := kk
            refine r_cv (d1 := 2) dX0_markOf_106 cvX0_56 rfl rfl rfl rfl (Nat.le_of_ble_eq_true rfl) (Nat.le_of_ble_eq_true rfl) (Nat.le_of_ble_eq_true rfl) (c_ask_markOfAny p1 q11) ?_
            exact r_qI dX0_markOf_109 rfl rfl rfl rfl
  · refine r_in (R := rI) c3_1 ?_
    refine r_ci (x := 0) dX0_markOf_6 rfl ?_
    exact r_qI dX0_markOf_7 rfl rfl rfl rfl
def x_ask_sizeOf (T : St) (p0 : Nat) (p1 : Int32) (p2 : Int32) : Int32 × St := if p2 ≤ 8 then (if (x_bk_kindOf T p0 p1) = 1 then ((x_ask_sizeOfRinged T p0 p1).1, (x_ask_sizeOfRinged T p0 p1).2) else (if (x_bk_kindOf T p0 p1) = 2 then ((((x_ask_sizeOfAny (x_ask_begin T 13) p0 p1).1) + (((x_ask_sizeOfAny (x_ask_begin T 13) p0 p1).2).2.2.1 (p0 + 14) (p1 : Int32).toNatClampNeg)) - (((x_ask_sizeOfAny (x_ask_begin T 13) p0 p1).2).2.2.1 (p0 + 13) (p1 : Int32).toNatClampNeg), (x_ask_sizeOfAny (x_ask_begin T 13) p0 p1).2) else (if (x_bk_kindOf T p0 p1) = 3 then ((x_ask_sizeOfAny T p0 p1).1, (x_ask_sizeOfAny T p0 p1).2) else (if (x_bk_kindOf T p0 p1) = 4 then ((x_ask_sizeOfAny T p0 p1).1, (x_ask_sizeOfAny T p0 p1).2) else (if (x_bk_kindOf T p0 p1) = 5 then (((x_ask_sizeOfAny (x_ask_begin T 14) p0 p1).1) - ((x_ask_markOf0 ((x_ask_sizeOfAny (x_ask_begin T 14) p0 p1).2) p0 p1 (p2 + 1)).1), (x_ask_markOf0 ((x_ask_sizeOfAny (x_ask_begin T 14) p0 p1).2) p0 p1 (p2 + 1)).2) else (if (x_bk_kindOf T p0 p1) = 6 then (2 * ((x_ask_sizeOfRinged (x_ask_begin T 12) p0 p1).1), (x_ask_sizeOfRinged (x_ask_begin T 12) p0 p1).2) else ((x_ask_sizeOfAny T p0 p1).1, (x_ask_sizeOfAny T p0 p1).2))))))) else (0, T)
def ok_ask_sizeOf (T : St) (p0 : Nat) (p1 : Int32) (p2 : Int32) : Prop := (p2 ≤ 8 → (ok_bk_kindOf T p0 p1) ∧ (sh p0 = .inr 1) ∧ (((x_bk_kindOf T p0 p1) = 1 → (ok_ask_sizeOfRinged T p0 p1) ∧ True) ∧ (¬ (x_bk_kindOf T p0 p1) = 1 → (((x_bk_kindOf T p0 p1) = 2 → (ok_ask_begin T 13) ∧ (ok_ask_sizeOfAny (x_ask_begin T 13) p0 p1) ∧ (vp_in p1 24) ∧ True) ∧ (¬ (x_bk_kindOf T p0 p1) = 2 → (((x_bk_kindOf T p0 p1) = 3 → (ok_ask_sizeOfAny T p0 p1) ∧ True) ∧ (¬ (x_bk_kindOf T p0 p1) = 3 → (((x_bk_kindOf T p0 p1) = 4 → (ok_ask_sizeOfAny T p0 p1) ∧ True) ∧ (¬ (x_bk_kindOf T p0 p1) = 4 → (((x_bk_kindOf T p0 p1) = 5 → (ok_ask_begin T 14) ∧ (ok_ask_sizeOfAny (x_ask_begin T 14) p0 p1) ∧ (ok_ask_markOf0 ((x_ask_sizeOfAny (x_ask_begin T 14) p0 p1).2) p0 p1 (p2 + 1)) ∧ True) ∧ (¬ (x_bk_kindOf T p0 p1) = 5 → (((x_bk_kindOf T p0 p1) = 6 → (ok_ask_begin T 12) ∧ (ok_ask_sizeOfRinged (x_ask_begin T 12) p0 p1) ∧ True) ∧ (¬ (x_bk_kindOf T p0 p1) = 6 → (ok_ask_sizeOfAny T p0 p1) ∧ True)))))))))))))
theorem c_ask_sizeOf {X : Nat × (Nat → Int32)} {T : St} (p0 : Nat) (p1 : Int32) (p2 : Int32) (kk : ok_ask_sizeOf T p0 p1 p2) : tC X 5 mX0_sizeOf [.ref (555 : Nat), .ref p0, .int p1, .int p2] T (some (.int (x_ask_sizeOf T p0 p1 p2).1)) ((x_ask_sizeOf T p0 p1 p2).2) := by
  unfold ok_ask_sizeOf at kk
  refine tC_orI (L := [some (.ref (555 : Nat)), some (.ref p0), some (.int p1), some (.int p2)]) (x_ask_sizeOf T p0 p1 p2) rfl ?_
  unfold x_ask_sizeOf
  refine r_p (pc2 := 1) dX0_sizeOf_0 rfl rfl ?_
  refine r_cb (x := 8) dX0_sizeOf_1 rfl ?_
  refine r_cle dX0_sizeOf_3 rfl (fun c3_1 => ?_) (fun c3_1 => ?_)
  · refine r_ip (R := rI) c3_1 ?_
    have kk := kk c3_1
    refine r_p (pc2 := 9) dX0_sizeOf_8 rfl rfl ?_
    refine r_p (pc2 := 10) dX0_sizeOf_9 rfl rfl ?_
    obtain ⟨q1, kk⟩ := kk
    obtain ⟨q2, kk⟩ := kk
    refine r_cv (d1 := 1) dX0_sizeOf_10 cvX0_27 rfl rfl q2 rfl (Nat.le_of_ble_eq_true rfl) (Nat.le_of_ble_eq_true rfl) (Nat.le_of_ble_eq_true rfl) (c_bk_kindOf p0 p1 q1) ?_
    by_cases s13_2_0 : (x_bk_kindOf T p0 p1) = 1
    · refine r_ip (R := rI) s13_2_0 ?_
      have kk := kk.1 s13_2_0
      refine r_tin dX0_sizeOf_13 (by rw [s13_2_0]; decide) (by rw [s13_2_0]; decide) (off := 39) (by rw [s13_2_0]; rfl) rfl ?_
      refine r_p (pc2 := 53) dX0_sizeOf_52 rfl rfl ?_
      refine r_p (pc2 := 54) dX0_sizeOf_53 rfl rfl ?_
      refine r_p (pc2 := 55) dX0_sizeOf_54 rfl rfl ?_
      obtain ⟨q3, kk⟩ := kk
      refine r_cv (d1 := 3) dX0_sizeOf_55 cvX0_33 rfl rfl rfl rfl (Nat.le_of_ble_eq_true rfl) (Nat.le_of_ble_eq_true rfl) (Nat.le_of_ble_eq_true rfl) (c_ask_sizeOfRinged p0 p1 q3) ?_
      exact r_qI dX0_sizeOf_58 rfl rfl rfl rfl
    · refine r_in (R := rI) s13_2_0 ?_
      have kk := kk.2 s13_2_0
      by_cases s13_2_1 : (x_bk_kindOf T p0 p1) = 2
      · refine r_ip (R := rI) s13_2_1 ?_
        have kk := kk.1 s13_2_1
        refine r_tin dX0_sizeOf_13 (by rw [s13_2_1]; decide) (by rw [s13_2_1]; decide) (off := 61) (by rw [s13_2_1]; rfl) rfl ?_
        refine r_p (pc2 := 75) dX0_sizeOf_74 rfl rfl ?_
        refine r_cb (x := 13) dX0_sizeOf_75 rfl ?_
        obtain ⟨q4, kk⟩ := kk
        refine r_cv (d1 := 1) dX0_sizeOf_77 cvX0_37 rfl rfl rfl rfl (Nat.le_of_ble_eq_true rfl) (Nat.le_of_ble_eq_true rfl) (Nat.le_of_ble_eq_true rfl) (c_ask_begin 13 q4) ?_
        refine r_p (pc2 := 81) dX0_sizeOf_80 rfl rfl ?_
        refine r_p (pc2 := 82) dX0_sizeOf_81 rfl rfl ?_
        refine r_p (pc2 := 83) dX0_sizeOf_82 rfl rfl ?_
        obtain ⟨q5, kk⟩ := kk
        refine r_cv (d1 := 2) dX0_sizeOf_83 cvX0_41 rfl rfl rfl rfl (Nat.le_of_ble_eq_true rfl) (Nat.le_of_ble_eq_true rfl) (Nat.le_of_ble_eq_true rfl) (c_ask_sizeOfAny p0 p1 q5) ?_
        refine r_p (pc2 := 87) dX0_sizeOf_86 rfl rfl ?_
        refine r_get dX0_sizeOf_87 fkX0_44 q2 rfl ?_
        refine r_p (pc2 := 91) dX0_sizeOf_90 rfl rfl ?_
        obtain ⟨q6, kk⟩ := kk
        refine r_ia dX0_sizeOf_91 (shl1_14 q2) q6 ?_
        refine r_p (pc2 := 93) dX0_sizeOf_92 rfl rfl ?_
        refine r_p (pc2 := 94) dX0_sizeOf_93 rfl rfl ?_
        refine r_get dX0_sizeOf_94 fkX0_47 q2 rfl ?_
        refine r_p (pc2 := 98) dX0_sizeOf_97 rfl rfl ?_
        refine r_ia dX0_sizeOf_98 (shl1_13 q2) q6 ?_
        refine r_p (pc2 := 100) dX0_sizeOf_99 rfl rfl ?_
        exact r_qI dX0_sizeOf_100 rfl rfl rfl rfl
      · refine r_in (R := rI) s13_2_1 ?_
        have kk := kk.2 s13_2_1
        by_cases s13_2_2 : (x_bk_kindOf T p0 p1) = 3
        · refine r_ip (R := rI) s13_2_2 ?_
          have kk := kk.1 s13_2_2
          refine r_tin dX0_sizeOf_13 (by rw [s13_2_2]; decide) (by rw [s13_2_2]; decide) (off := 111) (by rw [s13_2_2]; rfl) rfl ?_
          refine r_p (pc2 := 125) dX0_sizeOf_124 rfl rfl ?_
          refine r_p (pc2 := 126) dX0_sizeOf_125 rfl rfl ?_
          refine r_p (pc2 := 127) dX0_sizeOf_126 rfl rfl ?_
          obtain ⟨q7, kk⟩ := kk
          refine r_cv (d1 := 2) dX0_sizeOf_127 cvX0_41 rfl rfl rfl rfl (Nat.le_of_ble_eq_true rfl) (Nat.le_of_ble_eq_true rfl) (Nat.le_of_ble_eq_true rfl) (c_ask_sizeOfAny p0 p1 q7) ?_
          exact r_qI dX0_sizeOf_130 rfl rfl rfl rfl
        · refine r_in (R := rI) s13_2_2 ?_
          have kk := kk.2 s13_2_2
          by_cases s13_2_3 : (x_bk_kindOf T p0 p1) = 4
          · refine r_ip (R := rI) s13_2_3 ?_
            have kk := kk.1 s13_2_3
            refine r_tin dX0_sizeOf_13 (by rw [s13_2_3]; decide) (by rw [s13_2_3]; decide) (off := 111) (by rw [s13_2_3]; rfl) rfl ?_
            refine r_p (pc2 := 125) dX0_sizeOf_124 rfl rfl ?_
            refine r_p (pc2 := 126) dX0_sizeOf_125 rfl rfl ?_
            refine r_p (pc2 := 127) dX0_sizeOf_126 rfl rfl ?_
            obtain ⟨q8, kk⟩ := kk
            refine r_cv (d1 := 2) dX0_sizeOf_127 cvX0_41 rfl rfl rfl rfl (Nat.le_of_ble_eq_true rfl) (Nat.le_of_ble_eq_true rfl) (Nat.le_of_ble_eq_true rfl) (c_ask_sizeOfAny p0 p1 q8) ?_
            exact r_qI dX0_sizeOf_130 rfl rfl rfl rfl
          · refine r_in (R := rI) s13_2_3 ?_
            have kk := kk.2 s13_2_3
            by_cases s13_2_4 : (x_bk_kindOf T p0 p1) = 5
            · refine r_ip (R := rI) s13_2_4 ?_
              have kk := kk.1 s13_2_4
              refine r_tin dX0_sizeOf_13 (by rw [s13_2_4]; decide) (by rw [s13_2_4]; decide) (off := 88) (by rw [s13_2_4]; rfl) rfl ?_
              refine r_p (pc2 := 102) dX0_sizeOf_101 rfl rfl ?_
              refine r_cb (x := 14) dX0_sizeOf_102 rfl ?_
              obtain ⟨q9, kk⟩ := kk
              refine r_cv (d1 := 1) dX0_sizeOf_104 cvX0_37 rfl rfl rfl rfl (Nat.le_of_ble_eq_true rfl) (Nat.le_of_ble_eq_true rfl) (Nat.le_of_ble_eq_true rfl) (c_ask_begin 14 q9) ?_
              refine r_p (pc2 := 108) dX0_sizeOf_107 rfl rfl ?_
              refine r_p (pc2 := 109) dX0_sizeOf_108 rfl rfl ?_
              refine r_p (pc2 := 110) dX0_sizeOf_109 rfl rfl ?_
              obtain ⟨q10, kk⟩ := kk
              refine r_cv (d1 := 2) dX0_sizeOf_110 cvX0_41 rfl rfl rfl rfl (Nat.le_of_ble_eq_true rfl) (Nat.le_of_ble_eq_true rfl) (Nat.le_of_ble_eq_true rfl) (c_ask_sizeOfAny p0 p1 q10) ?_
              refine r_p (pc2 := 114) dX0_sizeOf_113 rfl rfl ?_
              refine r_p (pc2 := 115) dX0_sizeOf_114 rfl rfl ?_
              refine r_p (pc2 := 116) dX0_sizeOf_115 rfl rfl ?_
              refine r_p (pc2 := 117) dX0_sizeOf_116 rfl rfl ?_
              refine r_ci (x := 1) dX0_sizeOf_117 rfl ?_
              refine r_p (pc2 := 119) dX0_sizeOf_118 rfl rfl ?_
              obtain ⟨q11, kk⟩ := kk
              refine r_cv (d1 := 4) dX0_sizeOf_119 cvX0_24 rfl rfl rfl rfl (Nat.le_of_ble_eq_true rfl) (Nat.le_of_ble_eq_true rfl) (Nat.le_of_ble_eq_true rfl) (c_ask_markOf0 p0 p1 (p2 + 1) q11) ?_
              refine r_p (pc2 := 123) dX0_sizeOf_122 rfl rfl ?_
              exact r_qI dX0_sizeOf_123 rfl rfl rfl rfl
            · refine r_in (R := rI) s13_2_4 ?_
              have kk := kk.2 s13_2_4
              by_cases s13_2_5 : (x_bk_kindOf T p0 p1) = 6
              · refine r_ip (R := rI) s13_2_5 ?_
                have kk := kk.1 s13_2_5
                refine r_tin dX0_sizeOf_13 (by rw [s13_2_5]; decide) (by rw [s13_2_5]; decide) (off := 46) (by rw [s13_2_5]; rfl) rfl ?_
                refine r_p (pc2 := 60) dX0_sizeOf_59 rfl rfl ?_
                refine r_cb (x := 12) dX0_sizeOf_60 rfl ?_
                obtain ⟨q12, kk⟩ := kk
                refine r_cv (d1 := 1) dX0_sizeOf_62 cvX0_37 rfl rfl rfl rfl (Nat.le_of_ble_eq_true rfl) (Nat.le_of_ble_eq_true rfl) (Nat.le_of_ble_eq_true rfl) (c_ask_begin 12 q12) ?_
                refine r_ci (x := 2) dX0_sizeOf_65 rfl ?_
                refine r_p (pc2 := 67) dX0_sizeOf_66 rfl rfl ?_
                refine r_p (pc2 := 68) dX0_sizeOf_67 rfl rfl ?_
                refine r_p (pc2 := 69) dX0_sizeOf_68 rfl rfl ?_
                obtain ⟨q13, kk⟩ := kk
                refine r_cv (d1 := 3) dX0_sizeOf_69 cvX0_33 rfl rfl rfl rfl (Nat.le_of_ble_eq_true rfl) (Nat.le_of_ble_eq_true rfl) (Nat.le_of_ble_eq_true rfl) (c_ask_sizeOfRinged p0 p1 q13) ?_
                refine r_p (pc2 := 73) dX0_sizeOf_72 rfl rfl ?_
                exact r_qI dX0_sizeOf_73 rfl rfl rfl rfl
              · refine r_in (R := rI) s13_2_5 ?_
                have kk := kk.2 s13_2_5
                refine r_tout dX0_sizeOf_13 (by have := i_rg (x_bk_kindOf T p0 p1); simp only [i_eq, i_1, i_2, i_3, i_4, i_5, i_6] at s13_2_0 s13_2_1 s13_2_2 s13_2_3 s13_2_4 s13_2_5; omega) rfl ?_
                refine r_p (pc2 := 125) dX0_sizeOf_124 rfl rfl ?_
                refine r_p (pc2 := 126) dX0_sizeOf_125 rfl rfl ?_
                refine r_p (pc2 := 127) dX0_sizeOf_126 rfl rfl ?_
                obtain ⟨q14, kk⟩ := kk
                refine r_cv (d1 := 2) dX0_sizeOf_127 cvX0_41 rfl rfl rfl rfl (Nat.le_of_ble_eq_true rfl) (Nat.le_of_ble_eq_true rfl) (Nat.le_of_ble_eq_true rfl) (c_ask_sizeOfAny p0 p1 q14) ?_
                exact r_qI dX0_sizeOf_130 rfl rfl rfl rfl
  · refine r_in (R := rI) c3_1 ?_
    refine r_ci (x := 0) dX0_sizeOf_6 rfl ?_
    exact r_qI dX0_sizeOf_7 rfl rfl rfl rfl
def x_ask_markOf (T : St) (p0 : Nat) (p1 : Int32) (p2 : Int32) : Int32 × St := if p2 ≤ 8 then (if (x_bk_kindOf T p0 p1) = 3 then (((x_ask_markOfAny (x_ask_begin T 23) p1).1) + ((x_ask_sizeOf ((x_ask_markOfAny (x_ask_begin T 23) p1).2) p0 p1 (p2 + 1)).1), (x_ask_sizeOf ((x_ask_markOfAny (x_ask_begin T 23) p1).2) p0 p1 (p2 + 1)).2) else (if (x_bk_kindOf T p0 p1) = 4 then ((x_ask_markOfRested T p1).1, (x_ask_markOfRested T p1).2) else (if (x_bk_kindOf T p0 p1) = 5 then (((x_ask_markOfRested (x_ask_begin T 22) p1).1) + (((x_ask_markOfRested (x_ask_begin T 22) p1).2).2.2.1 (p0 + 13) (p1 : Int32).toNatClampNeg), (x_ask_markOfRested (x_ask_begin T 22) p1).2) else (if (x_bk_kindOf T p0 p1) = 6 then (-((x_ask_markOfAny (x_ask_begin T 24) p1).1), (x_ask_markOfAny (x_ask_begin T 24) p1).2) else ((x_ask_markOfAny T p1).1, (x_ask_markOfAny T p1).2))))) else (0, T)
def ok_ask_markOf (T : St) (p0 : Nat) (p1 : Int32) (p2 : Int32) : Prop := (p2 ≤ 8 → (ok_bk_kindOf T p0 p1) ∧ (sh p0 = .inr 1) ∧ (((x_bk_kindOf T p0 p1) = 3 → (ok_ask_begin T 23) ∧ (ok_ask_markOfAny (x_ask_begin T 23) p1) ∧ (ok_ask_sizeOf ((x_ask_markOfAny (x_ask_begin T 23) p1).2) p0 p1 (p2 + 1)) ∧ True) ∧ (¬ (x_bk_kindOf T p0 p1) = 3 → (((x_bk_kindOf T p0 p1) = 4 → (ok_ask_markOfRested T p1) ∧ True) ∧ (¬ (x_bk_kindOf T p0 p1) = 4 → (((x_bk_kindOf T p0 p1) = 5 → (ok_ask_begin T 22) ∧ (ok_ask_markOfRested (x_ask_begin T 22) p1) ∧ (vp_in p1 24) ∧ True) ∧ (¬ (x_bk_kindOf T p0 p1) = 5 → (((x_bk_kindOf T p0 p1) = 6 → (ok_ask_begin T 24) ∧ (ok_ask_markOfAny (x_ask_begin T 24) p1) ∧ True) ∧ (¬ (x_bk_kindOf T p0 p1) = 6 → (ok_ask_markOfAny T p1) ∧ True)))))))))
theorem c_ask_markOf {X : Nat × (Nat → Int32)} {T : St} (p0 : Nat) (p1 : Int32) (p2 : Int32) (kk : ok_ask_markOf T p0 p1 p2) : tC X 6 mX0_markOf [.ref (555 : Nat), .ref p0, .int p1, .int p2] T (some (.int (x_ask_markOf T p0 p1 p2).1)) ((x_ask_markOf T p0 p1 p2).2) := by
  unfold ok_ask_markOf at kk
  refine tC_orI (L := [some (.ref (555 : Nat)), some (.ref p0), some (.int p1), some (.int p2)]) (x_ask_markOf T p0 p1 p2) rfl ?_
  unfold x_ask_markOf
  refine r_p (pc2 := 1) dX0_markOf_0 rfl rfl ?_
  refine r_cb (x := 8) dX0_markOf_1 rfl ?_
  refine r_cle dX0_markOf_3 rfl (fun c3_1 => ?_) (fun c3_1 => ?_)
  · refine r_ip (R := rI) c3_1 ?_
    have kk := kk c3_1
    refine r_p (pc2 := 9) dX0_markOf_8 rfl rfl ?_
    refine r_p (pc2 := 10) dX0_markOf_9 rfl rfl ?_
    obtain ⟨q1, kk⟩ := kk
    obtain ⟨q2, kk⟩ := kk
    refine r_cv (d1 := 1) dX0_markOf_10 cvX0_27 rfl rfl q2 rfl (Nat.le_of_ble_eq_true rfl) (Nat.le_of_ble_eq_true rfl) (Nat.le_of_ble_eq_true rfl) (c_bk_kindOf p0 p1 q1) ?_
    by_cases s13_2_0 : (x_bk_kindOf T p0 p1) = 3
    · refine r_ip (R := rI) s13_2_0 ?_
      have kk := kk.1 s13_2_0
      refine r_tin dX0_markOf_13 (by rw [s13_2_0]; decide) (by rw [s13_2_0]; decide) (off := 56) (by rw [s13_2_0]; rfl) rfl ?_
      refine r_p (pc2 := 70) dX0_markOf_69 rfl rfl ?_
      refine r_cb (x := 23) dX0_markOf_70 rfl ?_
      obtain ⟨q3, kk⟩ := kk
      refine r_cv (d1 := 1) dX0_markOf_72 cvX0_37 rfl rfl rfl rfl (Nat.le_of_ble_eq_true rfl) (Nat.le_of_ble_eq_true rfl) (Nat.le_of_ble_eq_true rfl) (c_ask_begin 23 q3) ?_
      refine r_p (pc2 := 76) dX0_markOf_75 rfl rfl ?_
      refine r_p (pc2 := 77) dX0_markOf_76 rfl rfl ?_
      obtain ⟨q4, kk⟩ := kk
      refine r_cv (d1 := 2) dX0_markOf_77 cvX0_56 rfl rfl rfl rfl (Nat.le_of_ble_eq_true rfl) (Nat.le_of_ble_eq_true rfl) (Nat.le_of_ble_eq_true rfl) (c_ask_markOfAny p1 q4) ?_
      refine r_p (pc2 := 81) dX0_markOf_80 rfl rfl ?_
      refine r_p (pc2 := 82) dX0_markOf_81 rfl rfl ?_
      refine r_p (pc2 := 83) dX0_markOf_82 rfl rfl ?_
      refine r_p (pc2 := 84) dX0_markOf_83 rfl rfl ?_
      refine r_ci (x := 1) dX0_markOf_84 rfl ?_
      refine r_p (pc2 := 86) dX0_markOf_85 rfl rfl ?_
      obtain ⟨q5, kk⟩ := kk
      refine r_cv (d1 := 5) dX0_markOf_86 cvX0_20 rfl rfl rfl rfl (Nat.le_of_ble_eq_true rfl) (Nat.le_of_ble_eq_true rfl) (Nat.le_of_ble_eq_true rfl) (c_ask_sizeOf p0 p1 (p2 + 1) q5) ?_
      refine r_p (pc2 := 90) dX0_markOf_89 rfl rfl ?_
      exact r_qI dX0_markOf_90 rfl rfl rfl rfl
    · refine r_in (R := rI) s13_2_0 ?_
      have kk := kk.2 s13_2_0
      by_cases s13_2_1 : (x_bk_kindOf T p0 p1) = 4
      · refine r_ip (R := rI) s13_2_1 ?_
        have kk := kk.1 s13_2_1
        refine r_tin dX0_markOf_13 (by rw [s13_2_1]; decide) (by rw [s13_2_1]; decide) (off := 31) (by rw [s13_2_1]; rfl) rfl ?_
        refine r_p (pc2 := 45) dX0_markOf_44 rfl rfl ?_
        refine r_p (pc2 := 46) dX0_markOf_45 rfl rfl ?_
        obtain ⟨q6, kk⟩ := kk
        refine r_cv (d1 := 3) dX0_markOf_46 cvX0_53 rfl rfl rfl rfl (Nat.le_of_ble_eq_true rfl) (Nat.le_of_ble_eq_true rfl) (Nat.le_of_ble_eq_true rfl) (c_ask_markOfRested p1 q6) ?_
        exact r_qI dX0_markOf_49 rfl rfl rfl rfl
      · refine r_in (R := rI) s13_2_1 ?_
        have kk := kk.2 s13_2_1
        by_cases s13_2_2 : (x_bk_kindOf T p0 p1) = 5
        · refine r_ip (R := rI) s13_2_2 ?_
          have kk := kk.1 s13_2_2
          refine r_tin dX0_markOf_13 (by rw [s13_2_2]; decide) (by rw [s13_2_2]; decide) (off := 37) (by rw [s13_2_2]; rfl) rfl ?_
          refine r_p (pc2 := 51) dX0_markOf_50 rfl rfl ?_
          refine r_cb (x := 22) dX0_markOf_51 rfl ?_
          obtain ⟨q7, kk⟩ := kk
          refine r_cv (d1 := 1) dX0_markOf_53 cvX0_37 rfl rfl rfl rfl (Nat.le_of_ble_eq_true rfl) (Nat.le_of_ble_eq_true rfl) (Nat.le_of_ble_eq_true rfl) (c_ask_begin 22 q7) ?_
          refine r_p (pc2 := 57) dX0_markOf_56 rfl rfl ?_
          refine r_p (pc2 := 58) dX0_markOf_57 rfl rfl ?_
          obtain ⟨q8, kk⟩ := kk
          refine r_cv (d1 := 3) dX0_markOf_58 cvX0_53 rfl rfl rfl rfl (Nat.le_of_ble_eq_true rfl) (Nat.le_of_ble_eq_true rfl) (Nat.le_of_ble_eq_true rfl) (c_ask_markOfRested p1 q8) ?_
          refine r_p (pc2 := 62) dX0_markOf_61 rfl rfl ?_
          refine r_get dX0_markOf_62 fkX0_47 q2 rfl ?_
          refine r_p (pc2 := 66) dX0_markOf_65 rfl rfl ?_
          obtain ⟨q9, kk⟩ := kk
          refine r_ia dX0_markOf_66 (shl1_13 q2) q9 ?_
          refine r_p (pc2 := 68) dX0_markOf_67 rfl rfl ?_
          exact r_qI dX0_markOf_68 rfl rfl rfl rfl
        · refine r_in (R := rI) s13_2_2 ?_
          have kk := kk.2 s13_2_2
          by_cases s13_2_3 : (x_bk_kindOf T p0 p1) = 6
          · refine r_ip (R := rI) s13_2_3 ?_
            have kk := kk.1 s13_2_3
            refine r_tin dX0_markOf_13 (by rw [s13_2_3]; decide) (by rw [s13_2_3]; decide) (off := 78) (by rw [s13_2_3]; rfl) rfl ?_
            refine r_p (pc2 := 92) dX0_markOf_91 rfl rfl ?_
            refine r_cb (x := 24) dX0_markOf_92 rfl ?_
            obtain ⟨q10, kk⟩ := kk
            refine r_cv (d1 := 1) dX0_markOf_94 cvX0_37 rfl rfl rfl rfl (Nat.le_of_ble_eq_true rfl) (Nat.le_of_ble_eq_true rfl) (Nat.le_of_ble_eq_true rfl) (c_ask_begin 24 q10) ?_
            refine r_p (pc2 := 98) dX0_markOf_97 rfl rfl ?_
            refine r_p (pc2 := 99) dX0_markOf_98 rfl rfl ?_
            obtain ⟨q11, kk⟩ := kk
            refine r_cv (d1 := 2) dX0_markOf_99 cvX0_56 rfl rfl rfl rfl (Nat.le_of_ble_eq_true rfl) (Nat.le_of_ble_eq_true rfl) (Nat.le_of_ble_eq_true rfl) (c_ask_markOfAny p1 q11) ?_
            refine r_p (pc2 := 103) dX0_markOf_102 rfl rfl ?_
            exact r_qI dX0_markOf_103 rfl rfl rfl rfl
          · refine r_in (R := rI) s13_2_3 ?_
            have kk := kk.2 s13_2_3
            refine r_tout dX0_markOf_13 (by have := i_rg (x_bk_kindOf T p0 p1); simp only [i_eq, i_3, i_4, i_5, i_6] at s13_2_0 s13_2_1 s13_2_2 s13_2_3; omega) rfl ?_
            refine r_p (pc2 := 105) dX0_markOf_104 rfl rfl ?_
            refine r_p (pc2 := 106) dX0_markOf_105 rfl rfl ?_
            obtain ⟨q12, kk⟩ := kk
            refine r_cv (d1 := 2) dX0_markOf_106 cvX0_56 rfl rfl rfl rfl (Nat.le_of_ble_eq_true rfl) (Nat.le_of_ble_eq_true rfl) (Nat.le_of_ble_eq_true rfl) (c_ask_markOfAny p1 q12) ?_
            exact r_qI dX0_markOf_109 rfl rfl rfl rfl
  · refine r_in (R := rI) c3_1 ?_
    refine r_ci (x := 0) dX0_markOf_6 rfl ?_
    exact r_qI dX0_markOf_7 rfl rfl rfl rfl
def x_pl_seek0_27 (l1 : Int32) (l2 : Int32) (l3 : Int32) (K : Int32 → St → St) : Nat → Int32 → St → St
  | 0, _, T => T
  | f + 1, v4, T => if (T.2.2.1 82 (T.2.2.1 94 (l1 : Int32).toNatClampNeg : Int32).toNatClampNeg) ≤ v4 then (K v4 T) else (if (((T.2.2.1 (100 + (l1 : Int32).toNatClampNeg) (l1 : Int32).toNatClampNeg) >>> (v4 &&& 31)) &&& 1) = 0 then (x_pl_seek0_27 l1 l2 l3 K f (v4 + 1) T) else (jn (fun (r2 : Nat) => if (T.1 80 13) ≤ ((l2 + (T.1 r2 5)) + (T.2.2.1 97 (l1 + 1 : Int32).toNatClampNeg)) then (x_pl_seek0_27 l1 l2 l3 K f (v4 + 1) T) else (if (x_ta_hasRoom T (507 + 5 * (l1 : Int32).toNatClampNeg) (r2 + 3)) = 0 then (x_pl_seek0_27 l1 l2 l3 K f (v4 + 1) T) else (if ((x_pl_leavesOpen T l1 (l3 + v4)).1) = 0 then (x_pl_seek0_27 l1 l2 l3 K f (v4 + 1) ((x_pl_leavesOpen T l1 (l3 + v4)).2)) else (jn (fun (KJ1 : St → St) => if ((sA ((x_pl_leavesOpen T l1 (l3 + v4)).2) 95 (l1 : Int32).toNatClampNeg (l3 + v4)).1 80 12) ≤ (l1 + 1) then (KJ1 (sA ((x_pl_leavesOpen T l1 (l3 + v4)).2) 95 (l1 : Int32).toNatClampNeg (l3 + v4))) else (jn (fun (T4 : St) => KJ1 T4) (x_ta_add (sA ((x_pl_leavesOpen T l1 (l3 + v4)).2) 95 (l1 : Int32).toNatClampNeg (l3 + v4)) (507 + 5 * (l1 + 1 : Int32).toNatClampNeg) (507 + 5 * (l1 : Int32).toNatClampNeg) (r2 + 3) ((sA ((x_pl_leavesOpen T l1 (l3 + v4)).2) 95 (l1 : Int32).toNatClampNeg (l3 + v4)).2.1 3)))) (fun (T301 : St) => T301))))) (123 + 4 * (l3 + v4 : Int32).toNatClampNeg)))
def ok_pl_seek0_27 (l1 : Int32) (l2 : Int32) (l3 : Int32) (Kk : Int32 → St → Prop) : Nat → Int32 → St → Prop
  | 0, _, _ => False
  | f + 1, v4, T => (vp_in l1 4) ∧ (vp_in (T.2.2.1 94 (l1 : Int32).toNatClampNeg) 8) ∧ (((T.2.2.1 82 (T.2.2.1 94 (l1 : Int32).toNatClampNeg : Int32).toNatClampNeg) ≤ v4 → Kk v4 T) ∧ (¬ (T.2.2.1 82 (T.2.2.1 94 (l1 : Int32).toNatClampNeg : Int32).toNatClampNeg) ≤ v4 → (vp_in l1 5) ∧ (((((T.2.2.1 (100 + (l1 : Int32).toNatClampNeg) (l1 : Int32).toNatClampNeg) >>> (v4 &&& 31)) &&& 1) = 0 → ok_pl_seek0_27 l1 l2 l3 Kk f (v4 + 1) T) ∧ (¬ (((T.2.2.1 (100 + (l1 : Int32).toNatClampNeg) (l1 : Int32).toNatClampNeg) >>> (v4 &&& 31)) &&& 1) = 0 → (vp_in (l3 + v4) 96) ∧ jn (fun (r2 : Nat) => (sh r2 = .inr 10) ∧ (vp_in (l1 + 1) 5) ∧ (((T.1 80 13) ≤ ((l2 + (T.1 r2 5)) + (T.2.2.1 97 (l1 + 1 : Int32).toNatClampNeg)) → ok_pl_seek0_27 l1 l2 l3 Kk f (v4 + 1) T) ∧ (¬ (T.1 80 13) ≤ ((l2 + (T.1 r2 5)) + (T.2.2.1 97 (l1 + 1 : Int32).toNatClampNeg)) → (ok_ta_hasRoom T (507 + 5 * (l1 : Int32).toNatClampNeg) (r2 + 3)) ∧ (((x_ta_hasRoom T (507 + 5 * (l1 : Int32).toNatClampNeg) (r2 + 3)) = 0 → ok_pl_seek0_27 l1 l2 l3 Kk f (v4 + 1) T) ∧ (¬ (x_ta_hasRoom T (507 + 5 * (l1 : Int32).toNatClampNeg) (r2 + 3)) = 0 → (ok_pl_leavesOpen T l1 (l3 + v4)) ∧ ((((x_pl_leavesOpen T l1 (l3 + v4)).1) = 0 → ok_pl_seek0_27 l1 l2 l3 Kk f (v4 + 1) ((x_pl_leavesOpen T l1 (l3 + v4)).2)) ∧ (¬ ((x_pl_leavesOpen T l1 (l3 + v4)).1) = 0 → jn (fun (OJ1 : St → Prop) => ((((sA ((x_pl_leavesOpen T l1 (l3 + v4)).2) 95 (l1 : Int32).toNatClampNeg (l3 + v4)).1 80 12) ≤ (l1 + 1) → OJ1 (sA ((x_pl_leavesOpen T l1 (l3 + v4)).2) 95 (l1 : Int32).toNatClampNeg (l3 + v4))) ∧ (¬ ((sA ((x_pl_leavesOpen T l1 (l3 + v4)).2) 95 (l1 : Int32).toNatClampNeg (l3 + v4)).1 80 12) ≤ (l1 + 1) → (vp_in (l1 + 1) 4) ∧ (ok_ta_add (sA ((x_pl_leavesOpen T l1 (l3 + v4)).2) 95 (l1 : Int32).toNatClampNeg (l3 + v4)) (507 + 5 * (l1 + 1 : Int32).toNatClampNeg) (507 + 5 * (l1 : Int32).toNatClampNeg) (r2 + 3) ((sA ((x_pl_leavesOpen T l1 (l3 + v4)).2) 95 (l1 : Int32).toNatClampNeg (l3 + v4)).2.1 3)) ∧ jn (fun (T4 : St) => OJ1 T4) (x_ta_add (sA ((x_pl_leavesOpen T l1 (l3 + v4)).2) 95 (l1 : Int32).toNatClampNeg (l3 + v4)) (507 + 5 * (l1 + 1 : Int32).toNatClampNeg) (507 + 5 * (l1 : Int32).toNatClampNeg) (r2 + 3) ((sA ((x_pl_leavesOpen T l1 (l3 + v4)).2) 95 (l1 : Int32).toNatClampNeg (l3 + v4)).2.1 3))))) (fun (T301 : St) => False)))))))) (123 + 4 * (l3 + v4 : Int32).toNatClampNeg)))))
theorem c_pl_seek0_27 {X : Nat × (Nat → Int32)} (l1 : Int32) (l2 : Int32) (l3 : Int32) {K : Int32 → St → St} {Kk : Int32 → St → Prop} (hk : ∀ (v4 : Int32) (T : St), Kk v4 T → tR X 4 mX5_seek 191 [some (.ref (80 : Nat)), some (.int l1), some (.int l2), some (.int l3), some (.int v4), none] [] T (rV (K v4 T)).1 ((rV (K v4 T)).2)) : ∀ (f : Nat) (v4 : Int32) (T : St), ok_pl_seek0_27 l1 l2 l3 Kk f v4 T → tR X 4 mX5_seek 27 [some (.ref (80 : Nat)), some (.int l1), some (.int l2), some (.int l3), some (.int v4), none] [] T (rV (x_pl_seek0_27 l1 l2 l3 K f v4 T)).1 ((rV (x_pl_seek0_27 l1 l2 l3 K f v4 T)).2) := by
  intro f
  induction f with
  | zero => intro v4 T kk; exact kk.elim
  | succ f ih =>
    intro v4 T kk
    rw [ok_pl_seek0_27] at kk
    rw [x_pl_seek0_27]
    refine r_p (pc2 := 29) dX5_seek_27 rfl rfl ?_
    refine r_p (pc2 := 30) dX5_seek_29 rfl rfl ?_
    refine r_get dX5_seek_30 fkX5_17 rfl rfl ?_
    refine r_p (pc2 := 34) dX5_seek_33 rfl rfl ?_
    refine r_get dX5_seek_34 fkX5_35 rfl rfl ?_
    refine r_p (pc2 := 38) dX5_seek_37 rfl rfl ?_
    obtain ⟨q2, kk⟩ := kk
    refine r_ia dX5_seek_38 rfl q2 ?_
    obtain ⟨q3, kk⟩ := kk
    refine r_ia dX5_seek_39 rfl q3 ?_
    refine r_cge dX5_seek_40 rfl (fun c40_2 => ?_) (fun c40_2 => ?_)
    · refine r_ip (R := rV) c40_2 ?_
      have kk := kk.1 c40_2
      show tR _ _ _ _ [some (.ref (80 : Nat)), some (.int l1), some (.int l2), some (.int l3), some (.int v4), none] _ _ _ _
      exact (hk v4 T kk)
    · refine r_in (R := rV) c40_2 ?_
      have kk := kk.2 c40_2
      refine r_p (pc2 := 44) dX5_seek_43 rfl rfl ?_
      refine r_get dX5_seek_44 fkX5_52 rfl rfl ?_
      refine r_p (pc2 := 48) dX5_seek_47 rfl rfl ?_
      obtain ⟨q4, kk⟩ := kk
      refine r_aa dX5_seek_48 rfl (by decide) q4 (rf99 q4) ?_
      refine r_p (pc2 := 50) dX5_seek_49 rfl rfl ?_
      refine r_ia dX5_seek_50 (shr99 q4) q2 ?_
      refine r_p (pc2 := 53) dX5_seek_51 rfl rfl ?_
      refine r_p (pc2 := 54) dX5_seek_53 rfl rfl ?_
      refine r_ci (x := 1) dX5_seek_54 rfl ?_
      refine r_p (pc2 := 56) dX5_seek_55 rfl rfl ?_
      refine r_ine dX5_seek_56 rfl (fun c56_3 => ?_) (fun c56_3 => ?_)
      · refine r_in (R := rV) c56_3 ?_
        have kk := kk.2 c56_3
        refine r_p (pc2 := 63) dX5_seek_62 rfl rfl ?_
        refine r_get dX5_seek_63 fkX5_11 rfl rfl ?_
        refine r_p (pc2 := 67) dX5_seek_66 rfl rfl ?_
        refine r_p (pc2 := 69) dX5_seek_67 rfl rfl ?_
        refine r_p (pc2 := 70) dX5_seek_69 rfl rfl ?_
        obtain ⟨q5, kk⟩ := kk
        refine r_aa dX5_seek_70 rfl (by decide) q5 (rf81 q5) ?_
        refine r_nR (R := rV) rfl kk (fun r2 kk => ?_)
        refine r_p (pc2 := 73) (L2 := [some (.ref (80 : Nat)), some (.int l1), some (.int l2), some (.int l3), some (.int v4), some (.ref r2)]) dX5_seek_71 rfl rfl ?_
        refine r_p (pc2 := 74) dX5_seek_73 rfl rfl ?_
        refine r_p (pc2 := 76) dX5_seek_74 rfl rfl ?_
        obtain ⟨q6, kk⟩ := kk
        refine r_get dX5_seek_76 fkX5_100 q6 rfl ?_
        refine r_p (pc2 := 80) dX5_seek_79 rfl rfl ?_
        refine r_p (pc2 := 81) dX5_seek_80 rfl rfl ?_
        refine r_get dX5_seek_81 fkX5_44 rfl rfl ?_
        refine r_p (pc2 := 85) dX5_seek_84 rfl rfl ?_
        refine r_ci (x := 1) dX5_seek_85 rfl ?_
        refine r_p (pc2 := 87) dX5_seek_86 rfl rfl ?_
        obtain ⟨q7, kk⟩ := kk
        refine r_ia dX5_seek_87 rfl q7 ?_
        refine r_p (pc2 := 89) dX5_seek_88 rfl rfl ?_
        refine r_p (pc2 := 90) dX5_seek_89 rfl rfl ?_
        refine r_get dX5_seek_90 fkX5_160 rfl rfl ?_
        refine r_cge dX5_seek_93 rfl (fun c93_4 => ?_) (fun c93_4 => ?_)
        · refine r_ip (R := rV) c93_4 ?_
          have kk := kk.1 c93_4
          refine r_inc (L2 := [some (.ref (80 : Nat)), some (.int l1), some (.int l2), some (.int l3), some (.int (v4 + 1)), some (.ref r2)]) (y := 1) dX5_seek_185 rfl rfl rfl ?_
          refine r_go dX5_seek_188 rfl ?_
          show tR _ _ _ _ [some (.ref (80 : Nat)), some (.int l1), some (.int l2), some (.int l3), some (.int (v4 + 1)), some (.ref r2)] _ _ _ _
          exact r_le (le_s (le_s (le_s (le_s (le_s (le_n (le_0))))))) (ih (v4 + 1) T kk)
        · refine r_in (R := rV) c93_4 ?_
          have kk := kk.2 c93_4
          refine r_p (pc2 := 97) dX5_seek_96 rfl rfl ?_
          refine r_get dX5_seek_97 fkX5_31 rfl rfl ?_
          refine r_p (pc2 := 101) dX5_seek_100 rfl rfl ?_
          refine r_aa dX5_seek_101 rfl (by decide) q2 (rf93 q2) ?_
          refine r_p (pc2 := 104) dX5_seek_102 rfl rfl ?_
          refine r_get dX5_seek_104 fkX5_110 q6 rfl ?_
          obtain ⟨q8, kk⟩ := kk
          refine r_cv (d1 := 1) dX5_seek_107 cvX5_114 rfl rfl (shr93 q2) rfl (Nat.le_of_ble_eq_true rfl) (Nat.le_of_ble_eq_true rfl) (Nat.le_of_ble_eq_true rfl) (c_ta_hasRoom (507 + 5 * (l1 : Int32).toNatClampNeg) (r2 + 3) q8) ?_
          refine r_ieq dX5_seek_110 rfl (fun c110_5 => ?_) (fun c110_5 => ?_)
          · refine r_ip (R := rV) c110_5 ?_
            have kk := kk.1 c110_5
            refine r_inc (L2 := [some (.ref (80 : Nat)), some (.int l1), some (.int l2), some (.int l3), some (.int (v4 + 1)), some (.ref r2)]) (y := 1) dX5_seek_185 rfl rfl rfl ?_
            refine r_go dX5_seek_188 rfl ?_
            show tR _ _ _ _ [some (.ref (80 : Nat)), some (.int l1), some (.int l2), some (.int l3), some (.int (v4 + 1)), some (.ref r2)] _ _ _ _
            exact r_le (le_s (le_s (le_s (le_s (le_s (le_n (le_0))))))) (ih (v4 + 1) T kk)
          · refine r_in (R := rV) c110_5 ?_
            have kk := kk.2 c110_5
            refine r_p (pc2 := 114) dX5_seek_113 rfl rfl ?_
            refine r_p (pc2 := 115) dX5_seek_114 rfl rfl ?_
            refine r_p (pc2 := 116) dX5_seek_115 rfl rfl ?_
            refine r_p (pc2 := 118) dX5_seek_116 rfl rfl ?_
            refine r_p (pc2 := 119) dX5_seek_118 rfl rfl ?_
            obtain ⟨q9, kk⟩ := kk
            refine r_cv (d1 := 4) dX5_seek_119 cvX5_186 rfl rfl rfl rfl (Nat.le_of_ble_eq_true rfl) (Nat.le_of_ble_eq_true rfl) (Nat.le_of_ble_eq_true rfl) (c_pl_leavesOpen l1 (l3 + v4) q9) ?_
            refine r_ieq dX5_seek_122 rfl (fun c122_6 => ?_) (fun c122_6 => ?_)
            · refine r_ip (R := rV) c122_6 ?_
              have kk := kk.1 c122_6
              refine r_inc (L2 := [some (.ref (80 : Nat)), some (.int l1), some (.int l2), some (.int l3), some (.int (v4 + 1)), some (.ref r2)]) (y := 1) dX5_seek_185 rfl rfl rfl ?_
              refine r_go dX5_seek_188 rfl ?_
              show tR _ _ _ _ [some (.ref (80 : Nat)), some (.int l1), some (.int l2), some (.int l3), some (.int (v4 + 1)), some (.ref r2)] _ _ _ _
              exact r_le (le_s (le_s (le_s (le_s (le_s (le_n (le_0))))))) (ih (v4 + 1) ((x_pl_leavesOpen T l1 (l3 + v4)).2) kk)
            · refine r_in (R := rV) c122_6 ?_
              have kk := kk.2 c122_6
              refine r_p (pc2 := 126) dX5_seek_125 rfl rfl ?_
              refine r_get dX5_seek_126 fkX5_38 rfl rfl ?_
              refine r_p (pc2 := 130) dX5_seek_129 rfl rfl ?_
              refine r_p (pc2 := 131) dX5_seek_130 rfl rfl ?_
              refine r_p (pc2 := 133) dX5_seek_131 rfl rfl ?_
              refine r_p (pc2 := 134) dX5_seek_133 rfl rfl ?_
              refine r_ias dX5_seek_134 rfl q2 ?_
              refine r_p (pc2 := 136) dX5_seek_135 rfl rfl ?_
              refine r_ci (x := 1) dX5_seek_136 rfl ?_
              refine r_p (pc2 := 138) dX5_seek_137 rfl rfl ?_
              refine r_p (pc2 := 139) dX5_seek_138 rfl rfl ?_
              refine r_get dX5_seek_139 fkX5_172 rfl rfl ?_
              refine r_jn (R := rV) (J := fun (KJ1 : St → St) (OJ1 : St → Prop) => ∀ (T301 : St), OJ1 T301 → tR X 4 mX5_seek 171 [some (.ref (80 : Nat)), some (.int l1), some (.int l2), some (.int l3), some (.int v4), some (.ref r2)] [] T301 (rV (KJ1 T301)).1 (rV (KJ1 T301)).2) kk (fun T301 kk => ?_) (fun KJ1 OJ1 hJ1 kk => ?_)
              · skip
                refine r_p (pc2 := 172) dX5_seek_171 rfl rfl ?_
                refine r_p (pc2 := 173) dX5_seek_172 rfl rfl ?_
                refine r_ci (x := 1) dX5_seek_173 rfl ?_
                refine r_p (pc2 := 175) dX5_seek_174 rfl rfl ?_
                refine r_p (pc2 := 176) dX5_seek_175 rfl rfl ?_
                refine r_p (pc2 := 178) dX5_seek_176 rfl rfl ?_
                refine r_get dX5_seek_178 fkX5_100 q6 rfl ?_
                refine r_p (pc2 := 182) dX5_seek_181 rfl rfl ?_
                exact kk.elim
              refine r_cge dX5_seek_142 rfl (fun c142_8 => ?_) (fun c142_8 => ?_)
              · refine r_ip (R := rV) c142_8 ?_
                have kk := kk.1 c142_8
                show tR _ _ _ _ [some (.ref (80 : Nat)), some (.int l1), some (.int l2), some (.int l3), some (.int v4), some (.ref r2)] [] _ _ _
                exact (hJ1 (sA ((x_pl_leavesOpen T l1 (l3 + v4)).2) 95 (l1 : Int32).toNatClampNeg (l3 + v4)) kk)
              · refine r_in (R := rV) c142_8 ?_
                have kk := kk.2 c142_8
                refine r_p (pc2 := 146) dX5_seek_145 rfl rfl ?_
                refine r_get dX5_seek_146 fkX5_31 rfl rfl ?_
                refine r_p (pc2 := 150) dX5_seek_149 rfl rfl ?_
                refine r_ci (x := 1) dX5_seek_150 rfl ?_
                refine r_p (pc2 := 152) dX5_seek_151 rfl rfl ?_
                obtain ⟨q12, kk⟩ := kk
                refine r_aa dX5_seek_152 rfl (by decide) q12 (rf93 q12) ?_
                refine r_p (pc2 := 154) dX5_seek_153 rfl rfl ?_
                refine r_get dX5_seek_154 fkX5_31 rfl rfl ?_
                refine r_p (pc2 := 158) dX5_seek_157 rfl rfl ?_
                refine r_aa dX5_seek_158 rfl (by decide) q2 (rf93 q2) ?_
                refine r_p (pc2 := 161) dX5_seek_159 rfl rfl ?_
                refine r_get dX5_seek_161 fkX5_110 q6 rfl ?_
                refine r_p (pc2 := 165) dX5_seek_164 rfl rfl ?_
                refine r_get dX5_seek_165 fkX5_69 rfl rfl ?_
                obtain ⟨q13, kk⟩ := kk
                refine r_cv (d1 := 2) dX5_seek_168 cvX5_179 rfl rfl (shr93 q12) rfl (Nat.le_of_ble_eq_true rfl) (Nat.le_of_ble_eq_true rfl) (Nat.le_of_ble_eq_true rfl) (c_ta_add (507 + 5 * (l1 + 1 : Int32).toNatClampNeg) (507 + 5 * (l1 : Int32).toNatClampNeg) (r2 + 3) ((sA ((x_pl_leavesOpen T l1 (l3 + v4)).2) 95 (l1 : Int32).toNatClampNeg (l3 + v4)).2.1 3) q13) ?_
                refine r_nT (R := rV) rfl kk (fun T4 kk => ?_)
                show tR _ _ _ _ [some (.ref (80 : Nat)), some (.int l1), some (.int l2), some (.int l3), some (.int v4), some (.ref r2)] [] _ _ _
                exact (hJ1 T4 kk)
      · refine r_ip (R := rV) c56_3 ?_
        have kk := kk.1 c56_3
        refine r_go dX5_seek_59 rfl ?_
        refine r_inc (L2 := [some (.ref (80 : Nat)), some (.int l1), some (.int l2), some (.int l3), some (.int (v4 + 1)), none]) (y := 1) dX5_seek_185 rfl rfl rfl ?_
        refine r_go dX5_seek_188 rfl ?_
        show tR _ _ _ _ [some (.ref (80 : Nat)), some (.int l1), some (.int l2), some (.int l3), some (.int (v4 + 1)), none] _ _ _ _
        exact (ih (v4 + 1) T kk)
def x_pl_seek0 (T : St) (p0 : Int32) (p1 : Int32) : St := if p0 < (T.1 80 12) then (jn (fun (i1 : Int32) => x_pl_seek0_27 p0 p1 i1 (fun (w1_4 : Int32) (T201 : St) => T201) 1000 0 T) ((T.2.2.1 94 (p0 : Int32).toNatClampNeg) * 12)) else (x_pl_keepPicked T p1)
def ok_pl_seek0 (T : St) (p0 : Int32) (p1 : Int32) : Prop := ((p0 < (T.1 80 12) → (vp_in p0 4) ∧ jn (fun (i1 : Int32) => ok_pl_seek0_27 p0 p1 i1 (fun (w1_4 : Int32) (T201 : St) => True) 1000 0 T) ((T.2.2.1 94 (p0 : Int32).toNatClampNeg) * 12)) ∧ (¬ p0 < (T.1 80 12) → (ok_pl_keepPicked T p1) ∧ True))
theorem c_pl_seek0 {X : Nat × (Nat → Int32)} {T : St} (p0 : Int32) (p1 : Int32) (kk : ok_pl_seek0 T p0 p1) : tC X 5 mX5_seek [.ref (80 : Nat), .int p0, .int p1] T none (x_pl_seek0 T p0 p1) := by
  unfold ok_pl_seek0 at kk
  refine tC_orV (L := [some (.ref (80 : Nat)), some (.int p0), some (.int p1), none, none, none]) (x_pl_seek0 T p0 p1) rfl ?_
  unfold x_pl_seek0
  refine r_p (pc2 := 1) dX5_seek_0 rfl rfl ?_
  refine r_p (pc2 := 2) dX5_seek_1 rfl rfl ?_
  refine r_get dX5_seek_2 fkX5_172 rfl rfl ?_
  refine r_clt dX5_seek_5 rfl (fun c5_1 => ?_) (fun c5_1 => ?_)
  · refine r_ip (R := rV) c5_1 ?_
    have kk := kk.1 c5_1
    refine r_p (pc2 := 15) dX5_seek_14 rfl rfl ?_
    refine r_get dX5_seek_15 fkX5_35 rfl rfl ?_
    refine r_p (pc2 := 19) dX5_seek_18 rfl rfl ?_
    obtain ⟨q1, kk⟩ := kk
    refine r_ia dX5_seek_19 rfl q1 ?_
    refine r_cb (x := 12) dX5_seek_20 rfl ?_
    refine r_p (pc2 := 23) dX5_seek_22 rfl rfl ?_
    refine r_nI (R := rV) rfl kk (fun i1 kk => ?_)
    refine r_p (pc2 := 24) (L2 := [some (.ref (80 : Nat)), some (.int p0), some (.int p1), some (.int i1), none, none]) dX5_seek_23 rfl rfl ?_
    refine r_ci (x := 0) dX5_seek_24 rfl ?_
    refine r_p (pc2 := 27) (L2 := [some (.ref (80 : Nat)), some (.int p0), some (.int p1), some (.int i1), some (.int 0), none]) dX5_seek_25 rfl rfl ?_
    show tR _ _ _ _ [some (.ref (80 : Nat)), some (.int p0), some (.int p1), some (.int i1), some (.int 0), none] _ _ _ _
    refine (c_pl_seek0_27 p0 p1 i1 (fun w1_4 T201 kk => ?_) 1000 0 T kk)
    · skip
      exact r_qV dX5_seek_191 rfl rfl
  · refine r_in (R := rV) c5_1 ?_
    have kk := kk.2 c5_1
    refine r_p (pc2 := 9) dX5_seek_8 rfl rfl ?_
    refine r_p (pc2 := 10) dX5_seek_9 rfl rfl ?_
    obtain ⟨q14, kk⟩ := kk
    refine r_cv (d1 := 1) dX5_seek_10 cvX5_183 rfl rfl rfl rfl (Nat.le_of_ble_eq_true rfl) (Nat.le_of_ble_eq_true rfl) (Nat.le_of_ble_eq_true rfl) (c_pl_keepPicked p1 q14) ?_
    exact r_qV dX5_seek_13 rfl rfl
