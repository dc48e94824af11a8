def x_x_slack_63 (l1 : Int32) (l2 : Int32) (l3 : Int32) (K : Int32 → St → Int32 × St) : Nat → Int32 → St → Int32 × St
  | 0, _, T => (0, T)
  | f + 1, v4, T => if 60 ≤ v4 then (K v4 T) else (jn (fun (T1 : St) => if ((x_jd_judged (sA T 569 (l2 : Int32).toNatClampNeg ((T.2.2.1 569 (l2 : Int32).toNatClampNeg) + 1)) ((sA T 569 (l2 : Int32).toNatClampNeg ((T.2.2.1 569 (l2 : Int32).toNatClampNeg) + 1)).2.1 0) 76 564 l1).1) = 0 then (x_x_slack_63 l1 l2 l3 K f (v4 + 1) T1) else (v4, T1)) ((x_jd_judged (sA T 569 (l2 : Int32).toNatClampNeg ((T.2.2.1 569 (l2 : Int32).toNatClampNeg) + 1)) ((sA T 569 (l2 : Int32).toNatClampNeg ((T.2.2.1 569 (l2 : Int32).toNatClampNeg) + 1)).2.1 0) 76 564 l1).2))
def ok_x_slack_63 (l1 : Int32) (l2 : Int32) (l3 : Int32) (Kk : Int32 → St → Prop) : Nat → Int32 → St → Prop
  | 0, _, _ => False
  | f + 1, v4, T => ((60 ≤ v4 → Kk v4 T) ∧ (¬ 60 ≤ v4 → (vp_in l2 12) ∧ (ok_jd_judged (sA T 569 (l2 : Int32).toNatClampNeg ((T.2.2.1 569 (l2 : Int32).toNatClampNeg) + 1)) ((sA T 569 (l2 : Int32).toNatClampNeg ((T.2.2.1 569 (l2 : Int32).toNatClampNeg) + 1)).2.1 0) 76 564 l1) ∧ jn (fun (T1 : St) => (((x_jd_judged (sA T 569 (l2 : Int32).toNatClampNeg ((T.2.2.1 569 (l2 : Int32).toNatClampNeg) + 1)) ((sA T 569 (l2 : Int32).toNatClampNeg ((T.2.2.1 569 (l2 : Int32).toNatClampNeg) + 1)).2.1 0) 76 564 l1).1) = 0 → ok_x_slack_63 l1 l2 l3 Kk f (v4 + 1) T1)) ((x_jd_judged (sA T 569 (l2 : Int32).toNatClampNeg ((T.2.2.1 569 (l2 : Int32).toNatClampNeg) + 1)) ((sA T 569 (l2 : Int32).toNatClampNeg ((T.2.2.1 569 (l2 : Int32).toNatClampNeg) + 1)).2.1 0) 76 564 l1).2)))
theorem c_x_slack_63 {X : Nat × (Nat → Int32)} (l1 : Int32) (l2 : Int32) (l3 : Int32) {K : Int32 → St → Int32 × St} {Kk : Int32 → St → Prop} (hk : ∀ (v4 : Int32) (T : St), Kk v4 T → tR X 11 mX11_slack 115 [some (.ref (0 : Nat)), some (.int l1), some (.int l2), some (.int l3), some (.int v4)] [] T (rI (K v4 T)).1 ((rI (K v4 T)).2)) : ∀ (f : Nat) (v4 : Int32) (T : St), ok_x_slack_63 l1 l2 l3 Kk f v4 T → tR X 11 mX11_slack 63 [some (.ref (0 : Nat)), some (.int l1), some (.int l2), some (.int l3), some (.int v4)] [] T (rI (x_x_slack_63 l1 l2 l3 K f v4 T)).1 ((rI (x_x_slack_63 l1 l2 l3 K f v4 T)).2) := by
  intro f
  induction f with
  | zero => intro v4 T kk; exact kk.elim
  | succ f ih =>
    intro v4 T kk
    rw [ok_x_slack_63] at kk
    rw [x_x_slack_63]
    refine r_p (pc2 := 65) dX11_slack_63 rfl rfl ?_
    refine r_cb (x := 60) dX11_slack_65 rfl ?_
    refine r_cge dX11_slack_67 rfl (fun c67_6 => ?_) (fun c67_6 => ?_)
    · refine r_ip (R := rI) c67_6 ?_
      have kk := kk.1 c67_6
      show tR _ _ _ _ [some (.ref (0 : Nat)), some (.int l1), some (.int l2), some (.int l3), some (.int v4)] _ _ _ _
      exact (hk v4 T kk)
    · refine r_in (R := rI) c67_6 ?_
      have kk := kk.2 c67_6
      refine r_p (pc2 := 71) dX11_slack_70 rfl rfl ?_
      refine r_get dX11_slack_71 fkX11_75 rfl rfl ?_
      refine r_get dX11_slack_74 fkX11_231 rfl rfl ?_
      refine r_p (pc2 := 78) dX11_slack_77 rfl rfl ?_
      refine r_p (pc2 := 79) dX11_slack_78 rfl rfl ?_
      obtain ⟨q4, kk⟩ := kk
      refine r_ia dX11_slack_79 rfl q4 ?_
      refine r_ci (x := 1) dX11_slack_80 rfl ?_
      refine r_p (pc2 := 82) dX11_slack_81 rfl rfl ?_
      refine r_ias dX11_slack_82 rfl q4 ?_
      refine r_p (pc2 := 84) dX11_slack_83 rfl rfl ?_
      refine r_get dX11_slack_84 fkX11_57 rfl rfl ?_
      refine r_p (pc2 := 88) dX11_slack_87 rfl rfl ?_
      refine r_get dX11_slack_88 fkX11_30 rfl rfl ?_
      refine r_p (pc2 := 92) dX11_slack_91 rfl rfl ?_
      refine r_get dX11_slack_92 fkX11_40 rfl rfl ?_
      refine r_p (pc2 := 96) dX11_slack_95 rfl rfl ?_
      refine r_get dX11_slack_96 fkX11_75 rfl rfl ?_
      refine r_p (pc2 := 100) dX11_slack_99 rfl rfl ?_
      obtain ⟨q5, kk⟩ := kk
      refine r_cv (d1 := 5) dX11_slack_100 cvX11_234 rfl rfl rfl rfl (Nat.le_of_ble_eq_true rfl) (Nat.le_of_ble_eq_true rfl) (Nat.le_of_ble_eq_true rfl) (c_jd_judged ((sA T 569 (l2 : Int32).toNatClampNeg ((T.2.2.1 569 (l2 : Int32).toNatClampNeg) + 1)).2.1 0) 76 564 l1 q5) ?_
      refine r_nT (R := rI) rfl kk (fun T1 kk => ?_)
      refine r_ieq dX11_slack_103 rfl (fun c103_7 => ?_) (fun c103_7 => ?_)
      · refine r_ip (R := rI) c103_7 ?_
        have kk := kk c103_7
        refine r_inc (L2 := [some (.ref (0 : Nat)), some (.int l1), some (.int l2), some (.int l3), some (.int (v4 + 1))]) (y := 1) dX11_slack_109 rfl rfl rfl ?_
        refine r_go dX11_slack_112 rfl ?_
        show tR _ _ _ _ [some (.ref (0 : Nat)), some (.int l1), some (.int l2), some (.int l3), some (.int (v4 + 1))] _ _ _ _
        exact (ih (v4 + 1) T1 kk)
      · refine r_in (R := rI) c103_7 ?_
        refine r_p (pc2 := 108) dX11_slack_106 rfl rfl ?_
        exact r_qI dX11_slack_108 rfl rfl rfl rfl
def x_x_slack (T : St) (p0 : Int32) (p1 : Int32) : Int32 × St := jn (fun (KJ1 : Int32 × St) => if (x_x_isTime T p0) = 0 then (KJ1) else (if p1 < 0 then (KJ1) else (if (x_x_refusal T 1) = 0 then (if ((x_x_findsPlan T p0).1) = 0 then ((-1000000), (x_x_findsPlan T p0).2) else (if p1 < (((x_x_findsPlan T p0).2).1 557 1) then (x_x_slack_63 p0 p1 (x_x_refusal T 1) (fun (w3_4 : Int32) (T203 : St) => (60, T203)) 1000 0 (x_ro_take ((x_x_findsPlan T p0).2) 564 557)) else ((-1000000), (x_x_findsPlan T p0).2))) else (x_x_refusal T 1, T)))) (if (x_x_refusal T 0) = 0 then (if ((x_x_findsPlan T p0).1) = 0 then ((-1000000), (x_x_findsPlan T p0).2) else (if p1 < (((x_x_findsPlan T p0).2).1 557 1) then (x_x_slack_63 p0 p1 (x_x_refusal T 0) (fun (w2_4 : Int32) (T202 : St) => (60, T202)) 1000 0 (x_ro_take ((x_x_findsPlan T p0).2) 564 557)) else ((-1000000), (x_x_findsPlan T p0).2))) else (x_x_refusal T 0, T))
def ok_x_slack (T : St) (p0 : Int32) (p1 : Int32) : Prop := jn (fun (OJ1 : Prop) => (((x_x_isTime T p0) = 0 → OJ1) ∧ (¬ (x_x_isTime T p0) = 0 → ((p1 < 0 → OJ1) ∧ (¬ p1 < 0 → (ok_x_refusal T 1) ∧ ((x_x_refusal T 1) = 0 → (ok_x_findsPlan T p0) ∧ (¬ ((x_x_findsPlan T p0).1) = 0 → (p1 < (((x_x_findsPlan T p0).2).1 557 1) → (ok_ro_take ((x_x_findsPlan T p0).2) 564 557) ∧ ok_x_slack_63 p0 p1 (x_x_refusal T 1) (fun (w3_4 : Int32) (T203 : St) => True) 1000 0 (x_ro_take ((x_x_findsPlan T p0).2) 564 557))))))))) ((ok_x_refusal T 0) ∧ ((x_x_refusal T 0) = 0 → (ok_x_findsPlan T p0) ∧ (¬ ((x_x_findsPlan T p0).1) = 0 → (p1 < (((x_x_findsPlan T p0).2).1 557 1) → (ok_ro_take ((x_x_findsPlan T p0).2) 564 557) ∧ ok_x_slack_63 p0 p1 (x_x_refusal T 0) (fun (w2_4 : Int32) (T202 : St) => True) 1000 0 (x_ro_take ((x_x_findsPlan T p0).2) 564 557)))))
theorem c_x_slack {X : Nat × (Nat → Int32)} {T : St} (p0 : Int32) (p1 : Int32) (kk : ok_x_slack T p0 p1) : tC X 12 mX11_slack [.ref (0 : Nat), .int p0, .int p1] T (some (.int (x_x_slack T p0 p1).1)) ((x_x_slack T p0 p1).2) := by
  unfold ok_x_slack at kk
  refine tC_orI (L := [some (.ref (0 : Nat)), some (.int p0), some (.int p1), none, none]) (x_x_slack T p0 p1) rfl ?_
  unfold x_x_slack
  refine r_p (pc2 := 1) dX11_slack_0 rfl rfl ?_
  refine r_p (pc2 := 2) dX11_slack_1 rfl rfl ?_
  refine r_cs (d1 := 1) dX11_slack_2 csX11_218 rfl rfl (Nat.le_of_ble_eq_true rfl) (Nat.le_of_ble_eq_true rfl) (Nat.le_of_ble_eq_true rfl) (c_x_isTime p0) ?_
  refine r_jn (R := rI) (J := fun (KJ1 : Int32 × St) (OJ1 : Prop) => OJ1 → tR X 11 mX11_slack 16 [some (.ref (0 : Nat)), some (.int p0), some (.int p1), none, none] [.ref (0 : Nat)] T (rI KJ1).1 (rI KJ1).2) kk (fun  kk => ?_) (fun KJ1 OJ1 hJ1 kk => ?_)
  · skip
    refine r_ci (x := 0) dX11_slack_16 rfl ?_
    obtain ⟨q6, kk⟩ := kk
    refine r_cv (d1 := 2) dX11_slack_17 cvX11_221 rfl rfl rfl rfl (Nat.le_of_ble_eq_true rfl) (Nat.le_of_ble_eq_true rfl) (Nat.le_of_ble_eq_true rfl) (c_x_refusal 0 q6) ?_
    refine r_p (pc2 := 21) (L2 := [some (.ref (0 : Nat)), some (.int p0), some (.int p1), some (.int (x_x_refusal T 0)), none]) dX11_slack_20 rfl rfl ?_
    refine r_p (pc2 := 22) dX11_slack_21 rfl rfl ?_
    refine r_ieq dX11_slack_22 rfl (fun c22_8 => ?_) (fun c22_8 => ?_)
    · refine r_ip (R := rI) c22_8 ?_
      have kk := kk c22_8
      refine r_p (pc2 := 28) dX11_slack_27 rfl rfl ?_
      refine r_p (pc2 := 29) dX11_slack_28 rfl rfl ?_
      obtain ⟨q7, kk⟩ := kk
      refine r_cv (d1 := 11) dX11_slack_29 cvX11_238 rfl rfl rfl rfl (Nat.le_of_ble_eq_true rfl) (Nat.le_of_ble_eq_true rfl) (Nat.le_of_ble_eq_true rfl) (c_x_findsPlan p0 q7) ?_
      refine r_ieq dX11_slack_32 rfl (fun c32_9 => ?_) (fun c32_9 => ?_)
      · refine r_ip (R := rI) c32_9 ?_
        refine r_k dX11_slack_46 kkX11_241 ?_
        exact r_qI dX11_slack_48 rfl rfl rfl rfl
      · refine r_in (R := rI) c32_9 ?_
        have kk := kk c32_9
        refine r_p (pc2 := 36) dX11_slack_35 rfl rfl ?_
        refine r_p (pc2 := 37) dX11_slack_36 rfl rfl ?_
        refine r_get dX11_slack_37 fkX11_71 rfl rfl ?_
        refine r_get dX11_slack_40 fkX11_228 rfl rfl ?_
        refine r_clt dX11_slack_43 rfl (fun c43_10 => ?_) (fun c43_10 => ?_)
        · refine r_ip (R := rI) c43_10 ?_
          have kk := kk c43_10
          refine r_p (pc2 := 50) dX11_slack_49 rfl rfl ?_
          refine r_get dX11_slack_50 fkX11_75 rfl rfl ?_
          refine r_p (pc2 := 54) dX11_slack_53 rfl rfl ?_
          refine r_get dX11_slack_54 fkX11_71 rfl rfl ?_
          obtain ⟨q8, kk⟩ := kk
          refine r_cv (d1 := 1) dX11_slack_57 cvX11_320 rfl rfl rfl rfl (Nat.le_of_ble_eq_true rfl) (Nat.le_of_ble_eq_true rfl) (Nat.le_of_ble_eq_true rfl) (c_ro_take 564 557 q8) ?_
          refine r_ci (x := 0) dX11_slack_60 rfl ?_
          refine r_p (pc2 := 63) (L2 := [some (.ref (0 : Nat)), some (.int p0), some (.int p1), some (.int (x_x_refusal T 0)), some (.int 0)]) dX11_slack_61 rfl rfl ?_
          show tR _ _ _ _ [some (.ref (0 : Nat)), some (.int p0), some (.int p1), some (.int (x_x_refusal T 0)), some (.int 0)] _ _ _ _
          refine (c_x_slack_63 p0 p1 (x_x_refusal T 0) (fun w2_4 T202 kk => ?_) 1000 0 (x_ro_take ((x_x_findsPlan T p0).2) 564 557) kk)
          · skip
            refine r_cb (x := 60) dX11_slack_115 rfl ?_
            exact r_qI dX11_slack_117 rfl rfl rfl rfl
        · refine r_in (R := rI) c43_10 ?_
          refine r_k dX11_slack_46 kkX11_241 ?_
          exact r_qI dX11_slack_48 rfl rfl rfl rfl
    · refine r_in (R := rI) c22_8 ?_
      refine r_p (pc2 := 26) dX11_slack_25 rfl rfl ?_
      exact r_qI dX11_slack_26 rfl rfl rfl rfl
  refine r_ieq dX11_slack_5 rfl (fun c5_11 => ?_) (fun c5_11 => ?_)
  · refine r_ip (R := rI) c5_11 ?_
    have kk := kk.1 c5_11
    show tR _ _ _ _ [some (.ref (0 : Nat)), some (.int p0), some (.int p1), none, none] [.ref (0 : Nat)] _ _ _
    exact (hJ1  kk)
  · refine r_in (R := rI) c5_11 ?_
    have kk := kk.2 c5_11
    refine r_p (pc2 := 9) dX11_slack_8 rfl rfl ?_
    refine r_ilt dX11_slack_9 rfl (fun c9_12 => ?_) (fun c9_12 => ?_)
    · refine r_ip (R := rI) c9_12 ?_
      have kk := kk.1 c9_12
      show tR _ _ _ _ [some (.ref (0 : Nat)), some (.int p0), some (.int p1), none, none] [.ref (0 : Nat)] _ _ _
      exact (hJ1  kk)
    · refine r_in (R := rI) c9_12 ?_
      have kk := kk.2 c9_12
      refine r_ci (x := 1) dX11_slack_12 rfl ?_
      refine r_go dX11_slack_13 rfl ?_
      obtain ⟨q9, kk⟩ := kk
      refine r_cv (d1 := 2) dX11_slack_17 cvX11_221 rfl rfl rfl rfl (Nat.le_of_ble_eq_true rfl) (Nat.le_of_ble_eq_true rfl) (Nat.le_of_ble_eq_true rfl) (c_x_refusal 1 q9) ?_
      refine r_p (pc2 := 21) (L2 := [some (.ref (0 : Nat)), some (.int p0), some (.int p1), some (.int (x_x_refusal T 1)), none]) dX11_slack_20 rfl rfl ?_
      refine r_p (pc2 := 22) dX11_slack_21 rfl rfl ?_
      refine r_ieq dX11_slack_22 rfl (fun c22_13 => ?_) (fun c22_13 => ?_)
      · refine r_ip (R := rI) c22_13 ?_
        have kk := kk c22_13
        refine r_p (pc2 := 28) dX11_slack_27 rfl rfl ?_
        refine r_p (pc2 := 29) dX11_slack_28 rfl rfl ?_
        obtain ⟨q10, kk⟩ := kk
        refine r_cv (d1 := 11) dX11_slack_29 cvX11_238 rfl rfl rfl rfl (Nat.le_of_ble_eq_true rfl) (Nat.le_of_ble_eq_true rfl) (Nat.le_of_ble_eq_true rfl) (c_x_findsPlan p0 q10) ?_
        refine r_ieq dX11_slack_32 rfl (fun c32_14 => ?_) (fun c32_14 => ?_)
        · refine r_ip (R := rI) c32_14 ?_
          refine r_k dX11_slack_46 kkX11_241 ?_
          exact r_qI dX11_slack_48 rfl rfl rfl rfl
        · refine r_in (R := rI) c32_14 ?_
          have kk := kk c32_14
          refine r_p (pc2 := 36) dX11_slack_35 rfl rfl ?_
          refine r_p (pc2 := 37) dX11_slack_36 rfl rfl ?_
          refine r_get dX11_slack_37 fkX11_71 rfl rfl ?_
          refine r_get dX11_slack_40 fkX11_228 rfl rfl ?_
          refine r_clt dX11_slack_43 rfl (fun c43_15 => ?_) (fun c43_15 => ?_)
          · refine r_ip (R := rI) c43_15 ?_
            have kk := kk c43_15
            refine r_p (pc2 := 50) dX11_slack_49 rfl rfl ?_
            refine r_get dX11_slack_50 fkX11_75 rfl rfl ?_
            refine r_p (pc2 := 54) dX11_slack_53 rfl rfl ?_
            refine r_get dX11_slack_54 fkX11_71 rfl rfl ?_
            obtain ⟨q11, kk⟩ := kk
            refine r_cv (d1 := 1) dX11_slack_57 cvX11_320 rfl rfl rfl rfl (Nat.le_of_ble_eq_true rfl) (Nat.le_of_ble_eq_true rfl) (Nat.le_of_ble_eq_true rfl) (c_ro_take 564 557 q11) ?_
            refine r_ci (x := 0) dX11_slack_60 rfl ?_
            refine r_p (pc2 := 63) (L2 := [some (.ref (0 : Nat)), some (.int p0), some (.int p1), some (.int (x_x_refusal T 1)), some (.int 0)]) dX11_slack_61 rfl rfl ?_
            show tR _ _ _ _ [some (.ref (0 : Nat)), some (.int p0), some (.int p1), some (.int (x_x_refusal T 1)), some (.int 0)] _ _ _ _
            refine (c_x_slack_63 p0 p1 (x_x_refusal T 1) (fun w3_4 T203 kk => ?_) 1000 0 (x_ro_take ((x_x_findsPlan T p0).2) 564 557) kk)
            · skip
              refine r_cb (x := 60) dX11_slack_115 rfl ?_
              exact r_qI dX11_slack_117 rfl rfl rfl rfl
          · refine r_in (R := rI) c43_15 ?_
            refine r_k dX11_slack_46 kkX11_241 ?_
            exact r_qI dX11_slack_48 rfl rfl rfl rfl
      · refine r_in (R := rI) c22_13 ?_
        refine r_p (pc2 := 26) dX11_slack_25 rfl rfl ?_
        exact r_qI dX11_slack_26 rfl rfl rfl rfl
def x_x_bears (T : St) (p0 : Int32) (p1 : Int32) (p2 : Int32) : Int32 × St := jn (fun (KJ1 : Int32 × St) => if (x_x_isTime T p0) = 0 then (KJ1) else (if p1 < 0 then (KJ1) else (if p2 < 1 then (KJ1) else (if 9 < p2 then (KJ1) else (if (x_x_refusal T 1) = 0 then (if ((x_x_findsPlan T p0).1) = 0 then ((-1000000), (x_x_findsPlan T p0).2) else (if p1 < (((x_x_findsPlan T p0).2).1 557 1) then (jn (fun (T3 : St) => if ((x_jd_judged T3 (T3.2.1 0) 76 564 p0).1) = 0 then (1, (x_jd_judged T3 (T3.2.1 0) 76 564 p0).2) else (0, (x_jd_judged T3 (T3.2.1 0) 76 564 p0).2)) (sA (x_ro_take ((x_x_findsPlan T p0).2) 564 557) 570 (p1 : Int32).toNatClampNeg (((x_ro_take ((x_x_findsPlan T p0).2) 564 557).2.2.1 570 (p1 : Int32).toNatClampNeg) + p2))) else ((-1000000), (x_x_findsPlan T p0).2))) else (x_x_refusal T 1, T)))))) (if (x_x_refusal T 0) = 0 then (if ((x_x_findsPlan T p0).1) = 0 then ((-1000000), (x_x_findsPlan T p0).2) else (if p1 < (((x_x_findsPlan T p0).2).1 557 1) then (jn (fun (T2 : St) => if ((x_jd_judged T2 (T2.2.1 0) 76 564 p0).1) = 0 then (1, (x_jd_judged T2 (T2.2.1 0) 76 564 p0).2) else (0, (x_jd_judged T2 (T2.2.1 0) 76 564 p0).2)) (sA (x_ro_take ((x_x_findsPlan T p0).2) 564 557) 570 (p1 : Int32).toNatClampNeg (((x_ro_take ((x_x_findsPlan T p0).2) 564 557).2.2.1 570 (p1 : Int32).toNatClampNeg) + p2))) else ((-1000000), (x_x_findsPlan T p0).2))) else (x_x_refusal T 0, T))
def ok_x_bears (T : St) (p0 : Int32) (p1 : Int32) (p2 : Int32) : Prop := jn (fun (OJ1 : Prop) => (((x_x_isTime T p0) = 0 → OJ1) ∧ (¬ (x_x_isTime T p0) = 0 → ((p1 < 0 → OJ1) ∧ (¬ p1 < 0 → ((p2 < 1 → OJ1) ∧ (¬ p2 < 1 → ((9 < p2 → OJ1) ∧ (¬ 9 < p2 → (ok_x_refusal T 1) ∧ ((x_x_refusal T 1) = 0 → (ok_x_findsPlan T p0) ∧ (¬ ((x_x_findsPlan T p0).1) = 0 → (p1 < (((x_x_findsPlan T p0).2).1 557 1) → (ok_ro_take ((x_x_findsPlan T p0).2) 564 557) ∧ (vp_in p1 12) ∧ jn (fun (T3 : St) => (ok_jd_judged T3 (T3.2.1 0) 76 564 p0) ∧ True) (sA (x_ro_take ((x_x_findsPlan T p0).2) 564 557) 570 (p1 : Int32).toNatClampNeg (((x_ro_take ((x_x_findsPlan T p0).2) 564 557).2.2.1 570 (p1 : Int32).toNatClampNeg) + p2)))))))))))))) ((ok_x_refusal T 0) ∧ ((x_x_refusal T 0) = 0 → (ok_x_findsPlan T p0) ∧ (¬ ((x_x_findsPlan T p0).1) = 0 → (p1 < (((x_x_findsPlan T p0).2).1 557 1) → (ok_ro_take ((x_x_findsPlan T p0).2) 564 557) ∧ (vp_in p1 12) ∧ jn (fun (T2 : St) => (ok_jd_judged T2 (T2.2.1 0) 76 564 p0) ∧ True) (sA (x_ro_take ((x_x_findsPlan T p0).2) 564 557) 570 (p1 : Int32).toNatClampNeg (((x_ro_take ((x_x_findsPlan T p0).2) 564 557).2.2.1 570 (p1 : Int32).toNatClampNeg) + p2))))))
theorem c_x_bears {X : Nat × (Nat → Int32)} {T : St} (p0 : Int32) (p1 : Int32) (p2 : Int32) (kk : ok_x_bears T p0 p1 p2) : tC X 12 mX11_bears [.ref (0 : Nat), .int p0, .int p1, .int p2] T (some (.int (x_x_bears T p0 p1 p2).1)) ((x_x_bears T p0 p1 p2).2) := by
  unfold ok_x_bears at kk
  refine tC_orI (L := [some (.ref (0 : Nat)), some (.int p0), some (.int p1), some (.int p2), none]) (x_x_bears T p0 p1 p2) rfl ?_
  unfold x_x_bears
  refine r_p (pc2 := 1) dX11_bears_0 rfl rfl ?_
  refine r_p (pc2 := 2) dX11_bears_1 rfl rfl ?_
  refine r_cs (d1 := 1) dX11_bears_2 csX11_218 rfl rfl (Nat.le_of_ble_eq_true rfl) (Nat.le_of_ble_eq_true rfl) (Nat.le_of_ble_eq_true rfl) (c_x_isTime p0) ?_
  refine r_jn (R := rI) (J := fun (KJ1 : Int32 × St) (OJ1 : Prop) => OJ1 → tR X 11 mX11_bears 27 [some (.ref (0 : Nat)), some (.int p0), some (.int p1), some (.int p2), none] [.ref (0 : Nat)] T (rI KJ1).1 (rI KJ1).2) kk (fun  kk => ?_) (fun KJ1 OJ1 hJ1 kk => ?_)
  · skip
    refine r_ci (x := 0) dX11_bears_27 rfl ?_
    obtain ⟨q6, kk⟩ := kk
    refine r_cv (d1 := 2) dX11_bears_28 cvX11_221 rfl rfl rfl rfl (Nat.le_of_ble_eq_true rfl) (Nat.le_of_ble_eq_true rfl) (Nat.le_of_ble_eq_true rfl) (c_x_refusal 0 q6) ?_
    refine r_p (pc2 := 33) (L2 := [some (.ref (0 : Nat)), some (.int p0), some (.int p1), some (.int p2), some (.int (x_x_refusal T 0))]) dX11_bears_31 rfl rfl ?_
    refine r_p (pc2 := 35) dX11_bears_33 rfl rfl ?_
    refine r_ieq dX11_bears_35 rfl (fun c35_9 => ?_) (fun c35_9 => ?_)
    · refine r_ip (R := rI) c35_9 ?_
      have kk := kk c35_9
      refine r_p (pc2 := 42) dX11_bears_41 rfl rfl ?_
      refine r_p (pc2 := 43) dX11_bears_42 rfl rfl ?_
      obtain ⟨q7, kk⟩ := kk
      refine r_cv (d1 := 11) dX11_bears_43 cvX11_238 rfl rfl rfl rfl (Nat.le_of_ble_eq_true rfl) (Nat.le_of_ble_eq_true rfl) (Nat.le_of_ble_eq_true rfl) (c_x_findsPlan p0 q7) ?_
      refine r_ieq dX11_bears_46 rfl (fun c46_10 => ?_) (fun c46_10 => ?_)
      · refine r_ip (R := rI) c46_10 ?_
        refine r_k dX11_bears_60 kkX11_241 ?_
        exact r_qI dX11_bears_62 rfl rfl rfl rfl
      · refine r_in (R := rI) c46_10 ?_
        have kk := kk c46_10
        refine r_p (pc2 := 50) dX11_bears_49 rfl rfl ?_
        refine r_p (pc2 := 51) dX11_bears_50 rfl rfl ?_
        refine r_get dX11_bears_51 fkX11_71 rfl rfl ?_
        refine r_get dX11_bears_54 fkX11_228 rfl rfl ?_
        refine r_clt dX11_bears_57 rfl (fun c57_11 => ?_) (fun c57_11 => ?_)
        · refine r_ip (R := rI) c57_11 ?_
          have kk := kk c57_11
          refine r_p (pc2 := 64) dX11_bears_63 rfl rfl ?_
          refine r_get dX11_bears_64 fkX11_75 rfl rfl ?_
          refine r_p (pc2 := 68) dX11_bears_67 rfl rfl ?_
          refine r_get dX11_bears_68 fkX11_71 rfl rfl ?_
          obtain ⟨q8, kk⟩ := kk
          refine r_cv (d1 := 1) dX11_bears_71 cvX11_320 rfl rfl rfl rfl (Nat.le_of_ble_eq_true rfl) (Nat.le_of_ble_eq_true rfl) (Nat.le_of_ble_eq_true rfl) (c_ro_take 564 557 q8) ?_
          refine r_p (pc2 := 75) dX11_bears_74 rfl rfl ?_
          refine r_get dX11_bears_75 fkX11_75 rfl rfl ?_
          refine r_get dX11_bears_78 fkX11_324 rfl rfl ?_
          refine r_p (pc2 := 82) dX11_bears_81 rfl rfl ?_
          refine r_p (pc2 := 83) dX11_bears_82 rfl rfl ?_
          obtain ⟨q9, kk⟩ := kk
          refine r_ia dX11_bears_83 rfl q9 ?_
          refine r_p (pc2 := 85) dX11_bears_84 rfl rfl ?_
          refine r_p (pc2 := 86) dX11_bears_85 rfl rfl ?_
          refine r_ias dX11_bears_86 rfl q9 ?_
          refine r_nT (R := rI) rfl kk (fun T2 kk => ?_)
          refine r_p (pc2 := 88) dX11_bears_87 rfl rfl ?_
          refine r_get dX11_bears_88 fkX11_57 rfl rfl ?_
          refine r_p (pc2 := 92) dX11_bears_91 rfl rfl ?_
          refine r_get dX11_bears_92 fkX11_30 rfl rfl ?_
          refine r_p (pc2 := 96) dX11_bears_95 rfl rfl ?_
          refine r_get dX11_bears_96 fkX11_40 rfl rfl ?_
          refine r_p (pc2 := 100) dX11_bears_99 rfl rfl ?_
          refine r_get dX11_bears_100 fkX11_75 rfl rfl ?_
          refine r_p (pc2 := 104) dX11_bears_103 rfl rfl ?_
          obtain ⟨q10, kk⟩ := kk
          refine r_cv (d1 := 5) dX11_bears_104 cvX11_234 rfl rfl rfl rfl (Nat.le_of_ble_eq_true rfl) (Nat.le_of_ble_eq_true rfl) (Nat.le_of_ble_eq_true rfl) (c_jd_judged (T2.2.1 0) 76 564 p0 q10) ?_
          refine r_ine dX11_bears_107 rfl (fun c107_12 => ?_) (fun c107_12 => ?_)
          · refine r_in (R := rI) c107_12 ?_
            refine r_ci (x := 0) dX11_bears_114 rfl ?_
            exact r_qI dX11_bears_115 rfl rfl rfl rfl
          · refine r_ip (R := rI) c107_12 ?_
            refine r_ci (x := 1) dX11_bears_110 rfl ?_
            refine r_go dX11_bears_111 rfl ?_
            exact r_qI dX11_bears_115 rfl rfl rfl rfl
        · refine r_in (R := rI) c57_11 ?_
          refine r_k dX11_bears_60 kkX11_241 ?_
          exact r_qI dX11_bears_62 rfl rfl rfl rfl
    · refine r_in (R := rI) c35_9 ?_
      refine r_p (pc2 := 40) dX11_bears_38 rfl rfl ?_
      exact r_qI dX11_bears_40 rfl rfl rfl rfl
  refine r_ieq dX11_bears_5 rfl (fun c5_13 => ?_) (fun c5_13 => ?_)
  · refine r_ip (R := rI) c5_13 ?_
    have kk := kk.1 c5_13
    show tR _ _ _ _ [some (.ref (0 : Nat)), some (.int p0), some (.int p1), some (.int p2), none] [.ref (0 : Nat)] _ _ _
    exact (hJ1  kk)
  · refine r_in (R := rI) c5_13 ?_
    have kk := kk.2 c5_13
    refine r_p (pc2 := 9) dX11_bears_8 rfl rfl ?_
    refine r_ilt dX11_bears_9 rfl (fun c9_14 => ?_) (fun c9_14 => ?_)
    · refine r_ip (R := rI) c9_14 ?_
      have kk := kk.1 c9_14
      show tR _ _ _ _ [some (.ref (0 : Nat)), some (.int p0), some (.int p1), some (.int p2), none] [.ref (0 : Nat)] _ _ _
      exact (hJ1  kk)
    · refine r_in (R := rI) c9_14 ?_
      have kk := kk.2 c9_14
      refine r_p (pc2 := 13) dX11_bears_12 rfl rfl ?_
      refine r_ci (x := 1) dX11_bears_13 rfl ?_
      refine r_clt dX11_bears_14 rfl (fun c14_15 => ?_) (fun c14_15 => ?_)
      · refine r_ip (R := rI) c14_15 ?_
        have kk := kk.1 c14_15
        show tR _ _ _ _ [some (.ref (0 : Nat)), some (.int p0), some (.int p1), some (.int p2), none] [.ref (0 : Nat)] _ _ _
        exact (hJ1  kk)
      · refine r_in (R := rI) c14_15 ?_
        have kk := kk.2 c14_15
        refine r_p (pc2 := 18) dX11_bears_17 rfl rfl ?_
        refine r_cb (x := 9) dX11_bears_18 rfl ?_
        refine r_cgt dX11_bears_20 rfl (fun c20_16 => ?_) (fun c20_16 => ?_)
        · refine r_ip (R := rI) c20_16 ?_
          have kk := kk.1 c20_16
          show tR _ _ _ _ [some (.ref (0 : Nat)), some (.int p0), some (.int p1), some (.int p2), none] [.ref (0 : Nat)] _ _ _
          exact (hJ1  kk)
        · refine r_in (R := rI) c20_16 ?_
          have kk := kk.2 c20_16
          refine r_ci (x := 1) dX11_bears_23 rfl ?_
          refine r_go dX11_bears_24 rfl ?_
          obtain ⟨q11, kk⟩ := kk
          refine r_cv (d1 := 2) dX11_bears_28 cvX11_221 rfl rfl rfl rfl (Nat.le_of_ble_eq_true rfl) (Nat.le_of_ble_eq_true rfl) (Nat.le_of_ble_eq_true rfl) (c_x_refusal 1 q11) ?_
          refine r_p (pc2 := 33) (L2 := [some (.ref (0 : Nat)), some (.int p0), some (.int p1), some (.int p2), some (.int (x_x_refusal T 1))]) dX11_bears_31 rfl rfl ?_
          refine r_p (pc2 := 35) dX11_bears_33 rfl rfl ?_
          refine r_ieq dX11_bears_35 rfl (fun c35_17 => ?_) (fun c35_17 => ?_)
          · refine r_ip (R := rI) c35_17 ?_
            have kk := kk c35_17
            refine r_p (pc2 := 42) dX11_bears_41 rfl rfl ?_
            refine r_p (pc2 := 43) dX11_bears_42 rfl rfl ?_
            obtain ⟨q12, kk⟩ := kk
            refine r_cv (d1 := 11) dX11_bears_43 cvX11_238 rfl rfl rfl rfl (Nat.le_of_ble_eq_true rfl) (Nat.le_of_ble_eq_true rfl) (Nat.le_of_ble_eq_true rfl) (c_x_findsPlan p0 q12) ?_
            refine r_ieq dX11_bears_46 rfl (fun c46_18 => ?_) (fun c46_18 => ?_)
            · refine r_ip (R := rI) c46_18 ?_
              refine r_k dX11_bears_60 kkX11_241 ?_
              exact r_qI dX11_bears_62 rfl rfl rfl rfl
            · refine r_in (R := rI) c46_18 ?_
              have kk := kk c46_18
              refine r_p (pc2 := 50) dX11_bears_49 rfl rfl ?_
              refine r_p (pc2 := 51) dX11_bears_50 rfl rfl ?_
              refine r_get dX11_bears_51 fkX11_71 rfl rfl ?_
              refine r_get dX11_bears_54 fkX11_228 rfl rfl ?_
              refine r_clt dX11_bears_57 rfl (fun c57_19 => ?_) (fun c57_19 => ?_)
              · refine r_ip (R := rI) c57_19 ?_
                have kk := kk c57_19
                refine r_p (pc2 := 64) dX11_bears_63 rfl rfl ?_
                refine r_get dX11_bears_64 fkX11_75 rfl rfl ?_
                refine r_p (pc2 := 68) dX11_bears_67 rfl rfl ?_
                refine r_get dX11_bears_68 fkX11_71 rfl rfl ?_
                obtain ⟨q13, kk⟩ := kk
                refine r_cv (d1 := 1) dX11_bears_71 cvX11_320 rfl rfl rfl rfl (Nat.le_of_ble_eq_true rfl) (Nat.le_of_ble_eq_true rfl) (Nat.le_of_ble_eq_true rfl) (c_ro_take 564 557 q13) ?_
                refine r_p (pc2 := 75) dX11_bears_74 rfl rfl ?_
                refine r_get dX11_bears_75 fkX11_75 rfl rfl ?_
                refine r_get dX11_bears_78 fkX11_324 rfl rfl ?_
                refine r_p (pc2 := 82) dX11_bears_81 rfl rfl ?_
                refine r_p (pc2 := 83) dX11_bears_82 rfl rfl ?_
                obtain ⟨q14, kk⟩ := kk
                refine r_ia dX11_bears_83 rfl q14 ?_
                refine r_p (pc2 := 85) dX11_bears_84 rfl rfl ?_
                refine r_p (pc2 := 86) dX11_bears_85 rfl rfl ?_
                refine r_ias dX11_bears_86 rfl q14 ?_
                refine r_nT (R := rI) rfl kk (fun T3 kk => ?_)
                refine r_p (pc2 := 88) dX11_bears_87 rfl rfl ?_
                refine r_get dX11_bears_88 fkX11_57 rfl rfl ?_
                refine r_p (pc2 := 92) dX11_bears_91 rfl rfl ?_
                refine r_get dX11_bears_92 fkX11_30 rfl rfl ?_
                refine r_p (pc2 := 96) dX11_bears_95 rfl rfl ?_
                refine r_get dX11_bears_96 fkX11_40 rfl rfl ?_
                refine r_p (pc2 := 100) dX11_bears_99 rfl rfl ?_
                refine r_get dX11_bears_100 fkX11_75 rfl rfl ?_
                refine r_p (pc2 := 104) dX11_bears_103 rfl rfl ?_
                obtain ⟨q15, kk⟩ := kk
                refine r_cv (d1 := 5) dX11_bears_104 cvX11_234 rfl rfl rfl rfl (Nat.le_of_ble_eq_true rfl) (Nat.le_of_ble_eq_true rfl) (Nat.le_of_ble_eq_true rfl) (c_jd_judged (T3.2.1 0) 76 564 p0 q15) ?_
                refine r_ine dX11_bears_107 rfl (fun c107_20 => ?_) (fun c107_20 => ?_)
                · refine r_in (R := rI) c107_20 ?_
                  refine r_ci (x := 0) dX11_bears_114 rfl ?_
                  exact r_qI dX11_bears_115 rfl rfl rfl rfl
                · refine r_ip (R := rI) c107_20 ?_
                  refine r_ci (x := 1) dX11_bears_110 rfl ?_
                  refine r_go dX11_bears_111 rfl ?_
                  exact r_qI dX11_bears_115 rfl rfl rfl rfl
              · refine r_in (R := rI) c57_19 ?_
                refine r_k dX11_bears_60 kkX11_241 ?_
                exact r_qI dX11_bears_62 rfl rfl rfl rfl
          · refine r_in (R := rI) c35_17 ?_
            refine r_p (pc2 := 40) dX11_bears_38 rfl rfl ?_
            exact r_qI dX11_bears_40 rfl rfl rfl rfl
def x_x_mind_52 (l1 : Int32) (l2 : Int32) (l3 : Int32) (K : Int32 → Int32 → Int32 → St → Int32 × St) : Nat → Int32 → Int32 → Int32 → St → Int32 × St
  | 0, _, _, _, T => (0, T)
  | f + 1, v4, v5, v6, T => if (T.1 557 1) ≤ v6 then (K v4 v5 v6 T) else (if (T.2.2.1 562 (v6 : Int32).toNatClampNeg) < l2 then (x_x_mind_52 l1 l2 l3 K f v4 v5 (v6 + 1) T) else (if v5 ≤ (T.2.2.1 562 (v6 : Int32).toNatClampNeg) then (x_x_mind_52 l1 l2 l3 K f v4 v5 (v6 + 1) T) else (jn (fun (i1 : Int32) => x_x_mind_52 l1 l2 l3 K f v6 i1 (v6 + 1) T) (T.2.2.1 562 (v6 : Int32).toNatClampNeg))))
def ok_x_mind_52 (l1 : Int32) (l2 : Int32) (l3 : Int32) (Kk : Int32 → Int32 → Int32 → St → Prop) : Nat → Int32 → Int32 → Int32 → St → Prop
  | 0, _, _, _, _ => False
  | f + 1, v4, v5, v6, T => (((T.1 557 1) ≤ v6 → Kk v4 v5 v6 T) ∧ (¬ (T.1 557 1) ≤ v6 → (vp_in v6 12) ∧ (((T.2.2.1 562 (v6 : Int32).toNatClampNeg) < l2 → ok_x_mind_52 l1 l2 l3 Kk f v4 v5 (v6 + 1) T) ∧ (¬ (T.2.2.1 562 (v6 : Int32).toNatClampNeg) < l2 → ((v5 ≤ (T.2.2.1 562 (v6 : Int32).toNatClampNeg) → ok_x_mind_52 l1 l2 l3 Kk f v4 v5 (v6 + 1) T) ∧ (¬ v5 ≤ (T.2.2.1 562 (v6 : Int32).toNatClampNeg) → jn (fun (i1 : Int32) => ok_x_mind_52 l1 l2 l3 Kk f v6 i1 (v6 + 1) T) (T.2.2.1 562 (v6 : Int32).toNatClampNeg)))))))
theorem c_x_mind_52 {X : Nat × (Nat → Int32)} (l1 : Int32) (l2 : Int32) (l3 : Int32) {K : Int32 → Int32 → Int32 → St → Int32 × St} {Kk : Int32 → Int32 → Int32 → St → Prop} (hk : ∀ (v4 : Int32) (v5 : Int32) (v6 : Int32) (T : St), Kk v4 v5 v6 T → tR X 11 mX11_mind 115 [some (.ref (0 : Nat)), some (.int l1), some (.int l2), some (.int l3), some (.int v4), some (.int v5), some (.int v6)] [] T (rI (K v4 v5 v6 T)).1 ((rI (K v4 v5 v6 T)).2)) : ∀ (f : Nat) (v4 : Int32) (v5 : Int32) (v6 : Int32) (T : St), ok_x_mind_52 l1 l2 l3 Kk f v4 v5 v6 T → tR X 11 mX11_mind 52 [some (.ref (0 : Nat)), some (.int l1), some (.int l2), some (.int l3), some (.int v4), some (.int v5), some (.int v6)] [] T (rI (x_x_mind_52 l1 l2 l3 K f v4 v5 v6 T)).1 ((rI (x_x_mind_52 l1 l2 l3 K f v4 v5 v6 T)).2) := by
  intro f
  induction f with
  | zero => intro v4 v5 v6 T kk; exact kk.elim
  | succ f ih =>
    intro v4 v5 v6 T kk
    rw [ok_x_mind_52] at kk
    rw [x_x_mind_52]
    refine r_p (pc2 := 54) dX11_mind_52 rfl rfl ?_
    refine r_p (pc2 := 55) dX11_mind_54 rfl rfl ?_
    refine r_get dX11_mind_55 fkX11_71 rfl rfl ?_
    refine r_get dX11_mind_58 fkX11_228 rfl rfl ?_
    refine r_cge dX11_mind_61 rfl (fun c61_5 => ?_) (fun c61_5 => ?_)
    · refine r_ip (R := rI) c61_5 ?_
      have kk := kk.1 c61_5
      show tR _ _ _ _ [some (.ref (0 : Nat)), some (.int l1), some (.int l2), some (.int l3), some (.int v4), some (.int v5), some (.int v6)] _ _ _ _
      exact (hk v4 v5 v6 T kk)
    · refine r_in (R := rI) c61_5 ?_
      have kk := kk.2 c61_5
      refine r_p (pc2 := 65) dX11_mind_64 rfl rfl ?_
      refine r_get dX11_mind_65 fkX11_71 rfl rfl ?_
      refine r_get dX11_mind_68 fkX11_231 rfl rfl ?_
      refine r_p (pc2 := 73) dX11_mind_71 rfl rfl ?_
      obtain ⟨q3, kk⟩ := kk
      refine r_ia dX11_mind_73 rfl q3 ?_
      refine r_p (pc2 := 75) dX11_mind_74 rfl rfl ?_
      refine r_clt dX11_mind_75 rfl (fun c75_6 => ?_) (fun c75_6 => ?_)
      · refine r_ip (R := rI) c75_6 ?_
        have kk := kk.1 c75_6
        refine r_inc (L2 := [some (.ref (0 : Nat)), some (.int l1), some (.int l2), some (.int l3), some (.int v4), some (.int v5), some (.int (v6 + 1))]) (y := 1) dX11_mind_109 rfl rfl rfl ?_
        refine r_go dX11_mind_112 rfl ?_
        show tR _ _ _ _ [some (.ref (0 : Nat)), some (.int l1), some (.int l2), some (.int l3), some (.int v4), some (.int v5), some (.int (v6 + 1))] _ _ _ _
        exact (ih v4 v5 (v6 + 1) T kk)
      · refine r_in (R := rI) c75_6 ?_
        have kk := kk.2 c75_6
        refine r_p (pc2 := 79) dX11_mind_78 rfl rfl ?_
        refine r_get dX11_mind_79 fkX11_71 rfl rfl ?_
        refine r_get dX11_mind_82 fkX11_231 rfl rfl ?_
        refine r_p (pc2 := 87) dX11_mind_85 rfl rfl ?_
        refine r_ia dX11_mind_87 rfl q3 ?_
        refine r_p (pc2 := 90) dX11_mind_88 rfl rfl ?_
        refine r_cge dX11_mind_90 rfl (fun c90_7 => ?_) (fun c90_7 => ?_)
        · refine r_ip (R := rI) c90_7 ?_
          have kk := kk.1 c90_7
          refine r_inc (L2 := [some (.ref (0 : Nat)), some (.int l1), some (.int l2), some (.int l3), some (.int v4), some (.int v5), some (.int (v6 + 1))]) (y := 1) dX11_mind_109 rfl rfl rfl ?_
          refine r_go dX11_mind_112 rfl ?_
          show tR _ _ _ _ [some (.ref (0 : Nat)), some (.int l1), some (.int l2), some (.int l3), some (.int v4), some (.int v5), some (.int (v6 + 1))] _ _ _ _
          exact (ih v4 v5 (v6 + 1) T kk)
        · refine r_in (R := rI) c90_7 ?_
          have kk := kk.2 c90_7
          refine r_p (pc2 := 95) dX11_mind_93 rfl rfl ?_
          refine r_p (pc2 := 97) (L2 := [some (.ref (0 : Nat)), some (.int l1), some (.int l2), some (.int l3), some (.int v6), some (.int v5), some (.int v6)]) dX11_mind_95 rfl rfl ?_
          refine r_p (pc2 := 98) dX11_mind_97 rfl rfl ?_
          refine r_get dX11_mind_98 fkX11_71 rfl rfl ?_
          refine r_get dX11_mind_101 fkX11_231 rfl rfl ?_
          refine r_p (pc2 := 106) dX11_mind_104 rfl rfl ?_
          refine r_ia dX11_mind_106 rfl q3 ?_
          refine r_nI (R := rI) rfl kk (fun i1 kk => ?_)
          refine r_p (pc2 := 109) (L2 := [some (.ref (0 : Nat)), some (.int l1), some (.int l2), some (.int l3), some (.int v6), some (.int i1), some (.int v6)]) dX11_mind_107 rfl rfl ?_
          refine r_inc (L2 := [some (.ref (0 : Nat)), some (.int l1), some (.int l2), some (.int l3), some (.int v6), some (.int i1), some (.int (v6 + 1))]) (y := 1) dX11_mind_109 rfl rfl rfl ?_
          refine r_go dX11_mind_112 rfl ?_
          show tR _ _ _ _ [some (.ref (0 : Nat)), some (.int l1), some (.int l2), some (.int l3), some (.int v6), some (.int i1), some (.int (v6 + 1))] _ _ _ _
          exact (ih v6 i1 (v6 + 1) T kk)
def x_x_mind (T : St) (p0 : Int32) (p1 : Int32) : Int32 × St := jn (fun (KJ1 : Int32 × St) => if (x_x_isTime T p0) = 0 then (KJ1) else (if (x_x_isMinute T p1) = 0 then (KJ1) else (if (x_x_refusal T 1) = 0 then (if ((x_x_findsPlan T p0).1) = 0 then ((-1000000), (x_x_findsPlan T p0).2) else (x_x_mind_52 p0 p1 (x_x_refusal T 1) (fun (w3_4 : Int32) (w3_5 : Int32) (w3_6 : Int32) (T203 : St) => (w3_4, T203)) 1000 (-1000000) 60 0 ((x_x_findsPlan T p0).2))) else (x_x_refusal T 1, T)))) (if (x_x_refusal T 0) = 0 then (if ((x_x_findsPlan T p0).1) = 0 then ((-1000000), (x_x_findsPlan T p0).2) else (x_x_mind_52 p0 p1 (x_x_refusal T 0) (fun (w2_4 : Int32) (w2_5 : Int32) (w2_6 : Int32) (T202 : St) => (w2_4, T202)) 1000 (-1000000) 60 0 ((x_x_findsPlan T p0).2))) else (x_x_refusal T 0, T))
def ok_x_mind (T : St) (p0 : Int32) (p1 : Int32) : Prop := jn (fun (OJ1 : Prop) => (((x_x_isTime T p0) = 0 → OJ1) ∧ (¬ (x_x_isTime T p0) = 0 → (((x_x_isMinute T p1) = 0 → OJ1) ∧ (¬ (x_x_isMinute T p1) = 0 → (ok_x_refusal T 1) ∧ ((x_x_refusal T 1) = 0 → (ok_x_findsPlan T p0) ∧ (¬ ((x_x_findsPlan T p0).1) = 0 → ok_x_mind_52 p0 p1 (x_x_refusal T 1) (fun (w3_4 : Int32) (w3_5 : Int32) (w3_6 : Int32) (T203 : St) => True) 1000 (-1000000) 60 0 ((x_x_findsPlan T p0).2)))))))) ((ok_x_refusal T 0) ∧ ((x_x_refusal T 0) = 0 → (ok_x_findsPlan T p0) ∧ (¬ ((x_x_findsPlan T p0).1) = 0 → ok_x_mind_52 p0 p1 (x_x_refusal T 0) (fun (w2_4 : Int32) (w2_5 : Int32) (w2_6 : Int32) (T202 : St) => True) 1000 (-1000000) 60 0 ((x_x_findsPlan T p0).2))))
theorem c_x_mind {X : Nat × (Nat → Int32)} {T : St} (p0 : Int32) (p1 : Int32) (kk : ok_x_mind T p0 p1) : tC X 12 mX11_mind [.ref (0 : Nat), .int p0, .int p1] T (some (.int (x_x_mind T p0 p1).1)) ((x_x_mind T p0 p1).2) := by
  unfold ok_x_mind at kk
  refine tC_orI (L := [some (.ref (0 : Nat)), some (.int p0), some (.int p1), none, none, none, none]) (x_x_mind T p0 p1) rfl ?_
  unfold x_x_mind
  refine r_p (pc2 := 1) dX11_mind_0 rfl rfl ?_
  refine r_p (pc2 := 2) dX11_mind_1 rfl rfl ?_
  refine r_cs (d1 := 1) dX11_mind_2 csX11_218 rfl rfl (Nat.le_of_ble_eq_true rfl) (Nat.le_of_ble_eq_true rfl) (Nat.le_of_ble_eq_true rfl) (c_x_isTime p0) ?_
  refine r_jn (R := rI) (J := fun (KJ1 : Int32 × St) (OJ1 : Prop) => OJ1 → tR X 11 mX11_mind 19 [some (.ref (0 : Nat)), some (.int p0), some (.int p1), none, none, none, none] [.ref (0 : Nat)] T (rI KJ1).1 (rI KJ1).2) kk (fun  kk => ?_) (fun KJ1 OJ1 hJ1 kk => ?_)
  · skip
    refine r_ci (x := 0) dX11_mind_19 rfl ?_
    obtain ⟨q4, kk⟩ := kk
    refine r_cv (d1 := 2) dX11_mind_20 cvX11_221 rfl rfl rfl rfl (Nat.le_of_ble_eq_true rfl) (Nat.le_of_ble_eq_true rfl) (Nat.le_of_ble_eq_true rfl) (c_x_refusal 0 q4) ?_
    refine r_p (pc2 := 24) (L2 := [some (.ref (0 : Nat)), some (.int p0), some (.int p1), some (.int (x_x_refusal T 0)), none, none, none]) dX11_mind_23 rfl rfl ?_
    refine r_p (pc2 := 25) dX11_mind_24 rfl rfl ?_
    refine r_ieq dX11_mind_25 rfl (fun c25_8 => ?_) (fun c25_8 => ?_)
    · refine r_ip (R := rI) c25_8 ?_
      have kk := kk c25_8
      refine r_p (pc2 := 31) dX11_mind_30 rfl rfl ?_
      refine r_p (pc2 := 32) dX11_mind_31 rfl rfl ?_
      obtain ⟨q5, kk⟩ := kk
      refine r_cv (d1 := 11) dX11_mind_32 cvX11_238 rfl rfl rfl rfl (Nat.le_of_ble_eq_true rfl) (Nat.le_of_ble_eq_true rfl) (Nat.le_of_ble_eq_true rfl) (c_x_findsPlan p0 q5) ?_
      refine r_ine dX11_mind_35 rfl (fun c35_9 => ?_) (fun c35_9 => ?_)
      · refine r_in (R := rI) c35_9 ?_
        have kk := kk c35_9
        refine r_k dX11_mind_41 kkX11_241 ?_
        refine r_p (pc2 := 45) (L2 := [some (.ref (0 : Nat)), some (.int p0), some (.int p1), some (.int (x_x_refusal T 0)), some (.int (-1000000)), none, none]) dX11_mind_43 rfl rfl ?_
        refine r_cb (x := 60) dX11_mind_45 rfl ?_
        refine r_p (pc2 := 49) (L2 := [some (.ref (0 : Nat)), some (.int p0), some (.int p1), some (.int (x_x_refusal T 0)), some (.int (-1000000)), some (.int 60), none]) dX11_mind_47 rfl rfl ?_
        refine r_ci (x := 0) dX11_mind_49 rfl ?_
        refine r_p (pc2 := 52) (L2 := [some (.ref (0 : Nat)), some (.int p0), some (.int p1), some (.int (x_x_refusal T 0)), some (.int (-1000000)), some (.int 60), some (.int 0)]) dX11_mind_50 rfl rfl ?_
        show tR _ _ _ _ [some (.ref (0 : Nat)), some (.int p0), some (.int p1), some (.int (x_x_refusal T 0)), some (.int (-1000000)), some (.int 60), some (.int 0)] _ _ _ _
        refine (c_x_mind_52 p0 p1 (x_x_refusal T 0) (fun w2_4 w2_5 w2_6 T202 kk => ?_) 1000 (-1000000) 60 0 ((x_x_findsPlan T p0).2) kk)
        · skip
          refine r_p (pc2 := 117) dX11_mind_115 rfl rfl ?_
          exact r_qI dX11_mind_117 rfl rfl rfl rfl
      · refine r_ip (R := rI) c35_9 ?_
        refine r_k dX11_mind_38 kkX11_241 ?_
        exact r_qI dX11_mind_40 rfl rfl rfl rfl
    · refine r_in (R := rI) c25_8 ?_
      refine r_p (pc2 := 29) dX11_mind_28 rfl rfl ?_
      exact r_qI dX11_mind_29 rfl rfl rfl rfl
  refine r_ieq dX11_mind_5 rfl (fun c5_10 => ?_) (fun c5_10 => ?_)
  · refine r_ip (R := rI) c5_10 ?_
    have kk := kk.1 c5_10
    show tR _ _ _ _ [some (.ref (0 : Nat)), some (.int p0), some (.int p1), none, none, none, none] [.ref (0 : Nat)] _ _ _
    exact (hJ1  kk)
  · refine r_in (R := rI) c5_10 ?_
    have kk := kk.2 c5_10
    refine r_p (pc2 := 9) dX11_mind_8 rfl rfl ?_
    refine r_cs (d1 := 1) dX11_mind_9 csX11_194 rfl rfl (Nat.le_of_ble_eq_true rfl) (Nat.le_of_ble_eq_true rfl) (Nat.le_of_ble_eq_true rfl) (c_x_isMinute p1) ?_
    refine r_ieq dX11_mind_12 rfl (fun c12_11 => ?_) (fun c12_11 => ?_)
    · refine r_ip (R := rI) c12_11 ?_
      have kk := kk.1 c12_11
      show tR _ _ _ _ [some (.ref (0 : Nat)), some (.int p0), some (.int p1), none, none, none, none] [.ref (0 : Nat)] _ _ _
      exact (hJ1  kk)
    · refine r_in (R := rI) c12_11 ?_
      have kk := kk.2 c12_11
      refine r_ci (x := 1) dX11_mind_15 rfl ?_
      refine r_go dX11_mind_16 rfl ?_
      obtain ⟨q6, kk⟩ := kk
      refine r_cv (d1 := 2) dX11_mind_20 cvX11_221 rfl rfl rfl rfl (Nat.le_of_ble_eq_true rfl) (Nat.le_of_ble_eq_true rfl) (Nat.le_of_ble_eq_true rfl) (c_x_refusal 1 q6) ?_
      refine r_p (pc2 := 24) (L2 := [some (.ref (0 : Nat)), some (.int p0), some (.int p1), some (.int (x_x_refusal T 1)), none, none, none]) dX11_mind_23 rfl rfl ?_
      refine r_p (pc2 := 25) dX11_mind_24 rfl rfl ?_
      refine r_ieq dX11_mind_25 rfl (fun c25_12 => ?_) (fun c25_12 => ?_)
      · refine r_ip (R := rI) c25_12 ?_
        have kk := kk c25_12
        refine r_p (pc2 := 31) dX11_mind_30 rfl rfl ?_
        refine r_p (pc2 := 32) dX11_mind_31 rfl rfl ?_
        obtain ⟨q7, kk⟩ := kk
        refine r_cv (d1 := 11) dX11_mind_32 cvX11_238 rfl rfl rfl rfl (Nat.le_of_ble_eq_true rfl) (Nat.le_of_ble_eq_true rfl) (Nat.le_of_ble_eq_true rfl) (c_x_findsPlan p0 q7) ?_
        refine r_ine dX11_mind_35 rfl (fun c35_13 => ?_) (fun c35_13 => ?_)
        · refine r_in (R := rI) c35_13 ?_
          have kk := kk c35_13
          refine r_k dX11_mind_41 kkX11_241 ?_
          refine r_p (pc2 := 45) (L2 := [some (.ref (0 : Nat)), some (.int p0), some (.int p1), some (.int (x_x_refusal T 1)), some (.int (-1000000)), none, none]) dX11_mind_43 rfl rfl ?_
          refine r_cb (x := 60) dX11_mind_45 rfl ?_
          refine r_p (pc2 := 49) (L2 := [some (.ref (0 : Nat)), some (.int p0), some (.int p1), some (.int (x_x_refusal T 1)), some (.int (-1000000)), some (.int 60), none]) dX11_mind_47 rfl rfl ?_
          refine r_ci (x := 0) dX11_mind_49 rfl ?_
          refine r_p (pc2 := 52) (L2 := [some (.ref (0 : Nat)), some (.int p0), some (.int p1), some (.int (x_x_refusal T 1)), some (.int (-1000000)), some (.int 60), some (.int 0)]) dX11_mind_50 rfl rfl ?_
          show tR _ _ _ _ [some (.ref (0 : Nat)), some (.int p0), some (.int p1), some (.int (x_x_refusal T 1)), some (.int (-1000000)), some (.int 60), some (.int 0)] _ _ _ _
          refine (c_x_mind_52 p0 p1 (x_x_refusal T 1) (fun w3_4 w3_5 w3_6 T203 kk => ?_) 1000 (-1000000) 60 0 ((x_x_findsPlan T p0).2) kk)
          · skip
            refine r_p (pc2 := 117) dX11_mind_115 rfl rfl ?_
            exact r_qI dX11_mind_117 rfl rfl rfl rfl
        · refine r_ip (R := rI) c35_13 ?_
          refine r_k dX11_mind_38 kkX11_241 ?_
          exact r_qI dX11_mind_40 rfl rfl rfl rfl
      · refine r_in (R := rI) c25_12 ?_
        refine r_p (pc2 := 29) dX11_mind_28 rfl rfl ?_
        exact r_qI dX11_mind_29 rfl rfl rfl rfl
