def x_rd_readKitchen_8 (l1 : Nat) (K : Int32 → St → St) : Nat → Int32 → St → St
  | 0, _, T => T
  | f + 1, v2, T => if 7 ≤ v2 then (K v2 T) else (jn (fun (T1 : St) => jn (fun (T2 : St) => x_rd_readKitchen_8 l1 K f (v2 + 1) T2) (sA T1 (l1 + 1) (v2 : Int32).toNatClampNeg ((x_rd_takeNumber T (([0, 0, 0, 0, 0, 1, 0] : List Int32).getD (v2 : Int32).toNatClampNeg 0) (([3, 3, 3, 9, 9, 3, 9] : List Int32).getD (v2 : Int32).toNatClampNeg 0)).1))) ((x_rd_takeNumber T (([0, 0, 0, 0, 0, 1, 0] : List Int32).getD (v2 : Int32).toNatClampNeg 0) (([3, 3, 3, 9, 9, 3, 9] : List Int32).getD (v2 : Int32).toNatClampNeg 0)).2))
def ok_rd_readKitchen_8 (l1 : Nat) (Kk : Int32 → St → Prop) : Nat → Int32 → St → Prop
  | 0, _, _ => False
  | f + 1, v2, T => ((7 ≤ v2 → Kk v2 T) ∧ (¬ 7 ≤ v2 → (sh l1 = .inr 1) ∧ (vp_in v2 7) ∧ (ok_rd_takeNumber T (([0, 0, 0, 0, 0, 1, 0] : List Int32).getD (v2 : Int32).toNatClampNeg 0) (([3, 3, 3, 9, 9, 3, 9] : List Int32).getD (v2 : Int32).toNatClampNeg 0)) ∧ jn (fun (T1 : St) => jn (fun (T2 : St) => ok_rd_readKitchen_8 l1 Kk f (v2 + 1) T2) (sA T1 (l1 + 1) (v2 : Int32).toNatClampNeg ((x_rd_takeNumber T (([0, 0, 0, 0, 0, 1, 0] : List Int32).getD (v2 : Int32).toNatClampNeg 0) (([3, 3, 3, 9, 9, 3, 9] : List Int32).getD (v2 : Int32).toNatClampNeg 0)).1))) ((x_rd_takeNumber T (([0, 0, 0, 0, 0, 1, 0] : List Int32).getD (v2 : Int32).toNatClampNeg 0) (([3, 3, 3, 9, 9, 3, 9] : List Int32).getD (v2 : Int32).toNatClampNeg 0)).2)))
theorem c_rd_readKitchen_8 {X : Nat × (Nat → Int32)} (l1 : Nat) {K : Int32 → St → St} {Kk : Int32 → St → Prop} (hk : ∀ (v2 : Int32) (T : St), Kk v2 T → tR X 6 mX6_readKitchen 42 [some (.ref (13 : Nat)), some (.ref l1), some (.int v2)] [] T (rV (K v2 T)).1 ((rV (K v2 T)).2)) : ∀ (f : Nat) (v2 : Int32) (T : St), ok_rd_readKitchen_8 l1 Kk f v2 T → tR X 6 mX6_readKitchen 8 [some (.ref (13 : Nat)), some (.ref l1), some (.int v2)] [] T (rV (x_rd_readKitchen_8 l1 K f v2 T)).1 ((rV (x_rd_readKitchen_8 l1 K f v2 T)).2) := by
  intro f
  induction f with
  | zero => intro v2 T kk; exact kk.elim
  | succ f ih =>
    intro v2 T kk
    rw [ok_rd_readKitchen_8] at kk
    rw [x_rd_readKitchen_8]
    refine r_p (pc2 := 9) dX6_readKitchen_8 rfl rfl ?_
    refine r_gs 2 rfl dX6_readKitchen_9 gsX6_58 ?_
    refine r_tl (j := 2) rfl dX6_readKitchen_12 ?_
    refine r_cge dX6_readKitchen_13 rfl (fun c13_1 => ?_) (fun c13_1 => ?_)
    · refine r_ip (R := rV) c13_1 ?_
      have kk := kk.1 c13_1
      show tR _ _ _ _ [some (.ref (13 : Nat)), some (.ref l1), some (.int v2)] _ _ _ _
      exact (hk v2 T kk)
    · refine r_in (R := rV) c13_1 ?_
      have kk := kk.2 c13_1
      refine r_p (pc2 := 17) dX6_readKitchen_16 rfl rfl ?_
      obtain ⟨q2, kk⟩ := kk
      refine r_get dX6_readKitchen_17 fkX6_61 q2 rfl ?_
      refine r_p (pc2 := 21) dX6_readKitchen_20 rfl rfl ?_
      refine r_p (pc2 := 22) dX6_readKitchen_21 rfl rfl ?_
      refine r_gs 1 rfl dX6_readKitchen_22 gsX6_63 ?_
      refine r_p (pc2 := 26) dX6_readKitchen_25 rfl rfl ?_
      obtain ⟨q3, kk⟩ := kk
      refine r_ta (j := 1) rfl dX6_readKitchen_26 q3 ?_
      refine r_gs 2 rfl dX6_readKitchen_27 gsX6_58 ?_
      refine r_p (pc2 := 31) dX6_readKitchen_30 rfl rfl ?_
      refine r_ta (j := 2) rfl dX6_readKitchen_31 q3 ?_
      obtain ⟨q4, kk⟩ := kk
      refine r_cv (d1 := 3) dX6_readKitchen_32 cvX6_66 rfl rfl rfl rfl (Nat.le_of_ble_eq_true rfl) (Nat.le_of_ble_eq_true rfl) (Nat.le_of_ble_eq_true rfl) (c_rd_takeNumber (([0, 0, 0, 0, 0, 1, 0] : List Int32).getD (v2 : Int32).toNatClampNeg 0) (([3, 3, 3, 9, 9, 3, 9] : List Int32).getD (v2 : Int32).toNatClampNeg 0) q4) ?_
      refine r_nT (R := rV) rfl kk (fun T1 kk => ?_)
      refine r_ias dX6_readKitchen_35 (shl1_1 q2) q3 ?_
      refine r_nT (R := rV) rfl kk (fun T2 kk => ?_)
      refine r_inc (L2 := [some (.ref (13 : Nat)), some (.ref l1), some (.int (v2 + 1))]) (y := 1) dX6_readKitchen_36 rfl rfl rfl ?_
      refine r_go dX6_readKitchen_39 rfl ?_
      show tR _ _ _ _ [some (.ref (13 : Nat)), some (.ref l1), some (.int (v2 + 1))] _ _ _ _
      exact (ih (v2 + 1) T2 kk)
def x_rd_readKitchen (T : St) (p0 : Nat) : St := x_rd_readKitchen_8 p0 (fun (w1_2 : Int32) (T201 : St) => x_rd_takeSign T201) 1000 0 (x_rd_takeWord T 0)
def ok_rd_readKitchen (T : St) (p0 : Nat) : Prop := (ok_rd_takeWord T 0) ∧ ok_rd_readKitchen_8 p0 (fun (w1_2 : Int32) (T201 : St) => (ok_rd_takeSign T201) ∧ True) 1000 0 (x_rd_takeWord T 0)
theorem c_rd_readKitchen {X : Nat × (Nat → Int32)} {T : St} (p0 : Nat) (kk : ok_rd_readKitchen T p0) : tC X 7 mX6_readKitchen [.ref (13 : Nat), .ref p0] T none (x_rd_readKitchen T p0) := by
  unfold ok_rd_readKitchen at kk
  refine tC_orV (L := [some (.ref (13 : Nat)), some (.ref p0), none]) (x_rd_readKitchen T p0) rfl ?_
  unfold x_rd_readKitchen
  refine r_p (pc2 := 1) dX6_readKitchen_0 rfl rfl ?_
  refine r_ks 0 rfl dX6_readKitchen_1 rfl ?_
  obtain ⟨q1, kk⟩ := kk
  refine r_cv (d1 := 6) dX6_readKitchen_3 cvX6_54 rfl rfl rfl rfl (Nat.le_of_ble_eq_true rfl) (Nat.le_of_ble_eq_true rfl) (Nat.le_of_ble_eq_true rfl) (c_rd_takeWord 0 q1) ?_
  refine r_ci (x := 0) dX6_readKitchen_6 rfl ?_
  refine r_p (pc2 := 8) (L2 := [some (.ref (13 : Nat)), some (.ref p0), some (.int 0)]) dX6_readKitchen_7 rfl rfl ?_
  show tR _ _ _ _ [some (.ref (13 : Nat)), some (.ref p0), some (.int 0)] _ _ _ _
  refine (c_rd_readKitchen_8 p0 (fun w1_2 T201 kk => ?_) 1000 0 (x_rd_takeWord T 0) kk)
  · skip
    refine r_p (pc2 := 43) dX6_readKitchen_42 rfl rfl ?_
    obtain ⟨q5, kk⟩ := kk
    refine r_cv (d1 := 3) dX6_readKitchen_43 cvX6_70 rfl rfl rfl rfl (Nat.le_of_ble_eq_true rfl) (Nat.le_of_ble_eq_true rfl) (Nat.le_of_ble_eq_true rfl) (c_rd_takeSign  q5) ?_
    exact (r_rv dX6_readKitchen_46 rfl rfl rfl)
def x_rd_readAway (T : St) (p0 : Nat) : St := if (T.1 p0 1) < 4 then (jn (fun (i1 : Int32) => jn (fun (T2 : St) => jn (fun (T3 : St) => sF (x_rd_takeSign T3) p0 1 (((x_rd_takeSign T3).1 p0 1) + 1)) (sA ((x_rd_takeNumber T2 i1 59).2) (p0 + 3) (T2.1 p0 1 : Int32).toNatClampNeg ((x_rd_takeNumber T2 i1 59).1))) (sA ((x_rd_takeNumber (x_rd_takeWord T 1) 0 59).2) (p0 + 2) (((x_rd_takeNumber (x_rd_takeWord T 1) 0 59).2).1 p0 1 : Int32).toNatClampNeg i1)) ((x_rd_takeNumber (x_rd_takeWord T 1) 0 59).1)) else (sF T 13 2 3)
def ok_rd_readAway (T : St) (p0 : Nat) : Prop := (sh p0 = .inr 1) ∧ ((T.1 p0 1) < 4 → (ok_rd_takeWord T 1) ∧ (ok_rd_takeNumber (x_rd_takeWord T 1) 0 59) ∧ jn (fun (i1 : Int32) => (vp_in (((x_rd_takeNumber (x_rd_takeWord T 1) 0 59).2).1 p0 1) 4) ∧ jn (fun (T2 : St) => (ok_rd_takeNumber T2 i1 59) ∧ (vp_in (T2.1 p0 1) 4) ∧ jn (fun (T3 : St) => (ok_rd_takeSign T3) ∧ True) (sA ((x_rd_takeNumber T2 i1 59).2) (p0 + 3) (T2.1 p0 1 : Int32).toNatClampNeg ((x_rd_takeNumber T2 i1 59).1))) (sA ((x_rd_takeNumber (x_rd_takeWord T 1) 0 59).2) (p0 + 2) (((x_rd_takeNumber (x_rd_takeWord T 1) 0 59).2).1 p0 1 : Int32).toNatClampNeg i1)) ((x_rd_takeNumber (x_rd_takeWord T 1) 0 59).1))
theorem c_rd_readAway {X : Nat × (Nat → Int32)} {T : St} (p0 : Nat) (kk : ok_rd_readAway T p0) : tC X 7 mX6_readAway [.ref (13 : Nat), .ref p0] T none (x_rd_readAway T p0) := by
  unfold ok_rd_readAway at kk
  refine tC_orV (L := [some (.ref (13 : Nat)), some (.ref p0), none]) (x_rd_readAway T p0) rfl ?_
  unfold x_rd_readAway
  refine r_p (pc2 := 1) dX6_readAway_0 rfl rfl ?_
  obtain ⟨q1, kk⟩ := kk
  refine r_get dX6_readAway_1 fkX6_73 q1 rfl ?_
  refine r_ci (x := 4) dX6_readAway_4 rfl ?_
  refine r_clt dX6_readAway_5 rfl (fun c5_1 => ?_) (fun c5_1 => ?_)
  · refine r_ip (R := rV) c5_1 ?_
    have kk := kk c5_1
    refine r_p (pc2 := 15) dX6_readAway_14 rfl rfl ?_
    refine r_ks 1 rfl dX6_readAway_15 rfl ?_
    obtain ⟨q2, kk⟩ := kk
    refine r_cv (d1 := 6) dX6_readAway_17 cvX6_54 rfl rfl rfl rfl (Nat.le_of_ble_eq_true rfl) (Nat.le_of_ble_eq_true rfl) (Nat.le_of_ble_eq_true rfl) (c_rd_takeWord 1 q2) ?_
    refine r_p (pc2 := 21) dX6_readAway_20 rfl rfl ?_
    refine r_ci (x := 0) dX6_readAway_21 rfl ?_
    refine r_cb (x := 59) dX6_readAway_22 rfl ?_
    obtain ⟨q3, kk⟩ := kk
    refine r_cv (d1 := 3) dX6_readAway_24 cvX6_66 rfl rfl rfl rfl (Nat.le_of_ble_eq_true rfl) (Nat.le_of_ble_eq_true rfl) (Nat.le_of_ble_eq_true rfl) (c_rd_takeNumber 0 59 q3) ?_
    refine r_nI (R := rV) rfl kk (fun i1 kk => ?_)
    refine r_p (pc2 := 28) (L2 := [some (.ref (13 : Nat)), some (.ref p0), some (.int i1)]) dX6_readAway_27 rfl rfl ?_
    refine r_p (pc2 := 29) dX6_readAway_28 rfl rfl ?_
    refine r_get dX6_readAway_29 fkX6_76 q1 rfl ?_
    refine r_p (pc2 := 33) dX6_readAway_32 rfl rfl ?_
    refine r_get dX6_readAway_33 fkX6_73 q1 rfl ?_
    refine r_p (pc2 := 37) dX6_readAway_36 rfl rfl ?_
    obtain ⟨q4, kk⟩ := kk
    refine r_ias dX6_readAway_37 (shl1_2 q1) q4 ?_
    refine r_nT (R := rV) rfl kk (fun T2 kk => ?_)
    refine r_p (pc2 := 39) dX6_readAway_38 rfl rfl ?_
    refine r_get dX6_readAway_39 fkX6_79 q1 rfl ?_
    refine r_p (pc2 := 43) dX6_readAway_42 rfl rfl ?_
    refine r_get dX6_readAway_43 fkX6_73 q1 rfl ?_
    refine r_p (pc2 := 47) dX6_readAway_46 rfl rfl ?_
    refine r_p (pc2 := 48) dX6_readAway_47 rfl rfl ?_
    refine r_cb (x := 59) dX6_readAway_48 rfl ?_
    obtain ⟨q5, kk⟩ := kk
    refine r_cv (d1 := 3) dX6_readAway_50 cvX6_66 rfl rfl rfl rfl (Nat.le_of_ble_eq_true rfl) (Nat.le_of_ble_eq_true rfl) (Nat.le_of_ble_eq_true rfl) (c_rd_takeNumber i1 59 q5) ?_
    obtain ⟨q6, kk⟩ := kk
    refine r_ias dX6_readAway_53 (shl1_3 q1) q6 ?_
    refine r_nT (R := rV) rfl kk (fun T3 kk => ?_)
    refine r_p (pc2 := 55) dX6_readAway_54 rfl rfl ?_
    obtain ⟨q7, kk⟩ := kk
    refine r_cv (d1 := 3) dX6_readAway_55 cvX6_70 rfl rfl rfl rfl (Nat.le_of_ble_eq_true rfl) (Nat.le_of_ble_eq_true rfl) (Nat.le_of_ble_eq_true rfl) (c_rd_takeSign  q7) ?_
    refine r_p (pc2 := 59) dX6_readAway_58 rfl rfl ?_
    refine r_p (pc2 := 60) dX6_readAway_59 rfl rfl ?_
    refine r_get dX6_readAway_60 fkX6_73 q1 rfl ?_
    refine r_ci (x := 1) dX6_readAway_63 rfl ?_
    refine r_p (pc2 := 65) dX6_readAway_64 rfl rfl ?_
    refine r_put dX6_readAway_65 fkX6_73 rfl q1 rfl (Nat.le_of_ble_eq_true rfl) rfl rfl ?_
    exact (r_rv dX6_readAway_68 rfl rfl rfl)
  · refine r_in (R := rV) c5_1 ?_
    refine r_p (pc2 := 9) dX6_readAway_8 rfl rfl ?_
    refine r_ci (x := 3) dX6_readAway_9 rfl ?_
    refine r_put dX6_readAway_10 fkX6_24 rfl rfl rfl (Nat.le_of_ble_eq_true rfl) rfl rfl ?_
    exact (r_rv dX6_readAway_13 rfl rfl rfl)
def x_rd_readStep (T : St) (p0 : Nat) (p1 : Int32) (p2 : Int32) : St := jn (fun (T1 : St) => jn (fun (T2 : St) => jn (fun (KJ1 : St) => if p2 = 0 then (KJ1) else (if p2 = 1 then (KJ1) else (jn (fun (KJ6 : Int32 → St → St) => if 0 = 0 then (if p2 = 2 then (KJ6 2 T2) else (KJ6 0 T2)) else (KJ6 ((x_rd_takeNumber T2 0 2).1) ((x_rd_takeNumber T2 0 2).2))) (fun (j6_s2 : Int32) (T306 : St) => jn (fun (KJ7 : St) => if 0 = 0 then (if p2 = 4 then (KJ7) else (jn (fun (KJ9 : Int32 → St → St) => if 0 = 0 then (KJ9 (-1000000) (sA T306 (p0 + 12) (p1 : Int32).toNatClampNeg j6_s2)) else (if p2 = 0 then (KJ9 ((x_rd_takeNumber (sA T306 (p0 + 12) (p1 : Int32).toNatClampNeg j6_s2) 0 1).1) ((x_rd_takeNumber (sA T306 (p0 + 12) (p1 : Int32).toNatClampNeg j6_s2) 0 1).2)) else (KJ9 ((x_rd_takeNumber (sA T306 (p0 + 12) (p1 : Int32).toNatClampNeg j6_s2) 0 9).1) ((x_rd_takeNumber (sA T306 (p0 + 12) (p1 : Int32).toNatClampNeg j6_s2) 0 9).2)))) (fun (j9_s0 : Int32) (T309 : St) => if p2 = 1 then (jn (fun (T105 : St) => x_rd_takeSign T105) (sA ((x_rd_takeNumber (sA T309 (p0 + 13) (p1 : Int32).toNatClampNeg j9_s0) j9_s0 9).2) (p0 + 14) (p1 : Int32).toNatClampNeg ((x_rd_takeNumber (sA T309 (p0 + 13) (p1 : Int32).toNatClampNeg j9_s0) j9_s0 9).1))) else (jn (fun (T104 : St) => x_rd_takeSign T104) (sA (sA T309 (p0 + 13) (p1 : Int32).toNatClampNeg j9_s0) (p0 + 14) (p1 : Int32).toNatClampNeg (-1000000)))))) else (KJ7)) (jn (fun (KJ8 : Int32 → St → St) => if 1 = 0 then (KJ8 (-1000000) (sA T306 (p0 + 12) (p1 : Int32).toNatClampNeg j6_s2)) else (if p2 = 0 then (KJ8 ((x_rd_takeNumber (sA T306 (p0 + 12) (p1 : Int32).toNatClampNeg j6_s2) 0 1).1) ((x_rd_takeNumber (sA T306 (p0 + 12) (p1 : Int32).toNatClampNeg j6_s2) 0 1).2)) else (KJ8 ((x_rd_takeNumber (sA T306 (p0 + 12) (p1 : Int32).toNatClampNeg j6_s2) 0 9).1) ((x_rd_takeNumber (sA T306 (p0 + 12) (p1 : Int32).toNatClampNeg j6_s2) 0 9).2)))) (fun (j8_s0 : Int32) (T308 : St) => if p2 = 1 then (jn (fun (T103 : St) => x_rd_takeSign T103) (sA ((x_rd_takeNumber (sA T308 (p0 + 13) (p1 : Int32).toNatClampNeg j8_s0) j8_s0 9).2) (p0 + 14) (p1 : Int32).toNatClampNeg ((x_rd_takeNumber (sA T308 (p0 + 13) (p1 : Int32).toNatClampNeg j8_s0) j8_s0 9).1))) else (jn (fun (T102 : St) => x_rd_takeSign T102) (sA (sA T308 (p0 + 13) (p1 : Int32).toNatClampNeg j8_s0) (p0 + 14) (p1 : Int32).toNatClampNeg (-1000000))))))))) (jn (fun (KJ2 : Int32 → St → St) => if 1 = 0 then (if p2 = 2 then (KJ2 2 T2) else (KJ2 0 T2)) else (KJ2 ((x_rd_takeNumber T2 0 2).1) ((x_rd_takeNumber T2 0 2).2))) (fun (j2_s2 : Int32) (T302 : St) => jn (fun (KJ3 : St) => if 1 = 0 then (if p2 = 4 then (KJ3) else (jn (fun (KJ5 : Int32 → St → St) => if 0 = 0 then (KJ5 (-1000000) (sA T302 (p0 + 12) (p1 : Int32).toNatClampNeg j2_s2)) else (if p2 = 0 then (KJ5 ((x_rd_takeNumber (sA T302 (p0 + 12) (p1 : Int32).toNatClampNeg j2_s2) 0 1).1) ((x_rd_takeNumber (sA T302 (p0 + 12) (p1 : Int32).toNatClampNeg j2_s2) 0 1).2)) else (KJ5 ((x_rd_takeNumber (sA T302 (p0 + 12) (p1 : Int32).toNatClampNeg j2_s2) 0 9).1) ((x_rd_takeNumber (sA T302 (p0 + 12) (p1 : Int32).toNatClampNeg j2_s2) 0 9).2)))) (fun (j5_s0 : Int32) (T305 : St) => if p2 = 1 then (jn (fun (T93 : St) => x_rd_takeSign T93) (sA ((x_rd_takeNumber (sA T305 (p0 + 13) (p1 : Int32).toNatClampNeg j5_s0) j5_s0 9).2) (p0 + 14) (p1 : Int32).toNatClampNeg ((x_rd_takeNumber (sA T305 (p0 + 13) (p1 : Int32).toNatClampNeg j5_s0) j5_s0 9).1))) else (jn (fun (T92 : St) => x_rd_takeSign T92) (sA (sA T305 (p0 + 13) (p1 : Int32).toNatClampNeg j5_s0) (p0 + 14) (p1 : Int32).toNatClampNeg (-1000000)))))) else (KJ3)) (jn (fun (KJ4 : Int32 → St → St) => if 1 = 0 then (KJ4 (-1000000) (sA T302 (p0 + 12) (p1 : Int32).toNatClampNeg j2_s2)) else (if p2 = 0 then (KJ4 ((x_rd_takeNumber (sA T302 (p0 + 12) (p1 : Int32).toNatClampNeg j2_s2) 0 1).1) ((x_rd_takeNumber (sA T302 (p0 + 12) (p1 : Int32).toNatClampNeg j2_s2) 0 1).2)) else (KJ4 ((x_rd_takeNumber (sA T302 (p0 + 12) (p1 : Int32).toNatClampNeg j2_s2) 0 9).1) ((x_rd_takeNumber (sA T302 (p0 + 12) (p1 : Int32).toNatClampNeg j2_s2) 0 9).2)))) (fun (j4_s0 : Int32) (T304 : St) => if p2 = 1 then (jn (fun (T91 : St) => x_rd_takeSign T91) (sA ((x_rd_takeNumber (sA T304 (p0 + 13) (p1 : Int32).toNatClampNeg j4_s0) j4_s0 9).2) (p0 + 14) (p1 : Int32).toNatClampNeg ((x_rd_takeNumber (sA T304 (p0 + 13) (p1 : Int32).toNatClampNeg j4_s0) j4_s0 9).1))) else (jn (fun (T90 : St) => x_rd_takeSign T90) (sA (sA T304 (p0 + 13) (p1 : Int32).toNatClampNeg j4_s0) (p0 + 14) (p1 : Int32).toNatClampNeg (-1000000)))))))) (sA ((x_rd_takeNumber T1 0 1).2) (p0 + 11) (p1 : Int32).toNatClampNeg ((x_rd_takeNumber T1 0 1).1))) (sA ((x_rd_takeNumber (sA T (p0 + 9) (p1 : Int32).toNatClampNeg p2) 1 30).2) (p0 + 10) (p1 : Int32).toNatClampNeg ((x_rd_takeNumber (sA T (p0 + 9) (p1 : Int32).toNatClampNeg p2) 1 30).1))
def ok_rd_readStep (T : St) (p0 : Nat) (p1 : Int32) (p2 : Int32) : Prop := (sh p0 = .inr 1) ∧ (vp_in p1 24) ∧ (ok_rd_takeNumber (sA T (p0 + 9) (p1 : Int32).toNatClampNeg p2) 1 30) ∧ jn (fun (T1 : St) => (ok_rd_takeNumber T1 0 1) ∧ jn (fun (T2 : St) => jn (fun (OJ1 : Prop) => ((p2 = 0 → OJ1) ∧ (¬ p2 = 0 → ((p2 = 1 → OJ1) ∧ (¬ p2 = 1 → jn (fun (OJ6 : Int32 → St → Prop) => ((0 = 0 → ((p2 = 2 → OJ6 2 T2) ∧ (¬ p2 = 2 → OJ6 0 T2))) ∧ (¬ 0 = 0 → (ok_rd_takeNumber T2 0 2) ∧ OJ6 ((x_rd_takeNumber T2 0 2).1) ((x_rd_takeNumber T2 0 2).2)))) (fun (j6_s2 : Int32) (T306 : St) => jn (fun (OJ7 : Prop) => ((0 = 0 → ((p2 = 4 → OJ7) ∧ (¬ p2 = 4 → jn (fun (OJ9 : Int32 → St → Prop) => ((0 = 0 → OJ9 (-1000000) (sA T306 (p0 + 12) (p1 : Int32).toNatClampNeg j6_s2)) ∧ (¬ 0 = 0 → ((p2 = 0 → (ok_rd_takeNumber (sA T306 (p0 + 12) (p1 : Int32).toNatClampNeg j6_s2) 0 1) ∧ OJ9 ((x_rd_takeNumber (sA T306 (p0 + 12) (p1 : Int32).toNatClampNeg j6_s2) 0 1).1) ((x_rd_takeNumber (sA T306 (p0 + 12) (p1 : Int32).toNatClampNeg j6_s2) 0 1).2)) ∧ (¬ p2 = 0 → (ok_rd_takeNumber (sA T306 (p0 + 12) (p1 : Int32).toNatClampNeg j6_s2) 0 9) ∧ OJ9 ((x_rd_takeNumber (sA T306 (p0 + 12) (p1 : Int32).toNatClampNeg j6_s2) 0 9).1) ((x_rd_takeNumber (sA T306 (p0 + 12) (p1 : Int32).toNatClampNeg j6_s2) 0 9).2)))))) (fun (j9_s0 : Int32) (T309 : St) => ((p2 = 1 → (ok_rd_takeNumber (sA T309 (p0 + 13) (p1 : Int32).toNatClampNeg j9_s0) j9_s0 9) ∧ jn (fun (T105 : St) => (ok_rd_takeSign T105) ∧ True) (sA ((x_rd_takeNumber (sA T309 (p0 + 13) (p1 : Int32).toNatClampNeg j9_s0) j9_s0 9).2) (p0 + 14) (p1 : Int32).toNatClampNeg ((x_rd_takeNumber (sA T309 (p0 + 13) (p1 : Int32).toNatClampNeg j9_s0) j9_s0 9).1))) ∧ (¬ p2 = 1 → jn (fun (T104 : St) => (ok_rd_takeSign T104) ∧ True) (sA (sA T309 (p0 + 13) (p1 : Int32).toNatClampNeg j9_s0) (p0 + 14) (p1 : Int32).toNatClampNeg (-1000000)))))))) ∧ (¬ 0 = 0 → OJ7))) (jn (fun (OJ8 : Int32 → St → Prop) => ((1 = 0 → OJ8 (-1000000) (sA T306 (p0 + 12) (p1 : Int32).toNatClampNeg j6_s2)) ∧ (¬ 1 = 0 → ((p2 = 0 → (ok_rd_takeNumber (sA T306 (p0 + 12) (p1 : Int32).toNatClampNeg j6_s2) 0 1) ∧ OJ8 ((x_rd_takeNumber (sA T306 (p0 + 12) (p1 : Int32).toNatClampNeg j6_s2) 0 1).1) ((x_rd_takeNumber (sA T306 (p0 + 12) (p1 : Int32).toNatClampNeg j6_s2) 0 1).2)) ∧ (¬ p2 = 0 → (ok_rd_takeNumber (sA T306 (p0 + 12) (p1 : Int32).toNatClampNeg j6_s2) 0 9) ∧ OJ8 ((x_rd_takeNumber (sA T306 (p0 + 12) (p1 : Int32).toNatClampNeg j6_s2) 0 9).1) ((x_rd_takeNumber (sA T306 (p0 + 12) (p1 : Int32).toNatClampNeg j6_s2) 0 9).2)))))) (fun (j8_s0 : Int32) (T308 : St) => ((p2 = 1 → (ok_rd_takeNumber (sA T308 (p0 + 13) (p1 : Int32).toNatClampNeg j8_s0) j8_s0 9) ∧ jn (fun (T103 : St) => (ok_rd_takeSign T103) ∧ True) (sA ((x_rd_takeNumber (sA T308 (p0 + 13) (p1 : Int32).toNatClampNeg j8_s0) j8_s0 9).2) (p0 + 14) (p1 : Int32).toNatClampNeg ((x_rd_takeNumber (sA T308 (p0 + 13) (p1 : Int32).toNatClampNeg j8_s0) j8_s0 9).1))) ∧ (¬ p2 = 1 → jn (fun (T102 : St) => (ok_rd_takeSign T102) ∧ True) (sA (sA T308 (p0 + 13) (p1 : Int32).toNatClampNeg j8_s0) (p0 + 14) (p1 : Int32).toNatClampNeg (-1000000)))))))))))) (jn (fun (OJ2 : Int32 → St → Prop) => ((1 = 0 → ((p2 = 2 → OJ2 2 T2) ∧ (¬ p2 = 2 → OJ2 0 T2))) ∧ (¬ 1 = 0 → (ok_rd_takeNumber T2 0 2) ∧ OJ2 ((x_rd_takeNumber T2 0 2).1) ((x_rd_takeNumber T2 0 2).2)))) (fun (j2_s2 : Int32) (T302 : St) => jn (fun (OJ3 : Prop) => ((1 = 0 → ((p2 = 4 → OJ3) ∧ (¬ p2 = 4 → jn (fun (OJ5 : Int32 → St → Prop) => ((0 = 0 → OJ5 (-1000000) (sA T302 (p0 + 12) (p1 : Int32).toNatClampNeg j2_s2)) ∧ (¬ 0 = 0 → ((p2 = 0 → (ok_rd_takeNumber (sA T302 (p0 + 12) (p1 : Int32).toNatClampNeg j2_s2) 0 1) ∧ OJ5 ((x_rd_takeNumber (sA T302 (p0 + 12) (p1 : Int32).toNatClampNeg j2_s2) 0 1).1) ((x_rd_takeNumber (sA T302 (p0 + 12) (p1 : Int32).toNatClampNeg j2_s2) 0 1).2)) ∧ (¬ p2 = 0 → (ok_rd_takeNumber (sA T302 (p0 + 12) (p1 : Int32).toNatClampNeg j2_s2) 0 9) ∧ OJ5 ((x_rd_takeNumber (sA T302 (p0 + 12) (p1 : Int32).toNatClampNeg j2_s2) 0 9).1) ((x_rd_takeNumber (sA T302 (p0 + 12) (p1 : Int32).toNatClampNeg j2_s2) 0 9).2)))))) (fun (j5_s0 : Int32) (T305 : St) => ((p2 = 1 → (ok_rd_takeNumber (sA T305 (p0 + 13) (p1 : Int32).toNatClampNeg j5_s0) j5_s0 9) ∧ jn (fun (T93 : St) => (ok_rd_takeSign T93) ∧ True) (sA ((x_rd_takeNumber (sA T305 (p0 + 13) (p1 : Int32).toNatClampNeg j5_s0) j5_s0 9).2) (p0 + 14) (p1 : Int32).toNatClampNeg ((x_rd_takeNumber (sA T305 (p0 + 13) (p1 : Int32).toNatClampNeg j5_s0) j5_s0 9).1))) ∧ (¬ p2 = 1 → jn (fun (T92 : St) => (ok_rd_takeSign T92) ∧ True) (sA (sA T305 (p0 + 13) (p1 : Int32).toNatClampNeg j5_s0) (p0 + 14) (p1 : Int32).toNatClampNeg (-1000000)))))))) ∧ (¬ 1 = 0 → OJ3))) (jn (fun (OJ4 : Int32 → St → Prop) => ((1 = 0 → OJ4 (-1000000) (sA T302 (p0 + 12) (p1 : Int32).toNatClampNeg j2_s2)) ∧ (¬ 1 = 0 → ((p2 = 0 → (ok_rd_takeNumber (sA T302 (p0 + 12) (p1 : Int32).toNatClampNeg j2_s2) 0 1) ∧ OJ4 ((x_rd_takeNumber (sA T302 (p0 + 12) (p1 : Int32).toNatClampNeg j2_s2) 0 1).1) ((x_rd_takeNumber (sA T302 (p0 + 12) (p1 : Int32).toNatClampNeg j2_s2) 0 1).2)) ∧ (¬ p2 = 0 → (ok_rd_takeNumber (sA T302 (p0 + 12) (p1 : Int32).toNatClampNeg j2_s2) 0 9) ∧ OJ4 ((x_rd_takeNumber (sA T302 (p0 + 12) (p1 : Int32).toNatClampNeg j2_s2) 0 9).1) ((x_rd_takeNumber (sA T302 (p0 + 12) (p1 : Int32).toNatClampNeg j2_s2) 0 9).2)))))) (fun (j4_s0 : Int32) (T304 : St) => ((p2 = 1 → (ok_rd_takeNumber (sA T304 (p0 + 13) (p1 : Int32).toNatClampNeg j4_s0) j4_s0 9) ∧ jn (fun (T91 : St) => (ok_rd_takeSign T91) ∧ True) (sA ((x_rd_takeNumber (sA T304 (p0 + 13) (p1 : Int32).toNatClampNeg j4_s0) j4_s0 9).2) (p0 + 14) (p1 : Int32).toNatClampNeg ((x_rd_takeNumber (sA T304 (p0 + 13) (p1 : Int32).toNatClampNeg j4_s0) j4_s0 9).1))) ∧ (¬ p2 = 1 → jn (fun (T90 : St) => (ok_rd_takeSign T90) ∧ True) (sA (sA T304 (p0 + 13) (p1 : Int32).toNatClampNeg j4_s0) (p0 + 14) (p1 : Int32).toNatClampNeg (-1000000))))))))) (sA ((x_rd_takeNumber T1 0 1).2) (p0 + 11) (p1 : Int32).toNatClampNeg ((x_rd_takeNumber T1 0 1).1))) (sA ((x_rd_takeNumber (sA T (p0 + 9) (p1 : Int32).toNatClampNeg p2) 1 30).2) (p0 + 10) (p1 : Int32).toNatClampNeg ((x_rd_takeNumber (sA T (p0 + 9) (p1 : Int32).toNatClampNeg p2) 1 30).1))
theorem c_rd_readStep {X : Nat × (Nat → Int32)} {T : St} (p0 : Nat) (p1 : Int32) (p2 : Int32) (kk : ok_rd_readStep T p0 p1 p2) : tC X 4 mX6_readStep [.ref (13 : Nat), .ref p0, .int p1, .int p2] T none (x_rd_readStep T p0 p1 p2) := by
  unfold ok_rd_readStep at kk
  refine tC_orV (L := [some (.ref (13 : Nat)), some (.ref p0), some (.int p1), some (.int p2), none, none, none]) (x_rd_readStep T p0 p1 p2) rfl ?_
  unfold x_rd_readStep
  refine r_p (pc2 := 1) dX6_readStep_0 rfl rfl ?_
  obtain ⟨q1, kk⟩ := kk
  refine r_get dX6_readStep_1 fkX6_116 q1 rfl ?_
  refine r_p (pc2 := 5) dX6_readStep_4 rfl rfl ?_
  refine r_p (pc2 := 6) dX6_readStep_5 rfl rfl ?_
  obtain ⟨q2, kk⟩ := kk
  refine r_ias dX6_readStep_6 (shl1_9 q1) q2 ?_
  refine r_p (pc2 := 8) dX6_readStep_7 rfl rfl ?_
  refine r_get dX6_readStep_8 fkX6_119 q1 rfl ?_
  refine r_p (pc2 := 12) dX6_readStep_11 rfl rfl ?_
  refine r_p (pc2 := 13) dX6_readStep_12 rfl rfl ?_
  refine r_ci (x := 1) dX6_readStep_13 rfl ?_
  refine r_cb (x := 30) dX6_readStep_14 rfl ?_
  obtain ⟨q3, kk⟩ := kk
  refine r_cv (d1 := 3) dX6_readStep_16 cvX6_66 rfl rfl rfl rfl (Nat.le_of_ble_eq_true rfl) (Nat.le_of_ble_eq_true rfl) (Nat.le_of_ble_eq_true rfl) (c_rd_takeNumber 1 30 q3) ?_
  refine r_ias dX6_readStep_19 (shl1_10 q1) q2 ?_
  refine r_nT (R := rV) rfl kk (fun T1 kk => ?_)
  refine r_p (pc2 := 21) dX6_readStep_20 rfl rfl ?_
  refine r_get dX6_readStep_21 fkX6_122 q1 rfl ?_
  refine r_p (pc2 := 25) dX6_readStep_24 rfl rfl ?_
  refine r_p (pc2 := 26) dX6_readStep_25 rfl rfl ?_
  refine r_ci (x := 0) dX6_readStep_26 rfl ?_
  refine r_ci (x := 1) dX6_readStep_27 rfl ?_
  obtain ⟨q4, kk⟩ := kk
  refine r_cv (d1 := 3) dX6_readStep_28 cvX6_66 rfl rfl rfl rfl (Nat.le_of_ble_eq_true rfl) (Nat.le_of_ble_eq_true rfl) (Nat.le_of_ble_eq_true rfl) (c_rd_takeNumber 0 1 q4) ?_
  refine r_ias dX6_readStep_31 (shl1_11 q1) q2 ?_
  refine r_nT (R := rV) rfl kk (fun T2 kk => ?_)
  refine r_p (pc2 := 33) dX6_readStep_32 rfl rfl ?_
  refine r_jn (R := rV) (J := fun (KJ1 : St) (OJ1 : Prop) => OJ1 → tR X 3 mX6_readStep 41 [some (.ref (13 : Nat)), some (.ref p0), some (.int p1), some (.int p2), none, none, none] [] T2 (rV KJ1).1 (rV KJ1).2) kk (fun  kk => ?_) (fun KJ1 OJ1 hJ1 kk => ?_)
  · skip
    refine r_ci (x := 1) dX6_readStep_41 rfl ?_
    refine r_go dX6_readStep_42 rfl ?_
    refine r_p (pc2 := 48) (L2 := [some (.ref (13 : Nat)), some (.ref p0), some (.int p1), some (.int p2), some (.int 1), none, none]) dX6_readStep_46 rfl rfl ?_
    refine r_p (pc2 := 49) dX6_readStep_48 rfl rfl ?_
    refine r_get dX6_readStep_49 fkX6_125 q1 rfl ?_
    refine r_p (pc2 := 53) dX6_readStep_52 rfl rfl ?_
    refine r_p (pc2 := 55) dX6_readStep_53 rfl rfl ?_
    refine r_jn (R := rV) (J := fun (KJ2 : Int32 → St → St) (OJ2 : Int32 → St → Prop) => ∀ (j2_s2 : Int32) (T302 : St), OJ2 j2_s2 T302 → tR X 3 mX6_readStep 77 [some (.ref (13 : Nat)), some (.ref p0), some (.int p1), some (.int p2), some (.int 1), none, none] [.int j2_s2, .int p1, .ref (p0 + 12)] T302 (rV (KJ2 j2_s2 T302)).1 (rV (KJ2 j2_s2 T302)).2) kk (fun j2_s2 T302 kk => ?_) (fun KJ2 OJ2 hJ2 kk => ?_)
    · skip
      refine r_ias dX6_readStep_77 (shl1_12 q1) q2 ?_
      refine r_p (pc2 := 80) dX6_readStep_78 rfl rfl ?_
      refine r_jn (R := rV) (J := fun (KJ3 : St) (OJ3 : Prop) => OJ3 → tR X 3 mX6_readStep 88 [some (.ref (13 : Nat)), some (.ref p0), some (.int p1), some (.int p2), some (.int 1), none, none] [] (sA T302 (p0 + 12) (p1 : Int32).toNatClampNeg j2_s2) (rV KJ3).1 (rV KJ3).2) kk (fun  kk => ?_) (fun KJ3 OJ3 hJ3 kk => ?_)
      · skip
        refine r_ci (x := 1) dX6_readStep_88 rfl ?_
        refine r_go dX6_readStep_89 rfl ?_
        refine r_p (pc2 := 95) (L2 := [some (.ref (13 : Nat)), some (.ref p0), some (.int p1), some (.int p2), some (.int 1), some (.int 1), none]) dX6_readStep_93 rfl rfl ?_
        refine r_p (pc2 := 97) dX6_readStep_95 rfl rfl ?_
        refine r_jn (R := rV) (J := fun (KJ4 : Int32 → St → St) (OJ4 : Int32 → St → Prop) => ∀ (j4_s0 : Int32) (T304 : St), OJ4 j4_s0 T304 → tR X 3 mX6_readStep 120 [some (.ref (13 : Nat)), some (.ref p0), some (.int p1), some (.int p2), some (.int 1), some (.int 1), none] [.int j4_s0] T304 (rV (KJ4 j4_s0 T304)).1 (rV (KJ4 j4_s0 T304)).2) kk (fun j4_s0 T304 kk => ?_) (fun KJ4 OJ4 hJ4 kk => ?_)
        · skip
          refine r_p (pc2 := 122) (L2 := [some (.ref (13 : Nat)), some (.ref p0), some (.int p1), some (.int p2), some (.int 1), some (.int 1), some (.int j4_s0)]) dX6_readStep_120 rfl rfl ?_
          refine r_p (pc2 := 123) dX6_readStep_122 rfl rfl ?_
          refine r_get dX6_readStep_123 fkX6_129 q1 rfl ?_
          refine r_p (pc2 := 127) dX6_readStep_126 rfl rfl ?_
          refine r_p (pc2 := 129) dX6_readStep_127 rfl rfl ?_
          refine r_ias dX6_readStep_129 (shl1_13 q1) q2 ?_
          refine r_p (pc2 := 131) dX6_readStep_130 rfl rfl ?_
          refine r_get dX6_readStep_131 fkX6_132 q1 rfl ?_
          refine r_p (pc2 := 135) dX6_readStep_134 rfl rfl ?_
          refine r_p (pc2 := 136) dX6_readStep_135 rfl rfl ?_
          refine r_ci (x := 1) dX6_readStep_136 rfl ?_
          refine r_cne dX6_readStep_137 rfl (fun c137_67 => ?_) (fun c137_67 => ?_)
          · refine r_in (R := rV) c137_67 ?_
            have kk := kk.2 c137_67
            refine r_k dX6_readStep_151 kkX6_128 ?_
            refine r_ias dX6_readStep_153 (shl1_14 q1) q2 ?_
            refine r_nT (R := rV) rfl kk (fun T90 kk => ?_)
            refine r_p (pc2 := 155) dX6_readStep_154 rfl rfl ?_
            obtain ⟨q119, kk⟩ := kk
            refine r_cv (d1 := 3) dX6_readStep_155 cvX6_70 rfl rfl rfl rfl (Nat.le_of_ble_eq_true rfl) (Nat.le_of_ble_eq_true rfl) (Nat.le_of_ble_eq_true rfl) (c_rd_takeSign  q119) ?_
            exact (r_rv dX6_readStep_158 rfl rfl rfl)
          · refine r_ip (R := rV) c137_67 ?_
            have kk := kk.1 c137_67
            refine r_p (pc2 := 141) dX6_readStep_140 rfl rfl ?_
            refine r_p (pc2 := 143) dX6_readStep_141 rfl rfl ?_
            refine r_cb (x := 9) dX6_readStep_143 rfl ?_
            obtain ⟨q120, kk⟩ := kk
            refine r_cv (d1 := 3) dX6_readStep_145 cvX6_66 rfl rfl rfl rfl (Nat.le_of_ble_eq_true rfl) (Nat.le_of_ble_eq_true rfl) (Nat.le_of_ble_eq_true rfl) (c_rd_takeNumber j4_s0 9 q120) ?_
            refine r_go dX6_readStep_148 rfl ?_
            refine r_ias dX6_readStep_153 (shl1_14 q1) q2 ?_
            refine r_nT (R := rV) rfl kk (fun T91 kk => ?_)
            refine r_p (pc2 := 155) dX6_readStep_154 rfl rfl ?_
            obtain ⟨q121, kk⟩ := kk
            refine r_cv (d1 := 3) dX6_readStep_155 cvX6_70 rfl rfl rfl rfl (Nat.le_of_ble_eq_true rfl) (Nat.le_of_ble_eq_true rfl) (Nat.le_of_ble_eq_true rfl) (c_rd_takeSign  q121) ?_
            exact (r_rv dX6_readStep_158 rfl rfl rfl)
        refine r_ieq dX6_readStep_97 rfl (fun c97_68 => ?_) (fun c97_68 => ?_)
        · refine r_ip (R := rV) c97_68 ?_
          have kk := kk.1 c97_68
          refine r_k dX6_readStep_118 kkX6_128 ?_
          show tR _ _ _ _ [some (.ref (13 : Nat)), some (.ref p0), some (.int p1), some (.int p2), some (.int 1), some (.int 1), none] [.int (-1000000)] _ _ _
          exact (hJ4 (-1000000) (sA T302 (p0 + 12) (p1 : Int32).toNatClampNeg j2_s2) kk)
        · refine r_in (R := rV) c97_68 ?_
          have kk := kk.2 c97_68
          refine r_p (pc2 := 101) dX6_readStep_100 rfl rfl ?_
          refine r_ci (x := 0) dX6_readStep_101 rfl ?_
          refine r_p (pc2 := 103) dX6_readStep_102 rfl rfl ?_
          refine r_ine dX6_readStep_103 rfl (fun c103_69 => ?_) (fun c103_69 => ?_)
          · refine r_in (R := rV) c103_69 ?_
            have kk := kk.2 c103_69
            refine r_cb (x := 9) dX6_readStep_110 rfl ?_
            obtain ⟨q122, kk⟩ := kk
            refine r_cv (d1 := 3) dX6_readStep_112 cvX6_66 rfl rfl rfl rfl (Nat.le_of_ble_eq_true rfl) (Nat.le_of_ble_eq_true rfl) (Nat.le_of_ble_eq_true rfl) (c_rd_takeNumber 0 9 q122) ?_
            refine r_go dX6_readStep_115 rfl ?_
            show tR _ _ _ _ [some (.ref (13 : Nat)), some (.ref p0), some (.int p1), some (.int p2), some (.int 1), some (.int 1), none] [.int ((x_rd_takeNumber (sA T302 (p0 + 12) (p1 : Int32).toNatClampNeg j2_s2) 0 9).1)] _ _ _
            exact (hJ4 ((x_rd_takeNumber (sA T302 (p0 + 12) (p1 : Int32).toNatClampNeg j2_s2) 0 9).1) ((x_rd_takeNumber (sA T302 (p0 + 12) (p1 : Int32).toNatClampNeg j2_s2) 0 9).2) kk)
          · refine r_ip (R := rV) c103_69 ?_
            have kk := kk.1 c103_69
            refine r_ci (x := 1) dX6_readStep_106 rfl ?_
            refine r_go dX6_readStep_107 rfl ?_
            obtain ⟨q123, kk⟩ := kk
            refine r_cv (d1 := 3) dX6_readStep_112 cvX6_66 rfl rfl rfl rfl (Nat.le_of_ble_eq_true rfl) (Nat.le_of_ble_eq_true rfl) (Nat.le_of_ble_eq_true rfl) (c_rd_takeNumber 0 1 q123) ?_
            refine r_go dX6_readStep_115 rfl ?_
            show tR _ _ _ _ [some (.ref (13 : Nat)), some (.ref p0), some (.int p1), some (.int p2), some (.int 1), some (.int 1), none] [.int ((x_rd_takeNumber (sA T302 (p0 + 12) (p1 : Int32).toNatClampNeg j2_s2) 0 1).1)] _ _ _
            exact (hJ4 ((x_rd_takeNumber (sA T302 (p0 + 12) (p1 : Int32).toNatClampNeg j2_s2) 0 1).1) ((x_rd_takeNumber (sA T302 (p0 + 12) (p1 : Int32).toNatClampNeg j2_s2) 0 1).2) kk)
      refine r_ine dX6_readStep_80 rfl (fun c80_70 => ?_) (fun c80_70 => ?_)
      · refine r_in (R := rV) c80_70 ?_
        have kk := kk.2 c80_70
        show tR _ _ _ _ [some (.ref (13 : Nat)), some (.ref p0), some (.int p1), some (.int p2), some (.int 1), none, none] [] _ _ _
        exact (hJ3  kk)
      · refine r_ip (R := rV) c80_70 ?_
        have kk := kk.1 c80_70
        refine r_p (pc2 := 84) dX6_readStep_83 rfl rfl ?_
        refine r_ci (x := 4) dX6_readStep_84 rfl ?_
        refine r_cne dX6_readStep_85 rfl (fun c85_71 => ?_) (fun c85_71 => ?_)
        · refine r_in (R := rV) c85_71 ?_
          have kk := kk.2 c85_71
          refine r_ci (x := 0) dX6_readStep_92 rfl ?_
          refine r_p (pc2 := 95) (L2 := [some (.ref (13 : Nat)), some (.ref p0), some (.int p1), some (.int p2), some (.int 1), some (.int 0), none]) dX6_readStep_93 rfl rfl ?_
          refine r_p (pc2 := 97) dX6_readStep_95 rfl rfl ?_
          refine r_jn (R := rV) (J := fun (KJ5 : Int32 → St → St) (OJ5 : Int32 → St → Prop) => ∀ (j5_s0 : Int32) (T305 : St), OJ5 j5_s0 T305 → tR X 3 mX6_readStep 120 [some (.ref (13 : Nat)), some (.ref p0), some (.int p1), some (.int p2), some (.int 1), some (.int 0), none] [.int j5_s0] T305 (rV (KJ5 j5_s0 T305)).1 (rV (KJ5 j5_s0 T305)).2) kk (fun j5_s0 T305 kk => ?_) (fun KJ5 OJ5 hJ5 kk => ?_)
          · skip
            refine r_p (pc2 := 122) (L2 := [some (.ref (13 : Nat)), some (.ref p0), some (.int p1), some (.int p2), some (.int 1), some (.int 0), some (.int j5_s0)]) dX6_readStep_120 rfl rfl ?_
            refine r_p (pc2 := 123) dX6_readStep_122 rfl rfl ?_
            refine r_get dX6_readStep_123 fkX6_129 q1 rfl ?_
            refine r_p (pc2 := 127) dX6_readStep_126 rfl rfl ?_
            refine r_p (pc2 := 129) dX6_readStep_127 rfl rfl ?_
            refine r_ias dX6_readStep_129 (shl1_13 q1) q2 ?_
            refine r_p (pc2 := 131) dX6_readStep_130 rfl rfl ?_
            refine r_get dX6_readStep_131 fkX6_132 q1 rfl ?_
            refine r_p (pc2 := 135) dX6_readStep_134 rfl rfl ?_
            refine r_p (pc2 := 136) dX6_readStep_135 rfl rfl ?_
            refine r_ci (x := 1) dX6_readStep_136 rfl ?_
            refine r_cne dX6_readStep_137 rfl (fun c137_74 => ?_) (fun c137_74 => ?_)
            · refine r_in (R := rV) c137_74 ?_
              have kk := kk.2 c137_74
              refine r_k dX6_readStep_151 kkX6_128 ?_
              refine r_ias dX6_readStep_153 (shl1_14 q1) q2 ?_
              refine r_nT (R := rV) rfl kk (fun T92 kk => ?_)
              refine r_p (pc2 := 155) dX6_readStep_154 rfl rfl ?_
              obtain ⟨q126, kk⟩ := kk
              refine r_cv (d1 := 3) dX6_readStep_155 cvX6_70 rfl rfl rfl rfl (Nat.le_of_ble_eq_true rfl) (Nat.le_of_ble_eq_true rfl) (Nat.le_of_ble_eq_true rfl) (c_rd_takeSign  q126) ?_
              exact (r_rv dX6_readStep_158 rfl rfl rfl)
            · refine r_ip (R := rV) c137_74 ?_
              have kk := kk.1 c137_74
              refine r_p (pc2 := 141) dX6_readStep_140 rfl rfl ?_
              refine r_p (pc2 := 143) dX6_readStep_141 rfl rfl ?_
              refine r_cb (x := 9) dX6_readStep_143 rfl ?_
              obtain ⟨q127, kk⟩ := kk
              refine r_cv (d1 := 3) dX6_readStep_145 cvX6_66 rfl rfl rfl rfl (Nat.le_of_ble_eq_true rfl) (Nat.le_of_ble_eq_true rfl) (Nat.le_of_ble_eq_true rfl) (c_rd_takeNumber j5_s0 9 q127) ?_
              refine r_go dX6_readStep_148 rfl ?_
              refine r_ias dX6_readStep_153 (shl1_14 q1) q2 ?_
              refine r_nT (R := rV) rfl kk (fun T93 kk => ?_)
              refine r_p (pc2 := 155) dX6_readStep_154 rfl rfl ?_
              obtain ⟨q128, kk⟩ := kk
              refine r_cv (d1 := 3) dX6_readStep_155 cvX6_70 rfl rfl rfl rfl (Nat.le_of_ble_eq_true rfl) (Nat.le_of_ble_eq_true rfl) (Nat.le_of_ble_eq_true rfl) (c_rd_takeSign  q128) ?_
              exact (r_rv dX6_readStep_158 rfl rfl rfl)
          refine r_ieq dX6_readStep_97 rfl (fun c97_75 => ?_) (fun c97_75 => ?_)
          · refine r_ip (R := rV) c97_75 ?_
            have kk := kk.1 c97_75
            refine r_k dX6_readStep_118 kkX6_128 ?_
            show tR _ _ _ _ [some (.ref (13 : Nat)), some (.ref p0), some (.int p1), some (.int p2), some (.int 1), some (.int 0), none] [.int (-1000000)] _ _ _
            exact (hJ5 (-1000000) (sA T302 (p0 + 12) (p1 : Int32).toNatClampNeg j2_s2) kk)
          · refine r_in (R := rV) c97_75 ?_
            have kk := kk.2 c97_75
            refine r_p (pc2 := 101) dX6_readStep_100 rfl rfl ?_
            refine r_ci (x := 0) dX6_readStep_101 rfl ?_
            refine r_p (pc2 := 103) dX6_readStep_102 rfl rfl ?_
            refine r_ine dX6_readStep_103 rfl (fun c103_76 => ?_) (fun c103_76 => ?_)
            · refine r_in (R := rV) c103_76 ?_
              have kk := kk.2 c103_76
              refine r_cb (x := 9) dX6_readStep_110 rfl ?_
              obtain ⟨q129, kk⟩ := kk
              refine r_cv (d1 := 3) dX6_readStep_112 cvX6_66 rfl rfl rfl rfl (Nat.le_of_ble_eq_true rfl) (Nat.le_of_ble_eq_true rfl) (Nat.le_of_ble_eq_true rfl) (c_rd_takeNumber 0 9 q129) ?_
              refine r_go dX6_readStep_115 rfl ?_
              show tR _ _ _ _ [some (.ref (13 : Nat)), some (.ref p0), some (.int p1), some (.int p2), some (.int 1), some (.int 0), none] [.int ((x_rd_takeNumber (sA T302 (p0 + 12) (p1 : Int32).toNatClampNeg j2_s2) 0 9).1)] _ _ _
              exact (hJ5 ((x_rd_takeNumber (sA T302 (p0 + 12) (p1 : Int32).toNatClampNeg j2_s2) 0 9).1) ((x_rd_takeNumber (sA T302 (p0 + 12) (p1 : Int32).toNatClampNeg j2_s2) 0 9).2) kk)
            · refine r_ip (R := rV) c103_76 ?_
              have kk := kk.1 c103_76
              refine r_ci (x := 1) dX6_readStep_106 rfl ?_
              refine r_go dX6_readStep_107 rfl ?_
              obtain ⟨q130, kk⟩ := kk
              refine r_cv (d1 := 3) dX6_readStep_112 cvX6_66 rfl rfl rfl rfl (Nat.le_of_ble_eq_true rfl) (Nat.le_of_ble_eq_true rfl) (Nat.le_of_ble_eq_true rfl) (c_rd_takeNumber 0 1 q130) ?_
              refine r_go dX6_readStep_115 rfl ?_
              show tR _ _ _ _ [some (.ref (13 : Nat)), some (.ref p0), some (.int p1), some (.int p2), some (.int 1), some (.int 0), none] [.int ((x_rd_takeNumber (sA T302 (p0 + 12) (p1 : Int32).toNatClampNeg j2_s2) 0 1).1)] _ _ _
              exact (hJ5 ((x_rd_takeNumber (sA T302 (p0 + 12) (p1 : Int32).toNatClampNeg j2_s2) 0 1).1) ((x_rd_takeNumber (sA T302 (p0 + 12) (p1 : Int32).toNatClampNeg j2_s2) 0 1).2) kk)
        · refine r_ip (R := rV) c85_71 ?_
          have kk := kk.1 c85_71
          show tR _ _ _ _ [some (.ref (13 : Nat)), some (.ref p0), some (.int p1), some (.int p2), some (.int 1), none, none] [] _ _ _
          exact (hJ3  kk)
    refine r_ieq dX6_readStep_55 rfl (fun c55_77 => ?_) (fun c55_77 => ?_)
    · refine r_ip (R := rV) c55_77 ?_
      have kk := kk.1 c55_77
      refine r_p (pc2 := 68) dX6_readStep_67 rfl rfl ?_
      refine r_ci (x := 2) dX6_readStep_68 rfl ?_
      refine r_cne dX6_readStep_69 rfl (fun c69_78 => ?_) (fun c69_78 => ?_)
      · refine r_in (R := rV) c69_78 ?_
        have kk := kk.2 c69_78
        refine r_ci (x := 0) dX6_readStep_76 rfl ?_
        show tR _ _ _ _ [some (.ref (13 : Nat)), some (.ref p0), some (.int p1), some (.int p2), some (.int 1), none, none] [.int 0, .int p1, .ref (p0 + 12)] _ _ _
        exact (hJ2 0 T2 kk)
      · refine r_ip (R := rV) c69_78 ?_
        have kk := kk.1 c69_78
        refine r_ci (x := 2) dX6_readStep_72 rfl ?_
        refine r_go dX6_readStep_73 rfl ?_
        show tR _ _ _ _ [some (.ref (13 : Nat)), some (.ref p0), some (.int p1), some (.int p2), some (.int 1), none, none] [.int 2, .int p1, .ref (p0 + 12)] _ _ _
        exact (hJ2 2 T2 kk)
    · refine r_in (R := rV) c55_77 ?_
      have kk := kk.2 c55_77
      refine r_p (pc2 := 59) dX6_readStep_58 rfl rfl ?_
      refine r_ci (x := 0) dX6_readStep_59 rfl ?_
      refine r_ci (x := 2) dX6_readStep_60 rfl ?_
      obtain ⟨q131, kk⟩ := kk
      refine r_cv (d1 := 3) dX6_readStep_61 cvX6_66 rfl rfl rfl rfl (Nat.le_of_ble_eq_true rfl) (Nat.le_of_ble_eq_true rfl) (Nat.le_of_ble_eq_true rfl) (c_rd_takeNumber 0 2 q131) ?_
      refine r_go dX6_readStep_64 rfl ?_
      show tR _ _ _ _ [some (.ref (13 : Nat)), some (.ref p0), some (.int p1), some (.int p2), some (.int 1), none, none] [.int ((x_rd_takeNumber T2 0 2).1), .int p1, .ref (p0 + 12)] _ _ _
      exact (hJ2 ((x_rd_takeNumber T2 0 2).1) ((x_rd_takeNumber T2 0 2).2) kk)
  refine r_ieq dX6_readStep_33 rfl (fun c33_79 => ?_) (fun c33_79 => ?_)
  · refine r_ip (R := rV) c33_79 ?_
    have kk := kk.1 c33_79
    show tR _ _ _ _ [some (.ref (13 : Nat)), some (.ref p0), some (.int p1), some (.int p2), none, none, none] [] _ _ _
    exact (hJ1  kk)
  · refine r_in (R := rV) c33_79 ?_
    have kk := kk.2 c33_79
    refine r_p (pc2 := 37) dX6_readStep_36 rfl rfl ?_
    refine r_ci (x := 1) dX6_readStep_37 rfl ?_
    refine r_cne dX6_readStep_38 rfl (fun c38_80 => ?_) (fun c38_80 => ?_)
    · refine r_in (R := rV) c38_80 ?_
      have kk := kk.2 c38_80
      refine r_ci (x := 0) dX6_readStep_45 rfl ?_
      refine r_p (pc2 := 48) (L2 := [some (.ref (13 : Nat)), some (.ref p0), some (.int p1), some (.int p2), some (.int 0), none, none]) dX6_readStep_46 rfl rfl ?_
      refine r_p (pc2 := 49) dX6_readStep_48 rfl rfl ?_
      refine r_get dX6_readStep_49 fkX6_125 q1 rfl ?_
      refine r_p (pc2 := 53) dX6_readStep_52 rfl rfl ?_
      refine r_p (pc2 := 55) dX6_readStep_53 rfl rfl ?_
      refine r_jn (R := rV) (J := fun (KJ6 : Int32 → St → St) (OJ6 : Int32 → St → Prop) => ∀ (j6_s2 : Int32) (T306 : St), OJ6 j6_s2 T306 → tR X 3 mX6_readStep 77 [some (.ref (13 : Nat)), some (.ref p0), some (.int p1), some (.int p2), some (.int 0), none, none] [.int j6_s2, .int p1, .ref (p0 + 12)] T306 (rV (KJ6 j6_s2 T306)).1 (rV (KJ6 j6_s2 T306)).2) kk (fun j6_s2 T306 kk => ?_) (fun KJ6 OJ6 hJ6 kk => ?_)
      · skip
        refine r_ias dX6_readStep_77 (shl1_12 q1) q2 ?_
        refine r_p (pc2 := 80) dX6_readStep_78 rfl rfl ?_
        refine r_jn (R := rV) (J := fun (KJ7 : St) (OJ7 : Prop) => OJ7 → tR X 3 mX6_readStep 88 [some (.ref (13 : Nat)), some (.ref p0), some (.int p1), some (.int p2), some (.int 0), none, none] [] (sA T306 (p0 + 12) (p1 : Int32).toNatClampNeg j6_s2) (rV KJ7).1 (rV KJ7).2) kk (fun  kk => ?_) (fun KJ7 OJ7 hJ7 kk => ?_)
        · skip
          refine r_ci (x := 1) dX6_readStep_88 rfl ?_
          refine r_go dX6_readStep_89 rfl ?_
          refine r_p (pc2 := 95) (L2 := [some (.ref (13 : Nat)), some (.ref p0), some (.int p1), some (.int p2), some (.int 0), some (.int 1), none]) dX6_readStep_93 rfl rfl ?_
          refine r_p (pc2 := 97) dX6_readStep_95 rfl rfl ?_
          refine r_jn (R := rV) (J := fun (KJ8 : Int32 → St → St) (OJ8 : Int32 → St → Prop) => ∀ (j8_s0 : Int32) (T308 : St), OJ8 j8_s0 T308 → tR X 3 mX6_readStep 120 [some (.ref (13 : Nat)), some (.ref p0), some (.int p1), some (.int p2), some (.int 0), some (.int 1), none] [.int j8_s0] T308 (rV (KJ8 j8_s0 T308)).1 (rV (KJ8 j8_s0 T308)).2) kk (fun j8_s0 T308 kk => ?_) (fun KJ8 OJ8 hJ8 kk => ?_)
          · skip
            refine r_p (pc2 := 122) (L2 := [some (.ref (13 : Nat)), some (.ref p0), some (.int p1), some (.int p2), some (.int 0), some (.int 1), some (.int j8_s0)]) dX6_readStep_120 rfl rfl ?_
            refine r_p (pc2 := 123) dX6_readStep_122 rfl rfl ?_
            refine r_get dX6_readStep_123 fkX6_129 q1 rfl ?_
            refine r_p (pc2 := 127) dX6_readStep_126 rfl rfl ?_
            refine r_p (pc2 := 129) dX6_readStep_127 rfl rfl ?_
            refine r_ias dX6_readStep_129 (shl1_13 q1) q2 ?_
            refine r_p (pc2 := 131) dX6_readStep_130 rfl rfl ?_
            refine r_get dX6_readStep_131 fkX6_132 q1 rfl ?_
            refine r_p (pc2 := 135) dX6_readStep_134 rfl rfl ?_
            refine r_p (pc2 := 136) dX6_readStep_135 rfl rfl ?_
            refine r_ci (x := 1) dX6_readStep_136 rfl ?_
            refine r_cne dX6_readStep_137 rfl (fun c137_92 => ?_) (fun c137_92 => ?_)
            · refine r_in (R := rV) c137_92 ?_
              have kk := kk.2 c137_92
              refine r_k dX6_readStep_151 kkX6_128 ?_
              refine r_ias dX6_readStep_153 (shl1_14 q1) q2 ?_
              refine r_nT (R := rV) rfl kk (fun T102 kk => ?_)
              refine r_p (pc2 := 155) dX6_readStep_154 rfl rfl ?_
              obtain ⟨q146, kk⟩ := kk
              refine r_cv (d1 := 3) dX6_readStep_155 cvX6_70 rfl rfl rfl rfl (Nat.le_of_ble_eq_true rfl) (Nat.le_of_ble_eq_true rfl) (Nat.le_of_ble_eq_true rfl) (c_rd_takeSign  q146) ?_
              exact (r_rv dX6_readStep_158 rfl rfl rfl)
            · refine r_ip (R := rV) c137_92 ?_
              have kk := kk.1 c137_92
              refine r_p (pc2 := 141) dX6_readStep_140 rfl rfl ?_
              refine r_p (pc2 := 143) dX6_readStep_141 rfl rfl ?_
              refine r_cb (x := 9) dX6_readStep_143 rfl ?_
              obtain ⟨q147, kk⟩ := kk
              refine r_cv (d1 := 3) dX6_readStep_145 cvX6_66 rfl rfl rfl rfl (Nat.le_of_ble_eq_true rfl) (Nat.le_of_ble_eq_true rfl) (Nat.le_of_ble_eq_true rfl) (c_rd_takeNumber j8_s0 9 q147) ?_
              refine r_go dX6_readStep_148 rfl ?_
              refine r_ias dX6_readStep_153 (shl1_14 q1) q2 ?_
              refine r_nT (R := rV) rfl kk (fun T103 kk => ?_)
              refine r_p (pc2 := 155) dX6_readStep_154 rfl rfl ?_
              obtain ⟨q148, kk⟩ := kk
              refine r_cv (d1 := 3) dX6_readStep_155 cvX6_70 rfl rfl rfl rfl (Nat.le_of_ble_eq_true rfl) (Nat.le_of_ble_eq_true rfl) (Nat.le_of_ble_eq_true rfl) (c_rd_takeSign  q148) ?_
              exact (r_rv dX6_readStep_158 rfl rfl rfl)
          refine r_ieq dX6_readStep_97 rfl (fun c97_93 => ?_) (fun c97_93 => ?_)
          · refine r_ip (R := rV) c97_93 ?_
            have kk := kk.1 c97_93
            refine r_k dX6_readStep_118 kkX6_128 ?_
            show tR _ _ _ _ [some (.ref (13 : Nat)), some (.ref p0), some (.int p1), some (.int p2), some (.int 0), some (.int 1), none] [.int (-1000000)] _ _ _
            exact (hJ8 (-1000000) (sA T306 (p0 + 12) (p1 : Int32).toNatClampNeg j6_s2) kk)
          · refine r_in (R := rV) c97_93 ?_
            have kk := kk.2 c97_93
            refine r_p (pc2 := 101) dX6_readStep_100 rfl rfl ?_
            refine r_ci (x := 0) dX6_readStep_101 rfl ?_
            refine r_p (pc2 := 103) dX6_readStep_102 rfl rfl ?_
            refine r_ine dX6_readStep_103 rfl (fun c103_94 => ?_) (fun c103_94 => ?_)
            · refine r_in (R := rV) c103_94 ?_
              have kk := kk.2 c103_94
              refine r_cb (x := 9) dX6_readStep_110 rfl ?_
              obtain ⟨q149, kk⟩ := kk
              refine r_cv (d1 := 3) dX6_readStep_112 cvX6_66 rfl rfl rfl rfl (Nat.le_of_ble_eq_true rfl) (Nat.le_of_ble_eq_true rfl) (Nat.le_of_ble_eq_true rfl) (c_rd_takeNumber 0 9 q149) ?_
              refine r_go dX6_readStep_115 rfl ?_
              show tR _ _ _ _ [some (.ref (13 : Nat)), some (.ref p0), some (.int p1), some (.int p2), some (.int 0), some (.int 1), none] [.int ((x_rd_takeNumber (sA T306 (p0 + 12) (p1 : Int32).toNatClampNeg j6_s2) 0 9).1)] _ _ _
              exact (hJ8 ((x_rd_takeNumber (sA T306 (p0 + 12) (p1 : Int32).toNatClampNeg j6_s2) 0 9).1) ((x_rd_takeNumber (sA T306 (p0 + 12) (p1 : Int32).toNatClampNeg j6_s2) 0 9).2) kk)
            · refine r_ip (R := rV) c103_94 ?_
              have kk := kk.1 c103_94
              refine r_ci (x := 1) dX6_readStep_106 rfl ?_
              refine r_go dX6_readStep_107 rfl ?_
              obtain ⟨q150, kk⟩ := kk
              refine r_cv (d1 := 3) dX6_readStep_112 cvX6_66 rfl rfl rfl rfl (Nat.le_of_ble_eq_true rfl) (Nat.le_of_ble_eq_true rfl) (Nat.le_of_ble_eq_true rfl) (c_rd_takeNumber 0 1 q150) ?_
              refine r_go dX6_readStep_115 rfl ?_
              show tR _ _ _ _ [some (.ref (13 : Nat)), some (.ref p0), some (.int p1), some (.int p2), some (.int 0), some (.int 1), none] [.int ((x_rd_takeNumber (sA T306 (p0 + 12) (p1 : Int32).toNatClampNeg j6_s2) 0 1).1)] _ _ _
              exact (hJ8 ((x_rd_takeNumber (sA T306 (p0 + 12) (p1 : Int32).toNatClampNeg j6_s2) 0 1).1) ((x_rd_takeNumber (sA T306 (p0 + 12) (p1 : Int32).toNatClampNeg j6_s2) 0 1).2) kk)
        refine r_ine dX6_readStep_80 rfl (fun c80_95 => ?_) (fun c80_95 => ?_)
        · refine r_in (R := rV) c80_95 ?_
          have kk := kk.2 c80_95
          show tR _ _ _ _ [some (.ref (13 : Nat)), some (.ref p0), some (.int p1), some (.int p2), some (.int 0), none, none] [] _ _ _
          exact (hJ7  kk)
        · refine r_ip (R := rV) c80_95 ?_
          have kk := kk.1 c80_95
          refine r_p (pc2 := 84) dX6_readStep_83 rfl rfl ?_
          refine r_ci (x := 4) dX6_readStep_84 rfl ?_
          refine r_cne dX6_readStep_85 rfl (fun c85_96 => ?_) (fun c85_96 => ?_)
          · refine r_in (R := rV) c85_96 ?_
            have kk := kk.2 c85_96
            refine r_ci (x := 0) dX6_readStep_92 rfl ?_
            refine r_p (pc2 := 95) (L2 := [some (.ref (13 : Nat)), some (.ref p0), some (.int p1), some (.int p2), some (.int 0), some (.int 0), none]) dX6_readStep_93 rfl rfl ?_
            refine r_p (pc2 := 97) dX6_readStep_95 rfl rfl ?_
            refine r_jn (R := rV) (J := fun (KJ9 : Int32 → St → St) (OJ9 : Int32 → St → Prop) => ∀ (j9_s0 : Int32) (T309 : St), OJ9 j9_s0 T309 → tR X 3 mX6_readStep 120 [some (.ref (13 : Nat)), some (.ref p0), some (.int p1), some (.int p2), some (.int 0), some (.int 0), none] [.int j9_s0] T309 (rV (KJ9 j9_s0 T309)).1 (rV (KJ9 j9_s0 T309)).2) kk (fun j9_s0 T309 kk => ?_) (fun KJ9 OJ9 hJ9 kk => ?_)
            · skip
              refine r_p (pc2 := 122) (L2 := [some (.ref (13 : Nat)), some (.ref p0), some (.int p1), some (.int p2), some (.int 0), some (.int 0), some (.int j9_s0)]) dX6_readStep_120 rfl rfl ?_
              refine r_p (pc2 := 123) dX6_readStep_122 rfl rfl ?_
              refine r_get dX6_readStep_123 fkX6_129 q1 rfl ?_
              refine r_p (pc2 := 127) dX6_readStep_126 rfl rfl ?_
              refine r_p (pc2 := 129) dX6_readStep_127 rfl rfl ?_
              refine r_ias dX6_readStep_129 (shl1_13 q1) q2 ?_
              refine r_p (pc2 := 131) dX6_readStep_130 rfl rfl ?_
              refine r_get dX6_readStep_131 fkX6_132 q1 rfl ?_
              refine r_p (pc2 := 135) dX6_readStep_134 rfl rfl ?_
              refine r_p (pc2 := 136) dX6_readStep_135 rfl rfl ?_
              refine r_ci (x := 1) dX6_readStep_136 rfl ?_
              refine r_cne dX6_readStep_137 rfl (fun c137_99 => ?_) (fun c137_99 => ?_)
              · refine r_in (R := rV) c137_99 ?_
                have kk := kk.2 c137_99
                refine r_k dX6_readStep_151 kkX6_128 ?_
                refine r_ias dX6_readStep_153 (shl1_14 q1) q2 ?_
                refine r_nT (R := rV) rfl kk (fun T104 kk => ?_)
                refine r_p (pc2 := 155) dX6_readStep_154 rfl rfl ?_
                obtain ⟨q153, kk⟩ := kk
                refine r_cv (d1 := 3) dX6_readStep_155 cvX6_70 rfl rfl rfl rfl (Nat.le_of_ble_eq_true rfl) (Nat.le_of_ble_eq_true rfl) (Nat.le_of_ble_eq_true rfl) (c_rd_takeSign  q153) ?_
                exact (r_rv dX6_readStep_158 rfl rfl rfl)
              · refine r_ip (R := rV) c137_99 ?_
                have kk := kk.1 c137_99
                refine r_p (pc2 := 141) dX6_readStep_140 rfl rfl ?_
                refine r_p (pc2 := 143) dX6_readStep_141 rfl rfl ?_
                refine r_cb (x := 9) dX6_readStep_143 rfl ?_
                obtain ⟨q154, kk⟩ := kk
                refine r_cv (d1 := 3) dX6_readStep_145 cvX6_66 rfl rfl rfl rfl (Nat.le_of_ble_eq_true rfl) (Nat.le_of_ble_eq_true rfl) (Nat.le_of_ble_eq_true rfl) (c_rd_takeNumber j9_s0 9 q154) ?_
                refine r_go dX6_readStep_148 rfl ?_
                refine r_ias dX6_readStep_153 (shl1_14 q1) q2 ?_
                refine r_nT (R := rV) rfl kk (fun T105 kk => ?_)
                refine r_p (pc2 := 155) dX6_readStep_154 rfl rfl ?_
                obtain ⟨q155, kk⟩ := kk
                refine r_cv (d1 := 3) dX6_readStep_155 cvX6_70 rfl rfl rfl rfl (Nat.le_of_ble_eq_true rfl) (Nat.le_of_ble_eq_true rfl) (Nat.le_of_ble_eq_true rfl) (c_rd_takeSign  q155) ?_
                exact (r_rv dX6_readStep_158 rfl rfl rfl)
            refine r_ieq dX6_readStep_97 rfl (fun c97_100 => ?_) (fun c97_100 => ?_)
            · refine r_ip (R := rV) c97_100 ?_
              have kk := kk.1 c97_100
              refine r_k dX6_readStep_118 kkX6_128 ?_
              show tR _ _ _ _ [some (.ref (13 : Nat)), some (.ref p0), some (.int p1), some (.int p2), some (.int 0), some (.int 0), none] [.int (-1000000)] _ _ _
              exact (hJ9 (-1000000) (sA T306 (p0 + 12) (p1 : Int32).toNatClampNeg j6_s2) kk)
            · refine r_in (R := rV) c97_100 ?_
              have kk := kk.2 c97_100
              refine r_p (pc2 := 101) dX6_readStep_100 rfl rfl ?_
              refine r_ci (x := 0) dX6_readStep_101 rfl ?_
              refine r_p (pc2 := 103) dX6_readStep_102 rfl rfl ?_
              refine r_ine dX6_readStep_103 rfl (fun c103_101 => ?_) (fun c103_101 => ?_)
              · refine r_in (R := rV) c103_101 ?_
                have kk := kk.2 c103_101
                refine r_cb (x := 9) dX6_readStep_110 rfl ?_
                obtain ⟨q156, kk⟩ := kk
                refine r_cv (d1 := 3) dX6_readStep_112 cvX6_66 rfl rfl rfl rfl (Nat.le_of_ble_eq_true rfl) (Nat.le_of_ble_eq_true rfl) (Nat.le_of_ble_eq_true rfl) (c_rd_takeNumber 0 9 q156) ?_
                refine r_go dX6_readStep_115 rfl ?_
                show tR _ _ _ _ [some (.ref (13 : Nat)), some (.ref p0), some (.int p1), some (.int p2), some (.int 0), some (.int 0), none] [.int ((x_rd_takeNumber (sA T306 (p0 + 12) (p1 : Int32).toNatClampNeg j6_s2) 0 9).1)] _ _ _
                exact (hJ9 ((x_rd_takeNumber (sA T306 (p0 + 12) (p1 : Int32).toNatClampNeg j6_s2) 0 9).1) ((x_rd_takeNumber (sA T306 (p0 + 12) (p1 : Int32).toNatClampNeg j6_s2) 0 9).2) kk)
              · refine r_ip (R := rV) c103_101 ?_
                have kk := kk.1 c103_101
                refine r_ci (x := 1) dX6_readStep_106 rfl ?_
                refine r_go dX6_readStep_107 rfl ?_
                obtain ⟨q157, kk⟩ := kk
                refine r_cv (d1 := 3) dX6_readStep_112 cvX6_66 rfl rfl rfl rfl (Nat.le_of_ble_eq_true rfl) (Nat.le_of_ble_eq_true rfl) (Nat.le_of_ble_eq_true rfl) (c_rd_takeNumber 0 1 q157) ?_
                refine r_go dX6_readStep_115 rfl ?_
                show tR _ _ _ _ [some (.ref (13 : Nat)), some (.ref p0), some (.int p1), some (.int p2), some (.int 0), some (.int 0), none] [.int ((x_rd_takeNumber (sA T306 (p0 + 12) (p1 : Int32).toNatClampNeg j6_s2) 0 1).1)] _ _ _
                exact (hJ9 ((x_rd_takeNumber (sA T306 (p0 + 12) (p1 : Int32).toNatClampNeg j6_s2) 0 1).1) ((x_rd_takeNumber (sA T306 (p0 + 12) (p1 : Int32).toNatClampNeg j6_s2) 0 1).2) kk)
          · refine r_ip (R := rV) c85_96 ?_
            have kk := kk.1 c85_96
            show tR _ _ _ _ [some (.ref (13 : Nat)), some (.ref p0), some (.int p1), some (.int p2), some (.int 0), none, none] [] _ _ _
            exact (hJ7  kk)
      refine r_ieq dX6_readStep_55 rfl (fun c55_102 => ?_) (fun c55_102 => ?_)
      · refine r_ip (R := rV) c55_102 ?_
        have kk := kk.1 c55_102
        refine r_p (pc2 := 68) dX6_readStep_67 rfl rfl ?_
        refine r_ci (x := 2) dX6_readStep_68 rfl ?_
        refine r_cne dX6_readStep_69 rfl (fun c69_103 => ?_) (fun c69_103 => ?_)
        · refine r_in (R := rV) c69_103 ?_
          have kk := kk.2 c69_103
          refine r_ci (x := 0) dX6_readStep_76 rfl ?_
          show tR _ _ _ _ [some (.ref (13 : Nat)), some (.ref p0), some (.int p1), some (.int p2), some (.int 0), none, none] [.int 0, .int p1, .ref (p0 + 12)] _ _ _
          exact (hJ6 0 T2 kk)
        · refine r_ip (R := rV) c69_103 ?_
          have kk := kk.1 c69_103
          refine r_ci (x := 2) dX6_readStep_72 rfl ?_
          refine r_go dX6_readStep_73 rfl ?_
          show tR _ _ _ _ [some (.ref (13 : Nat)), some (.ref p0), some (.int p1), some (.int p2), some (.int 0), none, none] [.int 2, .int p1, .ref (p0 + 12)] _ _ _
          exact (hJ6 2 T2 kk)
      · refine r_in (R := rV) c55_102 ?_
        have kk := kk.2 c55_102
        refine r_p (pc2 := 59) dX6_readStep_58 rfl rfl ?_
        refine r_ci (x := 0) dX6_readStep_59 rfl ?_
        refine r_ci (x := 2) dX6_readStep_60 rfl ?_
        obtain ⟨q158, kk⟩ := kk
        refine r_cv (d1 := 3) dX6_readStep_61 cvX6_66 rfl rfl rfl rfl (Nat.le_of_ble_eq_true rfl) (Nat.le_of_ble_eq_true rfl) (Nat.le_of_ble_eq_true rfl) (c_rd_takeNumber 0 2 q158) ?_
        refine r_go dX6_readStep_64 rfl ?_
        show tR _ _ _ _ [some (.ref (13 : Nat)), some (.ref p0), some (.int p1), some (.int p2), some (.int 0), none, none] [.int ((x_rd_takeNumber T2 0 2).1), .int p1, .ref (p0 + 12)] _ _ _
        exact (hJ6 ((x_rd_takeNumber T2 0 2).1) ((x_rd_takeNumber T2 0 2).2) kk)
    · refine r_ip (R := rV) c38_80 ?_
      have kk := kk.1 c38_80
      show tR _ _ _ _ [some (.ref (13 : Nat)), some (.ref p0), some (.int p1), some (.int p2), none, none, none] [] _ _ _
      exact (hJ1  kk)
def x_jd_judged_3 (l1 : Nat) (l2 : Nat) (l3 : Nat) (l4 : Int32) (K : Int32 → St → Int32 × St) : Nat → Int32 → St → Int32 × St
  | 0, _, T => (0, T)
  | f + 1, v5, T => if (T.1 l3 1) ≤ v5 then (K v5 T) else (jn (fun (KJ1 : Int32 × St) => if (T.2.2.1 (l3 + 5) (v5 : Int32).toNatClampNeg) < 0 then (KJ1) else (if (T.2.2.1 (l3 + 5) (v5 : Int32).toNatClampNeg) ≤ (60 - (T.2.2.1 (l3 + 6) (v5 : Int32).toNatClampNeg)) then (x_jd_judged_3 l1 l2 l3 l4 K f (v5 + 1) T) else (KJ1))) ((1 + (10 * v5), T)))
def ok_jd_judged_3 (l1 : Nat) (l2 : Nat) (l3 : Nat) (l4 : Int32) (Kk : Int32 → St → Prop) : Nat → Int32 → St → Prop
  | 0, _, _ => False
  | f + 1, v5, T => (sh l3 = .inr 7) ∧ (((T.1 l3 1) ≤ v5 → Kk v5 T) ∧ (¬ (T.1 l3 1) ≤ v5 → (vp_in v5 12) ∧ (¬ (T.2.2.1 (l3 + 5) (v5 : Int32).toNatClampNeg) < 0 → ((T.2.2.1 (l3 + 5) (v5 : Int32).toNatClampNeg) ≤ (60 - (T.2.2.1 (l3 + 6) (v5 : Int32).toNatClampNeg)) → ok_jd_judged_3 l1 l2 l3 l4 Kk f (v5 + 1) T))))
theorem c_jd_judged_3 {X : Nat × (Nat → Int32)} (l1 : Nat) (l2 : Nat) (l3 : Nat) (l4 : Int32) {K : Int32 → St → Int32 × St} {Kk : Int32 → St → Prop} (hk : ∀ (v5 : Int32) (T : St), Kk v5 T → tR X 4 mX2_judged 56 [some (.ref (527 : Nat)), some (.ref l1), some (.ref l2), some (.ref l3), some (.int l4), some (.int v5), none, none] [] T (rI (K v5 T)).1 ((rI (K v5 T)).2)) : ∀ (f : Nat) (v5 : Int32) (T : St), ok_jd_judged_3 l1 l2 l3 l4 Kk f v5 T → tR X 4 mX2_judged 3 [some (.ref (527 : Nat)), some (.ref l1), some (.ref l2), some (.ref l3), some (.int l4), some (.int v5), none, none] [] T (rI (x_jd_judged_3 l1 l2 l3 l4 K f v5 T)).1 ((rI (x_jd_judged_3 l1 l2 l3 l4 K f v5 T)).2) := by
  intro f
  induction f with
  | zero => intro v5 T kk; exact kk.elim
  | succ f ih =>
    intro v5 T kk
    rw [ok_jd_judged_3] at kk
    rw [x_jd_judged_3]
    refine r_p (pc2 := 5) dX2_judged_3 rfl rfl ?_
    refine r_p (pc2 := 6) dX2_judged_5 rfl rfl ?_
    obtain ⟨q1, kk⟩ := kk
    refine r_get dX2_judged_6 fkX2_36 q1 rfl ?_
    refine r_cge dX2_judged_9 rfl (fun c9_1 => ?_) (fun c9_1 => ?_)
    · refine r_ip (R := rI) c9_1 ?_
      have kk := kk.1 c9_1
      show tR _ _ _ _ [some (.ref (527 : Nat)), some (.ref l1), some (.ref l2), some (.ref l3), some (.int l4), some (.int v5), none, none] _ _ _ _
      exact (hk v5 T kk)
    · refine r_in (R := rI) c9_1 ?_
      have kk := kk.2 c9_1
      refine r_p (pc2 := 13) dX2_judged_12 rfl rfl ?_
      refine r_get dX2_judged_13 fkX2_42 q1 rfl ?_
      refine r_p (pc2 := 18) dX2_judged_16 rfl rfl ?_
      obtain ⟨q2, kk⟩ := kk
      refine r_ia dX2_judged_18 (shl7_5 q1) q2 ?_
      refine r_jn0 (R := rI) (J := fun (KJ1 : Int32 × St) => tR X 4 mX2_judged 42 [some (.ref (527 : Nat)), some (.ref l1), some (.ref l2), some (.ref l3), some (.int l4), some (.int v5), none, none] [] T (rI KJ1).1 (rI KJ1).2) (?_) (fun KJ1 hJ1 => ?_)
      · skip
        refine r_ci (x := 1) dX2_judged_42 rfl ?_
        refine r_cb (x := 10) dX2_judged_43 rfl ?_
        refine r_p (pc2 := 47) dX2_judged_45 rfl rfl ?_
        refine r_p (pc2 := 48) dX2_judged_47 rfl rfl ?_
        refine r_p (pc2 := 49) dX2_judged_48 rfl rfl ?_
        exact (r_ri dX2_judged_49 rfl rfl rfl rfl)
      refine r_ilt dX2_judged_19 rfl (fun c19_4 => ?_) (fun c19_4 => ?_)
      · refine r_ip (R := rI) c19_4 ?_
        show tR _ _ _ _ [some (.ref (527 : Nat)), some (.ref l1), some (.ref l2), some (.ref l3), some (.int l4), some (.int v5), none, none] [] _ _ _
        exact (hJ1 )
      · refine r_in (R := rI) c19_4 ?_
        have kk := kk c19_4
        refine r_p (pc2 := 23) dX2_judged_22 rfl rfl ?_
        refine r_get dX2_judged_23 fkX2_42 q1 rfl ?_
        refine r_p (pc2 := 28) dX2_judged_26 rfl rfl ?_
        refine r_ia dX2_judged_28 (shl7_5 q1) q2 ?_
        refine r_cb (x := 60) dX2_judged_29 rfl ?_
        refine r_p (pc2 := 32) dX2_judged_31 rfl rfl ?_
        refine r_get dX2_judged_32 fkX2_46 q1 rfl ?_
        refine r_p (pc2 := 37) dX2_judged_35 rfl rfl ?_
        refine r_ia dX2_judged_37 (shl7_6 q1) q2 ?_
        refine r_p (pc2 := 39) dX2_judged_38 rfl rfl ?_
        refine r_cle dX2_judged_39 rfl (fun c39_5 => ?_) (fun c39_5 => ?_)
        · refine r_ip (R := rI) c39_5 ?_
          have kk := kk c39_5
          refine r_inc (L2 := [some (.ref (527 : Nat)), some (.ref l1), some (.ref l2), some (.ref l3), some (.int l4), some (.int (v5 + 1)), none, none]) (y := 1) dX2_judged_50 rfl rfl rfl ?_
          refine r_go dX2_judged_53 rfl ?_
          show tR _ _ _ _ [some (.ref (527 : Nat)), some (.ref l1), some (.ref l2), some (.ref l3), some (.int l4), some (.int (v5 + 1)), none, none] _ _ _ _
          exact (ih (v5 + 1) T kk)
        · refine r_in (R := rI) c39_5 ?_
          show tR _ _ _ _ [some (.ref (527 : Nat)), some (.ref l1), some (.ref l2), some (.ref l3), some (.int l4), some (.int v5), none, none] [] _ _ _
          exact (hJ1 )
def x_jd_judged_59 (l1 : Nat) (l2 : Nat) (l3 : Nat) (l4 : Int32) (K : Int32 → St → Int32 × St) : Nat → Int32 → St → Int32 × St
  | 0, _, T => (0, T)
  | f + 1, v5, T => if (T.1 l3 1) ≤ v5 then (K v5 T) else (if (x_ro_isFirst T l3 v5) = 0 then (if (x_jd_followsInTime T l1 l3 v5) = 0 then (2 + (10 * v5), T) else (x_jd_judged_59 l1 l2 l3 l4 K f (v5 + 1) T)) else (x_jd_judged_59 l1 l2 l3 l4 K f (v5 + 1) T))
def ok_jd_judged_59 (l1 : Nat) (l2 : Nat) (l3 : Nat) (l4 : Int32) (Kk : Int32 → St → Prop) : Nat → Int32 → St → Prop
  | 0, _, _ => False
  | f + 1, v5, T => (sh l3 = .inr 7) ∧ (((T.1 l3 1) ≤ v5 → Kk v5 T) ∧ (¬ (T.1 l3 1) ≤ v5 → (ok_ro_isFirst T l3 v5) ∧ (((x_ro_isFirst T l3 v5) = 0 → (ok_jd_followsInTime T l1 l3 v5) ∧ (¬ (x_jd_followsInTime T l1 l3 v5) = 0 → ok_jd_judged_59 l1 l2 l3 l4 Kk f (v5 + 1) T)) ∧ (¬ (x_ro_isFirst T l3 v5) = 0 → ok_jd_judged_59 l1 l2 l3 l4 Kk f (v5 + 1) T))))
theorem c_jd_judged_59 {X : Nat × (Nat → Int32)} (l1 : Nat) (l2 : Nat) (l3 : Nat) (l4 : Int32) {K : Int32 → St → Int32 × St} {Kk : Int32 → St → Prop} (hk : ∀ (v5 : Int32) (T : St), Kk v5 T → tR X 4 mX2_judged 102 [some (.ref (527 : Nat)), some (.ref l1), some (.ref l2), some (.ref l3), some (.int l4), some (.int v5), none, none] [] T (rI (K v5 T)).1 ((rI (K v5 T)).2)) : ∀ (f : Nat) (v5 : Int32) (T : St), ok_jd_judged_59 l1 l2 l3 l4 Kk f v5 T → tR X 4 mX2_judged 59 [some (.ref (527 : Nat)), some (.ref l1), some (.ref l2), some (.ref l3), some (.int l4), some (.int v5), none, none] [] T (rI (x_jd_judged_59 l1 l2 l3 l4 K f v5 T)).1 ((rI (x_jd_judged_59 l1 l2 l3 l4 K f v5 T)).2) := by
  intro f
  induction f with
  | zero => intro v5 T kk; exact kk.elim
  | succ f ih =>
    intro v5 T kk
    rw [ok_jd_judged_59] at kk
    rw [x_jd_judged_59]
    refine r_p (pc2 := 61) dX2_judged_59 rfl rfl ?_
    refine r_p (pc2 := 62) dX2_judged_61 rfl rfl ?_
    obtain ⟨q3, kk⟩ := kk
    refine r_get dX2_judged_62 fkX2_36 q3 rfl ?_
    refine r_cge dX2_judged_65 rfl (fun c65_6 => ?_) (fun c65_6 => ?_)
    · refine r_ip (R := rI) c65_6 ?_
      have kk := kk.1 c65_6
      show tR _ _ _ _ [some (.ref (527 : Nat)), some (.ref l1), some (.ref l2), some (.ref l3), some (.int l4), some (.int v5), none, none] _ _ _ _
      exact (hk v5 T kk)
    · refine r_in (R := rI) c65_6 ?_
      have kk := kk.2 c65_6
      refine r_p (pc2 := 69) dX2_judged_68 rfl rfl ?_
      refine r_p (pc2 := 71) dX2_judged_69 rfl rfl ?_
      obtain ⟨q4, kk⟩ := kk
      refine r_cv (d1 := 1) dX2_judged_71 cvX2_49 rfl rfl q3 rfl (Nat.le_of_ble_eq_true rfl) (Nat.le_of_ble_eq_true rfl) (Nat.le_of_ble_eq_true rfl) (c_ro_isFirst l3 v5 q4) ?_
      refine r_ine dX2_judged_74 rfl (fun c74_7 => ?_) (fun c74_7 => ?_)
      · refine r_in (R := rI) c74_7 ?_
        have kk := kk.2 c74_7
        refine r_inc (L2 := [some (.ref (527 : Nat)), some (.ref l1), some (.ref l2), some (.ref l3), some (.int l4), some (.int (v5 + 1)), none, none]) (y := 1) dX2_judged_96 rfl rfl rfl ?_
        refine r_go dX2_judged_99 rfl ?_
        show tR _ _ _ _ [some (.ref (527 : Nat)), some (.ref l1), some (.ref l2), some (.ref l3), some (.int l4), some (.int (v5 + 1)), none, none] _ _ _ _
        exact (ih (v5 + 1) T kk)
      · refine r_ip (R := rI) c74_7 ?_
        have kk := kk.1 c74_7
        refine r_p (pc2 := 78) dX2_judged_77 rfl rfl ?_
        refine r_p (pc2 := 79) dX2_judged_78 rfl rfl ?_
        refine r_p (pc2 := 80) dX2_judged_79 rfl rfl ?_
        refine r_p (pc2 := 82) dX2_judged_80 rfl rfl ?_
        obtain ⟨q5, kk⟩ := kk
        refine r_cv (d1 := 1) dX2_judged_82 cvX2_53 rfl rfl rfl rfl (Nat.le_of_ble_eq_true rfl) (Nat.le_of_ble_eq_true rfl) (Nat.le_of_ble_eq_true rfl) (c_jd_followsInTime l1 l3 v5 q5) ?_
        refine r_ine dX2_judged_85 rfl (fun c85_8 => ?_) (fun c85_8 => ?_)
        · refine r_in (R := rI) c85_8 ?_
          have kk := kk c85_8
          refine r_inc (L2 := [some (.ref (527 : Nat)), some (.ref l1), some (.ref l2), some (.ref l3), some (.int l4), some (.int (v5 + 1)), none, none]) (y := 1) dX2_judged_96 rfl rfl rfl ?_
          refine r_go dX2_judged_99 rfl ?_
          show tR _ _ _ _ [some (.ref (527 : Nat)), some (.ref l1), some (.ref l2), some (.ref l3), some (.int l4), some (.int (v5 + 1)), none, none] _ _ _ _
          exact (ih (v5 + 1) T kk)
        · refine r_ip (R := rI) c85_8 ?_
          refine r_ci (x := 2) dX2_judged_88 rfl ?_
          refine r_cb (x := 10) dX2_judged_89 rfl ?_
          refine r_p (pc2 := 93) dX2_judged_91 rfl rfl ?_
          refine r_p (pc2 := 94) dX2_judged_93 rfl rfl ?_
          refine r_p (pc2 := 95) dX2_judged_94 rfl rfl ?_
          exact (r_ri dX2_judged_95 rfl rfl rfl rfl)
def x_jd_judged_105 (l1 : Nat) (l2 : Nat) (l3 : Nat) (l4 : Int32) (K : Int32 → St → Int32 × St) : Nat → Int32 → St → Int32 × St
  | 0, _, T => (0, T)
  | f + 1, v5, T => if (T.1 l3 1) ≤ v5 then (K v5 T) else (jn (fun (i1 : Int32) => jn (fun (KJ2 : Int32 × St) => if i1 < 0 then (KJ2) else (if (T.2.2.1 (l1 + 4) (T.2.2.1 (l3 + 1) (T.2.2.1 (l3 + 4) (v5 : Int32).toNatClampNeg : Int32).toNatClampNeg : Int32).toNatClampNeg) < i1 then (KJ2) else (if (x_ro_isLast T l3 v5) = 0 then (x_jd_judged_105 l1 l2 l3 l4 K f (v5 + 1) T) else (if 1 = 0 then (3 + (10 * v5), T) else (x_jd_judged_105 l1 l2 l3 l4 K f (v5 + 1) T))))) (if (x_ro_isLast T l3 v5) = 0 then (x_jd_judged_105 l1 l2 l3 l4 K f (v5 + 1) T) else (if 0 = 0 then (3 + (10 * v5), T) else (x_jd_judged_105 l1 l2 l3 l4 K f (v5 + 1) T)))) ((l4 - (T.2.2.1 (l3 + 5) (v5 : Int32).toNatClampNeg)) - (T.2.2.1 (l3 + 6) (v5 : Int32).toNatClampNeg)))
def ok_jd_judged_105 (l1 : Nat) (l2 : Nat) (l3 : Nat) (l4 : Int32) (Kk : Int32 → St → Prop) : Nat → Int32 → St → Prop
  | 0, _, _ => False
  | f + 1, v5, T => (sh l3 = .inr 7) ∧ (((T.1 l3 1) ≤ v5 → Kk v5 T) ∧ (¬ (T.1 l3 1) ≤ v5 → (vp_in v5 12) ∧ jn (fun (i1 : Int32) => jn (fun (OJ2 : Prop) => ((i1 < 0 → OJ2) ∧ (¬ i1 < 0 → (sh l1 = .inr 1) ∧ (vp_in (T.2.2.1 (l3 + 4) (v5 : Int32).toNatClampNeg) 4) ∧ (vp_in (T.2.2.1 (l3 + 1) (T.2.2.1 (l3 + 4) (v5 : Int32).toNatClampNeg : Int32).toNatClampNeg) 8) ∧ (((T.2.2.1 (l1 + 4) (T.2.2.1 (l3 + 1) (T.2.2.1 (l3 + 4) (v5 : Int32).toNatClampNeg : Int32).toNatClampNeg : Int32).toNatClampNeg) < i1 → OJ2) ∧ (¬ (T.2.2.1 (l1 + 4) (T.2.2.1 (l3 + 1) (T.2.2.1 (l3 + 4) (v5 : Int32).toNatClampNeg : Int32).toNatClampNeg : Int32).toNatClampNeg) < i1 → (ok_ro_isLast T l3 v5) ∧ (((x_ro_isLast T l3 v5) = 0 → ok_jd_judged_105 l1 l2 l3 l4 Kk f (v5 + 1) T) ∧ (¬ (x_ro_isLast T l3 v5) = 0 → (¬ 1 = 0 → ok_jd_judged_105 l1 l2 l3 l4 Kk f (v5 + 1) T)))))))) ((ok_ro_isLast T l3 v5) ∧ (((x_ro_isLast T l3 v5) = 0 → ok_jd_judged_105 l1 l2 l3 l4 Kk f (v5 + 1) T) ∧ (¬ (x_ro_isLast T l3 v5) = 0 → (¬ 0 = 0 → ok_jd_judged_105 l1 l2 l3 l4 Kk f (v5 + 1) T))))) ((l4 - (T.2.2.1 (l3 + 5) (v5 : Int32).toNatClampNeg)) - (T.2.2.1 (l3 + 6) (v5 : Int32).toNatClampNeg))))
theorem c_jd_judged_105 {X : Nat × (Nat → Int32)} (l1 : Nat) (l2 : Nat) (l3 : Nat) (l4 : Int32) {K : Int32 → St → Int32 × St} {Kk : Int32 → St → Prop} (hk : ∀ (v5 : Int32) (T : St), Kk v5 T → tR X 4 mX2_judged 196 [some (.ref (527 : Nat)), some (.ref l1), some (.ref l2), some (.ref l3), some (.int l4), some (.int v5), none, none] [] T (rI (K v5 T)).1 ((rI (K v5 T)).2)) : ∀ (f : Nat) (v5 : Int32) (T : St), ok_jd_judged_105 l1 l2 l3 l4 Kk f v5 T → tR X 4 mX2_judged 105 [some (.ref (527 : Nat)), some (.ref l1), some (.ref l2), some (.ref l3), some (.int l4), some (.int v5), none, none] [] T (rI (x_jd_judged_105 l1 l2 l3 l4 K f v5 T)).1 ((rI (x_jd_judged_105 l1 l2 l3 l4 K f v5 T)).2) := by
  intro f
  induction f with
  | zero => intro v5 T kk; exact kk.elim
  | succ f ih =>
    intro v5 T kk
    rw [ok_jd_judged_105] at kk
    rw [x_jd_judged_105]
    refine r_p (pc2 := 107) dX2_judged_105 rfl rfl ?_
    refine r_p (pc2 := 108) dX2_judged_107 rfl rfl ?_
    obtain ⟨q6, kk⟩ := kk
    refine r_get dX2_judged_108 fkX2_36 q6 rfl ?_
    refine r_cge dX2_judged_111 rfl (fun c111_9 => ?_) (fun c111_9 => ?_)
    · refine r_ip (R := rI) c111_9 ?_
      have kk := kk.1 c111_9
      show tR _ _ _ _ [some (.ref (527 : Nat)), some (.ref l1), some (.ref l2), some (.ref l3), some (.int l4), some (.int v5), none, none] _ _ _ _
      exact (hk v5 T kk)
    · refine r_in (R := rI) c111_9 ?_
      have kk := kk.2 c111_9
      refine r_p (pc2 := 116) dX2_judged_114 rfl rfl ?_
      refine r_p (pc2 := 117) dX2_judged_116 rfl rfl ?_
      refine r_get dX2_judged_117 fkX2_42 q6 rfl ?_
      refine r_p (pc2 := 122) dX2_judged_120 rfl rfl ?_
      obtain ⟨q7, kk⟩ := kk
      refine r_ia dX2_judged_122 (shl7_5 q6) q7 ?_
      refine r_p (pc2 := 124) dX2_judged_123 rfl rfl ?_
      refine r_p (pc2 := 125) dX2_judged_124 rfl rfl ?_
      refine r_get dX2_judged_125 fkX2_46 q6 rfl ?_
      refine r_p (pc2 := 130) dX2_judged_128 rfl rfl ?_
      refine r_ia dX2_judged_130 (shl7_6 q6) q7 ?_
      refine r_p (pc2 := 132) dX2_judged_131 rfl rfl ?_
      refine r_nI (R := rI) rfl kk (fun i1 kk => ?_)
      refine r_p (pc2 := 134) (L2 := [some (.ref (527 : Nat)), some (.ref l1), some (.ref l2), some (.ref l3), some (.int l4), some (.int v5), some (.int i1), none]) dX2_judged_132 rfl rfl ?_
      refine r_p (pc2 := 136) dX2_judged_134 rfl rfl ?_
      refine r_jn (R := rI) (J := fun (KJ2 : Int32 × St) (OJ2 : Prop) => OJ2 → tR X 4 mX2_judged 165 [some (.ref (527 : Nat)), some (.ref l1), some (.ref l2), some (.ref l3), some (.int l4), some (.int v5), some (.int i1), none] [] T (rI KJ2).1 (rI KJ2).2) kk (fun  kk => ?_) (fun KJ2 OJ2 hJ2 kk => ?_)
      · skip
        refine r_ci (x := 0) dX2_judged_165 rfl ?_
        refine r_p (pc2 := 168) (L2 := [some (.ref (527 : Nat)), some (.ref l1), some (.ref l2), some (.ref l3), some (.int l4), some (.int v5), some (.int i1), some (.int 0)]) dX2_judged_166 rfl rfl ?_
        refine r_p (pc2 := 169) dX2_judged_168 rfl rfl ?_
        refine r_p (pc2 := 171) dX2_judged_169 rfl rfl ?_
        obtain ⟨q12, kk⟩ := kk
        refine r_cv (d1 := 1) dX2_judged_171 cvX2_68 rfl rfl q6 rfl (Nat.le_of_ble_eq_true rfl) (Nat.le_of_ble_eq_true rfl) (Nat.le_of_ble_eq_true rfl) (c_ro_isLast l3 v5 q12) ?_
        refine r_ieq dX2_judged_174 rfl (fun c174_14 => ?_) (fun c174_14 => ?_)
        · refine r_ip (R := rI) c174_14 ?_
          have kk := kk.1 c174_14
          refine r_inc (L2 := [some (.ref (527 : Nat)), some (.ref l1), some (.ref l2), some (.ref l3), some (.int l4), some (.int (v5 + 1)), some (.int i1), some (.int 0)]) (y := 1) dX2_judged_190 rfl rfl rfl ?_
          refine r_go dX2_judged_193 rfl ?_
          show tR _ _ _ _ [some (.ref (527 : Nat)), some (.ref l1), some (.ref l2), some (.ref l3), some (.int l4), some (.int (v5 + 1)), some (.int i1), some (.int 0)] _ _ _ _
          exact r_le (le_s (le_s (le_s (le_s (le_s (le_s (le_n (le_n (le_0))))))))) (ih (v5 + 1) T kk)
        · refine r_in (R := rI) c174_14 ?_
          have kk := kk.2 c174_14
          refine r_p (pc2 := 179) dX2_judged_177 rfl rfl ?_
          refine r_ine dX2_judged_179 rfl (fun c179_15 => ?_) (fun c179_15 => ?_)
          · refine r_in (R := rI) c179_15 ?_
            have kk := kk c179_15
            refine r_inc (L2 := [some (.ref (527 : Nat)), some (.ref l1), some (.ref l2), some (.ref l3), some (.int l4), some (.int (v5 + 1)), some (.int i1), some (.int 0)]) (y := 1) dX2_judged_190 rfl rfl rfl ?_
            refine r_go dX2_judged_193 rfl ?_
            show tR _ _ _ _ [some (.ref (527 : Nat)), some (.ref l1), some (.ref l2), some (.ref l3), some (.int l4), some (.int (v5 + 1)), some (.int i1), some (.int 0)] _ _ _ _
            exact r_le (le_s (le_s (le_s (le_s (le_s (le_s (le_n (le_n (le_0))))))))) (ih (v5 + 1) T kk)
          · refine r_ip (R := rI) c179_15 ?_
            refine r_ci (x := 3) dX2_judged_182 rfl ?_
            refine r_cb (x := 10) dX2_judged_183 rfl ?_
            refine r_p (pc2 := 187) dX2_judged_185 rfl rfl ?_
            refine r_p (pc2 := 188) dX2_judged_187 rfl rfl ?_
            refine r_p (pc2 := 189) dX2_judged_188 rfl rfl ?_
            exact (r_ri dX2_judged_189 rfl rfl rfl rfl)
      refine r_ilt dX2_judged_136 rfl (fun c136_16 => ?_) (fun c136_16 => ?_)
      · refine r_ip (R := rI) c136_16 ?_
        have kk := kk.1 c136_16
        show tR _ _ _ _ [some (.ref (527 : Nat)), some (.ref l1), some (.ref l2), some (.ref l3), some (.int l4), some (.int v5), some (.int i1), none] [] _ _ _
        exact (hJ2  kk)
      · refine r_in (R := rI) c136_16 ?_
        have kk := kk.2 c136_16
        refine r_p (pc2 := 141) dX2_judged_139 rfl rfl ?_
        refine r_p (pc2 := 142) dX2_judged_141 rfl rfl ?_
        obtain ⟨q13, kk⟩ := kk
        refine r_get dX2_judged_142 fkX2_57 q13 rfl ?_
        refine r_p (pc2 := 146) dX2_judged_145 rfl rfl ?_
        refine r_get dX2_judged_146 fkX2_62 q6 rfl ?_
        refine r_p (pc2 := 150) dX2_judged_149 rfl rfl ?_
        refine r_get dX2_judged_150 fkX2_65 q6 rfl ?_
        refine r_p (pc2 := 155) dX2_judged_153 rfl rfl ?_
        refine r_ia dX2_judged_155 (shl7_4 q6) q7 ?_
        obtain ⟨q14, kk⟩ := kk
        refine r_ia dX2_judged_156 (shl7_1 q6) q14 ?_
        obtain ⟨q15, kk⟩ := kk
        refine r_ia dX2_judged_157 (shl1_4 q13) q15 ?_
        refine r_cgt dX2_judged_158 rfl (fun c158_17 => ?_) (fun c158_17 => ?_)
        · refine r_ip (R := rI) c158_17 ?_
          have kk := kk.1 c158_17
          show tR _ _ _ _ [some (.ref (527 : Nat)), some (.ref l1), some (.ref l2), some (.ref l3), some (.int l4), some (.int v5), some (.int i1), none] [] _ _ _
          exact (hJ2  kk)
        · refine r_in (R := rI) c158_17 ?_
          have kk := kk.2 c158_17
          refine r_ci (x := 1) dX2_judged_161 rfl ?_
          refine r_go dX2_judged_162 rfl ?_
          refine r_p (pc2 := 168) (L2 := [some (.ref (527 : Nat)), some (.ref l1), some (.ref l2), some (.ref l3), some (.int l4), some (.int v5), some (.int i1), some (.int 1)]) dX2_judged_166 rfl rfl ?_
          refine r_p (pc2 := 169) dX2_judged_168 rfl rfl ?_
          refine r_p (pc2 := 171) dX2_judged_169 rfl rfl ?_
          obtain ⟨q16, kk⟩ := kk
          refine r_cv (d1 := 1) dX2_judged_171 cvX2_68 rfl rfl q6 rfl (Nat.le_of_ble_eq_true rfl) (Nat.le_of_ble_eq_true rfl) (Nat.le_of_ble_eq_true rfl) (c_ro_isLast l3 v5 q16) ?_
          refine r_ieq dX2_judged_174 rfl (fun c174_18 => ?_) (fun c174_18 => ?_)
          · refine r_ip (R := rI) c174_18 ?_
            have kk := kk.1 c174_18
            refine r_inc (L2 := [some (.ref (527 : Nat)), some (.ref l1), some (.ref l2), some (.ref l3), some (.int l4), some (.int (v5 + 1)), some (.int i1), some (.int 1)]) (y := 1) dX2_judged_190 rfl rfl rfl ?_
            refine r_go dX2_judged_193 rfl ?_
            show tR _ _ _ _ [some (.ref (527 : Nat)), some (.ref l1), some (.ref l2), some (.ref l3), some (.int l4), some (.int (v5 + 1)), some (.int i1), some (.int 1)] _ _ _ _
            exact r_le (le_s (le_s (le_s (le_s (le_s (le_s (le_n (le_n (le_0))))))))) (ih (v5 + 1) T kk)
          · refine r_in (R := rI) c174_18 ?_
            have kk := kk.2 c174_18
            refine r_p (pc2 := 179) dX2_judged_177 rfl rfl ?_
            refine r_ine dX2_judged_179 rfl (fun c179_19 => ?_) (fun c179_19 => ?_)
            · refine r_in (R := rI) c179_19 ?_
              have kk := kk c179_19
              refine r_inc (L2 := [some (.ref (527 : Nat)), some (.ref l1), some (.ref l2), some (.ref l3), some (.int l4), some (.int (v5 + 1)), some (.int i1), some (.int 1)]) (y := 1) dX2_judged_190 rfl rfl rfl ?_
              refine r_go dX2_judged_193 rfl ?_
              show tR _ _ _ _ [some (.ref (527 : Nat)), some (.ref l1), some (.ref l2), some (.ref l3), some (.int l4), some (.int (v5 + 1)), some (.int i1), some (.int 1)] _ _ _ _
              exact r_le (le_s (le_s (le_s (le_s (le_s (le_s (le_n (le_n (le_0))))))))) (ih (v5 + 1) T kk)
            · refine r_ip (R := rI) c179_19 ?_
              refine r_ci (x := 3) dX2_judged_182 rfl ?_
              refine r_cb (x := 10) dX2_judged_183 rfl ?_
              refine r_p (pc2 := 187) dX2_judged_185 rfl rfl ?_
              refine r_p (pc2 := 188) dX2_judged_187 rfl rfl ?_
              refine r_p (pc2 := 189) dX2_judged_188 rfl rfl ?_
              exact (r_ri dX2_judged_189 rfl rfl rfl rfl)
def x_jd_judged (T : St) (p0 : Nat) (p1 : Nat) (p2 : Nat) (p3 : Int32) : Int32 × St := x_jd_judged_3 p0 p1 p2 p3 (fun (w1_5 : Int32) (T201 : St) => x_jd_judged_59 p0 p1 p2 p3 (fun (w2_5 : Int32) (T202 : St) => x_jd_judged_105 p0 p1 p2 p3 (fun (w3_5 : Int32) (T203 : St) => ((x_jd_firstLack T203 p0 p1 p2).1, (x_jd_firstLack T203 p0 p1 p2).2)) 1000 0 T202) 1000 0 T201) 1000 0 T
def ok_jd_judged (T : St) (p0 : Nat) (p1 : Nat) (p2 : Nat) (p3 : Int32) : Prop := ok_jd_judged_3 p0 p1 p2 p3 (fun (w1_5 : Int32) (T201 : St) => ok_jd_judged_59 p0 p1 p2 p3 (fun (w2_5 : Int32) (T202 : St) => ok_jd_judged_105 p0 p1 p2 p3 (fun (w3_5 : Int32) (T203 : St) => (ok_jd_firstLack T203 p0 p1 p2) ∧ True) 1000 0 T202) 1000 0 T201) 1000 0 T
theorem c_jd_judged {X : Nat × (Nat → Int32)} {T : St} (p0 : Nat) (p1 : Nat) (p2 : Nat) (p3 : Int32) (kk : ok_jd_judged T p0 p1 p2 p3) : tC X 5 mX2_judged [.ref (527 : Nat), .ref p0, .ref p1, .ref p2, .int p3] T (some (.int (x_jd_judged T p0 p1 p2 p3).1)) ((x_jd_judged T p0 p1 p2 p3).2) := by
  unfold ok_jd_judged at kk
  refine tC_orI (L := [some (.ref (527 : Nat)), some (.ref p0), some (.ref p1), some (.ref p2), some (.int p3), none, none, none]) (x_jd_judged T p0 p1 p2 p3) rfl ?_
  unfold x_jd_judged
  refine r_ci (x := 0) dX2_judged_0 rfl ?_
  refine r_p (pc2 := 3) (L2 := [some (.ref (527 : Nat)), some (.ref p0), some (.ref p1), some (.ref p2), some (.int p3), some (.int 0), none, none]) dX2_judged_1 rfl rfl ?_
  show tR _ _ _ _ [some (.ref (527 : Nat)), some (.ref p0), some (.ref p1), some (.ref p2), some (.int p3), some (.int 0), none, none] _ _ _ _
  refine (c_jd_judged_3 p0 p1 p2 p3 (fun w1_5 T201 kk => ?_) 1000 0 T kk)
  · skip
    refine r_ci (x := 0) dX2_judged_56 rfl ?_
    refine r_p (pc2 := 59) (L2 := [some (.ref (527 : Nat)), some (.ref p0), some (.ref p1), some (.ref p2), some (.int p3), some (.int 0), none, none]) dX2_judged_57 rfl rfl ?_
    show tR _ _ _ _ [some (.ref (527 : Nat)), some (.ref p0), some (.ref p1), some (.ref p2), some (.int p3), some (.int 0), none, none] _ _ _ _
    refine (c_jd_judged_59 p0 p1 p2 p3 (fun w2_5 T202 kk => ?_) 1000 0 T201 kk)
    · skip
      refine r_ci (x := 0) dX2_judged_102 rfl ?_
      refine r_p (pc2 := 105) (L2 := [some (.ref (527 : Nat)), some (.ref p0), some (.ref p1), some (.ref p2), some (.int p3), some (.int 0), none, none]) dX2_judged_103 rfl rfl ?_
      show tR _ _ _ _ [some (.ref (527 : Nat)), some (.ref p0), some (.ref p1), some (.ref p2), some (.int p3), some (.int 0), none, none] _ _ _ _
      refine (c_jd_judged_105 p0 p1 p2 p3 (fun w3_5 T203 kk => ?_) 1000 0 T202 kk)
      · skip
        refine r_p (pc2 := 197) dX2_judged_196 rfl rfl ?_
        refine r_p (pc2 := 198) dX2_judged_197 rfl rfl ?_
        refine r_p (pc2 := 199) dX2_judged_198 rfl rfl ?_
        refine r_p (pc2 := 200) dX2_judged_199 rfl rfl ?_
        obtain ⟨q17, kk⟩ := kk
        refine r_cv (d1 := 4) dX2_judged_200 cvX2_71 rfl rfl rfl rfl (Nat.le_of_ble_eq_true rfl) (Nat.le_of_ble_eq_true rfl) (Nat.le_of_ble_eq_true rfl) (c_jd_firstLack p0 p1 p2 q17) ?_
        exact (r_ri dX2_judged_203 rfl rfl rfl rfl)
