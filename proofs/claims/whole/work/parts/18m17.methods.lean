def x_rd_readKitchen_8 (l1 : Nat) (K : Int32 → St → St) : Nat → Int32 → St → St
  | 0, _, T => T
  | f + 1, v2, T => if 7 ≤ v2 then (K v2 T) else (jn (fun (T1 : St) => jn (fun (T2 : St) => x_rd_readKitchen_8 l1 K f (v2 + 1) T2) (sA T1 (l1 + 1) (v2 : Int32).toNatClampNeg ((x_rd_takeNumber T (([0, 0, 0, 0, 0, 1, 0] : List Int32).getD (v2 : Int32).toNatClampNeg 0) (([3, 3, 3, 9, 9, 3, 9] : List Int32).getD (v2 : Int32).toNatClampNeg 0)).1))) ((x_rd_takeNumber T (([0, 0, 0, 0, 0, 1, 0] : List Int32).getD (v2 : Int32).toNatClampNeg 0) (([3, 3, 3, 9, 9, 3, 9] : List Int32).getD (v2 : Int32).toNatClampNeg 0)).2))
def ok_rd_readKitchen_8 (l1 : Nat) (Kk : Int32 → St → Prop) : Nat → Int32 → St → Prop
  | 0, _, _ => False
  | f + 1, v2, T => ((7 ≤ v2 → Kk v2 T) ∧ (¬ 7 ≤ v2 → (sh l1 = .inr 1) ∧ (vp_in v2 7) ∧ (ok_rd_takeNumber T (([0, 0, 0, 0, 0, 1, 0] : List Int32).getD (v2 : Int32).toNatClampNeg 0) (([3, 3, 3, 9, 9, 3, 9] : List Int32).getD (v2 : Int32).toNatClampNeg 0)) ∧ jn (fun (T1 : St) => jn (fun (T2 : St) => ok_rd_readKitchen_8 l1 Kk f (v2 + 1) T2) (sA T1 (l1 + 1) (v2 : Int32).toNatClampNeg ((x_rd_takeNumber T (([0, 0, 0, 0, 0, 1, 0] : List Int32).getD (v2 : Int32).toNatClampNeg 0) (([3, 3, 3, 9, 9, 3, 9] : List Int32).getD (v2 : Int32).toNatClampNeg 0)).1))) ((x_rd_takeNumber T (([0, 0, 0, 0, 0, 1, 0] : List Int32).getD (v2 : Int32).toNatClampNeg 0) (([3, 3, 3, 9, 9, 3, 9] : List Int32).getD (v2 : Int32).toNatClampNeg 0)).2)))
theorem c_rd_readKitchen_8 {X : Nat × (Nat → Int32)} (l1 : Nat) {K : Int32 → St → St} {Kk : Int32 → St → Prop} (hk : ∀ (v2 : Int32) (T : St), Kk v2 T → tR X 6 mX6_readKitchen 42 [some (.ref (13 : Nat)), some (.ref l1), some (.int v2)] [] T (rV (K v2 T)).1 ((rV (K v2 T)).2)) : ∀ (f : Nat) (v2 : Int32) (T : St), ok_rd_readKitchen_8 l1 Kk f v2 T → tR X 6 mX6_readKitchen 8 [some (.ref (13 : Nat)), some (.ref l1), some (.int v2)] [] T (rV (x_rd_readKitchen_8 l1 K f v2 T)).1 ((rV (x_rd_readKitchen_8 l1 K f v2 T)).2) := by
  intro f
  induction f with
  | zero => intro v2 T kk; exact kk.elim
  | succ f ih =>
    intro v2 T kk
    rw [ok_rd_readKitchen_8] at kk
    rw [x_rd_readKitchen_8]
    refine r_p (pc2 := 9) dX6_readKitchen_8 rfl rfl ?_
    refine r_gs 2 rfl dX6_readKitchen_9 gsX6_58 ?_
    refine r_tl (j := 2) rfl dX6_readKitchen_12 ?_
    refine r_cge dX6_readKitchen_13 rfl (fun c13_1 => ?_) (fun c13_1 => ?_)
    · refine r_ip (R := rV) c13_1 ?_
      have kk := kk.1 c13_1
      show tR _ _ _ _ [some (.ref (13 : Nat)), some (.ref l1), some (.int v2)] _ _ _ _
      exact (hk v2 T kk)
    · refine r_in (R := rV) c13_1 ?_
      have kk := kk.2 c13_1
      refine r_p (pc2 := 17) dX6_readKitchen_16 rfl rfl ?_
      obtain ⟨q2, kk⟩ := kk
      refine r_get dX6_readKitchen_17 fkX6_61 q2 rfl ?_
      refine r_p (pc2 := 21) dX6_readKitchen_20 rfl rfl ?_
      refine r_p (pc2 := 22) dX6_readKitchen_21 rfl rfl ?_
      refine r_gs 1 rfl dX6_readKitchen_22 gsX6_63 ?_
      refine r_p (pc2 := 26) dX6_readKitchen_25 rfl rfl ?_
      obtain ⟨q3, kk⟩ := kk
      refine r_ta (j := 1) rfl dX6_readKitchen_26 q3 ?_
      refine r_gs 2 rfl dX6_readKitchen_27 gsX6_58 ?_
      refine r_p (pc2 := 31) dX6_readKitchen_30 rfl rfl ?_
      refine r_ta (j := 2) rfl dX6_readKitchen_31 q3 ?_
      obtain ⟨q4, kk⟩ := kk
      refine r_cv (d1 := 3) dX6_readKitchen_32 cvX6_66 rfl rfl rfl rfl (Nat.le_of_ble_eq_true rfl) (Nat.le_of_ble_eq_true rfl) (Nat.le_of_ble_eq_true rfl) (c_rd_takeNumber (([0, 0, 0, 0, 0, 1, 0] : List Int32).getD (v2 : Int32).toNatClampNeg 0) (([3, 3, 3, 9, 9, 3, 9] : List Int32).getD (v2 : Int32).toNatClampNeg 0) q4) ?_
      refine r_nT (R := rV) rfl kk (fun T1 kk => ?_)
      refine r_ias dX6_readKitchen_35 (shl1_1 q2) q3 ?_
      refine r_nT (R := rV) rfl kk (fun T2 kk => ?_)
      refine r_inc (L2 := [some (.ref (13 : Nat)), some (.ref l1), some (.int (v2 + 1))]) (y := 1) dX6_readKitchen_36 rfl rfl rfl ?_
      refine r_go dX6_readKitchen_39 rfl ?_
      show tR _ _ _ _ [some (.ref (13 : Nat)), some (.ref l1), some (.int (v2 + 1))] _ _ _ _
      exact (ih (v2 + 1) T2 kk)
def x_rd_readKitchen (T : St) (p0 : Nat) : St := x_rd_readKitchen_8 p0 (fun (w1_2 : Int32) (T201 : St) => x_rd_takeSign T201) 1000 0 (x_rd_takeWord T 0)
def ok_rd_readKitchen (T : St) (p0 : Nat) : Prop := (ok_rd_takeWord T 0) ∧ ok_rd_readKitchen_8 p0 (fun (w1_2 : Int32) (T201 : St) => (ok_rd_takeSign T201) ∧ True) 1000 0 (x_rd_takeWord T 0)
theorem c_rd_readKitchen {X : Nat × (Nat → Int32)} {T : St} (p0 : Nat) (kk : ok_rd_readKitchen T p0) : tC X 7 mX6_readKitchen [.ref (13 : Nat), .ref p0] T none (x_rd_readKitchen T p0) := by
  unfold ok_rd_readKitchen at kk
  refine tC_orV (L := [some (.ref (13 : Nat)), some (.ref p0), none]) (x_rd_readKitchen T p0) rfl ?_
  unfold x_rd_readKitchen
  refine r_p (pc2 := 1) dX6_readKitchen_0 rfl rfl ?_
  refine r_ks 0 rfl dX6_readKitchen_1 rfl ?_
  obtain ⟨q1, kk⟩ := kk
  refine r_cv (d1 := 6) dX6_readKitchen_3 cvX6_54 rfl rfl rfl rfl (Nat.le_of_ble_eq_true rfl) (Nat.le_of_ble_eq_true rfl) (Nat.le_of_ble_eq_true rfl) (c_rd_takeWord 0 q1) ?_
  refine r_ci (x := 0) dX6_readKitchen_6 rfl ?_
  refine r_p (pc2 := 8) (L2 := [some (.ref (13 : Nat)), some (.ref p0), some (.int 0)]) dX6_readKitchen_7 rfl rfl ?_
  show tR _ _ _ _ [some (.ref (13 : Nat)), some (.ref p0), some (.int 0)] _ _ _ _
  refine (c_rd_readKitchen_8 p0 (fun w1_2 T201 kk => ?_) 1000 0 (x_rd_takeWord T 0) kk)
  · skip
    refine r_p (pc2 := 43) dX6_readKitchen_42 rfl rfl ?_
    obtain ⟨q5, kk⟩ := kk
    refine r_cv (d1 := 3) dX6_readKitchen_43 cvX6_70 rfl rfl rfl rfl (Nat.le_of_ble_eq_true rfl) (Nat.le_of_ble_eq_true rfl) (Nat.le_of_ble_eq_true rfl) (c_rd_takeSign  q5) ?_
    exact r_qV dX6_readKitchen_46 rfl rfl
def x_rd_readAway (T : St) (p0 : Nat) : St := if (T.1 p0 1) < 4 then (jn (fun (i1 : Int32) => jn (fun (T2 : St) => jn (fun (T3 : St) => sF (x_rd_takeSign T3) p0 1 (((x_rd_takeSign T3).1 p0 1) + 1)) (sA ((x_rd_takeNumber T2 i1 59).2) (p0 + 3) (T2.1 p0 1 : Int32).toNatClampNeg ((x_rd_takeNumber T2 i1 59).1))) (sA ((x_rd_takeNumber (x_rd_takeWord T 1) 0 59).2) (p0 + 2) (((x_rd_takeNumber (x_rd_takeWord T 1) 0 59).2).1 p0 1 : Int32).toNatClampNeg i1)) ((x_rd_takeNumber (x_rd_takeWord T 1) 0 59).1)) else (sF T 13 2 3)
def ok_rd_readAway (T : St) (p0 : Nat) : Prop := (sh p0 = .inr 1) ∧ ((T.1 p0 1) < 4 → (ok_rd_takeWord T 1) ∧ (ok_rd_takeNumber (x_rd_takeWord T 1) 0 59) ∧ jn (fun (i1 : Int32) => (vp_in (((x_rd_takeNumber (x_rd_takeWord T 1) 0 59).2).1 p0 1) 4) ∧ jn (fun (T2 : St) => (ok_rd_takeNumber T2 i1 59) ∧ (vp_in (T2.1 p0 1) 4) ∧ jn (fun (T3 : St) => (ok_rd_takeSign T3) ∧ True) (sA ((x_rd_takeNumber T2 i1 59).2) (p0 + 3) (T2.1 p0 1 : Int32).toNatClampNeg ((x_rd_takeNumber T2 i1 59).1))) (sA ((x_rd_takeNumber (x_rd_takeWord T 1) 0 59).2) (p0 + 2) (((x_rd_takeNumber (x_rd_takeWord T 1) 0 59).2).1 p0 1 : Int32).toNatClampNeg i1)) ((x_rd_takeNumber (x_rd_takeWord T 1) 0 59).1))
theorem c_rd_readAway {X : Nat × (Nat → Int32)} {T : St} (p0 : Nat) (kk : ok_rd_readAway T p0) : tC X 7 mX6_readAway [.ref (13 : Nat), .ref p0] T none (x_rd_readAway T p0) := by
  unfold ok_rd_readAway at kk
  refine tC_orV (L := [some (.ref (13 : Nat)), some (.ref p0), none]) (x_rd_readAway T p0) rfl ?_
  unfold x_rd_readAway
  refine r_p (pc2 := 1) dX6_readAway_0 rfl rfl ?_
  obtain ⟨q1, kk⟩ := kk
  refine r_get dX6_readAway_1 fkX6_73 q1 rfl ?_
  refine r_ci (x := 4) dX6_readAway_4 rfl ?_
  refine r_clt dX6_readAway_5 rfl (fun c5_1 => ?_) (fun c5_1 => ?_)
  · refine r_ip (R := rV) c5_1 ?_
    have kk := kk c5_1
    refine r_p (pc2 := 15) dX6_readAway_14 rfl rfl ?_
    refine r_ks 1 rfl dX6_readAway_15 rfl ?_
    obtain ⟨q2, kk⟩ := kk
    refine r_cv (d1 := 6) dX6_readAway_17 cvX6_54 rfl rfl rfl rfl (Nat.le_of_ble_eq_true rfl) (Nat.le_of_ble_eq_true rfl) (Nat.le_of_ble_eq_true rfl) (c_rd_takeWord 1 q2) ?_
    refine r_p (pc2 := 21) dX6_readAway_20 rfl rfl ?_
    refine r_ci (x := 0) dX6_readAway_21 rfl ?_
    refine r_cb (x := 59) dX6_readAway_22 rfl ?_
    obtain ⟨q3, kk⟩ := kk
    refine r_cv (d1 := 3) dX6_readAway_24 cvX6_66 rfl rfl rfl rfl (Nat.le_of_ble_eq_true rfl) (Nat.le_of_ble_eq_true rfl) (Nat.le_of_ble_eq_true rfl) (c_rd_takeNumber 0 59 q3) ?_
    refine r_nI (R := rV) rfl kk (fun i1 kk => ?_)
    refine r_p (pc2 := 28) (L2 := [some (.ref (13 : Nat)), some (.ref p0), some (.int i1)]) dX6_readAway_27 rfl rfl ?_
    refine r_p (pc2 := 29) dX6_readAway_28 rfl rfl ?_
    refine r_get dX6_readAway_29 fkX6_76 q1 rfl ?_
    refine r_p (pc2 := 33) dX6_readAway_32 rfl rfl ?_
    refine r_get dX6_readAway_33 fkX6_73 q1 rfl ?_
    refine r_p (pc2 := 37) dX6_readAway_36 rfl rfl ?_
    obtain ⟨q4, kk⟩ := kk
    refine r_ias dX6_readAway_37 (shl1_2 q1) q4 ?_
    refine r_nT (R := rV) rfl kk (fun T2 kk => ?_)
    refine r_p (pc2 := 39) dX6_readAway_38 rfl rfl ?_
    refine r_get dX6_readAway_39 fkX6_79 q1 rfl ?_
    refine r_p (pc2 := 43) dX6_readAway_42 rfl rfl ?_
    refine r_get dX6_readAway_43 fkX6_73 q1 rfl ?_
    refine r_p (pc2 := 47) dX6_readAway_46 rfl rfl ?_
    refine r_p (pc2 := 48) dX6_readAway_47 rfl rfl ?_
    refine r_cb (x := 59) dX6_readAway_48 rfl ?_
    obtain ⟨q5, kk⟩ := kk
    refine r_cv (d1 := 3) dX6_readAway_50 cvX6_66 rfl rfl rfl rfl (Nat.le_of_ble_eq_true rfl) (Nat.le_of_ble_eq_true rfl) (Nat.le_of_ble_eq_true rfl) (c_rd_takeNumber i1 59 q5) ?_
    obtain ⟨q6, kk⟩ := kk
    refine r_ias dX6_readAway_53 (shl1_3 q1) q6 ?_
    refine r_nT (R := rV) rfl kk (fun T3 kk => ?_)
    refine r_p (pc2 := 55) dX6_readAway_54 rfl rfl ?_
    obtain ⟨q7, kk⟩ := kk
    refine r_cv (d1 := 3) dX6_readAway_55 cvX6_70 rfl rfl rfl rfl (Nat.le_of_ble_eq_true rfl) (Nat.le_of_ble_eq_true rfl) (Nat.le_of_ble_eq_true rfl) (c_rd_takeSign  q7) ?_
    refine r_p (pc2 := 59) dX6_readAway_58 rfl rfl ?_
    refine r_p (pc2 := 60) dX6_readAway_59 rfl rfl ?_
    refine r_get dX6_readAway_60 fkX6_73 q1 rfl ?_
    refine r_ci (x := 1) dX6_readAway_63 rfl ?_
    refine r_p (pc2 := 65) dX6_readAway_64 rfl rfl ?_
    refine r_put dX6_readAway_65 fkX6_73 rfl q1 rfl (Nat.le_of_ble_eq_true rfl) rfl rfl ?_
    exact r_qV dX6_readAway_68 rfl rfl
  · refine r_in (R := rV) c5_1 ?_
    refine r_p (pc2 := 9) dX6_readAway_8 rfl rfl ?_
    refine r_ci (x := 3) dX6_readAway_9 rfl ?_
    refine r_put dX6_readAway_10 fkX6_24 rfl rfl rfl (Nat.le_of_ble_eq_true rfl) rfl rfl ?_
    exact r_qV dX6_readAway_13 rfl rfl
def x_rd_readStep (T : St) (p0 : Nat) (p1 : Int32) (p2 : Int32) : St := jn (fun (T1 : St) => jn (fun (T2 : St) => jn (fun (KJ1 : St) => if p2 = 0 then (KJ1) else (if p2 = 1 then (KJ1) else (jn (fun (KJ3 : Int32 → St) => if p2 = 2 then (KJ3 2) else (KJ3 0)) (fun (j3_s2 : Int32) => jn (fun (KJ4 : Int32 → St) => if p2 = 4 then (KJ4 1) else (KJ4 0)) (fun (j4_s0 : Int32) => jn (fun (KJ5 : Int32 → St → St) => if j4_s0 = 0 then (KJ5 (-1000000) (sA T2 (p0 + 12) (p1 : Int32).toNatClampNeg j3_s2)) else (if p2 = 0 then (KJ5 ((x_rd_takeNumber (sA T2 (p0 + 12) (p1 : Int32).toNatClampNeg j3_s2) 0 1).1) ((x_rd_takeNumber (sA T2 (p0 + 12) (p1 : Int32).toNatClampNeg j3_s2) 0 1).2)) else (KJ5 ((x_rd_takeNumber (sA T2 (p0 + 12) (p1 : Int32).toNatClampNeg j3_s2) 0 9).1) ((x_rd_takeNumber (sA T2 (p0 + 12) (p1 : Int32).toNatClampNeg j3_s2) 0 9).2)))) (fun (j5_s0 : Int32) (T305 : St) => if p2 = 1 then (jn (fun (T25 : St) => x_rd_takeSign T25) (sA ((x_rd_takeNumber (sA T305 (p0 + 13) (p1 : Int32).toNatClampNeg j5_s0) j5_s0 9).2) (p0 + 14) (p1 : Int32).toNatClampNeg ((x_rd_takeNumber (sA T305 (p0 + 13) (p1 : Int32).toNatClampNeg j5_s0) j5_s0 9).1))) else (jn (fun (T24 : St) => x_rd_takeSign T24) (sA (sA T305 (p0 + 13) (p1 : Int32).toNatClampNeg j5_s0) (p0 + 14) (p1 : Int32).toNatClampNeg (-1000000))))))))) (jn (fun (T19 : St) => jn (fun (KJ2 : Int32 → St) => if p2 = 0 then (KJ2 1) else (KJ2 9)) (fun (j2_s2 : Int32) => jn (fun (i20 : Int32) => if p2 = 1 then (jn (fun (T22 : St) => jn (fun (T23 : St) => x_rd_takeSign T23) (sA T22 (p0 + 14) (p1 : Int32).toNatClampNeg ((x_rd_takeNumber (sA ((x_rd_takeNumber T19 0 j2_s2).2) (p0 + 13) (p1 : Int32).toNatClampNeg i20) i20 9).1))) ((x_rd_takeNumber (sA ((x_rd_takeNumber T19 0 j2_s2).2) (p0 + 13) (p1 : Int32).toNatClampNeg i20) i20 9).2)) else (jn (fun (T21 : St) => x_rd_takeSign T21) (sA (sA ((x_rd_takeNumber T19 0 j2_s2).2) (p0 + 13) (p1 : Int32).toNatClampNeg i20) (p0 + 14) (p1 : Int32).toNatClampNeg (-1000000)))) ((x_rd_takeNumber T19 0 j2_s2).1))) (sA ((x_rd_takeNumber T2 0 2).2) (p0 + 12) (p1 : Int32).toNatClampNeg ((x_rd_takeNumber T2 0 2).1)))) (sA ((x_rd_takeNumber T1 0 1).2) (p0 + 11) (p1 : Int32).toNatClampNeg ((x_rd_takeNumber T1 0 1).1))) (sA ((x_rd_takeNumber (sA T (p0 + 9) (p1 : Int32).toNatClampNeg p2) 1 30).2) (p0 + 10) (p1 : Int32).toNatClampNeg ((x_rd_takeNumber (sA T (p0 + 9) (p1 : Int32).toNatClampNeg p2) 1 30).1))
def ok_rd_readStep (T : St) (p0 : Nat) (p1 : Int32) (p2 : Int32) : Prop := (sh p0 = .inr 1) ∧ (vp_in p1 24) ∧ (ok_rd_takeNumber (sA T (p0 + 9) (p1 : Int32).toNatClampNeg p2) 1 30) ∧ jn (fun (T1 : St) => (ok_rd_takeNumber T1 0 1) ∧ jn (fun (T2 : St) => jn (fun (OJ1 : Prop) => ((p2 = 0 → OJ1) ∧ (¬ p2 = 0 → ((p2 = 1 → OJ1) ∧ (¬ p2 = 1 → jn (fun (OJ3 : Int32 → Prop) => ((p2 = 2 → OJ3 2) ∧ (¬ p2 = 2 → OJ3 0))) (fun (j3_s2 : Int32) => jn (fun (OJ4 : Int32 → Prop) => ((p2 = 4 → OJ4 1) ∧ (¬ p2 = 4 → OJ4 0))) (fun (j4_s0 : Int32) => jn (fun (OJ5 : Int32 → St → Prop) => ((j4_s0 = 0 → OJ5 (-1000000) (sA T2 (p0 + 12) (p1 : Int32).toNatClampNeg j3_s2)) ∧ (¬ j4_s0 = 0 → ((p2 = 0 → (ok_rd_takeNumber (sA T2 (p0 + 12) (p1 : Int32).toNatClampNeg j3_s2) 0 1) ∧ OJ5 ((x_rd_takeNumber (sA T2 (p0 + 12) (p1 : Int32).toNatClampNeg j3_s2) 0 1).1) ((x_rd_takeNumber (sA T2 (p0 + 12) (p1 : Int32).toNatClampNeg j3_s2) 0 1).2)) ∧ (¬ p2 = 0 → (ok_rd_takeNumber (sA T2 (p0 + 12) (p1 : Int32).toNatClampNeg j3_s2) 0 9) ∧ OJ5 ((x_rd_takeNumber (sA T2 (p0 + 12) (p1 : Int32).toNatClampNeg j3_s2) 0 9).1) ((x_rd_takeNumber (sA T2 (p0 + 12) (p1 : Int32).toNatClampNeg j3_s2) 0 9).2)))))) (fun (j5_s0 : Int32) (T305 : St) => ((p2 = 1 → (ok_rd_takeNumber (sA T305 (p0 + 13) (p1 : Int32).toNatClampNeg j5_s0) j5_s0 9) ∧ jn (fun (T25 : St) => (ok_rd_takeSign T25) ∧ True) (sA ((x_rd_takeNumber (sA T305 (p0 + 13) (p1 : Int32).toNatClampNeg j5_s0) j5_s0 9).2) (p0 + 14) (p1 : Int32).toNatClampNeg ((x_rd_takeNumber (sA T305 (p0 + 13) (p1 : Int32).toNatClampNeg j5_s0) j5_s0 9).1))) ∧ (¬ p2 = 1 → jn (fun (T24 : St) => (ok_rd_takeSign T24) ∧ True) (sA (sA T305 (p0 + 13) (p1 : Int32).toNatClampNeg j5_s0) (p0 + 14) (p1 : Int32).toNatClampNeg (-1000000)))))))))))) ((ok_rd_takeNumber T2 0 2) ∧ jn (fun (T19 : St) => jn (fun (OJ2 : Int32 → Prop) => ((p2 = 0 → OJ2 1) ∧ (¬ p2 = 0 → OJ2 9))) (fun (j2_s2 : Int32) => (ok_rd_takeNumber T19 0 j2_s2) ∧ jn (fun (i20 : Int32) => ((p2 = 1 → (ok_rd_takeNumber (sA ((x_rd_takeNumber T19 0 j2_s2).2) (p0 + 13) (p1 : Int32).toNatClampNeg i20) i20 9) ∧ jn (fun (T22 : St) => jn (fun (T23 : St) => (ok_rd_takeSign T23) ∧ True) (sA T22 (p0 + 14) (p1 : Int32).toNatClampNeg ((x_rd_takeNumber (sA ((x_rd_takeNumber T19 0 j2_s2).2) (p0 + 13) (p1 : Int32).toNatClampNeg i20) i20 9).1))) ((x_rd_takeNumber (sA ((x_rd_takeNumber T19 0 j2_s2).2) (p0 + 13) (p1 : Int32).toNatClampNeg i20) i20 9).2)) ∧ (¬ p2 = 1 → jn (fun (T21 : St) => (ok_rd_takeSign T21) ∧ True) (sA (sA ((x_rd_takeNumber T19 0 j2_s2).2) (p0 + 13) (p1 : Int32).toNatClampNeg i20) (p0 + 14) (p1 : Int32).toNatClampNeg (-1000000))))) ((x_rd_takeNumber T19 0 j2_s2).1))) (sA ((x_rd_takeNumber T2 0 2).2) (p0 + 12) (p1 : Int32).toNatClampNeg ((x_rd_takeNumber T2 0 2).1)))) (sA ((x_rd_takeNumber T1 0 1).2) (p0 + 11) (p1 : Int32).toNatClampNeg ((x_rd_takeNumber T1 0 1).1))) (sA ((x_rd_takeNumber (sA T (p0 + 9) (p1 : Int32).toNatClampNeg p2) 1 30).2) (p0 + 10) (p1 : Int32).toNatClampNeg ((x_rd_takeNumber (sA T (p0 + 9) (p1 : Int32).toNatClampNeg p2) 1 30).1))
theorem c_rd_readStep {X : Nat × (Nat → Int32)} {T : St} (p0 : Nat) (p1 : Int32) (p2 : Int32) (kk : ok_rd_readStep T p0 p1 p2) : tC X 4 mX6_readStep [.ref (13 : Nat), .ref p0, .int p1, .int p2] T none (x_rd_readStep T p0 p1 p2) := by
  unfold ok_rd_readStep at kk
  refine tC_orV (L := [some (.ref (13 : Nat)), some (.ref p0), some (.int p1), some (.int p2), none, none, none]) (x_rd_readStep T p0 p1 p2) rfl ?_
  unfold x_rd_readStep
  refine r_p (pc2 := 1) dX6_readStep_0 rfl rfl ?_
  obtain ⟨q1, kk⟩ := kk
  refine r_get dX6_readStep_1 fkX6_116 q1 rfl ?_
  refine r_p (pc2 := 5) dX6_readStep_4 rfl rfl ?_
  refine r_p (pc2 := 6) dX6_readStep_5 rfl rfl ?_
  obtain ⟨q2, kk⟩ := kk
  refine r_ias dX6_readStep_6 (shl1_9 q1) q2 ?_
  refine r_p (pc2 := 8) dX6_readStep_7 rfl rfl ?_
  refine r_get dX6_readStep_8 fkX6_119 q1 rfl ?_
  refine r_p (pc2 := 12) dX6_readStep_11 rfl rfl ?_
  refine r_p (pc2 := 13) dX6_readStep_12 rfl rfl ?_
  refine r_ci (x := 1) dX6_readStep_13 rfl ?_
  refine r_cb (x := 30) dX6_readStep_14 rfl ?_
  obtain ⟨q3, kk⟩ := kk
  refine r_cv (d1 := 3) dX6_readStep_16 cvX6_66 rfl rfl rfl rfl (Nat.le_of_ble_eq_true rfl) (Nat.le_of_ble_eq_true rfl) (Nat.le_of_ble_eq_true rfl) (c_rd_takeNumber 1 30 q3) ?_
  refine r_ias dX6_readStep_19 (shl1_10 q1) q2 ?_
  refine r_nT (R := rV) rfl kk (fun T1 kk => ?_)
  refine r_p (pc2 := 21) dX6_readStep_20 rfl rfl ?_
  refine r_get dX6_readStep_21 fkX6_122 q1 rfl ?_
  refine r_p (pc2 := 25) dX6_readStep_24 rfl rfl ?_
  refine r_p (pc2 := 26) dX6_readStep_25 rfl rfl ?_
  refine r_ci (x := 0) dX6_readStep_26 rfl ?_
  refine r_ci (x := 1) dX6_readStep_27 rfl ?_
  obtain ⟨q4, kk⟩ := kk
  refine r_cv (d1 := 3) dX6_readStep_28 cvX6_66 rfl rfl rfl rfl (Nat.le_of_ble_eq_true rfl) (Nat.le_of_ble_eq_true rfl) (Nat.le_of_ble_eq_true rfl) (c_rd_takeNumber 0 1 q4) ?_
  refine r_ias dX6_readStep_31 (shl1_11 q1) q2 ?_
  refine r_nT (R := rV) rfl kk (fun T2 kk => ?_)
  refine r_p (pc2 := 33) dX6_readStep_32 rfl rfl ?_
  refine r_jn (R := rV) (J := fun (KJ1 : St) (OJ1 : Prop) => OJ1 → tR X 3 mX6_readStep 41 [some (.ref (13 : Nat)), some (.ref p0), some (.int p1), some (.int p2), none, none, none] [] T2 (rV KJ1).1 (rV KJ1).2) kk (fun  kk => ?_) (fun KJ1 OJ1 hJ1 kk => ?_)
  · skip
    refine r_ci (x := 1) dX6_readStep_41 rfl ?_
    refine r_go dX6_readStep_42 rfl ?_
    refine r_p (pc2 := 48) (L2 := [some (.ref (13 : Nat)), some (.ref p0), some (.int p1), some (.int p2), some (.int 1), none, none]) dX6_readStep_46 rfl rfl ?_
    refine r_p (pc2 := 49) dX6_readStep_48 rfl rfl ?_
    refine r_get dX6_readStep_49 fkX6_125 q1 rfl ?_
    refine r_p (pc2 := 53) dX6_readStep_52 rfl rfl ?_
    refine r_p (pc2 := 55) dX6_readStep_53 rfl rfl ?_
    refine r_ieq dX6_readStep_55 rfl (fun h => absurd h (by decide)) (fun _ => ?_)
    refine r_p (pc2 := 59) dX6_readStep_58 rfl rfl ?_
    refine r_ci (x := 0) dX6_readStep_59 rfl ?_
    refine r_ci (x := 2) dX6_readStep_60 rfl ?_
    obtain ⟨q27, kk⟩ := kk
    refine r_cv (d1 := 3) dX6_readStep_61 cvX6_66 rfl rfl rfl rfl (Nat.le_of_ble_eq_true rfl) (Nat.le_of_ble_eq_true rfl) (Nat.le_of_ble_eq_true rfl) (c_rd_takeNumber 0 2 q27) ?_
    refine r_go dX6_readStep_64 rfl ?_
    refine r_ias dX6_readStep_77 (shl1_12 q1) q2 ?_
    refine r_nT (R := rV) rfl kk (fun T19 kk => ?_)
    refine r_p (pc2 := 80) dX6_readStep_78 rfl rfl ?_
    refine r_ine dX6_readStep_80 rfl (fun _ => ?_) (fun h => absurd h (by decide))
    refine r_ci (x := 1) dX6_readStep_88 rfl ?_
    refine r_go dX6_readStep_89 rfl ?_
    refine r_p (pc2 := 95) (L2 := [some (.ref (13 : Nat)), some (.ref p0), some (.int p1), some (.int p2), some (.int 1), some (.int 1), none]) dX6_readStep_93 rfl rfl ?_
    refine r_p (pc2 := 97) dX6_readStep_95 rfl rfl ?_
    refine r_ieq dX6_readStep_97 rfl (fun h => absurd h (by decide)) (fun _ => ?_)
    refine r_p (pc2 := 101) dX6_readStep_100 rfl rfl ?_
    refine r_ci (x := 0) dX6_readStep_101 rfl ?_
    refine r_p (pc2 := 103) dX6_readStep_102 rfl rfl ?_
    refine r_jn (R := rV) (J := fun (KJ2 : Int32 → St) (OJ2 : Int32 → Prop) => ∀ (j2_s2 : Int32), OJ2 j2_s2 → tR X 3 mX6_readStep 112 [some (.ref (13 : Nat)), some (.ref p0), some (.int p1), some (.int p2), some (.int 1), some (.int 1), none] [.int j2_s2, .int 0, .ref (13 : Nat)] T19 (rV (KJ2 j2_s2)).1 (rV (KJ2 j2_s2)).2) kk (fun j2_s2 kk => ?_) (fun KJ2 OJ2 hJ2 kk => ?_)
    · skip
      obtain ⟨q28, kk⟩ := kk
      refine r_cv (d1 := 3) dX6_readStep_112 cvX6_66 rfl rfl rfl rfl (Nat.le_of_ble_eq_true rfl) (Nat.le_of_ble_eq_true rfl) (Nat.le_of_ble_eq_true rfl) (c_rd_takeNumber 0 j2_s2 q28) ?_
      refine r_go dX6_readStep_115 rfl ?_
      refine r_nI (R := rV) rfl kk (fun i20 kk => ?_)
      refine r_p (pc2 := 122) (L2 := [some (.ref (13 : Nat)), some (.ref p0), some (.int p1), some (.int p2), some (.int 1), some (.int 1), some (.int i20)]) dX6_readStep_120 rfl rfl ?_
      refine r_p (pc2 := 123) dX6_readStep_122 rfl rfl ?_
      refine r_get dX6_readStep_123 fkX6_129 q1 rfl ?_
      refine r_p (pc2 := 127) dX6_readStep_126 rfl rfl ?_
      refine r_p (pc2 := 129) dX6_readStep_127 rfl rfl ?_
      refine r_ias dX6_readStep_129 (shl1_13 q1) q2 ?_
      refine r_p (pc2 := 131) dX6_readStep_130 rfl rfl ?_
      refine r_get dX6_readStep_131 fkX6_132 q1 rfl ?_
      refine r_p (pc2 := 135) dX6_readStep_134 rfl rfl ?_
      refine r_p (pc2 := 136) dX6_readStep_135 rfl rfl ?_
      refine r_ci (x := 1) dX6_readStep_136 rfl ?_
      refine r_cne dX6_readStep_137 rfl (fun c137_15 => ?_) (fun c137_15 => ?_)
      · refine r_in (R := rV) c137_15 ?_
        have kk := kk.2 c137_15
        refine r_k dX6_readStep_151 kkX6_128 ?_
        refine r_ias dX6_readStep_153 (shl1_14 q1) q2 ?_
        refine r_nT (R := rV) rfl kk (fun T21 kk => ?_)
        refine r_p (pc2 := 155) dX6_readStep_154 rfl rfl ?_
        obtain ⟨q29, kk⟩ := kk
        refine r_cv (d1 := 3) dX6_readStep_155 cvX6_70 rfl rfl rfl rfl (Nat.le_of_ble_eq_true rfl) (Nat.le_of_ble_eq_true rfl) (Nat.le_of_ble_eq_true rfl) (c_rd_takeSign  q29) ?_
        exact r_qV dX6_readStep_158 rfl rfl
      · refine r_ip (R := rV) c137_15 ?_
        have kk := kk.1 c137_15
        refine r_p (pc2 := 141) dX6_readStep_140 rfl rfl ?_
        refine r_p (pc2 := 143) dX6_readStep_141 rfl rfl ?_
        refine r_cb (x := 9) dX6_readStep_143 rfl ?_
        obtain ⟨q30, kk⟩ := kk
        refine r_cv (d1 := 3) dX6_readStep_145 cvX6_66 rfl rfl rfl rfl (Nat.le_of_ble_eq_true rfl) (Nat.le_of_ble_eq_true rfl) (Nat.le_of_ble_eq_true rfl) (c_rd_takeNumber i20 9 q30) ?_
        refine r_nT (R := rV) rfl kk (fun T22 kk => ?_)
        refine r_go dX6_readStep_148 rfl ?_
        refine r_ias dX6_readStep_153 (shl1_14 q1) q2 ?_
        refine r_nT (R := rV) rfl kk (fun T23 kk => ?_)
        refine r_p (pc2 := 155) dX6_readStep_154 rfl rfl ?_
        obtain ⟨q31, kk⟩ := kk
        refine r_cv (d1 := 3) dX6_readStep_155 cvX6_70 rfl rfl rfl rfl (Nat.le_of_ble_eq_true rfl) (Nat.le_of_ble_eq_true rfl) (Nat.le_of_ble_eq_true rfl) (c_rd_takeSign  q31) ?_
        exact r_qV dX6_readStep_158 rfl rfl
    refine r_ine dX6_readStep_103 rfl (fun c103_16 => ?_) (fun c103_16 => ?_)
    · refine r_in (R := rV) c103_16 ?_
      have kk := kk.2 c103_16
      refine r_cb (x := 9) dX6_readStep_110 rfl ?_
      show tR _ _ _ _ [some (.ref (13 : Nat)), some (.ref p0), some (.int p1), some (.int p2), some (.int 1), some (.int 1), none] [.int 9, .int 0, .ref (13 : Nat)] _ _ _
      exact (hJ2 9 kk)
    · refine r_ip (R := rV) c103_16 ?_
      have kk := kk.1 c103_16
      refine r_ci (x := 1) dX6_readStep_106 rfl ?_
      refine r_go dX6_readStep_107 rfl ?_
      show tR _ _ _ _ [some (.ref (13 : Nat)), some (.ref p0), some (.int p1), some (.int p2), some (.int 1), some (.int 1), none] [.int 1, .int 0, .ref (13 : Nat)] _ _ _
      exact (hJ2 1 kk)
  refine r_ieq dX6_readStep_33 rfl (fun c33_17 => ?_) (fun c33_17 => ?_)
  · refine r_ip (R := rV) c33_17 ?_
    have kk := kk.1 c33_17
    show tR _ _ _ _ [some (.ref (13 : Nat)), some (.ref p0), some (.int p1), some (.int p2), none, none, none] [] _ _ _
    exact (hJ1  kk)
  · refine r_in (R := rV) c33_17 ?_
    have kk := kk.2 c33_17
    refine r_p (pc2 := 37) dX6_readStep_36 rfl rfl ?_
    refine r_ci (x := 1) dX6_readStep_37 rfl ?_
    refine r_cne dX6_readStep_38 rfl (fun c38_18 => ?_) (fun c38_18 => ?_)
    · refine r_in (R := rV) c38_18 ?_
      have kk := kk.2 c38_18
      refine r_ci (x := 0) dX6_readStep_45 rfl ?_
      refine r_p (pc2 := 48) (L2 := [some (.ref (13 : Nat)), some (.ref p0), some (.int p1), some (.int p2), some (.int 0), none, none]) dX6_readStep_46 rfl rfl ?_
      refine r_p (pc2 := 49) dX6_readStep_48 rfl rfl ?_
      refine r_get dX6_readStep_49 fkX6_125 q1 rfl ?_
      refine r_p (pc2 := 53) dX6_readStep_52 rfl rfl ?_
      refine r_p (pc2 := 55) dX6_readStep_53 rfl rfl ?_
      refine r_ieq dX6_readStep_55 rfl (fun _ => ?_) (fun h => absurd h (by decide))
      refine r_p (pc2 := 68) dX6_readStep_67 rfl rfl ?_
      refine r_ci (x := 2) dX6_readStep_68 rfl ?_
      refine r_jn (R := rV) (J := fun (KJ3 : Int32 → St) (OJ3 : Int32 → Prop) => ∀ (j3_s2 : Int32), OJ3 j3_s2 → tR X 3 mX6_readStep 77 [some (.ref (13 : Nat)), some (.ref p0), some (.int p1), some (.int p2), some (.int 0), none, none] [.int j3_s2, .int p1, .ref (p0 + 12)] T2 (rV (KJ3 j3_s2)).1 (rV (KJ3 j3_s2)).2) kk (fun j3_s2 kk => ?_) (fun KJ3 OJ3 hJ3 kk => ?_)
      · skip
        refine r_ias dX6_readStep_77 (shl1_12 q1) q2 ?_
        refine r_p (pc2 := 80) dX6_readStep_78 rfl rfl ?_
        refine r_ine dX6_readStep_80 rfl (fun h => absurd h (by decide)) (fun _ => ?_)
        refine r_p (pc2 := 84) dX6_readStep_83 rfl rfl ?_
        refine r_ci (x := 4) dX6_readStep_84 rfl ?_
        refine r_jn (R := rV) (J := fun (KJ4 : Int32 → St) (OJ4 : Int32 → Prop) => ∀ (j4_s0 : Int32), OJ4 j4_s0 → tR X 3 mX6_readStep 93 [some (.ref (13 : Nat)), some (.ref p0), some (.int p1), some (.int p2), some (.int 0), none, none] [.int j4_s0] (sA T2 (p0 + 12) (p1 : Int32).toNatClampNeg j3_s2) (rV (KJ4 j4_s0)).1 (rV (KJ4 j4_s0)).2) kk (fun j4_s0 kk => ?_) (fun KJ4 OJ4 hJ4 kk => ?_)
        · skip
          refine r_p (pc2 := 95) (L2 := [some (.ref (13 : Nat)), some (.ref p0), some (.int p1), some (.int p2), some (.int 0), some (.int j4_s0), none]) dX6_readStep_93 rfl rfl ?_
          refine r_p (pc2 := 97) dX6_readStep_95 rfl rfl ?_
          refine r_jn (R := rV) (J := fun (KJ5 : Int32 → St → St) (OJ5 : Int32 → St → Prop) => ∀ (j5_s0 : Int32) (T305 : St), OJ5 j5_s0 T305 → tR X 3 mX6_readStep 120 [some (.ref (13 : Nat)), some (.ref p0), some (.int p1), some (.int p2), some (.int 0), some (.int j4_s0), none] [.int j5_s0] T305 (rV (KJ5 j5_s0 T305)).1 (rV (KJ5 j5_s0 T305)).2) kk (fun j5_s0 T305 kk => ?_) (fun KJ5 OJ5 hJ5 kk => ?_)
          · skip
            refine r_p (pc2 := 122) (L2 := [some (.ref (13 : Nat)), some (.ref p0), some (.int p1), some (.int p2), some (.int 0), some (.int j4_s0), some (.int j5_s0)]) dX6_readStep_120 rfl rfl ?_
            refine r_p (pc2 := 123) dX6_readStep_122 rfl rfl ?_
            refine r_get dX6_readStep_123 fkX6_129 q1 rfl ?_
            refine r_p (pc2 := 127) dX6_readStep_126 rfl rfl ?_
            refine r_p (pc2 := 129) dX6_readStep_127 rfl rfl ?_
            refine r_ias dX6_readStep_129 (shl1_13 q1) q2 ?_
            refine r_p (pc2 := 131) dX6_readStep_130 rfl rfl ?_
            refine r_get dX6_readStep_131 fkX6_132 q1 rfl ?_
            refine r_p (pc2 := 135) dX6_readStep_134 rfl rfl ?_
            refine r_p (pc2 := 136) dX6_readStep_135 rfl rfl ?_
            refine r_ci (x := 1) dX6_readStep_136 rfl ?_
            refine r_cne dX6_readStep_137 rfl (fun c137_23 => ?_) (fun c137_23 => ?_)
            · refine r_in (R := rV) c137_23 ?_
              have kk := kk.2 c137_23
              refine r_k dX6_readStep_151 kkX6_128 ?_
              refine r_ias dX6_readStep_153 (shl1_14 q1) q2 ?_
              refine r_nT (R := rV) rfl kk (fun T24 kk => ?_)
              refine r_p (pc2 := 155) dX6_readStep_154 rfl rfl ?_
              obtain ⟨q34, kk⟩ := kk
              refine r_cv (d1 := 3) dX6_readStep_155 cvX6_70 rfl rfl rfl rfl (Nat.le_of_ble_eq_true rfl) (Nat.le_of_ble_eq_true rfl) (Nat.le_of_ble_eq_true rfl) (c_rd_takeSign  q34) ?_
              exact r_qV dX6_readStep_158 rfl rfl
            · refine r_ip (R := rV) c137_23 ?_
              have kk := kk.1 c137_23
              refine r_p (pc2 := 141) dX6_readStep_140 rfl rfl ?_
              refine r_p (pc2 := 143) dX6_readStep_141 rfl rfl ?_
              refine r_cb (x := 9) dX6_readStep_143 rfl ?_
              obtain ⟨q35, kk⟩ := kk
              refine r_cv (d1 := 3) dX6_readStep_145 cvX6_66 rfl rfl rfl rfl (Nat.le_of_ble_eq_true rfl) (Nat.le_of_ble_eq_true rfl) (Nat.le_of_ble_eq_true rfl) (c_rd_takeNumber j5_s0 9 q35) ?_
              refine r_go dX6_readStep_148 rfl ?_
              refine r_ias dX6_readStep_153 (shl1_14 q1) q2 ?_
              refine r_nT (R := rV) rfl kk (fun T25 kk => ?_)
              refine r_p (pc2 := 155) dX6_readStep_154 rfl rfl ?_
              obtain ⟨q36, kk⟩ := kk
              refine r_cv (d1 := 3) dX6_readStep_155 cvX6_70 rfl rfl rfl rfl (Nat.le_of_ble_eq_true rfl) (Nat.le_of_ble_eq_true rfl) (Nat.le_of_ble_eq_true rfl) (c_rd_takeSign  q36) ?_
              exact r_qV dX6_readStep_158 rfl rfl
          refine r_ieq dX6_readStep_97 rfl (fun c97_24 => ?_) (fun c97_24 => ?_)
          · refine r_ip (R := rV) c97_24 ?_
            have kk := kk.1 c97_24
            refine r_k dX6_readStep_118 kkX6_128 ?_
            show tR _ _ _ _ [some (.ref (13 : Nat)), some (.ref p0), some (.int p1), some (.int p2), some (.int 0), some (.int j4_s0), none] [.int (-1000000)] _ _ _
            exact (hJ5 (-1000000) (sA T2 (p0 + 12) (p1 : Int32).toNatClampNeg j3_s2) kk)
          · refine r_in (R := rV) c97_24 ?_
            have kk := kk.2 c97_24
            refine r_p (pc2 := 101) dX6_readStep_100 rfl rfl ?_
            refine r_ci (x := 0) dX6_readStep_101 rfl ?_
            refine r_p (pc2 := 103) dX6_readStep_102 rfl rfl ?_
            refine r_ine dX6_readStep_103 rfl (fun c103_25 => ?_) (fun c103_25 => ?_)
            · refine r_in (R := rV) c103_25 ?_
              have kk := kk.2 c103_25
              refine r_cb (x := 9) dX6_readStep_110 rfl ?_
              obtain ⟨q37, kk⟩ := kk
              refine r_cv (d1 := 3) dX6_readStep_112 cvX6_66 rfl rfl rfl rfl (Nat.le_of_ble_eq_true rfl) (Nat.le_of_ble_eq_true rfl) (Nat.le_of_ble_eq_true rfl) (c_rd_takeNumber 0 9 q37) ?_
              refine r_go dX6_readStep_115 rfl ?_
              show tR _ _ _ _ [some (.ref (13 : Nat)), some (.ref p0), some (.int p1), some (.int p2), some (.int 0), some (.int j4_s0), none] [.int ((x_rd_takeNumber (sA T2 (p0 + 12) (p1 : Int32).toNatClampNeg j3_s2) 0 9).1)] _ _ _
              exact (hJ5 ((x_rd_takeNumber (sA T2 (p0 + 12) (p1 : Int32).toNatClampNeg j3_s2) 0 9).1) ((x_rd_takeNumber (sA T2 (p0 + 12) (p1 : Int32).toNatClampNeg j3_s2) 0 9).2) kk)
            · refine r_ip (R := rV) c103_25 ?_
              have kk := kk.1 c103_25
              refine r_ci (x := 1) dX6_readStep_106 rfl ?_
              refine r_go dX6_readStep_107 rfl ?_
              obtain ⟨q38, kk⟩ := kk
              refine r_cv (d1 := 3) dX6_readStep_112 cvX6_66 rfl rfl rfl rfl (Nat.le_of_ble_eq_true rfl) (Nat.le_of_ble_eq_true rfl) (Nat.le_of_ble_eq_true rfl) (c_rd_takeNumber 0 1 q38) ?_
              refine r_go dX6_readStep_115 rfl ?_
              show tR _ _ _ _ [some (.ref (13 : Nat)), some (.ref p0), some (.int p1), some (.int p2), some (.int 0), some (.int j4_s0), none] [.int ((x_rd_takeNumber (sA T2 (p0 + 12) (p1 : Int32).toNatClampNeg j3_s2) 0 1).1)] _ _ _
              exact (hJ5 ((x_rd_takeNumber (sA T2 (p0 + 12) (p1 : Int32).toNatClampNeg j3_s2) 0 1).1) ((x_rd_takeNumber (sA T2 (p0 + 12) (p1 : Int32).toNatClampNeg j3_s2) 0 1).2) kk)
        refine r_cne dX6_readStep_85 rfl (fun c85_26 => ?_) (fun c85_26 => ?_)
        · refine r_in (R := rV) c85_26 ?_
          have kk := kk.2 c85_26
          refine r_ci (x := 0) dX6_readStep_92 rfl ?_
          show tR _ _ _ _ [some (.ref (13 : Nat)), some (.ref p0), some (.int p1), some (.int p2), some (.int 0), none, none] [.int 0] _ _ _
          exact (hJ4 0 kk)
        · refine r_ip (R := rV) c85_26 ?_
          have kk := kk.1 c85_26
          refine r_ci (x := 1) dX6_readStep_88 rfl ?_
          refine r_go dX6_readStep_89 rfl ?_
          show tR _ _ _ _ [some (.ref (13 : Nat)), some (.ref p0), some (.int p1), some (.int p2), some (.int 0), none, none] [.int 1] _ _ _
          exact (hJ4 1 kk)
      refine r_cne dX6_readStep_69 rfl (fun c69_27 => ?_) (fun c69_27 => ?_)
      · refine r_in (R := rV) c69_27 ?_
        have kk := kk.2 c69_27
        refine r_ci (x := 0) dX6_readStep_76 rfl ?_
        show tR _ _ _ _ [some (.ref (13 : Nat)), some (.ref p0), some (.int p1), some (.int p2), some (.int 0), none, none] [.int 0, .int p1, .ref (p0 + 12)] _ _ _
        exact (hJ3 0 kk)
      · refine r_ip (R := rV) c69_27 ?_
        have kk := kk.1 c69_27
        refine r_ci (x := 2) dX6_readStep_72 rfl ?_
        refine r_go dX6_readStep_73 rfl ?_
        show tR _ _ _ _ [some (.ref (13 : Nat)), some (.ref p0), some (.int p1), some (.int p2), some (.int 0), none, none] [.int 2, .int p1, .ref (p0 + 12)] _ _ _
        exact (hJ3 2 kk)
    · refine r_ip (R := rV) c38_18 ?_
      have kk := kk.1 c38_18
      show tR _ _ _ _ [some (.ref (13 : Nat)), some (.ref p0), some (.int p1), some (.int p2), none, none, none] [] _ _ _
      exact (hJ1  kk)
def x_jd_judged_3 (l1 : Nat) (l2 : Nat) (l3 : Nat) (l4 : Int32) (K : Int32 → St → Int32 × St) : Nat → Int32 → St → Int32 × St
  | 0, _, T => (0, T)
  | f + 1, v5, T => if (T.1 l3 1) ≤ v5 then (K v5 T) else (jn (fun (KJ1 : Int32 × St) => if (T.2.2.1 (l3 + 5) (v5 : Int32).toNatClampNeg) < 0 then (KJ1) else (if (T.2.2.1 (l3 + 5) (v5 : Int32).toNatClampNeg) ≤ (60 - (T.2.2.1 (l3 + 6) (v5 : Int32).toNatClampNeg)) then (x_jd_judged_3 l1 l2 l3 l4 K f (v5 + 1) T) else (KJ1))) ((1 + (10 * v5), T)))
def ok_jd_judged_3 (l1 : Nat) (l2 : Nat) (l3 : Nat) (l4 : Int32) (Kk : Int32 → St → Prop) : Nat → Int32 → St → Prop
  | 0, _, _ => False
  | f + 1, v5, T => (sh l3 = .inr 7) ∧ (((T.1 l3 1) ≤ v5 → Kk v5 T) ∧ (¬ (T.1 l3 1) ≤ v5 → (vp_in v5 12) ∧ (¬ (T.2.2.1 (l3 + 5) (v5 : Int32).toNatClampNeg) < 0 → ((T.2.2.1 (l3 + 5) (v5 : Int32).toNatClampNeg) ≤ (60 - (T.2.2.1 (l3 + 6) (v5 : Int32).toNatClampNeg)) → ok_jd_judged_3 l1 l2 l3 l4 Kk f (v5 + 1) T))))
theorem c_jd_judged_3 {X : Nat × (Nat → Int32)} (l1 : Nat) (l2 : Nat) (l3 : Nat) (l4 : Int32) {K : Int32 → St → Int32 × St} {Kk : Int32 → St → Prop} (hk : ∀ (v5 : Int32) (T : St), Kk v5 T → tR X 4 mX2_judged 56 [some (.ref (527 : Nat)), some (.ref l1), some (.ref l2), some (.ref l3), some (.int l4), some (.int v5), none, none] [] T (rI (K v5 T)).1 ((rI (K v5 T)).2)) : ∀ (f : Nat) (v5 : Int32) (T : St), ok_jd_judged_3 l1 l2 l3 l4 Kk f v5 T → tR X 4 mX2_judged 3 [some (.ref (527 : Nat)), some (.ref l1), some (.ref l2), some (.ref l3), some (.int l4), some (.int v5), none, none] [] T (rI (x_jd_judged_3 l1 l2 l3 l4 K f v5 T)).1 ((rI (x_jd_judged_3 l1 l2 l3 l4 K f v5 T)).2) := by
  intro f
  induction f with
  | zero => intro v5 T kk; exact kk.elim
  | succ f ih =>
    intro v5 T kk
    rw [ok_jd_judged_3] at kk
    rw [x_jd_judged_3]
    refine r_p (pc2 := 5) dX2_judged_3 rfl rfl ?_
    refine r_p (pc2 := 6) dX2_judged_5 rfl rfl ?_
    obtain ⟨q1, kk⟩ := kk
    refine r_get dX2_judged_6 fkX2_36 q1 rfl ?_
    refine r_cge dX2_judged_9 rfl (fun c9_1 => ?_) (fun c9_1 => ?_)
    · refine r_ip (R := rI) c9_1 ?_
      have kk := kk.1 c9_1
      show tR _ _ _ _ [some (.ref (527 : Nat)), some (.ref l1), some (.ref l2), some (.ref l3), some (.int l4), some (.int v5), none, none] _ _ _ _
      exact (hk v5 T kk)
    · refine r_in (R := rI) c9_1 ?_
      have kk := kk.2 c9_1
      refine r_p (pc2 := 13) dX2_judged_12 rfl rfl ?_
      refine r_get dX2_judged_13 fkX2_42 q1 rfl ?_
      refine r_p (pc2 := 18) dX2_judged_16 rfl rfl ?_
      obtain ⟨q2, kk⟩ := kk
      refine r_ia dX2_judged_18 (shl7_5 q1) q2 ?_
      refine r_jn0 (R := rI) (J := fun (KJ1 : Int32 × St) => tR X 4 mX2_judged 42 [some (.ref (527 : Nat)), some (.ref l1), some (.ref l2), some (.ref l3), some (.int l4), some (.int v5), none, none] [] T (rI KJ1).1 (rI KJ1).2) (?_) (fun KJ1 hJ1 => ?_)
      · skip
        refine r_ci (x := 1) dX2_judged_42 rfl ?_
        refine r_cb (x := 10) dX2_judged_43 rfl ?_
        refine r_p (pc2 := 47) dX2_judged_45 rfl rfl ?_
        refine r_p (pc2 := 48) dX2_judged_47 rfl rfl ?_
        refine r_p (pc2 := 49) dX2_judged_48 rfl rfl ?_
        exact r_qI dX2_judged_49 rfl rfl rfl rfl
      refine r_ilt dX2_judged_19 rfl (fun c19_4 => ?_) (fun c19_4 => ?_)
      · refine r_ip (R := rI) c19_4 ?_
        show tR _ _ _ _ [some (.ref (527 : Nat)), some (.ref l1), some (.ref l2), some (.ref l3), some (.int l4), some (.int v5), none, none] [] _ _ _
        exact (hJ1 )
      · refine r_in (R := rI) c19_4 ?_
        have kk := kk c19_4
        refine r_p (pc2 := 23) dX2_judged_22 rfl rfl ?_
        refine r_get dX2_judged_23 fkX2_42 q1 rfl ?_
        refine r_p (pc2 := 28) dX2_judged_26 rfl rfl ?_
        refine r_ia dX2_judged_28 (shl7_5 q1) q2 ?_
        refine r_cb (x := 60) dX2_judged_29 rfl ?_
        refine r_p (pc2 := 32) dX2_judged_31 rfl rfl ?_
        refine r_get dX2_judged_32 fkX2_46 q1 rfl ?_
        refine r_p (pc2 := 37) dX2_judged_35 rfl rfl ?_
        refine r_ia dX2_judged_37 (shl7_6 q1) q2 ?_
        refine r_p (pc2 := 39) dX2_judged_38 rfl rfl ?_
        refine r_cle dX2_judged_39 rfl (fun c39_5 => ?_) (fun c39_5 => ?_)
        · refine r_ip (R := rI) c39_5 ?_
          have kk := kk c39_5
          refine r_inc (L2 := [some (.ref (527 : Nat)), some (.ref l1), some (.ref l2), some (.ref l3), some (.int l4), some (.int (v5 + 1)), none, none]) (y := 1) dX2_judged_50 rfl rfl rfl ?_
          refine r_go dX2_judged_53 rfl ?_
          show tR _ _ _ _ [some (.ref (527 : Nat)), some (.ref l1), some (.ref l2), some (.ref l3), some (.int l4), some (.int (v5 + 1)), none, none] _ _ _ _
          exact (ih (v5 + 1) T kk)
        · refine r_in (R := rI) c39_5 ?_
          show tR _ _ _ _ [some (.ref (527 : Nat)), some (.ref l1), some (.ref l2), some (.ref l3), some (.int l4), some (.int v5), none, none] [] _ _ _
          exact (hJ1 )
def x_jd_judged_59 (l1 : Nat) (l2 : Nat) (l3 : Nat) (l4 : Int32) (K : Int32 → St → Int32 × St) : Nat → Int32 → St → Int32 × St
  | 0, _, T => (0, T)
  | f + 1, v5, T => if (T.1 l3 1) ≤ v5 then (K v5 T) else (if (x_ro_isFirst T l3 v5) = 0 then (if (x_jd_followsInTime T l1 l3 v5) = 0 then (2 + (10 * v5), T) else (x_jd_judged_59 l1 l2 l3 l4 K f (v5 + 1) T)) else (x_jd_judged_59 l1 l2 l3 l4 K f (v5 + 1) T))
def ok_jd_judged_59 (l1 : Nat) (l2 : Nat) (l3 : Nat) (l4 : Int32) (Kk : Int32 → St → Prop) : Nat → Int32 → St → Prop
  | 0, _, _ => False
  | f + 1, v5, T => (sh l3 = .inr 7) ∧ (((T.1 l3 1) ≤ v5 → Kk v5 T) ∧ (¬ (T.1 l3 1) ≤ v5 → (ok_ro_isFirst T l3 v5) ∧ (((x_ro_isFirst T l3 v5) = 0 → (ok_jd_followsInTime T l1 l3 v5) ∧ (¬ (x_jd_followsInTime T l1 l3 v5) = 0 → ok_jd_judged_59 l1 l2 l3 l4 Kk f (v5 + 1) T)) ∧ (¬ (x_ro_isFirst T l3 v5) = 0 → ok_jd_judged_59 l1 l2 l3 l4 Kk f (v5 + 1) T))))
theorem c_jd_judged_59 {X : Nat × (Nat → Int32)} (l1 : Nat) (l2 : Nat) (l3 : Nat) (l4 : Int32) {K : Int32 → St → Int32 × St} {Kk : Int32 → St → Prop} (hk : ∀ (v5 : Int32) (T : St), Kk v5 T → tR X 4 mX2_judged 102 [some (.ref (527 : Nat)), some (.ref l1), some (.ref l2), some (.ref l3), some (.int l4), some (.int v5), none, none] [] T (rI (K v5 T)).1 ((rI (K v5 T)).2)) : ∀ (f : Nat) (v5 : Int32) (T : St), ok_jd_judged_59 l1 l2 l3 l4 Kk f v5 T → tR X 4 mX2_judged 59 [some (.ref (527 : Nat)), some (.ref l1), some (.ref l2), some (.ref l3), some (.int l4), some (.int v5), none, none] [] T (rI (x_jd_judged_59 l1 l2 l3 l4 K f v5 T)).1 ((rI (x_jd_judged_59 l1 l2 l3 l4 K f v5 T)).2) := by
  intro f
  induction f with
  | zero => intro v5 T kk; exact kk.elim
  | succ f ih =>
    intro v5 T kk
    rw [ok_jd_judged_59] at kk
    rw [x_jd_judged_59]
    refine r_p (pc2 := 61) dX2_judged_59 rfl rfl ?_
    refine r_p (pc2 := 62) dX2_judged_61 rfl rfl ?_
    obtain ⟨q3, kk⟩ := kk
    refine r_get dX2_judged_62 fkX2_36 q3 rfl ?_
    refine r_cge dX2_judged_65 rfl (fun c65_6 => ?_) (fun c65_6 => ?_)
    · refine r_ip (R := rI) c65_6 ?_
      have kk := kk.1 c65_6
      show tR _ _ _ _ [some (.ref (527 : Nat)), some (.ref l1), some (.ref l2), some (.ref l3), some (.int l4), some (.int v5), none, none] _ _ _ _
      exact (hk v5 T kk)
    · refine r_in (R := rI) c65_6 ?_
      have kk := kk.2 c65_6
      refine r_p (pc2 := 69) dX2_judged_68 rfl rfl ?_
      refine r_p (pc2 := 71) dX2_judged_69 rfl rfl ?_
      obtain ⟨q4, kk⟩ := kk
      refine r_cv (d1 := 1) dX2_judged_71 cvX2_49 rfl rfl q3 rfl (Nat.le_of_ble_eq_true rfl) (Nat.le_of_ble_eq_true rfl) (Nat.le_of_ble_eq_true rfl) (c_ro_isFirst l3 v5 q4) ?_
      refine r_ine dX2_judged_74 rfl (fun c74_7 => ?_) (fun c74_7 => ?_)
      · refine r_in (R := rI) c74_7 ?_
        have kk := kk.2 c74_7
        refine r_inc (L2 := [some (.ref (527 : Nat)), some (.ref l1), some (.ref l2), some (.ref l3), some (.int l4), some (.int (v5 + 1)), none, none]) (y := 1) dX2_judged_96 rfl rfl rfl ?_
        refine r_go dX2_judged_99 rfl ?_
        show tR _ _ _ _ [some (.ref (527 : Nat)), some (.ref l1), some (.ref l2), some (.ref l3), some (.int l4), some (.int (v5 + 1)), none, none] _ _ _ _
        exact (ih (v5 + 1) T kk)
      · refine r_ip (R := rI) c74_7 ?_
        have kk := kk.1 c74_7
        refine r_p (pc2 := 78) dX2_judged_77 rfl rfl ?_
        refine r_p (pc2 := 79) dX2_judged_78 rfl rfl ?_
        refine r_p (pc2 := 80) dX2_judged_79 rfl rfl ?_
        refine r_p (pc2 := 82) dX2_judged_80 rfl rfl ?_
        obtain ⟨q5, kk⟩ := kk
        refine r_cv (d1 := 1) dX2_judged_82 cvX2_53 rfl rfl rfl rfl (Nat.le_of_ble_eq_true rfl) (Nat.le_of_ble_eq_true rfl) (Nat.le_of_ble_eq_true rfl) (c_jd_followsInTime l1 l3 v5 q5) ?_
        refine r_ine dX2_judged_85 rfl (fun c85_8 => ?_) (fun c85_8 => ?_)
        · refine r_in (R := rI) c85_8 ?_
          have kk := kk c85_8
          refine r_inc (L2 := [some (.ref (527 : Nat)), some (.ref l1), some (.ref l2), some (.ref l3), some (.int l4), some (.int (v5 + 1)), none, none]) (y := 1) dX2_judged_96 rfl rfl rfl ?_
          refine r_go dX2_judged_99 rfl ?_
          show tR _ _ _ _ [some (.ref (527 : Nat)), some (.ref l1), some (.ref l2), some (.ref l3), some (.int l4), some (.int (v5 + 1)), none, none] _ _ _ _
          exact (ih (v5 + 1) T kk)
        · refine r_ip (R := rI) c85_8 ?_
          refine r_ci (x := 2) dX2_judged_88 rfl ?_
          refine r_cb (x := 10) dX2_judged_89 rfl ?_
          refine r_p (pc2 := 93) dX2_judged_91 rfl rfl ?_
          refine r_p (pc2 := 94) dX2_judged_93 rfl rfl ?_
          refine r_p (pc2 := 95) dX2_judged_94 rfl rfl ?_
          exact r_qI dX2_judged_95 rfl rfl rfl rfl
def x_jd_judged_105 (l1 : Nat) (l2 : Nat) (l3 : Nat) (l4 : Int32) (K : Int32 → St → Int32 × St) : Nat → Int32 → St → Int32 × St
  | 0, _, T => (0, T)
  | f + 1, v5, T => if (T.1 l3 1) ≤ v5 then (K v5 T) else (jn (fun (i1 : Int32) => jn (fun (KJ2 : Int32 × St) => if i1 < 0 then (KJ2) else (if (T.2.2.1 (l1 + 4) (T.2.2.1 (l3 + 1) (T.2.2.1 (l3 + 4) (v5 : Int32).toNatClampNeg : Int32).toNatClampNeg : Int32).toNatClampNeg) < i1 then (KJ2) else (if (x_ro_isLast T l3 v5) = 0 then (x_jd_judged_105 l1 l2 l3 l4 K f (v5 + 1) T) else (x_jd_judged_105 l1 l2 l3 l4 K f (v5 + 1) T)))) (if (x_ro_isLast T l3 v5) = 0 then (x_jd_judged_105 l1 l2 l3 l4 K f (v5 + 1) T) else (3 + (10 * v5), T))) ((l4 - (T.2.2.1 (l3 + 5) (v5 : Int32).toNatClampNeg)) - (T.2.2.1 (l3 + 6) (v5 : Int32).toNatClampNeg)))
def ok_jd_judged_105 (l1 : Nat) (l2 : Nat) (l3 : Nat) (l4 : Int32) (Kk : Int32 → St → Prop) : Nat → Int32 → St → Prop
  | 0, _, _ => False
  | f + 1, v5, T => (sh l3 = .inr 7) ∧ (((T.1 l3 1) ≤ v5 → Kk v5 T) ∧ (¬ (T.1 l3 1) ≤ v5 → (vp_in v5 12) ∧ jn (fun (i1 : Int32) => jn (fun (OJ2 : Prop) => ((i1 < 0 → OJ2) ∧ (¬ i1 < 0 → (sh l1 = .inr 1) ∧ (vp_in (T.2.2.1 (l3 + 4) (v5 : Int32).toNatClampNeg) 4) ∧ (vp_in (T.2.2.1 (l3 + 1) (T.2.2.1 (l3 + 4) (v5 : Int32).toNatClampNeg : Int32).toNatClampNeg) 8) ∧ (((T.2.2.1 (l1 + 4) (T.2.2.1 (l3 + 1) (T.2.2.1 (l3 + 4) (v5 : Int32).toNatClampNeg : Int32).toNatClampNeg : Int32).toNatClampNeg) < i1 → OJ2) ∧ (¬ (T.2.2.1 (l1 + 4) (T.2.2.1 (l3 + 1) (T.2.2.1 (l3 + 4) (v5 : Int32).toNatClampNeg : Int32).toNatClampNeg : Int32).toNatClampNeg) < i1 → (ok_ro_isLast T l3 v5) ∧ (((x_ro_isLast T l3 v5) = 0 → ok_jd_judged_105 l1 l2 l3 l4 Kk f (v5 + 1) T) ∧ (¬ (x_ro_isLast T l3 v5) = 0 → ok_jd_judged_105 l1 l2 l3 l4 Kk f (v5 + 1) T))))))) ((ok_ro_isLast T l3 v5) ∧ ((x_ro_isLast T l3 v5) = 0 → ok_jd_judged_105 l1 l2 l3 l4 Kk f (v5 + 1) T))) ((l4 - (T.2.2.1 (l3 + 5) (v5 : Int32).toNatClampNeg)) - (T.2.2.1 (l3 + 6) (v5 : Int32).toNatClampNeg))))
theorem c_jd_judged_105 {X : Nat × (Nat → Int32)} (l1 : Nat) (l2 : Nat) (l3 : Nat) (l4 : Int32) {K : Int32 → St → Int32 × St} {Kk : Int32 → St → Prop} (hk : ∀ (v5 : Int32) (T : St), Kk v5 T → tR X 4 mX2_judged 196 [some (.ref (527 : Nat)), some (.ref l1), some (.ref l2), some (.ref l3), some (.int l4), some (.int v5), none, none] [] T (rI (K v5 T)).1 ((rI (K v5 T)).2)) : ∀ (f : Nat) (v5 : Int32) (T : St), ok_jd_judged_105 l1 l2 l3 l4 Kk f v5 T → tR X 4 mX2_judged 105 [some (.ref (527 : Nat)), some (.ref l1), some (.ref l2), some (.ref l3), some (.int l4), some (.int v5), none, none] [] T (rI (x_jd_judged_105 l1 l2 l3 l4 K f v5 T)).1 ((rI (x_jd_judged_105 l1 l2 l3 l4 K f v5 T)).2) := by
  intro f
  induction f with
  | zero => intro v5 T kk; exact kk.elim
  | succ f ih =>
    intro v5 T kk
    rw [ok_jd_judged_105] at kk
    rw [x_jd_judged_105]
    refine r_p (pc2 := 107) dX2_judged_105 rfl rfl ?_
    refine r_p (pc2 := 108) dX2_judged_107 rfl rfl ?_
    obtain ⟨q6, kk⟩ := kk
    refine r_get dX2_judged_108 fkX2_36 q6 rfl ?_
    refine r_cge dX2_judged_111 rfl (fun c111_9 => ?_) (fun c111_9 => ?_)
    · refine r_ip (R := rI) c111_9 ?_
      have kk := kk.1 c111_9
      show tR _ _ _ _ [some (.ref (527 : Nat)), some (.ref l1), some (.ref l2), some (.ref l3), some (.int l4), some (.int v5), none, none] _ _ _ _
      exact (hk v5 T kk)
    · refine r_in (R := rI) c111_9 ?_
      have kk := kk.2 c111_9
      refine r_p (pc2 := 116) dX2_judged_114 rfl rfl ?_
      refine r_p (pc2 := 117) dX2_judged_116 rfl rfl ?_
      refine r_get dX2_judged_117 fkX2_42 q6 rfl ?_
      refine r_p (pc2 := 122) dX2_judged_120 rfl rfl ?_
      obtain ⟨q7, kk⟩ := kk
      refine r_ia dX2_judged_122 (shl7_5 q6) q7 ?_
      refine r_p (pc2 := 124) dX2_judged_123 rfl rfl ?_
      refine r_p (pc2 := 125) dX2_judged_124 rfl rfl ?_
      refine r_get dX2_judged_125 fkX2_46 q6 rfl ?_
      refine r_p (pc2 := 130) dX2_judged_128 rfl rfl ?_
      refine r_ia dX2_judged_130 (shl7_6 q6) q7 ?_
      refine r_p (pc2 := 132) dX2_judged_131 rfl rfl ?_
      refine r_nI (R := rI) rfl kk (fun i1 kk => ?_)
      refine r_p (pc2 := 134) (L2 := [some (.ref (527 : Nat)), some (.ref l1), some (.ref l2), some (.ref l3), some (.int l4), some (.int v5), some (.int i1), none]) dX2_judged_132 rfl rfl ?_
      refine r_p (pc2 := 136) dX2_judged_134 rfl rfl ?_
      refine r_jn (R := rI) (J := fun (KJ2 : Int32 × St) (OJ2 : Prop) => OJ2 → tR X 4 mX2_judged 165 [some (.ref (527 : Nat)), some (.ref l1), some (.ref l2), some (.ref l3), some (.int l4), some (.int v5), some (.int i1), none] [] T (rI KJ2).1 (rI KJ2).2) kk (fun  kk => ?_) (fun KJ2 OJ2 hJ2 kk => ?_)
      · skip
        refine r_ci (x := 0) dX2_judged_165 rfl ?_
        refine r_p (pc2 := 168) (L2 := [some (.ref (527 : Nat)), some (.ref l1), some (.ref l2), some (.ref l3), some (.int l4), some (.int v5), some (.int i1), some (.int 0)]) dX2_judged_166 rfl rfl ?_
        refine r_p (pc2 := 169) dX2_judged_168 rfl rfl ?_
        refine r_p (pc2 := 171) dX2_judged_169 rfl rfl ?_
        obtain ⟨q12, kk⟩ := kk
        refine r_cv (d1 := 1) dX2_judged_171 cvX2_68 rfl rfl q6 rfl (Nat.le_of_ble_eq_true rfl) (Nat.le_of_ble_eq_true rfl) (Nat.le_of_ble_eq_true rfl) (c_ro_isLast l3 v5 q12) ?_
        refine r_ieq dX2_judged_174 rfl (fun c174_13 => ?_) (fun c174_13 => ?_)
        · refine r_ip (R := rI) c174_13 ?_
          have kk := kk c174_13
          refine r_inc (L2 := [some (.ref (527 : Nat)), some (.ref l1), some (.ref l2), some (.ref l3), some (.int l4), some (.int (v5 + 1)), some (.int i1), some (.int 0)]) (y := 1) dX2_judged_190 rfl rfl rfl ?_
          refine r_go dX2_judged_193 rfl ?_
          show tR _ _ _ _ [some (.ref (527 : Nat)), some (.ref l1), some (.ref l2), some (.ref l3), some (.int l4), some (.int (v5 + 1)), some (.int i1), some (.int 0)] _ _ _ _
          exact r_le (le_s (le_s (le_s (le_s (le_s (le_s (le_n (le_n (le_0))))))))) (ih (v5 + 1) T kk)
        · refine r_in (R := rI) c174_13 ?_
          refine r_p (pc2 := 179) dX2_judged_177 rfl rfl ?_
          refine r_ine dX2_judged_179 rfl (fun h => absurd h (by decide)) (fun _ => ?_)
          refine r_ci (x := 3) dX2_judged_182 rfl ?_
          refine r_cb (x := 10) dX2_judged_183 rfl ?_
          refine r_p (pc2 := 187) dX2_judged_185 rfl rfl ?_
          refine r_p (pc2 := 188) dX2_judged_187 rfl rfl ?_
          refine r_p (pc2 := 189) dX2_judged_188 rfl rfl ?_
          exact r_qI dX2_judged_189 rfl rfl rfl rfl
      refine r_ilt dX2_judged_136 rfl (fun c136_14 => ?_) (fun c136_14 => ?_)
      · refine r_ip (R := rI) c136_14 ?_
        have kk := kk.1 c136_14
        show tR _ _ _ _ [some (.ref (527 : Nat)), some (.ref l1), some (.ref l2), some (.ref l3), some (.int l4), some (.int v5), some (.int i1), none] [] _ _ _
        exact (hJ2  kk)
      · refine r_in (R := rI) c136_14 ?_
        have kk := kk.2 c136_14
        refine r_p (pc2 := 141) dX2_judged_139 rfl rfl ?_
        refine r_p (pc2 := 142) dX2_judged_141 rfl rfl ?_
        obtain ⟨q13, kk⟩ := kk
        refine r_get dX2_judged_142 fkX2_57 q13 rfl ?_
        refine r_p (pc2 := 146) dX2_judged_145 rfl rfl ?_
        refine r_get dX2_judged_146 fkX2_62 q6 rfl ?_
        refine r_p (pc2 := 150) dX2_judged_149 rfl rfl ?_
        refine r_get dX2_judged_150 fkX2_65 q6 rfl ?_
        refine r_p (pc2 := 155) dX2_judged_153 rfl rfl ?_
        refine r_ia dX2_judged_155 (shl7_4 q6) q7 ?_
        obtain ⟨q14, kk⟩ := kk
        refine r_ia dX2_judged_156 (shl7_1 q6) q14 ?_
        obtain ⟨q15, kk⟩ := kk
        refine r_ia dX2_judged_157 (shl1_4 q13) q15 ?_
        refine r_cgt dX2_judged_158 rfl (fun c158_15 => ?_) (fun c158_15 => ?_)
        · refine r_ip (R := rI) c158_15 ?_
          have kk := kk.1 c158_15
          show tR _ _ _ _ [some (.ref (527 : Nat)), some (.ref l1), some (.ref l2), some (.ref l3), some (.int l4), some (.int v5), some (.int i1), none] [] _ _ _
          exact (hJ2  kk)
        · refine r_in (R := rI) c158_15 ?_
          have kk := kk.2 c158_15
          refine r_ci (x := 1) dX2_judged_161 rfl ?_
          refine r_go dX2_judged_162 rfl ?_
          refine r_p (pc2 := 168) (L2 := [some (.ref (527 : Nat)), some (.ref l1), some (.ref l2), some (.ref l3), some (.int l4), some (.int v5), some (.int i1), some (.int 1)]) dX2_judged_166 rfl rfl ?_
          refine r_p (pc2 := 169) dX2_judged_168 rfl rfl ?_
          refine r_p (pc2 := 171) dX2_judged_169 rfl rfl ?_
          obtain ⟨q16, kk⟩ := kk
          refine r_cv (d1 := 1) dX2_judged_171 cvX2_68 rfl rfl q6 rfl (Nat.le_of_ble_eq_true rfl) (Nat.le_of_ble_eq_true rfl) (Nat.le_of_ble_eq_true rfl) (c_ro_isLast l3 v5 q16) ?_
          refine r_ieq dX2_judged_174 rfl (fun c174_16 => ?_) (fun c174_16 => ?_)
          · refine r_ip (R := rI) c174_16 ?_
            have kk := kk.1 c174_16
            refine r_inc (L2 := [some (.ref (527 : Nat)), some (.ref l1), some (.ref l2), some (.ref l3), some (.int l4), some (.int (v5 + 1)), some (.int i1), some (.int 1)]) (y := 1) dX2_judged_190 rfl rfl rfl ?_
            refine r_go dX2_judged_193 rfl ?_
            show tR _ _ _ _ [some (.ref (527 : Nat)), some (.ref l1), some (.ref l2), some (.ref l3), some (.int l4), some (.int (v5 + 1)), some (.int i1), some (.int 1)] _ _ _ _
            exact r_le (le_s (le_s (le_s (le_s (le_s (le_s (le_n (le_n (le_0))))))))) (ih (v5 + 1) T kk)
          · refine r_in (R := rI) c174_16 ?_
            have kk := kk.2 c174_16
            refine r_p (pc2 := 179) dX2_judged_177 rfl rfl ?_
            refine r_ine dX2_judged_179 rfl (fun _ => ?_) (fun h => absurd h (by decide))
            refine r_inc (L2 := [some (.ref (527 : Nat)), some (.ref l1), some (.ref l2), some (.ref l3), some (.int l4), some (.int (v5 + 1)), some (.int i1), some (.int 1)]) (y := 1) dX2_judged_190 rfl rfl rfl ?_
            refine r_go dX2_judged_193 rfl ?_
            show tR _ _ _ _ [some (.ref (527 : Nat)), some (.ref l1), some (.ref l2), some (.ref l3), some (.int l4), some (.int (v5 + 1)), some (.int i1), some (.int 1)] _ _ _ _
            exact r_le (le_s (le_s (le_s (le_s (le_s (le_s (le_n (le_n (le_0))))))))) (ih (v5 + 1) T kk)
def x_jd_judged (T : St) (p0 : Nat) (p1 : Nat) (p2 : Nat) (p3 : Int32) : Int32 × St := x_jd_judged_3 p0 p1 p2 p3 (fun (w1_5 : Int32) (T201 : St) => x_jd_judged_59 p0 p1 p2 p3 (fun (w2_5 : Int32) (T202 : St) => x_jd_judged_105 p0 p1 p2 p3 (fun (w3_5 : Int32) (T203 : St) => ((x_jd_firstLack T203 p0 p1 p2).1, (x_jd_firstLack T203 p0 p1 p2).2)) 1000 0 T202) 1000 0 T201) 1000 0 T
def ok_jd_judged (T : St) (p0 : Nat) (p1 : Nat) (p2 : Nat) (p3 : Int32) : Prop := ok_jd_judged_3 p0 p1 p2 p3 (fun (w1_5 : Int32) (T201 : St) => ok_jd_judged_59 p0 p1 p2 p3 (fun (w2_5 : Int32) (T202 : St) => ok_jd_judged_105 p0 p1 p2 p3 (fun (w3_5 : Int32) (T203 : St) => (ok_jd_firstLack T203 p0 p1 p2) ∧ True) 1000 0 T202) 1000 0 T201) 1000 0 T
theorem c_jd_judged {X : Nat × (Nat → Int32)} {T : St} (p0 : Nat) (p1 : Nat) (p2 : Nat) (p3 : Int32) (kk : ok_jd_judged T p0 p1 p2 p3) : tC X 5 mX2_judged [.ref (527 : Nat), .ref p0, .ref p1, .ref p2, .int p3] T (some (.int (x_jd_judged T p0 p1 p2 p3).1)) ((x_jd_judged T p0 p1 p2 p3).2) := by
  unfold ok_jd_judged at kk
  refine tC_orI (L := [some (.ref (527 : Nat)), some (.ref p0), some (.ref p1), some (.ref p2), some (.int p3), none, none, none]) (x_jd_judged T p0 p1 p2 p3) rfl ?_
  unfold x_jd_judged
  refine r_ci (x := 0) dX2_judged_0 rfl ?_
  refine r_p (pc2 := 3) (L2 := [some (.ref (527 : Nat)), some (.ref p0), some (.ref p1), some (.ref p2), some (.int p3), some (.int 0), none, none]) dX2_judged_1 rfl rfl ?_
  show tR _ _ _ _ [some (.ref (527 : Nat)), some (.ref p0), some (.ref p1), some (.ref p2), some (.int p3), some (.int 0), none, none] _ _ _ _
  refine (c_jd_judged_3 p0 p1 p2 p3 (fun w1_5 T201 kk => ?_) 1000 0 T kk)
  · skip
    refine r_ci (x := 0) dX2_judged_56 rfl ?_
    refine r_p (pc2 := 59) (L2 := [some (.ref (527 : Nat)), some (.ref p0), some (.ref p1), some (.ref p2), some (.int p3), some (.int 0), none, none]) dX2_judged_57 rfl rfl ?_
    show tR _ _ _ _ [some (.ref (527 : Nat)), some (.ref p0), some (.ref p1), some (.ref p2), some (.int p3), some (.int 0), none, none] _ _ _ _
    refine (c_jd_judged_59 p0 p1 p2 p3 (fun w2_5 T202 kk => ?_) 1000 0 T201 kk)
    · skip
      refine r_ci (x := 0) dX2_judged_102 rfl ?_
      refine r_p (pc2 := 105) (L2 := [some (.ref (527 : Nat)), some (.ref p0), some (.ref p1), some (.ref p2), some (.int p3), some (.int 0), none, none]) dX2_judged_103 rfl rfl ?_
      show tR _ _ _ _ [some (.ref (527 : Nat)), some (.ref p0), some (.ref p1), some (.ref p2), some (.int p3), some (.int 0), none, none] _ _ _ _
      refine (c_jd_judged_105 p0 p1 p2 p3 (fun w3_5 T203 kk => ?_) 1000 0 T202 kk)
      · skip
        refine r_p (pc2 := 197) dX2_judged_196 rfl rfl ?_
        refine r_p (pc2 := 198) dX2_judged_197 rfl rfl ?_
        refine r_p (pc2 := 199) dX2_judged_198 rfl rfl ?_
        refine r_p (pc2 := 200) dX2_judged_199 rfl rfl ?_
        obtain ⟨q17, kk⟩ := kk
        refine r_cv (d1 := 4) dX2_judged_200 cvX2_71 rfl rfl rfl rfl (Nat.le_of_ble_eq_true rfl) (Nat.le_of_ble_eq_true rfl) (Nat.le_of_ble_eq_true rfl) (c_jd_firstLack p0 p1 p2 q17) ?_
        exact r_qI dX2_judged_203 rfl rfl rfl rfl
def x_pl_lay_26 (l1 : Nat) (l2 : Nat) (l3 : Int32) (l4 : Int32) (K : Int32 → St → St) : Nat → Int32 → St → St
  | 0, _, T => T
  | f + 1, v5, T => if (T.1 (T.2.1 2) 4) ≤ v5 then (K v5 T) else (if ((l3 >>> (v5 &&& 31)) &&& 1) = 0 then (x_pl_lay_26 l1 l2 l3 l4 K f (v5 + 1) T) else (x_pl_lay_26 l1 l2 l3 l4 K f (v5 + 1) (x_pl_layDish T v5 l4)))
def ok_pl_lay_26 (l1 : Nat) (l2 : Nat) (l3 : Int32) (l4 : Int32) (Kk : Int32 → St → Prop) : Nat → Int32 → St → Prop
  | 0, _, _ => False
  | f + 1, v5, T => (sh (T.2.1 2) = .inr 1) ∧ (((T.1 (T.2.1 2) 4) ≤ v5 → Kk v5 T) ∧ (¬ (T.1 (T.2.1 2) 4) ≤ v5 → ((((l3 >>> (v5 &&& 31)) &&& 1) = 0 → ok_pl_lay_26 l1 l2 l3 l4 Kk f (v5 + 1) T) ∧ (¬ ((l3 >>> (v5 &&& 31)) &&& 1) = 0 → (ok_pl_layDish T v5 l4) ∧ ok_pl_lay_26 l1 l2 l3 l4 Kk f (v5 + 1) (x_pl_layDish T v5 l4)))))
theorem c_pl_lay_26 {X : Nat × (Nat → Int32)} (l1 : Nat) (l2 : Nat) (l3 : Int32) (l4 : Int32) {K : Int32 → St → St} {Kk : Int32 → St → Prop} (hk : ∀ (v5 : Int32) (T : St), Kk v5 T → tR X 4 mX5_lay 61 [some (.ref (80 : Nat)), some (.ref l1), some (.ref l2), some (.int l3), some (.int l4), some (.int v5)] [] T (rV (K v5 T)).1 ((rV (K v5 T)).2)) : ∀ (f : Nat) (v5 : Int32) (T : St), ok_pl_lay_26 l1 l2 l3 l4 Kk f v5 T → tR X 4 mX5_lay 26 [some (.ref (80 : Nat)), some (.ref l1), some (.ref l2), some (.int l3), some (.int l4), some (.int v5)] [] T (rV (x_pl_lay_26 l1 l2 l3 l4 K f v5 T)).1 ((rV (x_pl_lay_26 l1 l2 l3 l4 K f v5 T)).2) := by
  intro f
  induction f with
  | zero => intro v5 T kk; exact kk.elim
  | succ f ih =>
    intro v5 T kk
    rw [ok_pl_lay_26] at kk
    rw [x_pl_lay_26]
    refine r_p (pc2 := 28) dX5_lay_26 rfl rfl ?_
    refine r_p (pc2 := 29) dX5_lay_28 rfl rfl ?_
    refine r_get dX5_lay_29 fkX5_62 rfl rfl ?_
    obtain ⟨q2, kk⟩ := kk
    refine r_get dX5_lay_32 fkX5_78 q2 rfl ?_
    refine r_cge dX5_lay_35 rfl (fun c35_1 => ?_) (fun c35_1 => ?_)
    · refine r_ip (R := rV) c35_1 ?_
      have kk := kk.1 c35_1
      show tR _ _ _ _ [some (.ref (80 : Nat)), some (.ref l1), some (.ref l2), some (.int l3), some (.int l4), some (.int v5)] _ _ _ _
      exact (hk v5 T kk)
    · refine r_in (R := rV) c35_1 ?_
      have kk := kk.2 c35_1
      refine r_p (pc2 := 39) dX5_lay_38 rfl rfl ?_
      refine r_p (pc2 := 41) dX5_lay_39 rfl rfl ?_
      refine r_p (pc2 := 42) dX5_lay_41 rfl rfl ?_
      refine r_ci (x := 1) dX5_lay_42 rfl ?_
      refine r_p (pc2 := 44) dX5_lay_43 rfl rfl ?_
      refine r_ieq dX5_lay_44 rfl (fun c44_2 => ?_) (fun c44_2 => ?_)
      · refine r_ip (R := rV) c44_2 ?_
        have kk := kk.1 c44_2
        refine r_inc (L2 := [some (.ref (80 : Nat)), some (.ref l1), some (.ref l2), some (.int l3), some (.int l4), some (.int (v5 + 1))]) (y := 1) dX5_lay_55 rfl rfl rfl ?_
        refine r_go dX5_lay_58 rfl ?_
        show tR _ _ _ _ [some (.ref (80 : Nat)), some (.ref l1), some (.ref l2), some (.int l3), some (.int l4), some (.int (v5 + 1))] _ _ _ _
        exact (ih (v5 + 1) T kk)
      · refine r_in (R := rV) c44_2 ?_
        have kk := kk.2 c44_2
        refine r_p (pc2 := 48) dX5_lay_47 rfl rfl ?_
        refine r_p (pc2 := 50) dX5_lay_48 rfl rfl ?_
        refine r_p (pc2 := 52) dX5_lay_50 rfl rfl ?_
        obtain ⟨q3, kk⟩ := kk
        refine r_cv (d1 := 4) dX5_lay_52 cvX5_82 rfl rfl rfl rfl (Nat.le_of_ble_eq_true rfl) (Nat.le_of_ble_eq_true rfl) (Nat.le_of_ble_eq_true rfl) (c_pl_layDish v5 l4 q3) ?_
        refine r_inc (L2 := [some (.ref (80 : Nat)), some (.ref l1), some (.ref l2), some (.int l3), some (.int l4), some (.int (v5 + 1))]) (y := 1) dX5_lay_55 rfl rfl rfl ?_
        refine r_go dX5_lay_58 rfl ?_
        show tR _ _ _ _ [some (.ref (80 : Nat)), some (.ref l1), some (.ref l2), some (.int l3), some (.int l4), some (.int (v5 + 1))] _ _ _ _
        exact (ih (v5 + 1) (x_pl_layDish T v5 l4) kk)
def x_pl_lay (T : St) (p0 : Nat) (p1 : Nat) (p2 : Int32) (p3 : Int32) : St := jn (fun (T1 : St) => x_pl_lay_26 p0 p1 p2 p3 (fun (w1_5 : Int32) (T201 : St) => T201) 1000 0 T1) (x_ta_open (sR (sR T 2 p0) 3 p1) (507 + 5 * (0 : Int32).toNatClampNeg) ((sR (sR T 2 p0) 3 p1).2.1 3))
def ok_pl_lay (T : St) (p0 : Nat) (p1 : Nat) (p2 : Int32) (p3 : Int32) : Prop := (ok_ta_open (sR (sR T 2 p0) 3 p1) (507 + 5 * (0 : Int32).toNatClampNeg) ((sR (sR T 2 p0) 3 p1).2.1 3)) ∧ jn (fun (T1 : St) => ok_pl_lay_26 p0 p1 p2 p3 (fun (w1_5 : Int32) (T201 : St) => True) 1000 0 T1) (x_ta_open (sR (sR T 2 p0) 3 p1) (507 + 5 * (0 : Int32).toNatClampNeg) ((sR (sR T 2 p0) 3 p1).2.1 3))
theorem c_pl_lay {X : Nat × (Nat → Int32)} {T : St} (p0 : Nat) (p1 : Nat) (p2 : Int32) (p3 : Int32) (kk : ok_pl_lay T p0 p1 p2 p3) : tC X 5 mX5_lay [.ref (80 : Nat), .ref p0, .ref p1, .int p2, .int p3] T none (x_pl_lay T p0 p1 p2 p3) := by
  unfold ok_pl_lay at kk
  refine tC_orV (L := [some (.ref (80 : Nat)), some (.ref p0), some (.ref p1), some (.int p2), some (.int p3), none]) (x_pl_lay T p0 p1 p2 p3) rfl ?_
  unfold x_pl_lay
  refine r_p (pc2 := 1) dX5_lay_0 rfl rfl ?_
  refine r_p (pc2 := 2) dX5_lay_1 rfl rfl ?_
  refine r_putr dX5_lay_2 fkX5_62 rfl rfl rfl (Nat.le_of_ble_eq_true rfl) rfl rfl ?_
  refine r_p (pc2 := 6) dX5_lay_5 rfl rfl ?_
  refine r_p (pc2 := 7) dX5_lay_6 rfl rfl ?_
  refine r_putr dX5_lay_7 fkX5_69 rfl rfl rfl (Nat.le_of_ble_eq_true rfl) rfl rfl ?_
  refine r_p (pc2 := 11) dX5_lay_10 rfl rfl ?_
  refine r_get dX5_lay_11 fkX5_31 rfl rfl ?_
  refine r_ci (x := 0) dX5_lay_14 rfl ?_
  refine r_aa dX5_lay_15 rfl (by decide) (in_c (by decide)) (rf93 (in_c (by decide))) ?_
  refine r_p (pc2 := 17) dX5_lay_16 rfl rfl ?_
  refine r_get dX5_lay_17 fkX5_69 rfl rfl ?_
  obtain ⟨q1, kk⟩ := kk
  refine r_cv (d1 := 2) dX5_lay_20 cvX5_75 rfl rfl (shr93 (in_c (by decide))) rfl (Nat.le_of_ble_eq_true rfl) (Nat.le_of_ble_eq_true rfl) (Nat.le_of_ble_eq_true rfl) (c_ta_open (507 + 5 * (0 : Int32).toNatClampNeg) ((sR (sR T 2 p0) 3 p1).2.1 3) q1) ?_
  refine r_nT (R := rV) rfl kk (fun T1 kk => ?_)
  refine r_ci (x := 0) dX5_lay_23 rfl ?_
  refine r_p (pc2 := 26) (L2 := [some (.ref (80 : Nat)), some (.ref p0), some (.ref p1), some (.int p2), some (.int p3), some (.int 0)]) dX5_lay_24 rfl rfl ?_
  show tR _ _ _ _ [some (.ref (80 : Nat)), some (.ref p0), some (.ref p1), some (.int p2), some (.int p3), some (.int 0)] _ _ _ _
  refine (c_pl_lay_26 p0 p1 p2 p3 (fun w1_5 T201 kk => ?_) 1000 0 T1 kk)
  · skip
    exact r_qV dX5_lay_61 rfl rfl
def x_rd_readSteps_2 (l1 : Nat) (K : Int32 → St → St) : Nat → Int32 → St → St
  | 0, _, T => T
  | f + 1, v2, T => if 3 < v2 then (K v2 T) else (if (T.1 13 2) = 0 then (if (x_rd_stepWord T) = (-1) then (if v2 = 0 then (sF T 13 2 1) else (T)) else (if v2 = 3 then (sF T 13 2 3) else (if (T.1 l1 10) < 24 then (jn (fun (T1 : St) => x_rd_readSteps_2 l1 K f (v2 + 1) T1) (sF (x_rd_readStep (x_rd_advance T) l1 ((x_rd_advance T).1 l1 10) (x_rd_stepWord T)) l1 10 (((x_rd_readStep (x_rd_advance T) l1 ((x_rd_advance T).1 l1 10) (x_rd_stepWord T)).1 l1 10) + 1))) else (sF T 13 2 3)))) else (K v2 T))
def ok_rd_readSteps_2 (l1 : Nat) (Kk : Int32 → St → Prop) : Nat → Int32 → St → Prop
  | 0, _, _ => False
  | f + 1, v2, T => ((3 < v2 → Kk v2 T) ∧ (¬ 3 < v2 → (((T.1 13 2) = 0 → (ok_rd_stepWord T) ∧ (¬ (x_rd_stepWord T) = (-1) → (¬ v2 = 3 → (sh l1 = .inr 1) ∧ ((T.1 l1 10) < 24 → (ok_rd_advance T) ∧ (ok_rd_readStep (x_rd_advance T) l1 ((x_rd_advance T).1 l1 10) (x_rd_stepWord T)) ∧ jn (fun (T1 : St) => ok_rd_readSteps_2 l1 Kk f (v2 + 1) T1) (sF (x_rd_readStep (x_rd_advance T) l1 ((x_rd_advance T).1 l1 10) (x_rd_stepWord T)) l1 10 (((x_rd_readStep (x_rd_advance T) l1 ((x_rd_advance T).1 l1 10) (x_rd_stepWord T)).1 l1 10) + 1)))))) ∧ (¬ (T.1 13 2) = 0 → Kk v2 T))))
theorem c_rd_readSteps_2 {X : Nat × (Nat → Int32)} (l1 : Nat) {K : Int32 → St → St} {Kk : Int32 → St → Prop} (hk : ∀ (v2 : Int32) (T : St), Kk v2 T → tR X 6 mX6_readSteps 84 [some (.ref (13 : Nat)), some (.ref l1), some (.int v2), none] [] T (rV (K v2 T)).1 ((rV (K v2 T)).2)) : ∀ (f : Nat) (v2 : Int32) (T : St), ok_rd_readSteps_2 l1 Kk f v2 T → tR X 6 mX6_readSteps 2 [some (.ref (13 : Nat)), some (.ref l1), some (.int v2), none] [] T (rV (x_rd_readSteps_2 l1 K f v2 T)).1 ((rV (x_rd_readSteps_2 l1 K f v2 T)).2) := by
  intro f
  induction f with
  | zero => intro v2 T kk; exact kk.elim
  | succ f ih =>
    intro v2 T kk
    rw [ok_rd_readSteps_2] at kk
    rw [x_rd_readSteps_2]
    refine r_p (pc2 := 3) dX6_readSteps_2 rfl rfl ?_
    refine r_ci (x := 3) dX6_readSteps_3 rfl ?_
    refine r_cgt dX6_readSteps_4 rfl (fun c4_1 => ?_) (fun c4_1 => ?_)
    · refine r_ip (R := rV) c4_1 ?_
      have kk := kk.1 c4_1
      show tR _ _ _ _ [some (.ref (13 : Nat)), some (.ref l1), some (.int v2), none] _ _ _ _
      exact (hk v2 T kk)
    · refine r_in (R := rV) c4_1 ?_
      have kk := kk.2 c4_1
      refine r_p (pc2 := 8) dX6_readSteps_7 rfl rfl ?_
      refine r_get dX6_readSteps_8 fkX6_24 rfl rfl ?_
      refine r_ine dX6_readSteps_11 rfl (fun c11_2 => ?_) (fun c11_2 => ?_)
      · refine r_in (R := rV) c11_2 ?_
        have kk := kk.2 c11_2
        show tR _ _ _ _ [some (.ref (13 : Nat)), some (.ref l1), some (.int v2), none] _ _ _ _
        exact (hk v2 T kk)
      · refine r_ip (R := rV) c11_2 ?_
        have kk := kk.1 c11_2
        refine r_p (pc2 := 15) dX6_readSteps_14 rfl rfl ?_
        obtain ⟨q1, kk⟩ := kk
        refine r_cv (d1 := 6) dX6_readSteps_15 cvX6_108 rfl rfl rfl rfl (Nat.le_of_ble_eq_true rfl) (Nat.le_of_ble_eq_true rfl) (Nat.le_of_ble_eq_true rfl) (c_rd_stepWord  q1) ?_
        refine r_p (pc2 := 19) (L2 := [some (.ref (13 : Nat)), some (.ref l1), some (.int v2), some (.int (x_rd_stepWord T))]) dX6_readSteps_18 rfl rfl ?_
        refine r_p (pc2 := 20) dX6_readSteps_19 rfl rfl ?_
        refine r_ci (x := -1) dX6_readSteps_20 rfl ?_
        refine r_cne dX6_readSteps_21 rfl (fun c21_3 => ?_) (fun c21_3 => ?_)
        · refine r_in (R := rV) c21_3 ?_
          have kk := kk c21_3
          refine r_p (pc2 := 35) dX6_readSteps_34 rfl rfl ?_
          refine r_ci (x := 3) dX6_readSteps_35 rfl ?_
          refine r_ceq dX6_readSteps_36 rfl (fun c36_4 => ?_) (fun c36_4 => ?_)
          · refine r_ip (R := rV) c36_4 ?_
            refine r_p (pc2 := 49) dX6_readSteps_48 rfl rfl ?_
            refine r_ci (x := 3) dX6_readSteps_49 rfl ?_
            refine r_put dX6_readSteps_50 fkX6_24 rfl rfl rfl (Nat.le_of_ble_eq_true rfl) rfl rfl ?_
            exact r_qV dX6_readSteps_53 rfl rfl
          · refine r_in (R := rV) c36_4 ?_
            have kk := kk c36_4
            refine r_p (pc2 := 40) dX6_readSteps_39 rfl rfl ?_
            obtain ⟨q2, kk⟩ := kk
            refine r_get dX6_readSteps_40 fkX6_99 q2 rfl ?_
            refine r_cb (x := 24) dX6_readSteps_43 rfl ?_
            refine r_clt dX6_readSteps_45 rfl (fun c45_5 => ?_) (fun c45_5 => ?_)
            · refine r_ip (R := rV) c45_5 ?_
              have kk := kk c45_5
              refine r_p (pc2 := 55) dX6_readSteps_54 rfl rfl ?_
              obtain ⟨q3, kk⟩ := kk
              refine r_cv (d1 := 2) dX6_readSteps_55 cvX6_30 rfl rfl rfl rfl (Nat.le_of_ble_eq_true rfl) (Nat.le_of_ble_eq_true rfl) (Nat.le_of_ble_eq_true rfl) (c_rd_advance  q3) ?_
              refine r_p (pc2 := 59) dX6_readSteps_58 rfl rfl ?_
              refine r_p (pc2 := 60) dX6_readSteps_59 rfl rfl ?_
              refine r_p (pc2 := 61) dX6_readSteps_60 rfl rfl ?_
              refine r_get dX6_readSteps_61 fkX6_99 q2 rfl ?_
              refine r_p (pc2 := 65) dX6_readSteps_64 rfl rfl ?_
              obtain ⟨q4, kk⟩ := kk
              refine r_cv (d1 := 4) dX6_readSteps_65 cvX6_112 rfl rfl rfl rfl (Nat.le_of_ble_eq_true rfl) (Nat.le_of_ble_eq_true rfl) (Nat.le_of_ble_eq_true rfl) (c_rd_readStep l1 ((x_rd_advance T).1 l1 10) (x_rd_stepWord T) q4) ?_
              refine r_p (pc2 := 69) dX6_readSteps_68 rfl rfl ?_
              refine r_p (pc2 := 70) dX6_readSteps_69 rfl rfl ?_
              refine r_get dX6_readSteps_70 fkX6_99 q2 rfl ?_
              refine r_ci (x := 1) dX6_readSteps_73 rfl ?_
              refine r_p (pc2 := 75) dX6_readSteps_74 rfl rfl ?_
              refine r_put dX6_readSteps_75 fkX6_99 rfl q2 rfl (Nat.le_of_ble_eq_true rfl) rfl rfl ?_
              refine r_nT (R := rV) rfl kk (fun T1 kk => ?_)
              refine r_inc (L2 := [some (.ref (13 : Nat)), some (.ref l1), some (.int (v2 + 1)), some (.int (x_rd_stepWord T))]) (y := 1) dX6_readSteps_78 rfl rfl rfl ?_
              refine r_go dX6_readSteps_81 rfl ?_
              show tR _ _ _ _ [some (.ref (13 : Nat)), some (.ref l1), some (.int (v2 + 1)), some (.int (x_rd_stepWord T))] _ _ _ _
              exact r_le (le_s (le_s (le_s (le_n (le_0))))) (ih (v2 + 1) T1 kk)
            · refine r_in (R := rV) c45_5 ?_
              refine r_p (pc2 := 49) dX6_readSteps_48 rfl rfl ?_
              refine r_ci (x := 3) dX6_readSteps_49 rfl ?_
              refine r_put dX6_readSteps_50 fkX6_24 rfl rfl rfl (Nat.le_of_ble_eq_true rfl) rfl rfl ?_
              exact r_qV dX6_readSteps_53 rfl rfl
        · refine r_ip (R := rV) c21_3 ?_
          refine r_p (pc2 := 25) dX6_readSteps_24 rfl rfl ?_
          refine r_ine dX6_readSteps_25 rfl (fun c25_6 => ?_) (fun c25_6 => ?_)
          · refine r_in (R := rV) c25_6 ?_
            exact r_qV dX6_readSteps_33 rfl rfl
          · refine r_ip (R := rV) c25_6 ?_
            refine r_p (pc2 := 29) dX6_readSteps_28 rfl rfl ?_
            refine r_ci (x := 1) dX6_readSteps_29 rfl ?_
            refine r_put dX6_readSteps_30 fkX6_24 rfl rfl rfl (Nat.le_of_ble_eq_true rfl) rfl rfl ?_
            exact r_qV dX6_readSteps_33 rfl rfl
def x_rd_readSteps (T : St) (p0 : Nat) : St := x_rd_readSteps_2 p0 (fun (w1_2 : Int32) (T201 : St) => T201) 1000 0 T
def ok_rd_readSteps (T : St) (p0 : Nat) : Prop := ok_rd_readSteps_2 p0 (fun (w1_2 : Int32) (T201 : St) => True) 1000 0 T
theorem c_rd_readSteps {X : Nat × (Nat → Int32)} {T : St} (p0 : Nat) (kk : ok_rd_readSteps T p0) : tC X 7 mX6_readSteps [.ref (13 : Nat), .ref p0] T none (x_rd_readSteps T p0) := by
  unfold ok_rd_readSteps at kk
  refine tC_orV (L := [some (.ref (13 : Nat)), some (.ref p0), none, none]) (x_rd_readSteps T p0) rfl ?_
  unfold x_rd_readSteps
  refine r_ci (x := 0) dX6_readSteps_0 rfl ?_
  refine r_p (pc2 := 2) (L2 := [some (.ref (13 : Nat)), some (.ref p0), some (.int 0), none]) dX6_readSteps_1 rfl rfl ?_
  show tR _ _ _ _ [some (.ref (13 : Nat)), some (.ref p0), some (.int 0), none] _ _ _ _
  refine (c_rd_readSteps_2 p0 (fun w1_2 T201 kk => ?_) 1000 0 T kk)
  · skip
    exact r_qV dX6_readSteps_84 rfl rfl
