def x_pl_leavesOpen_4 (l1 : Int32) (l2 : Int32) (K : Int32 → St → Int32 × St) : Nat → Int32 → St → Int32 × St
  | 0, _, T => (0, T)
  | f + 1, v3, T => if (T.1 80 12) ≤ v3 then (K v3 T) else (jn (fun (i1 : Int32) => if i1 = 0 then (0, (x_pl_agreeing T l2 (T.2.2.1 94 (v3 : Int32).toNatClampNeg)).2) else (jn (fun (T2 : St) => x_pl_leavesOpen_4 l1 l2 K f (v3 + 1) T2) (sA ((x_pl_agreeing T l2 (T.2.2.1 94 (v3 : Int32).toNatClampNeg)).2) (100 + (l1 + 1 : Int32).toNatClampNeg) (v3 : Int32).toNatClampNeg i1))) ((T.2.2.1 (100 + (l1 : Int32).toNatClampNeg) (v3 : Int32).toNatClampNeg) &&& ((x_pl_agreeing T l2 (T.2.2.1 94 (v3 : Int32).toNatClampNeg)).1)))
def ok_pl_leavesOpen_4 (l1 : Int32) (l2 : Int32) (Kk : Int32 → St → Prop) : Nat → Int32 → St → Prop
  | 0, _, _ => False
  | f + 1, v3, T => (((T.1 80 12) ≤ v3 → Kk v3 T) ∧ (¬ (T.1 80 12) ≤ v3 → (vp_in l1 5) ∧ (vp_in v3 4) ∧ (ok_pl_agreeing T l2 (T.2.2.1 94 (v3 : Int32).toNatClampNeg)) ∧ jn (fun (i1 : Int32) => (¬ i1 = 0 → (vp_in (l1 + 1) 5) ∧ jn (fun (T2 : St) => ok_pl_leavesOpen_4 l1 l2 Kk f (v3 + 1) T2) (sA ((x_pl_agreeing T l2 (T.2.2.1 94 (v3 : Int32).toNatClampNeg)).2) (100 + (l1 + 1 : Int32).toNatClampNeg) (v3 : Int32).toNatClampNeg i1))) ((T.2.2.1 (100 + (l1 : Int32).toNatClampNeg) (v3 : Int32).toNatClampNeg) &&& ((x_pl_agreeing T l2 (T.2.2.1 94 (v3 : Int32).toNatClampNeg)).1))))
theorem c_pl_leavesOpen_4 {X : Nat × (Nat → Int32)} (l1 : Int32) (l2 : Int32) {K : Int32 → St → Int32 × St} {Kk : Int32 → St → Prop} (hk : ∀ (v3 : Int32) (T : St), Kk v3 T → tR X 3 mX5_leavesOpen 59 [some (.ref (80 : Nat)), some (.int l1), some (.int l2), some (.int v3), none] [] T (rI (K v3 T)).1 ((rI (K v3 T)).2)) : ∀ (f : Nat) (v3 : Int32) (T : St), ok_pl_leavesOpen_4 l1 l2 Kk f v3 T → tR X 3 mX5_leavesOpen 4 [some (.ref (80 : Nat)), some (.int l1), some (.int l2), some (.int v3), none] [] T (rI (x_pl_leavesOpen_4 l1 l2 K f v3 T)).1 ((rI (x_pl_leavesOpen_4 l1 l2 K f v3 T)).2) := by
  intro f
  induction f with
  | zero => intro v3 T kk; exact kk.elim
  | succ f ih =>
    intro v3 T kk
    rw [ok_pl_leavesOpen_4] at kk
    rw [x_pl_leavesOpen_4]
    refine r_p (pc2 := 5) dX5_leavesOpen_4 rfl rfl ?_
    refine r_p (pc2 := 6) dX5_leavesOpen_5 rfl rfl ?_
    refine r_get dX5_leavesOpen_6 fkX5_172 rfl rfl ?_
    refine r_cge dX5_leavesOpen_9 rfl (fun c9_1 => ?_) (fun c9_1 => ?_)
    · refine r_ip (R := rI) c9_1 ?_
      have kk := kk.1 c9_1
      show tR _ _ _ _ [some (.ref (80 : Nat)), some (.int l1), some (.int l2), some (.int v3), none] _ _ _ _
      exact (hk v3 T kk)
    · refine r_in (R := rI) c9_1 ?_
      have kk := kk.2 c9_1
      refine r_p (pc2 := 13) dX5_leavesOpen_12 rfl rfl ?_
      refine r_get dX5_leavesOpen_13 fkX5_52 rfl rfl ?_
      refine r_p (pc2 := 17) dX5_leavesOpen_16 rfl rfl ?_
      obtain ⟨q1, kk⟩ := kk
      refine r_aa dX5_leavesOpen_17 rfl (by decide) q1 (rf99 q1) ?_
      refine r_p (pc2 := 19) dX5_leavesOpen_18 rfl rfl ?_
      obtain ⟨q2, kk⟩ := kk
      refine r_ia dX5_leavesOpen_19 (shr99 q1) q2 ?_
      refine r_p (pc2 := 21) dX5_leavesOpen_20 rfl rfl ?_
      refine r_p (pc2 := 22) dX5_leavesOpen_21 rfl rfl ?_
      refine r_p (pc2 := 23) dX5_leavesOpen_22 rfl rfl ?_
      refine r_get dX5_leavesOpen_23 fkX5_35 rfl rfl ?_
      refine r_p (pc2 := 27) dX5_leavesOpen_26 rfl rfl ?_
      refine r_ia dX5_leavesOpen_27 rfl q2 ?_
      obtain ⟨q3, kk⟩ := kk
      refine r_cv (d1 := 3) dX5_leavesOpen_28 cvX5_190 rfl rfl rfl rfl (Nat.le_of_ble_eq_true rfl) (Nat.le_of_ble_eq_true rfl) (Nat.le_of_ble_eq_true rfl) (c_pl_agreeing l2 (T.2.2.1 94 (v3 : Int32).toNatClampNeg) q3) ?_
      refine r_p (pc2 := 32) dX5_leavesOpen_31 rfl rfl ?_
      refine r_nI (R := rI) rfl kk (fun i1 kk => ?_)
      refine r_p (pc2 := 34) (L2 := [some (.ref (80 : Nat)), some (.int l1), some (.int l2), some (.int v3), some (.int i1)]) dX5_leavesOpen_32 rfl rfl ?_
      refine r_p (pc2 := 36) dX5_leavesOpen_34 rfl rfl ?_
      refine r_ine dX5_leavesOpen_36 rfl (fun c36_2 => ?_) (fun c36_2 => ?_)
      · refine r_in (R := rI) c36_2 ?_
        have kk := kk c36_2
        refine r_p (pc2 := 42) dX5_leavesOpen_41 rfl rfl ?_
        refine r_get dX5_leavesOpen_42 fkX5_52 rfl rfl ?_
        refine r_p (pc2 := 46) dX5_leavesOpen_45 rfl rfl ?_
        refine r_ci (x := 1) dX5_leavesOpen_46 rfl ?_
        refine r_p (pc2 := 48) dX5_leavesOpen_47 rfl rfl ?_
        obtain ⟨q4, kk⟩ := kk
        refine r_aa dX5_leavesOpen_48 rfl (by decide) q4 (rf99 q4) ?_
        refine r_p (pc2 := 50) dX5_leavesOpen_49 rfl rfl ?_
        refine r_p (pc2 := 52) dX5_leavesOpen_50 rfl rfl ?_
        refine r_ias dX5_leavesOpen_52 (shr99 q4) q2 ?_
        refine r_nT (R := rI) rfl kk (fun T2 kk => ?_)
        refine r_inc (L2 := [some (.ref (80 : Nat)), some (.int l1), some (.int l2), some (.int (v3 + 1)), some (.int i1)]) (y := 1) dX5_leavesOpen_53 rfl rfl rfl ?_
        refine r_go dX5_leavesOpen_56 rfl ?_
        show tR _ _ _ _ [some (.ref (80 : Nat)), some (.int l1), some (.int l2), some (.int (v3 + 1)), some (.int i1)] _ _ _ _
        exact r_le (le_s (le_s (le_s (le_s (le_n (le_0)))))) (ih (v3 + 1) T2 kk)
      · refine r_ip (R := rI) c36_2 ?_
        refine r_ci (x := 0) dX5_leavesOpen_39 rfl ?_
        exact r_qI dX5_leavesOpen_40 rfl rfl rfl rfl
def x_pl_leavesOpen (T : St) (p0 : Int32) (p1 : Int32) : Int32 × St := x_pl_leavesOpen_4 p0 p1 (fun (w1_3 : Int32) (T201 : St) => (1, T201)) 1000 (p0 + 1) T
def ok_pl_leavesOpen (T : St) (p0 : Int32) (p1 : Int32) : Prop := ok_pl_leavesOpen_4 p0 p1 (fun (w1_3 : Int32) (T201 : St) => True) 1000 (p0 + 1) T
theorem c_pl_leavesOpen {X : Nat × (Nat → Int32)} {T : St} (p0 : Int32) (p1 : Int32) (kk : ok_pl_leavesOpen T p0 p1) : tC X 4 mX5_leavesOpen [.ref (80 : Nat), .int p0, .int p1] T (some (.int (x_pl_leavesOpen T p0 p1).1)) ((x_pl_leavesOpen T p0 p1).2) := by
  unfold ok_pl_leavesOpen at kk
  refine tC_orI (L := [some (.ref (80 : Nat)), some (.int p0), some (.int p1), none, none]) (x_pl_leavesOpen T p0 p1) rfl ?_
  unfold x_pl_leavesOpen
  refine r_p (pc2 := 1) dX5_leavesOpen_0 rfl rfl ?_
  refine r_ci (x := 1) dX5_leavesOpen_1 rfl ?_
  refine r_p (pc2 := 3) dX5_leavesOpen_2 rfl rfl ?_
  refine r_p (pc2 := 4) (L2 := [some (.ref (80 : Nat)), some (.int p0), some (.int p1), some (.int (p0 + 1)), none]) dX5_leavesOpen_3 rfl rfl ?_
  show tR _ _ _ _ [some (.ref (80 : Nat)), some (.int p0), some (.int p1), some (.int (p0 + 1)), none] _ _ _ _
  refine (c_pl_leavesOpen_4 p0 p1 (fun w1_3 T201 kk => ?_) 1000 (p0 + 1) T kk)
  · skip
    refine r_ci (x := 1) dX5_leavesOpen_59 rfl ?_
    exact r_qI dX5_leavesOpen_60 rfl rfl rfl rfl
def x_rd_takeWord (T : St) (p0 : Nat) : St := if (T.1 13 2) = 0 then (if (x_rd_isWord T p0) = 0 then (sF T 13 2 1) else (x_rd_advance T)) else (T)
def ok_rd_takeWord (T : St) (p0 : Nat) : Prop := ((T.1 13 2) = 0 → (ok_rd_isWord T p0) ∧ (¬ (x_rd_isWord T p0) = 0 → (ok_rd_advance T) ∧ True))
theorem c_rd_takeWord {X : Nat × (Nat → Int32)} {T : St} (p0 : Nat) (kk : ok_rd_takeWord T p0) : tC X 6 mX6_takeWord [.ref (13 : Nat), .ref (mx_B + (10 + p0))] T none (x_rd_takeWord T p0) := by
  unfold ok_rd_takeWord at kk
  refine tC_orV (L := [some (.ref (13 : Nat)), some (.ref (mx_B + (10 + p0)))]) (x_rd_takeWord T p0) rfl ?_
  unfold x_rd_takeWord
  refine r_p (pc2 := 1) dX6_takeWord_0 rfl rfl ?_
  refine r_get dX6_takeWord_1 fkX6_24 rfl rfl ?_
  refine r_ieq dX6_takeWord_4 rfl (fun c4_1 => ?_) (fun c4_1 => ?_)
  · refine r_ip (R := rV) c4_1 ?_
    have kk := kk c4_1
    refine r_p (pc2 := 9) dX6_takeWord_8 rfl rfl ?_
    refine r_p (pc2 := 10) dX6_takeWord_9 rfl rfl ?_
    obtain ⟨q1, kk⟩ := kk
    refine r_cv (d1 := 5) dX6_takeWord_10 cvX6_39 rfl rfl rfl rfl (Nat.le_of_ble_eq_true rfl) (Nat.le_of_ble_eq_true rfl) (Nat.le_of_ble_eq_true rfl) (c_rd_isWord p0 q1) ?_
    refine r_ieq dX6_takeWord_13 rfl (fun c13_2 => ?_) (fun c13_2 => ?_)
    · refine r_ip (R := rV) c13_2 ?_
      refine r_p (pc2 := 24) dX6_takeWord_23 rfl rfl ?_
      refine r_ci (x := 1) dX6_takeWord_24 rfl ?_
      refine r_put dX6_takeWord_25 fkX6_24 rfl rfl rfl (Nat.le_of_ble_eq_true rfl) rfl rfl ?_
      exact r_qV dX6_takeWord_28 rfl rfl
    · refine r_in (R := rV) c13_2 ?_
      have kk := kk c13_2
      refine r_p (pc2 := 17) dX6_takeWord_16 rfl rfl ?_
      obtain ⟨q2, kk⟩ := kk
      refine r_cv (d1 := 2) dX6_takeWord_17 cvX6_30 rfl rfl rfl rfl (Nat.le_of_ble_eq_true rfl) (Nat.le_of_ble_eq_true rfl) (Nat.le_of_ble_eq_true rfl) (c_rd_advance  q2) ?_
      refine r_go dX6_takeWord_20 rfl ?_
      exact r_qV dX6_takeWord_28 rfl rfl
  · refine r_in (R := rV) c4_1 ?_
    exact r_qV dX6_takeWord_7 rfl rfl
def x_rd_takeSign (T : St)  : St := if (T.1 13 2) = 0 then (if (T.1 13 5) = 3 then (x_rd_advance T) else (sF T 13 2 1)) else (T)
def ok_rd_takeSign (T : St)  : Prop := ((T.1 13 2) = 0 → ((T.1 13 5) = 3 → (ok_rd_advance T) ∧ True))
theorem c_rd_takeSign {X : Nat × (Nat → Int32)} {T : St}  (kk : ok_rd_takeSign T ) : tC X 3 mX6_takeSign [.ref (13 : Nat)] T none (x_rd_takeSign T) := by
  unfold ok_rd_takeSign at kk
  refine tC_orV (L := [some (.ref (13 : Nat))]) (x_rd_takeSign T ) rfl ?_
  unfold x_rd_takeSign
  refine r_p (pc2 := 1) dX6_takeSign_0 rfl rfl ?_
  refine r_get dX6_takeSign_1 fkX6_24 rfl rfl ?_
  refine r_ieq dX6_takeSign_4 rfl (fun c4_1 => ?_) (fun c4_1 => ?_)
  · refine r_ip (R := rV) c4_1 ?_
    have kk := kk c4_1
    refine r_p (pc2 := 9) dX6_takeSign_8 rfl rfl ?_
    refine r_get dX6_takeSign_9 fkX6_49 rfl rfl ?_
    refine r_ci (x := 3) dX6_takeSign_12 rfl ?_
    refine r_cne dX6_takeSign_13 rfl (fun c13_2 => ?_) (fun c13_2 => ?_)
    · refine r_in (R := rV) c13_2 ?_
      refine r_p (pc2 := 24) dX6_takeSign_23 rfl rfl ?_
      refine r_ci (x := 1) dX6_takeSign_24 rfl ?_
      refine r_put dX6_takeSign_25 fkX6_24 rfl rfl rfl (Nat.le_of_ble_eq_true rfl) rfl rfl ?_
      exact r_qV dX6_takeSign_28 rfl rfl
    · refine r_ip (R := rV) c13_2 ?_
      have kk := kk c13_2
      refine r_p (pc2 := 17) dX6_takeSign_16 rfl rfl ?_
      obtain ⟨q1, kk⟩ := kk
      refine r_cv (d1 := 2) dX6_takeSign_17 cvX6_30 rfl rfl rfl rfl (Nat.le_of_ble_eq_true rfl) (Nat.le_of_ble_eq_true rfl) (Nat.le_of_ble_eq_true rfl) (c_rd_advance  q1) ?_
      refine r_go dX6_takeSign_20 rfl ?_
      exact r_qV dX6_takeSign_28 rfl rfl
  · refine r_in (R := rV) c4_1 ?_
    exact r_qV dX6_takeSign_7 rfl rfl
def x_rd_takeNumber (T : St) (p0 : Int32) (p1 : Int32) : Int32 × St := if (T.1 13 2) = 0 then (if (T.1 13 5) = 2 then (jn (fun (KJ1 : Int32 × St) => if (T.1 13 6) < p0 then (KJ1) else (if (T.1 13 6) ≤ p1 then (T.1 13 6, x_rd_advance T) else (KJ1))) ((0, sF T 13 2 2))) else (0, sF T 13 2 1)) else (0, T)
def ok_rd_takeNumber (T : St) (p0 : Int32) (p1 : Int32) : Prop := ((T.1 13 2) = 0 → ((T.1 13 5) = 2 → (¬ (T.1 13 6) < p0 → ((T.1 13 6) ≤ p1 → (ok_rd_advance T) ∧ True))))
theorem c_rd_takeNumber {X : Nat × (Nat → Int32)} {T : St} (p0 : Int32) (p1 : Int32) (kk : ok_rd_takeNumber T p0 p1) : tC X 3 mX6_takeNumber [.ref (13 : Nat), .int p0, .int p1] T (some (.int (x_rd_takeNumber T p0 p1).1)) ((x_rd_takeNumber T p0 p1).2) := by
  unfold ok_rd_takeNumber at kk
  refine tC_orI (L := [some (.ref (13 : Nat)), some (.int p0), some (.int p1), none]) (x_rd_takeNumber T p0 p1) rfl ?_
  unfold x_rd_takeNumber
  refine r_p (pc2 := 1) dX6_takeNumber_0 rfl rfl ?_
  refine r_get dX6_takeNumber_1 fkX6_24 rfl rfl ?_
  refine r_ieq dX6_takeNumber_4 rfl (fun c4_1 => ?_) (fun c4_1 => ?_)
  · refine r_ip (R := rI) c4_1 ?_
    have kk := kk c4_1
    refine r_p (pc2 := 10) dX6_takeNumber_9 rfl rfl ?_
    refine r_get dX6_takeNumber_10 fkX6_49 rfl rfl ?_
    refine r_ci (x := 2) dX6_takeNumber_13 rfl ?_
    refine r_ceq dX6_takeNumber_14 rfl (fun c14_2 => ?_) (fun c14_2 => ?_)
    · refine r_ip (R := rI) c14_2 ?_
      have kk := kk c14_2
      refine r_p (pc2 := 25) dX6_takeNumber_24 rfl rfl ?_
      refine r_get dX6_takeNumber_25 fkX6_144 rfl rfl ?_
      refine r_p (pc2 := 29) dX6_takeNumber_28 rfl rfl ?_
      refine r_jn0 (R := rI) (J := fun (KJ1 : Int32 × St) => tR X 2 mX6_takeNumber 40 [some (.ref (13 : Nat)), some (.int p0), some (.int p1), none] [] T (rI KJ1).1 (rI KJ1).2) (?_) (fun KJ1 hJ1 => ?_)
      · skip
        refine r_p (pc2 := 41) dX6_takeNumber_40 rfl rfl ?_
        refine r_ci (x := 2) dX6_takeNumber_41 rfl ?_
        refine r_put dX6_takeNumber_42 fkX6_24 rfl rfl rfl (Nat.le_of_ble_eq_true rfl) rfl rfl ?_
        refine r_ci (x := 0) dX6_takeNumber_45 rfl ?_
        exact r_qI dX6_takeNumber_46 rfl rfl rfl rfl
      refine r_clt dX6_takeNumber_29 rfl (fun c29_5 => ?_) (fun c29_5 => ?_)
      · refine r_ip (R := rI) c29_5 ?_
        show tR _ _ _ _ [some (.ref (13 : Nat)), some (.int p0), some (.int p1), none] [] _ _ _
        exact (hJ1 )
      · refine r_in (R := rI) c29_5 ?_
        have kk := kk c29_5
        refine r_p (pc2 := 33) dX6_takeNumber_32 rfl rfl ?_
        refine r_get dX6_takeNumber_33 fkX6_144 rfl rfl ?_
        refine r_p (pc2 := 37) dX6_takeNumber_36 rfl rfl ?_
        refine r_cle dX6_takeNumber_37 rfl (fun c37_6 => ?_) (fun c37_6 => ?_)
        · refine r_ip (R := rI) c37_6 ?_
          have kk := kk c37_6
          refine r_p (pc2 := 48) dX6_takeNumber_47 rfl rfl ?_
          refine r_get dX6_takeNumber_48 fkX6_144 rfl rfl ?_
          refine r_p (pc2 := 52) (L2 := [some (.ref (13 : Nat)), some (.int p0), some (.int p1), some (.int (T.1 13 6))]) dX6_takeNumber_51 rfl rfl ?_
          refine r_p (pc2 := 53) dX6_takeNumber_52 rfl rfl ?_
          obtain ⟨q2, kk⟩ := kk
          refine r_cv (d1 := 2) dX6_takeNumber_53 cvX6_30 rfl rfl rfl rfl (Nat.le_of_ble_eq_true rfl) (Nat.le_of_ble_eq_true rfl) (Nat.le_of_ble_eq_true rfl) (c_rd_advance  q2) ?_
          refine r_p (pc2 := 57) dX6_takeNumber_56 rfl rfl ?_
          exact r_qI dX6_takeNumber_57 rfl rfl rfl rfl
        · refine r_in (R := rI) c37_6 ?_
          show tR _ _ _ _ [some (.ref (13 : Nat)), some (.int p0), some (.int p1), none] [] _ _ _
          exact (hJ1 )
    · refine r_in (R := rI) c14_2 ?_
      refine r_p (pc2 := 18) dX6_takeNumber_17 rfl rfl ?_
      refine r_ci (x := 1) dX6_takeNumber_18 rfl ?_
      refine r_put dX6_takeNumber_19 fkX6_24 rfl rfl rfl (Nat.le_of_ble_eq_true rfl) rfl rfl ?_
      refine r_ci (x := 0) dX6_takeNumber_22 rfl ?_
      exact r_qI dX6_takeNumber_23 rfl rfl rfl rfl
  · refine r_in (R := rI) c4_1 ?_
    refine r_ci (x := 0) dX6_takeNumber_7 rfl ?_
    exact r_qI dX6_takeNumber_8 rfl rfl rfl rfl
def x_wa_choose_41 (l0 : Nat) (l1 : Nat) (l2 : Int32) (l3 : Int32) (l4 : Int32) (l5 : Int32) (l6 : Int32) (K : Int32 → Int32 → St → St) : Nat → Int32 → Int32 → St → St
  | 0, _, _, T => T
  | f + 1, v7, v8, T => if v8 < 0 then (K v7 v8 T) else (jn (fun (T3 : St) => jn (fun (KJ1 : Int32 → St) => if v8 = 0 then (KJ1 l4) else (if v8 = 1 then (KJ1 l5) else (KJ1 0))) (fun (j1_s2 : Int32) => jn (fun (i4 : Int32) => if ((sA T3 (l0 + 1) (v8 : Int32).toNatClampNeg i4).2.2.1 (l1 + 9) (l6 + v8 : Int32).toNatClampNeg) = 4 then (jn (fun (T5 : St) => x_wa_choose_41 l0 l1 l2 l3 l4 l5 l6 K f i4 (v8 + (-1)) T5) (sF (sA T3 (l0 + 1) (v8 : Int32).toNatClampNeg i4) l0 5 (((sA T3 (l0 + 1) (v8 : Int32).toNatClampNeg i4).1 l0 5) + (((sA T3 (l0 + 1) (v8 : Int32).toNatClampNeg i4).2.2.1 (l1 + 13) (l6 + v8 : Int32).toNatClampNeg) * ((sA T3 (l0 + 1) (v8 : Int32).toNatClampNeg i4).2.2.1 (l0 + 2) (v8 : Int32).toNatClampNeg))))) else (x_wa_choose_41 l0 l1 l2 l3 l4 l5 l6 K f i4 (v8 + (-1)) (sA T3 (l0 + 1) (v8 : Int32).toNatClampNeg i4))) (v7 - ((T3.2.2.1 (l0 + 2) (v8 : Int32).toNatClampNeg) + j1_s2)))) (sA T (l0 + 2) (v8 : Int32).toNatClampNeg (T.2.2.1 (l1 + 10) (l6 + v8 : Int32).toNatClampNeg)))
def ok_wa_choose_41 (l0 : Nat) (l1 : Nat) (l2 : Int32) (l3 : Int32) (l4 : Int32) (l5 : Int32) (l6 : Int32) (Kk : Int32 → Int32 → St → Prop) : Nat → Int32 → Int32 → St → Prop
  | 0, _, _, _ => False
  | f + 1, v7, v8, T => ((v8 < 0 → Kk v7 v8 T) ∧ (¬ v8 < 0 → (sh l0 = .inr 10) ∧ (sh l1 = .inr 1) ∧ (vp_in (l6 + v8) 24) ∧ (vp_in v8 3) ∧ jn (fun (T3 : St) => jn (fun (OJ1 : Int32 → Prop) => ((v8 = 0 → OJ1 l4) ∧ (¬ v8 = 0 → ((v8 = 1 → OJ1 l5) ∧ (¬ v8 = 1 → OJ1 0))))) (fun (j1_s2 : Int32) => jn (fun (i4 : Int32) => ((((sA T3 (l0 + 1) (v8 : Int32).toNatClampNeg i4).2.2.1 (l1 + 9) (l6 + v8 : Int32).toNatClampNeg) = 4 → jn (fun (T5 : St) => ok_wa_choose_41 l0 l1 l2 l3 l4 l5 l6 Kk f i4 (v8 + (-1)) T5) (sF (sA T3 (l0 + 1) (v8 : Int32).toNatClampNeg i4) l0 5 (((sA T3 (l0 + 1) (v8 : Int32).toNatClampNeg i4).1 l0 5) + (((sA T3 (l0 + 1) (v8 : Int32).toNatClampNeg i4).2.2.1 (l1 + 13) (l6 + v8 : Int32).toNatClampNeg) * ((sA T3 (l0 + 1) (v8 : Int32).toNatClampNeg i4).2.2.1 (l0 + 2) (v8 : Int32).toNatClampNeg))))) ∧ (¬ ((sA T3 (l0 + 1) (v8 : Int32).toNatClampNeg i4).2.2.1 (l1 + 9) (l6 + v8 : Int32).toNatClampNeg) = 4 → ok_wa_choose_41 l0 l1 l2 l3 l4 l5 l6 Kk f i4 (v8 + (-1)) (sA T3 (l0 + 1) (v8 : Int32).toNatClampNeg i4)))) (v7 - ((T3.2.2.1 (l0 + 2) (v8 : Int32).toNatClampNeg) + j1_s2)))) (sA T (l0 + 2) (v8 : Int32).toNatClampNeg (T.2.2.1 (l1 + 10) (l6 + v8 : Int32).toNatClampNeg))))
theorem c_wa_choose_41 {X : Nat × (Nat → Int32)} (l0 : Nat) (l1 : Nat) (l2 : Int32) (l3 : Int32) (l4 : Int32) (l5 : Int32) (l6 : Int32) {K : Int32 → Int32 → St → St} {Kk : Int32 → Int32 → St → Prop} (hk : ∀ (v7 : Int32) (v8 : Int32) (T : St), Kk v7 v8 T → tR X 2 mX10_choose 154 [some (.ref l0), some (.ref l1), some (.int l2), some (.int l3), some (.int l4), some (.int l5), some (.int l6), some (.int v7), some (.int v8)] [] T (rV (K v7 v8 T)).1 ((rV (K v7 v8 T)).2)) : ∀ (f : Nat) (v7 : Int32) (v8 : Int32) (T : St), ok_wa_choose_41 l0 l1 l2 l3 l4 l5 l6 Kk f v7 v8 T → tR X 2 mX10_choose 41 [some (.ref l0), some (.ref l1), some (.int l2), some (.int l3), some (.int l4), some (.int l5), some (.int l6), some (.int v7), some (.int v8)] [] T (rV (x_wa_choose_41 l0 l1 l2 l3 l4 l5 l6 K f v7 v8 T)).1 ((rV (x_wa_choose_41 l0 l1 l2 l3 l4 l5 l6 K f v7 v8 T)).2) := by
  intro f
  induction f with
  | zero => intro v7 v8 T kk; exact kk.elim
  | succ f ih =>
    intro v7 v8 T kk
    rw [ok_wa_choose_41] at kk
    rw [x_wa_choose_41]
    refine r_p (pc2 := 43) dX10_choose_41 rfl rfl ?_
    refine r_ilt dX10_choose_43 rfl (fun c43_1 => ?_) (fun c43_1 => ?_)
    · refine r_ip (R := rV) c43_1 ?_
      have kk := kk.1 c43_1
      show tR _ _ _ _ [some (.ref l0), some (.ref l1), some (.int l2), some (.int l3), some (.int l4), some (.int l5), some (.int l6), some (.int v7), some (.int v8)] _ _ _ _
      exact (hk v7 v8 T kk)
    · refine r_in (R := rV) c43_1 ?_
      have kk := kk.2 c43_1
      refine r_p (pc2 := 47) dX10_choose_46 rfl rfl ?_
      obtain ⟨q5, kk⟩ := kk
      refine r_get dX10_choose_47 fkX10_15 q5 rfl ?_
      refine r_p (pc2 := 52) dX10_choose_50 rfl rfl ?_
      refine r_p (pc2 := 53) dX10_choose_52 rfl rfl ?_
      obtain ⟨q6, kk⟩ := kk
      refine r_get dX10_choose_53 fkX10_37 q6 rfl ?_
      refine r_p (pc2 := 58) dX10_choose_56 rfl rfl ?_
      refine r_p (pc2 := 60) dX10_choose_58 rfl rfl ?_
      refine r_p (pc2 := 61) dX10_choose_60 rfl rfl ?_
      obtain ⟨q7, kk⟩ := kk
      refine r_ia dX10_choose_61 (shl1_10 q6) q7 ?_
      obtain ⟨q8, kk⟩ := kk
      refine r_ias dX10_choose_62 (shl10_2 q5) q8 ?_
      refine r_nT (R := rV) rfl kk (fun T3 kk => ?_)
      refine r_p (pc2 := 65) dX10_choose_63 rfl rfl ?_
      refine r_p (pc2 := 66) dX10_choose_65 rfl rfl ?_
      refine r_get dX10_choose_66 fkX10_15 q5 rfl ?_
      refine r_p (pc2 := 71) dX10_choose_69 rfl rfl ?_
      refine r_ia dX10_choose_71 (shl10_2 q5) q8 ?_
      refine r_p (pc2 := 74) dX10_choose_72 rfl rfl ?_
      refine r_jn (R := rV) (J := fun (KJ1 : Int32 → St) (OJ1 : Int32 → Prop) => ∀ (j1_s2 : Int32), OJ1 j1_s2 → tR X 2 mX10_choose 94 [some (.ref l0), some (.ref l1), some (.int l2), some (.int l3), some (.int l4), some (.int l5), some (.int l6), some (.int v7), some (.int v8)] [.int j1_s2, .int (T3.2.2.1 (l0 + 2) (v8 : Int32).toNatClampNeg), .int v7] T3 (rV (KJ1 j1_s2)).1 (rV (KJ1 j1_s2)).2) kk (fun j1_s2 kk => ?_) (fun KJ1 OJ1 hJ1 kk => ?_)
      · skip
        refine r_p (pc2 := 95) dX10_choose_94 rfl rfl ?_
        refine r_p (pc2 := 96) dX10_choose_95 rfl rfl ?_
        refine r_nI (R := rV) rfl kk (fun i4 kk => ?_)
        refine r_p (pc2 := 98) (L2 := [some (.ref l0), some (.ref l1), some (.int l2), some (.int l3), some (.int l4), some (.int l5), some (.int l6), some (.int i4), some (.int v8)]) dX10_choose_96 rfl rfl ?_
        refine r_p (pc2 := 99) dX10_choose_98 rfl rfl ?_
        refine r_get dX10_choose_99 fkX10_9 q5 rfl ?_
        refine r_p (pc2 := 104) dX10_choose_102 rfl rfl ?_
        refine r_p (pc2 := 106) dX10_choose_104 rfl rfl ?_
        refine r_ias dX10_choose_106 (shl10_1 q5) q8 ?_
        refine r_p (pc2 := 108) dX10_choose_107 rfl rfl ?_
        refine r_get dX10_choose_108 fkX10_38 q6 rfl ?_
        refine r_p (pc2 := 113) dX10_choose_111 rfl rfl ?_
        refine r_p (pc2 := 115) dX10_choose_113 rfl rfl ?_
        refine r_p (pc2 := 116) dX10_choose_115 rfl rfl ?_
        refine r_ia dX10_choose_116 (shl1_9 q6) q7 ?_
        refine r_ci (x := 4) dX10_choose_117 rfl ?_
        refine r_cne dX10_choose_118 rfl (fun c118_4 => ?_) (fun c118_4 => ?_)
        · refine r_in (R := rV) c118_4 ?_
          have kk := kk.2 c118_4
          refine r_inc (L2 := [some (.ref l0), some (.ref l1), some (.int l2), some (.int l3), some (.int l4), some (.int l5), some (.int l6), some (.int i4), some (.int (v8 + (-1)))]) (y := -1) dX10_choose_148 rfl rfl rfl ?_
          refine r_go dX10_choose_151 rfl ?_
          show tR _ _ _ _ [some (.ref l0), some (.ref l1), some (.int l2), some (.int l3), some (.int l4), some (.int l5), some (.int l6), some (.int i4), some (.int (v8 + (-1)))] _ _ _ _
          exact (ih i4 (v8 + (-1)) (sA T3 (l0 + 1) (v8 : Int32).toNatClampNeg i4) kk)
        · refine r_ip (R := rV) c118_4 ?_
          have kk := kk.1 c118_4
          refine r_p (pc2 := 122) dX10_choose_121 rfl rfl ?_
          refine r_p (pc2 := 123) dX10_choose_122 rfl rfl ?_
          refine r_get dX10_choose_123 fkX10_31 q5 rfl ?_
          refine r_p (pc2 := 127) dX10_choose_126 rfl rfl ?_
          refine r_get dX10_choose_127 fkX10_41 q6 rfl ?_
          refine r_p (pc2 := 132) dX10_choose_130 rfl rfl ?_
          refine r_p (pc2 := 134) dX10_choose_132 rfl rfl ?_
          refine r_p (pc2 := 135) dX10_choose_134 rfl rfl ?_
          refine r_ia dX10_choose_135 (shl1_13 q6) q7 ?_
          refine r_p (pc2 := 137) dX10_choose_136 rfl rfl ?_
          refine r_get dX10_choose_137 fkX10_15 q5 rfl ?_
          refine r_p (pc2 := 142) dX10_choose_140 rfl rfl ?_
          refine r_ia dX10_choose_142 (shl10_2 q5) q8 ?_
          refine r_p (pc2 := 144) dX10_choose_143 rfl rfl ?_
          refine r_p (pc2 := 145) dX10_choose_144 rfl rfl ?_
          refine r_put dX10_choose_145 fkX10_31 rfl q5 rfl (Nat.le_of_ble_eq_true rfl) rfl rfl ?_
          refine r_nT (R := rV) rfl kk (fun T5 kk => ?_)
          refine r_inc (L2 := [some (.ref l0), some (.ref l1), some (.int l2), some (.int l3), some (.int l4), some (.int l5), some (.int l6), some (.int i4), some (.int (v8 + (-1)))]) (y := -1) dX10_choose_148 rfl rfl rfl ?_
          refine r_go dX10_choose_151 rfl ?_
          show tR _ _ _ _ [some (.ref l0), some (.ref l1), some (.int l2), some (.int l3), some (.int l4), some (.int l5), some (.int l6), some (.int i4), some (.int (v8 + (-1)))] _ _ _ _
          exact (ih i4 (v8 + (-1)) T5 kk)
      refine r_ine dX10_choose_74 rfl (fun c74_5 => ?_) (fun c74_5 => ?_)
      · refine r_in (R := rV) c74_5 ?_
        have kk := kk.2 c74_5
        refine r_p (pc2 := 84) dX10_choose_82 rfl rfl ?_
        refine r_ci (x := 1) dX10_choose_84 rfl ?_
        refine r_cne dX10_choose_85 rfl (fun c85_6 => ?_) (fun c85_6 => ?_)
        · refine r_in (R := rV) c85_6 ?_
          have kk := kk.2 c85_6
          refine r_ci (x := 0) dX10_choose_93 rfl ?_
          show tR _ _ _ _ [some (.ref l0), some (.ref l1), some (.int l2), some (.int l3), some (.int l4), some (.int l5), some (.int l6), some (.int v7), some (.int v8)] [.int 0, .int (T3.2.2.1 (l0 + 2) (v8 : Int32).toNatClampNeg), .int v7] _ _ _
          exact (hJ1 0 kk)
        · refine r_ip (R := rV) c85_6 ?_
          have kk := kk.1 c85_6
          refine r_p (pc2 := 90) dX10_choose_88 rfl rfl ?_
          refine r_go dX10_choose_90 rfl ?_
          show tR _ _ _ _ [some (.ref l0), some (.ref l1), some (.int l2), some (.int l3), some (.int l4), some (.int l5), some (.int l6), some (.int v7), some (.int v8)] [.int l5, .int (T3.2.2.1 (l0 + 2) (v8 : Int32).toNatClampNeg), .int v7] _ _ _
          exact (hJ1 l5 kk)
      · refine r_ip (R := rV) c74_5 ?_
        have kk := kk.1 c74_5
        refine r_p (pc2 := 79) dX10_choose_77 rfl rfl ?_
        refine r_go dX10_choose_79 rfl ?_
        show tR _ _ _ _ [some (.ref l0), some (.ref l1), some (.int l2), some (.int l3), some (.int l4), some (.int l5), some (.int l6), some (.int v7), some (.int v8)] [.int l4, .int (T3.2.2.1 (l0 + 2) (v8 : Int32).toNatClampNeg), .int v7] _ _ _
        exact (hJ1 l4 kk)
def x_wa_choose (T : St) (a : Nat) (p0 : Nat) (p1 : Int32) (p2 : Int32) (p3 : Int32) (p4 : Int32) : St := jn (fun (i1 : Int32) => jn (fun (i2 : Int32) => x_wa_choose_41 a p0 p1 p2 p3 p4 i1 (fun (w1_7 : Int32) (w1_8 : Int32) (T201 : St) => jn (fun (KJ2 : St) => if w1_7 < 0 then (KJ2) else (if (x_wa_isWarmed T201 a p0) = 0 then (KJ2) else (if (x_wa_agrees T201 a p0 a) = 0 then (KJ2) else (if ((sF T201 a 6 1).1 a 6) = 0 then (sF T201 a 6 1) else (x_wa_lay (sF T201 a 6 1) a p0))))) (if ((sF T201 a 6 0).1 a 6) = 0 then (sF T201 a 6 0) else (x_wa_lay (sF T201 a 6 0) a p0))) 1000 p2 i2 (sF (sF T a 3 p1) a 5 (p3 + p4))) (((sF (sF T a 3 p1) a 5 (p3 + p4)).2.2.1 (p0 + 7) ((sF (sF T a 3 p1) a 5 (p3 + p4)).1 a 3 : Int32).toNatClampNeg) - 1)) ((sF T a 3 p1).2.2.1 (p0 + 8) ((sF T a 3 p1).1 a 3 : Int32).toNatClampNeg)
def ok_wa_choose (T : St) (a : Nat) (p0 : Nat) (p1 : Int32) (p2 : Int32) (p3 : Int32) (p4 : Int32) : Prop := (sh a = .inr 10) ∧ (sh p0 = .inr 1) ∧ (vp_in ((sF T a 3 p1).1 a 3) 8) ∧ jn (fun (i1 : Int32) => (vp_in ((sF (sF T a 3 p1) a 5 (p3 + p4)).1 a 3) 8) ∧ jn (fun (i2 : Int32) => ok_wa_choose_41 a p0 p1 p2 p3 p4 i1 (fun (w1_7 : Int32) (w1_8 : Int32) (T201 : St) => jn (fun (OJ2 : Prop) => ((w1_7 < 0 → OJ2) ∧ (¬ w1_7 < 0 → (ok_wa_isWarmed T201 a p0) ∧ (((x_wa_isWarmed T201 a p0) = 0 → OJ2) ∧ (¬ (x_wa_isWarmed T201 a p0) = 0 → (ok_wa_agrees T201 a p0 a) ∧ (((x_wa_agrees T201 a p0 a) = 0 → OJ2) ∧ (¬ (x_wa_agrees T201 a p0 a) = 0 → (¬ ((sF T201 a 6 1).1 a 6) = 0 → (ok_wa_lay (sF T201 a 6 1) a p0) ∧ True)))))))) ((¬ ((sF T201 a 6 0).1 a 6) = 0 → (ok_wa_lay (sF T201 a 6 0) a p0) ∧ True))) 1000 p2 i2 (sF (sF T a 3 p1) a 5 (p3 + p4))) (((sF (sF T a 3 p1) a 5 (p3 + p4)).2.2.1 (p0 + 7) ((sF (sF T a 3 p1) a 5 (p3 + p4)).1 a 3 : Int32).toNatClampNeg) - 1)) ((sF T a 3 p1).2.2.1 (p0 + 8) ((sF T a 3 p1).1 a 3 : Int32).toNatClampNeg)
theorem c_wa_choose {X : Nat × (Nat → Int32)} {T : St} (a : Nat) (p0 : Nat) (p1 : Int32) (p2 : Int32) (p3 : Int32) (p4 : Int32) (kk : ok_wa_choose T a p0 p1 p2 p3 p4) : tC X 3 mX10_choose [.ref a, .ref p0, .int p1, .int p2, .int p3, .int p4] T none (x_wa_choose T a p0 p1 p2 p3 p4) := by
  unfold ok_wa_choose at kk
  refine tC_orV (L := [some (.ref a), some (.ref p0), some (.int p1), some (.int p2), some (.int p3), some (.int p4), none, none, none]) (x_wa_choose T a p0 p1 p2 p3 p4) rfl ?_
  unfold x_wa_choose
  refine r_p (pc2 := 1) dX10_choose_0 rfl rfl ?_
  refine r_p (pc2 := 2) dX10_choose_1 rfl rfl ?_
  obtain ⟨q1, kk⟩ := kk
  refine r_put dX10_choose_2 fkX10_22 rfl q1 rfl (Nat.le_of_ble_eq_true rfl) rfl rfl ?_
  refine r_p (pc2 := 6) dX10_choose_5 rfl rfl ?_
  obtain ⟨q2, kk⟩ := kk
  refine r_get dX10_choose_6 fkX10_26 q2 rfl ?_
  refine r_p (pc2 := 10) dX10_choose_9 rfl rfl ?_
  refine r_get dX10_choose_10 fkX10_22 q1 rfl ?_
  obtain ⟨q3, kk⟩ := kk
  refine r_ia dX10_choose_13 (shl1_8 q2) q3 ?_
  refine r_nI (R := rV) rfl kk (fun i1 kk => ?_)
  refine r_p (pc2 := 16) (L2 := [some (.ref a), some (.ref p0), some (.int p1), some (.int p2), some (.int p3), some (.int p4), some (.int i1), none, none]) dX10_choose_14 rfl rfl ?_
  refine r_p (pc2 := 17) dX10_choose_16 rfl rfl ?_
  refine r_p (pc2 := 19) (L2 := [some (.ref a), some (.ref p0), some (.int p1), some (.int p2), some (.int p3), some (.int p4), some (.int i1), some (.int p2), none]) dX10_choose_17 rfl rfl ?_
  refine r_p (pc2 := 20) dX10_choose_19 rfl rfl ?_
  refine r_p (pc2 := 22) dX10_choose_20 rfl rfl ?_
  refine r_p (pc2 := 24) dX10_choose_22 rfl rfl ?_
  refine r_p (pc2 := 25) dX10_choose_24 rfl rfl ?_
  refine r_put dX10_choose_25 fkX10_31 rfl q1 rfl (Nat.le_of_ble_eq_true rfl) rfl rfl ?_
  refine r_p (pc2 := 29) dX10_choose_28 rfl rfl ?_
  refine r_get dX10_choose_29 fkX10_34 q2 rfl ?_
  refine r_p (pc2 := 33) dX10_choose_32 rfl rfl ?_
  refine r_get dX10_choose_33 fkX10_22 q1 rfl ?_
  obtain ⟨q4, kk⟩ := kk
  refine r_ia dX10_choose_36 (shl1_7 q2) q4 ?_
  refine r_ci (x := 1) dX10_choose_37 rfl ?_
  refine r_p (pc2 := 39) dX10_choose_38 rfl rfl ?_
  refine r_nI (R := rV) rfl kk (fun i2 kk => ?_)
  refine r_p (pc2 := 41) (L2 := [some (.ref a), some (.ref p0), some (.int p1), some (.int p2), some (.int p3), some (.int p4), some (.int i1), some (.int p2), some (.int i2)]) dX10_choose_39 rfl rfl ?_
  show tR _ _ _ _ [some (.ref a), some (.ref p0), some (.int p1), some (.int p2), some (.int p3), some (.int p4), some (.int i1), some (.int p2), some (.int i2)] _ _ _ _
  refine (c_wa_choose_41 a p0 p1 p2 p3 p4 i1 (fun w1_7 w1_8 T201 kk => ?_) 1000 p2 i2 (sF (sF T a 3 p1) a 5 (p3 + p4)) kk)
  · skip
    refine r_p (pc2 := 155) dX10_choose_154 rfl rfl ?_
    refine r_p (pc2 := 157) dX10_choose_155 rfl rfl ?_
    refine r_jn (R := rV) (J := fun (KJ2 : St) (OJ2 : Prop) => OJ2 → tR X 2 mX10_choose 181 [some (.ref a), some (.ref p0), some (.int p1), some (.int p2), some (.int p3), some (.int p4), some (.int i1), some (.int w1_7), some (.int w1_8)] [.ref a] T201 (rV KJ2).1 (rV KJ2).2) kk (fun  kk => ?_) (fun KJ2 OJ2 hJ2 kk => ?_)
    · skip
      refine r_ci (x := 0) dX10_choose_181 rfl ?_
      refine r_put dX10_choose_182 fkX10_52 rfl q1 rfl (Nat.le_of_ble_eq_true rfl) rfl rfl ?_
      refine r_p (pc2 := 186) dX10_choose_185 rfl rfl ?_
      refine r_get dX10_choose_186 fkX10_52 q1 rfl ?_
      refine r_ieq dX10_choose_189 rfl (fun c189_11 => ?_) (fun c189_11 => ?_)
      · refine r_ip (R := rV) c189_11 ?_
        exact r_qV dX10_choose_197 rfl rfl
      · refine r_in (R := rV) c189_11 ?_
        have kk := kk c189_11
        refine r_p (pc2 := 193) dX10_choose_192 rfl rfl ?_
        refine r_p (pc2 := 194) dX10_choose_193 rfl rfl ?_
        obtain ⟨q12, kk⟩ := kk
        refine r_cv (d1 := 2) dX10_choose_194 cvX10_56 rfl rfl q1 rfl (Nat.le_of_ble_eq_true rfl) (Nat.le_of_ble_eq_true rfl) (Nat.le_of_ble_eq_true rfl) (c_wa_lay a p0 q12) ?_
        exact r_qV dX10_choose_197 rfl rfl
    refine r_ilt dX10_choose_157 rfl (fun c157_12 => ?_) (fun c157_12 => ?_)
    · refine r_ip (R := rV) c157_12 ?_
      have kk := kk.1 c157_12
      show tR _ _ _ _ [some (.ref a), some (.ref p0), some (.int p1), some (.int p2), some (.int p3), some (.int p4), some (.int i1), some (.int w1_7), some (.int w1_8)] [.ref a] _ _ _
      exact (hJ2  kk)
    · refine r_in (R := rV) c157_12 ?_
      have kk := kk.2 c157_12
      refine r_p (pc2 := 161) dX10_choose_160 rfl rfl ?_
      refine r_p (pc2 := 162) dX10_choose_161 rfl rfl ?_
      obtain ⟨q13, kk⟩ := kk
      refine r_cv (d1 := 2) dX10_choose_162 cvX10_44 rfl rfl q1 rfl (Nat.le_of_ble_eq_true rfl) (Nat.le_of_ble_eq_true rfl) (Nat.le_of_ble_eq_true rfl) (c_wa_isWarmed a p0 q13) ?_
      refine r_ieq dX10_choose_165 rfl (fun c165_13 => ?_) (fun c165_13 => ?_)
      · refine r_ip (R := rV) c165_13 ?_
        have kk := kk.1 c165_13
        show tR _ _ _ _ [some (.ref a), some (.ref p0), some (.int p1), some (.int p2), some (.int p3), some (.int p4), some (.int i1), some (.int w1_7), some (.int w1_8)] [.ref a] _ _ _
        exact (hJ2  kk)
      · refine r_in (R := rV) c165_13 ?_
        have kk := kk.2 c165_13
        refine r_p (pc2 := 169) dX10_choose_168 rfl rfl ?_
        refine r_p (pc2 := 170) dX10_choose_169 rfl rfl ?_
        refine r_p (pc2 := 171) dX10_choose_170 rfl rfl ?_
        obtain ⟨q14, kk⟩ := kk
        refine r_cv (d1 := 2) dX10_choose_171 cvX10_48 rfl rfl q1 rfl (Nat.le_of_ble_eq_true rfl) (Nat.le_of_ble_eq_true rfl) (Nat.le_of_ble_eq_true rfl) (c_wa_agrees a p0 a q14) ?_
        refine r_ieq dX10_choose_174 rfl (fun c174_14 => ?_) (fun c174_14 => ?_)
        · refine r_ip (R := rV) c174_14 ?_
          have kk := kk.1 c174_14
          show tR _ _ _ _ [some (.ref a), some (.ref p0), some (.int p1), some (.int p2), some (.int p3), some (.int p4), some (.int i1), some (.int w1_7), some (.int w1_8)] [.ref a] _ _ _
          exact (hJ2  kk)
        · refine r_in (R := rV) c174_14 ?_
          have kk := kk.2 c174_14
          refine r_ci (x := 1) dX10_choose_177 rfl ?_
          refine r_go dX10_choose_178 rfl ?_
          refine r_put dX10_choose_182 fkX10_52 rfl q1 rfl (Nat.le_of_ble_eq_true rfl) rfl rfl ?_
          refine r_p (pc2 := 186) dX10_choose_185 rfl rfl ?_
          refine r_get dX10_choose_186 fkX10_52 q1 rfl ?_
          refine r_ieq dX10_choose_189 rfl (fun c189_15 => ?_) (fun c189_15 => ?_)
          · refine r_ip (R := rV) c189_15 ?_
            exact r_qV dX10_choose_197 rfl rfl
          · refine r_in (R := rV) c189_15 ?_
            have kk := kk c189_15
            refine r_p (pc2 := 193) dX10_choose_192 rfl rfl ?_
            refine r_p (pc2 := 194) dX10_choose_193 rfl rfl ?_
            obtain ⟨q15, kk⟩ := kk
            refine r_cv (d1 := 2) dX10_choose_194 cvX10_56 rfl rfl q1 rfl (Nat.le_of_ble_eq_true rfl) (Nat.le_of_ble_eq_true rfl) (Nat.le_of_ble_eq_true rfl) (c_wa_lay a p0 q15) ?_
            exact r_qV dX10_choose_197 rfl rfl
def x_x_dinner (T : St) (p0 : Int32) : Int32 × St := if (x_J_bitCount T p0) < 1 then ((-1000001), T) else (if 4 < (x_J_bitCount T p0) then ((-1000001), T) else (if (p0 &&& ((x_bk_allDishes T (T.2.1 0)) ^^^ (-1))) = 0 then (x_J_bitCount T p0, x_x_changed (sF T (T.2.1 0) 17 p0)) else ((-1000001), T)))
def ok_x_dinner (T : St) (p0 : Int32) : Prop := (¬ (x_J_bitCount T p0) < 1 → (¬ 4 < (x_J_bitCount T p0) → (ok_bk_allDishes T (T.2.1 0)) ∧ (sh (T.2.1 0) = .inr 1) ∧ ((p0 &&& ((x_bk_allDishes T (T.2.1 0)) ^^^ (-1))) = 0 → (ok_x_changed (sF T (T.2.1 0) 17 p0)) ∧ True)))
theorem c_x_dinner {X : Nat × (Nat → Int32)} {T : St} (p0 : Int32) (kk : ok_x_dinner T p0) : tC X 5 mX11_dinner [.ref (0 : Nat), .int p0] T (some (.int (x_x_dinner T p0).1)) ((x_x_dinner T p0).2) := by
  unfold ok_x_dinner at kk
  refine tC_orI (L := [some (.ref (0 : Nat)), some (.int p0), none]) (x_x_dinner T p0) rfl ?_
  unfold x_x_dinner
  refine r_p (pc2 := 1) dX11_dinner_0 rfl rfl ?_
  refine r_cs (d1 := 1) dX11_dinner_1 csX11_200 rfl rfl (Nat.le_of_ble_eq_true rfl) (Nat.le_of_ble_eq_true rfl) (Nat.le_of_ble_eq_true rfl) (c_J_bitCount p0) ?_
  refine r_p (pc2 := 5) (L2 := [some (.ref (0 : Nat)), some (.int p0), some (.int (x_J_bitCount T p0))]) dX11_dinner_4 rfl rfl ?_
  refine r_p (pc2 := 6) dX11_dinner_5 rfl rfl ?_
  refine r_ci (x := 1) dX11_dinner_6 rfl ?_
  refine r_clt dX11_dinner_7 rfl (fun c7_1 => ?_) (fun c7_1 => ?_)
  · refine r_ip (R := rI) c7_1 ?_
    refine r_k dX11_dinner_29 kkX11_82 ?_
    exact r_qI dX11_dinner_31 rfl rfl rfl rfl
  · refine r_in (R := rI) c7_1 ?_
    have kk := kk c7_1
    refine r_p (pc2 := 11) dX11_dinner_10 rfl rfl ?_
    refine r_ci (x := 4) dX11_dinner_11 rfl ?_
    refine r_cgt dX11_dinner_12 rfl (fun c12_2 => ?_) (fun c12_2 => ?_)
    · refine r_ip (R := rI) c12_2 ?_
      refine r_k dX11_dinner_29 kkX11_82 ?_
      exact r_qI dX11_dinner_31 rfl rfl rfl rfl
    · refine r_in (R := rI) c12_2 ?_
      have kk := kk c12_2
      refine r_p (pc2 := 16) dX11_dinner_15 rfl rfl ?_
      refine r_p (pc2 := 17) dX11_dinner_16 rfl rfl ?_
      refine r_get dX11_dinner_17 fkX11_30 rfl rfl ?_
      obtain ⟨q1, kk⟩ := kk
      obtain ⟨q2, kk⟩ := kk
      refine r_cv (d1 := 1) dX11_dinner_20 cvX11_205 rfl rfl q2 rfl (Nat.le_of_ble_eq_true rfl) (Nat.le_of_ble_eq_true rfl) (Nat.le_of_ble_eq_true rfl) (c_bk_allDishes (T.2.1 0) q1) ?_
      refine r_ci (x := -1) dX11_dinner_23 rfl ?_
      refine r_p (pc2 := 25) dX11_dinner_24 rfl rfl ?_
      refine r_p (pc2 := 26) dX11_dinner_25 rfl rfl ?_
      refine r_ieq dX11_dinner_26 rfl (fun c26_3 => ?_) (fun c26_3 => ?_)
      · refine r_ip (R := rI) c26_3 ?_
        have kk := kk c26_3
        refine r_p (pc2 := 33) dX11_dinner_32 rfl rfl ?_
        refine r_get dX11_dinner_33 fkX11_30 rfl rfl ?_
        refine r_p (pc2 := 37) dX11_dinner_36 rfl rfl ?_
        refine r_put dX11_dinner_37 fkX11_209 rfl q2 rfl (Nat.le_of_ble_eq_true rfl) rfl rfl ?_
        refine r_p (pc2 := 41) dX11_dinner_40 rfl rfl ?_
        obtain ⟨q3, kk⟩ := kk
        refine r_cv (d1 := 4) dX11_dinner_41 cvX11_146 rfl rfl rfl rfl (Nat.le_of_ble_eq_true rfl) (Nat.le_of_ble_eq_true rfl) (Nat.le_of_ble_eq_true rfl) (c_x_changed  q3) ?_
        refine r_p (pc2 := 45) dX11_dinner_44 rfl rfl ?_
        exact r_qI dX11_dinner_45 rfl rfl rfl rfl
      · refine r_in (R := rI) c26_3 ?_
        refine r_k dX11_dinner_29 kkX11_82 ?_
        exact r_qI dX11_dinner_31 rfl rfl rfl rfl
def x_x_out (T : St) (p0 : Int32) : Int32 × St := if p0 < 0 then ((-1000001), T) else (if p0 ≤ 60 then (if (x_bk_isRead T (T.2.1 0)) = 0 then ((-1000002), T) else (if (T.2.2.1 ((T.2.1 0) + 1) (1 : Int32).toNatClampNeg) = 0 then ((-1000002), T) else (1, x_x_changed (sF T (T.2.1 0) 18 p0)))) else ((-1000001), T))
def ok_x_out (T : St) (p0 : Int32) : Prop := (¬ p0 < 0 → (p0 ≤ 60 → (ok_bk_isRead T (T.2.1 0)) ∧ (sh (T.2.1 0) = .inr 1) ∧ (¬ (x_bk_isRead T (T.2.1 0)) = 0 → (¬ (T.2.2.1 ((T.2.1 0) + 1) (1 : Int32).toNatClampNeg) = 0 → (ok_x_changed (sF T (T.2.1 0) 18 p0)) ∧ True))))
theorem c_x_out {X : Nat × (Nat → Int32)} {T : St} (p0 : Int32) (kk : ok_x_out T p0) : tC X 5 mX11_out [.ref (0 : Nat), .int p0] T (some (.int (x_x_out T p0).1)) ((x_x_out T p0).2) := by
  unfold ok_x_out at kk
  refine tC_orI (L := [some (.ref (0 : Nat)), some (.int p0)]) (x_x_out T p0) rfl ?_
  unfold x_x_out
  refine r_p (pc2 := 1) dX11_out_0 rfl rfl ?_
  refine r_ilt dX11_out_1 rfl (fun c1_1 => ?_) (fun c1_1 => ?_)
  · refine r_ip (R := rI) c1_1 ?_
    refine r_k dX11_out_10 kkX11_82 ?_
    exact r_qI dX11_out_12 rfl rfl rfl rfl
  · refine r_in (R := rI) c1_1 ?_
    have kk := kk c1_1
    refine r_p (pc2 := 5) dX11_out_4 rfl rfl ?_
    refine r_cb (x := 60) dX11_out_5 rfl ?_
    refine r_cle dX11_out_7 rfl (fun c7_2 => ?_) (fun c7_2 => ?_)
    · refine r_ip (R := rI) c7_2 ?_
      have kk := kk c7_2
      refine r_p (pc2 := 14) dX11_out_13 rfl rfl ?_
      refine r_get dX11_out_14 fkX11_30 rfl rfl ?_
      obtain ⟨q1, kk⟩ := kk
      obtain ⟨q2, kk⟩ := kk
      refine r_cv (d1 := 1) dX11_out_17 cvX11_189 rfl rfl q2 rfl (Nat.le_of_ble_eq_true rfl) (Nat.le_of_ble_eq_true rfl) (Nat.le_of_ble_eq_true rfl) (c_bk_isRead (T.2.1 0) q1) ?_
      refine r_ieq dX11_out_20 rfl (fun c20_3 => ?_) (fun c20_3 => ?_)
      · refine r_ip (R := rI) c20_3 ?_
        refine r_k dX11_out_35 kkX11_193 ?_
        exact r_qI dX11_out_37 rfl rfl rfl rfl
      · refine r_in (R := rI) c20_3 ?_
        have kk := kk c20_3
        refine r_p (pc2 := 24) dX11_out_23 rfl rfl ?_
        refine r_get dX11_out_24 fkX11_30 rfl rfl ?_
        refine r_get dX11_out_27 fkX11_212 q2 rfl ?_
        refine r_ci (x := 1) dX11_out_30 rfl ?_
        refine r_ia dX11_out_31 (shl1_1 q2) (in_c (by decide)) ?_
        refine r_ine dX11_out_32 rfl (fun c32_4 => ?_) (fun c32_4 => ?_)
        · refine r_in (R := rI) c32_4 ?_
          have kk := kk c32_4
          refine r_p (pc2 := 39) dX11_out_38 rfl rfl ?_
          refine r_get dX11_out_39 fkX11_30 rfl rfl ?_
          refine r_p (pc2 := 43) dX11_out_42 rfl rfl ?_
          refine r_put dX11_out_43 fkX11_215 rfl q2 rfl (Nat.le_of_ble_eq_true rfl) rfl rfl ?_
          refine r_p (pc2 := 47) dX11_out_46 rfl rfl ?_
          obtain ⟨q3, kk⟩ := kk
          refine r_cv (d1 := 4) dX11_out_47 cvX11_146 rfl rfl rfl rfl (Nat.le_of_ble_eq_true rfl) (Nat.le_of_ble_eq_true rfl) (Nat.le_of_ble_eq_true rfl) (c_x_changed  q3) ?_
          refine r_ci (x := 1) dX11_out_50 rfl ?_
          exact r_qI dX11_out_51 rfl rfl rfl rfl
        · refine r_ip (R := rI) c32_4 ?_
          refine r_k dX11_out_35 kkX11_193 ?_
          exact r_qI dX11_out_37 rfl rfl rfl rfl
    · refine r_in (R := rI) c7_2 ?_
      refine r_k dX11_out_10 kkX11_82 ?_
      exact r_qI dX11_out_12 rfl rfl rfl rfl
def x_x_restore (T : St) (p0 : Int32) : Int32 × St := if p0 < 0 then ((-1000001), T) else (if p0 < 2 then (if (x_bk_isRead T (16 + 15 * (p0 : Int32).toNatClampNeg)) = 0 then ((-1000002), T) else (1, x_x_changed (x_bk_take T (T.2.1 0) (16 + 15 * (p0 : Int32).toNatClampNeg)))) else ((-1000001), T))
def ok_x_restore (T : St) (p0 : Int32) : Prop := (¬ p0 < 0 → (p0 < 2 → (vp_in p0 2) ∧ (ok_bk_isRead T (16 + 15 * (p0 : Int32).toNatClampNeg)) ∧ (¬ (x_bk_isRead T (16 + 15 * (p0 : Int32).toNatClampNeg)) = 0 → (ok_bk_take T (T.2.1 0) (16 + 15 * (p0 : Int32).toNatClampNeg)) ∧ (sh (T.2.1 0) = .inr 1) ∧ (ok_x_changed (x_bk_take T (T.2.1 0) (16 + 15 * (p0 : Int32).toNatClampNeg))) ∧ True)))
theorem c_x_restore {X : Nat × (Nat → Int32)} {T : St} (p0 : Int32) (kk : ok_x_restore T p0) : tC X 5 mX11_restore [.ref (0 : Nat), .int p0] T (some (.int (x_x_restore T p0).1)) ((x_x_restore T p0).2) := by
  unfold ok_x_restore at kk
  refine tC_orI (L := [some (.ref (0 : Nat)), some (.int p0)]) (x_x_restore T p0) rfl ?_
  unfold x_x_restore
  refine r_p (pc2 := 1) dX11_restore_0 rfl rfl ?_
  refine r_ilt dX11_restore_1 rfl (fun c1_1 => ?_) (fun c1_1 => ?_)
  · refine r_ip (R := rI) c1_1 ?_
    refine r_k dX11_restore_9 kkX11_82 ?_
    exact r_qI dX11_restore_11 rfl rfl rfl rfl
  · refine r_in (R := rI) c1_1 ?_
    have kk := kk c1_1
    refine r_p (pc2 := 5) dX11_restore_4 rfl rfl ?_
    refine r_ci (x := 2) dX11_restore_5 rfl ?_
    refine r_clt dX11_restore_6 rfl (fun c6_2 => ?_) (fun c6_2 => ?_)
    · refine r_ip (R := rI) c6_2 ?_
      have kk := kk c6_2
      refine r_p (pc2 := 13) dX11_restore_12 rfl rfl ?_
      refine r_get dX11_restore_13 fkX11_26 rfl rfl ?_
      refine r_p (pc2 := 17) dX11_restore_16 rfl rfl ?_
      obtain ⟨q1, kk⟩ := kk
      refine r_aa dX11_restore_17 rfl (by decide) q1 (rf15 q1) ?_
      obtain ⟨q2, kk⟩ := kk
      refine r_cv (d1 := 1) dX11_restore_18 cvX11_189 rfl rfl (shr15 q1) rfl (Nat.le_of_ble_eq_true rfl) (Nat.le_of_ble_eq_true rfl) (Nat.le_of_ble_eq_true rfl) (c_bk_isRead (16 + 15 * (p0 : Int32).toNatClampNeg) q2) ?_
      refine r_ine dX11_restore_21 rfl (fun c21_3 => ?_) (fun c21_3 => ?_)
      · refine r_in (R := rI) c21_3 ?_
        have kk := kk c21_3
        refine r_p (pc2 := 28) dX11_restore_27 rfl rfl ?_
        refine r_get dX11_restore_28 fkX11_30 rfl rfl ?_
        refine r_p (pc2 := 32) dX11_restore_31 rfl rfl ?_
        refine r_get dX11_restore_32 fkX11_26 rfl rfl ?_
        refine r_p (pc2 := 36) dX11_restore_35 rfl rfl ?_
        refine r_aa dX11_restore_36 rfl (by decide) q1 (rf15 q1) ?_
        obtain ⟨q3, kk⟩ := kk
        obtain ⟨q4, kk⟩ := kk
        refine r_cv (d1 := 1) dX11_restore_37 cvX11_325 rfl rfl q4 rfl (Nat.le_of_ble_eq_true rfl) (Nat.le_of_ble_eq_true rfl) (Nat.le_of_ble_eq_true rfl) (c_bk_take (T.2.1 0) (16 + 15 * (p0 : Int32).toNatClampNeg) q3) ?_
        refine r_p (pc2 := 41) dX11_restore_40 rfl rfl ?_
        obtain ⟨q5, kk⟩ := kk
        refine r_cv (d1 := 4) dX11_restore_41 cvX11_146 rfl rfl rfl rfl (Nat.le_of_ble_eq_true rfl) (Nat.le_of_ble_eq_true rfl) (Nat.le_of_ble_eq_true rfl) (c_x_changed  q5) ?_
        refine r_ci (x := 1) dX11_restore_44 rfl ?_
        exact r_qI dX11_restore_45 rfl rfl rfl rfl
      · refine r_ip (R := rI) c21_3 ?_
        refine r_k dX11_restore_24 kkX11_193 ?_
        exact r_qI dX11_restore_26 rfl rfl rfl rfl
    · refine r_in (R := rI) c6_2 ?_
      refine r_k dX11_restore_9 kkX11_82 ?_
      exact r_qI dX11_restore_11 rfl rfl rfl rfl
def x_jd_firstLack_40 (l1 : Nat) (l2 : Nat) (l3 : Nat) (l4 : Int32) (K : Int32 → St → Int32 × St) : Nat → Int32 → St → Int32 × St
  | 0, _, T => (0, T)
  | f + 1, v5, T => if 60 ≤ v5 then (K v5 T) else (jn (fun (KJ1 : Int32 → Int32 × St) => if v5 = l4 then (KJ1 1) else (KJ1 0)) (fun (j1_s2 : Int32) => jn (fun (i2 : Int32) => if i2 = 0 then (x_jd_firstLack_40 l1 l2 l3 l4 K f (v5 + 1) T) else ((1000 + (10 * v5)) + i2, T)) (x_jd_lackAt T (1 <<< ((v5 : Int32).toInt64 &&& 63)) j1_s2)))
def ok_jd_firstLack_40 (l1 : Nat) (l2 : Nat) (l3 : Nat) (l4 : Int32) (Kk : Int32 → St → Prop) : Nat → Int32 → St → Prop
  | 0, _, _ => False
  | f + 1, v5, T => ((60 ≤ v5 → Kk v5 T) ∧ (¬ 60 ≤ v5 → jn (fun (OJ1 : Int32 → Prop) => ((v5 = l4 → OJ1 1) ∧ (¬ v5 = l4 → OJ1 0))) (fun (j1_s2 : Int32) => jn (fun (i2 : Int32) => (i2 = 0 → ok_jd_firstLack_40 l1 l2 l3 l4 Kk f (v5 + 1) T)) (x_jd_lackAt T (1 <<< ((v5 : Int32).toInt64 &&& 63)) j1_s2))))
theorem c_jd_firstLack_40 {X : Nat × (Nat → Int32)} (l1 : Nat) (l2 : Nat) (l3 : Nat) (l4 : Int32) {K : Int32 → St → Int32 × St} {Kk : Int32 → St → Prop} (hk : ∀ (v5 : Int32) (T : St), Kk v5 T → tR X 3 mX2_firstLack 93 [some (.ref (527 : Nat)), some (.ref l1), some (.ref l2), some (.ref l3), some (.int l4), some (.int v5), none] [] T (rI (K v5 T)).1 ((rI (K v5 T)).2)) : ∀ (f : Nat) (v5 : Int32) (T : St), ok_jd_firstLack_40 l1 l2 l3 l4 Kk f v5 T → tR X 3 mX2_firstLack 40 [some (.ref (527 : Nat)), some (.ref l1), some (.ref l2), some (.ref l3), some (.int l4), some (.int v5), none] [] T (rI (x_jd_firstLack_40 l1 l2 l3 l4 K f v5 T)).1 ((rI (x_jd_firstLack_40 l1 l2 l3 l4 K f v5 T)).2) := by
  intro f
  induction f with
  | zero => intro v5 T kk; exact kk.elim
  | succ f ih =>
    intro v5 T kk
    rw [ok_jd_firstLack_40] at kk
    rw [x_jd_firstLack_40]
    refine r_p (pc2 := 42) dX2_firstLack_40 rfl rfl ?_
    refine r_cb (x := 60) dX2_firstLack_42 rfl ?_
    refine r_cge dX2_firstLack_44 rfl (fun c44_1 => ?_) (fun c44_1 => ?_)
    · refine r_ip (R := rI) c44_1 ?_
      have kk := kk.1 c44_1
      show tR _ _ _ _ [some (.ref (527 : Nat)), some (.ref l1), some (.ref l2), some (.ref l3), some (.int l4), some (.int v5), none] _ _ _ _
      exact (hk v5 T kk)
    · refine r_in (R := rI) c44_1 ?_
      have kk := kk.2 c44_1
      refine r_p (pc2 := 48) dX2_firstLack_47 rfl rfl ?_
      refine r_cl (x := 1) dX2_firstLack_48 rfl ?_
      refine r_p (pc2 := 51) dX2_firstLack_49 rfl rfl ?_
      refine r_p (pc2 := 52) dX2_firstLack_51 rfl rfl ?_
      refine r_p (pc2 := 54) dX2_firstLack_52 rfl rfl ?_
      refine r_p (pc2 := 56) dX2_firstLack_54 rfl rfl ?_
      refine r_jn (R := rI) (J := fun (KJ1 : Int32 → Int32 × St) (OJ1 : Int32 → Prop) => ∀ (j1_s2 : Int32), OJ1 j1_s2 → tR X 3 mX2_firstLack 64 [some (.ref (527 : Nat)), some (.ref l1), some (.ref l2), some (.ref l3), some (.int l4), some (.int v5), none] [.int j1_s2, .long (1 <<< ((v5 : Int32).toInt64 &&& 63)), .ref (527 : Nat)] T (rI (KJ1 j1_s2)).1 (rI (KJ1 j1_s2)).2) kk (fun j1_s2 kk => ?_) (fun KJ1 OJ1 hJ1 kk => ?_)
      · skip
        refine r_cv (d1 := 1) dX2_firstLack_64 cvX2_95 rfl rfl rfl rfl (Nat.le_of_ble_eq_true rfl) (Nat.le_of_ble_eq_true rfl) (Nat.le_of_ble_eq_true rfl) (c_jd_lackAt (1 <<< ((v5 : Int32).toInt64 &&& 63)) j1_s2) ?_
        refine r_nI (R := rI) rfl kk (fun i2 kk => ?_)
        refine r_p (pc2 := 69) (L2 := [some (.ref (527 : Nat)), some (.ref l1), some (.ref l2), some (.ref l3), some (.int l4), some (.int v5), some (.int i2)]) dX2_firstLack_67 rfl rfl ?_
        refine r_p (pc2 := 71) dX2_firstLack_69 rfl rfl ?_
        refine r_ieq dX2_firstLack_71 rfl (fun c71_3 => ?_) (fun c71_3 => ?_)
        · refine r_ip (R := rI) c71_3 ?_
          have kk := kk c71_3
          refine r_inc (L2 := [some (.ref (527 : Nat)), some (.ref l1), some (.ref l2), some (.ref l3), some (.int l4), some (.int (v5 + 1)), some (.int i2)]) (y := 1) dX2_firstLack_87 rfl rfl rfl ?_
          refine r_go dX2_firstLack_90 rfl ?_
          show tR _ _ _ _ [some (.ref (527 : Nat)), some (.ref l1), some (.ref l2), some (.ref l3), some (.int l4), some (.int (v5 + 1)), some (.int i2)] _ _ _ _
          exact r_le (le_s (le_s (le_s (le_s (le_s (le_s (le_n (le_0)))))))) (ih (v5 + 1) T kk)
        · refine r_in (R := rI) c71_3 ?_
          refine r_csi (x := 1000) dX2_firstLack_74 rfl ?_
          refine r_cb (x := 10) dX2_firstLack_77 rfl ?_
          refine r_p (pc2 := 81) dX2_firstLack_79 rfl rfl ?_
          refine r_p (pc2 := 82) dX2_firstLack_81 rfl rfl ?_
          refine r_p (pc2 := 83) dX2_firstLack_82 rfl rfl ?_
          refine r_p (pc2 := 85) dX2_firstLack_83 rfl rfl ?_
          refine r_p (pc2 := 86) dX2_firstLack_85 rfl rfl ?_
          exact r_qI dX2_firstLack_86 rfl rfl rfl rfl
      refine r_cne dX2_firstLack_56 rfl (fun c56_4 => ?_) (fun c56_4 => ?_)
      · refine r_in (R := rI) c56_4 ?_
        have kk := kk.2 c56_4
        refine r_ci (x := 0) dX2_firstLack_63 rfl ?_
        show tR _ _ _ _ [some (.ref (527 : Nat)), some (.ref l1), some (.ref l2), some (.ref l3), some (.int l4), some (.int v5), none] [.int 0, .long (1 <<< ((v5 : Int32).toInt64 &&& 63)), .ref (527 : Nat)] _ _ _
        exact (hJ1 0 kk)
      · refine r_ip (R := rI) c56_4 ?_
        have kk := kk.1 c56_4
        refine r_ci (x := 1) dX2_firstLack_59 rfl ?_
        refine r_go dX2_firstLack_60 rfl ?_
        show tR _ _ _ _ [some (.ref (527 : Nat)), some (.ref l1), some (.ref l2), some (.ref l3), some (.int l4), some (.int v5), none] [.int 1, .long (1 <<< ((v5 : Int32).toInt64 &&& 63)), .ref (527 : Nat)] _ _ _
        exact (hJ1 1 kk)
def x_jd_firstLack (T : St) (p0 : Nat) (p1 : Nat) (p2 : Nat) : Int32 × St := jn (fun (i1 : Int32) => x_jd_firstLack_40 p0 p1 p2 i1 (fun (w1_5 : Int32) (T201 : St) => (0, T201)) 1000 0 (x_ov_want (x_jd_lay T p0 p1 p2) p0 p2)) (x_ov_firstLack (x_ov_want (x_jd_lay T p0 p1 p2) p0 p2) ((x_ov_want (x_jd_lay T p0 p1 p2) p0 p2).2.2.1 (p0 + 1) (3 : Int32).toNatClampNeg) ((x_ov_want (x_jd_lay T p0 p1 p2) p0 p2).2.2.1 (p0 + 1) (4 : Int32).toNatClampNeg))
def ok_jd_firstLack (T : St) (p0 : Nat) (p1 : Nat) (p2 : Nat) : Prop := (ok_jd_lay T p0 p1 p2) ∧ (ok_ov_want (x_jd_lay T p0 p1 p2) p0 p2) ∧ (sh p0 = .inr 1) ∧ (ok_ov_firstLack (x_ov_want (x_jd_lay T p0 p1 p2) p0 p2) ((x_ov_want (x_jd_lay T p0 p1 p2) p0 p2).2.2.1 (p0 + 1) (3 : Int32).toNatClampNeg) ((x_ov_want (x_jd_lay T p0 p1 p2) p0 p2).2.2.1 (p0 + 1) (4 : Int32).toNatClampNeg)) ∧ jn (fun (i1 : Int32) => ok_jd_firstLack_40 p0 p1 p2 i1 (fun (w1_5 : Int32) (T201 : St) => True) 1000 0 (x_ov_want (x_jd_lay T p0 p1 p2) p0 p2)) (x_ov_firstLack (x_ov_want (x_jd_lay T p0 p1 p2) p0 p2) ((x_ov_want (x_jd_lay T p0 p1 p2) p0 p2).2.2.1 (p0 + 1) (3 : Int32).toNatClampNeg) ((x_ov_want (x_jd_lay T p0 p1 p2) p0 p2).2.2.1 (p0 + 1) (4 : Int32).toNatClampNeg))
theorem c_jd_firstLack {X : Nat × (Nat → Int32)} {T : St} (p0 : Nat) (p1 : Nat) (p2 : Nat) (kk : ok_jd_firstLack T p0 p1 p2) : tC X 4 mX2_firstLack [.ref (527 : Nat), .ref p0, .ref p1, .ref p2] T (some (.int (x_jd_firstLack T p0 p1 p2).1)) ((x_jd_firstLack T p0 p1 p2).2) := by
  unfold ok_jd_firstLack at kk
  refine tC_orI (L := [some (.ref (527 : Nat)), some (.ref p0), some (.ref p1), some (.ref p2), none, none, none]) (x_jd_firstLack T p0 p1 p2) rfl ?_
  unfold x_jd_firstLack
  refine r_p (pc2 := 1) dX2_firstLack_0 rfl rfl ?_
  refine r_p (pc2 := 2) dX2_firstLack_1 rfl rfl ?_
  refine r_p (pc2 := 3) dX2_firstLack_2 rfl rfl ?_
  refine r_p (pc2 := 4) dX2_firstLack_3 rfl rfl ?_
  obtain ⟨q1, kk⟩ := kk
  refine r_cv (d1 := 3) dX2_firstLack_4 cvX2_81 rfl rfl rfl rfl (Nat.le_of_ble_eq_true rfl) (Nat.le_of_ble_eq_true rfl) (Nat.le_of_ble_eq_true rfl) (c_jd_lay p0 p1 p2 q1) ?_
  refine r_p (pc2 := 8) dX2_firstLack_7 rfl rfl ?_
  refine r_get dX2_firstLack_8 fkX2_12 rfl rfl ?_
  refine r_p (pc2 := 12) dX2_firstLack_11 rfl rfl ?_
  refine r_p (pc2 := 13) dX2_firstLack_12 rfl rfl ?_
  obtain ⟨q2, kk⟩ := kk
  refine r_cv (d1 := 2) dX2_firstLack_13 cvX2_85 rfl rfl rfl rfl (Nat.le_of_ble_eq_true rfl) (Nat.le_of_ble_eq_true rfl) (Nat.le_of_ble_eq_true rfl) (c_ov_want p0 p2 q2) ?_
  refine r_p (pc2 := 17) dX2_firstLack_16 rfl rfl ?_
  refine r_get dX2_firstLack_17 fkX2_12 rfl rfl ?_
  refine r_p (pc2 := 21) dX2_firstLack_20 rfl rfl ?_
  obtain ⟨q3, kk⟩ := kk
  refine r_get dX2_firstLack_21 fkX2_89 q3 rfl ?_
  refine r_ci (x := 3) dX2_firstLack_24 rfl ?_
  refine r_ia dX2_firstLack_25 (shl1_1 q3) (in_c (by decide)) ?_
  refine r_p (pc2 := 27) dX2_firstLack_26 rfl rfl ?_
  refine r_get dX2_firstLack_27 fkX2_89 q3 rfl ?_
  refine r_ci (x := 4) dX2_firstLack_30 rfl ?_
  refine r_ia dX2_firstLack_31 (shl1_1 q3) (in_c (by decide)) ?_
  obtain ⟨q4, kk⟩ := kk
  refine r_cv (d1 := 1) dX2_firstLack_32 cvX2_92 rfl rfl rfl rfl (Nat.le_of_ble_eq_true rfl) (Nat.le_of_ble_eq_true rfl) (Nat.le_of_ble_eq_true rfl) (c_ov_firstLack ((x_ov_want (x_jd_lay T p0 p1 p2) p0 p2).2.2.1 (p0 + 1) (3 : Int32).toNatClampNeg) ((x_ov_want (x_jd_lay T p0 p1 p2) p0 p2).2.2.1 (p0 + 1) (4 : Int32).toNatClampNeg) q4) ?_
  refine r_nI (R := rI) rfl kk (fun i1 kk => ?_)
  refine r_p (pc2 := 37) (L2 := [some (.ref (527 : Nat)), some (.ref p0), some (.ref p1), some (.ref p2), some (.int i1), none, none]) dX2_firstLack_35 rfl rfl ?_
  refine r_ci (x := 0) dX2_firstLack_37 rfl ?_
  refine r_p (pc2 := 40) (L2 := [some (.ref (527 : Nat)), some (.ref p0), some (.ref p1), some (.ref p2), some (.int i1), some (.int 0), none]) dX2_firstLack_38 rfl rfl ?_
  show tR _ _ _ _ [some (.ref (527 : Nat)), some (.ref p0), some (.ref p1), some (.ref p2), some (.int i1), some (.int 0), none] _ _ _ _
  refine (c_jd_firstLack_40 p0 p1 p2 i1 (fun w1_5 T201 kk => ?_) 1000 0 (x_ov_want (x_jd_lay T p0 p1 p2) p0 p2) kk)
  · skip
    refine r_ci (x := 0) dX2_firstLack_93 rfl ?_
    exact r_qI dX2_firstLack_94 rfl rfl rfl rfl
def x_pl_layDish_39 (l1 : Int32) (l2 : Int32) (l4 : Int32) (l5 : Int32) (K : Int32 → Int32 → St → St) : Nat → Int32 → Int32 → St → St
  | 0, _, _, T => T
  | f + 1, v3, v6, T => if (T.2.2.1 ((T.2.1 2) + 4) (l1 : Int32).toNatClampNeg) < v6 then (K v3 v6 T) else (if 12 ≤ v3 then (K v3 v6 T) else (jn (fun (r1 : Nat) => jn (fun (T2 : St) => if (T2.1 r1 6) = 0 then (x_pl_layDish_39 l1 l2 l4 l5 K f (v3 + 1) (v6 + 1) T2) else (if (x_ta_hasRoom T2 (507 + 5 * (0 : Int32).toNatClampNeg) (r1 + 3)) = 0 then (x_pl_layDish_39 l1 l2 l4 l5 K f (v3 + 1) (v6 + 1) (sF T2 r1 6 0)) else (x_pl_layDish_39 l1 l2 l4 l5 K f (v3 + 1) (v6 + 1) T2))) (sF (sF (x_wa_choose T r1 (T.2.1 2) l1 (l2 - v6) l5 l4) r1 4 v6) r1 5 (((sF (x_wa_choose T r1 (T.2.1 2) l1 (l2 - v6) l5 l4) r1 4 v6).1 r1 5) + (v6 * ((sF (x_wa_choose T r1 (T.2.1 2) l1 (l2 - v6) l5 l4) r1 4 v6).2.2.1 (((sF (x_wa_choose T r1 (T.2.1 2) l1 (l2 - v6) l5 l4) r1 4 v6).2.1 2) + 5) (l1 : Int32).toNatClampNeg))))) (123 + 4 * ((l1 * 12) + v3 : Int32).toNatClampNeg)))
def ok_pl_layDish_39 (l1 : Int32) (l2 : Int32) (l4 : Int32) (l5 : Int32) (Kk : Int32 → Int32 → St → Prop) : Nat → Int32 → Int32 → St → Prop
  | 0, _, _, _ => False
  | f + 1, v3, v6, T => (sh (T.2.1 2) = .inr 1) ∧ (vp_in l1 8) ∧ (((T.2.2.1 ((T.2.1 2) + 4) (l1 : Int32).toNatClampNeg) < v6 → Kk v3 v6 T) ∧ (¬ (T.2.2.1 ((T.2.1 2) + 4) (l1 : Int32).toNatClampNeg) < v6 → ((12 ≤ v3 → Kk v3 v6 T) ∧ (¬ 12 ≤ v3 → (vp_in ((l1 * 12) + v3) 96) ∧ jn (fun (r1 : Nat) => (ok_wa_choose T r1 (T.2.1 2) l1 (l2 - v6) l5 l4) ∧ (sh r1 = .inr 10) ∧ (sh ((sF (x_wa_choose T r1 (T.2.1 2) l1 (l2 - v6) l5 l4) r1 4 v6).2.1 2) = .inr 1) ∧ jn (fun (T2 : St) => (((T2.1 r1 6) = 0 → ok_pl_layDish_39 l1 l2 l4 l5 Kk f (v3 + 1) (v6 + 1) T2) ∧ (¬ (T2.1 r1 6) = 0 → (ok_ta_hasRoom T2 (507 + 5 * (0 : Int32).toNatClampNeg) (r1 + 3)) ∧ (((x_ta_hasRoom T2 (507 + 5 * (0 : Int32).toNatClampNeg) (r1 + 3)) = 0 → ok_pl_layDish_39 l1 l2 l4 l5 Kk f (v3 + 1) (v6 + 1) (sF T2 r1 6 0)) ∧ (¬ (x_ta_hasRoom T2 (507 + 5 * (0 : Int32).toNatClampNeg) (r1 + 3)) = 0 → ok_pl_layDish_39 l1 l2 l4 l5 Kk f (v3 + 1) (v6 + 1) T2))))) (sF (sF (x_wa_choose T r1 (T.2.1 2) l1 (l2 - v6) l5 l4) r1 4 v6) r1 5 (((sF (x_wa_choose T r1 (T.2.1 2) l1 (l2 - v6) l5 l4) r1 4 v6).1 r1 5) + (v6 * ((sF (x_wa_choose T r1 (T.2.1 2) l1 (l2 - v6) l5 l4) r1 4 v6).2.2.1 (((sF (x_wa_choose T r1 (T.2.1 2) l1 (l2 - v6) l5 l4) r1 4 v6).2.1 2) + 5) (l1 : Int32).toNatClampNeg))))) (123 + 4 * ((l1 * 12) + v3 : Int32).toNatClampNeg)))))
theorem c_pl_layDish_39 {X : Nat × (Nat → Int32)} (l1 : Int32) (l2 : Int32) (l4 : Int32) (l5 : Int32) {K : Int32 → Int32 → St → St} {Kk : Int32 → Int32 → St → Prop} (hk : ∀ (v3 : Int32) (v6 : Int32) (T : St), Kk v3 v6 T → tR X 3 mX5_layDish 159 [some (.ref (80 : Nat)), some (.int l1), some (.int l2), some (.int v3), some (.int l4), some (.int l5), some (.int v6), none] [] T (rV (K v3 v6 T)).1 ((rV (K v3 v6 T)).2)) : ∀ (f : Nat) (v3 : Int32) (v6 : Int32) (T : St), ok_pl_layDish_39 l1 l2 l4 l5 Kk f v3 v6 T → tR X 3 mX5_layDish 39 [some (.ref (80 : Nat)), some (.int l1), some (.int l2), some (.int v3), some (.int l4), some (.int l5), some (.int v6), none] [] T (rV (x_pl_layDish_39 l1 l2 l4 l5 K f v3 v6 T)).1 ((rV (x_pl_layDish_39 l1 l2 l4 l5 K f v3 v6 T)).2) := by
  intro f
  induction f with
  | zero => intro v3 v6 T kk; exact kk.elim
  | succ f ih =>
    intro v3 v6 T kk
    rw [ok_pl_layDish_39] at kk
    rw [x_pl_layDish_39]
    refine r_p (pc2 := 41) dX5_layDish_39 rfl rfl ?_
    refine r_p (pc2 := 42) dX5_layDish_41 rfl rfl ?_
    refine r_get dX5_layDish_42 fkX5_62 rfl rfl ?_
    obtain ⟨q5, kk⟩ := kk
    refine r_get dX5_layDish_45 fkX5_90 q5 rfl ?_
    refine r_p (pc2 := 49) dX5_layDish_48 rfl rfl ?_
    obtain ⟨q6, kk⟩ := kk
    refine r_ia dX5_layDish_49 (shl1_4 q5) q6 ?_
    refine r_cgt dX5_layDish_50 rfl (fun c50_3 => ?_) (fun c50_3 => ?_)
    · refine r_ip (R := rV) c50_3 ?_
      have kk := kk.1 c50_3
      show tR _ _ _ _ [some (.ref (80 : Nat)), some (.int l1), some (.int l2), some (.int v3), some (.int l4), some (.int l5), some (.int v6), none] _ _ _ _
      exact (hk v3 v6 T kk)
    · refine r_in (R := rV) c50_3 ?_
      have kk := kk.2 c50_3
      refine r_p (pc2 := 54) dX5_layDish_53 rfl rfl ?_
      refine r_cb (x := 12) dX5_layDish_54 rfl ?_
      refine r_cge dX5_layDish_56 rfl (fun c56_4 => ?_) (fun c56_4 => ?_)
      · refine r_ip (R := rV) c56_4 ?_
        have kk := kk.1 c56_4
        show tR _ _ _ _ [some (.ref (80 : Nat)), some (.int l1), some (.int l2), some (.int v3), some (.int l4), some (.int l5), some (.int v6), none] _ _ _ _
        exact (hk v3 v6 T kk)
      · refine r_in (R := rV) c56_4 ?_
        have kk := kk.2 c56_4
        refine r_p (pc2 := 60) dX5_layDish_59 rfl rfl ?_
        refine r_get dX5_layDish_60 fkX5_11 rfl rfl ?_
        refine r_p (pc2 := 64) dX5_layDish_63 rfl rfl ?_
        refine r_cb (x := 12) dX5_layDish_64 rfl ?_
        refine r_p (pc2 := 67) dX5_layDish_66 rfl rfl ?_
        refine r_p (pc2 := 68) dX5_layDish_67 rfl rfl ?_
        refine r_p (pc2 := 69) dX5_layDish_68 rfl rfl ?_
        obtain ⟨q7, kk⟩ := kk
        refine r_aa dX5_layDish_69 rfl (by decide) q7 (rf81 q7) ?_
        refine r_nR (R := rV) rfl kk (fun r1 kk => ?_)
        refine r_p (pc2 := 72) (L2 := [some (.ref (80 : Nat)), some (.int l1), some (.int l2), some (.int v3), some (.int l4), some (.int l5), some (.int v6), some (.ref r1)]) dX5_layDish_70 rfl rfl ?_
        refine r_p (pc2 := 74) dX5_layDish_72 rfl rfl ?_
        refine r_p (pc2 := 75) dX5_layDish_74 rfl rfl ?_
        refine r_get dX5_layDish_75 fkX5_62 rfl rfl ?_
        refine r_p (pc2 := 79) dX5_layDish_78 rfl rfl ?_
        refine r_p (pc2 := 80) dX5_layDish_79 rfl rfl ?_
        refine r_p (pc2 := 82) dX5_layDish_80 rfl rfl ?_
        refine r_p (pc2 := 83) dX5_layDish_82 rfl rfl ?_
        refine r_p (pc2 := 85) dX5_layDish_83 rfl rfl ?_
        refine r_p (pc2 := 87) dX5_layDish_85 rfl rfl ?_
        obtain ⟨q8, kk⟩ := kk
        obtain ⟨q9, kk⟩ := kk
        refine r_cv (d1 := 3) dX5_layDish_87 cvX5_93 rfl rfl q9 rfl (Nat.le_of_ble_eq_true rfl) (Nat.le_of_ble_eq_true rfl) (Nat.le_of_ble_eq_true rfl) (c_wa_choose r1 (T.2.1 2) l1 (l2 - v6) l5 l4 q8) ?_
        refine r_p (pc2 := 92) dX5_layDish_90 rfl rfl ?_
        refine r_p (pc2 := 94) dX5_layDish_92 rfl rfl ?_
        refine r_put dX5_layDish_94 fkX5_97 rfl q9 rfl (Nat.le_of_ble_eq_true rfl) rfl rfl ?_
        refine r_p (pc2 := 99) dX5_layDish_97 rfl rfl ?_
        refine r_p (pc2 := 100) dX5_layDish_99 rfl rfl ?_
        refine r_get dX5_layDish_100 fkX5_100 q9 rfl ?_
        refine r_p (pc2 := 105) dX5_layDish_103 rfl rfl ?_
        refine r_p (pc2 := 106) dX5_layDish_105 rfl rfl ?_
        refine r_get dX5_layDish_106 fkX5_62 rfl rfl ?_
        obtain ⟨q10, kk⟩ := kk
        refine r_get dX5_layDish_109 fkX5_103 q10 rfl ?_
        refine r_p (pc2 := 113) dX5_layDish_112 rfl rfl ?_
        refine r_ia dX5_layDish_113 (shl1_5 q10) q6 ?_
        refine r_p (pc2 := 115) dX5_layDish_114 rfl rfl ?_
        refine r_p (pc2 := 116) dX5_layDish_115 rfl rfl ?_
        refine r_put dX5_layDish_116 fkX5_100 rfl q9 rfl (Nat.le_of_ble_eq_true rfl) rfl rfl ?_
        refine r_nT (R := rV) rfl kk (fun T2 kk => ?_)
        refine r_p (pc2 := 121) dX5_layDish_119 rfl rfl ?_
        refine r_get dX5_layDish_121 fkX5_106 q9 rfl ?_
        refine r_ieq dX5_layDish_124 rfl (fun c124_5 => ?_) (fun c124_5 => ?_)
        · refine r_ip (R := rV) c124_5 ?_
          have kk := kk.1 c124_5
          refine r_inc (L2 := [some (.ref (80 : Nat)), some (.int l1), some (.int l2), some (.int (v3 + 1)), some (.int l4), some (.int l5), some (.int v6), some (.ref r1)]) (y := 1) dX5_layDish_150 rfl rfl rfl ?_
          refine r_inc (L2 := [some (.ref (80 : Nat)), some (.int l1), some (.int l2), some (.int (v3 + 1)), some (.int l4), some (.int l5), some (.int (v6 + 1)), some (.ref r1)]) (y := 1) dX5_layDish_153 rfl rfl rfl ?_
          refine r_go dX5_layDish_156 rfl ?_
          show tR _ _ _ _ [some (.ref (80 : Nat)), some (.int l1), some (.int l2), some (.int (v3 + 1)), some (.int l4), some (.int l5), some (.int (v6 + 1)), some (.ref r1)] _ _ _ _
          exact r_le (le_s (le_s (le_s (le_s (le_s (le_s (le_s (le_n (le_0))))))))) (ih (v3 + 1) (v6 + 1) T2 kk)
        · refine r_in (R := rV) c124_5 ?_
          have kk := kk.2 c124_5
          refine r_p (pc2 := 128) dX5_layDish_127 rfl rfl ?_
          refine r_get dX5_layDish_128 fkX5_31 rfl rfl ?_
          refine r_ci (x := 0) dX5_layDish_131 rfl ?_
          refine r_aa dX5_layDish_132 rfl (by decide) (in_c (by decide)) (rf93 (in_c (by decide))) ?_
          refine r_p (pc2 := 135) dX5_layDish_133 rfl rfl ?_
          refine r_get dX5_layDish_135 fkX5_110 q9 rfl ?_
          obtain ⟨q11, kk⟩ := kk
          refine r_cv (d1 := 1) dX5_layDish_138 cvX5_114 rfl rfl (shr93 (in_c (by decide))) rfl (Nat.le_of_ble_eq_true rfl) (Nat.le_of_ble_eq_true rfl) (Nat.le_of_ble_eq_true rfl) (c_ta_hasRoom (507 + 5 * (0 : Int32).toNatClampNeg) (r1 + 3) q11) ?_
          refine r_ine dX5_layDish_141 rfl (fun c141_6 => ?_) (fun c141_6 => ?_)
          · refine r_in (R := rV) c141_6 ?_
            have kk := kk.2 c141_6
            refine r_inc (L2 := [some (.ref (80 : Nat)), some (.int l1), some (.int l2), some (.int (v3 + 1)), some (.int l4), some (.int l5), some (.int v6), some (.ref r1)]) (y := 1) dX5_layDish_150 rfl rfl rfl ?_
            refine r_inc (L2 := [some (.ref (80 : Nat)), some (.int l1), some (.int l2), some (.int (v3 + 1)), some (.int l4), some (.int l5), some (.int (v6 + 1)), some (.ref r1)]) (y := 1) dX5_layDish_153 rfl rfl rfl ?_
            refine r_go dX5_layDish_156 rfl ?_
            show tR _ _ _ _ [some (.ref (80 : Nat)), some (.int l1), some (.int l2), some (.int (v3 + 1)), some (.int l4), some (.int l5), some (.int (v6 + 1)), some (.ref r1)] _ _ _ _
            exact r_le (le_s (le_s (le_s (le_s (le_s (le_s (le_s (le_n (le_0))))))))) (ih (v3 + 1) (v6 + 1) T2 kk)
          · refine r_ip (R := rV) c141_6 ?_
            have kk := kk.1 c141_6
            refine r_p (pc2 := 146) dX5_layDish_144 rfl rfl ?_
            refine r_ci (x := 0) dX5_layDish_146 rfl ?_
            refine r_put dX5_layDish_147 fkX5_106 rfl q9 rfl (Nat.le_of_ble_eq_true rfl) rfl rfl ?_
            refine r_inc (L2 := [some (.ref (80 : Nat)), some (.int l1), some (.int l2), some (.int (v3 + 1)), some (.int l4), some (.int l5), some (.int v6), some (.ref r1)]) (y := 1) dX5_layDish_150 rfl rfl rfl ?_
            refine r_inc (L2 := [some (.ref (80 : Nat)), some (.int l1), some (.int l2), some (.int (v3 + 1)), some (.int l4), some (.int l5), some (.int (v6 + 1)), some (.ref r1)]) (y := 1) dX5_layDish_153 rfl rfl rfl ?_
            refine r_go dX5_layDish_156 rfl ?_
            show tR _ _ _ _ [some (.ref (80 : Nat)), some (.int l1), some (.int l2), some (.int (v3 + 1)), some (.int l4), some (.int l5), some (.int (v6 + 1)), some (.ref r1)] _ _ _ _
            exact r_le (le_s (le_s (le_s (le_s (le_s (le_s (le_s (le_n (le_0))))))))) (ih (v3 + 1) (v6 + 1) (sF T2 r1 6 0) kk)
def x_pl_layDish_22 (l1 : Int32) (l2 : Int32) (l4 : Int32) (K : Int32 → Int32 → St → St) : Nat → Int32 → Int32 → St → St
  | 0, _, _, T => T
  | f + 1, v3, v5, T => if (x_bk_waitBehind T (T.2.1 2) l1 0) < v5 then (K v3 v5 T) else (x_pl_layDish_39 l1 l2 l4 v5 (fun (w1_3 : Int32) (w1_6 : Int32) (T201 : St) => x_pl_layDish_22 l1 l2 l4 K f w1_3 (v5 + 1) T201) 1000 v3 0 T)
def ok_pl_layDish_22 (l1 : Int32) (l2 : Int32) (l4 : Int32) (Kk : Int32 → Int32 → St → Prop) : Nat → Int32 → Int32 → St → Prop
  | 0, _, _, _ => False
  | f + 1, v3, v5, T => (ok_bk_waitBehind T (T.2.1 2) l1 0) ∧ (sh (T.2.1 2) = .inr 1) ∧ (((x_bk_waitBehind T (T.2.1 2) l1 0) < v5 → Kk v3 v5 T) ∧ (¬ (x_bk_waitBehind T (T.2.1 2) l1 0) < v5 → ok_pl_layDish_39 l1 l2 l4 v5 (fun (w1_3 : Int32) (w1_6 : Int32) (T201 : St) => ok_pl_layDish_22 l1 l2 l4 Kk f w1_3 (v5 + 1) T201) 1000 v3 0 T))
theorem c_pl_layDish_22 {X : Nat × (Nat → Int32)} (l1 : Int32) (l2 : Int32) (l4 : Int32) {K : Int32 → Int32 → St → St} {Kk : Int32 → Int32 → St → Prop} (hk : ∀ (v3 : Int32) (v5 : Int32) (T : St), Kk v3 v5 T → tR X 3 mX5_layDish 165 [some (.ref (80 : Nat)), some (.int l1), some (.int l2), some (.int v3), some (.int l4), some (.int v5), none, none] [] T (rV (K v3 v5 T)).1 ((rV (K v3 v5 T)).2)) : ∀ (f : Nat) (v3 : Int32) (v5 : Int32) (T : St), ok_pl_layDish_22 l1 l2 l4 Kk f v3 v5 T → tR X 3 mX5_layDish 22 [some (.ref (80 : Nat)), some (.int l1), some (.int l2), some (.int v3), some (.int l4), some (.int v5), none, none] [] T (rV (x_pl_layDish_22 l1 l2 l4 K f v3 v5 T)).1 ((rV (x_pl_layDish_22 l1 l2 l4 K f v3 v5 T)).2) := by
  intro f
  induction f with
  | zero => intro v3 v5 T kk; exact kk.elim
  | succ f ih =>
    intro v3 v5 T kk
    rw [ok_pl_layDish_22] at kk
    rw [x_pl_layDish_22]
    refine r_p (pc2 := 24) dX5_layDish_22 rfl rfl ?_
    refine r_p (pc2 := 25) dX5_layDish_24 rfl rfl ?_
    refine r_get dX5_layDish_25 fkX5_62 rfl rfl ?_
    refine r_p (pc2 := 29) dX5_layDish_28 rfl rfl ?_
    refine r_ci (x := 0) dX5_layDish_29 rfl ?_
    obtain ⟨q3, kk⟩ := kk
    obtain ⟨q4, kk⟩ := kk
    refine r_cv (d1 := 1) dX5_layDish_30 cvX5_86 rfl rfl q4 rfl (Nat.le_of_ble_eq_true rfl) (Nat.le_of_ble_eq_true rfl) (Nat.le_of_ble_eq_true rfl) (c_bk_waitBehind (T.2.1 2) l1 0 q3) ?_
    refine r_cgt dX5_layDish_33 rfl (fun c33_2 => ?_) (fun c33_2 => ?_)
    · refine r_ip (R := rV) c33_2 ?_
      have kk := kk.1 c33_2
      show tR _ _ _ _ [some (.ref (80 : Nat)), some (.int l1), some (.int l2), some (.int v3), some (.int l4), some (.int v5), none, none] _ _ _ _
      exact (hk v3 v5 T kk)
    · refine r_in (R := rV) c33_2 ?_
      have kk := kk.2 c33_2
      refine r_ci (x := 0) dX5_layDish_36 rfl ?_
      refine r_p (pc2 := 39) (L2 := [some (.ref (80 : Nat)), some (.int l1), some (.int l2), some (.int v3), some (.int l4), some (.int v5), some (.int 0), none]) dX5_layDish_37 rfl rfl ?_
      show tR _ _ _ _ [some (.ref (80 : Nat)), some (.int l1), some (.int l2), some (.int v3), some (.int l4), some (.int v5), some (.int 0), none] _ _ _ _
      refine (c_pl_layDish_39 l1 l2 l4 v5 (fun w1_3 w1_6 T201 kk => ?_) 1000 v3 0 T kk)
      · skip
        refine r_inc (L2 := [some (.ref (80 : Nat)), some (.int l1), some (.int l2), some (.int w1_3), some (.int l4), some (.int (v5 + 1)), some (.int w1_6), none]) (y := 1) dX5_layDish_159 rfl rfl rfl ?_
        refine r_go dX5_layDish_162 rfl ?_
        show tR _ _ _ _ [some (.ref (80 : Nat)), some (.int l1), some (.int l2), some (.int w1_3), some (.int l4), some (.int (v5 + 1)), some (.int w1_6), none] _ _ _ _
        exact r_le (le_s (le_s (le_s (le_s (le_s (le_s (le_n (le_s (le_0))))))))) (ih w1_3 (v5 + 1) T201 kk)
def x_pl_layDish_5 (l1 : Int32) (l2 : Int32) (K : Int32 → Int32 → St → St) : Nat → Int32 → Int32 → St → St
  | 0, _, _, T => T
  | f + 1, v3, v4, T => if (x_bk_waitBehind T (T.2.1 2) l1 1) < v4 then (K v3 v4 T) else (x_pl_layDish_22 l1 l2 v4 (fun (w2_3 : Int32) (w2_5 : Int32) (T202 : St) => x_pl_layDish_5 l1 l2 K f w2_3 (v4 + 1) T202) 1000 v3 0 T)
def ok_pl_layDish_5 (l1 : Int32) (l2 : Int32) (Kk : Int32 → Int32 → St → Prop) : Nat → Int32 → Int32 → St → Prop
  | 0, _, _, _ => False
  | f + 1, v3, v4, T => (ok_bk_waitBehind T (T.2.1 2) l1 1) ∧ (sh (T.2.1 2) = .inr 1) ∧ (((x_bk_waitBehind T (T.2.1 2) l1 1) < v4 → Kk v3 v4 T) ∧ (¬ (x_bk_waitBehind T (T.2.1 2) l1 1) < v4 → ok_pl_layDish_22 l1 l2 v4 (fun (w2_3 : Int32) (w2_5 : Int32) (T202 : St) => ok_pl_layDish_5 l1 l2 Kk f w2_3 (v4 + 1) T202) 1000 v3 0 T))
theorem c_pl_layDish_5 {X : Nat × (Nat → Int32)} (l1 : Int32) (l2 : Int32) {K : Int32 → Int32 → St → St} {Kk : Int32 → Int32 → St → Prop} (hk : ∀ (v3 : Int32) (v4 : Int32) (T : St), Kk v3 v4 T → tR X 3 mX5_layDish 171 [some (.ref (80 : Nat)), some (.int l1), some (.int l2), some (.int v3), some (.int v4), none, none, none] [] T (rV (K v3 v4 T)).1 ((rV (K v3 v4 T)).2)) : ∀ (f : Nat) (v3 : Int32) (v4 : Int32) (T : St), ok_pl_layDish_5 l1 l2 Kk f v3 v4 T → tR X 3 mX5_layDish 5 [some (.ref (80 : Nat)), some (.int l1), some (.int l2), some (.int v3), some (.int v4), none, none, none] [] T (rV (x_pl_layDish_5 l1 l2 K f v3 v4 T)).1 ((rV (x_pl_layDish_5 l1 l2 K f v3 v4 T)).2) := by
  intro f
  induction f with
  | zero => intro v3 v4 T kk; exact kk.elim
  | succ f ih =>
    intro v3 v4 T kk
    rw [ok_pl_layDish_5] at kk
    rw [x_pl_layDish_5]
    refine r_p (pc2 := 7) dX5_layDish_5 rfl rfl ?_
    refine r_p (pc2 := 8) dX5_layDish_7 rfl rfl ?_
    refine r_get dX5_layDish_8 fkX5_62 rfl rfl ?_
    refine r_p (pc2 := 12) dX5_layDish_11 rfl rfl ?_
    refine r_ci (x := 1) dX5_layDish_12 rfl ?_
    obtain ⟨q1, kk⟩ := kk
    obtain ⟨q2, kk⟩ := kk
    refine r_cv (d1 := 1) dX5_layDish_13 cvX5_86 rfl rfl q2 rfl (Nat.le_of_ble_eq_true rfl) (Nat.le_of_ble_eq_true rfl) (Nat.le_of_ble_eq_true rfl) (c_bk_waitBehind (T.2.1 2) l1 1 q1) ?_
    refine r_cgt dX5_layDish_16 rfl (fun c16_1 => ?_) (fun c16_1 => ?_)
    · refine r_ip (R := rV) c16_1 ?_
      have kk := kk.1 c16_1
      show tR _ _ _ _ [some (.ref (80 : Nat)), some (.int l1), some (.int l2), some (.int v3), some (.int v4), none, none, none] _ _ _ _
      exact (hk v3 v4 T kk)
    · refine r_in (R := rV) c16_1 ?_
      have kk := kk.2 c16_1
      refine r_ci (x := 0) dX5_layDish_19 rfl ?_
      refine r_p (pc2 := 22) (L2 := [some (.ref (80 : Nat)), some (.int l1), some (.int l2), some (.int v3), some (.int v4), some (.int 0), none, none]) dX5_layDish_20 rfl rfl ?_
      show tR _ _ _ _ [some (.ref (80 : Nat)), some (.int l1), some (.int l2), some (.int v3), some (.int v4), some (.int 0), none, none] _ _ _ _
      refine (c_pl_layDish_22 l1 l2 v4 (fun w2_3 w2_5 T202 kk => ?_) 1000 v3 0 T kk)
      · skip
        refine r_inc (L2 := [some (.ref (80 : Nat)), some (.int l1), some (.int l2), some (.int w2_3), some (.int (v4 + 1)), some (.int w2_5), none, none]) (y := 1) dX5_layDish_165 rfl rfl rfl ?_
        refine r_go dX5_layDish_168 rfl ?_
        show tR _ _ _ _ [some (.ref (80 : Nat)), some (.int l1), some (.int l2), some (.int w2_3), some (.int (v4 + 1)), some (.int w2_5), none, none] _ _ _ _
        exact r_le (le_s (le_s (le_s (le_s (le_s (le_n (le_s (le_s (le_0))))))))) (ih w2_3 (v4 + 1) T202 kk)
def x_pl_layDish (T : St) (p0 : Int32) (p1 : Int32) : St := x_pl_layDish_5 p0 p1 (fun (w3_3 : Int32) (w3_4 : Int32) (T203 : St) => sA T203 82 (p0 : Int32).toNatClampNeg w3_3) 1000 0 0 T
def ok_pl_layDish (T : St) (p0 : Int32) (p1 : Int32) : Prop := ok_pl_layDish_5 p0 p1 (fun (w3_3 : Int32) (w3_4 : Int32) (T203 : St) => (vp_in p0 8) ∧ True) 1000 0 0 T
theorem c_pl_layDish {X : Nat × (Nat → Int32)} {T : St} (p0 : Int32) (p1 : Int32) (kk : ok_pl_layDish T p0 p1) : tC X 4 mX5_layDish [.ref (80 : Nat), .int p0, .int p1] T none (x_pl_layDish T p0 p1) := by
  unfold ok_pl_layDish at kk
  refine tC_orV (L := [some (.ref (80 : Nat)), some (.int p0), some (.int p1), none, none, none, none, none]) (x_pl_layDish T p0 p1) rfl ?_
  unfold x_pl_layDish
  refine r_ci (x := 0) dX5_layDish_0 rfl ?_
  refine r_p (pc2 := 2) (L2 := [some (.ref (80 : Nat)), some (.int p0), some (.int p1), some (.int 0), none, none, none, none]) dX5_layDish_1 rfl rfl ?_
  refine r_ci (x := 0) dX5_layDish_2 rfl ?_
  refine r_p (pc2 := 5) (L2 := [some (.ref (80 : Nat)), some (.int p0), some (.int p1), some (.int 0), some (.int 0), none, none, none]) dX5_layDish_3 rfl rfl ?_
  show tR _ _ _ _ [some (.ref (80 : Nat)), some (.int p0), some (.int p1), some (.int 0), some (.int 0), none, none, none] _ _ _ _
  refine (c_pl_layDish_5 p0 p1 (fun w3_3 w3_4 T203 kk => ?_) 1000 0 0 T kk)
  · skip
    refine r_p (pc2 := 172) dX5_layDish_171 rfl rfl ?_
    refine r_get dX5_layDish_172 fkX5_17 rfl rfl ?_
    refine r_p (pc2 := 176) dX5_layDish_175 rfl rfl ?_
    refine r_p (pc2 := 177) dX5_layDish_176 rfl rfl ?_
    obtain ⟨q12, kk⟩ := kk
    refine r_ias dX5_layDish_177 rfl q12 ?_
    exact r_qV dX5_layDish_178 rfl rfl
