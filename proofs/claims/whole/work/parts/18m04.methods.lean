def x_rd_hasRoom (T : St) (p0 : Int32) : Int32 := if 600 < ((T.1 13 1) + p0) then (0) else (1)
theorem c_rd_hasRoom {X : Nat × (Nat → Int32)} {T : St} (p0 : Int32) : tC X 1 mX6_hasRoom [.ref 13, .int p0] T (some (.int (x_rd_hasRoom T p0))) T := by
  refine tC_of ?_
  refine r_p dX6_hasRoom_0 rfl rfl ?_
  refine r_get dX6_hasRoom_1 fkX6_15 rfl rfl ?_
  refine r_p dX6_hasRoom_4 rfl rfl ?_
  refine r_p dX6_hasRoom_5 rfl rfl ?_
  refine r_csi (x := 600) dX6_hasRoom_6 rfl ?_
  refine r_cgt dX6_hasRoom_9 rfl (fun c9_1 => ?_) (fun c9_1 => ?_)
  · refine r_ci (x := 0) dX6_hasRoom_16 rfl ?_
    exact r_eIp (r' := 0) (by unfold x_rd_hasRoom; rw [if_pos c9_1]) (r_ri dX6_hasRoom_17 rfl rfl rfl rfl)
  · refine r_ci (x := 1) dX6_hasRoom_12 rfl ?_
    refine r_go dX6_hasRoom_13 rfl ?_
    exact r_eIp (r' := 1) (by unfold x_rd_hasRoom; rw [if_neg c9_1]) (r_ri dX6_hasRoom_17 rfl rfl rfl rfl)
theorem b_rd_hasRoom (T : St) (p0 : Int32) : x_rd_hasRoom T p0 = 0 ∨ x_rd_hasRoom T p0 = 1 := by
  unfold x_rd_hasRoom
  repeat' split
  all_goals (first | exact Or.inl rfl | exact Or.inr rfl)
def x_rd_put_5 (l1 : Int64) (l3 : Int32) (K : Int32 → St → St) : Nat → Int32 → St → St
  | 0, _, T => T
  | f + 1, v4, T => if v4 < 0 then (K v4 T) else (if 600 ≤ (T.1 13 1) then (K v4 T) else (fun (T1 : St) => x_rd_put_5 l1 l3 K f (v4 + (-1)) (sF T1 13 1 ((T1.1 13 1) + 1))) (sA T 14 (T.1 13 1 : Int32).toNatClampNeg (((l1 >>> (((8 * v4) : Int32).toInt64 &&& 63) : Int64).toInt32) &&& 255)))
def ok_rd_put_5 (l1 : Int64) (l3 : Int32) (Kk : Int32 → St → Prop) : Nat → Int32 → St → Prop
  | 0, _, _ => False
  | f + 1, v4, T => ((v4 < 0 → Kk v4 T) ∧ (¬ v4 < 0 → ((600 ≤ (T.1 13 1) → Kk v4 T) ∧ (¬ 600 ≤ (T.1 13 1) → (vp_in (T.1 13 1) 600) ∧ (fun (T1 : St) => ok_rd_put_5 l1 l3 Kk f (v4 + (-1)) (sF T1 13 1 ((T1.1 13 1) + 1))) (sA T 14 (T.1 13 1 : Int32).toNatClampNeg (((l1 >>> (((8 * v4) : Int32).toInt64 &&& 63) : Int64).toInt32) &&& 255))))))
theorem c_rd_put_5 {X : Nat × (Nat → Int32)} (l1 : Int64) (l3 : Int32) {K : Int32 → St → St} {Kk : Int32 → St → Prop} (hk : ∀ (v4 : Int32) (T : St), Kk v4 T → tR X 0 mX6_put 57 [some (.ref 13), some (.long l1), none, some (.int l3), some (.int v4)] [] T none (K v4 T)) : ∀ (f : Nat) (v4 : Int32) (T : St), ok_rd_put_5 l1 l3 Kk f v4 T → tR X 0 mX6_put 5 [some (.ref 13), some (.long l1), none, some (.int l3), some (.int v4)] [] T none (x_rd_put_5 l1 l3 K f v4 T) := by
  intro f
  induction f with
  | zero => intro v4 T kk; exact kk.elim
  | succ f ih =>
    intro v4 T kk
    rw [ok_rd_put_5] at kk
    refine r_p dX6_put_5 rfl rfl ?_
    refine r_ilt dX6_put_7 rfl (fun c7_1 => ?_) (fun c7_1 => ?_)
    · have kk := kk.1 c7_1
      show tR _ _ _ _ [some (.ref 13), some (.long l1), none, some (.int l3), some (.int v4)] _ _ _ _
      exact r_eV (r' := K v4 T) (by rw [x_rd_put_5]; rw [if_pos c7_1]) ((hk v4 T kk))
    · have kk := kk.2 c7_1
      refine r_p dX6_put_10 rfl rfl ?_
      refine r_get dX6_put_11 fkX6_15 rfl rfl ?_
      refine r_csi (x := 600) dX6_put_14 rfl ?_
      refine r_cge dX6_put_17 rfl (fun c17_2 => ?_) (fun c17_2 => ?_)
      · have kk := kk.1 c17_2
        show tR _ _ _ _ [some (.ref 13), some (.long l1), none, some (.int l3), some (.int v4)] _ _ _ _
        exact r_eV (r' := K v4 T) (by rw [x_rd_put_5]; rw [if_neg c7_1, if_pos c17_2]) ((hk v4 T kk))
      · have kk := kk.2 c17_2
        refine r_p dX6_put_20 rfl rfl ?_
        refine r_get dX6_put_21 fkX6_11 rfl rfl ?_
        refine r_p dX6_put_24 rfl rfl ?_
        refine r_get dX6_put_25 fkX6_15 rfl rfl ?_
        refine r_p dX6_put_28 rfl rfl ?_
        refine r_cb (x := 8) dX6_put_29 rfl ?_
        refine r_p dX6_put_31 rfl rfl ?_
        refine r_p dX6_put_33 rfl rfl ?_
        refine r_p dX6_put_34 rfl rfl ?_
        refine r_p dX6_put_35 rfl rfl ?_
        refine r_csi (x := 255) dX6_put_36 rfl ?_
        refine r_p dX6_put_39 rfl rfl ?_
        obtain ⟨q1, kk⟩ := kk
        refine r_ias dX6_put_40 rfl q1 ?_
        refine r_eV (r' := (fun (T1 : St) => x_rd_put_5 l1 l3 K f (v4 + (-1)) (sF T1 13 1 ((T1.1 13 1) + 1))) (sA T 14 (T.1 13 1 : Int32).toNatClampNeg (((l1 >>> (((8 * v4) : Int32).toInt64 &&& 63) : Int64).toInt32) &&& 255))) (by rw [x_rd_put_5]; rw [if_neg c7_1, if_neg c17_2]) ?_
        generalize sA T 14 (T.1 13 1 : Int32).toNatClampNeg (((l1 >>> (((8 * v4) : Int32).toInt64 &&& 63) : Int64).toInt32) &&& 255) = T1 at kk ⊢
        try dsimp only at kk
        refine r_p dX6_put_41 rfl rfl ?_
        refine r_p dX6_put_42 rfl rfl ?_
        refine r_get dX6_put_43 fkX6_15 rfl rfl ?_
        refine r_ci (x := 1) dX6_put_46 rfl ?_
        refine r_p dX6_put_47 rfl rfl ?_
        refine r_put dX6_put_48 fkX6_15 rfl rfl rfl (Nat.le_of_ble_eq_true rfl) rfl rfl ?_
        refine r_inc (y := -1) dX6_put_51 rfl rfl rfl ?_
        refine r_go dX6_put_54 rfl ?_
        show tR _ _ _ _ [some (.ref 13), some (.long l1), none, some (.int l3), some (.int (v4 + (-1)))] _ _ _ _
        exact r_eV (r' := x_rd_put_5 l1 l3 K f (v4 + (-1)) (sF T1 13 1 ((T1.1 13 1) + 1))) rfl ((ih (v4 + (-1)) (sF T1 13 1 ((T1.1 13 1) + 1)) kk))
def x_rd_put (T : St) (p0 : Int64) (p1 : Int32) : St := x_rd_put_5 p0 p1 (fun (w1_4 : Int32) (T201 : St) => T201) 1000 (p1 - 1) T
def ok_rd_put (T : St) (p0 : Int64) (p1 : Int32) : Prop := ok_rd_put_5 p0 p1 (fun (w1_4 : Int32) (T201 : St) => True) 1000 (p1 - 1) T
theorem c_rd_put {X : Nat × (Nat → Int32)} {T : St} (p0 : Int64) (p1 : Int32) (kk : ok_rd_put T p0 p1) : tC X 1 mX6_put [.ref 13, .long p0, .int p1] T none (x_rd_put T p0 p1) := by
  unfold ok_rd_put at kk
  refine tC_of ?_
  refine r_p dX6_put_0 rfl rfl ?_
  refine r_ci (x := 1) dX6_put_1 rfl ?_
  refine r_p dX6_put_2 rfl rfl ?_
  refine r_p dX6_put_3 rfl rfl ?_
  show tR _ _ _ _ [some (.ref 13), some (.long p0), none, some (.int p1), some (.int (p1 - 1))] _ _ _ _
  refine r_eV (r' := x_rd_put_5 p0 p1 (fun (w1_4 : Int32) (T201 : St) => T201) 1000 (p1 - 1) T) (by unfold x_rd_put; rfl) ((c_rd_put_5 p0 p1 (fun w1_4 T201 kk => ?_) 1000 (p1 - 1) T kk))
  · exact r_eV (r' := T201) rfl (r_rv dX6_put_57 rfl rfl rfl)
def x_rd_isWord_28 (T : St) (l1 : Nat) (K : Int32 → Int32) : Nat → Int32 → Int32
  | 0, _ => 0
  | f + 1, v2 => if (x_slen T l1) ≤ v2 then (K v2) else (if (T.2.2.1 14 ((T.1 13 3) + v2 : Int32).toNatClampNeg) = (x_sch T l1 v2) then (x_rd_isWord_28 T l1 K f (v2 + 1)) else (0))
def ok_rd_isWord_28 (T : St) (l1 : Nat) (Kk : Int32 → Prop) : Nat → Int32 → Prop
  | 0, _ => False
  | f + 1, v2 => (ok_slen T l1) ∧ (l1 < 8) ∧ (((x_slen T l1) ≤ v2 → Kk v2) ∧ (¬ (x_slen T l1) ≤ v2 → (vp_in ((T.1 13 3) + v2) 600) ∧ (ok_sch T l1 v2) ∧ ((T.2.2.1 14 ((T.1 13 3) + v2 : Int32).toNatClampNeg) = (x_sch T l1 v2) → ok_rd_isWord_28 T l1 Kk f (v2 + 1))))
theorem c_rd_isWord_28 {X : Nat × (Nat → Int32)} (T : St) (l1 : Nat) {K : Int32 → Int32} {Kk : Int32 → Prop} (hk : ∀ (v2 : Int32), Kk v2 → tR X 4 mX6_isWord 63 [some (.ref 13), some (.ref (mx_B + (10 + l1))), some (.int v2)] [] T (some (.int (K v2))) T) : ∀ (f : Nat) (v2 : Int32), ok_rd_isWord_28 T l1 Kk f v2 → tR X 4 mX6_isWord 28 [some (.ref 13), some (.ref (mx_B + (10 + l1))), some (.int v2)] [] T (some (.int (x_rd_isWord_28 T l1 K f v2))) T := by
  intro f
  induction f with
  | zero => intro v2 kk; exact kk.elim
  | succ f ih =>
    intro v2 kk
    rw [ok_rd_isWord_28] at kk
    refine r_p dX6_isWord_28 rfl rfl ?_
    refine r_p dX6_isWord_29 rfl rfl ?_
    obtain ⟨q3, kk⟩ := kk
    obtain ⟨q4, kk⟩ := kk
    refine r_cvs (d1 := 2) (j := l1) dX6_isWord_30 cvX6_150 rfl rfl q4 rfl (Nat.le_of_ble_eq_true rfl) (Nat.le_of_ble_eq_true rfl) (Nat.le_of_ble_eq_true rfl) (c_slen l1 q3) ?_
    refine r_cge dX6_isWord_33 rfl (fun c33_3 => ?_) (fun c33_3 => ?_)
    · have kk := kk.1 c33_3
      show tR _ _ _ _ [some (.ref 13), some (.ref (mx_B + (10 + l1))), some (.int v2)] _ _ _ _
      exact r_eIp (r' := K v2) (by rw [x_rd_isWord_28]; rw [if_pos c33_3]) ((hk v2  kk))
    · have kk := kk.2 c33_3
      refine r_p dX6_isWord_36 rfl rfl ?_
      refine r_get dX6_isWord_37 fkX6_11 rfl rfl ?_
      refine r_p dX6_isWord_40 rfl rfl ?_
      refine r_get dX6_isWord_41 fkX6_147 rfl rfl ?_
      refine r_p dX6_isWord_44 rfl rfl ?_
      refine r_p dX6_isWord_45 rfl rfl ?_
      obtain ⟨q5, kk⟩ := kk
      refine r_ia dX6_isWord_46 rfl q5 ?_
      refine r_p dX6_isWord_47 rfl rfl ?_
      refine r_p dX6_isWord_48 rfl rfl ?_
      obtain ⟨q6, kk⟩ := kk
      refine r_cvs (d1 := 4) (j := l1) dX6_isWord_49 cvX6_154 rfl rfl q4 rfl (Nat.le_of_ble_eq_true rfl) (Nat.le_of_ble_eq_true rfl) (Nat.le_of_ble_eq_true rfl) (c_sch l1 v2 q6) ?_
      refine r_ceq dX6_isWord_52 rfl (fun c52_4 => ?_) (fun c52_4 => ?_)
      · have kk := kk c52_4
        refine r_inc (y := 1) dX6_isWord_57 rfl rfl rfl ?_
        refine r_go dX6_isWord_60 rfl ?_
        show tR _ _ _ _ [some (.ref 13), some (.ref (mx_B + (10 + l1))), some (.int (v2 + 1))] _ _ _ _
        exact r_eIp (r' := x_rd_isWord_28 T l1 K f (v2 + 1)) (by rw [x_rd_isWord_28]; rw [if_neg c33_3, if_pos c52_4]) ((ih (v2 + 1)  kk))
      · refine r_ci (x := 0) dX6_isWord_55 rfl ?_
        exact r_eIp (r' := 0) (by rw [x_rd_isWord_28]; rw [if_neg c33_3, if_neg c52_4]) (r_ri dX6_isWord_56 rfl rfl rfl rfl)
def x_rd_isWord (T : St) (p0 : Nat) : Int32 := if (T.1 13 5) = 1 then (if ((T.1 13 4) - (T.1 13 3)) = (x_slen T p0) then (x_rd_isWord_28 T p0 (fun (w1_2 : Int32) => 1) 1000 0) else (0)) else (0)
def ok_rd_isWord (T : St) (p0 : Nat) : Prop := ((T.1 13 5) = 1 → (ok_slen T p0) ∧ (p0 < 8) ∧ (((T.1 13 4) - (T.1 13 3)) = (x_slen T p0) → ok_rd_isWord_28 T p0 (fun (w1_2 : Int32) => True) 1000 0))
theorem c_rd_isWord {X : Nat × (Nat → Int32)} {T : St} (p0 : Nat) (kk : ok_rd_isWord T p0) : tC X 5 mX6_isWord [.ref 13, .ref (mx_B + (10 + p0))] T (some (.int (x_rd_isWord T p0))) T := by
  unfold ok_rd_isWord at kk
  refine tC_of ?_
  refine r_p dX6_isWord_0 rfl rfl ?_
  refine r_get dX6_isWord_1 fkX6_49 rfl rfl ?_
  refine r_ci (x := 1) dX6_isWord_4 rfl ?_
  refine r_cne dX6_isWord_5 rfl (fun c5_1 => ?_) (fun c5_1 => ?_)
  · refine r_ci (x := 0) dX6_isWord_24 rfl ?_
    exact r_eIp (r' := 0) (by unfold x_rd_isWord; rw [if_neg c5_1]) (r_ri dX6_isWord_25 rfl rfl rfl rfl)
  · have kk := kk c5_1
    refine r_p dX6_isWord_8 rfl rfl ?_
    refine r_get dX6_isWord_9 fkX6_27 rfl rfl ?_
    refine r_p dX6_isWord_12 rfl rfl ?_
    refine r_get dX6_isWord_13 fkX6_147 rfl rfl ?_
    refine r_p dX6_isWord_16 rfl rfl ?_
    refine r_p dX6_isWord_17 rfl rfl ?_
    obtain ⟨q1, kk⟩ := kk
    obtain ⟨q2, kk⟩ := kk
    refine r_cvs (d1 := 2) (j := p0) dX6_isWord_18 cvX6_150 rfl rfl q2 rfl (Nat.le_of_ble_eq_true rfl) (Nat.le_of_ble_eq_true rfl) (Nat.le_of_ble_eq_true rfl) (c_slen p0 q1) ?_
    refine r_ceq dX6_isWord_21 rfl (fun c21_2 => ?_) (fun c21_2 => ?_)
    · have kk := kk c21_2
      refine r_ci (x := 0) dX6_isWord_26 rfl ?_
      refine r_p dX6_isWord_27 rfl rfl ?_
      show tR _ _ _ _ [some (.ref 13), some (.ref (mx_B + (10 + p0))), some (.int 0)] _ _ _ _
      refine r_eIp (r' := x_rd_isWord_28 T p0 (fun (w1_2 : Int32) => 1) 1000 0) (by unfold x_rd_isWord; rw [if_pos c5_1, if_pos c21_2]) ((c_rd_isWord_28 T p0 (fun w1_2 kk => ?_) 1000 0  kk))
      · refine r_ci (x := 1) dX6_isWord_63 rfl ?_
        exact r_eIp (r' := 1) rfl (r_ri dX6_isWord_64 rfl rfl rfl rfl)
    · refine r_ci (x := 0) dX6_isWord_24 rfl ?_
      exact r_eIp (r' := 0) (by unfold x_rd_isWord; rw [if_pos c5_1, if_neg c21_2]) (r_ri dX6_isWord_25 rfl rfl rfl rfl)
def x_rd_takeFigures_5  (K : St → St) : Nat → St → St
  | 0, T => T
  | f + 1, T => if (T.1 13 1) ≤ (T.1 13 4) then (K  T) else (if (T.2.2.1 14 (T.1 13 4 : Int32).toNatClampNeg) < 48 then (K  T) else (if 57 < (T.2.2.1 14 (T.1 13 4 : Int32).toNatClampNeg) then (K  T) else (fun (T1 : St) => x_rd_takeFigures_5 K f  T1) (sF (sF T 13 6 ((((T.1 13 6) * 10) + (T.2.2.1 14 (T.1 13 4 : Int32).toNatClampNeg)) - 48)) 13 4 (((sF T 13 6 ((((T.1 13 6) * 10) + (T.2.2.1 14 (T.1 13 4 : Int32).toNatClampNeg)) - 48)).1 13 4) + 1))))
def ok_rd_takeFigures_5  (Kk : St → Prop) : Nat → St → Prop
  | 0, _ => False
  | f + 1, T => (((T.1 13 1) ≤ (T.1 13 4) → Kk  T) ∧ (¬ (T.1 13 1) ≤ (T.1 13 4) → (vp_in (T.1 13 4) 600) ∧ (((T.2.2.1 14 (T.1 13 4 : Int32).toNatClampNeg) < 48 → Kk  T) ∧ (¬ (T.2.2.1 14 (T.1 13 4 : Int32).toNatClampNeg) < 48 → ((57 < (T.2.2.1 14 (T.1 13 4 : Int32).toNatClampNeg) → Kk  T) ∧ (¬ 57 < (T.2.2.1 14 (T.1 13 4 : Int32).toNatClampNeg) → (fun (T1 : St) => ok_rd_takeFigures_5 Kk f  T1) (sF (sF T 13 6 ((((T.1 13 6) * 10) + (T.2.2.1 14 (T.1 13 4 : Int32).toNatClampNeg)) - 48)) 13 4 (((sF T 13 6 ((((T.1 13 6) * 10) + (T.2.2.1 14 (T.1 13 4 : Int32).toNatClampNeg)) - 48)).1 13 4) + 1))))))))
theorem c_rd_takeFigures_5 {X : Nat × (Nat → Int32)}  {K : St → St} {Kk : St → Prop} (hk : ∀  (T : St), Kk  T → tR X 0 mX6_takeFigures 81 [some (.ref 13)] [] T none (K  T)) : ∀ (f : Nat)  (T : St), ok_rd_takeFigures_5  Kk f  T → tR X 0 mX6_takeFigures 5 [some (.ref 13)] [] T none (x_rd_takeFigures_5 K f T) := by
  intro f
  induction f with
  | zero => intro  T kk; exact kk.elim
  | succ f ih =>
    intro  T kk
    rw [ok_rd_takeFigures_5] at kk
    refine r_p dX6_takeFigures_5 rfl rfl ?_
    refine r_get dX6_takeFigures_6 fkX6_27 rfl rfl ?_
    refine r_p dX6_takeFigures_9 rfl rfl ?_
    refine r_get dX6_takeFigures_10 fkX6_15 rfl rfl ?_
    refine r_cge dX6_takeFigures_13 rfl (fun c13_1 => ?_) (fun c13_1 => ?_)
    · have kk := kk.1 c13_1
      show tR _ _ _ _ [some (.ref 13)] _ _ _ _
      exact r_eV (r' := K  T) (by rw [x_rd_takeFigures_5]; rw [if_pos c13_1]) ((hk  T kk))
    · have kk := kk.2 c13_1
      refine r_p dX6_takeFigures_16 rfl rfl ?_
      refine r_get dX6_takeFigures_17 fkX6_11 rfl rfl ?_
      refine r_p dX6_takeFigures_20 rfl rfl ?_
      refine r_get dX6_takeFigures_21 fkX6_27 rfl rfl ?_
      obtain ⟨q1, kk⟩ := kk
      refine r_ia dX6_takeFigures_24 rfl q1 ?_
      refine r_cb (x := 48) dX6_takeFigures_25 rfl ?_
      refine r_clt dX6_takeFigures_27 rfl (fun c27_2 => ?_) (fun c27_2 => ?_)
      · have kk := kk.1 c27_2
        show tR _ _ _ _ [some (.ref 13)] _ _ _ _
        exact r_eV (r' := K  T) (by rw [x_rd_takeFigures_5]; rw [if_neg c13_1, if_pos c27_2]) ((hk  T kk))
      · have kk := kk.2 c27_2
        refine r_p dX6_takeFigures_30 rfl rfl ?_
        refine r_get dX6_takeFigures_31 fkX6_11 rfl rfl ?_
        refine r_p dX6_takeFigures_34 rfl rfl ?_
        refine r_get dX6_takeFigures_35 fkX6_27 rfl rfl ?_
        refine r_ia dX6_takeFigures_38 rfl q1 ?_
        refine r_cb (x := 57) dX6_takeFigures_39 rfl ?_
        refine r_cgt dX6_takeFigures_41 rfl (fun c41_3 => ?_) (fun c41_3 => ?_)
        · have kk := kk.1 c41_3
          show tR _ _ _ _ [some (.ref 13)] _ _ _ _
          exact r_eV (r' := K  T) (by rw [x_rd_takeFigures_5]; rw [if_neg c13_1, if_neg c27_2, if_pos c41_3]) ((hk  T kk))
        · have kk := kk.2 c41_3
          refine r_p dX6_takeFigures_44 rfl rfl ?_
          refine r_p dX6_takeFigures_45 rfl rfl ?_
          refine r_get dX6_takeFigures_46 fkX6_144 rfl rfl ?_
          refine r_cb (x := 10) dX6_takeFigures_49 rfl ?_
          refine r_p dX6_takeFigures_51 rfl rfl ?_
          refine r_p dX6_takeFigures_52 rfl rfl ?_
          refine r_get dX6_takeFigures_53 fkX6_11 rfl rfl ?_
          refine r_p dX6_takeFigures_56 rfl rfl ?_
          refine r_get dX6_takeFigures_57 fkX6_27 rfl rfl ?_
          refine r_ia dX6_takeFigures_60 rfl q1 ?_
          refine r_p dX6_takeFigures_61 rfl rfl ?_
          refine r_cb (x := 48) dX6_takeFigures_62 rfl ?_
          refine r_p dX6_takeFigures_64 rfl rfl ?_
          refine r_put dX6_takeFigures_65 fkX6_144 rfl rfl rfl (Nat.le_of_ble_eq_true rfl) rfl rfl ?_
          refine r_p dX6_takeFigures_68 rfl rfl ?_
          refine r_p dX6_takeFigures_69 rfl rfl ?_
          refine r_get dX6_takeFigures_70 fkX6_27 rfl rfl ?_
          refine r_ci (x := 1) dX6_takeFigures_73 rfl ?_
          refine r_p dX6_takeFigures_74 rfl rfl ?_
          refine r_put dX6_takeFigures_75 fkX6_27 rfl rfl rfl (Nat.le_of_ble_eq_true rfl) rfl rfl ?_
          refine r_eV (r' := (fun (T1 : St) => x_rd_takeFigures_5 K f  T1) (sF (sF T 13 6 ((((T.1 13 6) * 10) + (T.2.2.1 14 (T.1 13 4 : Int32).toNatClampNeg)) - 48)) 13 4 (((sF T 13 6 ((((T.1 13 6) * 10) + (T.2.2.1 14 (T.1 13 4 : Int32).toNatClampNeg)) - 48)).1 13 4) + 1))) (by rw [x_rd_takeFigures_5]; rw [if_neg c13_1, if_neg c27_2, if_neg c41_3]) ?_
          generalize sF (sF T 13 6 ((((T.1 13 6) * 10) + (T.2.2.1 14 (T.1 13 4 : Int32).toNatClampNeg)) - 48)) 13 4 (((sF T 13 6 ((((T.1 13 6) * 10) + (T.2.2.1 14 (T.1 13 4 : Int32).toNatClampNeg)) - 48)).1 13 4) + 1) = T1 at kk ⊢
          try dsimp only at kk
          refine r_go dX6_takeFigures_78 rfl ?_
          show tR _ _ _ _ [some (.ref 13)] _ _ _ _
          exact r_eV (r' := x_rd_takeFigures_5 K f  T1) rfl ((ih  T1 kk))
def x_rd_takeFigures (T : St)  : St := x_rd_takeFigures_5  (fun  (T201 : St) => if 2 < ((T201.1 13 4) - (T201.1 13 3)) then (sF T201 13 5 4) else (sF T201 13 5 2)) 1000  (sF T 13 6 0)
def ok_rd_takeFigures (T : St)  : Prop := ok_rd_takeFigures_5  (fun  (T201 : St) => True) 1000  (sF T 13 6 0)
theorem c_rd_takeFigures {X : Nat × (Nat → Int32)} {T : St}  (kk : ok_rd_takeFigures T ) : tC X 1 mX6_takeFigures [.ref 13] T none (x_rd_takeFigures T) := by
  unfold ok_rd_takeFigures at kk
  refine tC_of ?_
  refine r_p dX6_takeFigures_0 rfl rfl ?_
  refine r_ci (x := 0) dX6_takeFigures_1 rfl ?_
  refine r_put dX6_takeFigures_2 fkX6_144 rfl rfl rfl (Nat.le_of_ble_eq_true rfl) rfl rfl ?_
  show tR _ _ _ _ [some (.ref 13)] _ _ _ _
  refine r_eV (r' := x_rd_takeFigures_5  (fun  (T201 : St) => if 2 < ((T201.1 13 4) - (T201.1 13 3)) then (sF T201 13 5 4) else (sF T201 13 5 2)) 1000  (sF T 13 6 0)) (by unfold x_rd_takeFigures; rfl) ((c_rd_takeFigures_5  (fun  T201 kk => ?_) 1000  (sF T 13 6 0) kk))
  · refine r_p dX6_takeFigures_81 rfl rfl ?_
    refine r_p dX6_takeFigures_82 rfl rfl ?_
    refine r_get dX6_takeFigures_83 fkX6_27 rfl rfl ?_
    refine r_p dX6_takeFigures_86 rfl rfl ?_
    refine r_get dX6_takeFigures_87 fkX6_147 rfl rfl ?_
    refine r_p dX6_takeFigures_90 rfl rfl ?_
    refine r_ci (x := 2) dX6_takeFigures_91 rfl ?_
    refine r_cgt dX6_takeFigures_92 rfl (fun c92_4 => ?_) (fun c92_4 => ?_)
    · refine r_ci (x := 4) dX6_takeFigures_99 rfl ?_
      refine r_put dX6_takeFigures_100 fkX6_49 rfl rfl rfl (Nat.le_of_ble_eq_true rfl) rfl rfl ?_
      exact r_eV (r' := (sF T201 13 5 4)) (by first | rw [if_pos c92_4] | (dsimp only; rw [if_pos c92_4])) (r_rv dX6_takeFigures_103 rfl rfl rfl)
    · refine r_ci (x := 2) dX6_takeFigures_95 rfl ?_
      refine r_go dX6_takeFigures_96 rfl ?_
      refine r_put dX6_takeFigures_100 fkX6_49 rfl rfl rfl (Nat.le_of_ble_eq_true rfl) rfl rfl ?_
      exact r_eV (r' := (sF T201 13 5 2)) (by first | rw [if_neg c92_4] | (dsimp only; rw [if_neg c92_4])) (r_rv dX6_takeFigures_103 rfl rfl rfl)
def x_ro_fillDish_2 (l0 : Nat) (l1 : Nat) (l2 : Int32) (K : Int32 → St → St) : Nat → Int32 → St → St
  | 0, _, T => T
  | f + 1, v3, T => if (T.2.2.1 (l1 + 7) (l2 : Int32).toNatClampNeg) ≤ v3 then (K v3 T) else (if 12 ≤ (T.1 l0 1) then (K v3 T) else (fun (T1 : St) => (fun (T2 : St) => x_ro_fillDish_2 l0 l1 l2 K f (v3 + 1) (sF T2 l0 1 ((T2.1 l0 1) + 1))) (sA (sA T1 (l0 + 4) (T1.1 l0 1 : Int32).toNatClampNeg (T1.1 l0 0)) (l0 + 6) ((sA T1 (l0 + 4) (T1.1 l0 1 : Int32).toNatClampNeg (T1.1 l0 0)).1 l0 1 : Int32).toNatClampNeg ((sA T1 (l0 + 4) (T1.1 l0 1 : Int32).toNatClampNeg (T1.1 l0 0)).2.2.1 (l1 + 10) ((T.2.2.1 (l1 + 8) (l2 : Int32).toNatClampNeg) + v3 : Int32).toNatClampNeg))) (sA T (l0 + 3) (T.1 l0 1 : Int32).toNatClampNeg ((T.2.2.1 (l1 + 8) (l2 : Int32).toNatClampNeg) + v3)))
def ok_ro_fillDish_2 (l0 : Nat) (l1 : Nat) (l2 : Int32) (Kk : Int32 → St → Prop) : Nat → Int32 → St → Prop
  | 0, _, _ => False
  | f + 1, v3, T => (sh l1 = .inr 1) ∧ (sh (l1 + 7) = .inl (0, 8)) ∧ (vp_in l2 8) ∧ (((T.2.2.1 (l1 + 7) (l2 : Int32).toNatClampNeg) ≤ v3 → Kk v3 T) ∧ (¬ (T.2.2.1 (l1 + 7) (l2 : Int32).toNatClampNeg) ≤ v3 → (sh l0 = .inr 7) ∧ ((12 ≤ (T.1 l0 1) → Kk v3 T) ∧ (¬ 12 ≤ (T.1 l0 1) → (sh (l1 + 8) = .inl (0, 8)) ∧ (sh (l0 + 3) = .inl (0, 12)) ∧ (vp_in (T.1 l0 1) 12) ∧ (fun (T1 : St) => (sh l0 = .inr 7) ∧ (sh (l0 + 4) = .inl (0, 12)) ∧ (vp_in (T1.1 l0 1) 12) ∧ (sh l1 = .inr 1) ∧ (sh (l1 + 10) = .inl (0, 24)) ∧ (vp_in ((T.2.2.1 (l1 + 8) (l2 : Int32).toNatClampNeg) + v3) 24) ∧ (sh (l0 + 6) = .inl (0, 12)) ∧ (vp_in ((sA T1 (l0 + 4) (T1.1 l0 1 : Int32).toNatClampNeg (T1.1 l0 0)).1 l0 1) 12) ∧ (fun (T2 : St) => (sh l0 = .inr 7) ∧ ok_ro_fillDish_2 l0 l1 l2 Kk f (v3 + 1) (sF T2 l0 1 ((T2.1 l0 1) + 1))) (sA (sA T1 (l0 + 4) (T1.1 l0 1 : Int32).toNatClampNeg (T1.1 l0 0)) (l0 + 6) ((sA T1 (l0 + 4) (T1.1 l0 1 : Int32).toNatClampNeg (T1.1 l0 0)).1 l0 1 : Int32).toNatClampNeg ((sA T1 (l0 + 4) (T1.1 l0 1 : Int32).toNatClampNeg (T1.1 l0 0)).2.2.1 (l1 + 10) ((T.2.2.1 (l1 + 8) (l2 : Int32).toNatClampNeg) + v3 : Int32).toNatClampNeg))) (sA T (l0 + 3) (T.1 l0 1 : Int32).toNatClampNeg ((T.2.2.1 (l1 + 8) (l2 : Int32).toNatClampNeg) + v3))))))
theorem c_ro_fillDish_2 {X : Nat × (Nat → Int32)} (l0 : Nat) (l1 : Nat) (l2 : Int32) {K : Int32 → St → St} {Kk : Int32 → St → Prop} (hk : ∀ (v3 : Int32) (T : St), Kk v3 T → tR X 0 mX7_fillDish 87 [some (.ref l0), some (.ref l1), some (.int l2), some (.int v3), none] [] T none (K v3 T)) : ∀ (f : Nat) (v3 : Int32) (T : St), ok_ro_fillDish_2 l0 l1 l2 Kk f v3 T → tR X 0 mX7_fillDish 2 [some (.ref l0), some (.ref l1), some (.int l2), some (.int v3), none] [] T none (x_ro_fillDish_2 l0 l1 l2 K f v3 T) := by
  intro f
  induction f with
  | zero => intro v3 T kk; exact kk.elim
  | succ f ih =>
    intro v3 T kk
    rw [ok_ro_fillDish_2] at kk
    refine r_p dX7_fillDish_2 rfl rfl ?_
    refine r_p dX7_fillDish_3 rfl rfl ?_
    obtain ⟨q1, kk⟩ := kk
    refine r_get dX7_fillDish_4 fkX7_47 q1 rfl ?_
    refine r_p dX7_fillDish_7 rfl rfl ?_
    obtain ⟨q2, kk⟩ := kk
    obtain ⟨q3, kk⟩ := kk
    refine r_ia dX7_fillDish_8 q2 q3 ?_
    refine r_cge dX7_fillDish_9 rfl (fun c9_1 => ?_) (fun c9_1 => ?_)
    · have kk := kk.1 c9_1
      show tR _ _ _ _ [some (.ref l0), some (.ref l1), some (.int l2), some (.int v3), none] _ _ _ _
      exact r_eV (r' := K v3 T) (by rw [x_ro_fillDish_2]; rw [if_pos c9_1]) ((hk v3 T kk))
    · have kk := kk.2 c9_1
      refine r_p dX7_fillDish_12 rfl rfl ?_
      obtain ⟨q4, kk⟩ := kk
      refine r_get dX7_fillDish_13 fkX7_34 q4 rfl ?_
      refine r_cb (x := 12) dX7_fillDish_16 rfl ?_
      refine r_cge dX7_fillDish_18 rfl (fun c18_2 => ?_) (fun c18_2 => ?_)
      · have kk := kk.1 c18_2
        show tR _ _ _ _ [some (.ref l0), some (.ref l1), some (.int l2), some (.int v3), none] _ _ _ _
        exact r_eV (r' := K v3 T) (by rw [x_ro_fillDish_2]; rw [if_neg c9_1, if_pos c18_2]) ((hk v3 T kk))
      · have kk := kk.2 c18_2
        refine r_p dX7_fillDish_21 rfl rfl ?_
        refine r_get dX7_fillDish_22 fkX7_50 q1 rfl ?_
        refine r_p dX7_fillDish_25 rfl rfl ?_
        obtain ⟨q5, kk⟩ := kk
        refine r_ia dX7_fillDish_26 q5 q3 ?_
        refine r_p dX7_fillDish_27 rfl rfl ?_
        refine r_p dX7_fillDish_28 rfl rfl ?_
        refine r_p dX7_fillDish_29 rfl rfl ?_
        refine r_p dX7_fillDish_31 rfl rfl ?_
        refine r_get dX7_fillDish_32 fkX7_18 q4 rfl ?_
        refine r_p dX7_fillDish_35 rfl rfl ?_
        refine r_get dX7_fillDish_36 fkX7_34 q4 rfl ?_
        refine r_p dX7_fillDish_39 rfl rfl ?_
        obtain ⟨q6, kk⟩ := kk
        obtain ⟨q7, kk⟩ := kk
        refine r_ias dX7_fillDish_41 q6 q7 ?_
        refine r_eV (r' := (fun (T1 : St) => (fun (T2 : St) => x_ro_fillDish_2 l0 l1 l2 K f (v3 + 1) (sF T2 l0 1 ((T2.1 l0 1) + 1))) (sA (sA T1 (l0 + 4) (T1.1 l0 1 : Int32).toNatClampNeg (T1.1 l0 0)) (l0 + 6) ((sA T1 (l0 + 4) (T1.1 l0 1 : Int32).toNatClampNeg (T1.1 l0 0)).1 l0 1 : Int32).toNatClampNeg ((sA T1 (l0 + 4) (T1.1 l0 1 : Int32).toNatClampNeg (T1.1 l0 0)).2.2.1 (l1 + 10) ((T.2.2.1 (l1 + 8) (l2 : Int32).toNatClampNeg) + v3 : Int32).toNatClampNeg))) (sA T (l0 + 3) (T.1 l0 1 : Int32).toNatClampNeg ((T.2.2.1 (l1 + 8) (l2 : Int32).toNatClampNeg) + v3))) (by rw [x_ro_fillDish_2]; rw [if_neg c9_1, if_neg c18_2]) ?_
        generalize sA T (l0 + 3) (T.1 l0 1 : Int32).toNatClampNeg ((T.2.2.1 (l1 + 8) (l2 : Int32).toNatClampNeg) + v3) = T1 at kk ⊢
        try dsimp only at kk
        refine r_p dX7_fillDish_42 rfl rfl ?_
        obtain ⟨q8, kk⟩ := kk
        refine r_get dX7_fillDish_43 fkX7_21 q8 rfl ?_
        refine r_p dX7_fillDish_46 rfl rfl ?_
        refine r_get dX7_fillDish_47 fkX7_34 q8 rfl ?_
        refine r_p dX7_fillDish_50 rfl rfl ?_
        refine r_get dX7_fillDish_51 fkX7_30 q8 rfl ?_
        obtain ⟨q9, kk⟩ := kk
        obtain ⟨q10, kk⟩ := kk
        refine r_ias dX7_fillDish_54 q9 q10 ?_
        refine r_p dX7_fillDish_55 rfl rfl ?_
        refine r_get dX7_fillDish_56 fkX7_27 q8 rfl ?_
        refine r_p dX7_fillDish_59 rfl rfl ?_
        refine r_get dX7_fillDish_60 fkX7_34 q8 rfl ?_
        refine r_p dX7_fillDish_63 rfl rfl ?_
        obtain ⟨q11, kk⟩ := kk
        refine r_get dX7_fillDish_64 fkX7_53 q11 rfl ?_
        refine r_p dX7_fillDish_67 rfl rfl ?_
        obtain ⟨q12, kk⟩ := kk
        obtain ⟨q13, kk⟩ := kk
        refine r_ia dX7_fillDish_69 q12 q13 ?_
        obtain ⟨q14, kk⟩ := kk
        obtain ⟨q15, kk⟩ := kk
        refine r_ias dX7_fillDish_70 q14 q15 ?_
        refine r_eV (r' := (fun (T2 : St) => x_ro_fillDish_2 l0 l1 l2 K f (v3 + 1) (sF T2 l0 1 ((T2.1 l0 1) + 1))) (sA (sA T1 (l0 + 4) (T1.1 l0 1 : Int32).toNatClampNeg (T1.1 l0 0)) (l0 + 6) ((sA T1 (l0 + 4) (T1.1 l0 1 : Int32).toNatClampNeg (T1.1 l0 0)).1 l0 1 : Int32).toNatClampNeg ((sA T1 (l0 + 4) (T1.1 l0 1 : Int32).toNatClampNeg (T1.1 l0 0)).2.2.1 (l1 + 10) ((T.2.2.1 (l1 + 8) (l2 : Int32).toNatClampNeg) + v3 : Int32).toNatClampNeg))) rfl ?_
        generalize sA (sA T1 (l0 + 4) (T1.1 l0 1 : Int32).toNatClampNeg (T1.1 l0 0)) (l0 + 6) ((sA T1 (l0 + 4) (T1.1 l0 1 : Int32).toNatClampNeg (T1.1 l0 0)).1 l0 1 : Int32).toNatClampNeg ((sA T1 (l0 + 4) (T1.1 l0 1 : Int32).toNatClampNeg (T1.1 l0 0)).2.2.1 (l1 + 10) ((T.2.2.1 (l1 + 8) (l2 : Int32).toNatClampNeg) + v3 : Int32).toNatClampNeg) = T2 at kk ⊢
        try dsimp only at kk
        refine r_p dX7_fillDish_71 rfl rfl ?_
        refine r_p dX7_fillDish_72 rfl rfl ?_
        obtain ⟨q16, kk⟩ := kk
        refine r_get dX7_fillDish_73 fkX7_34 q16 rfl ?_
        refine r_ci (x := 1) dX7_fillDish_76 rfl ?_
        refine r_p dX7_fillDish_77 rfl rfl ?_
        refine r_put dX7_fillDish_78 fkX7_34 rfl q16 rfl (Nat.le_of_ble_eq_true rfl) rfl rfl ?_
        refine r_inc (y := 1) dX7_fillDish_81 rfl rfl rfl ?_
        refine r_go dX7_fillDish_84 rfl ?_
        show tR _ _ _ _ [some (.ref l0), some (.ref l1), some (.int l2), some (.int (v3 + 1)), some (.int ((T.2.2.1 (l1 + 8) (l2 : Int32).toNatClampNeg) + v3))] _ _ _ _
        exact r_eV (r' := x_ro_fillDish_2 l0 l1 l2 K f (v3 + 1) (sF T2 l0 1 ((T2.1 l0 1) + 1))) rfl (r_le (le_s (le_s (le_s (le_s (le_n (le_0)))))) (ih (v3 + 1) (sF T2 l0 1 ((T2.1 l0 1) + 1)) kk))
def x_ro_fillDish (T : St) (a : Nat) (p0 : Nat) (p1 : Int32) : St := x_ro_fillDish_2 a p0 p1 (fun (w1_3 : Int32) (T201 : St) => T201) 1000 0 T
def ok_ro_fillDish (T : St) (a : Nat) (p0 : Nat) (p1 : Int32) : Prop := ok_ro_fillDish_2 a p0 p1 (fun (w1_3 : Int32) (T201 : St) => True) 1000 0 T
theorem c_ro_fillDish {X : Nat × (Nat → Int32)} {T : St} (a : Nat) (p0 : Nat) (p1 : Int32) (kk : ok_ro_fillDish T a p0 p1) : tC X 1 mX7_fillDish [.ref a, .ref p0, .int p1] T none (x_ro_fillDish T a p0 p1) := by
  unfold ok_ro_fillDish at kk
  refine tC_of ?_
  refine r_ci (x := 0) dX7_fillDish_0 rfl ?_
  refine r_p dX7_fillDish_1 rfl rfl ?_
  show tR _ _ _ _ [some (.ref a), some (.ref p0), some (.int p1), some (.int 0), none] _ _ _ _
  refine r_eV (r' := x_ro_fillDish_2 a p0 p1 (fun (w1_3 : Int32) (T201 : St) => T201) 1000 0 T) (by unfold x_ro_fillDish; rfl) ((c_ro_fillDish_2 a p0 p1 (fun w1_3 T201 kk => ?_) 1000 0 T kk))
  · exact r_eV (r' := T201) rfl (r_rv dX7_fillDish_87 rfl rfl rfl)
def x_ro_take (T : St) (a : Nat) (p0 : Nat) : St := (fun (T1 : St) => (fun (T2 : St) => (fun (T3 : St) => (fun (T4 : St) => (fun (T5 : St) => sAr T5 (a + 6) (va_cpy (T5.2.2.1 (p0 + 6)) (T5.2.2.1 (a + 6)) (0 : Int32).toNatClampNeg (0 : Int32).toNatClampNeg (12 : Int32).toNatClampNeg)) (sAr T4 (a + 5) (va_cpy (T4.2.2.1 (p0 + 5)) (T4.2.2.1 (a + 5)) (0 : Int32).toNatClampNeg (0 : Int32).toNatClampNeg (12 : Int32).toNatClampNeg))) (sAr T3 (a + 4) (va_cpy (T3.2.2.1 (p0 + 4)) (T3.2.2.1 (a + 4)) (0 : Int32).toNatClampNeg (0 : Int32).toNatClampNeg (12 : Int32).toNatClampNeg))) (sAr T2 (a + 3) (va_cpy (T2.2.2.1 (p0 + 3)) (T2.2.2.1 (a + 3)) (0 : Int32).toNatClampNeg (0 : Int32).toNatClampNeg (12 : Int32).toNatClampNeg))) (sAr T1 (a + 2) (va_cpy (T1.2.2.1 (p0 + 2)) (T1.2.2.1 (a + 2)) (0 : Int32).toNatClampNeg (0 : Int32).toNatClampNeg (4 : Int32).toNatClampNeg))) (sAr (sF (sF T a 0 (T.1 p0 0)) a 1 ((sF T a 0 (T.1 p0 0)).1 p0 1)) (a + 1) (va_cpy ((sF (sF T a 0 (T.1 p0 0)) a 1 ((sF T a 0 (T.1 p0 0)).1 p0 1)).2.2.1 (p0 + 1)) ((sF (sF T a 0 (T.1 p0 0)) a 1 ((sF T a 0 (T.1 p0 0)).1 p0 1)).2.2.1 (a + 1)) (0 : Int32).toNatClampNeg (0 : Int32).toNatClampNeg (4 : Int32).toNatClampNeg))
def ok_ro_take (T : St) (a : Nat) (p0 : Nat) : Prop := (sh p0 = .inr 7) ∧ (sh a = .inr 7) ∧ (cpok 0 0 4 4 4) ∧ (sh (a + 1) = .inl (0, 4)) ∧ (sh (p0 + 1) = .inl (0, 4)) ∧ (fun (T1 : St) => (sh p0 = .inr 7) ∧ (sh a = .inr 7) ∧ (cpok 0 0 4 4 4) ∧ (sh (a + 2) = .inl (0, 4)) ∧ (sh (p0 + 2) = .inl (0, 4)) ∧ (fun (T2 : St) => (sh p0 = .inr 7) ∧ (sh a = .inr 7) ∧ (cpok 0 0 12 12 12) ∧ (sh (a + 3) = .inl (0, 12)) ∧ (sh (p0 + 3) = .inl (0, 12)) ∧ (fun (T3 : St) => (sh p0 = .inr 7) ∧ (sh a = .inr 7) ∧ (cpok 0 0 12 12 12) ∧ (sh (a + 4) = .inl (0, 12)) ∧ (sh (p0 + 4) = .inl (0, 12)) ∧ (fun (T4 : St) => (sh p0 = .inr 7) ∧ (sh a = .inr 7) ∧ (cpok 0 0 12 12 12) ∧ (sh (a + 5) = .inl (0, 12)) ∧ (sh (p0 + 5) = .inl (0, 12)) ∧ (fun (T5 : St) => (sh p0 = .inr 7) ∧ (sh a = .inr 7) ∧ (cpok 0 0 12 12 12) ∧ (sh (a + 6) = .inl (0, 12)) ∧ (sh (p0 + 6) = .inl (0, 12)) ∧ True) (sAr T4 (a + 5) (va_cpy (T4.2.2.1 (p0 + 5)) (T4.2.2.1 (a + 5)) (0 : Int32).toNatClampNeg (0 : Int32).toNatClampNeg (12 : Int32).toNatClampNeg))) (sAr T3 (a + 4) (va_cpy (T3.2.2.1 (p0 + 4)) (T3.2.2.1 (a + 4)) (0 : Int32).toNatClampNeg (0 : Int32).toNatClampNeg (12 : Int32).toNatClampNeg))) (sAr T2 (a + 3) (va_cpy (T2.2.2.1 (p0 + 3)) (T2.2.2.1 (a + 3)) (0 : Int32).toNatClampNeg (0 : Int32).toNatClampNeg (12 : Int32).toNatClampNeg))) (sAr T1 (a + 2) (va_cpy (T1.2.2.1 (p0 + 2)) (T1.2.2.1 (a + 2)) (0 : Int32).toNatClampNeg (0 : Int32).toNatClampNeg (4 : Int32).toNatClampNeg))) (sAr (sF (sF T a 0 (T.1 p0 0)) a 1 ((sF T a 0 (T.1 p0 0)).1 p0 1)) (a + 1) (va_cpy ((sF (sF T a 0 (T.1 p0 0)) a 1 ((sF T a 0 (T.1 p0 0)).1 p0 1)).2.2.1 (p0 + 1)) ((sF (sF T a 0 (T.1 p0 0)) a 1 ((sF T a 0 (T.1 p0 0)).1 p0 1)).2.2.1 (a + 1)) (0 : Int32).toNatClampNeg (0 : Int32).toNatClampNeg (4 : Int32).toNatClampNeg))
theorem c_ro_take {X : Nat × (Nat → Int32)} {T : St} (a : Nat) (p0 : Nat) (kk : ok_ro_take T a p0) : tC X 1 mX7_take [.ref a, .ref p0] T none (x_ro_take T a p0) := by
  unfold ok_ro_take at kk
  refine tC_of ?_
  refine r_p dX7_take_0 rfl rfl ?_
  refine r_p dX7_take_1 rfl rfl ?_
  obtain ⟨q1, kk⟩ := kk
  refine r_get dX7_take_2 fkX7_30 q1 rfl ?_
  obtain ⟨q2, kk⟩ := kk
  refine r_put dX7_take_5 fkX7_30 rfl q2 rfl (Nat.le_of_ble_eq_true rfl) rfl rfl ?_
  refine r_p dX7_take_8 rfl rfl ?_
  refine r_p dX7_take_9 rfl rfl ?_
  refine r_get dX7_take_10 fkX7_34 q1 rfl ?_
  refine r_put dX7_take_13 fkX7_34 rfl q2 rfl (Nat.le_of_ble_eq_true rfl) rfl rfl ?_
  refine r_p dX7_take_16 rfl rfl ?_
  refine r_get dX7_take_17 fkX7_9 q1 rfl ?_
  refine r_ci (x := 0) dX7_take_20 rfl ?_
  refine r_p dX7_take_21 rfl rfl ?_
  refine r_get dX7_take_22 fkX7_9 q2 rfl ?_
  refine r_ci (x := 0) dX7_take_25 rfl ?_
  refine r_ci (x := 4) dX7_take_26 rfl ?_
  obtain ⟨q3, kk⟩ := kk
  obtain ⟨q4, kk⟩ := kk
  obtain ⟨q5, kk⟩ := kk
  refine r_cpy dX7_take_27 cpX7_54 q4 q5 q3.1 q3.2.1 q3.2.2.1 q3.2.2.2.1 q3.2.2.2.2 (Nat.le_of_ble_eq_true rfl) ?_
  refine r_eV (r' := (fun (T1 : St) => (fun (T2 : St) => (fun (T3 : St) => (fun (T4 : St) => (fun (T5 : St) => sAr T5 (a + 6) (va_cpy (T5.2.2.1 (p0 + 6)) (T5.2.2.1 (a + 6)) (0 : Int32).toNatClampNeg (0 : Int32).toNatClampNeg (12 : Int32).toNatClampNeg)) (sAr T4 (a + 5) (va_cpy (T4.2.2.1 (p0 + 5)) (T4.2.2.1 (a + 5)) (0 : Int32).toNatClampNeg (0 : Int32).toNatClampNeg (12 : Int32).toNatClampNeg))) (sAr T3 (a + 4) (va_cpy (T3.2.2.1 (p0 + 4)) (T3.2.2.1 (a + 4)) (0 : Int32).toNatClampNeg (0 : Int32).toNatClampNeg (12 : Int32).toNatClampNeg))) (sAr T2 (a + 3) (va_cpy (T2.2.2.1 (p0 + 3)) (T2.2.2.1 (a + 3)) (0 : Int32).toNatClampNeg (0 : Int32).toNatClampNeg (12 : Int32).toNatClampNeg))) (sAr T1 (a + 2) (va_cpy (T1.2.2.1 (p0 + 2)) (T1.2.2.1 (a + 2)) (0 : Int32).toNatClampNeg (0 : Int32).toNatClampNeg (4 : Int32).toNatClampNeg))) (sAr (sF (sF T a 0 (T.1 p0 0)) a 1 ((sF T a 0 (T.1 p0 0)).1 p0 1)) (a + 1) (va_cpy ((sF (sF T a 0 (T.1 p0 0)) a 1 ((sF T a 0 (T.1 p0 0)).1 p0 1)).2.2.1 (p0 + 1)) ((sF (sF T a 0 (T.1 p0 0)) a 1 ((sF T a 0 (T.1 p0 0)).1 p0 1)).2.2.1 (a + 1)) (0 : Int32).toNatClampNeg (0 : Int32).toNatClampNeg (4 : Int32).toNatClampNeg))) (by unfold x_ro_take; rfl) ?_
  generalize sAr (sF (sF T a 0 (T.1 p0 0)) a 1 ((sF T a 0 (T.1 p0 0)).1 p0 1)) (a + 1) (va_cpy ((sF (sF T a 0 (T.1 p0 0)) a 1 ((sF T a 0 (T.1 p0 0)).1 p0 1)).2.2.1 (p0 + 1)) ((sF (sF T a 0 (T.1 p0 0)) a 1 ((sF T a 0 (T.1 p0 0)).1 p0 1)).2.2.1 (a + 1)) (0 : Int32).toNatClampNeg (0 : Int32).toNatClampNeg (4 : Int32).toNatClampNeg) = T1 at kk ⊢
  try dsimp only at kk
  refine r_p dX7_take_30 rfl rfl ?_
  obtain ⟨q6, kk⟩ := kk
  refine r_get dX7_take_31 fkX7_15 q6 rfl ?_
  refine r_ci (x := 0) dX7_take_34 rfl ?_
  refine r_p dX7_take_35 rfl rfl ?_
  obtain ⟨q7, kk⟩ := kk
  refine r_get dX7_take_36 fkX7_15 q7 rfl ?_
  refine r_ci (x := 0) dX7_take_39 rfl ?_
  refine r_ci (x := 4) dX7_take_40 rfl ?_
  obtain ⟨q8, kk⟩ := kk
  obtain ⟨q9, kk⟩ := kk
  obtain ⟨q10, kk⟩ := kk
  refine r_cpy dX7_take_41 cpX7_54 q9 q10 q8.1 q8.2.1 q8.2.2.1 q8.2.2.2.1 q8.2.2.2.2 (Nat.le_of_ble_eq_true rfl) ?_
  refine r_eV (r' := (fun (T2 : St) => (fun (T3 : St) => (fun (T4 : St) => (fun (T5 : St) => sAr T5 (a + 6) (va_cpy (T5.2.2.1 (p0 + 6)) (T5.2.2.1 (a + 6)) (0 : Int32).toNatClampNeg (0 : Int32).toNatClampNeg (12 : Int32).toNatClampNeg)) (sAr T4 (a + 5) (va_cpy (T4.2.2.1 (p0 + 5)) (T4.2.2.1 (a + 5)) (0 : Int32).toNatClampNeg (0 : Int32).toNatClampNeg (12 : Int32).toNatClampNeg))) (sAr T3 (a + 4) (va_cpy (T3.2.2.1 (p0 + 4)) (T3.2.2.1 (a + 4)) (0 : Int32).toNatClampNeg (0 : Int32).toNatClampNeg (12 : Int32).toNatClampNeg))) (sAr T2 (a + 3) (va_cpy (T2.2.2.1 (p0 + 3)) (T2.2.2.1 (a + 3)) (0 : Int32).toNatClampNeg (0 : Int32).toNatClampNeg (12 : Int32).toNatClampNeg))) (sAr T1 (a + 2) (va_cpy (T1.2.2.1 (p0 + 2)) (T1.2.2.1 (a + 2)) (0 : Int32).toNatClampNeg (0 : Int32).toNatClampNeg (4 : Int32).toNatClampNeg))) rfl ?_
  generalize sAr T1 (a + 2) (va_cpy (T1.2.2.1 (p0 + 2)) (T1.2.2.1 (a + 2)) (0 : Int32).toNatClampNeg (0 : Int32).toNatClampNeg (4 : Int32).toNatClampNeg) = T2 at kk ⊢
  try dsimp only at kk
  refine r_p dX7_take_44 rfl rfl ?_
  obtain ⟨q11, kk⟩ := kk
  refine r_get dX7_take_45 fkX7_18 q11 rfl ?_
  refine r_ci (x := 0) dX7_take_48 rfl ?_
  refine r_p dX7_take_49 rfl rfl ?_
  obtain ⟨q12, kk⟩ := kk
  refine r_get dX7_take_50 fkX7_18 q12 rfl ?_
  refine r_ci (x := 0) dX7_take_53 rfl ?_
  refine r_cb (x := 12) dX7_take_54 rfl ?_
  obtain ⟨q13, kk⟩ := kk
  obtain ⟨q14, kk⟩ := kk
  obtain ⟨q15, kk⟩ := kk
  refine r_cpy dX7_take_56 cpX7_54 q14 q15 q13.1 q13.2.1 q13.2.2.1 q13.2.2.2.1 q13.2.2.2.2 (Nat.le_of_ble_eq_true rfl) ?_
  refine r_eV (r' := (fun (T3 : St) => (fun (T4 : St) => (fun (T5 : St) => sAr T5 (a + 6) (va_cpy (T5.2.2.1 (p0 + 6)) (T5.2.2.1 (a + 6)) (0 : Int32).toNatClampNeg (0 : Int32).toNatClampNeg (12 : Int32).toNatClampNeg)) (sAr T4 (a + 5) (va_cpy (T4.2.2.1 (p0 + 5)) (T4.2.2.1 (a + 5)) (0 : Int32).toNatClampNeg (0 : Int32).toNatClampNeg (12 : Int32).toNatClampNeg))) (sAr T3 (a + 4) (va_cpy (T3.2.2.1 (p0 + 4)) (T3.2.2.1 (a + 4)) (0 : Int32).toNatClampNeg (0 : Int32).toNatClampNeg (12 : Int32).toNatClampNeg))) (sAr T2 (a + 3) (va_cpy (T2.2.2.1 (p0 + 3)) (T2.2.2.1 (a + 3)) (0 : Int32).toNatClampNeg (0 : Int32).toNatClampNeg (12 : Int32).toNatClampNeg))) rfl ?_
  generalize sAr T2 (a + 3) (va_cpy (T2.2.2.1 (p0 + 3)) (T2.2.2.1 (a + 3)) (0 : Int32).toNatClampNeg (0 : Int32).toNatClampNeg (12 : Int32).toNatClampNeg) = T3 at kk ⊢
  try dsimp only at kk
  refine r_p dX7_take_59 rfl rfl ?_
  obtain ⟨q16, kk⟩ := kk
  refine r_get dX7_take_60 fkX7_21 q16 rfl ?_
  refine r_ci (x := 0) dX7_take_63 rfl ?_
  refine r_p dX7_take_64 rfl rfl ?_
  obtain ⟨q17, kk⟩ := kk
  refine r_get dX7_take_65 fkX7_21 q17 rfl ?_
  refine r_ci (x := 0) dX7_take_68 rfl ?_
  refine r_cb (x := 12) dX7_take_69 rfl ?_
  obtain ⟨q18, kk⟩ := kk
  obtain ⟨q19, kk⟩ := kk
  obtain ⟨q20, kk⟩ := kk
  refine r_cpy dX7_take_71 cpX7_54 q19 q20 q18.1 q18.2.1 q18.2.2.1 q18.2.2.2.1 q18.2.2.2.2 (Nat.le_of_ble_eq_true rfl) ?_
  refine r_eV (r' := (fun (T4 : St) => (fun (T5 : St) => sAr T5 (a + 6) (va_cpy (T5.2.2.1 (p0 + 6)) (T5.2.2.1 (a + 6)) (0 : Int32).toNatClampNeg (0 : Int32).toNatClampNeg (12 : Int32).toNatClampNeg)) (sAr T4 (a + 5) (va_cpy (T4.2.2.1 (p0 + 5)) (T4.2.2.1 (a + 5)) (0 : Int32).toNatClampNeg (0 : Int32).toNatClampNeg (12 : Int32).toNatClampNeg))) (sAr T3 (a + 4) (va_cpy (T3.2.2.1 (p0 + 4)) (T3.2.2.1 (a + 4)) (0 : Int32).toNatClampNeg (0 : Int32).toNatClampNeg (12 : Int32).toNatClampNeg))) rfl ?_
  generalize sAr T3 (a + 4) (va_cpy (T3.2.2.1 (p0 + 4)) (T3.2.2.1 (a + 4)) (0 : Int32).toNatClampNeg (0 : Int32).toNatClampNeg (12 : Int32).toNatClampNeg) = T4 at kk ⊢
  try dsimp only at kk
  refine r_p dX7_take_74 rfl rfl ?_
  obtain ⟨q21, kk⟩ := kk
  refine r_get dX7_take_75 fkX7_24 q21 rfl ?_
  refine r_ci (x := 0) dX7_take_78 rfl ?_
  refine r_p dX7_take_79 rfl rfl ?_
  obtain ⟨q22, kk⟩ := kk
  refine r_get dX7_take_80 fkX7_24 q22 rfl ?_
  refine r_ci (x := 0) dX7_take_83 rfl ?_
  refine r_cb (x := 12) dX7_take_84 rfl ?_
  obtain ⟨q23, kk⟩ := kk
  obtain ⟨q24, kk⟩ := kk
  obtain ⟨q25, kk⟩ := kk
  refine r_cpy dX7_take_86 cpX7_54 q24 q25 q23.1 q23.2.1 q23.2.2.1 q23.2.2.2.1 q23.2.2.2.2 (Nat.le_of_ble_eq_true rfl) ?_
  refine r_eV (r' := (fun (T5 : St) => sAr T5 (a + 6) (va_cpy (T5.2.2.1 (p0 + 6)) (T5.2.2.1 (a + 6)) (0 : Int32).toNatClampNeg (0 : Int32).toNatClampNeg (12 : Int32).toNatClampNeg)) (sAr T4 (a + 5) (va_cpy (T4.2.2.1 (p0 + 5)) (T4.2.2.1 (a + 5)) (0 : Int32).toNatClampNeg (0 : Int32).toNatClampNeg (12 : Int32).toNatClampNeg))) rfl ?_
  generalize sAr T4 (a + 5) (va_cpy (T4.2.2.1 (p0 + 5)) (T4.2.2.1 (a + 5)) (0 : Int32).toNatClampNeg (0 : Int32).toNatClampNeg (12 : Int32).toNatClampNeg) = T5 at kk ⊢
  try dsimp only at kk
  refine r_p dX7_take_89 rfl rfl ?_
  obtain ⟨q26, kk⟩ := kk
  refine r_get dX7_take_90 fkX7_27 q26 rfl ?_
  refine r_ci (x := 0) dX7_take_93 rfl ?_
  refine r_p dX7_take_94 rfl rfl ?_
  obtain ⟨q27, kk⟩ := kk
  refine r_get dX7_take_95 fkX7_27 q27 rfl ?_
  refine r_ci (x := 0) dX7_take_98 rfl ?_
  refine r_cb (x := 12) dX7_take_99 rfl ?_
  obtain ⟨q28, kk⟩ := kk
  obtain ⟨q29, kk⟩ := kk
  obtain ⟨q30, kk⟩ := kk
  refine r_cpy dX7_take_101 cpX7_54 q29 q30 q28.1 q28.2.1 q28.2.2.1 q28.2.2.2.1 q28.2.2.2.2 (Nat.le_of_ble_eq_true rfl) ?_
  exact r_eV (r' := (sAr T5 (a + 6) (va_cpy (T5.2.2.1 (p0 + 6)) (T5.2.2.1 (a + 6)) (0 : Int32).toNatClampNeg (0 : Int32).toNatClampNeg (12 : Int32).toNatClampNeg))) rfl (r_rv dX7_take_104 rfl rfl rfl)
def x_ro_isFirst (T : St) (a : Nat) (p0 : Int32) : Int32 := if p0 = 0 then (1) else (if (T.2.2.1 (a + 4) (p0 - 1 : Int32).toNatClampNeg) = (T.2.2.1 (a + 4) (p0 : Int32).toNatClampNeg) then (0) else (1))
def ok_ro_isFirst (T : St) (a : Nat) (p0 : Int32) : Prop := (¬ p0 = 0 → (sh a = .inr 7) ∧ (sh (a + 4) = .inl (0, 12)) ∧ (vp_in (p0 - 1) 12) ∧ (vp_in p0 12) ∧ True)
theorem c_ro_isFirst {X : Nat × (Nat → Int32)} {T : St} (a : Nat) (p0 : Int32) (kk : ok_ro_isFirst T a p0) : tC X 1 mX7_isFirst [.ref a, .int p0] T (some (.int (x_ro_isFirst T a p0))) T := by
  unfold ok_ro_isFirst at kk
  refine tC_of ?_
  refine r_p dX7_isFirst_0 rfl rfl ?_
  refine r_ieq dX7_isFirst_1 rfl (fun c1_1 => ?_) (fun c1_1 => ?_)
  · refine r_ci (x := 1) dX7_isFirst_21 rfl ?_
    refine r_go dX7_isFirst_22 rfl ?_
    exact r_eIp (r' := 1) (by unfold x_ro_isFirst; rw [if_pos c1_1]) (r_ri dX7_isFirst_26 rfl rfl rfl rfl)
  · have kk := kk c1_1
    refine r_p dX7_isFirst_4 rfl rfl ?_
    obtain ⟨q1, kk⟩ := kk
    refine r_get dX7_isFirst_5 fkX7_21 q1 rfl ?_
    refine r_p dX7_isFirst_8 rfl rfl ?_
    refine r_ci (x := 1) dX7_isFirst_9 rfl ?_
    refine r_p dX7_isFirst_10 rfl rfl ?_
    obtain ⟨q2, kk⟩ := kk
    obtain ⟨q3, kk⟩ := kk
    refine r_ia dX7_isFirst_11 q2 q3 ?_
    refine r_p dX7_isFirst_12 rfl rfl ?_
    refine r_get dX7_isFirst_13 fkX7_21 q1 rfl ?_
    refine r_p dX7_isFirst_16 rfl rfl ?_
    obtain ⟨q4, kk⟩ := kk
    refine r_ia dX7_isFirst_17 q2 q4 ?_
    refine r_ceq dX7_isFirst_18 rfl (fun c18_2 => ?_) (fun c18_2 => ?_)
    · refine r_ci (x := 0) dX7_isFirst_25 rfl ?_
      exact r_eIp (r' := 0) (by unfold x_ro_isFirst; rw [if_neg c1_1, if_pos c18_2]) (r_ri dX7_isFirst_26 rfl rfl rfl rfl)
    · refine r_ci (x := 1) dX7_isFirst_21 rfl ?_
      refine r_go dX7_isFirst_22 rfl ?_
      exact r_eIp (r' := 1) (by unfold x_ro_isFirst; rw [if_neg c1_1, if_neg c18_2]) (r_ri dX7_isFirst_26 rfl rfl rfl rfl)
theorem b_ro_isFirst (T : St) (a : Nat) (p0 : Int32) : x_ro_isFirst T a p0 = 0 ∨ x_ro_isFirst T a p0 = 1 := by
  unfold x_ro_isFirst
  repeat' split
  all_goals (first | exact Or.inl rfl | exact Or.inr rfl)
def x_ro_isLast (T : St) (a : Nat) (p0 : Int32) : Int32 := if p0 = ((T.1 a 1) - 1) then (1) else (if (T.2.2.1 (a + 4) (p0 + 1 : Int32).toNatClampNeg) = (T.2.2.1 (a + 4) (p0 : Int32).toNatClampNeg) then (0) else (1))
def ok_ro_isLast (T : St) (a : Nat) (p0 : Int32) : Prop := (sh a = .inr 7) ∧ (¬ p0 = ((T.1 a 1) - 1) → (sh (a + 4) = .inl (0, 12)) ∧ (vp_in (p0 + 1) 12) ∧ (vp_in p0 12) ∧ True)
theorem c_ro_isLast {X : Nat × (Nat → Int32)} {T : St} (a : Nat) (p0 : Int32) (kk : ok_ro_isLast T a p0) : tC X 1 mX7_isLast [.ref a, .int p0] T (some (.int (x_ro_isLast T a p0))) T := by
  unfold ok_ro_isLast at kk
  refine tC_of ?_
  refine r_p dX7_isLast_0 rfl rfl ?_
  refine r_p dX7_isLast_1 rfl rfl ?_
  obtain ⟨q1, kk⟩ := kk
  refine r_get dX7_isLast_2 fkX7_34 q1 rfl ?_
  refine r_ci (x := 1) dX7_isLast_5 rfl ?_
  refine r_p dX7_isLast_6 rfl rfl ?_
  refine r_ceq dX7_isLast_7 rfl (fun c7_1 => ?_) (fun c7_1 => ?_)
  · refine r_ci (x := 1) dX7_isLast_27 rfl ?_
    refine r_go dX7_isLast_28 rfl ?_
    exact r_eIp (r' := 1) (by unfold x_ro_isLast; rw [if_pos c7_1]) (r_ri dX7_isLast_32 rfl rfl rfl rfl)
  · have kk := kk c7_1
    refine r_p dX7_isLast_10 rfl rfl ?_
    refine r_get dX7_isLast_11 fkX7_21 q1 rfl ?_
    refine r_p dX7_isLast_14 rfl rfl ?_
    refine r_ci (x := 1) dX7_isLast_15 rfl ?_
    refine r_p dX7_isLast_16 rfl rfl ?_
    obtain ⟨q2, kk⟩ := kk
    obtain ⟨q3, kk⟩ := kk
    refine r_ia dX7_isLast_17 q2 q3 ?_
    refine r_p dX7_isLast_18 rfl rfl ?_
    refine r_get dX7_isLast_19 fkX7_21 q1 rfl ?_
    refine r_p dX7_isLast_22 rfl rfl ?_
    obtain ⟨q4, kk⟩ := kk
    refine r_ia dX7_isLast_23 q2 q4 ?_
    refine r_ceq dX7_isLast_24 rfl (fun c24_2 => ?_) (fun c24_2 => ?_)
    · refine r_ci (x := 0) dX7_isLast_31 rfl ?_
      exact r_eIp (r' := 0) (by unfold x_ro_isLast; rw [if_neg c7_1, if_pos c24_2]) (r_ri dX7_isLast_32 rfl rfl rfl rfl)
    · refine r_ci (x := 1) dX7_isLast_27 rfl ?_
      refine r_go dX7_isLast_28 rfl ?_
      exact r_eIp (r' := 1) (by unfold x_ro_isLast; rw [if_neg c7_1, if_neg c24_2]) (r_ri dX7_isLast_32 rfl rfl rfl rfl)
theorem b_ro_isLast (T : St) (a : Nat) (p0 : Int32) : x_ro_isLast T a p0 = 0 ∨ x_ro_isLast T a p0 = 1 := by
  unfold x_ro_isLast
  repeat' split
  all_goals (first | exact Or.inl rfl | exact Or.inr rfl)
def x_sh_isOne (T : St) (p0 : Int32) : Int32 := if p0 < 0 then (0) else (if 8 ≤ p0 then (0) else (1))
theorem c_sh_isOne {X : Nat × (Nat → Int32)} {T : St} (p0 : Int32) : tC X 1 mX8_isOne [.ref 1, .int p0] T (some (.int (x_sh_isOne T p0))) T := by
  refine tC_of ?_
  refine r_p dX8_isOne_0 rfl rfl ?_
  refine r_ilt dX8_isOne_1 rfl (fun c1_1 => ?_) (fun c1_1 => ?_)
  · refine r_ci (x := 0) dX8_isOne_14 rfl ?_
    exact r_eIp (r' := 0) (by unfold x_sh_isOne; rw [if_pos c1_1]) (r_ri dX8_isOne_15 rfl rfl rfl rfl)
  · refine r_p dX8_isOne_4 rfl rfl ?_
    refine r_cb (x := 8) dX8_isOne_5 rfl ?_
    refine r_cge dX8_isOne_7 rfl (fun c7_2 => ?_) (fun c7_2 => ?_)
    · refine r_ci (x := 0) dX8_isOne_14 rfl ?_
      exact r_eIp (r' := 0) (by unfold x_sh_isOne; rw [if_neg c1_1, if_pos c7_2]) (r_ri dX8_isOne_15 rfl rfl rfl rfl)
    · refine r_ci (x := 1) dX8_isOne_10 rfl ?_
      refine r_go dX8_isOne_11 rfl ?_
      exact r_eIp (r' := 1) (by unfold x_sh_isOne; rw [if_neg c1_1, if_neg c7_2]) (r_ri dX8_isOne_15 rfl rfl rfl rfl)
theorem b_sh_isOne (T : St) (p0 : Int32) : x_sh_isOne T p0 = 0 ∨ x_sh_isOne T p0 = 1 := by
  unfold x_sh_isOne
  repeat' split
  all_goals (first | exact Or.inl rfl | exact Or.inr rfl)
def x_sh_isMissing (T : St) (p0 : Int32) : Int32 := if (T.2.2.1 2 (p0 : Int32).toNatClampNeg) = (-1) then (1) else (0)
def ok_sh_isMissing (T : St) (p0 : Int32) : Prop := (vp_in p0 8) ∧ True
theorem c_sh_isMissing {X : Nat × (Nat → Int32)} {T : St} (p0 : Int32) (kk : ok_sh_isMissing T p0) : tC X 1 mX8_isMissing [.ref 1, .int p0] T (some (.int (x_sh_isMissing T p0))) T := by
  unfold ok_sh_isMissing at kk
  refine tC_of ?_
  refine r_p dX8_isMissing_0 rfl rfl ?_
  refine r_get dX8_isMissing_1 fkX8_9 rfl rfl ?_
  refine r_p dX8_isMissing_4 rfl rfl ?_
  obtain ⟨q1, kk⟩ := kk
  refine r_ia dX8_isMissing_5 rfl q1 ?_
  refine r_ci (x := -1) dX8_isMissing_6 rfl ?_
  refine r_cne dX8_isMissing_7 rfl (fun c7_1 => ?_) (fun c7_1 => ?_)
  · refine r_ci (x := 0) dX8_isMissing_14 rfl ?_
    exact r_eIp (r' := 0) (by unfold x_sh_isMissing; rw [if_neg c7_1]) (r_ri dX8_isMissing_15 rfl rfl rfl rfl)
  · refine r_ci (x := 1) dX8_isMissing_10 rfl ?_
    refine r_go dX8_isMissing_11 rfl ?_
    exact r_eIp (r' := 1) (by unfold x_sh_isMissing; rw [if_pos c7_1]) (r_ri dX8_isMissing_15 rfl rfl rfl rfl)
theorem b_sh_isMissing (T : St) (p0 : Int32) : x_sh_isMissing T p0 = 0 ∨ x_sh_isMissing T p0 = 1 := by
  unfold x_sh_isMissing
  repeat' split
  all_goals (first | exact Or.inl rfl | exact Or.inr rfl)
def x_sh_reaches (T : St) (p0 : Int32) (p1 : Int32) (p2 : Int32) : Int32 := if p1 < 0 then (0) else (if p2 < 0 then (0) else (if (T.2.2.1 3 (p0 : Int32).toNatClampNeg) < p2 then (0) else (if ((T.2.2.1 3 (p0 : Int32).toNatClampNeg) - p2) < p1 then (0) else (1))))
def ok_sh_reaches (T : St) (p0 : Int32) (p1 : Int32) (p2 : Int32) : Prop := (¬ p1 < 0 → (¬ p2 < 0 → (vp_in p0 8) ∧ True))
theorem c_sh_reaches {X : Nat × (Nat → Int32)} {T : St} (p0 : Int32) (p1 : Int32) (p2 : Int32) (kk : ok_sh_reaches T p0 p1 p2) : tC X 1 mX8_reaches [.ref 1, .int p0, .int p1, .int p2] T (some (.int (x_sh_reaches T p0 p1 p2))) T := by
  unfold ok_sh_reaches at kk
  refine tC_of ?_
  refine r_p dX8_reaches_0 rfl rfl ?_
  refine r_ilt dX8_reaches_1 rfl (fun c1_1 => ?_) (fun c1_1 => ?_)
  · refine r_ci (x := 0) dX8_reaches_34 rfl ?_
    exact r_eIp (r' := 0) (by unfold x_sh_reaches; rw [if_pos c1_1]) (r_ri dX8_reaches_35 rfl rfl rfl rfl)
  · have kk := kk c1_1
    refine r_p dX8_reaches_4 rfl rfl ?_
    refine r_ilt dX8_reaches_5 rfl (fun c5_2 => ?_) (fun c5_2 => ?_)
    · refine r_ci (x := 0) dX8_reaches_34 rfl ?_
      exact r_eIp (r' := 0) (by unfold x_sh_reaches; rw [if_neg c1_1, if_pos c5_2]) (r_ri dX8_reaches_35 rfl rfl rfl rfl)
    · have kk := kk c5_2
      refine r_p dX8_reaches_8 rfl rfl ?_
      refine r_p dX8_reaches_9 rfl rfl ?_
      refine r_get dX8_reaches_10 fkX8_13 rfl rfl ?_
      refine r_p dX8_reaches_13 rfl rfl ?_
      obtain ⟨q1, kk⟩ := kk
      refine r_ia dX8_reaches_14 rfl q1 ?_
      refine r_cgt dX8_reaches_15 rfl (fun c15_3 => ?_) (fun c15_3 => ?_)
      · refine r_ci (x := 0) dX8_reaches_34 rfl ?_
        exact r_eIp (r' := 0) (by unfold x_sh_reaches; rw [if_neg c1_1, if_neg c5_2, if_pos c15_3]) (r_ri dX8_reaches_35 rfl rfl rfl rfl)
      · refine r_p dX8_reaches_18 rfl rfl ?_
        refine r_p dX8_reaches_19 rfl rfl ?_
        refine r_get dX8_reaches_20 fkX8_13 rfl rfl ?_
        refine r_p dX8_reaches_23 rfl rfl ?_
        refine r_ia dX8_reaches_24 rfl q1 ?_
        refine r_p dX8_reaches_25 rfl rfl ?_
        refine r_p dX8_reaches_26 rfl rfl ?_
        refine r_cgt dX8_reaches_27 rfl (fun c27_4 => ?_) (fun c27_4 => ?_)
        · refine r_ci (x := 0) dX8_reaches_34 rfl ?_
          exact r_eIp (r' := 0) (by unfold x_sh_reaches; rw [if_neg c1_1, if_neg c5_2, if_neg c15_3, if_pos c27_4]) (r_ri dX8_reaches_35 rfl rfl rfl rfl)
        · refine r_ci (x := 1) dX8_reaches_30 rfl ?_
          refine r_go dX8_reaches_31 rfl ?_
          exact r_eIp (r' := 1) (by unfold x_sh_reaches; rw [if_neg c1_1, if_neg c5_2, if_neg c15_3, if_neg c27_4]) (r_ri dX8_reaches_35 rfl rfl rfl rfl)
theorem b_sh_reaches (T : St) (p0 : Int32) (p1 : Int32) (p2 : Int32) : x_sh_reaches T p0 p1 p2 = 0 ∨ x_sh_reaches T p0 p1 p2 = 1 := by
  unfold x_sh_reaches
  repeat' split
  all_goals (first | exact Or.inl rfl | exact Or.inr rfl)
def x_sh_lay (T : St) (p0 : Int32) (p1 : Int32) (p2 : Int32) : St := x_fillI (sA (sA T 2 (p0 : Int32).toNatClampNeg p1) 3 (p0 : Int32).toNatClampNeg p2) (5 + (p0 : Int32).toNatClampNeg) 0
def ok_sh_lay (T : St) (p0 : Int32) (p1 : Int32) (p2 : Int32) : Prop := (vp_in p0 8) ∧ (ok_fillI (sA (sA T 2 (p0 : Int32).toNatClampNeg p1) 3 (p0 : Int32).toNatClampNeg p2) (5 + (p0 : Int32).toNatClampNeg) 0) ∧ True
theorem c_sh_lay {X : Nat × (Nat → Int32)} {T : St} (p0 : Int32) (p1 : Int32) (p2 : Int32) (kk : ok_sh_lay T p0 p1 p2) : tC X 2 mX8_lay [.ref 1, .int p0, .int p1, .int p2] T none (x_sh_lay T p0 p1 p2) := by
  unfold ok_sh_lay at kk
  refine tC_of ?_
  refine r_p dX8_lay_0 rfl rfl ?_
  refine r_get dX8_lay_1 fkX8_9 rfl rfl ?_
  refine r_p dX8_lay_4 rfl rfl ?_
  refine r_p dX8_lay_5 rfl rfl ?_
  obtain ⟨q1, kk⟩ := kk
  refine r_ias dX8_lay_6 rfl q1 ?_
  refine r_p dX8_lay_7 rfl rfl ?_
  refine r_get dX8_lay_8 fkX8_13 rfl rfl ?_
  refine r_p dX8_lay_11 rfl rfl ?_
  refine r_p dX8_lay_12 rfl rfl ?_
  refine r_ias dX8_lay_13 rfl q1 ?_
  refine r_p dX8_lay_14 rfl rfl ?_
  refine r_get dX8_lay_15 fkX8_18 rfl rfl ?_
  refine r_p dX8_lay_18 rfl rfl ?_
  refine r_aa dX8_lay_19 rfl (by decide) q1 (rf4 q1) ?_
  refine r_ci (x := 0) dX8_lay_20 rfl ?_
  obtain ⟨q2, kk⟩ := kk
  refine r_cs (d1 := 1) dX8_lay_21 csX8_21 rfl rfl (Nat.le_of_ble_eq_true rfl) (Nat.le_of_ble_eq_true rfl) (Nat.le_of_ble_eq_true rfl) (c_fillI (5 + (p0 : Int32).toNatClampNeg) 0 q2) ?_
  exact r_eV (r' := (x_fillI (sA (sA T 2 (p0 : Int32).toNatClampNeg p1) 3 (p0 : Int32).toNatClampNeg p2) (5 + (p0 : Int32).toNatClampNeg) 0)) (by unfold x_sh_lay; rfl) (r_rv dX8_lay_24 rfl rfl rfl)
def x_sh_write (T : St) (p0 : Int32) (p1 : Int32) (p2 : Int32) : Int32 × St := jn (fun (KJ1 : Int32 → Int32 × St) => if (T.2.2.1 2 (p0 : Int32).toNatClampNeg) = 0 then (KJ1 ((p2 : Int32).toInt8.toInt32)) else (if (T.2.2.1 2 (p0 : Int32).toNatClampNeg) = 1 then (KJ1 ((p2 : Int32).toInt16.toInt32)) else (KJ1 p2))) (fun (j1_s0 : Int32) => (j1_s0, sA T (5 + (p0 : Int32).toNatClampNeg) (p1 : Int32).toNatClampNeg j1_s0))
def ok_sh_write (T : St) (p0 : Int32) (p1 : Int32) (p2 : Int32) : Prop := (vp_in p0 8) ∧ jn (fun (OJ1 : Int32 → Prop) => (((T.2.2.1 2 (p0 : Int32).toNatClampNeg) = 0 → OJ1 ((p2 : Int32).toInt8.toInt32)) ∧ (¬ (T.2.2.1 2 (p0 : Int32).toNatClampNeg) = 0 → (((T.2.2.1 2 (p0 : Int32).toNatClampNeg) = 1 → OJ1 ((p2 : Int32).toInt16.toInt32)) ∧ (¬ (T.2.2.1 2 (p0 : Int32).toNatClampNeg) = 1 → OJ1 p2))))) (fun (j1_s0 : Int32) => (vp_in p0 8) ∧ (sh (5 + (p0 : Int32).toNatClampNeg) = .inl (0, 40)) ∧ (vp_in p1 40) ∧ True)
theorem c_sh_write {X : Nat × (Nat → Int32)} {T : St} (p0 : Int32) (p1 : Int32) (p2 : Int32) (kk : ok_sh_write T p0 p1 p2) : tC X 1 mX8_write [.ref 1, .int p0, .int p1, .int p2] T (some (.int (x_sh_write T p0 p1 p2).1)) ((x_sh_write T p0 p1 p2).2) := by
  unfold ok_sh_write at kk
  refine tC_of ?_
  refine r_p dX8_write_0 rfl rfl ?_
  refine r_get dX8_write_1 fkX8_9 rfl rfl ?_
  refine r_p dX8_write_4 rfl rfl ?_
  obtain ⟨q1, kk⟩ := kk
  refine r_ia dX8_write_5 rfl q1 ?_
  obtain ⟨KJ1, hKJ1⟩ : ∃ q : Int32 → Int32 × St, q = (fun (j1_s0 : Int32) => (j1_s0, sA T (5 + (p0 : Int32).toNatClampNeg) (p1 : Int32).toNatClampNeg j1_s0)) := ⟨_, rfl⟩
  obtain ⟨OJ1, hOJ1⟩ : ∃ q : Int32 → Prop, q = (fun (j1_s0 : Int32) => (vp_in p0 8) ∧ (sh (5 + (p0 : Int32).toNatClampNeg) = .inl (0, 40)) ∧ (vp_in p1 40) ∧ True) := ⟨_, rfl⟩
  rw [← hOJ1] at kk
  simp only [jn] at kk
  have hJ1 : ∀ (j1_s0 : Int32), OJ1 j1_s0 → tR X 0 mX8_write 30 [some (.ref 1), some (.int p0), some (.int p1), some (.int p2), none] [.int j1_s0] T (some (.int (KJ1 j1_s0).1)) ((KJ1 j1_s0).2) := by
    intro j1_s0 kk
    rw [hOJ1] at kk
    try dsimp only at kk
    rw [hKJ1]
    refine r_p dX8_write_30 rfl rfl ?_
    refine r_p dX8_write_32 rfl rfl ?_
    refine r_get dX8_write_33 fkX8_18 rfl rfl ?_
    refine r_p dX8_write_36 rfl rfl ?_
    obtain ⟨q2, kk⟩ := kk
    refine r_aa dX8_write_37 rfl (by decide) q2 (rf4 q2) ?_
    refine r_p dX8_write_38 rfl rfl ?_
    refine r_p dX8_write_39 rfl rfl ?_
    obtain ⟨q3, kk⟩ := kk
    obtain ⟨q4, kk⟩ := kk
    refine r_ias dX8_write_41 q3 q4 ?_
    refine r_p dX8_write_42 rfl rfl ?_
    exact r_eI (r' := (j1_s0, sA T (5 + (p0 : Int32).toNatClampNeg) (p1 : Int32).toNatClampNeg j1_s0)) rfl (r_ri dX8_write_44 rfl rfl rfl rfl)
  refine r_eI (r' := jn (fun (KJ1 : Int32 → Int32 × St) => if (T.2.2.1 2 (p0 : Int32).toNatClampNeg) = 0 then (KJ1 ((p2 : Int32).toInt8.toInt32)) else (if (T.2.2.1 2 (p0 : Int32).toNatClampNeg) = 1 then (KJ1 ((p2 : Int32).toInt16.toInt32)) else (KJ1 p2))) KJ1) (by rw [hKJ1]; unfold x_sh_write; rfl) ?_
  refine r_ine dX8_write_6 rfl (fun c6_3 => ?_) (fun c6_3 => ?_)
  · have kk := kk.2 c6_3
    refine r_p dX8_write_14 rfl rfl ?_
    refine r_get dX8_write_15 fkX8_9 rfl rfl ?_
    refine r_p dX8_write_18 rfl rfl ?_
    refine r_ia dX8_write_19 rfl q1 ?_
    refine r_ci (x := 1) dX8_write_20 rfl ?_
    refine r_cne dX8_write_21 rfl (fun c21_4 => ?_) (fun c21_4 => ?_)
    · have kk := kk.2 c21_4
      refine r_p dX8_write_29 rfl rfl ?_
      show tR _ _ _ _ [some (.ref 1), some (.int p0), some (.int p1), some (.int p2), none] [.int p2] _ _ _
      exact r_eI (r' := KJ1 p2) (by simp only [jn]; rw [if_neg c6_3, if_neg c21_4]) ((hJ1 p2 kk))
    · have kk := kk.1 c21_4
      refine r_p dX8_write_24 rfl rfl ?_
      refine r_p dX8_write_25 rfl rfl ?_
      refine r_go dX8_write_26 rfl ?_
      show tR _ _ _ _ [some (.ref 1), some (.int p0), some (.int p1), some (.int p2), none] [.int ((p2 : Int32).toInt16.toInt32)] _ _ _
      exact r_eI (r' := KJ1 ((p2 : Int32).toInt16.toInt32)) (by simp only [jn]; rw [if_neg c6_3, if_pos c21_4]) ((hJ1 ((p2 : Int32).toInt16.toInt32) kk))
  · have kk := kk.1 c6_3
    refine r_p dX8_write_9 rfl rfl ?_
    refine r_p dX8_write_10 rfl rfl ?_
    refine r_go dX8_write_11 rfl ?_
    show tR _ _ _ _ [some (.ref 1), some (.int p0), some (.int p1), some (.int p2), none] [.int ((p2 : Int32).toInt8.toInt32)] _ _ _
    exact r_eI (r' := KJ1 ((p2 : Int32).toInt8.toInt32)) (by simp only [jn]; rw [if_pos c6_3]) ((hJ1 ((p2 : Int32).toInt8.toInt32) kk))
def x_sh_lose (T : St) (p0 : Int32) : Int32 × St := ((sA T 2 (p0 : Int32).toNatClampNeg (-1)).2.2.1 3 (p0 : Int32).toNatClampNeg, sA T 2 (p0 : Int32).toNatClampNeg (-1))
def ok_sh_lose (T : St) (p0 : Int32) : Prop := (vp_in p0 8) ∧ True
theorem c_sh_lose {X : Nat × (Nat → Int32)} {T : St} (p0 : Int32) (kk : ok_sh_lose T p0) : tC X 1 mX8_lose [.ref 1, .int p0] T (some (.int (x_sh_lose T p0).1)) ((x_sh_lose T p0).2) := by
  unfold ok_sh_lose at kk
  refine tC_of ?_
  refine r_p dX8_lose_0 rfl rfl ?_
  refine r_get dX8_lose_1 fkX8_9 rfl rfl ?_
  refine r_p dX8_lose_4 rfl rfl ?_
  refine r_ci (x := -1) dX8_lose_5 rfl ?_
  obtain ⟨q1, kk⟩ := kk
  refine r_ias dX8_lose_6 rfl q1 ?_
  refine r_p dX8_lose_7 rfl rfl ?_
  refine r_get dX8_lose_8 fkX8_13 rfl rfl ?_
  refine r_p dX8_lose_11 rfl rfl ?_
  refine r_ia dX8_lose_12 rfl q1 ?_
  exact r_eI (r' := ((sA T 2 (p0 : Int32).toNatClampNeg (-1)).2.2.1 3 (p0 : Int32).toNatClampNeg, sA T 2 (p0 : Int32).toNatClampNeg (-1))) (by unfold x_sh_lose; rfl) (r_ri dX8_lose_13 rfl rfl rfl rfl)
def x_sh_present_4 (T : St)  (K : Int32 → Int32 → Int32) : Nat → Int32 → Int32 → Int32
  | 0, _, _ => 0
  | f + 1, v1, v2 => if 8 ≤ v2 then (K v1 v2) else (if (T.2.2.1 2 (v2 : Int32).toNatClampNeg) = (-1) then (x_sh_present_4 T K f v1 (v2 + 1)) else (x_sh_present_4 T K f (v1 + 1) (v2 + 1)))
def ok_sh_present_4 (T : St)  (Kk : Int32 → Int32 → Prop) : Nat → Int32 → Int32 → Prop
  | 0, _, _ => False
  | f + 1, v1, v2 => ((8 ≤ v2 → Kk v1 v2) ∧ (¬ 8 ≤ v2 → (vp_in v2 8) ∧ (((T.2.2.1 2 (v2 : Int32).toNatClampNeg) = (-1) → ok_sh_present_4 T Kk f v1 (v2 + 1)) ∧ (¬ (T.2.2.1 2 (v2 : Int32).toNatClampNeg) = (-1) → ok_sh_present_4 T Kk f (v1 + 1) (v2 + 1)))))
theorem c_sh_present_4 {X : Nat × (Nat → Int32)} (T : St)  {K : Int32 → Int32 → Int32} {Kk : Int32 → Int32 → Prop} (hk : ∀ (v1 : Int32) (v2 : Int32), Kk v1 v2 → tR X 0 mX8_present 29 [some (.ref 1), some (.int v1), some (.int v2)] [] T (some (.int (K v1 v2))) T) : ∀ (f : Nat) (v1 : Int32) (v2 : Int32), ok_sh_present_4 T  Kk f v1 v2 → tR X 0 mX8_present 4 [some (.ref 1), some (.int v1), some (.int v2)] [] T (some (.int (x_sh_present_4 T K f v1 v2))) T := by
  intro f
  induction f with
  | zero => intro v1 v2 kk; exact kk.elim
  | succ f ih =>
    intro v1 v2 kk
    rw [ok_sh_present_4] at kk
    refine r_p dX8_present_4 rfl rfl ?_
    refine r_cb (x := 8) dX8_present_5 rfl ?_
    refine r_cge dX8_present_7 rfl (fun c7_1 => ?_) (fun c7_1 => ?_)
    · have kk := kk.1 c7_1
      show tR _ _ _ _ [some (.ref 1), some (.int v1), some (.int v2)] _ _ _ _
      exact r_eIp (r' := K v1 v2) (by rw [x_sh_present_4]; rw [if_pos c7_1]) ((hk v1 v2  kk))
    · have kk := kk.2 c7_1
      refine r_p dX8_present_10 rfl rfl ?_
      refine r_get dX8_present_11 fkX8_9 rfl rfl ?_
      refine r_p dX8_present_14 rfl rfl ?_
      obtain ⟨q1, kk⟩ := kk
      refine r_ia dX8_present_15 rfl q1 ?_
      refine r_ci (x := -1) dX8_present_16 rfl ?_
      refine r_ceq dX8_present_17 rfl (fun c17_2 => ?_) (fun c17_2 => ?_)
      · have kk := kk.1 c17_2
        refine r_inc (y := 1) dX8_present_23 rfl rfl rfl ?_
        refine r_go dX8_present_26 rfl ?_
        show tR _ _ _ _ [some (.ref 1), some (.int v1), some (.int (v2 + 1))] _ _ _ _
        exact r_eIp (r' := x_sh_present_4 T K f v1 (v2 + 1)) (by rw [x_sh_present_4]; rw [if_neg c7_1, if_pos c17_2]) ((ih v1 (v2 + 1)  kk))
      · have kk := kk.2 c17_2
        refine r_inc (y := 1) dX8_present_20 rfl rfl rfl ?_
        refine r_inc (y := 1) dX8_present_23 rfl rfl rfl ?_
        refine r_go dX8_present_26 rfl ?_
        show tR _ _ _ _ [some (.ref 1), some (.int (v1 + 1)), some (.int (v2 + 1))] _ _ _ _
        exact r_eIp (r' := x_sh_present_4 T K f (v1 + 1) (v2 + 1)) (by rw [x_sh_present_4]; rw [if_neg c7_1, if_neg c17_2]) ((ih (v1 + 1) (v2 + 1)  kk))
def x_sh_present (T : St)  : Int32 := x_sh_present_4 T  (fun (w1_1 : Int32) (w1_2 : Int32) => w1_1) 1000 0 0
def ok_sh_present (T : St)  : Prop := ok_sh_present_4 T  (fun (w1_1 : Int32) (w1_2 : Int32) => True) 1000 0 0
theorem c_sh_present {X : Nat × (Nat → Int32)} {T : St}  (kk : ok_sh_present T ) : tC X 1 mX8_present [.ref 1] T (some (.int (x_sh_present T))) T := by
  unfold ok_sh_present at kk
  refine tC_of ?_
  refine r_ci (x := 0) dX8_present_0 rfl ?_
  refine r_p dX8_present_1 rfl rfl ?_
  refine r_ci (x := 0) dX8_present_2 rfl ?_
  refine r_p dX8_present_3 rfl rfl ?_
  show tR _ _ _ _ [some (.ref 1), some (.int 0), some (.int 0)] _ _ _ _
  refine r_eIp (r' := x_sh_present_4 T  (fun (w1_1 : Int32) (w1_2 : Int32) => w1_1) 1000 0 0) (by unfold x_sh_present; rfl) ((c_sh_present_4 T  (fun w1_1 w1_2 kk => ?_) 1000 0 0  kk))
  · refine r_p dX8_present_29 rfl rfl ?_
    exact r_eIp (r' := w1_1) rfl (r_ri dX8_present_30 rfl rfl rfl rfl)
def x_ta_open_2 (l0 : Nat) (l1 : Nat) (K : Int32 → St → St) : Nat → Int32 → St → St
  | 0, _, T => T
  | f + 1, v2, T => if 5 ≤ v2 then (K v2 T) else (fun (T1 : St) => x_ta_open_2 l0 l1 K f (v2 + 1) (sL T1 (l0 + 4) (v2 : Int32).toNatClampNeg (x_ki_fewerThan T1 l1 v2 1))) (sL (sL (sL T (l0 + 1) (v2 : Int32).toNatClampNeg 0) (l0 + 2) (v2 : Int32).toNatClampNeg 0) (l0 + 3) (v2 : Int32).toNatClampNeg 0)
def ok_ta_open_2 (l0 : Nat) (l1 : Nat) (Kk : Int32 → St → Prop) : Nat → Int32 → St → Prop
  | 0, _, _ => False
  | f + 1, v2, T => ((5 ≤ v2 → Kk v2 T) ∧ (¬ 5 ≤ v2 → (sh l0 = .inr 9) ∧ (sh (l0 + 1) = .inl (1, 5)) ∧ (vp_in v2 5) ∧ (sh (l0 + 2) = .inl (1, 5)) ∧ (sh (l0 + 3) = .inl (1, 5)) ∧ (fun (T1 : St) => (sh l0 = .inr 9) ∧ (ok_ki_fewerThan T1 l1 v2 1) ∧ (sh l1 = .inr 3) ∧ (sh (l0 + 4) = .inl (1, 5)) ∧ (vp_in v2 5) ∧ ok_ta_open_2 l0 l1 Kk f (v2 + 1) (sL T1 (l0 + 4) (v2 : Int32).toNatClampNeg (x_ki_fewerThan T1 l1 v2 1))) (sL (sL (sL T (l0 + 1) (v2 : Int32).toNatClampNeg 0) (l0 + 2) (v2 : Int32).toNatClampNeg 0) (l0 + 3) (v2 : Int32).toNatClampNeg 0)))
theorem c_ta_open_2 {X : Nat × (Nat → Int32)} (l0 : Nat) (l1 : Nat) {K : Int32 → St → St} {Kk : Int32 → St → Prop} (hk : ∀ (v2 : Int32) (T : St), Kk v2 T → tR X 1 mX9_open 46 [some (.ref l0), some (.ref l1), some (.int v2)] [] T none (K v2 T)) : ∀ (f : Nat) (v2 : Int32) (T : St), ok_ta_open_2 l0 l1 Kk f v2 T → tR X 1 mX9_open 2 [some (.ref l0), some (.ref l1), some (.int v2)] [] T none (x_ta_open_2 l0 l1 K f v2 T) := by
  intro f
  induction f with
  | zero => intro v2 T kk; exact kk.elim
  | succ f ih =>
    intro v2 T kk
    rw [ok_ta_open_2] at kk
    refine r_p dX9_open_2 rfl rfl ?_
    refine r_ci (x := 5) dX9_open_3 rfl ?_
    refine r_cge dX9_open_4 rfl (fun c4_1 => ?_) (fun c4_1 => ?_)
    · have kk := kk.1 c4_1
      show tR _ _ _ _ [some (.ref l0), some (.ref l1), some (.int v2)] _ _ _ _
      exact r_eV (r' := K v2 T) (by rw [x_ta_open_2]; rw [if_pos c4_1]) ((hk v2 T kk))
    · have kk := kk.2 c4_1
      refine r_p dX9_open_7 rfl rfl ?_
      obtain ⟨q1, kk⟩ := kk
      refine r_get dX9_open_8 fkX9_9 q1 rfl ?_
      refine r_p dX9_open_11 rfl rfl ?_
      refine r_cl (x := 0) dX9_open_12 rfl ?_
      obtain ⟨q2, kk⟩ := kk
      obtain ⟨q3, kk⟩ := kk
      refine r_las dX9_open_13 q2 q3 ?_
      refine r_p dX9_open_14 rfl rfl ?_
      refine r_get dX9_open_15 fkX9_15 q1 rfl ?_
      refine r_p dX9_open_18 rfl rfl ?_
      refine r_cl (x := 0) dX9_open_19 rfl ?_
      obtain ⟨q4, kk⟩ := kk
      refine r_las dX9_open_20 q4 q3 ?_
      refine r_p dX9_open_21 rfl rfl ?_
      refine r_get dX9_open_22 fkX9_18 q1 rfl ?_
      refine r_p dX9_open_25 rfl rfl ?_
      refine r_cl (x := 0) dX9_open_26 rfl ?_
      obtain ⟨q5, kk⟩ := kk
      refine r_las dX9_open_27 q5 q3 ?_
      refine r_eV (r' := (fun (T1 : St) => x_ta_open_2 l0 l1 K f (v2 + 1) (sL T1 (l0 + 4) (v2 : Int32).toNatClampNeg (x_ki_fewerThan T1 l1 v2 1))) (sL (sL (sL T (l0 + 1) (v2 : Int32).toNatClampNeg 0) (l0 + 2) (v2 : Int32).toNatClampNeg 0) (l0 + 3) (v2 : Int32).toNatClampNeg 0)) (by rw [x_ta_open_2]; rw [if_neg c4_1]) ?_
      generalize sL (sL (sL T (l0 + 1) (v2 : Int32).toNatClampNeg 0) (l0 + 2) (v2 : Int32).toNatClampNeg 0) (l0 + 3) (v2 : Int32).toNatClampNeg 0 = T1 at kk ⊢
      try dsimp only at kk
      refine r_p dX9_open_28 rfl rfl ?_
      obtain ⟨q6, kk⟩ := kk
      refine r_get dX9_open_29 fkX9_21 q6 rfl ?_
      refine r_p dX9_open_32 rfl rfl ?_
      refine r_p dX9_open_33 rfl rfl ?_
      refine r_p dX9_open_34 rfl rfl ?_
      refine r_ci (x := 1) dX9_open_35 rfl ?_
      obtain ⟨q7, kk⟩ := kk
      obtain ⟨q8, kk⟩ := kk
      refine r_cv (d1 := 1) dX9_open_36 cvX9_24 rfl rfl q8 rfl (Nat.le_of_ble_eq_true rfl) (Nat.le_of_ble_eq_true rfl) (Nat.le_of_ble_eq_true rfl) (c_ki_fewerThan l1 v2 1 q7) ?_
      obtain ⟨q9, kk⟩ := kk
      obtain ⟨q10, kk⟩ := kk
      refine r_las dX9_open_39 q9 q10 ?_
      refine r_inc (y := 1) dX9_open_40 rfl rfl rfl ?_
      refine r_go dX9_open_43 rfl ?_
      show tR _ _ _ _ [some (.ref l0), some (.ref l1), some (.int (v2 + 1))] _ _ _ _
      exact r_eV (r' := x_ta_open_2 l0 l1 K f (v2 + 1) (sL T1 (l0 + 4) (v2 : Int32).toNatClampNeg (x_ki_fewerThan T1 l1 v2 1))) rfl ((ih (v2 + 1) (sL T1 (l0 + 4) (v2 : Int32).toNatClampNeg (x_ki_fewerThan T1 l1 v2 1)) kk))
def x_ta_open (T : St) (a : Nat) (p0 : Nat) : St := x_ta_open_2 a p0 (fun (w1_2 : Int32) (T201 : St) => T201) 1000 0 T
def ok_ta_open (T : St) (a : Nat) (p0 : Nat) : Prop := ok_ta_open_2 a p0 (fun (w1_2 : Int32) (T201 : St) => True) 1000 0 T
theorem c_ta_open {X : Nat × (Nat → Int32)} {T : St} (a : Nat) (p0 : Nat) (kk : ok_ta_open T a p0) : tC X 2 mX9_open [.ref a, .ref p0] T none (x_ta_open T a p0) := by
  unfold ok_ta_open at kk
  refine tC_of ?_
  refine r_ci (x := 0) dX9_open_0 rfl ?_
  refine r_p dX9_open_1 rfl rfl ?_
  show tR _ _ _ _ [some (.ref a), some (.ref p0), some (.int 0)] _ _ _ _
  refine r_eV (r' := x_ta_open_2 a p0 (fun (w1_2 : Int32) (T201 : St) => T201) 1000 0 T) (by unfold x_ta_open; rfl) ((c_ta_open_2 a p0 (fun w1_2 T201 kk => ?_) 1000 0 T kk))
  · exact r_eV (r' := T201) rfl (r_rv dX9_open_46 rfl rfl rfl)
def x_ta_hasRoom (T : St) (a : Nat) (p0 : Nat) : Int32 := if (lg_cmp ((T.2.2.2 (a + 4) (0 : Int32).toNatClampNeg) &&& (T.2.2.2 p0 (0 : Int32).toNatClampNeg)) 0) = 0 then (if (lg_cmp ((T.2.2.2 (a + 4) (1 : Int32).toNatClampNeg) &&& (T.2.2.2 p0 (1 : Int32).toNatClampNeg)) 0) = 0 then (if (lg_cmp ((T.2.2.2 (a + 4) (2 : Int32).toNatClampNeg) &&& (T.2.2.2 p0 (2 : Int32).toNatClampNeg)) 0) = 0 then (if (lg_cmp ((T.2.2.2 (a + 4) (3 : Int32).toNatClampNeg) &&& (T.2.2.2 p0 (3 : Int32).toNatClampNeg)) 0) = 0 then (if (lg_cmp ((T.2.2.2 (a + 4) (4 : Int32).toNatClampNeg) &&& (T.2.2.2 p0 (4 : Int32).toNatClampNeg)) 0) = 0 then (1) else (0)) else (0)) else (0)) else (0)) else (0)
def ok_ta_hasRoom (T : St) (a : Nat) (p0 : Nat) : Prop := (sh a = .inr 9) ∧ (sh (a + 4) = .inl (1, 5)) ∧ (vp_in 0 5) ∧ (sh p0 = .inl (1, 5)) ∧ ((lg_cmp ((T.2.2.2 (a + 4) (0 : Int32).toNatClampNeg) &&& (T.2.2.2 p0 (0 : Int32).toNatClampNeg)) 0) = 0 → (vp_in 1 5) ∧ ((lg_cmp ((T.2.2.2 (a + 4) (1 : Int32).toNatClampNeg) &&& (T.2.2.2 p0 (1 : Int32).toNatClampNeg)) 0) = 0 → (vp_in 2 5) ∧ ((lg_cmp ((T.2.2.2 (a + 4) (2 : Int32).toNatClampNeg) &&& (T.2.2.2 p0 (2 : Int32).toNatClampNeg)) 0) = 0 → (vp_in 3 5) ∧ ((lg_cmp ((T.2.2.2 (a + 4) (3 : Int32).toNatClampNeg) &&& (T.2.2.2 p0 (3 : Int32).toNatClampNeg)) 0) = 0 → (vp_in 4 5) ∧ True))))
theorem c_ta_hasRoom {X : Nat × (Nat → Int32)} {T : St} (a : Nat) (p0 : Nat) (kk : ok_ta_hasRoom T a p0) : tC X 1 mX9_hasRoom [.ref a, .ref p0] T (some (.int (x_ta_hasRoom T a p0))) T := by
  unfold ok_ta_hasRoom at kk
  refine tC_of ?_
  refine r_p dX9_hasRoom_0 rfl rfl ?_
  obtain ⟨q1, kk⟩ := kk
  refine r_get dX9_hasRoom_1 fkX9_21 q1 rfl ?_
  refine r_ci (x := 0) dX9_hasRoom_4 rfl ?_
  obtain ⟨q2, kk⟩ := kk
  obtain ⟨q3, kk⟩ := kk
  refine r_la dX9_hasRoom_5 q2 q3 ?_
  refine r_p dX9_hasRoom_6 rfl rfl ?_
  refine r_ci (x := 0) dX9_hasRoom_7 rfl ?_
  obtain ⟨q4, kk⟩ := kk
  refine r_la dX9_hasRoom_8 q4 q3 ?_
  refine r_p dX9_hasRoom_9 rfl rfl ?_
  refine r_cl (x := 0) dX9_hasRoom_10 rfl ?_
  refine r_p dX9_hasRoom_11 rfl rfl ?_
  refine r_ine dX9_hasRoom_12 rfl (fun c12_1 => ?_) (fun c12_1 => ?_)
  · refine r_ci (x := 0) dX9_hasRoom_79 rfl ?_
    exact r_eIp (r' := 0) (by unfold x_ta_hasRoom; rw [if_neg c12_1]) (r_ri dX9_hasRoom_80 rfl rfl rfl rfl)
  · have kk := kk c12_1
    refine r_p dX9_hasRoom_15 rfl rfl ?_
    refine r_get dX9_hasRoom_16 fkX9_21 q1 rfl ?_
    refine r_ci (x := 1) dX9_hasRoom_19 rfl ?_
    obtain ⟨q5, kk⟩ := kk
    refine r_la dX9_hasRoom_20 q2 q5 ?_
    refine r_p dX9_hasRoom_21 rfl rfl ?_
    refine r_ci (x := 1) dX9_hasRoom_22 rfl ?_
    refine r_la dX9_hasRoom_23 q4 q5 ?_
    refine r_p dX9_hasRoom_24 rfl rfl ?_
    refine r_cl (x := 0) dX9_hasRoom_25 rfl ?_
    refine r_p dX9_hasRoom_26 rfl rfl ?_
    refine r_ine dX9_hasRoom_27 rfl (fun c27_2 => ?_) (fun c27_2 => ?_)
    · refine r_ci (x := 0) dX9_hasRoom_79 rfl ?_
      exact r_eIp (r' := 0) (by unfold x_ta_hasRoom; rw [if_pos c12_1, if_neg c27_2]) (r_ri dX9_hasRoom_80 rfl rfl rfl rfl)
    · have kk := kk c27_2
      refine r_p dX9_hasRoom_30 rfl rfl ?_
      refine r_get dX9_hasRoom_31 fkX9_21 q1 rfl ?_
      refine r_ci (x := 2) dX9_hasRoom_34 rfl ?_
      obtain ⟨q6, kk⟩ := kk
      refine r_la dX9_hasRoom_35 q2 q6 ?_
      refine r_p dX9_hasRoom_36 rfl rfl ?_
      refine r_ci (x := 2) dX9_hasRoom_37 rfl ?_
      refine r_la dX9_hasRoom_38 q4 q6 ?_
      refine r_p dX9_hasRoom_39 rfl rfl ?_
      refine r_cl (x := 0) dX9_hasRoom_40 rfl ?_
      refine r_p dX9_hasRoom_41 rfl rfl ?_
      refine r_ine dX9_hasRoom_42 rfl (fun c42_3 => ?_) (fun c42_3 => ?_)
      · refine r_ci (x := 0) dX9_hasRoom_79 rfl ?_
        exact r_eIp (r' := 0) (by unfold x_ta_hasRoom; rw [if_pos c12_1, if_pos c27_2, if_neg c42_3]) (r_ri dX9_hasRoom_80 rfl rfl rfl rfl)
      · have kk := kk c42_3
        refine r_p dX9_hasRoom_45 rfl rfl ?_
        refine r_get dX9_hasRoom_46 fkX9_21 q1 rfl ?_
        refine r_ci (x := 3) dX9_hasRoom_49 rfl ?_
        obtain ⟨q7, kk⟩ := kk
        refine r_la dX9_hasRoom_50 q2 q7 ?_
        refine r_p dX9_hasRoom_51 rfl rfl ?_
        refine r_ci (x := 3) dX9_hasRoom_52 rfl ?_
        refine r_la dX9_hasRoom_53 q4 q7 ?_
        refine r_p dX9_hasRoom_54 rfl rfl ?_
        refine r_cl (x := 0) dX9_hasRoom_55 rfl ?_
        refine r_p dX9_hasRoom_56 rfl rfl ?_
        refine r_ine dX9_hasRoom_57 rfl (fun c57_4 => ?_) (fun c57_4 => ?_)
        · refine r_ci (x := 0) dX9_hasRoom_79 rfl ?_
          exact r_eIp (r' := 0) (by unfold x_ta_hasRoom; rw [if_pos c12_1, if_pos c27_2, if_pos c42_3, if_neg c57_4]) (r_ri dX9_hasRoom_80 rfl rfl rfl rfl)
        · have kk := kk c57_4
          refine r_p dX9_hasRoom_60 rfl rfl ?_
          refine r_get dX9_hasRoom_61 fkX9_21 q1 rfl ?_
          refine r_ci (x := 4) dX9_hasRoom_64 rfl ?_
          obtain ⟨q8, kk⟩ := kk
          refine r_la dX9_hasRoom_65 q2 q8 ?_
          refine r_p dX9_hasRoom_66 rfl rfl ?_
          refine r_ci (x := 4) dX9_hasRoom_67 rfl ?_
          refine r_la dX9_hasRoom_68 q4 q8 ?_
          refine r_p dX9_hasRoom_69 rfl rfl ?_
          refine r_cl (x := 0) dX9_hasRoom_70 rfl ?_
          refine r_p dX9_hasRoom_71 rfl rfl ?_
          refine r_ine dX9_hasRoom_72 rfl (fun c72_5 => ?_) (fun c72_5 => ?_)
          · refine r_ci (x := 0) dX9_hasRoom_79 rfl ?_
            exact r_eIp (r' := 0) (by unfold x_ta_hasRoom; rw [if_pos c12_1, if_pos c27_2, if_pos c42_3, if_pos c57_4, if_neg c72_5]) (r_ri dX9_hasRoom_80 rfl rfl rfl rfl)
          · refine r_ci (x := 1) dX9_hasRoom_75 rfl ?_
            refine r_go dX9_hasRoom_76 rfl ?_
            exact r_eIp (r' := 1) (by unfold x_ta_hasRoom; rw [if_pos c12_1, if_pos c27_2, if_pos c42_3, if_pos c57_4, if_pos c72_5]) (r_ri dX9_hasRoom_80 rfl rfl rfl rfl)
theorem b_ta_hasRoom (T : St) (a : Nat) (p0 : Nat) : x_ta_hasRoom T a p0 = 0 ∨ x_ta_hasRoom T a p0 = 1 := by
  unfold x_ta_hasRoom
  repeat' split
  all_goals (first | exact Or.inl rfl | exact Or.inr rfl)
