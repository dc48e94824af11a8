def x_rd_read_25 (l1 : Nat) (K : Int32 → St → St) : Nat → Int32 → St → St
  | 0, _, T => T
  | f + 1, v2, T => if 4 < v2 then (K v2 T) else (if (T.1 13 2) = 0 then (if (x_rd_isWord T 1) = 0 then (K v2 T) else (x_rd_read_25 l1 K f (v2 + 1) (x_rd_readAway T l1))) else (K v2 T))
def ok_rd_read_25 (l1 : Nat) (Kk : Int32 → St → Prop) : Nat → Int32 → St → Prop
  | 0, _, _ => False
  | f + 1, v2, T => ((4 < v2 → Kk v2 T) ∧ (¬ 4 < v2 → (((T.1 13 2) = 0 → (ok_rd_isWord T 1) ∧ (((x_rd_isWord T 1) = 0 → Kk v2 T) ∧ (¬ (x_rd_isWord T 1) = 0 → (ok_rd_readAway T l1) ∧ ok_rd_read_25 l1 Kk f (v2 + 1) (x_rd_readAway T l1)))) ∧ (¬ (T.1 13 2) = 0 → Kk v2 T))))
theorem c_rd_read_25 {X : Nat × (Nat → Int32)} (l1 : Nat) {K : Int32 → St → St} {Kk : Int32 → St → Prop} (hk : ∀ (v2 : Int32) (T : St), Kk v2 T → tR X 8 mX6_read 57 [some (.ref 13), some (.ref l1), some (.int v2)] [] T none (K v2 T)) : ∀ (f : Nat) (v2 : Int32) (T : St), ok_rd_read_25 l1 Kk f v2 T → tR X 8 mX6_read 25 [some (.ref 13), some (.ref l1), some (.int v2)] [] T none (x_rd_read_25 l1 K f v2 T) := by
  intro f
  induction f with
  | zero => intro v2 T kk; exact kk.elim
  | succ f ih =>
    intro v2 T kk
    rw [ok_rd_read_25] at kk
    refine r_p dX6_read_25 rfl rfl ?_
    refine r_ci (x := 4) dX6_read_26 rfl ?_
    refine r_cgt dX6_read_27 rfl (fun c27_1 => ?_) (fun c27_1 => ?_)
    · have kk := kk.1 c27_1
      show tR _ _ _ _ [some (.ref 13), some (.ref l1), some (.int v2)] _ _ _ _
      exact r_eV (r' := K v2 T) (by rw [x_rd_read_25]; rw [if_pos c27_1]) ((hk v2 T kk))
    · have kk := kk.2 c27_1
      refine r_p dX6_read_30 rfl rfl ?_
      refine r_get dX6_read_31 fkX6_24 rfl rfl ?_
      refine r_ine dX6_read_34 rfl (fun c34_2 => ?_) (fun c34_2 => ?_)
      · have kk := kk.2 c34_2
        show tR _ _ _ _ [some (.ref 13), some (.ref l1), some (.int v2)] _ _ _ _
        exact r_eV (r' := K v2 T) (by rw [x_rd_read_25]; rw [if_neg c27_1, if_neg c34_2]) ((hk v2 T kk))
      · have kk := kk.1 c34_2
        refine r_p dX6_read_37 rfl rfl ?_
        refine r_ks 1 rfl dX6_read_38 rfl ?_
        obtain ⟨q5, kk⟩ := kk
        refine r_cv (d1 := 5) dX6_read_40 cvX6_39 rfl rfl rfl rfl (Nat.le_of_ble_eq_true rfl) (Nat.le_of_ble_eq_true rfl) (Nat.le_of_ble_eq_true rfl) (c_rd_isWord 1 q5) ?_
        refine r_ieq dX6_read_43 rfl (fun c43_3 => ?_) (fun c43_3 => ?_)
        · have kk := kk.1 c43_3
          show tR _ _ _ _ [some (.ref 13), some (.ref l1), some (.int v2)] _ _ _ _
          exact r_eV (r' := K v2 T) (by rw [x_rd_read_25]; rw [if_neg c27_1, if_pos c34_2, if_pos c43_3]) ((hk v2 T kk))
        · have kk := kk.2 c43_3
          refine r_p dX6_read_46 rfl rfl ?_
          refine r_p dX6_read_47 rfl rfl ?_
          obtain ⟨q6, kk⟩ := kk
          refine r_cv (d1 := 7) dX6_read_48 cvX6_43 rfl rfl rfl rfl (Nat.le_of_ble_eq_true rfl) (Nat.le_of_ble_eq_true rfl) (Nat.le_of_ble_eq_true rfl) (c_rd_readAway l1 q6) ?_
          refine r_inc (y := 1) dX6_read_51 rfl rfl rfl ?_
          refine r_go dX6_read_54 rfl ?_
          show tR _ _ _ _ [some (.ref 13), some (.ref l1), some (.int (v2 + 1))] _ _ _ _
          exact r_eV (r' := x_rd_read_25 l1 K f (v2 + 1) (x_rd_readAway T l1)) (by rw [x_rd_read_25]; rw [if_neg c27_1, if_pos c34_2, if_neg c43_3]) ((ih (v2 + 1) (x_rd_readAway T l1) kk))
def x_rd_read_64 (l1 : Nat) (K : Int32 → St → St) : Nat → Int32 → St → St
  | 0, _, T => T
  | f + 1, v2, T => if 8 < v2 then (K v2 T) else (if (T.1 13 2) = 0 then (if (T.1 13 5) = 0 then (K v2 T) else (x_rd_read_64 l1 K f (v2 + 1) (x_rd_readDish T l1))) else (K v2 T))
def ok_rd_read_64 (l1 : Nat) (Kk : Int32 → St → Prop) : Nat → Int32 → St → Prop
  | 0, _, _ => False
  | f + 1, v2, T => ((8 < v2 → Kk v2 T) ∧ (¬ 8 < v2 → (((T.1 13 2) = 0 → (((T.1 13 5) = 0 → Kk v2 T) ∧ (¬ (T.1 13 5) = 0 → (ok_rd_readDish T l1) ∧ ok_rd_read_64 l1 Kk f (v2 + 1) (x_rd_readDish T l1)))) ∧ (¬ (T.1 13 2) = 0 → Kk v2 T))))
theorem c_rd_read_64 {X : Nat × (Nat → Int32)} (l1 : Nat) {K : Int32 → St → St} {Kk : Int32 → St → Prop} (hk : ∀ (v2 : Int32) (T : St), Kk v2 T → tR X 8 mX6_read 95 [some (.ref 13), some (.ref l1), some (.int v2)] [] T none (K v2 T)) : ∀ (f : Nat) (v2 : Int32) (T : St), ok_rd_read_64 l1 Kk f v2 T → tR X 8 mX6_read 64 [some (.ref 13), some (.ref l1), some (.int v2)] [] T none (x_rd_read_64 l1 K f v2 T) := by
  intro f
  induction f with
  | zero => intro v2 T kk; exact kk.elim
  | succ f ih =>
    intro v2 T kk
    rw [ok_rd_read_64] at kk
    refine r_p dX6_read_64 rfl rfl ?_
    refine r_cb (x := 8) dX6_read_65 rfl ?_
    refine r_cgt dX6_read_67 rfl (fun c67_4 => ?_) (fun c67_4 => ?_)
    · have kk := kk.1 c67_4
      show tR _ _ _ _ [some (.ref 13), some (.ref l1), some (.int v2)] _ _ _ _
      exact r_eV (r' := K v2 T) (by rw [x_rd_read_64]; rw [if_pos c67_4]) ((hk v2 T kk))
    · have kk := kk.2 c67_4
      refine r_p dX6_read_70 rfl rfl ?_
      refine r_get dX6_read_71 fkX6_24 rfl rfl ?_
      refine r_ine dX6_read_74 rfl (fun c74_5 => ?_) (fun c74_5 => ?_)
      · have kk := kk.2 c74_5
        show tR _ _ _ _ [some (.ref 13), some (.ref l1), some (.int v2)] _ _ _ _
        exact r_eV (r' := K v2 T) (by rw [x_rd_read_64]; rw [if_neg c67_4, if_neg c74_5]) ((hk v2 T kk))
      · have kk := kk.1 c74_5
        refine r_p dX6_read_77 rfl rfl ?_
        refine r_get dX6_read_78 fkX6_49 rfl rfl ?_
        refine r_ieq dX6_read_81 rfl (fun c81_6 => ?_) (fun c81_6 => ?_)
        · have kk := kk.1 c81_6
          show tR _ _ _ _ [some (.ref 13), some (.ref l1), some (.int v2)] _ _ _ _
          exact r_eV (r' := K v2 T) (by rw [x_rd_read_64]; rw [if_neg c67_4, if_pos c74_5, if_pos c81_6]) ((hk v2 T kk))
        · have kk := kk.2 c81_6
          refine r_p dX6_read_84 rfl rfl ?_
          refine r_p dX6_read_85 rfl rfl ?_
          obtain ⟨q8, kk⟩ := kk
          refine r_cv (d1 := 8) dX6_read_86 cvX6_46 rfl rfl rfl rfl (Nat.le_of_ble_eq_true rfl) (Nat.le_of_ble_eq_true rfl) (Nat.le_of_ble_eq_true rfl) (c_rd_readDish l1 q8) ?_
          refine r_inc (y := 1) dX6_read_89 rfl rfl rfl ?_
          refine r_go dX6_read_92 rfl ?_
          show tR _ _ _ _ [some (.ref 13), some (.ref l1), some (.int (v2 + 1))] _ _ _ _
          exact r_eV (r' := x_rd_read_64 l1 K f (v2 + 1) (x_rd_readDish T l1)) (by rw [x_rd_read_64]; rw [if_neg c67_4, if_pos c74_5, if_neg c81_6]) ((ih (v2 + 1) (x_rd_readDish T l1) kk))
def x_rd_read (T : St) (p0 : Nat) : St := x_rd_read_25 p0 (fun (w1_2 : Int32) (T201 : St) => x_rd_read_64 p0 (fun (w2_2 : Int32) (T202 : St) => sF T202 13 1 0) 1000 0 (x_rd_readDish T201 p0)) 1000 0 (x_rd_readKitchen (x_rd_advance (sF (sF (x_bk_clear T p0) 13 2 0) 13 4 0)) p0)
def ok_rd_read (T : St) (p0 : Nat) : Prop := (ok_bk_clear T p0) ∧ (sh p0 = .inr 1) ∧ (ok_rd_advance (sF (sF (x_bk_clear T p0) 13 2 0) 13 4 0)) ∧ (ok_rd_readKitchen (x_rd_advance (sF (sF (x_bk_clear T p0) 13 2 0) 13 4 0)) p0) ∧ ok_rd_read_25 p0 (fun (w1_2 : Int32) (T201 : St) => (ok_rd_readDish T201 p0) ∧ ok_rd_read_64 p0 (fun (w2_2 : Int32) (T202 : St) => True) 1000 0 (x_rd_readDish T201 p0)) 1000 0 (x_rd_readKitchen (x_rd_advance (sF (sF (x_bk_clear T p0) 13 2 0) 13 4 0)) p0)
theorem c_rd_read {X : Nat × (Nat → Int32)} {T : St} (p0 : Nat) (kk : ok_rd_read T p0) : tC X 9 mX6_read [.ref 13, .ref p0] T none (x_rd_read T p0) := by
  unfold ok_rd_read at kk
  refine tC_of ?_
  refine r_p dX6_read_0 rfl rfl ?_
  obtain ⟨q1, kk⟩ := kk
  obtain ⟨q2, kk⟩ := kk
  refine r_cv (d1 := 1) dX6_read_1 cvX6_19 rfl rfl q2 rfl (Nat.le_of_ble_eq_true rfl) (Nat.le_of_ble_eq_true rfl) (Nat.le_of_ble_eq_true rfl) (c_bk_clear p0 q1) ?_
  refine r_p dX6_read_4 rfl rfl ?_
  refine r_ci (x := 0) dX6_read_5 rfl ?_
  refine r_put dX6_read_6 fkX6_24 rfl rfl rfl (Nat.le_of_ble_eq_true rfl) rfl rfl ?_
  refine r_p dX6_read_9 rfl rfl ?_
  refine r_ci (x := 0) dX6_read_10 rfl ?_
  refine r_put dX6_read_11 fkX6_27 rfl rfl rfl (Nat.le_of_ble_eq_true rfl) rfl rfl ?_
  refine r_p dX6_read_14 rfl rfl ?_
  obtain ⟨q3, kk⟩ := kk
  refine r_cv (d1 := 2) dX6_read_15 cvX6_30 rfl rfl rfl rfl (Nat.le_of_ble_eq_true rfl) (Nat.le_of_ble_eq_true rfl) (Nat.le_of_ble_eq_true rfl) (c_rd_advance  q3) ?_
  refine r_p dX6_read_18 rfl rfl ?_
  refine r_p dX6_read_19 rfl rfl ?_
  obtain ⟨q4, kk⟩ := kk
  refine r_cv (d1 := 7) dX6_read_20 cvX6_33 rfl rfl rfl rfl (Nat.le_of_ble_eq_true rfl) (Nat.le_of_ble_eq_true rfl) (Nat.le_of_ble_eq_true rfl) (c_rd_readKitchen p0 q4) ?_
  refine r_ci (x := 0) dX6_read_23 rfl ?_
  refine r_p dX6_read_24 rfl rfl ?_
  show tR _ _ _ _ [some (.ref 13), some (.ref p0), some (.int 0)] _ _ _ _
  refine r_eV (r' := x_rd_read_25 p0 (fun (w1_2 : Int32) (T201 : St) => x_rd_read_64 p0 (fun (w2_2 : Int32) (T202 : St) => sF T202 13 1 0) 1000 0 (x_rd_readDish T201 p0)) 1000 0 (x_rd_readKitchen (x_rd_advance (sF (sF (x_bk_clear T p0) 13 2 0) 13 4 0)) p0)) (by unfold x_rd_read; rfl) ((c_rd_read_25 p0 (fun w1_2 T201 kk => ?_) 1000 0 (x_rd_readKitchen (x_rd_advance (sF (sF (x_bk_clear T p0) 13 2 0) 13 4 0)) p0) kk))
  · try dsimp only at kk
    refine r_p dX6_read_57 rfl rfl ?_
    refine r_p dX6_read_58 rfl rfl ?_
    obtain ⟨q7, kk⟩ := kk
    refine r_cv (d1 := 8) dX6_read_59 cvX6_46 rfl rfl rfl rfl (Nat.le_of_ble_eq_true rfl) (Nat.le_of_ble_eq_true rfl) (Nat.le_of_ble_eq_true rfl) (c_rd_readDish p0 q7) ?_
    refine r_ci (x := 0) dX6_read_62 rfl ?_
    refine r_p dX6_read_63 rfl rfl ?_
    show tR _ _ _ _ [some (.ref 13), some (.ref p0), some (.int 0)] _ _ _ _
    refine r_eV (r' := x_rd_read_64 p0 (fun (w2_2 : Int32) (T202 : St) => sF T202 13 1 0) 1000 0 (x_rd_readDish T201 p0)) rfl ((c_rd_read_64 p0 (fun w2_2 T202 kk => ?_) 1000 0 (x_rd_readDish T201 p0) kk))
    · refine r_p dX6_read_95 rfl rfl ?_
      refine r_ci (x := 0) dX6_read_96 rfl ?_
      refine r_put dX6_read_97 fkX6_15 rfl rfl rfl (Nat.le_of_ble_eq_true rfl) rfl rfl ?_
      exact r_eV (r' := (sF T202 13 1 0)) rfl (r_rv dX6_read_100 rfl rfl rfl)
def x_x_book (T : St)  : Int32 × St := if ((x_rd_read T (T.2.1 1)).1 13 2) = 0 then (fun (T1 : St) => ((x_x_changed T1).1 ((x_x_changed T1).2.1 0) 4, x_x_changed T1)) (sR (sR (x_rd_read T (T.2.1 1)) 1 ((x_rd_read T (T.2.1 1)).2.1 0)) 0 ((x_rd_read T (T.2.1 1)).2.1 1)) else ((-1000100) - ((sF (x_rd_read T (T.2.1 1)) 0 13 ((x_rd_read T (T.2.1 1)).1 13 2)).1 13 3), sF (x_rd_read T (T.2.1 1)) 0 13 ((x_rd_read T (T.2.1 1)).1 13 2))
def ok_x_book (T : St)  : Prop := (ok_rd_read T (T.2.1 1)) ∧ (((x_rd_read T (T.2.1 1)).1 13 2) = 0 → (fun (T1 : St) => (ok_x_changed T1) ∧ (sh ((x_x_changed T1).2.1 0) = .inr 1) ∧ True) (sR (sR (x_rd_read T (T.2.1 1)) 1 ((x_rd_read T (T.2.1 1)).2.1 0)) 0 ((x_rd_read T (T.2.1 1)).2.1 1)))
theorem c_x_book {X : Nat × (Nat → Int32)} {T : St}  (kk : ok_x_book T ) : tC X 10 mX11_book [.ref 0] T (some (.int (x_x_book T).1)) ((x_x_book T).2) := by
  unfold ok_x_book at kk
  refine tC_of ?_
  refine r_p dX11_book_0 rfl rfl ?_
  refine r_get dX11_book_1 fkX11_19 rfl rfl ?_
  refine r_p dX11_book_4 rfl rfl ?_
  refine r_get dX11_book_5 fkX11_34 rfl rfl ?_
  obtain ⟨q1, kk⟩ := kk
  refine r_cv (d1 := 9) dX11_book_8 cvX11_134 rfl rfl rfl rfl (Nat.le_of_ble_eq_true rfl) (Nat.le_of_ble_eq_true rfl) (Nat.le_of_ble_eq_true rfl) (c_rd_read (T.2.1 1) q1) ?_
  refine r_p dX11_book_11 rfl rfl ?_
  refine r_get dX11_book_12 fkX11_19 rfl rfl ?_
  refine r_get dX11_book_15 fkX11_138 rfl rfl ?_
  refine r_ieq dX11_book_18 rfl (fun c18_1 => ?_) (fun c18_1 => ?_)
  · have kk := kk c18_1
    refine r_p dX11_book_43 rfl rfl ?_
    refine r_get dX11_book_44 fkX11_34 rfl rfl ?_
    refine r_p dX11_book_47 rfl rfl ?_
    refine r_p dX11_book_48 rfl rfl ?_
    refine r_p dX11_book_49 rfl rfl ?_
    refine r_get dX11_book_50 fkX11_30 rfl rfl ?_
    refine r_putr dX11_book_53 fkX11_34 rfl rfl rfl (Nat.le_of_ble_eq_true rfl) rfl rfl ?_
    refine r_p dX11_book_56 rfl rfl ?_
    refine r_p dX11_book_57 rfl rfl ?_
    refine r_putr dX11_book_58 fkX11_30 rfl rfl rfl (Nat.le_of_ble_eq_true rfl) rfl rfl ?_
    refine r_eI (r' := (fun (T1 : St) => ((x_x_changed T1).1 ((x_x_changed T1).2.1 0) 4, x_x_changed T1)) (sR (sR (x_rd_read T (T.2.1 1)) 1 ((x_rd_read T (T.2.1 1)).2.1 0)) 0 ((x_rd_read T (T.2.1 1)).2.1 1))) (by unfold x_x_book; rw [if_pos c18_1]) ?_
    generalize sR (sR (x_rd_read T (T.2.1 1)) 1 ((x_rd_read T (T.2.1 1)).2.1 0)) 0 ((x_rd_read T (T.2.1 1)).2.1 1) = T1 at kk ⊢
    try dsimp only at kk
    refine r_p dX11_book_61 rfl rfl ?_
    obtain ⟨q2, kk⟩ := kk
    refine r_cv (d1 := 4) dX11_book_62 cvX11_146 rfl rfl rfl rfl (Nat.le_of_ble_eq_true rfl) (Nat.le_of_ble_eq_true rfl) (Nat.le_of_ble_eq_true rfl) (c_x_changed  q2) ?_
    refine r_p dX11_book_65 rfl rfl ?_
    refine r_get dX11_book_66 fkX11_30 rfl rfl ?_
    obtain ⟨q3, kk⟩ := kk
    refine r_get dX11_book_69 fkX11_149 q3 rfl ?_
    exact r_eI (r' := ((x_x_changed T1).1 ((x_x_changed T1).2.1 0) 4, x_x_changed T1)) rfl (r_ri dX11_book_72 rfl rfl rfl rfl)
  · refine r_p dX11_book_21 rfl rfl ?_
    refine r_p dX11_book_22 rfl rfl ?_
    refine r_get dX11_book_23 fkX11_19 rfl rfl ?_
    refine r_get dX11_book_26 fkX11_138 rfl rfl ?_
    refine r_put dX11_book_29 fkX11_141 rfl rfl rfl (Nat.le_of_ble_eq_true rfl) rfl rfl ?_
    refine r_k dX11_book_32 kkX11_142 ?_
    refine r_p dX11_book_34 rfl rfl ?_
    refine r_get dX11_book_35 fkX11_19 rfl rfl ?_
    refine r_get dX11_book_38 fkX11_143 rfl rfl ?_
    refine r_p dX11_book_41 rfl rfl ?_
    exact r_eI (r' := ((-1000100) - ((sF (x_rd_read T (T.2.1 1)) 0 13 ((x_rd_read T (T.2.1 1)).1 13 2)).1 13 3), sF (x_rd_read T (T.2.1 1)) 0 13 ((x_rd_read T (T.2.1 1)).1 13 2))) (by unfold x_x_book; rw [if_neg c18_1]) (r_ri dX11_book_42 rfl rfl rfl rfl)
def x_ask_markOf0 (T : St) (p0 : Nat) (p1 : Int32) (p2 : Int32) : Int32 × St := if p2 ≤ 8 then (if (x_bk_kindOf T p0 p1) = 3 then (0, (x_ask_markOfAny (x_ask_begin T 23) p1).2) else (if (x_bk_kindOf T p0 p1) = 4 then ((x_ask_markOfRested T p1).1, (x_ask_markOfRested T p1).2) else (if (x_bk_kindOf T p0 p1) = 5 then (((x_ask_markOfRested (x_ask_begin T 22) p1).1) + (((x_ask_markOfRested (x_ask_begin T 22) p1).2).2.2.1 (p0 + 13) (p1 : Int32).toNatClampNeg), (x_ask_markOfRested (x_ask_begin T 22) p1).2) else (if (x_bk_kindOf T p0 p1) = 6 then (-((x_ask_markOfAny (x_ask_begin T 24) p1).1), (x_ask_markOfAny (x_ask_begin T 24) p1).2) else ((x_ask_markOfAny T p1).1, (x_ask_markOfAny T p1).2))))) else (0, T)
def ok_ask_markOf0 (T : St) (p0 : Nat) (p1 : Int32) (p2 : Int32) : Prop := (p2 ≤ 8 → (ok_bk_kindOf T p0 p1) ∧ (sh p0 = .inr 1) ∧ (((x_bk_kindOf T p0 p1) = 3 → (ok_ask_begin T 23) ∧ (ok_ask_markOfAny (x_ask_begin T 23) p1) ∧ False) ∧ (¬ (x_bk_kindOf T p0 p1) = 3 → (((x_bk_kindOf T p0 p1) = 4 → (ok_ask_markOfRested T p1) ∧ True) ∧ (¬ (x_bk_kindOf T p0 p1) = 4 → (((x_bk_kindOf T p0 p1) = 5 → (ok_ask_begin T 22) ∧ (ok_ask_markOfRested (x_ask_begin T 22) p1) ∧ (sh (p0 + 13) = .inl (0, 24)) ∧ (vp_in p1 24) ∧ True) ∧ (¬ (x_bk_kindOf T p0 p1) = 5 → (((x_bk_kindOf T p0 p1) = 6 → (ok_ask_begin T 24) ∧ (ok_ask_markOfAny (x_ask_begin T 24) p1) ∧ True) ∧ (¬ (x_bk_kindOf T p0 p1) = 6 → (ok_ask_markOfAny T p1) ∧ True)))))))))
theorem c_ask_markOf0 {X : Nat × (Nat → Int32)} {T : St} (p0 : Nat) (p1 : Int32) (p2 : Int32) (kk : ok_ask_markOf0 T p0 p1 p2) : tC X 4 mX0_markOf [.ref 555, .ref p0, .int p1, .int p2] T (some (.int (x_ask_markOf0 T p0 p1 p2).1)) ((x_ask_markOf0 T p0 p1 p2).2) := by
  unfold ok_ask_markOf0 at kk
  refine tC_of ?_
  refine r_p dX0_markOf_0 rfl rfl ?_
  refine r_cb (x := 8) dX0_markOf_1 rfl ?_
  refine r_cle dX0_markOf_3 rfl (fun c3_1 => ?_) (fun c3_1 => ?_)
  · have kk := kk c3_1
    refine r_p dX0_markOf_8 rfl rfl ?_
    refine r_p dX0_markOf_9 rfl rfl ?_
    obtain ⟨q1, kk⟩ := kk
    obtain ⟨q2, kk⟩ := kk
    refine r_cv (d1 := 1) dX0_markOf_10 cvX0_27 rfl rfl q2 rfl (Nat.le_of_ble_eq_true rfl) (Nat.le_of_ble_eq_true rfl) (Nat.le_of_ble_eq_true rfl) (c_bk_kindOf p0 p1 q1) ?_
    by_cases s13_2_0 : (x_bk_kindOf T p0 p1) = 3
    · have kk := kk.1 s13_2_0
      refine r_tin dX0_markOf_13 (by rw [s13_2_0]; decide) (by rw [s13_2_0]; decide) (off := 56) (by rw [s13_2_0]; rfl) rfl ?_
      refine r_p dX0_markOf_69 rfl rfl ?_
      refine r_cb (x := 23) dX0_markOf_70 rfl ?_
      obtain ⟨q3, kk⟩ := kk
      refine r_cv (d1 := 1) dX0_markOf_72 cvX0_37 rfl rfl rfl rfl (Nat.le_of_ble_eq_true rfl) (Nat.le_of_ble_eq_true rfl) (Nat.le_of_ble_eq_true rfl) (c_ask_begin 23 q3) ?_
      refine r_p dX0_markOf_75 rfl rfl ?_
      refine r_p dX0_markOf_76 rfl rfl ?_
      obtain ⟨q4, kk⟩ := kk
      refine r_cv (d1 := 2) dX0_markOf_77 cvX0_56 rfl rfl rfl rfl (Nat.le_of_ble_eq_true rfl) (Nat.le_of_ble_eq_true rfl) (Nat.le_of_ble_eq_true rfl) (c_ask_markOfAny p1 q4) ?_
      refine r_p dX0_markOf_80 rfl rfl ?_
      refine r_p dX0_markOf_81 rfl rfl ?_
      refine r_p dX0_markOf_82 rfl rfl ?_
      refine r_p dX0_markOf_83 rfl rfl ?_
      refine r_ci (x := 1) dX0_markOf_84 rfl ?_
      refine r_p dX0_markOf_85 rfl rfl ?_
      exact kk.elim
    · have kk := kk.2 s13_2_0
      by_cases s13_2_1 : (x_bk_kindOf T p0 p1) = 4
      · have kk := kk.1 s13_2_1
        refine r_tin dX0_markOf_13 (by rw [s13_2_1]; decide) (by rw [s13_2_1]; decide) (off := 31) (by rw [s13_2_1]; rfl) rfl ?_
        refine r_p dX0_markOf_44 rfl rfl ?_
        refine r_p dX0_markOf_45 rfl rfl ?_
        obtain ⟨q5, kk⟩ := kk
        refine r_cv (d1 := 3) dX0_markOf_46 cvX0_53 rfl rfl rfl rfl (Nat.le_of_ble_eq_true rfl) (Nat.le_of_ble_eq_true rfl) (Nat.le_of_ble_eq_true rfl) (c_ask_markOfRested p1 q5) ?_
        exact r_eI (r' := ((x_ask_markOfRested T p1).1, (x_ask_markOfRested T p1).2)) (by unfold x_ask_markOf0; rw [if_pos c3_1, if_neg s13_2_0, if_pos s13_2_1]) (r_ri dX0_markOf_49 rfl rfl rfl rfl)
      · have kk := kk.2 s13_2_1
        by_cases s13_2_2 : (x_bk_kindOf T p0 p1) = 5
        · have kk := kk.1 s13_2_2
          refine r_tin dX0_markOf_13 (by rw [s13_2_2]; decide) (by rw [s13_2_2]; decide) (off := 37) (by rw [s13_2_2]; rfl) rfl ?_
          refine r_p dX0_markOf_50 rfl rfl ?_
          refine r_cb (x := 22) dX0_markOf_51 rfl ?_
          obtain ⟨q6, kk⟩ := kk
          refine r_cv (d1 := 1) dX0_markOf_53 cvX0_37 rfl rfl rfl rfl (Nat.le_of_ble_eq_true rfl) (Nat.le_of_ble_eq_true rfl) (Nat.le_of_ble_eq_true rfl) (c_ask_begin 22 q6) ?_
          refine r_p dX0_markOf_56 rfl rfl ?_
          refine r_p dX0_markOf_57 rfl rfl ?_
          obtain ⟨q7, kk⟩ := kk
          refine r_cv (d1 := 3) dX0_markOf_58 cvX0_53 rfl rfl rfl rfl (Nat.le_of_ble_eq_true rfl) (Nat.le_of_ble_eq_true rfl) (Nat.le_of_ble_eq_true rfl) (c_ask_markOfRested p1 q7) ?_
          refine r_p dX0_markOf_61 rfl rfl ?_
          refine r_get dX0_markOf_62 fkX0_47 q2 rfl ?_
          refine r_p dX0_markOf_65 rfl rfl ?_
          obtain ⟨q8, kk⟩ := kk
          obtain ⟨q9, kk⟩ := kk
          refine r_ia dX0_markOf_66 q8 q9 ?_
          refine r_p dX0_markOf_67 rfl rfl ?_
          exact r_eI (r' := (((x_ask_markOfRested (x_ask_begin T 22) p1).1) + (((x_ask_markOfRested (x_ask_begin T 22) p1).2).2.2.1 (p0 + 13) (p1 : Int32).toNatClampNeg), (x_ask_markOfRested (x_ask_begin T 22) p1).2)) (by unfold x_ask_markOf0; rw [if_pos c3_1, if_neg s13_2_0, if_neg s13_2_1, if_pos s13_2_2]) (r_ri dX0_markOf_68 rfl rfl rfl rfl)
        · have kk := kk.2 s13_2_2
          by_cases s13_2_3 : (x_bk_kindOf T p0 p1) = 6
          · have kk := kk.1 s13_2_3
            refine r_tin dX0_markOf_13 (by rw [s13_2_3]; decide) (by rw [s13_2_3]; decide) (off := 78) (by rw [s13_2_3]; rfl) rfl ?_
            refine r_p dX0_markOf_91 rfl rfl ?_
            refine r_cb (x := 24) dX0_markOf_92 rfl ?_
            obtain ⟨q10, kk⟩ := kk
            refine r_cv (d1 := 1) dX0_markOf_94 cvX0_37 rfl rfl rfl rfl (Nat.le_of_ble_eq_true rfl) (Nat.le_of_ble_eq_true rfl) (Nat.le_of_ble_eq_true rfl) (c_ask_begin 24 q10) ?_
            refine r_p dX0_markOf_97 rfl rfl ?_
            refine r_p dX0_markOf_98 rfl rfl ?_
            obtain ⟨q11, kk⟩ := kk
            refine r_cv (d1 := 2) dX0_markOf_99 cvX0_56 rfl rfl rfl rfl (Nat.le_of_ble_eq_true rfl) (Nat.le_of_ble_eq_true rfl) (Nat.le_of_ble_eq_true rfl) (c_ask_markOfAny p1 q11) ?_
            refine r_p dX0_markOf_102 rfl rfl ?_
            exact r_eI (r' := (-((x_ask_markOfAny (x_ask_begin T 24) p1).1), (x_ask_markOfAny (x_ask_begin T 24) p1).2)) (by unfold x_ask_markOf0; rw [if_pos c3_1, if_neg s13_2_0, if_neg s13_2_1, if_neg s13_2_2, if_pos s13_2_3]) (r_ri dX0_markOf_103 rfl rfl rfl rfl)
          · have kk := kk.2 s13_2_3
            refine r_tout dX0_markOf_13 (by have := i_rg (x_bk_kindOf T p0 p1); simp only [i_eq, i_3, i_4, i_5, i_6] at s13_2_0 s13_2_1 s13_2_2 s13_2_3; omega) rfl ?_
            refine r_p dX0_markOf_104 rfl rfl ?_
            refine r_p dX0_markOf_105 rfl rfl ?_
            obtain ⟨q12, kk⟩ := kk
            refine r_cv (d1 := 2) dX0_markOf_106 cvX0_56 rfl rfl rfl rfl (Nat.le_of_ble_eq_true rfl) (Nat.le_of_ble_eq_true rfl) (Nat.le_of_ble_eq_true rfl) (c_ask_markOfAny p1 q12) ?_
            exact r_eI (r' := ((x_ask_markOfAny T p1).1, (x_ask_markOfAny T p1).2)) (by unfold x_ask_markOf0; rw [if_pos c3_1, if_neg s13_2_0, if_neg s13_2_1, if_neg s13_2_2, if_neg s13_2_3]) (r_ri dX0_markOf_109 rfl rfl rfl rfl)
  · refine r_ci (x := 0) dX0_markOf_6 rfl ?_
    exact r_eI (r' := (0, T)) (by unfold x_ask_markOf0; rw [if_neg c3_1]) (r_ri dX0_markOf_7 rfl rfl rfl rfl)
def x_ask_sizeOf (T : St) (p0 : Nat) (p1 : Int32) (p2 : Int32) : Int32 × St := if p2 ≤ 8 then (if (x_bk_kindOf T p0 p1) = 1 then ((x_ask_sizeOfRinged T p0 p1).1, (x_ask_sizeOfRinged T p0 p1).2) else (if (x_bk_kindOf T p0 p1) = 2 then ((((x_ask_sizeOfAny (x_ask_begin T 13) p0 p1).1) + (((x_ask_sizeOfAny (x_ask_begin T 13) p0 p1).2).2.2.1 (p0 + 14) (p1 : Int32).toNatClampNeg)) - (((x_ask_sizeOfAny (x_ask_begin T 13) p0 p1).2).2.2.1 (p0 + 13) (p1 : Int32).toNatClampNeg), (x_ask_sizeOfAny (x_ask_begin T 13) p0 p1).2) else (if (x_bk_kindOf T p0 p1) = 3 then ((x_ask_sizeOfAny T p0 p1).1, (x_ask_sizeOfAny T p0 p1).2) else (if (x_bk_kindOf T p0 p1) = 4 then ((x_ask_sizeOfAny T p0 p1).1, (x_ask_sizeOfAny T p0 p1).2) else (if (x_bk_kindOf T p0 p1) = 5 then (((x_ask_sizeOfAny (x_ask_begin T 14) p0 p1).1) - ((x_ask_markOf0 ((x_ask_sizeOfAny (x_ask_begin T 14) p0 p1).2) p0 p1 (p2 + 1)).1), (x_ask_markOf0 ((x_ask_sizeOfAny (x_ask_begin T 14) p0 p1).2) p0 p1 (p2 + 1)).2) else (if (x_bk_kindOf T p0 p1) = 6 then (2 * ((x_ask_sizeOfRinged (x_ask_begin T 12) p0 p1).1), (x_ask_sizeOfRinged (x_ask_begin T 12) p0 p1).2) else ((x_ask_sizeOfAny T p0 p1).1, (x_ask_sizeOfAny T p0 p1).2))))))) else (0, T)
def ok_ask_sizeOf (T : St) (p0 : Nat) (p1 : Int32) (p2 : Int32) : Prop := (p2 ≤ 8 → (ok_bk_kindOf T p0 p1) ∧ (sh p0 = .inr 1) ∧ (((x_bk_kindOf T p0 p1) = 1 → (ok_ask_sizeOfRinged T p0 p1) ∧ True) ∧ (¬ (x_bk_kindOf T p0 p1) = 1 → (((x_bk_kindOf T p0 p1) = 2 → (ok_ask_begin T 13) ∧ (ok_ask_sizeOfAny (x_ask_begin T 13) p0 p1) ∧ (sh (p0 + 14) = .inl (0, 24)) ∧ (vp_in p1 24) ∧ (sh (p0 + 13) = .inl (0, 24)) ∧ True) ∧ (¬ (x_bk_kindOf T p0 p1) = 2 → (((x_bk_kindOf T p0 p1) = 3 → (ok_ask_sizeOfAny T p0 p1) ∧ True) ∧ (¬ (x_bk_kindOf T p0 p1) = 3 → (((x_bk_kindOf T p0 p1) = 4 → (ok_ask_sizeOfAny T p0 p1) ∧ True) ∧ (¬ (x_bk_kindOf T p0 p1) = 4 → (((x_bk_kindOf T p0 p1) = 5 → (ok_ask_begin T 14) ∧ (ok_ask_sizeOfAny (x_ask_begin T 14) p0 p1) ∧ (ok_ask_markOf0 ((x_ask_sizeOfAny (x_ask_begin T 14) p0 p1).2) p0 p1 (p2 + 1)) ∧ True) ∧ (¬ (x_bk_kindOf T p0 p1) = 5 → (((x_bk_kindOf T p0 p1) = 6 → (ok_ask_begin T 12) ∧ (ok_ask_sizeOfRinged (x_ask_begin T 12) p0 p1) ∧ True) ∧ (¬ (x_bk_kindOf T p0 p1) = 6 → (ok_ask_sizeOfAny T p0 p1) ∧ True)))))))))))))
theorem c_ask_sizeOf {X : Nat × (Nat → Int32)} {T : St} (p0 : Nat) (p1 : Int32) (p2 : Int32) (kk : ok_ask_sizeOf T p0 p1 p2) : tC X 5 mX0_sizeOf [.ref 555, .ref p0, .int p1, .int p2] T (some (.int (x_ask_sizeOf T p0 p1 p2).1)) ((x_ask_sizeOf T p0 p1 p2).2) := by
  unfold ok_ask_sizeOf at kk
  refine tC_of ?_
  refine r_p dX0_sizeOf_0 rfl rfl ?_
  refine r_cb (x := 8) dX0_sizeOf_1 rfl ?_
  refine r_cle dX0_sizeOf_3 rfl (fun c3_1 => ?_) (fun c3_1 => ?_)
  · have kk := kk c3_1
    refine r_p dX0_sizeOf_8 rfl rfl ?_
    refine r_p dX0_sizeOf_9 rfl rfl ?_
    obtain ⟨q1, kk⟩ := kk
    obtain ⟨q2, kk⟩ := kk
    refine r_cv (d1 := 1) dX0_sizeOf_10 cvX0_27 rfl rfl q2 rfl (Nat.le_of_ble_eq_true rfl) (Nat.le_of_ble_eq_true rfl) (Nat.le_of_ble_eq_true rfl) (c_bk_kindOf p0 p1 q1) ?_
    by_cases s13_2_0 : (x_bk_kindOf T p0 p1) = 1
    · have kk := kk.1 s13_2_0
      refine r_tin dX0_sizeOf_13 (by rw [s13_2_0]; decide) (by rw [s13_2_0]; decide) (off := 39) (by rw [s13_2_0]; rfl) rfl ?_
      refine r_p dX0_sizeOf_52 rfl rfl ?_
      refine r_p dX0_sizeOf_53 rfl rfl ?_
      refine r_p dX0_sizeOf_54 rfl rfl ?_
      obtain ⟨q3, kk⟩ := kk
      refine r_cv (d1 := 3) dX0_sizeOf_55 cvX0_33 rfl rfl rfl rfl (Nat.le_of_ble_eq_true rfl) (Nat.le_of_ble_eq_true rfl) (Nat.le_of_ble_eq_true rfl) (c_ask_sizeOfRinged p0 p1 q3) ?_
      exact r_eI (r' := ((x_ask_sizeOfRinged T p0 p1).1, (x_ask_sizeOfRinged T p0 p1).2)) (by unfold x_ask_sizeOf; rw [if_pos c3_1, if_pos s13_2_0]) (r_ri dX0_sizeOf_58 rfl rfl rfl rfl)
    · have kk := kk.2 s13_2_0
      by_cases s13_2_1 : (x_bk_kindOf T p0 p1) = 2
      · have kk := kk.1 s13_2_1
        refine r_tin dX0_sizeOf_13 (by rw [s13_2_1]; decide) (by rw [s13_2_1]; decide) (off := 61) (by rw [s13_2_1]; rfl) rfl ?_
        refine r_p dX0_sizeOf_74 rfl rfl ?_
        refine r_cb (x := 13) dX0_sizeOf_75 rfl ?_
        obtain ⟨q4, kk⟩ := kk
        refine r_cv (d1 := 1) dX0_sizeOf_77 cvX0_37 rfl rfl rfl rfl (Nat.le_of_ble_eq_true rfl) (Nat.le_of_ble_eq_true rfl) (Nat.le_of_ble_eq_true rfl) (c_ask_begin 13 q4) ?_
        refine r_p dX0_sizeOf_80 rfl rfl ?_
        refine r_p dX0_sizeOf_81 rfl rfl ?_
        refine r_p dX0_sizeOf_82 rfl rfl ?_
        obtain ⟨q5, kk⟩ := kk
        refine r_cv (d1 := 2) dX0_sizeOf_83 cvX0_41 rfl rfl rfl rfl (Nat.le_of_ble_eq_true rfl) (Nat.le_of_ble_eq_true rfl) (Nat.le_of_ble_eq_true rfl) (c_ask_sizeOfAny p0 p1 q5) ?_
        refine r_p dX0_sizeOf_86 rfl rfl ?_
        refine r_get dX0_sizeOf_87 fkX0_44 q2 rfl ?_
        refine r_p dX0_sizeOf_90 rfl rfl ?_
        obtain ⟨q6, kk⟩ := kk
        obtain ⟨q7, kk⟩ := kk
        refine r_ia dX0_sizeOf_91 q6 q7 ?_
        refine r_p dX0_sizeOf_92 rfl rfl ?_
        refine r_p dX0_sizeOf_93 rfl rfl ?_
        refine r_get dX0_sizeOf_94 fkX0_47 q2 rfl ?_
        refine r_p dX0_sizeOf_97 rfl rfl ?_
        obtain ⟨q8, kk⟩ := kk
        refine r_ia dX0_sizeOf_98 q8 q7 ?_
        refine r_p dX0_sizeOf_99 rfl rfl ?_
        exact r_eI (r' := ((((x_ask_sizeOfAny (x_ask_begin T 13) p0 p1).1) + (((x_ask_sizeOfAny (x_ask_begin T 13) p0 p1).2).2.2.1 (p0 + 14) (p1 : Int32).toNatClampNeg)) - (((x_ask_sizeOfAny (x_ask_begin T 13) p0 p1).2).2.2.1 (p0 + 13) (p1 : Int32).toNatClampNeg), (x_ask_sizeOfAny (x_ask_begin T 13) p0 p1).2)) (by unfold x_ask_sizeOf; rw [if_pos c3_1, if_neg s13_2_0, if_pos s13_2_1]) (r_ri dX0_sizeOf_100 rfl rfl rfl rfl)
      · have kk := kk.2 s13_2_1
        by_cases s13_2_2 : (x_bk_kindOf T p0 p1) = 3
        · have kk := kk.1 s13_2_2
          refine r_tin dX0_sizeOf_13 (by rw [s13_2_2]; decide) (by rw [s13_2_2]; decide) (off := 111) (by rw [s13_2_2]; rfl) rfl ?_
          refine r_p dX0_sizeOf_124 rfl rfl ?_
          refine r_p dX0_sizeOf_125 rfl rfl ?_
          refine r_p dX0_sizeOf_126 rfl rfl ?_
          obtain ⟨q9, kk⟩ := kk
          refine r_cv (d1 := 2) dX0_sizeOf_127 cvX0_41 rfl rfl rfl rfl (Nat.le_of_ble_eq_true rfl) (Nat.le_of_ble_eq_true rfl) (Nat.le_of_ble_eq_true rfl) (c_ask_sizeOfAny p0 p1 q9) ?_
          exact r_eI (r' := ((x_ask_sizeOfAny T p0 p1).1, (x_ask_sizeOfAny T p0 p1).2)) (by unfold x_ask_sizeOf; rw [if_pos c3_1, if_neg s13_2_0, if_neg s13_2_1, if_pos s13_2_2]) (r_ri dX0_sizeOf_130 rfl rfl rfl rfl)
        · have kk := kk.2 s13_2_2
          by_cases s13_2_3 : (x_bk_kindOf T p0 p1) = 4
          · have kk := kk.1 s13_2_3
            refine r_tin dX0_sizeOf_13 (by rw [s13_2_3]; decide) (by rw [s13_2_3]; decide) (off := 111) (by rw [s13_2_3]; rfl) rfl ?_
            refine r_p dX0_sizeOf_124 rfl rfl ?_
            refine r_p dX0_sizeOf_125 rfl rfl ?_
            refine r_p dX0_sizeOf_126 rfl rfl ?_
            obtain ⟨q10, kk⟩ := kk
            refine r_cv (d1 := 2) dX0_sizeOf_127 cvX0_41 rfl rfl rfl rfl (Nat.le_of_ble_eq_true rfl) (Nat.le_of_ble_eq_true rfl) (Nat.le_of_ble_eq_true rfl) (c_ask_sizeOfAny p0 p1 q10) ?_
            exact r_eI (r' := ((x_ask_sizeOfAny T p0 p1).1, (x_ask_sizeOfAny T p0 p1).2)) (by unfold x_ask_sizeOf; rw [if_pos c3_1, if_neg s13_2_0, if_neg s13_2_1, if_neg s13_2_2, if_pos s13_2_3]) (r_ri dX0_sizeOf_130 rfl rfl rfl rfl)
          · have kk := kk.2 s13_2_3
            by_cases s13_2_4 : (x_bk_kindOf T p0 p1) = 5
            · have kk := kk.1 s13_2_4
              refine r_tin dX0_sizeOf_13 (by rw [s13_2_4]; decide) (by rw [s13_2_4]; decide) (off := 88) (by rw [s13_2_4]; rfl) rfl ?_
              refine r_p dX0_sizeOf_101 rfl rfl ?_
              refine r_cb (x := 14) dX0_sizeOf_102 rfl ?_
              obtain ⟨q11, kk⟩ := kk
              refine r_cv (d1 := 1) dX0_sizeOf_104 cvX0_37 rfl rfl rfl rfl (Nat.le_of_ble_eq_true rfl) (Nat.le_of_ble_eq_true rfl) (Nat.le_of_ble_eq_true rfl) (c_ask_begin 14 q11) ?_
              refine r_p dX0_sizeOf_107 rfl rfl ?_
              refine r_p dX0_sizeOf_108 rfl rfl ?_
              refine r_p dX0_sizeOf_109 rfl rfl ?_
              obtain ⟨q12, kk⟩ := kk
              refine r_cv (d1 := 2) dX0_sizeOf_110 cvX0_41 rfl rfl rfl rfl (Nat.le_of_ble_eq_true rfl) (Nat.le_of_ble_eq_true rfl) (Nat.le_of_ble_eq_true rfl) (c_ask_sizeOfAny p0 p1 q12) ?_
              refine r_p dX0_sizeOf_113 rfl rfl ?_
              refine r_p dX0_sizeOf_114 rfl rfl ?_
              refine r_p dX0_sizeOf_115 rfl rfl ?_
              refine r_p dX0_sizeOf_116 rfl rfl ?_
              refine r_ci (x := 1) dX0_sizeOf_117 rfl ?_
              refine r_p dX0_sizeOf_118 rfl rfl ?_
              obtain ⟨q13, kk⟩ := kk
              refine r_cv (d1 := 4) dX0_sizeOf_119 cvX0_24 rfl rfl rfl rfl (Nat.le_of_ble_eq_true rfl) (Nat.le_of_ble_eq_true rfl) (Nat.le_of_ble_eq_true rfl) (c_ask_markOf0 p0 p1 (p2 + 1) q13) ?_
              refine r_p dX0_sizeOf_122 rfl rfl ?_
              exact r_eI (r' := (((x_ask_sizeOfAny (x_ask_begin T 14) p0 p1).1) - ((x_ask_markOf0 ((x_ask_sizeOfAny (x_ask_begin T 14) p0 p1).2) p0 p1 (p2 + 1)).1), (x_ask_markOf0 ((x_ask_sizeOfAny (x_ask_begin T 14) p0 p1).2) p0 p1 (p2 + 1)).2)) (by unfold x_ask_sizeOf; rw [if_pos c3_1, if_neg s13_2_0, if_neg s13_2_1, if_neg s13_2_2, if_neg s13_2_3, if_pos s13_2_4]) (r_ri dX0_sizeOf_123 rfl rfl rfl rfl)
            · have kk := kk.2 s13_2_4
              by_cases s13_2_5 : (x_bk_kindOf T p0 p1) = 6
              · have kk := kk.1 s13_2_5
                refine r_tin dX0_sizeOf_13 (by rw [s13_2_5]; decide) (by rw [s13_2_5]; decide) (off := 46) (by rw [s13_2_5]; rfl) rfl ?_
                refine r_p dX0_sizeOf_59 rfl rfl ?_
                refine r_cb (x := 12) dX0_sizeOf_60 rfl ?_
                obtain ⟨q14, kk⟩ := kk
                refine r_cv (d1 := 1) dX0_sizeOf_62 cvX0_37 rfl rfl rfl rfl (Nat.le_of_ble_eq_true rfl) (Nat.le_of_ble_eq_true rfl) (Nat.le_of_ble_eq_true rfl) (c_ask_begin 12 q14) ?_
                refine r_ci (x := 2) dX0_sizeOf_65 rfl ?_
                refine r_p dX0_sizeOf_66 rfl rfl ?_
                refine r_p dX0_sizeOf_67 rfl rfl ?_
                refine r_p dX0_sizeOf_68 rfl rfl ?_
                obtain ⟨q15, kk⟩ := kk
                refine r_cv (d1 := 3) dX0_sizeOf_69 cvX0_33 rfl rfl rfl rfl (Nat.le_of_ble_eq_true rfl) (Nat.le_of_ble_eq_true rfl) (Nat.le_of_ble_eq_true rfl) (c_ask_sizeOfRinged p0 p1 q15) ?_
                refine r_p dX0_sizeOf_72 rfl rfl ?_
                exact r_eI (r' := (2 * ((x_ask_sizeOfRinged (x_ask_begin T 12) p0 p1).1), (x_ask_sizeOfRinged (x_ask_begin T 12) p0 p1).2)) (by unfold x_ask_sizeOf; rw [if_pos c3_1, if_neg s13_2_0, if_neg s13_2_1, if_neg s13_2_2, if_neg s13_2_3, if_neg s13_2_4, if_pos s13_2_5]) (r_ri dX0_sizeOf_73 rfl rfl rfl rfl)
              · have kk := kk.2 s13_2_5
                refine r_tout dX0_sizeOf_13 (by have := i_rg (x_bk_kindOf T p0 p1); simp only [i_eq, i_1, i_2, i_3, i_4, i_5, i_6] at s13_2_0 s13_2_1 s13_2_2 s13_2_3 s13_2_4 s13_2_5; omega) rfl ?_
                refine r_p dX0_sizeOf_124 rfl rfl ?_
                refine r_p dX0_sizeOf_125 rfl rfl ?_
                refine r_p dX0_sizeOf_126 rfl rfl ?_
                obtain ⟨q16, kk⟩ := kk
                refine r_cv (d1 := 2) dX0_sizeOf_127 cvX0_41 rfl rfl rfl rfl (Nat.le_of_ble_eq_true rfl) (Nat.le_of_ble_eq_true rfl) (Nat.le_of_ble_eq_true rfl) (c_ask_sizeOfAny p0 p1 q16) ?_
                exact r_eI (r' := ((x_ask_sizeOfAny T p0 p1).1, (x_ask_sizeOfAny T p0 p1).2)) (by unfold x_ask_sizeOf; rw [if_pos c3_1, if_neg s13_2_0, if_neg s13_2_1, if_neg s13_2_2, if_neg s13_2_3, if_neg s13_2_4, if_neg s13_2_5]) (r_ri dX0_sizeOf_130 rfl rfl rfl rfl)
  · refine r_ci (x := 0) dX0_sizeOf_6 rfl ?_
    exact r_eI (r' := (0, T)) (by unfold x_ask_sizeOf; rw [if_neg c3_1]) (r_ri dX0_sizeOf_7 rfl rfl rfl rfl)
def x_ask_markOf (T : St) (p0 : Nat) (p1 : Int32) (p2 : Int32) : Int32 × St := if p2 ≤ 8 then (if (x_bk_kindOf T p0 p1) = 3 then (((x_ask_markOfAny (x_ask_begin T 23) p1).1) + ((x_ask_sizeOf ((x_ask_markOfAny (x_ask_begin T 23) p1).2) p0 p1 (p2 + 1)).1), (x_ask_sizeOf ((x_ask_markOfAny (x_ask_begin T 23) p1).2) p0 p1 (p2 + 1)).2) else (if (x_bk_kindOf T p0 p1) = 4 then ((x_ask_markOfRested T p1).1, (x_ask_markOfRested T p1).2) else (if (x_bk_kindOf T p0 p1) = 5 then (((x_ask_markOfRested (x_ask_begin T 22) p1).1) + (((x_ask_markOfRested (x_ask_begin T 22) p1).2).2.2.1 (p0 + 13) (p1 : Int32).toNatClampNeg), (x_ask_markOfRested (x_ask_begin T 22) p1).2) else (if (x_bk_kindOf T p0 p1) = 6 then (-((x_ask_markOfAny (x_ask_begin T 24) p1).1), (x_ask_markOfAny (x_ask_begin T 24) p1).2) else ((x_ask_markOfAny T p1).1, (x_ask_markOfAny T p1).2))))) else (0, T)
def ok_ask_markOf (T : St) (p0 : Nat) (p1 : Int32) (p2 : Int32) : Prop := (p2 ≤ 8 → (ok_bk_kindOf T p0 p1) ∧ (sh p0 = .inr 1) ∧ (((x_bk_kindOf T p0 p1) = 3 → (ok_ask_begin T 23) ∧ (ok_ask_markOfAny (x_ask_begin T 23) p1) ∧ (ok_ask_sizeOf ((x_ask_markOfAny (x_ask_begin T 23) p1).2) p0 p1 (p2 + 1)) ∧ True) ∧ (¬ (x_bk_kindOf T p0 p1) = 3 → (((x_bk_kindOf T p0 p1) = 4 → (ok_ask_markOfRested T p1) ∧ True) ∧ (¬ (x_bk_kindOf T p0 p1) = 4 → (((x_bk_kindOf T p0 p1) = 5 → (ok_ask_begin T 22) ∧ (ok_ask_markOfRested (x_ask_begin T 22) p1) ∧ (sh (p0 + 13) = .inl (0, 24)) ∧ (vp_in p1 24) ∧ True) ∧ (¬ (x_bk_kindOf T p0 p1) = 5 → (((x_bk_kindOf T p0 p1) = 6 → (ok_ask_begin T 24) ∧ (ok_ask_markOfAny (x_ask_begin T 24) p1) ∧ True) ∧ (¬ (x_bk_kindOf T p0 p1) = 6 → (ok_ask_markOfAny T p1) ∧ True)))))))))
theorem c_ask_markOf {X : Nat × (Nat → Int32)} {T : St} (p0 : Nat) (p1 : Int32) (p2 : Int32) (kk : ok_ask_markOf T p0 p1 p2) : tC X 6 mX0_markOf [.ref 555, .ref p0, .int p1, .int p2] T (some (.int (x_ask_markOf T p0 p1 p2).1)) ((x_ask_markOf T p0 p1 p2).2) := by
  unfold ok_ask_markOf at kk
  refine tC_of ?_
  refine r_p dX0_markOf_0 rfl rfl ?_
  refine r_cb (x := 8) dX0_markOf_1 rfl ?_
  refine r_cle dX0_markOf_3 rfl (fun c3_1 => ?_) (fun c3_1 => ?_)
  · have kk := kk c3_1
    refine r_p dX0_markOf_8 rfl rfl ?_
    refine r_p dX0_markOf_9 rfl rfl ?_
    obtain ⟨q1, kk⟩ := kk
    obtain ⟨q2, kk⟩ := kk
    refine r_cv (d1 := 1) dX0_markOf_10 cvX0_27 rfl rfl q2 rfl (Nat.le_of_ble_eq_true rfl) (Nat.le_of_ble_eq_true rfl) (Nat.le_of_ble_eq_true rfl) (c_bk_kindOf p0 p1 q1) ?_
    by_cases s13_2_0 : (x_bk_kindOf T p0 p1) = 3
    · have kk := kk.1 s13_2_0
      refine r_tin dX0_markOf_13 (by rw [s13_2_0]; decide) (by rw [s13_2_0]; decide) (off := 56) (by rw [s13_2_0]; rfl) rfl ?_
      refine r_p dX0_markOf_69 rfl rfl ?_
      refine r_cb (x := 23) dX0_markOf_70 rfl ?_
      obtain ⟨q3, kk⟩ := kk
      refine r_cv (d1 := 1) dX0_markOf_72 cvX0_37 rfl rfl rfl rfl (Nat.le_of_ble_eq_true rfl) (Nat.le_of_ble_eq_true rfl) (Nat.le_of_ble_eq_true rfl) (c_ask_begin 23 q3) ?_
      refine r_p dX0_markOf_75 rfl rfl ?_
      refine r_p dX0_markOf_76 rfl rfl ?_
      obtain ⟨q4, kk⟩ := kk
      refine r_cv (d1 := 2) dX0_markOf_77 cvX0_56 rfl rfl rfl rfl (Nat.le_of_ble_eq_true rfl) (Nat.le_of_ble_eq_true rfl) (Nat.le_of_ble_eq_true rfl) (c_ask_markOfAny p1 q4) ?_
      refine r_p dX0_markOf_80 rfl rfl ?_
      refine r_p dX0_markOf_81 rfl rfl ?_
      refine r_p dX0_markOf_82 rfl rfl ?_
      refine r_p dX0_markOf_83 rfl rfl ?_
      refine r_ci (x := 1) dX0_markOf_84 rfl ?_
      refine r_p dX0_markOf_85 rfl rfl ?_
      obtain ⟨q5, kk⟩ := kk
      refine r_cv (d1 := 5) dX0_markOf_86 cvX0_20 rfl rfl rfl rfl (Nat.le_of_ble_eq_true rfl) (Nat.le_of_ble_eq_true rfl) (Nat.le_of_ble_eq_true rfl) (c_ask_sizeOf p0 p1 (p2 + 1) q5) ?_
      refine r_p dX0_markOf_89 rfl rfl ?_
      exact r_eI (r' := (((x_ask_markOfAny (x_ask_begin T 23) p1).1) + ((x_ask_sizeOf ((x_ask_markOfAny (x_ask_begin T 23) p1).2) p0 p1 (p2 + 1)).1), (x_ask_sizeOf ((x_ask_markOfAny (x_ask_begin T 23) p1).2) p0 p1 (p2 + 1)).2)) (by unfold x_ask_markOf; rw [if_pos c3_1, if_pos s13_2_0]) (r_ri dX0_markOf_90 rfl rfl rfl rfl)
    · have kk := kk.2 s13_2_0
      by_cases s13_2_1 : (x_bk_kindOf T p0 p1) = 4
      · have kk := kk.1 s13_2_1
        refine r_tin dX0_markOf_13 (by rw [s13_2_1]; decide) (by rw [s13_2_1]; decide) (off := 31) (by rw [s13_2_1]; rfl) rfl ?_
        refine r_p dX0_markOf_44 rfl rfl ?_
        refine r_p dX0_markOf_45 rfl rfl ?_
        obtain ⟨q6, kk⟩ := kk
        refine r_cv (d1 := 3) dX0_markOf_46 cvX0_53 rfl rfl rfl rfl (Nat.le_of_ble_eq_true rfl) (Nat.le_of_ble_eq_true rfl) (Nat.le_of_ble_eq_true rfl) (c_ask_markOfRested p1 q6) ?_
        exact r_eI (r' := ((x_ask_markOfRested T p1).1, (x_ask_markOfRested T p1).2)) (by unfold x_ask_markOf; rw [if_pos c3_1, if_neg s13_2_0, if_pos s13_2_1]) (r_ri dX0_markOf_49 rfl rfl rfl rfl)
      · have kk := kk.2 s13_2_1
        by_cases s13_2_2 : (x_bk_kindOf T p0 p1) = 5
        · have kk := kk.1 s13_2_2
          refine r_tin dX0_markOf_13 (by rw [s13_2_2]; decide) (by rw [s13_2_2]; decide) (off := 37) (by rw [s13_2_2]; rfl) rfl ?_
          refine r_p dX0_markOf_50 rfl rfl ?_
          refine r_cb (x := 22) dX0_markOf_51 rfl ?_
          obtain ⟨q7, kk⟩ := kk
          refine r_cv (d1 := 1) dX0_markOf_53 cvX0_37 rfl rfl rfl rfl (Nat.le_of_ble_eq_true rfl) (Nat.le_of_ble_eq_true rfl) (Nat.le_of_ble_eq_true rfl) (c_ask_begin 22 q7) ?_
          refine r_p dX0_markOf_56 rfl rfl ?_
          refine r_p dX0_markOf_57 rfl rfl ?_
          obtain ⟨q8, kk⟩ := kk
          refine r_cv (d1 := 3) dX0_markOf_58 cvX0_53 rfl rfl rfl rfl (Nat.le_of_ble_eq_true rfl) (Nat.le_of_ble_eq_true rfl) (Nat.le_of_ble_eq_true rfl) (c_ask_markOfRested p1 q8) ?_
          refine r_p dX0_markOf_61 rfl rfl ?_
          refine r_get dX0_markOf_62 fkX0_47 q2 rfl ?_
          refine r_p dX0_markOf_65 rfl rfl ?_
          obtain ⟨q9, kk⟩ := kk
          obtain ⟨q10, kk⟩ := kk
          refine r_ia dX0_markOf_66 q9 q10 ?_
          refine r_p dX0_markOf_67 rfl rfl ?_
          exact r_eI (r' := (((x_ask_markOfRested (x_ask_begin T 22) p1).1) + (((x_ask_markOfRested (x_ask_begin T 22) p1).2).2.2.1 (p0 + 13) (p1 : Int32).toNatClampNeg), (x_ask_markOfRested (x_ask_begin T 22) p1).2)) (by unfold x_ask_markOf; rw [if_pos c3_1, if_neg s13_2_0, if_neg s13_2_1, if_pos s13_2_2]) (r_ri dX0_markOf_68 rfl rfl rfl rfl)
        · have kk := kk.2 s13_2_2
          by_cases s13_2_3 : (x_bk_kindOf T p0 p1) = 6
          · have kk := kk.1 s13_2_3
            refine r_tin dX0_markOf_13 (by rw [s13_2_3]; decide) (by rw [s13_2_3]; decide) (off := 78) (by rw [s13_2_3]; rfl) rfl ?_
            refine r_p dX0_markOf_91 rfl rfl ?_
            refine r_cb (x := 24) dX0_markOf_92 rfl ?_
            obtain ⟨q11, kk⟩ := kk
            refine r_cv (d1 := 1) dX0_markOf_94 cvX0_37 rfl rfl rfl rfl (Nat.le_of_ble_eq_true rfl) (Nat.le_of_ble_eq_true rfl) (Nat.le_of_ble_eq_true rfl) (c_ask_begin 24 q11) ?_
            refine r_p dX0_markOf_97 rfl rfl ?_
            refine r_p dX0_markOf_98 rfl rfl ?_
            obtain ⟨q12, kk⟩ := kk
            refine r_cv (d1 := 2) dX0_markOf_99 cvX0_56 rfl rfl rfl rfl (Nat.le_of_ble_eq_true rfl) (Nat.le_of_ble_eq_true rfl) (Nat.le_of_ble_eq_true rfl) (c_ask_markOfAny p1 q12) ?_
            refine r_p dX0_markOf_102 rfl rfl ?_
            exact r_eI (r' := (-((x_ask_markOfAny (x_ask_begin T 24) p1).1), (x_ask_markOfAny (x_ask_begin T 24) p1).2)) (by unfold x_ask_markOf; rw [if_pos c3_1, if_neg s13_2_0, if_neg s13_2_1, if_neg s13_2_2, if_pos s13_2_3]) (r_ri dX0_markOf_103 rfl rfl rfl rfl)
          · have kk := kk.2 s13_2_3
            refine r_tout dX0_markOf_13 (by have := i_rg (x_bk_kindOf T p0 p1); simp only [i_eq, i_3, i_4, i_5, i_6] at s13_2_0 s13_2_1 s13_2_2 s13_2_3; omega) rfl ?_
            refine r_p dX0_markOf_104 rfl rfl ?_
            refine r_p dX0_markOf_105 rfl rfl ?_
            obtain ⟨q13, kk⟩ := kk
            refine r_cv (d1 := 2) dX0_markOf_106 cvX0_56 rfl rfl rfl rfl (Nat.le_of_ble_eq_true rfl) (Nat.le_of_ble_eq_true rfl) (Nat.le_of_ble_eq_true rfl) (c_ask_markOfAny p1 q13) ?_
            exact r_eI (r' := ((x_ask_markOfAny T p1).1, (x_ask_markOfAny T p1).2)) (by unfold x_ask_markOf; rw [if_pos c3_1, if_neg s13_2_0, if_neg s13_2_1, if_neg s13_2_2, if_neg s13_2_3]) (r_ri dX0_markOf_109 rfl rfl rfl rfl)
  · refine r_ci (x := 0) dX0_markOf_6 rfl ?_
    exact r_eI (r' := (0, T)) (by unfold x_ask_markOf; rw [if_neg c3_1]) (r_ri dX0_markOf_7 rfl rfl rfl rfl)
def x_pl_seek0_27 (l1 : Int32) (l2 : Int32) (l3 : Int32) (K : Int32 → St → St) : Nat → Int32 → St → St
  | 0, _, T => T
  | f + 1, v4, T => if (T.2.2.1 82 (T.2.2.1 94 (l1 : Int32).toNatClampNeg : Int32).toNatClampNeg) ≤ v4 then (K v4 T) else (if (((T.2.2.1 (100 + (l1 : Int32).toNatClampNeg) (l1 : Int32).toNatClampNeg) >>> (v4 &&& 31)) &&& 1) = 0 then (x_pl_seek0_27 l1 l2 l3 K f (v4 + 1) T) else (if (T.1 80 13) ≤ ((l2 + (T.1 (123 + 4 * (l3 + v4 : Int32).toNatClampNeg) 5)) + (T.2.2.1 97 (l1 + 1 : Int32).toNatClampNeg)) then (x_pl_seek0_27 l1 l2 l3 K f (v4 + 1) T) else (if (x_ta_hasRoom T (507 + 5 * (l1 : Int32).toNatClampNeg) ((123 + 4 * (l3 + v4 : Int32).toNatClampNeg) + 3)) = 0 then (x_pl_seek0_27 l1 l2 l3 K f (v4 + 1) T) else (if ((x_pl_leavesOpen T l1 (l3 + v4)).1) = 0 then (x_pl_seek0_27 l1 l2 l3 K f (v4 + 1) ((x_pl_leavesOpen T l1 (l3 + v4)).2)) else (jn (fun (KJ1 : St → St) => if ((sA ((x_pl_leavesOpen T l1 (l3 + v4)).2) 95 (l1 : Int32).toNatClampNeg (l3 + v4)).1 80 12) ≤ (l1 + 1) then (KJ1 (sA ((x_pl_leavesOpen T l1 (l3 + v4)).2) 95 (l1 : Int32).toNatClampNeg (l3 + v4))) else (fun (T2 : St) => KJ1 T2) (x_ta_add (sA ((x_pl_leavesOpen T l1 (l3 + v4)).2) 95 (l1 : Int32).toNatClampNeg (l3 + v4)) (507 + 5 * (l1 + 1 : Int32).toNatClampNeg) (507 + 5 * (l1 : Int32).toNatClampNeg) ((123 + 4 * (l3 + v4 : Int32).toNatClampNeg) + 3) ((sA ((x_pl_leavesOpen T l1 (l3 + v4)).2) 95 (l1 : Int32).toNatClampNeg (l3 + v4)).2.1 3))) (fun (T301 : St) => T301))))))
def ok_pl_seek0_27 (l1 : Int32) (l2 : Int32) (l3 : Int32) (Kk : Int32 → St → Prop) : Nat → Int32 → St → Prop
  | 0, _, _ => False
  | f + 1, v4, T => (vp_in l1 4) ∧ (vp_in (T.2.2.1 94 (l1 : Int32).toNatClampNeg) 8) ∧ (((T.2.2.1 82 (T.2.2.1 94 (l1 : Int32).toNatClampNeg : Int32).toNatClampNeg) ≤ v4 → Kk v4 T) ∧ (¬ (T.2.2.1 82 (T.2.2.1 94 (l1 : Int32).toNatClampNeg : Int32).toNatClampNeg) ≤ v4 → (vp_in l1 5) ∧ (sh (100 + (l1 : Int32).toNatClampNeg) = .inl (0, 4)) ∧ (((((T.2.2.1 (100 + (l1 : Int32).toNatClampNeg) (l1 : Int32).toNatClampNeg) >>> (v4 &&& 31)) &&& 1) = 0 → ok_pl_seek0_27 l1 l2 l3 Kk f (v4 + 1) T) ∧ (¬ (((T.2.2.1 (100 + (l1 : Int32).toNatClampNeg) (l1 : Int32).toNatClampNeg) >>> (v4 &&& 31)) &&& 1) = 0 → (vp_in (l3 + v4) 96) ∧ (sh (123 + 4 * (l3 + v4 : Int32).toNatClampNeg) = .inr 10) ∧ (vp_in (l1 + 1) 5) ∧ (((T.1 80 13) ≤ ((l2 + (T.1 (123 + 4 * (l3 + v4 : Int32).toNatClampNeg) 5)) + (T.2.2.1 97 (l1 + 1 : Int32).toNatClampNeg)) → ok_pl_seek0_27 l1 l2 l3 Kk f (v4 + 1) T) ∧ (¬ (T.1 80 13) ≤ ((l2 + (T.1 (123 + 4 * (l3 + v4 : Int32).toNatClampNeg) 5)) + (T.2.2.1 97 (l1 + 1 : Int32).toNatClampNeg)) → (ok_ta_hasRoom T (507 + 5 * (l1 : Int32).toNatClampNeg) ((123 + 4 * (l3 + v4 : Int32).toNatClampNeg) + 3)) ∧ (sh (507 + 5 * (l1 : Int32).toNatClampNeg) = .inr 9) ∧ (((x_ta_hasRoom T (507 + 5 * (l1 : Int32).toNatClampNeg) ((123 + 4 * (l3 + v4 : Int32).toNatClampNeg) + 3)) = 0 → ok_pl_seek0_27 l1 l2 l3 Kk f (v4 + 1) T) ∧ (¬ (x_ta_hasRoom T (507 + 5 * (l1 : Int32).toNatClampNeg) ((123 + 4 * (l3 + v4 : Int32).toNatClampNeg) + 3)) = 0 → (ok_pl_leavesOpen T l1 (l3 + v4)) ∧ ((((x_pl_leavesOpen T l1 (l3 + v4)).1) = 0 → ok_pl_seek0_27 l1 l2 l3 Kk f (v4 + 1) ((x_pl_leavesOpen T l1 (l3 + v4)).2)) ∧ (¬ ((x_pl_leavesOpen T l1 (l3 + v4)).1) = 0 → jn (fun (OJ1 : St → Prop) => ((((sA ((x_pl_leavesOpen T l1 (l3 + v4)).2) 95 (l1 : Int32).toNatClampNeg (l3 + v4)).1 80 12) ≤ (l1 + 1) → OJ1 (sA ((x_pl_leavesOpen T l1 (l3 + v4)).2) 95 (l1 : Int32).toNatClampNeg (l3 + v4))) ∧ (¬ ((sA ((x_pl_leavesOpen T l1 (l3 + v4)).2) 95 (l1 : Int32).toNatClampNeg (l3 + v4)).1 80 12) ≤ (l1 + 1) → (vp_in (l1 + 1) 4) ∧ (ok_ta_add (sA ((x_pl_leavesOpen T l1 (l3 + v4)).2) 95 (l1 : Int32).toNatClampNeg (l3 + v4)) (507 + 5 * (l1 + 1 : Int32).toNatClampNeg) (507 + 5 * (l1 : Int32).toNatClampNeg) ((123 + 4 * (l3 + v4 : Int32).toNatClampNeg) + 3) ((sA ((x_pl_leavesOpen T l1 (l3 + v4)).2) 95 (l1 : Int32).toNatClampNeg (l3 + v4)).2.1 3)) ∧ (sh (507 + 5 * (l1 + 1 : Int32).toNatClampNeg) = .inr 9) ∧ (fun (T2 : St) => OJ1 T2) (x_ta_add (sA ((x_pl_leavesOpen T l1 (l3 + v4)).2) 95 (l1 : Int32).toNatClampNeg (l3 + v4)) (507 + 5 * (l1 + 1 : Int32).toNatClampNeg) (507 + 5 * (l1 : Int32).toNatClampNeg) ((123 + 4 * (l3 + v4 : Int32).toNatClampNeg) + 3) ((sA ((x_pl_leavesOpen T l1 (l3 + v4)).2) 95 (l1 : Int32).toNatClampNeg (l3 + v4)).2.1 3))))) (fun (T301 : St) => (sh (123 + 4 * (l3 + v4 : Int32).toNatClampNeg) = .inr 10) ∧ False)))))))))))
theorem c_pl_seek0_27 {X : Nat × (Nat → Int32)} (l1 : Int32) (l2 : Int32) (l3 : Int32) {K : Int32 → St → St} {Kk : Int32 → St → Prop} (hk : ∀ (v4 : Int32) (T : St), Kk v4 T → tR X 4 mX5_seek 191 [some (.ref 80), some (.int l1), some (.int l2), some (.int l3), some (.int v4), none] [] T none (K v4 T)) : ∀ (f : Nat) (v4 : Int32) (T : St), ok_pl_seek0_27 l1 l2 l3 Kk f v4 T → tR X 4 mX5_seek 27 [some (.ref 80), some (.int l1), some (.int l2), some (.int l3), some (.int v4), none] [] T none (x_pl_seek0_27 l1 l2 l3 K f v4 T) := by
  intro f
  induction f with
  | zero => intro v4 T kk; exact kk.elim
  | succ f ih =>
    intro v4 T kk
    rw [ok_pl_seek0_27] at kk
    refine r_p dX5_seek_27 rfl rfl ?_
    refine r_p dX5_seek_29 rfl rfl ?_
    refine r_get dX5_seek_30 fkX5_17 rfl rfl ?_
    refine r_p dX5_seek_33 rfl rfl ?_
    refine r_get dX5_seek_34 fkX5_35 rfl rfl ?_
    refine r_p dX5_seek_37 rfl rfl ?_
    obtain ⟨q2, kk⟩ := kk
    refine r_ia dX5_seek_38 rfl q2 ?_
    obtain ⟨q3, kk⟩ := kk
    refine r_ia dX5_seek_39 rfl q3 ?_
    refine r_cge dX5_seek_40 rfl (fun c40_2 => ?_) (fun c40_2 => ?_)
    · have kk := kk.1 c40_2
      show tR _ _ _ _ [some (.ref 80), some (.int l1), some (.int l2), some (.int l3), some (.int v4), none] _ _ _ _
      exact r_eV (r' := K v4 T) (by rw [x_pl_seek0_27]; rw [if_pos c40_2]) ((hk v4 T kk))
    · have kk := kk.2 c40_2
      refine r_p dX5_seek_43 rfl rfl ?_
      refine r_get dX5_seek_44 fkX5_52 rfl rfl ?_
      refine r_p dX5_seek_47 rfl rfl ?_
      obtain ⟨q4, kk⟩ := kk
      refine r_aa dX5_seek_48 rfl (by decide) q4 (rf99 q4) ?_
      refine r_p dX5_seek_49 rfl rfl ?_
      obtain ⟨q5, kk⟩ := kk
      refine r_ia dX5_seek_50 q5 q2 ?_
      refine r_p dX5_seek_51 rfl rfl ?_
      refine r_p dX5_seek_53 rfl rfl ?_
      refine r_ci (x := 1) dX5_seek_54 rfl ?_
      refine r_p dX5_seek_55 rfl rfl ?_
      refine r_ine dX5_seek_56 rfl (fun c56_3 => ?_) (fun c56_3 => ?_)
      · have kk := kk.2 c56_3
        refine r_p dX5_seek_62 rfl rfl ?_
        refine r_get dX5_seek_63 fkX5_11 rfl rfl ?_
        refine r_p dX5_seek_66 rfl rfl ?_
        refine r_p dX5_seek_67 rfl rfl ?_
        refine r_p dX5_seek_69 rfl rfl ?_
        obtain ⟨q6, kk⟩ := kk
        refine r_aa dX5_seek_70 rfl (by decide) q6 (rf81 q6) ?_
        refine r_p dX5_seek_71 rfl rfl ?_
        refine r_p dX5_seek_73 rfl rfl ?_
        refine r_p dX5_seek_74 rfl rfl ?_
        obtain ⟨q7, kk⟩ := kk
        refine r_get dX5_seek_76 fkX5_100 q7 rfl ?_
        refine r_p dX5_seek_79 rfl rfl ?_
        refine r_p dX5_seek_80 rfl rfl ?_
        refine r_get dX5_seek_81 fkX5_44 rfl rfl ?_
        refine r_p dX5_seek_84 rfl rfl ?_
        refine r_ci (x := 1) dX5_seek_85 rfl ?_
        refine r_p dX5_seek_86 rfl rfl ?_
        obtain ⟨q8, kk⟩ := kk
        refine r_ia dX5_seek_87 rfl q8 ?_
        refine r_p dX5_seek_88 rfl rfl ?_
        refine r_p dX5_seek_89 rfl rfl ?_
        refine r_get dX5_seek_90 fkX5_160 rfl rfl ?_
        refine r_cge dX5_seek_93 rfl (fun c93_4 => ?_) (fun c93_4 => ?_)
        · have kk := kk.1 c93_4
          refine r_inc (y := 1) dX5_seek_185 rfl rfl rfl ?_
          refine r_go dX5_seek_188 rfl ?_
          show tR _ _ _ _ [some (.ref 80), some (.int l1), some (.int l2), some (.int l3), some (.int (v4 + 1)), some (.ref (123 + 4 * (l3 + v4 : Int32).toNatClampNeg))] _ _ _ _
          exact r_eV (r' := x_pl_seek0_27 l1 l2 l3 K f (v4 + 1) T) (by rw [x_pl_seek0_27]; rw [if_neg c40_2, if_neg c56_3, if_pos c93_4]) (r_le (le_s (le_s (le_s (le_s (le_s (le_n (le_0))))))) (ih (v4 + 1) T kk))
        · have kk := kk.2 c93_4
          refine r_p dX5_seek_96 rfl rfl ?_
          refine r_get dX5_seek_97 fkX5_31 rfl rfl ?_
          refine r_p dX5_seek_100 rfl rfl ?_
          refine r_aa dX5_seek_101 rfl (by decide) q2 (rf93 q2) ?_
          refine r_p dX5_seek_102 rfl rfl ?_
          refine r_get dX5_seek_104 fkX5_110 q7 rfl ?_
          obtain ⟨q9, kk⟩ := kk
          obtain ⟨q10, kk⟩ := kk
          refine r_cv (d1 := 1) dX5_seek_107 cvX5_114 rfl rfl q10 rfl (Nat.le_of_ble_eq_true rfl) (Nat.le_of_ble_eq_true rfl) (Nat.le_of_ble_eq_true rfl) (c_ta_hasRoom (507 + 5 * (l1 : Int32).toNatClampNeg) ((123 + 4 * (l3 + v4 : Int32).toNatClampNeg) + 3) q9) ?_
          refine r_ieq dX5_seek_110 rfl (fun c110_5 => ?_) (fun c110_5 => ?_)
          · have kk := kk.1 c110_5
            refine r_inc (y := 1) dX5_seek_185 rfl rfl rfl ?_
            refine r_go dX5_seek_188 rfl ?_
            show tR _ _ _ _ [some (.ref 80), some (.int l1), some (.int l2), some (.int l3), some (.int (v4 + 1)), some (.ref (123 + 4 * (l3 + v4 : Int32).toNatClampNeg))] _ _ _ _
            exact r_eV (r' := x_pl_seek0_27 l1 l2 l3 K f (v4 + 1) T) (by rw [x_pl_seek0_27]; rw [if_neg c40_2, if_neg c56_3, if_neg c93_4, if_pos c110_5]) (r_le (le_s (le_s (le_s (le_s (le_s (le_n (le_0))))))) (ih (v4 + 1) T kk))
          · have kk := kk.2 c110_5
            refine r_p dX5_seek_113 rfl rfl ?_
            refine r_p dX5_seek_114 rfl rfl ?_
            refine r_p dX5_seek_115 rfl rfl ?_
            refine r_p dX5_seek_116 rfl rfl ?_
            refine r_p dX5_seek_118 rfl rfl ?_
            obtain ⟨q11, kk⟩ := kk
            refine r_cv (d1 := 4) dX5_seek_119 cvX5_186 rfl rfl rfl rfl (Nat.le_of_ble_eq_true rfl) (Nat.le_of_ble_eq_true rfl) (Nat.le_of_ble_eq_true rfl) (c_pl_leavesOpen l1 (l3 + v4) q11) ?_
            refine r_ieq dX5_seek_122 rfl (fun c122_6 => ?_) (fun c122_6 => ?_)
            · have kk := kk.1 c122_6
              refine r_inc (y := 1) dX5_seek_185 rfl rfl rfl ?_
              refine r_go dX5_seek_188 rfl ?_
              show tR _ _ _ _ [some (.ref 80), some (.int l1), some (.int l2), some (.int l3), some (.int (v4 + 1)), some (.ref (123 + 4 * (l3 + v4 : Int32).toNatClampNeg))] _ _ _ _
              exact r_eV (r' := x_pl_seek0_27 l1 l2 l3 K f (v4 + 1) ((x_pl_leavesOpen T l1 (l3 + v4)).2)) (by rw [x_pl_seek0_27]; rw [if_neg c40_2, if_neg c56_3, if_neg c93_4, if_neg c110_5, if_pos c122_6]) (r_le (le_s (le_s (le_s (le_s (le_s (le_n (le_0))))))) (ih (v4 + 1) ((x_pl_leavesOpen T l1 (l3 + v4)).2) kk))
            · have kk := kk.2 c122_6
              refine r_p dX5_seek_125 rfl rfl ?_
              refine r_get dX5_seek_126 fkX5_38 rfl rfl ?_
              refine r_p dX5_seek_129 rfl rfl ?_
              refine r_p dX5_seek_130 rfl rfl ?_
              refine r_p dX5_seek_131 rfl rfl ?_
              refine r_p dX5_seek_133 rfl rfl ?_
              refine r_ias dX5_seek_134 rfl q2 ?_
              refine r_p dX5_seek_135 rfl rfl ?_
              refine r_ci (x := 1) dX5_seek_136 rfl ?_
              refine r_p dX5_seek_137 rfl rfl ?_
              refine r_p dX5_seek_138 rfl rfl ?_
              refine r_get dX5_seek_139 fkX5_172 rfl rfl ?_
              obtain ⟨KJ1, hKJ1⟩ : ∃ q : St → St, q = (fun (T301 : St) => T301) := ⟨_, rfl⟩
              obtain ⟨OJ1, hOJ1⟩ : ∃ q : St → Prop, q = (fun (T301 : St) => (sh (123 + 4 * (l3 + v4 : Int32).toNatClampNeg) = .inr 10) ∧ False) := ⟨_, rfl⟩
              rw [← hOJ1] at kk
              simp only [jn] at kk
              have hJ1 : ∀ (T301 : St), OJ1 T301 → tR X 4 mX5_seek 171 [some (.ref 80), some (.int l1), some (.int l2), some (.int l3), some (.int v4), some (.ref (123 + 4 * (l3 + v4 : Int32).toNatClampNeg))] [] T301 none (KJ1 T301) := by
                intro T301 kk
                rw [hOJ1] at kk
                try dsimp only at kk
                rw [hKJ1]
                refine r_p dX5_seek_171 rfl rfl ?_
                refine r_p dX5_seek_172 rfl rfl ?_
                refine r_ci (x := 1) dX5_seek_173 rfl ?_
                refine r_p dX5_seek_174 rfl rfl ?_
                refine r_p dX5_seek_175 rfl rfl ?_
                refine r_p dX5_seek_176 rfl rfl ?_
                obtain ⟨q15, kk⟩ := kk
                refine r_get dX5_seek_178 fkX5_100 q15 rfl ?_
                refine r_p dX5_seek_181 rfl rfl ?_
                exact kk.elim
              refine r_eV (r' := jn (fun (KJ1 : St → St) => if ((sA ((x_pl_leavesOpen T l1 (l3 + v4)).2) 95 (l1 : Int32).toNatClampNeg (l3 + v4)).1 80 12) ≤ (l1 + 1) then (KJ1 (sA ((x_pl_leavesOpen T l1 (l3 + v4)).2) 95 (l1 : Int32).toNatClampNeg (l3 + v4))) else (fun (T2 : St) => KJ1 T2) (x_ta_add (sA ((x_pl_leavesOpen T l1 (l3 + v4)).2) 95 (l1 : Int32).toNatClampNeg (l3 + v4)) (507 + 5 * (l1 + 1 : Int32).toNatClampNeg) (507 + 5 * (l1 : Int32).toNatClampNeg) ((123 + 4 * (l3 + v4 : Int32).toNatClampNeg) + 3) ((sA ((x_pl_leavesOpen T l1 (l3 + v4)).2) 95 (l1 : Int32).toNatClampNeg (l3 + v4)).2.1 3))) KJ1) (by rw [hKJ1]; rw [x_pl_seek0_27]; rw [if_neg c40_2, if_neg c56_3, if_neg c93_4, if_neg c110_5, if_neg c122_6]) ?_
              refine r_cge dX5_seek_142 rfl (fun c142_8 => ?_) (fun c142_8 => ?_)
              · have kk := kk.1 c142_8
                show tR _ _ _ _ [some (.ref 80), some (.int l1), some (.int l2), some (.int l3), some (.int v4), some (.ref (123 + 4 * (l3 + v4 : Int32).toNatClampNeg))] [] _ _ _
                exact r_eV (r' := KJ1 (sA ((x_pl_leavesOpen T l1 (l3 + v4)).2) 95 (l1 : Int32).toNatClampNeg (l3 + v4))) (by simp only [jn]; rw [if_pos c142_8]) ((hJ1 (sA ((x_pl_leavesOpen T l1 (l3 + v4)).2) 95 (l1 : Int32).toNatClampNeg (l3 + v4)) kk))
              · have kk := kk.2 c142_8
                refine r_p dX5_seek_145 rfl rfl ?_
                refine r_get dX5_seek_146 fkX5_31 rfl rfl ?_
                refine r_p dX5_seek_149 rfl rfl ?_
                refine r_ci (x := 1) dX5_seek_150 rfl ?_
                refine r_p dX5_seek_151 rfl rfl ?_
                obtain ⟨q16, kk⟩ := kk
                refine r_aa dX5_seek_152 rfl (by decide) q16 (rf93 q16) ?_
                refine r_p dX5_seek_153 rfl rfl ?_
                refine r_get dX5_seek_154 fkX5_31 rfl rfl ?_
                refine r_p dX5_seek_157 rfl rfl ?_
                refine r_aa dX5_seek_158 rfl (by decide) q2 (rf93 q2) ?_
                refine r_p dX5_seek_159 rfl rfl ?_
                refine r_get dX5_seek_161 fkX5_110 q7 rfl ?_
                refine r_p dX5_seek_164 rfl rfl ?_
                refine r_get dX5_seek_165 fkX5_69 rfl rfl ?_
                obtain ⟨q17, kk⟩ := kk
                obtain ⟨q18, kk⟩ := kk
                refine r_cv (d1 := 2) dX5_seek_168 cvX5_179 rfl rfl q18 rfl (Nat.le_of_ble_eq_true rfl) (Nat.le_of_ble_eq_true rfl) (Nat.le_of_ble_eq_true rfl) (c_ta_add (507 + 5 * (l1 + 1 : Int32).toNatClampNeg) (507 + 5 * (l1 : Int32).toNatClampNeg) ((123 + 4 * (l3 + v4 : Int32).toNatClampNeg) + 3) ((sA ((x_pl_leavesOpen T l1 (l3 + v4)).2) 95 (l1 : Int32).toNatClampNeg (l3 + v4)).2.1 3) q17) ?_
                refine r_eV (r' := (fun (T2 : St) => KJ1 T2) (x_ta_add (sA ((x_pl_leavesOpen T l1 (l3 + v4)).2) 95 (l1 : Int32).toNatClampNeg (l3 + v4)) (507 + 5 * (l1 + 1 : Int32).toNatClampNeg) (507 + 5 * (l1 : Int32).toNatClampNeg) ((123 + 4 * (l3 + v4 : Int32).toNatClampNeg) + 3) ((sA ((x_pl_leavesOpen T l1 (l3 + v4)).2) 95 (l1 : Int32).toNatClampNeg (l3 + v4)).2.1 3))) (by simp only [jn]; rw [if_neg c142_8]) ?_
                generalize x_ta_add (sA ((x_pl_leavesOpen T l1 (l3 + v4)).2) 95 (l1 : Int32).toNatClampNeg (l3 + v4)) (507 + 5 * (l1 + 1 : Int32).toNatClampNeg) (507 + 5 * (l1 : Int32).toNatClampNeg) ((123 + 4 * (l3 + v4 : Int32).toNatClampNeg) + 3) ((sA ((x_pl_leavesOpen T l1 (l3 + v4)).2) 95 (l1 : Int32).toNatClampNeg (l3 + v4)).2.1 3) = T2 at kk ⊢
                try dsimp only at kk
                show tR _ _ _ _ [some (.ref 80), some (.int l1), some (.int l2), some (.int l3), some (.int v4), some (.ref (123 + 4 * (l3 + v4 : Int32).toNatClampNeg))] [] _ _ _
                exact r_eV (r' := KJ1 T2) rfl ((hJ1 T2 kk))
      · have kk := kk.1 c56_3
        refine r_go dX5_seek_59 rfl ?_
        refine r_inc (y := 1) dX5_seek_185 rfl rfl rfl ?_
        refine r_go dX5_seek_188 rfl ?_
        show tR _ _ _ _ [some (.ref 80), some (.int l1), some (.int l2), some (.int l3), some (.int (v4 + 1)), none] _ _ _ _
        exact r_eV (r' := x_pl_seek0_27 l1 l2 l3 K f (v4 + 1) T) (by rw [x_pl_seek0_27]; rw [if_neg c40_2, if_pos c56_3]) ((ih (v4 + 1) T kk))
def x_pl_seek0 (T : St) (p0 : Int32) (p1 : Int32) : St := if p0 < (T.1 80 12) then (x_pl_seek0_27 p0 p1 ((T.2.2.1 94 (p0 : Int32).toNatClampNeg) * 12) (fun (w1_4 : Int32) (T201 : St) => T201) 1000 0 T) else (x_pl_keepPicked T p1)
def ok_pl_seek0 (T : St) (p0 : Int32) (p1 : Int32) : Prop := ((p0 < (T.1 80 12) → (vp_in p0 4) ∧ ok_pl_seek0_27 p0 p1 ((T.2.2.1 94 (p0 : Int32).toNatClampNeg) * 12) (fun (w1_4 : Int32) (T201 : St) => True) 1000 0 T) ∧ (¬ p0 < (T.1 80 12) → (ok_pl_keepPicked T p1) ∧ True))
theorem c_pl_seek0 {X : Nat × (Nat → Int32)} {T : St} (p0 : Int32) (p1 : Int32) (kk : ok_pl_seek0 T p0 p1) : tC X 5 mX5_seek [.ref 80, .int p0, .int p1] T none (x_pl_seek0 T p0 p1) := by
  unfold ok_pl_seek0 at kk
  refine tC_of ?_
  refine r_p dX5_seek_0 rfl rfl ?_
  refine r_p dX5_seek_1 rfl rfl ?_
  refine r_get dX5_seek_2 fkX5_172 rfl rfl ?_
  refine r_clt dX5_seek_5 rfl (fun c5_1 => ?_) (fun c5_1 => ?_)
  · have kk := kk.1 c5_1
    refine r_p dX5_seek_14 rfl rfl ?_
    refine r_get dX5_seek_15 fkX5_35 rfl rfl ?_
    refine r_p dX5_seek_18 rfl rfl ?_
    obtain ⟨q1, kk⟩ := kk
    refine r_ia dX5_seek_19 rfl q1 ?_
    refine r_cb (x := 12) dX5_seek_20 rfl ?_
    refine r_p dX5_seek_22 rfl rfl ?_
    refine r_p dX5_seek_23 rfl rfl ?_
    refine r_ci (x := 0) dX5_seek_24 rfl ?_
    refine r_p dX5_seek_25 rfl rfl ?_
    show tR _ _ _ _ [some (.ref 80), some (.int p0), some (.int p1), some (.int ((T.2.2.1 94 (p0 : Int32).toNatClampNeg) * 12)), some (.int 0), none] _ _ _ _
    refine r_eV (r' := x_pl_seek0_27 p0 p1 ((T.2.2.1 94 (p0 : Int32).toNatClampNeg) * 12) (fun (w1_4 : Int32) (T201 : St) => T201) 1000 0 T) (by unfold x_pl_seek0; rw [if_pos c5_1]) ((c_pl_seek0_27 p0 p1 ((T.2.2.1 94 (p0 : Int32).toNatClampNeg) * 12) (fun w1_4 T201 kk => ?_) 1000 0 T kk))
    · exact r_eV (r' := T201) rfl (r_rv dX5_seek_191 rfl rfl rfl)
  · have kk := kk.2 c5_1
    refine r_p dX5_seek_8 rfl rfl ?_
    refine r_p dX5_seek_9 rfl rfl ?_
    obtain ⟨q19, kk⟩ := kk
    refine r_cv (d1 := 1) dX5_seek_10 cvX5_183 rfl rfl rfl rfl (Nat.le_of_ble_eq_true rfl) (Nat.le_of_ble_eq_true rfl) (Nat.le_of_ble_eq_true rfl) (c_pl_keepPicked p1 q19) ?_
    exact r_eV (r' := (x_pl_keepPicked T p1)) (by unfold x_pl_seek0; rw [if_neg c5_1]) (r_rv dX5_seek_13 rfl rfl rfl)
def x_pl_seek1_27 (l1 : Int32) (l2 : Int32) (l3 : Int32) (K : Int32 → St → St) : Nat → Int32 → St → St
  | 0, _, T => T
  | f + 1, v4, T => if (T.2.2.1 82 (T.2.2.1 94 (l1 : Int32).toNatClampNeg : Int32).toNatClampNeg) ≤ v4 then (K v4 T) else (if (((T.2.2.1 (100 + (l1 : Int32).toNatClampNeg) (l1 : Int32).toNatClampNeg) >>> (v4 &&& 31)) &&& 1) = 0 then (x_pl_seek1_27 l1 l2 l3 K f (v4 + 1) T) else (if (T.1 80 13) ≤ ((l2 + (T.1 (123 + 4 * (l3 + v4 : Int32).toNatClampNeg) 5)) + (T.2.2.1 97 (l1 + 1 : Int32).toNatClampNeg)) then (x_pl_seek1_27 l1 l2 l3 K f (v4 + 1) T) else (if (x_ta_hasRoom T (507 + 5 * (l1 : Int32).toNatClampNeg) ((123 + 4 * (l3 + v4 : Int32).toNatClampNeg) + 3)) = 0 then (x_pl_seek1_27 l1 l2 l3 K f (v4 + 1) T) else (if ((x_pl_leavesOpen T l1 (l3 + v4)).1) = 0 then (x_pl_seek1_27 l1 l2 l3 K f (v4 + 1) ((x_pl_leavesOpen T l1 (l3 + v4)).2)) else (jn (fun (KJ1 : St → St) => if ((sA ((x_pl_leavesOpen T l1 (l3 + v4)).2) 95 (l1 : Int32).toNatClampNeg (l3 + v4)).1 80 12) ≤ (l1 + 1) then (KJ1 (sA ((x_pl_leavesOpen T l1 (l3 + v4)).2) 95 (l1 : Int32).toNatClampNeg (l3 + v4))) else (fun (T2 : St) => KJ1 T2) (x_ta_add (sA ((x_pl_leavesOpen T l1 (l3 + v4)).2) 95 (l1 : Int32).toNatClampNeg (l3 + v4)) (507 + 5 * (l1 + 1 : Int32).toNatClampNeg) (507 + 5 * (l1 : Int32).toNatClampNeg) ((123 + 4 * (l3 + v4 : Int32).toNatClampNeg) + 3) ((sA ((x_pl_leavesOpen T l1 (l3 + v4)).2) 95 (l1 : Int32).toNatClampNeg (l3 + v4)).2.1 3))) (fun (T301 : St) => x_pl_seek1_27 l1 l2 l3 K f (v4 + 1) (x_pl_seek0 T301 (l1 + 1) (l2 + (T301.1 (123 + 4 * (l3 + v4 : Int32).toNatClampNeg) 5)))))))))
def ok_pl_seek1_27 (l1 : Int32) (l2 : Int32) (l3 : Int32) (Kk : Int32 → St → Prop) : Nat → Int32 → St → Prop
  | 0, _, _ => False
  | f + 1, v4, T => (vp_in l1 4) ∧ (vp_in (T.2.2.1 94 (l1 : Int32).toNatClampNeg) 8) ∧ (((T.2.2.1 82 (T.2.2.1 94 (l1 : Int32).toNatClampNeg : Int32).toNatClampNeg) ≤ v4 → Kk v4 T) ∧ (¬ (T.2.2.1 82 (T.2.2.1 94 (l1 : Int32).toNatClampNeg : Int32).toNatClampNeg) ≤ v4 → (vp_in l1 5) ∧ (sh (100 + (l1 : Int32).toNatClampNeg) = .inl (0, 4)) ∧ (((((T.2.2.1 (100 + (l1 : Int32).toNatClampNeg) (l1 : Int32).toNatClampNeg) >>> (v4 &&& 31)) &&& 1) = 0 → ok_pl_seek1_27 l1 l2 l3 Kk f (v4 + 1) T) ∧ (¬ (((T.2.2.1 (100 + (l1 : Int32).toNatClampNeg) (l1 : Int32).toNatClampNeg) >>> (v4 &&& 31)) &&& 1) = 0 → (vp_in (l3 + v4) 96) ∧ (sh (123 + 4 * (l3 + v4 : Int32).toNatClampNeg) = .inr 10) ∧ (vp_in (l1 + 1) 5) ∧ (((T.1 80 13) ≤ ((l2 + (T.1 (123 + 4 * (l3 + v4 : Int32).toNatClampNeg) 5)) + (T.2.2.1 97 (l1 + 1 : Int32).toNatClampNeg)) → ok_pl_seek1_27 l1 l2 l3 Kk f (v4 + 1) T) ∧ (¬ (T.1 80 13) ≤ ((l2 + (T.1 (123 + 4 * (l3 + v4 : Int32).toNatClampNeg) 5)) + (T.2.2.1 97 (l1 + 1 : Int32).toNatClampNeg)) → (ok_ta_hasRoom T (507 + 5 * (l1 : Int32).toNatClampNeg) ((123 + 4 * (l3 + v4 : Int32).toNatClampNeg) + 3)) ∧ (sh (507 + 5 * (l1 : Int32).toNatClampNeg) = .inr 9) ∧ (((x_ta_hasRoom T (507 + 5 * (l1 : Int32).toNatClampNeg) ((123 + 4 * (l3 + v4 : Int32).toNatClampNeg) + 3)) = 0 → ok_pl_seek1_27 l1 l2 l3 Kk f (v4 + 1) T) ∧ (¬ (x_ta_hasRoom T (507 + 5 * (l1 : Int32).toNatClampNeg) ((123 + 4 * (l3 + v4 : Int32).toNatClampNeg) + 3)) = 0 → (ok_pl_leavesOpen T l1 (l3 + v4)) ∧ ((((x_pl_leavesOpen T l1 (l3 + v4)).1) = 0 → ok_pl_seek1_27 l1 l2 l3 Kk f (v4 + 1) ((x_pl_leavesOpen T l1 (l3 + v4)).2)) ∧ (¬ ((x_pl_leavesOpen T l1 (l3 + v4)).1) = 0 → jn (fun (OJ1 : St → Prop) => ((((sA ((x_pl_leavesOpen T l1 (l3 + v4)).2) 95 (l1 : Int32).toNatClampNeg (l3 + v4)).1 80 12) ≤ (l1 + 1) → OJ1 (sA ((x_pl_leavesOpen T l1 (l3 + v4)).2) 95 (l1 : Int32).toNatClampNeg (l3 + v4))) ∧ (¬ ((sA ((x_pl_leavesOpen T l1 (l3 + v4)).2) 95 (l1 : Int32).toNatClampNeg (l3 + v4)).1 80 12) ≤ (l1 + 1) → (vp_in (l1 + 1) 4) ∧ (ok_ta_add (sA ((x_pl_leavesOpen T l1 (l3 + v4)).2) 95 (l1 : Int32).toNatClampNeg (l3 + v4)) (507 + 5 * (l1 + 1 : Int32).toNatClampNeg) (507 + 5 * (l1 : Int32).toNatClampNeg) ((123 + 4 * (l3 + v4 : Int32).toNatClampNeg) + 3) ((sA ((x_pl_leavesOpen T l1 (l3 + v4)).2) 95 (l1 : Int32).toNatClampNeg (l3 + v4)).2.1 3)) ∧ (sh (507 + 5 * (l1 + 1 : Int32).toNatClampNeg) = .inr 9) ∧ (fun (T2 : St) => OJ1 T2) (x_ta_add (sA ((x_pl_leavesOpen T l1 (l3 + v4)).2) 95 (l1 : Int32).toNatClampNeg (l3 + v4)) (507 + 5 * (l1 + 1 : Int32).toNatClampNeg) (507 + 5 * (l1 : Int32).toNatClampNeg) ((123 + 4 * (l3 + v4 : Int32).toNatClampNeg) + 3) ((sA ((x_pl_leavesOpen T l1 (l3 + v4)).2) 95 (l1 : Int32).toNatClampNeg (l3 + v4)).2.1 3))))) (fun (T301 : St) => (sh (123 + 4 * (l3 + v4 : Int32).toNatClampNeg) = .inr 10) ∧ (ok_pl_seek0 T301 (l1 + 1) (l2 + (T301.1 (123 + 4 * (l3 + v4 : Int32).toNatClampNeg) 5))) ∧ ok_pl_seek1_27 l1 l2 l3 Kk f (v4 + 1) (x_pl_seek0 T301 (l1 + 1) (l2 + (T301.1 (123 + 4 * (l3 + v4 : Int32).toNatClampNeg) 5))))))))))))))
theorem c_pl_seek1_27 {X : Nat × (Nat → Int32)} (l1 : Int32) (l2 : Int32) (l3 : Int32) {K : Int32 → St → St} {Kk : Int32 → St → Prop} (hk : ∀ (v4 : Int32) (T : St), Kk v4 T → tR X 5 mX5_seek 191 [some (.ref 80), some (.int l1), some (.int l2), some (.int l3), some (.int v4), none] [] T none (K v4 T)) : ∀ (f : Nat) (v4 : Int32) (T : St), ok_pl_seek1_27 l1 l2 l3 Kk f v4 T → tR X 5 mX5_seek 27 [some (.ref 80), some (.int l1), some (.int l2), some (.int l3), some (.int v4), none] [] T none (x_pl_seek1_27 l1 l2 l3 K f v4 T) := by
  intro f
  induction f with
  | zero => intro v4 T kk; exact kk.elim
  | succ f ih =>
    intro v4 T kk
    rw [ok_pl_seek1_27] at kk
    refine r_p dX5_seek_27 rfl rfl ?_
    refine r_p dX5_seek_29 rfl rfl ?_
    refine r_get dX5_seek_30 fkX5_17 rfl rfl ?_
    refine r_p dX5_seek_33 rfl rfl ?_
    refine r_get dX5_seek_34 fkX5_35 rfl rfl ?_
    refine r_p dX5_seek_37 rfl rfl ?_
    obtain ⟨q2, kk⟩ := kk
    refine r_ia dX5_seek_38 rfl q2 ?_
    obtain ⟨q3, kk⟩ := kk
    refine r_ia dX5_seek_39 rfl q3 ?_
    refine r_cge dX5_seek_40 rfl (fun c40_2 => ?_) (fun c40_2 => ?_)
    · have kk := kk.1 c40_2
      show tR _ _ _ _ [some (.ref 80), some (.int l1), some (.int l2), some (.int l3), some (.int v4), none] _ _ _ _
      exact r_eV (r' := K v4 T) (by rw [x_pl_seek1_27]; rw [if_pos c40_2]) ((hk v4 T kk))
    · have kk := kk.2 c40_2
      refine r_p dX5_seek_43 rfl rfl ?_
      refine r_get dX5_seek_44 fkX5_52 rfl rfl ?_
      refine r_p dX5_seek_47 rfl rfl ?_
      obtain ⟨q4, kk⟩ := kk
      refine r_aa dX5_seek_48 rfl (by decide) q4 (rf99 q4) ?_
      refine r_p dX5_seek_49 rfl rfl ?_
      obtain ⟨q5, kk⟩ := kk
      refine r_ia dX5_seek_50 q5 q2 ?_
      refine r_p dX5_seek_51 rfl rfl ?_
      refine r_p dX5_seek_53 rfl rfl ?_
      refine r_ci (x := 1) dX5_seek_54 rfl ?_
      refine r_p dX5_seek_55 rfl rfl ?_
      refine r_ine dX5_seek_56 rfl (fun c56_3 => ?_) (fun c56_3 => ?_)
      · have kk := kk.2 c56_3
        refine r_p dX5_seek_62 rfl rfl ?_
        refine r_get dX5_seek_63 fkX5_11 rfl rfl ?_
        refine r_p dX5_seek_66 rfl rfl ?_
        refine r_p dX5_seek_67 rfl rfl ?_
        refine r_p dX5_seek_69 rfl rfl ?_
        obtain ⟨q6, kk⟩ := kk
        refine r_aa dX5_seek_70 rfl (by decide) q6 (rf81 q6) ?_
        refine r_p dX5_seek_71 rfl rfl ?_
        refine r_p dX5_seek_73 rfl rfl ?_
        refine r_p dX5_seek_74 rfl rfl ?_
        obtain ⟨q7, kk⟩ := kk
        refine r_get dX5_seek_76 fkX5_100 q7 rfl ?_
        refine r_p dX5_seek_79 rfl rfl ?_
        refine r_p dX5_seek_80 rfl rfl ?_
        refine r_get dX5_seek_81 fkX5_44 rfl rfl ?_
        refine r_p dX5_seek_84 rfl rfl ?_
        refine r_ci (x := 1) dX5_seek_85 rfl ?_
        refine r_p dX5_seek_86 rfl rfl ?_
        obtain ⟨q8, kk⟩ := kk
        refine r_ia dX5_seek_87 rfl q8 ?_
        refine r_p dX5_seek_88 rfl rfl ?_
        refine r_p dX5_seek_89 rfl rfl ?_
        refine r_get dX5_seek_90 fkX5_160 rfl rfl ?_
        refine r_cge dX5_seek_93 rfl (fun c93_4 => ?_) (fun c93_4 => ?_)
        · have kk := kk.1 c93_4
          refine r_inc (y := 1) dX5_seek_185 rfl rfl rfl ?_
          refine r_go dX5_seek_188 rfl ?_
          show tR _ _ _ _ [some (.ref 80), some (.int l1), some (.int l2), some (.int l3), some (.int (v4 + 1)), some (.ref (123 + 4 * (l3 + v4 : Int32).toNatClampNeg))] _ _ _ _
          exact r_eV (r' := x_pl_seek1_27 l1 l2 l3 K f (v4 + 1) T) (by rw [x_pl_seek1_27]; rw [if_neg c40_2, if_neg c56_3, if_pos c93_4]) (r_le (le_s (le_s (le_s (le_s (le_s (le_n (le_0))))))) (ih (v4 + 1) T kk))
        · have kk := kk.2 c93_4
          refine r_p dX5_seek_96 rfl rfl ?_
          refine r_get dX5_seek_97 fkX5_31 rfl rfl ?_
          refine r_p dX5_seek_100 rfl rfl ?_
          refine r_aa dX5_seek_101 rfl (by decide) q2 (rf93 q2) ?_
          refine r_p dX5_seek_102 rfl rfl ?_
          refine r_get dX5_seek_104 fkX5_110 q7 rfl ?_
          obtain ⟨q9, kk⟩ := kk
          obtain ⟨q10, kk⟩ := kk
          refine r_cv (d1 := 1) dX5_seek_107 cvX5_114 rfl rfl q10 rfl (Nat.le_of_ble_eq_true rfl) (Nat.le_of_ble_eq_true rfl) (Nat.le_of_ble_eq_true rfl) (c_ta_hasRoom (507 + 5 * (l1 : Int32).toNatClampNeg) ((123 + 4 * (l3 + v4 : Int32).toNatClampNeg) + 3) q9) ?_
          refine r_ieq dX5_seek_110 rfl (fun c110_5 => ?_) (fun c110_5 => ?_)
          · have kk := kk.1 c110_5
            refine r_inc (y := 1) dX5_seek_185 rfl rfl rfl ?_
            refine r_go dX5_seek_188 rfl ?_
            show tR _ _ _ _ [some (.ref 80), some (.int l1), some (.int l2), some (.int l3), some (.int (v4 + 1)), some (.ref (123 + 4 * (l3 + v4 : Int32).toNatClampNeg))] _ _ _ _
            exact r_eV (r' := x_pl_seek1_27 l1 l2 l3 K f (v4 + 1) T) (by rw [x_pl_seek1_27]; rw [if_neg c40_2, if_neg c56_3, if_neg c93_4, if_pos c110_5]) (r_le (le_s (le_s (le_s (le_s (le_s (le_n (le_0))))))) (ih (v4 + 1) T kk))
          · have kk := kk.2 c110_5
            refine r_p dX5_seek_113 rfl rfl ?_
            refine r_p dX5_seek_114 rfl rfl ?_
            refine r_p dX5_seek_115 rfl rfl ?_
            refine r_p dX5_seek_116 rfl rfl ?_
            refine r_p dX5_seek_118 rfl rfl ?_
            obtain ⟨q11, kk⟩ := kk
            refine r_cv (d1 := 4) dX5_seek_119 cvX5_186 rfl rfl rfl rfl (Nat.le_of_ble_eq_true rfl) (Nat.le_of_ble_eq_true rfl) (Nat.le_of_ble_eq_true rfl) (c_pl_leavesOpen l1 (l3 + v4) q11) ?_
            refine r_ieq dX5_seek_122 rfl (fun c122_6 => ?_) (fun c122_6 => ?_)
            · have kk := kk.1 c122_6
              refine r_inc (y := 1) dX5_seek_185 rfl rfl rfl ?_
              refine r_go dX5_seek_188 rfl ?_
              show tR _ _ _ _ [some (.ref 80), some (.int l1), some (.int l2), some (.int l3), some (.int (v4 + 1)), some (.ref (123 + 4 * (l3 + v4 : Int32).toNatClampNeg))] _ _ _ _
              exact r_eV (r' := x_pl_seek1_27 l1 l2 l3 K f (v4 + 1) ((x_pl_leavesOpen T l1 (l3 + v4)).2)) (by rw [x_pl_seek1_27]; rw [if_neg c40_2, if_neg c56_3, if_neg c93_4, if_neg c110_5, if_pos c122_6]) (r_le (le_s (le_s (le_s (le_s (le_s (le_n (le_0))))))) (ih (v4 + 1) ((x_pl_leavesOpen T l1 (l3 + v4)).2) kk))
            · have kk := kk.2 c122_6
              refine r_p dX5_seek_125 rfl rfl ?_
              refine r_get dX5_seek_126 fkX5_38 rfl rfl ?_
              refine r_p dX5_seek_129 rfl rfl ?_
              refine r_p dX5_seek_130 rfl rfl ?_
              refine r_p dX5_seek_131 rfl rfl ?_
              refine r_p dX5_seek_133 rfl rfl ?_
              refine r_ias dX5_seek_134 rfl q2 ?_
              refine r_p dX5_seek_135 rfl rfl ?_
              refine r_ci (x := 1) dX5_seek_136 rfl ?_
              refine r_p dX5_seek_137 rfl rfl ?_
              refine r_p dX5_seek_138 rfl rfl ?_
              refine r_get dX5_seek_139 fkX5_172 rfl rfl ?_
              obtain ⟨KJ1, hKJ1⟩ : ∃ q : St → St, q = (fun (T301 : St) => x_pl_seek1_27 l1 l2 l3 K f (v4 + 1) (x_pl_seek0 T301 (l1 + 1) (l2 + (T301.1 (123 + 4 * (l3 + v4 : Int32).toNatClampNeg) 5)))) := ⟨_, rfl⟩
              obtain ⟨OJ1, hOJ1⟩ : ∃ q : St → Prop, q = (fun (T301 : St) => (sh (123 + 4 * (l3 + v4 : Int32).toNatClampNeg) = .inr 10) ∧ (ok_pl_seek0 T301 (l1 + 1) (l2 + (T301.1 (123 + 4 * (l3 + v4 : Int32).toNatClampNeg) 5))) ∧ ok_pl_seek1_27 l1 l2 l3 Kk f (v4 + 1) (x_pl_seek0 T301 (l1 + 1) (l2 + (T301.1 (123 + 4 * (l3 + v4 : Int32).toNatClampNeg) 5)))) := ⟨_, rfl⟩
              rw [← hOJ1] at kk
              simp only [jn] at kk
              have hJ1 : ∀ (T301 : St), OJ1 T301 → tR X 5 mX5_seek 171 [some (.ref 80), some (.int l1), some (.int l2), some (.int l3), some (.int v4), some (.ref (123 + 4 * (l3 + v4 : Int32).toNatClampNeg))] [] T301 none (KJ1 T301) := by
                intro T301 kk
                rw [hOJ1] at kk
                try dsimp only at kk
                rw [hKJ1]
                refine r_p dX5_seek_171 rfl rfl ?_
                refine r_p dX5_seek_172 rfl rfl ?_
                refine r_ci (x := 1) dX5_seek_173 rfl ?_
                refine r_p dX5_seek_174 rfl rfl ?_
                refine r_p dX5_seek_175 rfl rfl ?_
                refine r_p dX5_seek_176 rfl rfl ?_
                obtain ⟨q15, kk⟩ := kk
                refine r_get dX5_seek_178 fkX5_100 q15 rfl ?_
                refine r_p dX5_seek_181 rfl rfl ?_
                obtain ⟨q16, kk⟩ := kk
                refine r_cv (d1 := 5) dX5_seek_182 cvX5_169 rfl rfl rfl rfl (Nat.le_of_ble_eq_true rfl) (Nat.le_of_ble_eq_true rfl) (Nat.le_of_ble_eq_true rfl) (c_pl_seek0 (l1 + 1) (l2 + (T301.1 (123 + 4 * (l3 + v4 : Int32).toNatClampNeg) 5)) q16) ?_
                refine r_inc (y := 1) dX5_seek_185 rfl rfl rfl ?_
                refine r_go dX5_seek_188 rfl ?_
                show tR _ _ _ _ [some (.ref 80), some (.int l1), some (.int l2), some (.int l3), some (.int (v4 + 1)), some (.ref (123 + 4 * (l3 + v4 : Int32).toNatClampNeg))] _ _ _ _
                exact r_eV (r' := x_pl_seek1_27 l1 l2 l3 K f (v4 + 1) (x_pl_seek0 T301 (l1 + 1) (l2 + (T301.1 (123 + 4 * (l3 + v4 : Int32).toNatClampNeg) 5)))) rfl (r_le (le_s (le_s (le_s (le_s (le_s (le_n (le_0))))))) (ih (v4 + 1) (x_pl_seek0 T301 (l1 + 1) (l2 + (T301.1 (123 + 4 * (l3 + v4 : Int32).toNatClampNeg) 5))) kk))
              refine r_eV (r' := jn (fun (KJ1 : St → St) => if ((sA ((x_pl_leavesOpen T l1 (l3 + v4)).2) 95 (l1 : Int32).toNatClampNeg (l3 + v4)).1 80 12) ≤ (l1 + 1) then (KJ1 (sA ((x_pl_leavesOpen T l1 (l3 + v4)).2) 95 (l1 : Int32).toNatClampNeg (l3 + v4))) else (fun (T2 : St) => KJ1 T2) (x_ta_add (sA ((x_pl_leavesOpen T l1 (l3 + v4)).2) 95 (l1 : Int32).toNatClampNeg (l3 + v4)) (507 + 5 * (l1 + 1 : Int32).toNatClampNeg) (507 + 5 * (l1 : Int32).toNatClampNeg) ((123 + 4 * (l3 + v4 : Int32).toNatClampNeg) + 3) ((sA ((x_pl_leavesOpen T l1 (l3 + v4)).2) 95 (l1 : Int32).toNatClampNeg (l3 + v4)).2.1 3))) KJ1) (by rw [hKJ1]; rw [x_pl_seek1_27]; rw [if_neg c40_2, if_neg c56_3, if_neg c93_4, if_neg c110_5, if_neg c122_6]) ?_
              refine r_cge dX5_seek_142 rfl (fun c142_8 => ?_) (fun c142_8 => ?_)
              · have kk := kk.1 c142_8
                show tR _ _ _ _ [some (.ref 80), some (.int l1), some (.int l2), some (.int l3), some (.int v4), some (.ref (123 + 4 * (l3 + v4 : Int32).toNatClampNeg))] [] _ _ _
                exact r_eV (r' := KJ1 (sA ((x_pl_leavesOpen T l1 (l3 + v4)).2) 95 (l1 : Int32).toNatClampNeg (l3 + v4))) (by simp only [jn]; rw [if_pos c142_8]) ((hJ1 (sA ((x_pl_leavesOpen T l1 (l3 + v4)).2) 95 (l1 : Int32).toNatClampNeg (l3 + v4)) kk))
              · have kk := kk.2 c142_8
                refine r_p dX5_seek_145 rfl rfl ?_
                refine r_get dX5_seek_146 fkX5_31 rfl rfl ?_
                refine r_p dX5_seek_149 rfl rfl ?_
                refine r_ci (x := 1) dX5_seek_150 rfl ?_
                refine r_p dX5_seek_151 rfl rfl ?_
                obtain ⟨q17, kk⟩ := kk
                refine r_aa dX5_seek_152 rfl (by decide) q17 (rf93 q17) ?_
                refine r_p dX5_seek_153 rfl rfl ?_
                refine r_get dX5_seek_154 fkX5_31 rfl rfl ?_
                refine r_p dX5_seek_157 rfl rfl ?_
                refine r_aa dX5_seek_158 rfl (by decide) q2 (rf93 q2) ?_
                refine r_p dX5_seek_159 rfl rfl ?_
                refine r_get dX5_seek_161 fkX5_110 q7 rfl ?_
                refine r_p dX5_seek_164 rfl rfl ?_
                refine r_get dX5_seek_165 fkX5_69 rfl rfl ?_
                obtain ⟨q18, kk⟩ := kk
                obtain ⟨q19, kk⟩ := kk
                refine r_cv (d1 := 2) dX5_seek_168 cvX5_179 rfl rfl q19 rfl (Nat.le_of_ble_eq_true rfl) (Nat.le_of_ble_eq_true rfl) (Nat.le_of_ble_eq_true rfl) (c_ta_add (507 + 5 * (l1 + 1 : Int32).toNatClampNeg) (507 + 5 * (l1 : Int32).toNatClampNeg) ((123 + 4 * (l3 + v4 : Int32).toNatClampNeg) + 3) ((sA ((x_pl_leavesOpen T l1 (l3 + v4)).2) 95 (l1 : Int32).toNatClampNeg (l3 + v4)).2.1 3) q18) ?_
                refine r_eV (r' := (fun (T2 : St) => KJ1 T2) (x_ta_add (sA ((x_pl_leavesOpen T l1 (l3 + v4)).2) 95 (l1 : Int32).toNatClampNeg (l3 + v4)) (507 + 5 * (l1 + 1 : Int32).toNatClampNeg) (507 + 5 * (l1 : Int32).toNatClampNeg) ((123 + 4 * (l3 + v4 : Int32).toNatClampNeg) + 3) ((sA ((x_pl_leavesOpen T l1 (l3 + v4)).2) 95 (l1 : Int32).toNatClampNeg (l3 + v4)).2.1 3))) (by simp only [jn]; rw [if_neg c142_8]) ?_
                generalize x_ta_add (sA ((x_pl_leavesOpen T l1 (l3 + v4)).2) 95 (l1 : Int32).toNatClampNeg (l3 + v4)) (507 + 5 * (l1 + 1 : Int32).toNatClampNeg) (507 + 5 * (l1 : Int32).toNatClampNeg) ((123 + 4 * (l3 + v4 : Int32).toNatClampNeg) + 3) ((sA ((x_pl_leavesOpen T l1 (l3 + v4)).2) 95 (l1 : Int32).toNatClampNeg (l3 + v4)).2.1 3) = T2 at kk ⊢
                try dsimp only at kk
                show tR _ _ _ _ [some (.ref 80), some (.int l1), some (.int l2), some (.int l3), some (.int v4), some (.ref (123 + 4 * (l3 + v4 : Int32).toNatClampNeg))] [] _ _ _
                exact r_eV (r' := KJ1 T2) rfl ((hJ1 T2 kk))
      · have kk := kk.1 c56_3
        refine r_go dX5_seek_59 rfl ?_
        refine r_inc (y := 1) dX5_seek_185 rfl rfl rfl ?_
        refine r_go dX5_seek_188 rfl ?_
        show tR _ _ _ _ [some (.ref 80), some (.int l1), some (.int l2), some (.int l3), some (.int (v4 + 1)), none] _ _ _ _
        exact r_eV (r' := x_pl_seek1_27 l1 l2 l3 K f (v4 + 1) T) (by rw [x_pl_seek1_27]; rw [if_neg c40_2, if_pos c56_3]) ((ih (v4 + 1) T kk))
def x_pl_seek1 (T : St) (p0 : Int32) (p1 : Int32) : St := if p0 < (T.1 80 12) then (x_pl_seek1_27 p0 p1 ((T.2.2.1 94 (p0 : Int32).toNatClampNeg) * 12) (fun (w1_4 : Int32) (T201 : St) => T201) 1000 0 T) else (x_pl_keepPicked T p1)
def ok_pl_seek1 (T : St) (p0 : Int32) (p1 : Int32) : Prop := ((p0 < (T.1 80 12) → (vp_in p0 4) ∧ ok_pl_seek1_27 p0 p1 ((T.2.2.1 94 (p0 : Int32).toNatClampNeg) * 12) (fun (w1_4 : Int32) (T201 : St) => True) 1000 0 T) ∧ (¬ p0 < (T.1 80 12) → (ok_pl_keepPicked T p1) ∧ True))
theorem c_pl_seek1 {X : Nat × (Nat → Int32)} {T : St} (p0 : Int32) (p1 : Int32) (kk : ok_pl_seek1 T p0 p1) : tC X 6 mX5_seek [.ref 80, .int p0, .int p1] T none (x_pl_seek1 T p0 p1) := by
  unfold ok_pl_seek1 at kk
  refine tC_of ?_
  refine r_p dX5_seek_0 rfl rfl ?_
  refine r_p dX5_seek_1 rfl rfl ?_
  refine r_get dX5_seek_2 fkX5_172 rfl rfl ?_
  refine r_clt dX5_seek_5 rfl (fun c5_1 => ?_) (fun c5_1 => ?_)
  · have kk := kk.1 c5_1
    refine r_p dX5_seek_14 rfl rfl ?_
    refine r_get dX5_seek_15 fkX5_35 rfl rfl ?_
    refine r_p dX5_seek_18 rfl rfl ?_
    obtain ⟨q1, kk⟩ := kk
    refine r_ia dX5_seek_19 rfl q1 ?_
    refine r_cb (x := 12) dX5_seek_20 rfl ?_
    refine r_p dX5_seek_22 rfl rfl ?_
    refine r_p dX5_seek_23 rfl rfl ?_
    refine r_ci (x := 0) dX5_seek_24 rfl ?_
    refine r_p dX5_seek_25 rfl rfl ?_
    show tR _ _ _ _ [some (.ref 80), some (.int p0), some (.int p1), some (.int ((T.2.2.1 94 (p0 : Int32).toNatClampNeg) * 12)), some (.int 0), none] _ _ _ _
    refine r_eV (r' := x_pl_seek1_27 p0 p1 ((T.2.2.1 94 (p0 : Int32).toNatClampNeg) * 12) (fun (w1_4 : Int32) (T201 : St) => T201) 1000 0 T) (by unfold x_pl_seek1; rw [if_pos c5_1]) ((c_pl_seek1_27 p0 p1 ((T.2.2.1 94 (p0 : Int32).toNatClampNeg) * 12) (fun w1_4 T201 kk => ?_) 1000 0 T kk))
    · exact r_eV (r' := T201) rfl (r_rv dX5_seek_191 rfl rfl rfl)
  · have kk := kk.2 c5_1
    refine r_p dX5_seek_8 rfl rfl ?_
    refine r_p dX5_seek_9 rfl rfl ?_
    obtain ⟨q20, kk⟩ := kk
    refine r_cv (d1 := 1) dX5_seek_10 cvX5_183 rfl rfl rfl rfl (Nat.le_of_ble_eq_true rfl) (Nat.le_of_ble_eq_true rfl) (Nat.le_of_ble_eq_true rfl) (c_pl_keepPicked p1 q20) ?_
    exact r_eV (r' := (x_pl_keepPicked T p1)) (by unfold x_pl_seek1; rw [if_neg c5_1]) (r_rv dX5_seek_13 rfl rfl rfl)
