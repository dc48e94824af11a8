def x_x_restore (T : St) (p0 : Int32) : Int32 × St := if p0 < 0 then ((-1000001), T) else (if p0 < 2 then (if (x_bk_isRead T (16 + 15 * (p0 : Int32).toNatClampNeg)) = 0 then ((-1000002), T) else (1, x_x_changed (x_bk_take T (T.2.1 0) (16 + 15 * (p0 : Int32).toNatClampNeg)))) else ((-1000001), T))
def ok_x_restore (T : St) (p0 : Int32) : Prop := (¬ p0 < 0 → (p0 < 2 → (vp_in p0 2) ∧ (ok_bk_isRead T (16 + 15 * (p0 : Int32).toNatClampNeg)) ∧ (sh (16 + 15 * (p0 : Int32).toNatClampNeg) = .inr 1) ∧ (¬ (x_bk_isRead T (16 + 15 * (p0 : Int32).toNatClampNeg)) = 0 → (ok_bk_take T (T.2.1 0) (16 + 15 * (p0 : Int32).toNatClampNeg)) ∧ (sh (T.2.1 0) = .inr 1) ∧ (ok_x_changed (x_bk_take T (T.2.1 0) (16 + 15 * (p0 : Int32).toNatClampNeg))) ∧ True)))
theorem c_x_restore {X : Nat × (Nat → Int32)} {T : St} (p0 : Int32) (kk : ok_x_restore T p0) : tC X 5 mX11_restore [.ref 0, .int p0] T (some (.int (x_x_restore T p0).1)) ((x_x_restore T p0).2) := by
  unfold ok_x_restore at kk
  refine tC_of ?_
  refine r_p dX11_restore_0 rfl rfl ?_
  refine r_ilt dX11_restore_1 rfl (fun c1_1 => ?_) (fun c1_1 => ?_)
  · refine r_k dX11_restore_9 kkX11_82 ?_
    exact r_eI (r' := ((-1000001), T)) (by unfold x_x_restore; rw [if_pos c1_1]) (r_ri dX11_restore_11 rfl rfl rfl rfl)
  · have kk := kk c1_1
    refine r_p dX11_restore_4 rfl rfl ?_
    refine r_ci (x := 2) dX11_restore_5 rfl ?_
    refine r_clt dX11_restore_6 rfl (fun c6_2 => ?_) (fun c6_2 => ?_)
    · have kk := kk c6_2
      refine r_p dX11_restore_12 rfl rfl ?_
      refine r_get dX11_restore_13 fkX11_26 rfl rfl ?_
      refine r_p dX11_restore_16 rfl rfl ?_
      obtain ⟨q1, kk⟩ := kk
      refine r_aa dX11_restore_17 rfl (by decide) q1 (rf15 q1) ?_
      obtain ⟨q2, kk⟩ := kk
      obtain ⟨q3, kk⟩ := kk
      refine r_cv (d1 := 1) dX11_restore_18 cvX11_189 rfl rfl q3 rfl (Nat.le_of_ble_eq_true rfl) (Nat.le_of_ble_eq_true rfl) (Nat.le_of_ble_eq_true rfl) (c_bk_isRead (16 + 15 * (p0 : Int32).toNatClampNeg) q2) ?_
      refine r_ine dX11_restore_21 rfl (fun c21_3 => ?_) (fun c21_3 => ?_)
      · have kk := kk c21_3
        refine r_p dX11_restore_27 rfl rfl ?_
        refine r_get dX11_restore_28 fkX11_30 rfl rfl ?_
        refine r_p dX11_restore_31 rfl rfl ?_
        refine r_get dX11_restore_32 fkX11_26 rfl rfl ?_
        refine r_p dX11_restore_35 rfl rfl ?_
        refine r_aa dX11_restore_36 rfl (by decide) q1 (rf15 q1) ?_
        obtain ⟨q4, kk⟩ := kk
        obtain ⟨q5, kk⟩ := kk
        refine r_cv (d1 := 1) dX11_restore_37 cvX11_325 rfl rfl q5 rfl (Nat.le_of_ble_eq_true rfl) (Nat.le_of_ble_eq_true rfl) (Nat.le_of_ble_eq_true rfl) (c_bk_take (T.2.1 0) (16 + 15 * (p0 : Int32).toNatClampNeg) q4) ?_
        refine r_p dX11_restore_40 rfl rfl ?_
        obtain ⟨q6, kk⟩ := kk
        refine r_cv (d1 := 4) dX11_restore_41 cvX11_146 rfl rfl rfl rfl (Nat.le_of_ble_eq_true rfl) (Nat.le_of_ble_eq_true rfl) (Nat.le_of_ble_eq_true rfl) (c_x_changed  q6) ?_
        refine r_ci (x := 1) dX11_restore_44 rfl ?_
        exact r_eI (r' := (1, x_x_changed (x_bk_take T (T.2.1 0) (16 + 15 * (p0 : Int32).toNatClampNeg)))) (by unfold x_x_restore; rw [if_neg c1_1, if_pos c6_2, if_neg c21_3]) (r_ri dX11_restore_45 rfl rfl rfl rfl)
      · refine r_k dX11_restore_24 kkX11_193 ?_
        exact r_eI (r' := ((-1000002), T)) (by unfold x_x_restore; rw [if_neg c1_1, if_pos c6_2, if_pos c21_3]) (r_ri dX11_restore_26 rfl rfl rfl rfl)
    · refine r_k dX11_restore_9 kkX11_82 ?_
      exact r_eI (r' := ((-1000001), T)) (by unfold x_x_restore; rw [if_neg c1_1, if_neg c6_2]) (r_ri dX11_restore_11 rfl rfl rfl rfl)
def x_jd_firstLack_40 (l1 : Nat) (l2 : Nat) (l3 : Nat) (l4 : Int32) (K : Int32 → St → Int32 × St) : Nat → Int32 → St → Int32 × St
  | 0, _, T => (0, T)
  | f + 1, v5, T => if 60 ≤ v5 then (K v5 T) else (jn (fun (KJ1 : Int32 → Int32 × St) => if v5 = l4 then (KJ1 1) else (KJ1 0)) (fun (j1_s2 : Int32) => if (x_jd_lackAt T (1 <<< ((v5 : Int32).toInt64 &&& 63)) j1_s2) = 0 then (x_jd_firstLack_40 l1 l2 l3 l4 K f (v5 + 1) T) else ((1000 + (10 * v5)) + (x_jd_lackAt T (1 <<< ((v5 : Int32).toInt64 &&& 63)) j1_s2), T)))
def ok_jd_firstLack_40 (l1 : Nat) (l2 : Nat) (l3 : Nat) (l4 : Int32) (Kk : Int32 → St → Prop) : Nat → Int32 → St → Prop
  | 0, _, _ => False
  | f + 1, v5, T => ((60 ≤ v5 → Kk v5 T) ∧ (¬ 60 ≤ v5 → jn (fun (OJ1 : Int32 → Prop) => ((v5 = l4 → OJ1 1) ∧ (¬ v5 = l4 → OJ1 0))) (fun (j1_s2 : Int32) => (ok_jd_lackAt T (1 <<< ((v5 : Int32).toInt64 &&& 63)) j1_s2) ∧ ((x_jd_lackAt T (1 <<< ((v5 : Int32).toInt64 &&& 63)) j1_s2) = 0 → ok_jd_firstLack_40 l1 l2 l3 l4 Kk f (v5 + 1) T))))
theorem c_jd_firstLack_40 {X : Nat × (Nat → Int32)} (l1 : Nat) (l2 : Nat) (l3 : Nat) (l4 : Int32) {K : Int32 → St → Int32 × St} {Kk : Int32 → St → Prop} (hk : ∀ (v5 : Int32) (T : St), Kk v5 T → tR X 3 mX2_firstLack 93 [some (.ref 527), some (.ref l1), some (.ref l2), some (.ref l3), some (.int l4), some (.int v5), none] [] T (some (.int (K v5 T).1)) ((K v5 T).2)) : ∀ (f : Nat) (v5 : Int32) (T : St), ok_jd_firstLack_40 l1 l2 l3 l4 Kk f v5 T → tR X 3 mX2_firstLack 40 [some (.ref 527), some (.ref l1), some (.ref l2), some (.ref l3), some (.int l4), some (.int v5), none] [] T (some (.int (x_jd_firstLack_40 l1 l2 l3 l4 K f v5 T).1)) ((x_jd_firstLack_40 l1 l2 l3 l4 K f v5 T).2) := by
  intro f
  induction f with
  | zero => intro v5 T kk; exact kk.elim
  | succ f ih =>
    intro v5 T kk
    rw [ok_jd_firstLack_40] at kk
    refine r_p dX2_firstLack_40 rfl rfl ?_
    refine r_cb (x := 60) dX2_firstLack_42 rfl ?_
    refine r_cge dX2_firstLack_44 rfl (fun c44_1 => ?_) (fun c44_1 => ?_)
    · have kk := kk.1 c44_1
      show tR _ _ _ _ [some (.ref 527), some (.ref l1), some (.ref l2), some (.ref l3), some (.int l4), some (.int v5), none] _ _ _ _
      exact r_eI (r' := K v5 T) (by rw [x_jd_firstLack_40]; rw [if_pos c44_1]) ((hk v5 T kk))
    · have kk := kk.2 c44_1
      refine r_p dX2_firstLack_47 rfl rfl ?_
      refine r_cl (x := 1) dX2_firstLack_48 rfl ?_
      refine r_p dX2_firstLack_49 rfl rfl ?_
      refine r_p dX2_firstLack_51 rfl rfl ?_
      refine r_p dX2_firstLack_52 rfl rfl ?_
      refine r_p dX2_firstLack_54 rfl rfl ?_
      obtain ⟨KJ1, hKJ1⟩ : ∃ q : Int32 → Int32 × St, q = (fun (j1_s2 : Int32) => if (x_jd_lackAt T (1 <<< ((v5 : Int32).toInt64 &&& 63)) j1_s2) = 0 then (x_jd_firstLack_40 l1 l2 l3 l4 K f (v5 + 1) T) else ((1000 + (10 * v5)) + (x_jd_lackAt T (1 <<< ((v5 : Int32).toInt64 &&& 63)) j1_s2), T)) := ⟨_, rfl⟩
      obtain ⟨OJ1, hOJ1⟩ : ∃ q : Int32 → Prop, q = (fun (j1_s2 : Int32) => (ok_jd_lackAt T (1 <<< ((v5 : Int32).toInt64 &&& 63)) j1_s2) ∧ ((x_jd_lackAt T (1 <<< ((v5 : Int32).toInt64 &&& 63)) j1_s2) = 0 → ok_jd_firstLack_40 l1 l2 l3 l4 Kk f (v5 + 1) T)) := ⟨_, rfl⟩
      rw [← hOJ1] at kk
      simp only [jn] at kk
      have hJ1 : ∀ (j1_s2 : Int32), OJ1 j1_s2 → tR X 3 mX2_firstLack 64 [some (.ref 527), some (.ref l1), some (.ref l2), some (.ref l3), some (.int l4), some (.int v5), none] [.int j1_s2, .long (1 <<< ((v5 : Int32).toInt64 &&& 63)), .ref 527] T (some (.int (KJ1 j1_s2).1)) ((KJ1 j1_s2).2) := by
        intro j1_s2 kk
        rw [hOJ1] at kk
        try dsimp only at kk
        rw [hKJ1]
        obtain ⟨q8, kk⟩ := kk
        refine r_cv (d1 := 1) dX2_firstLack_64 cvX2_95 rfl rfl rfl rfl (Nat.le_of_ble_eq_true rfl) (Nat.le_of_ble_eq_true rfl) (Nat.le_of_ble_eq_true rfl) (c_jd_lackAt (1 <<< ((v5 : Int32).toInt64 &&& 63)) j1_s2 q8) ?_
        refine r_p dX2_firstLack_67 rfl rfl ?_
        refine r_p dX2_firstLack_69 rfl rfl ?_
        refine r_ieq dX2_firstLack_71 rfl (fun c71_3 => ?_) (fun c71_3 => ?_)
        · have kk := kk c71_3
          refine r_inc (y := 1) dX2_firstLack_87 rfl rfl rfl ?_
          refine r_go dX2_firstLack_90 rfl ?_
          show tR _ _ _ _ [some (.ref 527), some (.ref l1), some (.ref l2), some (.ref l3), some (.int l4), some (.int (v5 + 1)), some (.int (x_jd_lackAt T (1 <<< ((v5 : Int32).toInt64 &&& 63)) j1_s2))] _ _ _ _
          exact r_eI (r' := x_jd_firstLack_40 l1 l2 l3 l4 K f (v5 + 1) T) (by first | rw [if_pos c71_3] | (dsimp only; rw [if_pos c71_3])) (r_le (le_s (le_s (le_s (le_s (le_s (le_s (le_n (le_0)))))))) (ih (v5 + 1) T kk))
        · refine r_csi (x := 1000) dX2_firstLack_74 rfl ?_
          refine r_cb (x := 10) dX2_firstLack_77 rfl ?_
          refine r_p dX2_firstLack_79 rfl rfl ?_
          refine r_p dX2_firstLack_81 rfl rfl ?_
          refine r_p dX2_firstLack_82 rfl rfl ?_
          refine r_p dX2_firstLack_83 rfl rfl ?_
          refine r_p dX2_firstLack_85 rfl rfl ?_
          exact r_eI (r' := ((1000 + (10 * v5)) + (x_jd_lackAt T (1 <<< ((v5 : Int32).toInt64 &&& 63)) j1_s2), T)) (by first | rw [if_neg c71_3] | (dsimp only; rw [if_neg c71_3])) (r_ri dX2_firstLack_86 rfl rfl rfl rfl)
      refine r_eI (r' := jn (fun (KJ1 : Int32 → Int32 × St) => if v5 = l4 then (KJ1 1) else (KJ1 0)) KJ1) (by rw [hKJ1]; rw [x_jd_firstLack_40]; rw [if_neg c44_1]) ?_
      refine r_cne dX2_firstLack_56 rfl (fun c56_4 => ?_) (fun c56_4 => ?_)
      · have kk := kk.2 c56_4
        refine r_ci (x := 0) dX2_firstLack_63 rfl ?_
        show tR _ _ _ _ [some (.ref 527), some (.ref l1), some (.ref l2), some (.ref l3), some (.int l4), some (.int v5), none] [.int 0, .long (1 <<< ((v5 : Int32).toInt64 &&& 63)), .ref 527] _ _ _
        exact r_eI (r' := KJ1 0) (by simp only [jn]; rw [if_neg c56_4]) ((hJ1 0 kk))
      · have kk := kk.1 c56_4
        refine r_ci (x := 1) dX2_firstLack_59 rfl ?_
        refine r_go dX2_firstLack_60 rfl ?_
        show tR _ _ _ _ [some (.ref 527), some (.ref l1), some (.ref l2), some (.ref l3), some (.int l4), some (.int v5), none] [.int 1, .long (1 <<< ((v5 : Int32).toInt64 &&& 63)), .ref 527] _ _ _
        exact r_eI (r' := KJ1 1) (by simp only [jn]; rw [if_pos c56_4]) ((hJ1 1 kk))
def x_jd_firstLack (T : St) (p0 : Nat) (p1 : Nat) (p2 : Nat) : Int32 × St := x_jd_firstLack_40 p0 p1 p2 (x_ov_firstLack (x_ov_want (x_jd_lay T p0 p1 p2) p0 p2) ((x_ov_want (x_jd_lay T p0 p1 p2) p0 p2).2.2.1 (p0 + 1) (3 : Int32).toNatClampNeg) ((x_ov_want (x_jd_lay T p0 p1 p2) p0 p2).2.2.1 (p0 + 1) (4 : Int32).toNatClampNeg)) (fun (w1_5 : Int32) (T201 : St) => (0, T201)) 1000 0 (x_ov_want (x_jd_lay T p0 p1 p2) p0 p2)
def ok_jd_firstLack (T : St) (p0 : Nat) (p1 : Nat) (p2 : Nat) : Prop := (ok_jd_lay T p0 p1 p2) ∧ (ok_ov_want (x_jd_lay T p0 p1 p2) p0 p2) ∧ (sh p0 = .inr 1) ∧ (sh (p0 + 1) = .inl (0, 7)) ∧ (vp_in 3 7) ∧ (vp_in 4 7) ∧ (ok_ov_firstLack (x_ov_want (x_jd_lay T p0 p1 p2) p0 p2) ((x_ov_want (x_jd_lay T p0 p1 p2) p0 p2).2.2.1 (p0 + 1) (3 : Int32).toNatClampNeg) ((x_ov_want (x_jd_lay T p0 p1 p2) p0 p2).2.2.1 (p0 + 1) (4 : Int32).toNatClampNeg)) ∧ ok_jd_firstLack_40 p0 p1 p2 (x_ov_firstLack (x_ov_want (x_jd_lay T p0 p1 p2) p0 p2) ((x_ov_want (x_jd_lay T p0 p1 p2) p0 p2).2.2.1 (p0 + 1) (3 : Int32).toNatClampNeg) ((x_ov_want (x_jd_lay T p0 p1 p2) p0 p2).2.2.1 (p0 + 1) (4 : Int32).toNatClampNeg)) (fun (w1_5 : Int32) (T201 : St) => True) 1000 0 (x_ov_want (x_jd_lay T p0 p1 p2) p0 p2)
theorem c_jd_firstLack {X : Nat × (Nat → Int32)} {T : St} (p0 : Nat) (p1 : Nat) (p2 : Nat) (kk : ok_jd_firstLack T p0 p1 p2) : tC X 4 mX2_firstLack [.ref 527, .ref p0, .ref p1, .ref p2] T (some (.int (x_jd_firstLack T p0 p1 p2).1)) ((x_jd_firstLack T p0 p1 p2).2) := by
  unfold ok_jd_firstLack at kk
  refine tC_of ?_
  refine r_p dX2_firstLack_0 rfl rfl ?_
  refine r_p dX2_firstLack_1 rfl rfl ?_
  refine r_p dX2_firstLack_2 rfl rfl ?_
  refine r_p dX2_firstLack_3 rfl rfl ?_
  obtain ⟨q1, kk⟩ := kk
  refine r_cv (d1 := 3) dX2_firstLack_4 cvX2_81 rfl rfl rfl rfl (Nat.le_of_ble_eq_true rfl) (Nat.le_of_ble_eq_true rfl) (Nat.le_of_ble_eq_true rfl) (c_jd_lay p0 p1 p2 q1) ?_
  refine r_p dX2_firstLack_7 rfl rfl ?_
  refine r_get dX2_firstLack_8 fkX2_12 rfl rfl ?_
  refine r_p dX2_firstLack_11 rfl rfl ?_
  refine r_p dX2_firstLack_12 rfl rfl ?_
  obtain ⟨q2, kk⟩ := kk
  refine r_cv (d1 := 2) dX2_firstLack_13 cvX2_85 rfl rfl rfl rfl (Nat.le_of_ble_eq_true rfl) (Nat.le_of_ble_eq_true rfl) (Nat.le_of_ble_eq_true rfl) (c_ov_want p0 p2 q2) ?_
  refine r_p dX2_firstLack_16 rfl rfl ?_
  refine r_get dX2_firstLack_17 fkX2_12 rfl rfl ?_
  refine r_p dX2_firstLack_20 rfl rfl ?_
  obtain ⟨q3, kk⟩ := kk
  refine r_get dX2_firstLack_21 fkX2_89 q3 rfl ?_
  refine r_ci (x := 3) dX2_firstLack_24 rfl ?_
  obtain ⟨q4, kk⟩ := kk
  obtain ⟨q5, kk⟩ := kk
  refine r_ia dX2_firstLack_25 q4 q5 ?_
  refine r_p dX2_firstLack_26 rfl rfl ?_
  refine r_get dX2_firstLack_27 fkX2_89 q3 rfl ?_
  refine r_ci (x := 4) dX2_firstLack_30 rfl ?_
  obtain ⟨q6, kk⟩ := kk
  refine r_ia dX2_firstLack_31 q4 q6 ?_
  obtain ⟨q7, kk⟩ := kk
  refine r_cv (d1 := 1) dX2_firstLack_32 cvX2_92 rfl rfl rfl rfl (Nat.le_of_ble_eq_true rfl) (Nat.le_of_ble_eq_true rfl) (Nat.le_of_ble_eq_true rfl) (c_ov_firstLack ((x_ov_want (x_jd_lay T p0 p1 p2) p0 p2).2.2.1 (p0 + 1) (3 : Int32).toNatClampNeg) ((x_ov_want (x_jd_lay T p0 p1 p2) p0 p2).2.2.1 (p0 + 1) (4 : Int32).toNatClampNeg) q7) ?_
  refine r_p dX2_firstLack_35 rfl rfl ?_
  refine r_ci (x := 0) dX2_firstLack_37 rfl ?_
  refine r_p dX2_firstLack_38 rfl rfl ?_
  show tR _ _ _ _ [some (.ref 527), some (.ref p0), some (.ref p1), some (.ref p2), some (.int (x_ov_firstLack (x_ov_want (x_jd_lay T p0 p1 p2) p0 p2) ((x_ov_want (x_jd_lay T p0 p1 p2) p0 p2).2.2.1 (p0 + 1) (3 : Int32).toNatClampNeg) ((x_ov_want (x_jd_lay T p0 p1 p2) p0 p2).2.2.1 (p0 + 1) (4 : Int32).toNatClampNeg))), some (.int 0), none] _ _ _ _
  refine r_eI (r' := x_jd_firstLack_40 p0 p1 p2 (x_ov_firstLack (x_ov_want (x_jd_lay T p0 p1 p2) p0 p2) ((x_ov_want (x_jd_lay T p0 p1 p2) p0 p2).2.2.1 (p0 + 1) (3 : Int32).toNatClampNeg) ((x_ov_want (x_jd_lay T p0 p1 p2) p0 p2).2.2.1 (p0 + 1) (4 : Int32).toNatClampNeg)) (fun (w1_5 : Int32) (T201 : St) => (0, T201)) 1000 0 (x_ov_want (x_jd_lay T p0 p1 p2) p0 p2)) (by unfold x_jd_firstLack; rfl) ((c_jd_firstLack_40 p0 p1 p2 (x_ov_firstLack (x_ov_want (x_jd_lay T p0 p1 p2) p0 p2) ((x_ov_want (x_jd_lay T p0 p1 p2) p0 p2).2.2.1 (p0 + 1) (3 : Int32).toNatClampNeg) ((x_ov_want (x_jd_lay T p0 p1 p2) p0 p2).2.2.1 (p0 + 1) (4 : Int32).toNatClampNeg)) (fun w1_5 T201 kk => ?_) 1000 0 (x_ov_want (x_jd_lay T p0 p1 p2) p0 p2) kk))
  · refine r_ci (x := 0) dX2_firstLack_93 rfl ?_
    exact r_eI (r' := (0, T201)) rfl (r_ri dX2_firstLack_94 rfl rfl rfl rfl)
def x_pl_layDish_39 (l1 : Int32) (l2 : Int32) (l4 : Int32) (l5 : Int32) (K : Int32 → Int32 → St → St) : Nat → Int32 → Int32 → St → St
  | 0, _, _, T => T
  | f + 1, v3, v6, T => if (T.2.2.1 ((T.2.1 2) + 4) (l1 : Int32).toNatClampNeg) < v6 then (K v3 v6 T) else (if 12 ≤ v3 then (K v3 v6 T) else (fun (T1 : St) => (fun (T2 : St) => if (T2.1 (123 + 4 * ((l1 * 12) + v3 : Int32).toNatClampNeg) 6) = 0 then (x_pl_layDish_39 l1 l2 l4 l5 K f (v3 + 1) (v6 + 1) T2) else (if (x_ta_hasRoom T2 (507 + 5 * (0 : Int32).toNatClampNeg) ((123 + 4 * ((l1 * 12) + v3 : Int32).toNatClampNeg) + 3)) = 0 then (x_pl_layDish_39 l1 l2 l4 l5 K f (v3 + 1) (v6 + 1) (sF T2 (123 + 4 * ((l1 * 12) + v3 : Int32).toNatClampNeg) 6 0)) else (x_pl_layDish_39 l1 l2 l4 l5 K f (v3 + 1) (v6 + 1) T2))) (sF (sF T1 (123 + 4 * ((l1 * 12) + v3 : Int32).toNatClampNeg) 4 v6) (123 + 4 * ((l1 * 12) + v3 : Int32).toNatClampNeg) 5 (((sF T1 (123 + 4 * ((l1 * 12) + v3 : Int32).toNatClampNeg) 4 v6).1 (123 + 4 * ((l1 * 12) + v3 : Int32).toNatClampNeg) 5) + (v6 * ((sF T1 (123 + 4 * ((l1 * 12) + v3 : Int32).toNatClampNeg) 4 v6).2.2.1 (((sF T1 (123 + 4 * ((l1 * 12) + v3 : Int32).toNatClampNeg) 4 v6).2.1 2) + 5) (l1 : Int32).toNatClampNeg))))) (x_wa_choose T (123 + 4 * ((l1 * 12) + v3 : Int32).toNatClampNeg) (T.2.1 2) l1 (l2 - v6) l5 l4))
def ok_pl_layDish_39 (l1 : Int32) (l2 : Int32) (l4 : Int32) (l5 : Int32) (Kk : Int32 → Int32 → St → Prop) : Nat → Int32 → Int32 → St → Prop
  | 0, _, _, _ => False
  | f + 1, v3, v6, T => (sh (T.2.1 2) = .inr 1) ∧ (sh ((T.2.1 2) + 4) = .inl (0, 8)) ∧ (vp_in l1 8) ∧ (((T.2.2.1 ((T.2.1 2) + 4) (l1 : Int32).toNatClampNeg) < v6 → Kk v3 v6 T) ∧ (¬ (T.2.2.1 ((T.2.1 2) + 4) (l1 : Int32).toNatClampNeg) < v6 → ((12 ≤ v3 → Kk v3 v6 T) ∧ (¬ 12 ≤ v3 → (vp_in ((l1 * 12) + v3) 96) ∧ (ok_wa_choose T (123 + 4 * ((l1 * 12) + v3 : Int32).toNatClampNeg) (T.2.1 2) l1 (l2 - v6) l5 l4) ∧ (sh (123 + 4 * ((l1 * 12) + v3 : Int32).toNatClampNeg) = .inr 10) ∧ (fun (T1 : St) => (sh (123 + 4 * ((l1 * 12) + v3 : Int32).toNatClampNeg) = .inr 10) ∧ (sh ((sF T1 (123 + 4 * ((l1 * 12) + v3 : Int32).toNatClampNeg) 4 v6).2.1 2) = .inr 1) ∧ (sh (((sF T1 (123 + 4 * ((l1 * 12) + v3 : Int32).toNatClampNeg) 4 v6).2.1 2) + 5) = .inl (0, 8)) ∧ (vp_in l1 8) ∧ (fun (T2 : St) => (sh (123 + 4 * ((l1 * 12) + v3 : Int32).toNatClampNeg) = .inr 10) ∧ (((T2.1 (123 + 4 * ((l1 * 12) + v3 : Int32).toNatClampNeg) 6) = 0 → ok_pl_layDish_39 l1 l2 l4 l5 Kk f (v3 + 1) (v6 + 1) T2) ∧ (¬ (T2.1 (123 + 4 * ((l1 * 12) + v3 : Int32).toNatClampNeg) 6) = 0 → (vp_in 0 4) ∧ (ok_ta_hasRoom T2 (507 + 5 * (0 : Int32).toNatClampNeg) ((123 + 4 * ((l1 * 12) + v3 : Int32).toNatClampNeg) + 3)) ∧ (sh (507 + 5 * (0 : Int32).toNatClampNeg) = .inr 9) ∧ (((x_ta_hasRoom T2 (507 + 5 * (0 : Int32).toNatClampNeg) ((123 + 4 * ((l1 * 12) + v3 : Int32).toNatClampNeg) + 3)) = 0 → ok_pl_layDish_39 l1 l2 l4 l5 Kk f (v3 + 1) (v6 + 1) (sF T2 (123 + 4 * ((l1 * 12) + v3 : Int32).toNatClampNeg) 6 0)) ∧ (¬ (x_ta_hasRoom T2 (507 + 5 * (0 : Int32).toNatClampNeg) ((123 + 4 * ((l1 * 12) + v3 : Int32).toNatClampNeg) + 3)) = 0 → ok_pl_layDish_39 l1 l2 l4 l5 Kk f (v3 + 1) (v6 + 1) T2))))) (sF (sF T1 (123 + 4 * ((l1 * 12) + v3 : Int32).toNatClampNeg) 4 v6) (123 + 4 * ((l1 * 12) + v3 : Int32).toNatClampNeg) 5 (((sF T1 (123 + 4 * ((l1 * 12) + v3 : Int32).toNatClampNeg) 4 v6).1 (123 + 4 * ((l1 * 12) + v3 : Int32).toNatClampNeg) 5) + (v6 * ((sF T1 (123 + 4 * ((l1 * 12) + v3 : Int32).toNatClampNeg) 4 v6).2.2.1 (((sF T1 (123 + 4 * ((l1 * 12) + v3 : Int32).toNatClampNeg) 4 v6).2.1 2) + 5) (l1 : Int32).toNatClampNeg))))) (x_wa_choose T (123 + 4 * ((l1 * 12) + v3 : Int32).toNatClampNeg) (T.2.1 2) l1 (l2 - v6) l5 l4)))))
theorem c_pl_layDish_39 {X : Nat × (Nat → Int32)} (l1 : Int32) (l2 : Int32) (l4 : Int32) (l5 : Int32) {K : Int32 → Int32 → St → St} {Kk : Int32 → Int32 → St → Prop} (hk : ∀ (v3 : Int32) (v6 : Int32) (T : St), Kk v3 v6 T → tR X 3 mX5_layDish 159 [some (.ref 80), some (.int l1), some (.int l2), some (.int v3), some (.int l4), some (.int l5), some (.int v6), none] [] T none (K v3 v6 T)) : ∀ (f : Nat) (v3 : Int32) (v6 : Int32) (T : St), ok_pl_layDish_39 l1 l2 l4 l5 Kk f v3 v6 T → tR X 3 mX5_layDish 39 [some (.ref 80), some (.int l1), some (.int l2), some (.int v3), some (.int l4), some (.int l5), some (.int v6), none] [] T none (x_pl_layDish_39 l1 l2 l4 l5 K f v3 v6 T) := by
  intro f
  induction f with
  | zero => intro v3 v6 T kk; exact kk.elim
  | succ f ih =>
    intro v3 v6 T kk
    rw [ok_pl_layDish_39] at kk
    refine r_p dX5_layDish_39 rfl rfl ?_
    refine r_p dX5_layDish_41 rfl rfl ?_
    refine r_get dX5_layDish_42 fkX5_62 rfl rfl ?_
    obtain ⟨q5, kk⟩ := kk
    refine r_get dX5_layDish_45 fkX5_90 q5 rfl ?_
    refine r_p dX5_layDish_48 rfl rfl ?_
    obtain ⟨q6, kk⟩ := kk
    obtain ⟨q7, kk⟩ := kk
    refine r_ia dX5_layDish_49 q6 q7 ?_
    refine r_cgt dX5_layDish_50 rfl (fun c50_3 => ?_) (fun c50_3 => ?_)
    · have kk := kk.1 c50_3
      show tR _ _ _ _ [some (.ref 80), some (.int l1), some (.int l2), some (.int v3), some (.int l4), some (.int l5), some (.int v6), none] _ _ _ _
      exact r_eV (r' := K v3 v6 T) (by rw [x_pl_layDish_39]; rw [if_pos c50_3]) ((hk v3 v6 T kk))
    · have kk := kk.2 c50_3
      refine r_p dX5_layDish_53 rfl rfl ?_
      refine r_cb (x := 12) dX5_layDish_54 rfl ?_
      refine r_cge dX5_layDish_56 rfl (fun c56_4 => ?_) (fun c56_4 => ?_)
      · have kk := kk.1 c56_4
        show tR _ _ _ _ [some (.ref 80), some (.int l1), some (.int l2), some (.int v3), some (.int l4), some (.int l5), some (.int v6), none] _ _ _ _
        exact r_eV (r' := K v3 v6 T) (by rw [x_pl_layDish_39]; rw [if_neg c50_3, if_pos c56_4]) ((hk v3 v6 T kk))
      · have kk := kk.2 c56_4
        refine r_p dX5_layDish_59 rfl rfl ?_
        refine r_get dX5_layDish_60 fkX5_11 rfl rfl ?_
        refine r_p dX5_layDish_63 rfl rfl ?_
        refine r_cb (x := 12) dX5_layDish_64 rfl ?_
        refine r_p dX5_layDish_66 rfl rfl ?_
        refine r_p dX5_layDish_67 rfl rfl ?_
        refine r_p dX5_layDish_68 rfl rfl ?_
        obtain ⟨q8, kk⟩ := kk
        refine r_aa dX5_layDish_69 rfl (by decide) q8 (rf81 q8) ?_
        refine r_p dX5_layDish_70 rfl rfl ?_
        refine r_p dX5_layDish_72 rfl rfl ?_
        refine r_p dX5_layDish_74 rfl rfl ?_
        refine r_get dX5_layDish_75 fkX5_62 rfl rfl ?_
        refine r_p dX5_layDish_78 rfl rfl ?_
        refine r_p dX5_layDish_79 rfl rfl ?_
        refine r_p dX5_layDish_80 rfl rfl ?_
        refine r_p dX5_layDish_82 rfl rfl ?_
        refine r_p dX5_layDish_83 rfl rfl ?_
        refine r_p dX5_layDish_85 rfl rfl ?_
        obtain ⟨q9, kk⟩ := kk
        obtain ⟨q10, kk⟩ := kk
        refine r_cv (d1 := 3) dX5_layDish_87 cvX5_93 rfl rfl q10 rfl (Nat.le_of_ble_eq_true rfl) (Nat.le_of_ble_eq_true rfl) (Nat.le_of_ble_eq_true rfl) (c_wa_choose (123 + 4 * ((l1 * 12) + v3 : Int32).toNatClampNeg) (T.2.1 2) l1 (l2 - v6) l5 l4 q9) ?_
        refine r_eV (r' := (fun (T1 : St) => (fun (T2 : St) => if (T2.1 (123 + 4 * ((l1 * 12) + v3 : Int32).toNatClampNeg) 6) = 0 then (x_pl_layDish_39 l1 l2 l4 l5 K f (v3 + 1) (v6 + 1) T2) else (if (x_ta_hasRoom T2 (507 + 5 * (0 : Int32).toNatClampNeg) ((123 + 4 * ((l1 * 12) + v3 : Int32).toNatClampNeg) + 3)) = 0 then (x_pl_layDish_39 l1 l2 l4 l5 K f (v3 + 1) (v6 + 1) (sF T2 (123 + 4 * ((l1 * 12) + v3 : Int32).toNatClampNeg) 6 0)) else (x_pl_layDish_39 l1 l2 l4 l5 K f (v3 + 1) (v6 + 1) T2))) (sF (sF T1 (123 + 4 * ((l1 * 12) + v3 : Int32).toNatClampNeg) 4 v6) (123 + 4 * ((l1 * 12) + v3 : Int32).toNatClampNeg) 5 (((sF T1 (123 + 4 * ((l1 * 12) + v3 : Int32).toNatClampNeg) 4 v6).1 (123 + 4 * ((l1 * 12) + v3 : Int32).toNatClampNeg) 5) + (v6 * ((sF T1 (123 + 4 * ((l1 * 12) + v3 : Int32).toNatClampNeg) 4 v6).2.2.1 (((sF T1 (123 + 4 * ((l1 * 12) + v3 : Int32).toNatClampNeg) 4 v6).2.1 2) + 5) (l1 : Int32).toNatClampNeg))))) (x_wa_choose T (123 + 4 * ((l1 * 12) + v3 : Int32).toNatClampNeg) (T.2.1 2) l1 (l2 - v6) l5 l4)) (by rw [x_pl_layDish_39]; rw [if_neg c50_3, if_neg c56_4]) ?_
        generalize x_wa_choose T (123 + 4 * ((l1 * 12) + v3 : Int32).toNatClampNeg) (T.2.1 2) l1 (l2 - v6) l5 l4 = T1 at kk ⊢
        try dsimp only at kk
        refine r_p dX5_layDish_90 rfl rfl ?_
        refine r_p dX5_layDish_92 rfl rfl ?_
        obtain ⟨q11, kk⟩ := kk
        refine r_put dX5_layDish_94 fkX5_97 rfl q11 rfl (Nat.le_of_ble_eq_true rfl) rfl rfl ?_
        refine r_p dX5_layDish_97 rfl rfl ?_
        refine r_p dX5_layDish_99 rfl rfl ?_
        refine r_get dX5_layDish_100 fkX5_100 q11 rfl ?_
        refine r_p dX5_layDish_103 rfl rfl ?_
        refine r_p dX5_layDish_105 rfl rfl ?_
        refine r_get dX5_layDish_106 fkX5_62 rfl rfl ?_
        obtain ⟨q12, kk⟩ := kk
        refine r_get dX5_layDish_109 fkX5_103 q12 rfl ?_
        refine r_p dX5_layDish_112 rfl rfl ?_
        obtain ⟨q13, kk⟩ := kk
        obtain ⟨q14, kk⟩ := kk
        refine r_ia dX5_layDish_113 q13 q14 ?_
        refine r_p dX5_layDish_114 rfl rfl ?_
        refine r_p dX5_layDish_115 rfl rfl ?_
        refine r_put dX5_layDish_116 fkX5_100 rfl q11 rfl (Nat.le_of_ble_eq_true rfl) rfl rfl ?_
        refine r_eV (r' := (fun (T2 : St) => if (T2.1 (123 + 4 * ((l1 * 12) + v3 : Int32).toNatClampNeg) 6) = 0 then (x_pl_layDish_39 l1 l2 l4 l5 K f (v3 + 1) (v6 + 1) T2) else (if (x_ta_hasRoom T2 (507 + 5 * (0 : Int32).toNatClampNeg) ((123 + 4 * ((l1 * 12) + v3 : Int32).toNatClampNeg) + 3)) = 0 then (x_pl_layDish_39 l1 l2 l4 l5 K f (v3 + 1) (v6 + 1) (sF T2 (123 + 4 * ((l1 * 12) + v3 : Int32).toNatClampNeg) 6 0)) else (x_pl_layDish_39 l1 l2 l4 l5 K f (v3 + 1) (v6 + 1) T2))) (sF (sF T1 (123 + 4 * ((l1 * 12) + v3 : Int32).toNatClampNeg) 4 v6) (123 + 4 * ((l1 * 12) + v3 : Int32).toNatClampNeg) 5 (((sF T1 (123 + 4 * ((l1 * 12) + v3 : Int32).toNatClampNeg) 4 v6).1 (123 + 4 * ((l1 * 12) + v3 : Int32).toNatClampNeg) 5) + (v6 * ((sF T1 (123 + 4 * ((l1 * 12) + v3 : Int32).toNatClampNeg) 4 v6).2.2.1 (((sF T1 (123 + 4 * ((l1 * 12) + v3 : Int32).toNatClampNeg) 4 v6).2.1 2) + 5) (l1 : Int32).toNatClampNeg))))) rfl ?_
        generalize sF (sF T1 (123 + 4 * ((l1 * 12) + v3 : Int32).toNatClampNeg) 4 v6) (123 + 4 * ((l1 * 12) + v3 : Int32).toNatClampNeg) 5 (((sF T1 (123 + 4 * ((l1 * 12) + v3 : Int32).toNatClampNeg) 4 v6).1 (123 + 4 * ((l1 * 12) + v3 : Int32).toNatClampNeg) 5) + (v6 * ((sF T1 (123 + 4 * ((l1 * 12) + v3 : Int32).toNatClampNeg) 4 v6).2.2.1 (((sF T1 (123 + 4 * ((l1 * 12) + v3 : Int32).toNatClampNeg) 4 v6).2.1 2) + 5) (l1 : Int32).toNatClampNeg))) = T2 at kk ⊢
        try dsimp only at kk
        refine r_p dX5_layDish_119 rfl rfl ?_
        obtain ⟨q15, kk⟩ := kk
        refine r_get dX5_layDish_121 fkX5_106 q15 rfl ?_
        refine r_ieq dX5_layDish_124 rfl (fun c124_5 => ?_) (fun c124_5 => ?_)
        · have kk := kk.1 c124_5
          refine r_inc (y := 1) dX5_layDish_150 rfl rfl rfl ?_
          refine r_inc (y := 1) dX5_layDish_153 rfl rfl rfl ?_
          refine r_go dX5_layDish_156 rfl ?_
          show tR _ _ _ _ [some (.ref 80), some (.int l1), some (.int l2), some (.int (v3 + 1)), some (.int l4), some (.int l5), some (.int (v6 + 1)), some (.ref (123 + 4 * ((l1 * 12) + v3 : Int32).toNatClampNeg))] _ _ _ _
          exact r_eV (r' := x_pl_layDish_39 l1 l2 l4 l5 K f (v3 + 1) (v6 + 1) T2) (by first | rw [if_pos c124_5] | (dsimp only; rw [if_pos c124_5])) (r_le (le_s (le_s (le_s (le_s (le_s (le_s (le_s (le_n (le_0))))))))) (ih (v3 + 1) (v6 + 1) T2 kk))
        · have kk := kk.2 c124_5
          refine r_p dX5_layDish_127 rfl rfl ?_
          refine r_get dX5_layDish_128 fkX5_31 rfl rfl ?_
          refine r_ci (x := 0) dX5_layDish_131 rfl ?_
          obtain ⟨q16, kk⟩ := kk
          refine r_aa dX5_layDish_132 rfl (by decide) q16 (rf93 q16) ?_
          refine r_p dX5_layDish_133 rfl rfl ?_
          refine r_get dX5_layDish_135 fkX5_110 q15 rfl ?_
          obtain ⟨q17, kk⟩ := kk
          obtain ⟨q18, kk⟩ := kk
          refine r_cv (d1 := 1) dX5_layDish_138 cvX5_114 rfl rfl q18 rfl (Nat.le_of_ble_eq_true rfl) (Nat.le_of_ble_eq_true rfl) (Nat.le_of_ble_eq_true rfl) (c_ta_hasRoom (507 + 5 * (0 : Int32).toNatClampNeg) ((123 + 4 * ((l1 * 12) + v3 : Int32).toNatClampNeg) + 3) q17) ?_
          refine r_ine dX5_layDish_141 rfl (fun c141_6 => ?_) (fun c141_6 => ?_)
          · have kk := kk.2 c141_6
            refine r_inc (y := 1) dX5_layDish_150 rfl rfl rfl ?_
            refine r_inc (y := 1) dX5_layDish_153 rfl rfl rfl ?_
            refine r_go dX5_layDish_156 rfl ?_
            show tR _ _ _ _ [some (.ref 80), some (.int l1), some (.int l2), some (.int (v3 + 1)), some (.int l4), some (.int l5), some (.int (v6 + 1)), some (.ref (123 + 4 * ((l1 * 12) + v3 : Int32).toNatClampNeg))] _ _ _ _
            exact r_eV (r' := x_pl_layDish_39 l1 l2 l4 l5 K f (v3 + 1) (v6 + 1) T2) (by first | rw [if_neg c124_5, if_neg c141_6] | (dsimp only; rw [if_neg c124_5, if_neg c141_6])) (r_le (le_s (le_s (le_s (le_s (le_s (le_s (le_s (le_n (le_0))))))))) (ih (v3 + 1) (v6 + 1) T2 kk))
          · have kk := kk.1 c141_6
            refine r_p dX5_layDish_144 rfl rfl ?_
            refine r_ci (x := 0) dX5_layDish_146 rfl ?_
            refine r_put dX5_layDish_147 fkX5_106 rfl q15 rfl (Nat.le_of_ble_eq_true rfl) rfl rfl ?_
            refine r_inc (y := 1) dX5_layDish_150 rfl rfl rfl ?_
            refine r_inc (y := 1) dX5_layDish_153 rfl rfl rfl ?_
            refine r_go dX5_layDish_156 rfl ?_
            show tR _ _ _ _ [some (.ref 80), some (.int l1), some (.int l2), some (.int (v3 + 1)), some (.int l4), some (.int l5), some (.int (v6 + 1)), some (.ref (123 + 4 * ((l1 * 12) + v3 : Int32).toNatClampNeg))] _ _ _ _
            exact r_eV (r' := x_pl_layDish_39 l1 l2 l4 l5 K f (v3 + 1) (v6 + 1) (sF T2 (123 + 4 * ((l1 * 12) + v3 : Int32).toNatClampNeg) 6 0)) (by first | rw [if_neg c124_5, if_pos c141_6] | (dsimp only; rw [if_neg c124_5, if_pos c141_6])) (r_le (le_s (le_s (le_s (le_s (le_s (le_s (le_s (le_n (le_0))))))))) (ih (v3 + 1) (v6 + 1) (sF T2 (123 + 4 * ((l1 * 12) + v3 : Int32).toNatClampNeg) 6 0) kk))
def x_pl_layDish_22 (l1 : Int32) (l2 : Int32) (l4 : Int32) (K : Int32 → Int32 → St → St) : Nat → Int32 → Int32 → St → St
  | 0, _, _, T => T
  | f + 1, v3, v5, T => if (x_bk_waitBehind T (T.2.1 2) l1 0) < v5 then (K v3 v5 T) else (x_pl_layDish_39 l1 l2 l4 v5 (fun (w1_3 : Int32) (w1_6 : Int32) (T201 : St) => x_pl_layDish_22 l1 l2 l4 K f w1_3 (v5 + 1) T201) 1000 v3 0 T)
def ok_pl_layDish_22 (l1 : Int32) (l2 : Int32) (l4 : Int32) (Kk : Int32 → Int32 → St → Prop) : Nat → Int32 → Int32 → St → Prop
  | 0, _, _, _ => False
  | f + 1, v3, v5, T => (ok_bk_waitBehind T (T.2.1 2) l1 0) ∧ (sh (T.2.1 2) = .inr 1) ∧ (((x_bk_waitBehind T (T.2.1 2) l1 0) < v5 → Kk v3 v5 T) ∧ (¬ (x_bk_waitBehind T (T.2.1 2) l1 0) < v5 → ok_pl_layDish_39 l1 l2 l4 v5 (fun (w1_3 : Int32) (w1_6 : Int32) (T201 : St) => ok_pl_layDish_22 l1 l2 l4 Kk f w1_3 (v5 + 1) T201) 1000 v3 0 T))
theorem c_pl_layDish_22 {X : Nat × (Nat → Int32)} (l1 : Int32) (l2 : Int32) (l4 : Int32) {K : Int32 → Int32 → St → St} {Kk : Int32 → Int32 → St → Prop} (hk : ∀ (v3 : Int32) (v5 : Int32) (T : St), Kk v3 v5 T → tR X 3 mX5_layDish 165 [some (.ref 80), some (.int l1), some (.int l2), some (.int v3), some (.int l4), some (.int v5), none, none] [] T none (K v3 v5 T)) : ∀ (f : Nat) (v3 : Int32) (v5 : Int32) (T : St), ok_pl_layDish_22 l1 l2 l4 Kk f v3 v5 T → tR X 3 mX5_layDish 22 [some (.ref 80), some (.int l1), some (.int l2), some (.int v3), some (.int l4), some (.int v5), none, none] [] T none (x_pl_layDish_22 l1 l2 l4 K f v3 v5 T) := by
  intro f
  induction f with
  | zero => intro v3 v5 T kk; exact kk.elim
  | succ f ih =>
    intro v3 v5 T kk
    rw [ok_pl_layDish_22] at kk
    refine r_p dX5_layDish_22 rfl rfl ?_
    refine r_p dX5_layDish_24 rfl rfl ?_
    refine r_get dX5_layDish_25 fkX5_62 rfl rfl ?_
    refine r_p dX5_layDish_28 rfl rfl ?_
    refine r_ci (x := 0) dX5_layDish_29 rfl ?_
    obtain ⟨q3, kk⟩ := kk
    obtain ⟨q4, kk⟩ := kk
    refine r_cv (d1 := 1) dX5_layDish_30 cvX5_86 rfl rfl q4 rfl (Nat.le_of_ble_eq_true rfl) (Nat.le_of_ble_eq_true rfl) (Nat.le_of_ble_eq_true rfl) (c_bk_waitBehind (T.2.1 2) l1 0 q3) ?_
    refine r_cgt dX5_layDish_33 rfl (fun c33_2 => ?_) (fun c33_2 => ?_)
    · have kk := kk.1 c33_2
      show tR _ _ _ _ [some (.ref 80), some (.int l1), some (.int l2), some (.int v3), some (.int l4), some (.int v5), none, none] _ _ _ _
      exact r_eV (r' := K v3 v5 T) (by rw [x_pl_layDish_22]; rw [if_pos c33_2]) ((hk v3 v5 T kk))
    · have kk := kk.2 c33_2
      refine r_ci (x := 0) dX5_layDish_36 rfl ?_
      refine r_p dX5_layDish_37 rfl rfl ?_
      show tR _ _ _ _ [some (.ref 80), some (.int l1), some (.int l2), some (.int v3), some (.int l4), some (.int v5), some (.int 0), none] _ _ _ _
      refine r_eV (r' := x_pl_layDish_39 l1 l2 l4 v5 (fun (w1_3 : Int32) (w1_6 : Int32) (T201 : St) => x_pl_layDish_22 l1 l2 l4 K f w1_3 (v5 + 1) T201) 1000 v3 0 T) (by rw [x_pl_layDish_22]; rw [if_neg c33_2]) ((c_pl_layDish_39 l1 l2 l4 v5 (fun w1_3 w1_6 T201 kk => ?_) 1000 v3 0 T kk))
      · try dsimp only at kk
        refine r_inc (y := 1) dX5_layDish_159 rfl rfl rfl ?_
        refine r_go dX5_layDish_162 rfl ?_
        show tR _ _ _ _ [some (.ref 80), some (.int l1), some (.int l2), some (.int w1_3), some (.int l4), some (.int (v5 + 1)), some (.int w1_6), none] _ _ _ _
        exact r_eV (r' := x_pl_layDish_22 l1 l2 l4 K f w1_3 (v5 + 1) T201) rfl (r_le (le_s (le_s (le_s (le_s (le_s (le_s (le_n (le_s (le_0))))))))) (ih w1_3 (v5 + 1) T201 kk))
def x_pl_layDish_5 (l1 : Int32) (l2 : Int32) (K : Int32 → Int32 → St → St) : Nat → Int32 → Int32 → St → St
  | 0, _, _, T => T
  | f + 1, v3, v4, T => if (x_bk_waitBehind T (T.2.1 2) l1 1) < v4 then (K v3 v4 T) else (x_pl_layDish_22 l1 l2 v4 (fun (w2_3 : Int32) (w2_5 : Int32) (T202 : St) => x_pl_layDish_5 l1 l2 K f w2_3 (v4 + 1) T202) 1000 v3 0 T)
def ok_pl_layDish_5 (l1 : Int32) (l2 : Int32) (Kk : Int32 → Int32 → St → Prop) : Nat → Int32 → Int32 → St → Prop
  | 0, _, _, _ => False
  | f + 1, v3, v4, T => (ok_bk_waitBehind T (T.2.1 2) l1 1) ∧ (sh (T.2.1 2) = .inr 1) ∧ (((x_bk_waitBehind T (T.2.1 2) l1 1) < v4 → Kk v3 v4 T) ∧ (¬ (x_bk_waitBehind T (T.2.1 2) l1 1) < v4 → ok_pl_layDish_22 l1 l2 v4 (fun (w2_3 : Int32) (w2_5 : Int32) (T202 : St) => ok_pl_layDish_5 l1 l2 Kk f w2_3 (v4 + 1) T202) 1000 v3 0 T))
theorem c_pl_layDish_5 {X : Nat × (Nat → Int32)} (l1 : Int32) (l2 : Int32) {K : Int32 → Int32 → St → St} {Kk : Int32 → Int32 → St → Prop} (hk : ∀ (v3 : Int32) (v4 : Int32) (T : St), Kk v3 v4 T → tR X 3 mX5_layDish 171 [some (.ref 80), some (.int l1), some (.int l2), some (.int v3), some (.int v4), none, none, none] [] T none (K v3 v4 T)) : ∀ (f : Nat) (v3 : Int32) (v4 : Int32) (T : St), ok_pl_layDish_5 l1 l2 Kk f v3 v4 T → tR X 3 mX5_layDish 5 [some (.ref 80), some (.int l1), some (.int l2), some (.int v3), some (.int v4), none, none, none] [] T none (x_pl_layDish_5 l1 l2 K f v3 v4 T) := by
  intro f
  induction f with
  | zero => intro v3 v4 T kk; exact kk.elim
  | succ f ih =>
    intro v3 v4 T kk
    rw [ok_pl_layDish_5] at kk
    refine r_p dX5_layDish_5 rfl rfl ?_
    refine r_p dX5_layDish_7 rfl rfl ?_
    refine r_get dX5_layDish_8 fkX5_62 rfl rfl ?_
    refine r_p dX5_layDish_11 rfl rfl ?_
    refine r_ci (x := 1) dX5_layDish_12 rfl ?_
    obtain ⟨q1, kk⟩ := kk
    obtain ⟨q2, kk⟩ := kk
    refine r_cv (d1 := 1) dX5_layDish_13 cvX5_86 rfl rfl q2 rfl (Nat.le_of_ble_eq_true rfl) (Nat.le_of_ble_eq_true rfl) (Nat.le_of_ble_eq_true rfl) (c_bk_waitBehind (T.2.1 2) l1 1 q1) ?_
    refine r_cgt dX5_layDish_16 rfl (fun c16_1 => ?_) (fun c16_1 => ?_)
    · have kk := kk.1 c16_1
      show tR _ _ _ _ [some (.ref 80), some (.int l1), some (.int l2), some (.int v3), some (.int v4), none, none, none] _ _ _ _
      exact r_eV (r' := K v3 v4 T) (by rw [x_pl_layDish_5]; rw [if_pos c16_1]) ((hk v3 v4 T kk))
    · have kk := kk.2 c16_1
      refine r_ci (x := 0) dX5_layDish_19 rfl ?_
      refine r_p dX5_layDish_20 rfl rfl ?_
      show tR _ _ _ _ [some (.ref 80), some (.int l1), some (.int l2), some (.int v3), some (.int v4), some (.int 0), none, none] _ _ _ _
      refine r_eV (r' := x_pl_layDish_22 l1 l2 v4 (fun (w2_3 : Int32) (w2_5 : Int32) (T202 : St) => x_pl_layDish_5 l1 l2 K f w2_3 (v4 + 1) T202) 1000 v3 0 T) (by rw [x_pl_layDish_5]; rw [if_neg c16_1]) ((c_pl_layDish_22 l1 l2 v4 (fun w2_3 w2_5 T202 kk => ?_) 1000 v3 0 T kk))
      · try dsimp only at kk
        refine r_inc (y := 1) dX5_layDish_165 rfl rfl rfl ?_
        refine r_go dX5_layDish_168 rfl ?_
        show tR _ _ _ _ [some (.ref 80), some (.int l1), some (.int l2), some (.int w2_3), some (.int (v4 + 1)), some (.int w2_5), none, none] _ _ _ _
        exact r_eV (r' := x_pl_layDish_5 l1 l2 K f w2_3 (v4 + 1) T202) rfl (r_le (le_s (le_s (le_s (le_s (le_s (le_n (le_s (le_s (le_0))))))))) (ih w2_3 (v4 + 1) T202 kk))
def x_pl_layDish (T : St) (p0 : Int32) (p1 : Int32) : St := x_pl_layDish_5 p0 p1 (fun (w3_3 : Int32) (w3_4 : Int32) (T203 : St) => sA T203 82 (p0 : Int32).toNatClampNeg w3_3) 1000 0 0 T
def ok_pl_layDish (T : St) (p0 : Int32) (p1 : Int32) : Prop := ok_pl_layDish_5 p0 p1 (fun (w3_3 : Int32) (w3_4 : Int32) (T203 : St) => (vp_in p0 8) ∧ True) 1000 0 0 T
theorem c_pl_layDish {X : Nat × (Nat → Int32)} {T : St} (p0 : Int32) (p1 : Int32) (kk : ok_pl_layDish T p0 p1) : tC X 4 mX5_layDish [.ref 80, .int p0, .int p1] T none (x_pl_layDish T p0 p1) := by
  unfold ok_pl_layDish at kk
  refine tC_of ?_
  refine r_ci (x := 0) dX5_layDish_0 rfl ?_
  refine r_p dX5_layDish_1 rfl rfl ?_
  refine r_ci (x := 0) dX5_layDish_2 rfl ?_
  refine r_p dX5_layDish_3 rfl rfl ?_
  show tR _ _ _ _ [some (.ref 80), some (.int p0), some (.int p1), some (.int 0), some (.int 0), none, none, none] _ _ _ _
  refine r_eV (r' := x_pl_layDish_5 p0 p1 (fun (w3_3 : Int32) (w3_4 : Int32) (T203 : St) => sA T203 82 (p0 : Int32).toNatClampNeg w3_3) 1000 0 0 T) (by unfold x_pl_layDish; rfl) ((c_pl_layDish_5 p0 p1 (fun w3_3 w3_4 T203 kk => ?_) 1000 0 0 T kk))
  · try dsimp only at kk
    refine r_p dX5_layDish_171 rfl rfl ?_
    refine r_get dX5_layDish_172 fkX5_17 rfl rfl ?_
    refine r_p dX5_layDish_175 rfl rfl ?_
    refine r_p dX5_layDish_176 rfl rfl ?_
    obtain ⟨q19, kk⟩ := kk
    refine r_ias dX5_layDish_177 rfl q19 ?_
    exact r_eV (r' := (sA T203 82 (p0 : Int32).toNatClampNeg w3_3)) rfl (r_rv dX5_layDish_178 rfl rfl rfl)
def x_rd_readKitchen_8 (l1 : Nat) (K : Int32 → St → St) : Nat → Int32 → St → St
  | 0, _, T => T
  | f + 1, v2, T => if 7 ≤ v2 then (K v2 T) else (fun (T1 : St) => (fun (T2 : St) => x_rd_readKitchen_8 l1 K f (v2 + 1) T2) (sA T1 (l1 + 1) (v2 : Int32).toNatClampNeg ((x_rd_takeNumber T (([0, 0, 0, 0, 0, 1, 0] : List Int32).getD (v2 : Int32).toNatClampNeg 0) (([3, 3, 3, 9, 9, 3, 9] : List Int32).getD (v2 : Int32).toNatClampNeg 0)).1))) ((x_rd_takeNumber T (([0, 0, 0, 0, 0, 1, 0] : List Int32).getD (v2 : Int32).toNatClampNeg 0) (([3, 3, 3, 9, 9, 3, 9] : List Int32).getD (v2 : Int32).toNatClampNeg 0)).2)
def ok_rd_readKitchen_8 (l1 : Nat) (Kk : Int32 → St → Prop) : Nat → Int32 → St → Prop
  | 0, _, _ => False
  | f + 1, v2, T => ((7 ≤ v2 → Kk v2 T) ∧ (¬ 7 ≤ v2 → (sh l1 = .inr 1) ∧ (vp_in v2 7) ∧ (ok_rd_takeNumber T (([0, 0, 0, 0, 0, 1, 0] : List Int32).getD (v2 : Int32).toNatClampNeg 0) (([3, 3, 3, 9, 9, 3, 9] : List Int32).getD (v2 : Int32).toNatClampNeg 0)) ∧ (fun (T1 : St) => (sh (l1 + 1) = .inl (0, 7)) ∧ (vp_in v2 7) ∧ (fun (T2 : St) => ok_rd_readKitchen_8 l1 Kk f (v2 + 1) T2) (sA T1 (l1 + 1) (v2 : Int32).toNatClampNeg ((x_rd_takeNumber T (([0, 0, 0, 0, 0, 1, 0] : List Int32).getD (v2 : Int32).toNatClampNeg 0) (([3, 3, 3, 9, 9, 3, 9] : List Int32).getD (v2 : Int32).toNatClampNeg 0)).1))) ((x_rd_takeNumber T (([0, 0, 0, 0, 0, 1, 0] : List Int32).getD (v2 : Int32).toNatClampNeg 0) (([3, 3, 3, 9, 9, 3, 9] : List Int32).getD (v2 : Int32).toNatClampNeg 0)).2)))
theorem c_rd_readKitchen_8 {X : Nat × (Nat → Int32)} (l1 : Nat) {K : Int32 → St → St} {Kk : Int32 → St → Prop} (hk : ∀ (v2 : Int32) (T : St), Kk v2 T → tR X 6 mX6_readKitchen 42 [some (.ref 13), some (.ref l1), some (.int v2)] [] T none (K v2 T)) : ∀ (f : Nat) (v2 : Int32) (T : St), ok_rd_readKitchen_8 l1 Kk f v2 T → tR X 6 mX6_readKitchen 8 [some (.ref 13), some (.ref l1), some (.int v2)] [] T none (x_rd_readKitchen_8 l1 K f v2 T) := by
  intro f
  induction f with
  | zero => intro v2 T kk; exact kk.elim
  | succ f ih =>
    intro v2 T kk
    rw [ok_rd_readKitchen_8] at kk
    refine r_p dX6_readKitchen_8 rfl rfl ?_
    refine r_gs 2 rfl dX6_readKitchen_9 gsX6_58 ?_
    refine r_tl (j := 2) rfl dX6_readKitchen_12 ?_
    refine r_cge dX6_readKitchen_13 rfl (fun c13_1 => ?_) (fun c13_1 => ?_)
    · have kk := kk.1 c13_1
      show tR _ _ _ _ [some (.ref 13), some (.ref l1), some (.int v2)] _ _ _ _
      exact r_eV (r' := K v2 T) (by rw [x_rd_readKitchen_8]; rw [if_pos c13_1]) ((hk v2 T kk))
    · have kk := kk.2 c13_1
      refine r_p dX6_readKitchen_16 rfl rfl ?_
      obtain ⟨q2, kk⟩ := kk
      refine r_get dX6_readKitchen_17 fkX6_61 q2 rfl ?_
      refine r_p dX6_readKitchen_20 rfl rfl ?_
      refine r_p dX6_readKitchen_21 rfl rfl ?_
      refine r_gs 1 rfl dX6_readKitchen_22 gsX6_63 ?_
      refine r_p dX6_readKitchen_25 rfl rfl ?_
      obtain ⟨q3, kk⟩ := kk
      refine r_ta (j := 1) rfl dX6_readKitchen_26 q3 ?_
      refine r_gs 2 rfl dX6_readKitchen_27 gsX6_58 ?_
      refine r_p dX6_readKitchen_30 rfl rfl ?_
      refine r_ta (j := 2) rfl dX6_readKitchen_31 q3 ?_
      obtain ⟨q4, kk⟩ := kk
      refine r_cv (d1 := 3) dX6_readKitchen_32 cvX6_66 rfl rfl rfl rfl (Nat.le_of_ble_eq_true rfl) (Nat.le_of_ble_eq_true rfl) (Nat.le_of_ble_eq_true rfl) (c_rd_takeNumber (([0, 0, 0, 0, 0, 1, 0] : List Int32).getD (v2 : Int32).toNatClampNeg 0) (([3, 3, 3, 9, 9, 3, 9] : List Int32).getD (v2 : Int32).toNatClampNeg 0) q4) ?_
      refine r_eV (r' := (fun (T1 : St) => (fun (T2 : St) => x_rd_readKitchen_8 l1 K f (v2 + 1) T2) (sA T1 (l1 + 1) (v2 : Int32).toNatClampNeg ((x_rd_takeNumber T (([0, 0, 0, 0, 0, 1, 0] : List Int32).getD (v2 : Int32).toNatClampNeg 0) (([3, 3, 3, 9, 9, 3, 9] : List Int32).getD (v2 : Int32).toNatClampNeg 0)).1))) ((x_rd_takeNumber T (([0, 0, 0, 0, 0, 1, 0] : List Int32).getD (v2 : Int32).toNatClampNeg 0) (([3, 3, 3, 9, 9, 3, 9] : List Int32).getD (v2 : Int32).toNatClampNeg 0)).2)) (by rw [x_rd_readKitchen_8]; rw [if_neg c13_1]) ?_
      generalize (x_rd_takeNumber T (([0, 0, 0, 0, 0, 1, 0] : List Int32).getD (v2 : Int32).toNatClampNeg 0) (([3, 3, 3, 9, 9, 3, 9] : List Int32).getD (v2 : Int32).toNatClampNeg 0)).2 = T1 at kk ⊢
      try dsimp only at kk
      obtain ⟨q5, kk⟩ := kk
      obtain ⟨q6, kk⟩ := kk
      refine r_ias dX6_readKitchen_35 q5 q6 ?_
      refine r_eV (r' := (fun (T2 : St) => x_rd_readKitchen_8 l1 K f (v2 + 1) T2) (sA T1 (l1 + 1) (v2 : Int32).toNatClampNeg ((x_rd_takeNumber T (([0, 0, 0, 0, 0, 1, 0] : List Int32).getD (v2 : Int32).toNatClampNeg 0) (([3, 3, 3, 9, 9, 3, 9] : List Int32).getD (v2 : Int32).toNatClampNeg 0)).1))) rfl ?_
      generalize sA T1 (l1 + 1) (v2 : Int32).toNatClampNeg ((x_rd_takeNumber T (([0, 0, 0, 0, 0, 1, 0] : List Int32).getD (v2 : Int32).toNatClampNeg 0) (([3, 3, 3, 9, 9, 3, 9] : List Int32).getD (v2 : Int32).toNatClampNeg 0)).1) = T2 at kk ⊢
      try dsimp only at kk
      refine r_inc (y := 1) dX6_readKitchen_36 rfl rfl rfl ?_
      refine r_go dX6_readKitchen_39 rfl ?_
      show tR _ _ _ _ [some (.ref 13), some (.ref l1), some (.int (v2 + 1))] _ _ _ _
      exact r_eV (r' := x_rd_readKitchen_8 l1 K f (v2 + 1) T2) rfl ((ih (v2 + 1) T2 kk))
def x_rd_readKitchen (T : St) (p0 : Nat) : St := x_rd_readKitchen_8 p0 (fun (w1_2 : Int32) (T201 : St) => x_rd_takeSign T201) 1000 0 (x_rd_takeWord T 0)
def ok_rd_readKitchen (T : St) (p0 : Nat) : Prop := (ok_rd_takeWord T 0) ∧ ok_rd_readKitchen_8 p0 (fun (w1_2 : Int32) (T201 : St) => (ok_rd_takeSign T201) ∧ True) 1000 0 (x_rd_takeWord T 0)
theorem c_rd_readKitchen {X : Nat × (Nat → Int32)} {T : St} (p0 : Nat) (kk : ok_rd_readKitchen T p0) : tC X 7 mX6_readKitchen [.ref 13, .ref p0] T none (x_rd_readKitchen T p0) := by
  unfold ok_rd_readKitchen at kk
  refine tC_of ?_
  refine r_p dX6_readKitchen_0 rfl rfl ?_
  refine r_ks 0 rfl dX6_readKitchen_1 rfl ?_
  obtain ⟨q1, kk⟩ := kk
  refine r_cv (d1 := 6) dX6_readKitchen_3 cvX6_54 rfl rfl rfl rfl (Nat.le_of_ble_eq_true rfl) (Nat.le_of_ble_eq_true rfl) (Nat.le_of_ble_eq_true rfl) (c_rd_takeWord 0 q1) ?_
  refine r_ci (x := 0) dX6_readKitchen_6 rfl ?_
  refine r_p dX6_readKitchen_7 rfl rfl ?_
  show tR _ _ _ _ [some (.ref 13), some (.ref p0), some (.int 0)] _ _ _ _
  refine r_eV (r' := x_rd_readKitchen_8 p0 (fun (w1_2 : Int32) (T201 : St) => x_rd_takeSign T201) 1000 0 (x_rd_takeWord T 0)) (by unfold x_rd_readKitchen; rfl) ((c_rd_readKitchen_8 p0 (fun w1_2 T201 kk => ?_) 1000 0 (x_rd_takeWord T 0) kk))
  · try dsimp only at kk
    refine r_p dX6_readKitchen_42 rfl rfl ?_
    obtain ⟨q7, kk⟩ := kk
    refine r_cv (d1 := 3) dX6_readKitchen_43 cvX6_70 rfl rfl rfl rfl (Nat.le_of_ble_eq_true rfl) (Nat.le_of_ble_eq_true rfl) (Nat.le_of_ble_eq_true rfl) (c_rd_takeSign  q7) ?_
    exact r_eV (r' := (x_rd_takeSign T201)) rfl (r_rv dX6_readKitchen_46 rfl rfl rfl)
def x_rd_readAway (T : St) (p0 : Nat) : St := if (T.1 p0 1) < 4 then (fun (T1 : St) => (fun (T2 : St) => sF (x_rd_takeSign T2) p0 1 (((x_rd_takeSign T2).1 p0 1) + 1)) (sA ((x_rd_takeNumber T1 ((x_rd_takeNumber (x_rd_takeWord T 1) 0 59).1) 59).2) (p0 + 3) (T1.1 p0 1 : Int32).toNatClampNeg ((x_rd_takeNumber T1 ((x_rd_takeNumber (x_rd_takeWord T 1) 0 59).1) 59).1))) (sA ((x_rd_takeNumber (x_rd_takeWord T 1) 0 59).2) (p0 + 2) (((x_rd_takeNumber (x_rd_takeWord T 1) 0 59).2).1 p0 1 : Int32).toNatClampNeg ((x_rd_takeNumber (x_rd_takeWord T 1) 0 59).1)) else (sF T 13 2 3)
def ok_rd_readAway (T : St) (p0 : Nat) : Prop := (sh p0 = .inr 1) ∧ ((T.1 p0 1) < 4 → (ok_rd_takeWord T 1) ∧ (ok_rd_takeNumber (x_rd_takeWord T 1) 0 59) ∧ (sh (p0 + 2) = .inl (0, 4)) ∧ (vp_in (((x_rd_takeNumber (x_rd_takeWord T 1) 0 59).2).1 p0 1) 4) ∧ (fun (T1 : St) => (sh p0 = .inr 1) ∧ (ok_rd_takeNumber T1 ((x_rd_takeNumber (x_rd_takeWord T 1) 0 59).1) 59) ∧ (sh (p0 + 3) = .inl (0, 4)) ∧ (vp_in (T1.1 p0 1) 4) ∧ (fun (T2 : St) => (ok_rd_takeSign T2) ∧ (sh p0 = .inr 1) ∧ True) (sA ((x_rd_takeNumber T1 ((x_rd_takeNumber (x_rd_takeWord T 1) 0 59).1) 59).2) (p0 + 3) (T1.1 p0 1 : Int32).toNatClampNeg ((x_rd_takeNumber T1 ((x_rd_takeNumber (x_rd_takeWord T 1) 0 59).1) 59).1))) (sA ((x_rd_takeNumber (x_rd_takeWord T 1) 0 59).2) (p0 + 2) (((x_rd_takeNumber (x_rd_takeWord T 1) 0 59).2).1 p0 1 : Int32).toNatClampNeg ((x_rd_takeNumber (x_rd_takeWord T 1) 0 59).1)))
theorem c_rd_readAway {X : Nat × (Nat → Int32)} {T : St} (p0 : Nat) (kk : ok_rd_readAway T p0) : tC X 7 mX6_readAway [.ref 13, .ref p0] T none (x_rd_readAway T p0) := by
  unfold ok_rd_readAway at kk
  refine tC_of ?_
  refine r_p dX6_readAway_0 rfl rfl ?_
  obtain ⟨q1, kk⟩ := kk
  refine r_get dX6_readAway_1 fkX6_73 q1 rfl ?_
  refine r_ci (x := 4) dX6_readAway_4 rfl ?_
  refine r_clt dX6_readAway_5 rfl (fun c5_1 => ?_) (fun c5_1 => ?_)
  · have kk := kk c5_1
    refine r_p dX6_readAway_14 rfl rfl ?_
    refine r_ks 1 rfl dX6_readAway_15 rfl ?_
    obtain ⟨q2, kk⟩ := kk
    refine r_cv (d1 := 6) dX6_readAway_17 cvX6_54 rfl rfl rfl rfl (Nat.le_of_ble_eq_true rfl) (Nat.le_of_ble_eq_true rfl) (Nat.le_of_ble_eq_true rfl) (c_rd_takeWord 1 q2) ?_
    refine r_p dX6_readAway_20 rfl rfl ?_
    refine r_ci (x := 0) dX6_readAway_21 rfl ?_
    refine r_cb (x := 59) dX6_readAway_22 rfl ?_
    obtain ⟨q3, kk⟩ := kk
    refine r_cv (d1 := 3) dX6_readAway_24 cvX6_66 rfl rfl rfl rfl (Nat.le_of_ble_eq_true rfl) (Nat.le_of_ble_eq_true rfl) (Nat.le_of_ble_eq_true rfl) (c_rd_takeNumber 0 59 q3) ?_
    refine r_p dX6_readAway_27 rfl rfl ?_
    refine r_p dX6_readAway_28 rfl rfl ?_
    refine r_get dX6_readAway_29 fkX6_76 q1 rfl ?_
    refine r_p dX6_readAway_32 rfl rfl ?_
    refine r_get dX6_readAway_33 fkX6_73 q1 rfl ?_
    refine r_p dX6_readAway_36 rfl rfl ?_
    obtain ⟨q4, kk⟩ := kk
    obtain ⟨q5, kk⟩ := kk
    refine r_ias dX6_readAway_37 q4 q5 ?_
    refine r_eV (r' := (fun (T1 : St) => (fun (T2 : St) => sF (x_rd_takeSign T2) p0 1 (((x_rd_takeSign T2).1 p0 1) + 1)) (sA ((x_rd_takeNumber T1 ((x_rd_takeNumber (x_rd_takeWord T 1) 0 59).1) 59).2) (p0 + 3) (T1.1 p0 1 : Int32).toNatClampNeg ((x_rd_takeNumber T1 ((x_rd_takeNumber (x_rd_takeWord T 1) 0 59).1) 59).1))) (sA ((x_rd_takeNumber (x_rd_takeWord T 1) 0 59).2) (p0 + 2) (((x_rd_takeNumber (x_rd_takeWord T 1) 0 59).2).1 p0 1 : Int32).toNatClampNeg ((x_rd_takeNumber (x_rd_takeWord T 1) 0 59).1))) (by unfold x_rd_readAway; rw [if_pos c5_1]) ?_
    generalize sA ((x_rd_takeNumber (x_rd_takeWord T 1) 0 59).2) (p0 + 2) (((x_rd_takeNumber (x_rd_takeWord T 1) 0 59).2).1 p0 1 : Int32).toNatClampNeg ((x_rd_takeNumber (x_rd_takeWord T 1) 0 59).1) = T1 at kk ⊢
    try dsimp only at kk
    refine r_p dX6_readAway_38 rfl rfl ?_
    obtain ⟨q6, kk⟩ := kk
    refine r_get dX6_readAway_39 fkX6_79 q6 rfl ?_
    refine r_p dX6_readAway_42 rfl rfl ?_
    refine r_get dX6_readAway_43 fkX6_73 q6 rfl ?_
    refine r_p dX6_readAway_46 rfl rfl ?_
    refine r_p dX6_readAway_47 rfl rfl ?_
    refine r_cb (x := 59) dX6_readAway_48 rfl ?_
    obtain ⟨q7, kk⟩ := kk
    refine r_cv (d1 := 3) dX6_readAway_50 cvX6_66 rfl rfl rfl rfl (Nat.le_of_ble_eq_true rfl) (Nat.le_of_ble_eq_true rfl) (Nat.le_of_ble_eq_true rfl) (c_rd_takeNumber ((x_rd_takeNumber (x_rd_takeWord T 1) 0 59).1) 59 q7) ?_
    obtain ⟨q8, kk⟩ := kk
    obtain ⟨q9, kk⟩ := kk
    refine r_ias dX6_readAway_53 q8 q9 ?_
    refine r_eV (r' := (fun (T2 : St) => sF (x_rd_takeSign T2) p0 1 (((x_rd_takeSign T2).1 p0 1) + 1)) (sA ((x_rd_takeNumber T1 ((x_rd_takeNumber (x_rd_takeWord T 1) 0 59).1) 59).2) (p0 + 3) (T1.1 p0 1 : Int32).toNatClampNeg ((x_rd_takeNumber T1 ((x_rd_takeNumber (x_rd_takeWord T 1) 0 59).1) 59).1))) rfl ?_
    generalize sA ((x_rd_takeNumber T1 ((x_rd_takeNumber (x_rd_takeWord T 1) 0 59).1) 59).2) (p0 + 3) (T1.1 p0 1 : Int32).toNatClampNeg ((x_rd_takeNumber T1 ((x_rd_takeNumber (x_rd_takeWord T 1) 0 59).1) 59).1) = T2 at kk ⊢
    try dsimp only at kk
    refine r_p dX6_readAway_54 rfl rfl ?_
    obtain ⟨q10, kk⟩ := kk
    refine r_cv (d1 := 3) dX6_readAway_55 cvX6_70 rfl rfl rfl rfl (Nat.le_of_ble_eq_true rfl) (Nat.le_of_ble_eq_true rfl) (Nat.le_of_ble_eq_true rfl) (c_rd_takeSign  q10) ?_
    refine r_p dX6_readAway_58 rfl rfl ?_
    refine r_p dX6_readAway_59 rfl rfl ?_
    obtain ⟨q11, kk⟩ := kk
    refine r_get dX6_readAway_60 fkX6_73 q11 rfl ?_
    refine r_ci (x := 1) dX6_readAway_63 rfl ?_
    refine r_p dX6_readAway_64 rfl rfl ?_
    refine r_put dX6_readAway_65 fkX6_73 rfl q11 rfl (Nat.le_of_ble_eq_true rfl) rfl rfl ?_
    exact r_eV (r' := (sF (x_rd_takeSign T2) p0 1 (((x_rd_takeSign T2).1 p0 1) + 1))) rfl (r_rv dX6_readAway_68 rfl rfl rfl)
  · refine r_p dX6_readAway_8 rfl rfl ?_
    refine r_ci (x := 3) dX6_readAway_9 rfl ?_
    refine r_put dX6_readAway_10 fkX6_24 rfl rfl rfl (Nat.le_of_ble_eq_true rfl) rfl rfl ?_
    exact r_eV (r' := (sF T 13 2 3)) (by unfold x_rd_readAway; rw [if_neg c5_1]) (r_rv dX6_readAway_13 rfl rfl rfl)
def x_rd_readStep (T : St) (p0 : Nat) (p1 : Int32) (p2 : Int32) : St := (fun (T1 : St) => (fun (T2 : St) => jn (fun (KJ1 : St) => if p2 = 0 then (KJ1) else (if p2 = 1 then (KJ1) else (jn (fun (KJ6 : Int32 → St → St) => if 0 = 0 then (if p2 = 2 then (KJ6 2 T2) else (KJ6 0 T2)) else (KJ6 ((x_rd_takeNumber T2 0 2).1) ((x_rd_takeNumber T2 0 2).2))) (fun (j6_s2 : Int32) (T306 : St) => jn (fun (KJ7 : St) => if 0 = 0 then (if p2 = 4 then (KJ7) else (jn (fun (KJ9 : Int32 → St → St) => if 0 = 0 then (KJ9 (-1000000) (sA T306 (p0 + 12) (p1 : Int32).toNatClampNeg j6_s2)) else (if p2 = 0 then (KJ9 ((x_rd_takeNumber (sA T306 (p0 + 12) (p1 : Int32).toNatClampNeg j6_s2) 0 1).1) ((x_rd_takeNumber (sA T306 (p0 + 12) (p1 : Int32).toNatClampNeg j6_s2) 0 1).2)) else (KJ9 ((x_rd_takeNumber (sA T306 (p0 + 12) (p1 : Int32).toNatClampNeg j6_s2) 0 9).1) ((x_rd_takeNumber (sA T306 (p0 + 12) (p1 : Int32).toNatClampNeg j6_s2) 0 9).2)))) (fun (j9_s0 : Int32) (T309 : St) => if p2 = 1 then (fun (T93 : St) => x_rd_takeSign T93) (sA ((x_rd_takeNumber (sA T309 (p0 + 13) (p1 : Int32).toNatClampNeg j9_s0) j9_s0 9).2) (p0 + 14) (p1 : Int32).toNatClampNeg ((x_rd_takeNumber (sA T309 (p0 + 13) (p1 : Int32).toNatClampNeg j9_s0) j9_s0 9).1)) else (fun (T92 : St) => x_rd_takeSign T92) (sA (sA T309 (p0 + 13) (p1 : Int32).toNatClampNeg j9_s0) (p0 + 14) (p1 : Int32).toNatClampNeg (-1000000))))) else (KJ7)) (jn (fun (KJ8 : Int32 → St → St) => if 1 = 0 then (KJ8 (-1000000) (sA T306 (p0 + 12) (p1 : Int32).toNatClampNeg j6_s2)) else (if p2 = 0 then (KJ8 ((x_rd_takeNumber (sA T306 (p0 + 12) (p1 : Int32).toNatClampNeg j6_s2) 0 1).1) ((x_rd_takeNumber (sA T306 (p0 + 12) (p1 : Int32).toNatClampNeg j6_s2) 0 1).2)) else (KJ8 ((x_rd_takeNumber (sA T306 (p0 + 12) (p1 : Int32).toNatClampNeg j6_s2) 0 9).1) ((x_rd_takeNumber (sA T306 (p0 + 12) (p1 : Int32).toNatClampNeg j6_s2) 0 9).2)))) (fun (j8_s0 : Int32) (T308 : St) => if p2 = 1 then (fun (T91 : St) => x_rd_takeSign T91) (sA ((x_rd_takeNumber (sA T308 (p0 + 13) (p1 : Int32).toNatClampNeg j8_s0) j8_s0 9).2) (p0 + 14) (p1 : Int32).toNatClampNeg ((x_rd_takeNumber (sA T308 (p0 + 13) (p1 : Int32).toNatClampNeg j8_s0) j8_s0 9).1)) else (fun (T90 : St) => x_rd_takeSign T90) (sA (sA T308 (p0 + 13) (p1 : Int32).toNatClampNeg j8_s0) (p0 + 14) (p1 : Int32).toNatClampNeg (-1000000)))))))) (jn (fun (KJ2 : Int32 → St → St) => if 1 = 0 then (if p2 = 2 then (KJ2 2 T2) else (KJ2 0 T2)) else (KJ2 ((x_rd_takeNumber T2 0 2).1) ((x_rd_takeNumber T2 0 2).2))) (fun (j2_s2 : Int32) (T302 : St) => jn (fun (KJ3 : St) => if 1 = 0 then (if p2 = 4 then (KJ3) else (jn (fun (KJ5 : Int32 → St → St) => if 0 = 0 then (KJ5 (-1000000) (sA T302 (p0 + 12) (p1 : Int32).toNatClampNeg j2_s2)) else (if p2 = 0 then (KJ5 ((x_rd_takeNumber (sA T302 (p0 + 12) (p1 : Int32).toNatClampNeg j2_s2) 0 1).1) ((x_rd_takeNumber (sA T302 (p0 + 12) (p1 : Int32).toNatClampNeg j2_s2) 0 1).2)) else (KJ5 ((x_rd_takeNumber (sA T302 (p0 + 12) (p1 : Int32).toNatClampNeg j2_s2) 0 9).1) ((x_rd_takeNumber (sA T302 (p0 + 12) (p1 : Int32).toNatClampNeg j2_s2) 0 9).2)))) (fun (j5_s0 : Int32) (T305 : St) => if p2 = 1 then (fun (T81 : St) => x_rd_takeSign T81) (sA ((x_rd_takeNumber (sA T305 (p0 + 13) (p1 : Int32).toNatClampNeg j5_s0) j5_s0 9).2) (p0 + 14) (p1 : Int32).toNatClampNeg ((x_rd_takeNumber (sA T305 (p0 + 13) (p1 : Int32).toNatClampNeg j5_s0) j5_s0 9).1)) else (fun (T80 : St) => x_rd_takeSign T80) (sA (sA T305 (p0 + 13) (p1 : Int32).toNatClampNeg j5_s0) (p0 + 14) (p1 : Int32).toNatClampNeg (-1000000))))) else (KJ3)) (jn (fun (KJ4 : Int32 → St → St) => if 1 = 0 then (KJ4 (-1000000) (sA T302 (p0 + 12) (p1 : Int32).toNatClampNeg j2_s2)) else (if p2 = 0 then (KJ4 ((x_rd_takeNumber (sA T302 (p0 + 12) (p1 : Int32).toNatClampNeg j2_s2) 0 1).1) ((x_rd_takeNumber (sA T302 (p0 + 12) (p1 : Int32).toNatClampNeg j2_s2) 0 1).2)) else (KJ4 ((x_rd_takeNumber (sA T302 (p0 + 12) (p1 : Int32).toNatClampNeg j2_s2) 0 9).1) ((x_rd_takeNumber (sA T302 (p0 + 12) (p1 : Int32).toNatClampNeg j2_s2) 0 9).2)))) (fun (j4_s0 : Int32) (T304 : St) => if p2 = 1 then (fun (T79 : St) => x_rd_takeSign T79) (sA ((x_rd_takeNumber (sA T304 (p0 + 13) (p1 : Int32).toNatClampNeg j4_s0) j4_s0 9).2) (p0 + 14) (p1 : Int32).toNatClampNeg ((x_rd_takeNumber (sA T304 (p0 + 13) (p1 : Int32).toNatClampNeg j4_s0) j4_s0 9).1)) else (fun (T78 : St) => x_rd_takeSign T78) (sA (sA T304 (p0 + 13) (p1 : Int32).toNatClampNeg j4_s0) (p0 + 14) (p1 : Int32).toNatClampNeg (-1000000))))))) (sA ((x_rd_takeNumber T1 0 1).2) (p0 + 11) (p1 : Int32).toNatClampNeg ((x_rd_takeNumber T1 0 1).1))) (sA ((x_rd_takeNumber (sA T (p0 + 9) (p1 : Int32).toNatClampNeg p2) 1 30).2) (p0 + 10) (p1 : Int32).toNatClampNeg ((x_rd_takeNumber (sA T (p0 + 9) (p1 : Int32).toNatClampNeg p2) 1 30).1))
def ok_rd_readStep (T : St) (p0 : Nat) (p1 : Int32) (p2 : Int32) : Prop := (sh p0 = .inr 1) ∧ (sh (p0 + 9) = .inl (0, 24)) ∧ (vp_in p1 24) ∧ (ok_rd_takeNumber (sA T (p0 + 9) (p1 : Int32).toNatClampNeg p2) 1 30) ∧ (sh (p0 + 10) = .inl (0, 24)) ∧ (fun (T1 : St) => (sh p0 = .inr 1) ∧ (ok_rd_takeNumber T1 0 1) ∧ (sh (p0 + 11) = .inl (0, 24)) ∧ (vp_in p1 24) ∧ (fun (T2 : St) => jn (fun (OJ1 : Prop) => ((p2 = 0 → OJ1) ∧ (¬ p2 = 0 → ((p2 = 1 → OJ1) ∧ (¬ p2 = 1 → (sh p0 = .inr 1) ∧ jn (fun (OJ6 : Int32 → St → Prop) => ((0 = 0 → ((p2 = 2 → OJ6 2 T2) ∧ (¬ p2 = 2 → OJ6 0 T2))) ∧ (¬ 0 = 0 → (ok_rd_takeNumber T2 0 2) ∧ OJ6 ((x_rd_takeNumber T2 0 2).1) ((x_rd_takeNumber T2 0 2).2)))) (fun (j6_s2 : Int32) (T306 : St) => (sh (p0 + 12) = .inl (0, 24)) ∧ (vp_in p1 24) ∧ jn (fun (OJ7 : Prop) => ((0 = 0 → ((p2 = 4 → OJ7) ∧ (¬ p2 = 4 → jn (fun (OJ9 : Int32 → St → Prop) => ((0 = 0 → OJ9 (-1000000) (sA T306 (p0 + 12) (p1 : Int32).toNatClampNeg j6_s2)) ∧ (¬ 0 = 0 → ((p2 = 0 → (ok_rd_takeNumber (sA T306 (p0 + 12) (p1 : Int32).toNatClampNeg j6_s2) 0 1) ∧ OJ9 ((x_rd_takeNumber (sA T306 (p0 + 12) (p1 : Int32).toNatClampNeg j6_s2) 0 1).1) ((x_rd_takeNumber (sA T306 (p0 + 12) (p1 : Int32).toNatClampNeg j6_s2) 0 1).2)) ∧ (¬ p2 = 0 → (ok_rd_takeNumber (sA T306 (p0 + 12) (p1 : Int32).toNatClampNeg j6_s2) 0 9) ∧ OJ9 ((x_rd_takeNumber (sA T306 (p0 + 12) (p1 : Int32).toNatClampNeg j6_s2) 0 9).1) ((x_rd_takeNumber (sA T306 (p0 + 12) (p1 : Int32).toNatClampNeg j6_s2) 0 9).2)))))) (fun (j9_s0 : Int32) (T309 : St) => (sh p0 = .inr 1) ∧ (sh (p0 + 13) = .inl (0, 24)) ∧ (vp_in p1 24) ∧ ((p2 = 1 → (ok_rd_takeNumber (sA T309 (p0 + 13) (p1 : Int32).toNatClampNeg j9_s0) j9_s0 9) ∧ (sh (p0 + 14) = .inl (0, 24)) ∧ (fun (T93 : St) => (ok_rd_takeSign T93) ∧ True) (sA ((x_rd_takeNumber (sA T309 (p0 + 13) (p1 : Int32).toNatClampNeg j9_s0) j9_s0 9).2) (p0 + 14) (p1 : Int32).toNatClampNeg ((x_rd_takeNumber (sA T309 (p0 + 13) (p1 : Int32).toNatClampNeg j9_s0) j9_s0 9).1))) ∧ (¬ p2 = 1 → (sh (p0 + 14) = .inl (0, 24)) ∧ (fun (T92 : St) => (ok_rd_takeSign T92) ∧ True) (sA (sA T309 (p0 + 13) (p1 : Int32).toNatClampNeg j9_s0) (p0 + 14) (p1 : Int32).toNatClampNeg (-1000000)))))))) ∧ (¬ 0 = 0 → OJ7))) (jn (fun (OJ8 : Int32 → St → Prop) => ((1 = 0 → OJ8 (-1000000) (sA T306 (p0 + 12) (p1 : Int32).toNatClampNeg j6_s2)) ∧ (¬ 1 = 0 → ((p2 = 0 → (ok_rd_takeNumber (sA T306 (p0 + 12) (p1 : Int32).toNatClampNeg j6_s2) 0 1) ∧ OJ8 ((x_rd_takeNumber (sA T306 (p0 + 12) (p1 : Int32).toNatClampNeg j6_s2) 0 1).1) ((x_rd_takeNumber (sA T306 (p0 + 12) (p1 : Int32).toNatClampNeg j6_s2) 0 1).2)) ∧ (¬ p2 = 0 → (ok_rd_takeNumber (sA T306 (p0 + 12) (p1 : Int32).toNatClampNeg j6_s2) 0 9) ∧ OJ8 ((x_rd_takeNumber (sA T306 (p0 + 12) (p1 : Int32).toNatClampNeg j6_s2) 0 9).1) ((x_rd_takeNumber (sA T306 (p0 + 12) (p1 : Int32).toNatClampNeg j6_s2) 0 9).2)))))) (fun (j8_s0 : Int32) (T308 : St) => (sh p0 = .inr 1) ∧ (sh (p0 + 13) = .inl (0, 24)) ∧ (vp_in p1 24) ∧ ((p2 = 1 → (ok_rd_takeNumber (sA T308 (p0 + 13) (p1 : Int32).toNatClampNeg j8_s0) j8_s0 9) ∧ (sh (p0 + 14) = .inl (0, 24)) ∧ (fun (T91 : St) => (ok_rd_takeSign T91) ∧ True) (sA ((x_rd_takeNumber (sA T308 (p0 + 13) (p1 : Int32).toNatClampNeg j8_s0) j8_s0 9).2) (p0 + 14) (p1 : Int32).toNatClampNeg ((x_rd_takeNumber (sA T308 (p0 + 13) (p1 : Int32).toNatClampNeg j8_s0) j8_s0 9).1))) ∧ (¬ p2 = 1 → (sh (p0 + 14) = .inl (0, 24)) ∧ (fun (T90 : St) => (ok_rd_takeSign T90) ∧ True) (sA (sA T308 (p0 + 13) (p1 : Int32).toNatClampNeg j8_s0) (p0 + 14) (p1 : Int32).toNatClampNeg (-1000000)))))))))))) ((sh p0 = .inr 1) ∧ jn (fun (OJ2 : Int32 → St → Prop) => ((1 = 0 → ((p2 = 2 → OJ2 2 T2) ∧ (¬ p2 = 2 → OJ2 0 T2))) ∧ (¬ 1 = 0 → (ok_rd_takeNumber T2 0 2) ∧ OJ2 ((x_rd_takeNumber T2 0 2).1) ((x_rd_takeNumber T2 0 2).2)))) (fun (j2_s2 : Int32) (T302 : St) => (sh (p0 + 12) = .inl (0, 24)) ∧ (vp_in p1 24) ∧ jn (fun (OJ3 : Prop) => ((1 = 0 → ((p2 = 4 → OJ3) ∧ (¬ p2 = 4 → jn (fun (OJ5 : Int32 → St → Prop) => ((0 = 0 → OJ5 (-1000000) (sA T302 (p0 + 12) (p1 : Int32).toNatClampNeg j2_s2)) ∧ (¬ 0 = 0 → ((p2 = 0 → (ok_rd_takeNumber (sA T302 (p0 + 12) (p1 : Int32).toNatClampNeg j2_s2) 0 1) ∧ OJ5 ((x_rd_takeNumber (sA T302 (p0 + 12) (p1 : Int32).toNatClampNeg j2_s2) 0 1).1) ((x_rd_takeNumber (sA T302 (p0 + 12) (p1 : Int32).toNatClampNeg j2_s2) 0 1).2)) ∧ (¬ p2 = 0 → (ok_rd_takeNumber (sA T302 (p0 + 12) (p1 : Int32).toNatClampNeg j2_s2) 0 9) ∧ OJ5 ((x_rd_takeNumber (sA T302 (p0 + 12) (p1 : Int32).toNatClampNeg j2_s2) 0 9).1) ((x_rd_takeNumber (sA T302 (p0 + 12) (p1 : Int32).toNatClampNeg j2_s2) 0 9).2)))))) (fun (j5_s0 : Int32) (T305 : St) => (sh p0 = .inr 1) ∧ (sh (p0 + 13) = .inl (0, 24)) ∧ (vp_in p1 24) ∧ ((p2 = 1 → (ok_rd_takeNumber (sA T305 (p0 + 13) (p1 : Int32).toNatClampNeg j5_s0) j5_s0 9) ∧ (sh (p0 + 14) = .inl (0, 24)) ∧ (fun (T81 : St) => (ok_rd_takeSign T81) ∧ True) (sA ((x_rd_takeNumber (sA T305 (p0 + 13) (p1 : Int32).toNatClampNeg j5_s0) j5_s0 9).2) (p0 + 14) (p1 : Int32).toNatClampNeg ((x_rd_takeNumber (sA T305 (p0 + 13) (p1 : Int32).toNatClampNeg j5_s0) j5_s0 9).1))) ∧ (¬ p2 = 1 → (sh (p0 + 14) = .inl (0, 24)) ∧ (fun (T80 : St) => (ok_rd_takeSign T80) ∧ True) (sA (sA T305 (p0 + 13) (p1 : Int32).toNatClampNeg j5_s0) (p0 + 14) (p1 : Int32).toNatClampNeg (-1000000)))))))) ∧ (¬ 1 = 0 → OJ3))) (jn (fun (OJ4 : Int32 → St → Prop) => ((1 = 0 → OJ4 (-1000000) (sA T302 (p0 + 12) (p1 : Int32).toNatClampNeg j2_s2)) ∧ (¬ 1 = 0 → ((p2 = 0 → (ok_rd_takeNumber (sA T302 (p0 + 12) (p1 : Int32).toNatClampNeg j2_s2) 0 1) ∧ OJ4 ((x_rd_takeNumber (sA T302 (p0 + 12) (p1 : Int32).toNatClampNeg j2_s2) 0 1).1) ((x_rd_takeNumber (sA T302 (p0 + 12) (p1 : Int32).toNatClampNeg j2_s2) 0 1).2)) ∧ (¬ p2 = 0 → (ok_rd_takeNumber (sA T302 (p0 + 12) (p1 : Int32).toNatClampNeg j2_s2) 0 9) ∧ OJ4 ((x_rd_takeNumber (sA T302 (p0 + 12) (p1 : Int32).toNatClampNeg j2_s2) 0 9).1) ((x_rd_takeNumber (sA T302 (p0 + 12) (p1 : Int32).toNatClampNeg j2_s2) 0 9).2)))))) (fun (j4_s0 : Int32) (T304 : St) => (sh p0 = .inr 1) ∧ (sh (p0 + 13) = .inl (0, 24)) ∧ (vp_in p1 24) ∧ ((p2 = 1 → (ok_rd_takeNumber (sA T304 (p0 + 13) (p1 : Int32).toNatClampNeg j4_s0) j4_s0 9) ∧ (sh (p0 + 14) = .inl (0, 24)) ∧ (fun (T79 : St) => (ok_rd_takeSign T79) ∧ True) (sA ((x_rd_takeNumber (sA T304 (p0 + 13) (p1 : Int32).toNatClampNeg j4_s0) j4_s0 9).2) (p0 + 14) (p1 : Int32).toNatClampNeg ((x_rd_takeNumber (sA T304 (p0 + 13) (p1 : Int32).toNatClampNeg j4_s0) j4_s0 9).1))) ∧ (¬ p2 = 1 → (sh (p0 + 14) = .inl (0, 24)) ∧ (fun (T78 : St) => (ok_rd_takeSign T78) ∧ True) (sA (sA T304 (p0 + 13) (p1 : Int32).toNatClampNeg j4_s0) (p0 + 14) (p1 : Int32).toNatClampNeg (-1000000))))))))) (sA ((x_rd_takeNumber T1 0 1).2) (p0 + 11) (p1 : Int32).toNatClampNeg ((x_rd_takeNumber T1 0 1).1))) (sA ((x_rd_takeNumber (sA T (p0 + 9) (p1 : Int32).toNatClampNeg p2) 1 30).2) (p0 + 10) (p1 : Int32).toNatClampNeg ((x_rd_takeNumber (sA T (p0 + 9) (p1 : Int32).toNatClampNeg p2) 1 30).1))
theorem c_rd_readStep {X : Nat × (Nat → Int32)} {T : St} (p0 : Nat) (p1 : Int32) (p2 : Int32) (kk : ok_rd_readStep T p0 p1 p2) : tC X 4 mX6_readStep [.ref 13, .ref p0, .int p1, .int p2] T none (x_rd_readStep T p0 p1 p2) := by
  unfold ok_rd_readStep at kk
  refine tC_of ?_
  refine r_p dX6_readStep_0 rfl rfl ?_
  obtain ⟨q1, kk⟩ := kk
  refine r_get dX6_readStep_1 fkX6_116 q1 rfl ?_
  refine r_p dX6_readStep_4 rfl rfl ?_
  refine r_p dX6_readStep_5 rfl rfl ?_
  obtain ⟨q2, kk⟩ := kk
  obtain ⟨q3, kk⟩ := kk
  refine r_ias dX6_readStep_6 q2 q3 ?_
  refine r_p dX6_readStep_7 rfl rfl ?_
  refine r_get dX6_readStep_8 fkX6_119 q1 rfl ?_
  refine r_p dX6_readStep_11 rfl rfl ?_
  refine r_p dX6_readStep_12 rfl rfl ?_
  refine r_ci (x := 1) dX6_readStep_13 rfl ?_
  refine r_cb (x := 30) dX6_readStep_14 rfl ?_
  obtain ⟨q4, kk⟩ := kk
  refine r_cv (d1 := 3) dX6_readStep_16 cvX6_66 rfl rfl rfl rfl (Nat.le_of_ble_eq_true rfl) (Nat.le_of_ble_eq_true rfl) (Nat.le_of_ble_eq_true rfl) (c_rd_takeNumber 1 30 q4) ?_
  obtain ⟨q5, kk⟩ := kk
  refine r_ias dX6_readStep_19 q5 q3 ?_
  refine r_eV (r' := (fun (T1 : St) => (fun (T2 : St) => jn (fun (KJ1 : St) => if p2 = 0 then (KJ1) else (if p2 = 1 then (KJ1) else (jn (fun (KJ6 : Int32 → St → St) => if 0 = 0 then (if p2 = 2 then (KJ6 2 T2) else (KJ6 0 T2)) else (KJ6 ((x_rd_takeNumber T2 0 2).1) ((x_rd_takeNumber T2 0 2).2))) (fun (j6_s2 : Int32) (T306 : St) => jn (fun (KJ7 : St) => if 0 = 0 then (if p2 = 4 then (KJ7) else (jn (fun (KJ9 : Int32 → St → St) => if 0 = 0 then (KJ9 (-1000000) (sA T306 (p0 + 12) (p1 : Int32).toNatClampNeg j6_s2)) else (if p2 = 0 then (KJ9 ((x_rd_takeNumber (sA T306 (p0 + 12) (p1 : Int32).toNatClampNeg j6_s2) 0 1).1) ((x_rd_takeNumber (sA T306 (p0 + 12) (p1 : Int32).toNatClampNeg j6_s2) 0 1).2)) else (KJ9 ((x_rd_takeNumber (sA T306 (p0 + 12) (p1 : Int32).toNatClampNeg j6_s2) 0 9).1) ((x_rd_takeNumber (sA T306 (p0 + 12) (p1 : Int32).toNatClampNeg j6_s2) 0 9).2)))) (fun (j9_s0 : Int32) (T309 : St) => if p2 = 1 then (fun (T93 : St) => x_rd_takeSign T93) (sA ((x_rd_takeNumber (sA T309 (p0 + 13) (p1 : Int32).toNatClampNeg j9_s0) j9_s0 9).2) (p0 + 14) (p1 : Int32).toNatClampNeg ((x_rd_takeNumber (sA T309 (p0 + 13) (p1 : Int32).toNatClampNeg j9_s0) j9_s0 9).1)) else (fun (T92 : St) => x_rd_takeSign T92) (sA (sA T309 (p0 + 13) (p1 : Int32).toNatClampNeg j9_s0) (p0 + 14) (p1 : Int32).toNatClampNeg (-1000000))))) else (KJ7)) (jn (fun (KJ8 : Int32 → St → St) => if 1 = 0 then (KJ8 (-1000000) (sA T306 (p0 + 12) (p1 : Int32).toNatClampNeg j6_s2)) else (if p2 = 0 then (KJ8 ((x_rd_takeNumber (sA T306 (p0 + 12) (p1 : Int32).toNatClampNeg j6_s2) 0 1).1) ((x_rd_takeNumber (sA T306 (p0 + 12) (p1 : Int32).toNatClampNeg j6_s2) 0 1).2)) else (KJ8 ((x_rd_takeNumber (sA T306 (p0 + 12) (p1 : Int32).toNatClampNeg j6_s2) 0 9).1) ((x_rd_takeNumber (sA T306 (p0 + 12) (p1 : Int32).toNatClampNeg j6_s2) 0 9).2)))) (fun (j8_s0 : Int32) (T308 : St) => if p2 = 1 then (fun (T91 : St) => x_rd_takeSign T91) (sA ((x_rd_takeNumber (sA T308 (p0 + 13) (p1 : Int32).toNatClampNeg j8_s0) j8_s0 9).2) (p0 + 14) (p1 : Int32).toNatClampNeg ((x_rd_takeNumber (sA T308 (p0 + 13) (p1 : Int32).toNatClampNeg j8_s0) j8_s0 9).1)) else (fun (T90 : St) => x_rd_takeSign T90) (sA (sA T308 (p0 + 13) (p1 : Int32).toNatClampNeg j8_s0) (p0 + 14) (p1 : Int32).toNatClampNeg (-1000000)))))))) (jn (fun (KJ2 : Int32 → St → St) => if 1 = 0 then (if p2 = 2 then (KJ2 2 T2) else (KJ2 0 T2)) else (KJ2 ((x_rd_takeNumber T2 0 2).1) ((x_rd_takeNumber T2 0 2).2))) (fun (j2_s2 : Int32) (T302 : St) => jn (fun (KJ3 : St) => if 1 = 0 then (if p2 = 4 then (KJ3) else (jn (fun (KJ5 : Int32 → St → St) => if 0 = 0 then (KJ5 (-1000000) (sA T302 (p0 + 12) (p1 : Int32).toNatClampNeg j2_s2)) else (if p2 = 0 then (KJ5 ((x_rd_takeNumber (sA T302 (p0 + 12) (p1 : Int32).toNatClampNeg j2_s2) 0 1).1) ((x_rd_takeNumber (sA T302 (p0 + 12) (p1 : Int32).toNatClampNeg j2_s2) 0 1).2)) else (KJ5 ((x_rd_takeNumber (sA T302 (p0 + 12) (p1 : Int32).toNatClampNeg j2_s2) 0 9).1) ((x_rd_takeNumber (sA T302 (p0 + 12) (p1 : Int32).toNatClampNeg j2_s2) 0 9).2)))) (fun (j5_s0 : Int32) (T305 : St) => if p2 = 1 then (fun (T81 : St) => x_rd_takeSign T81) (sA ((x_rd_takeNumber (sA T305 (p0 + 13) (p1 : Int32).toNatClampNeg j5_s0) j5_s0 9).2) (p0 + 14) (p1 : Int32).toNatClampNeg ((x_rd_takeNumber (sA T305 (p0 + 13) (p1 : Int32).toNatClampNeg j5_s0) j5_s0 9).1)) else (fun (T80 : St) => x_rd_takeSign T80) (sA (sA T305 (p0 + 13) (p1 : Int32).toNatClampNeg j5_s0) (p0 + 14) (p1 : Int32).toNatClampNeg (-1000000))))) else (KJ3)) (jn (fun (KJ4 : Int32 → St → St) => if 1 = 0 then (KJ4 (-1000000) (sA T302 (p0 + 12) (p1 : Int32).toNatClampNeg j2_s2)) else (if p2 = 0 then (KJ4 ((x_rd_takeNumber (sA T302 (p0 + 12) (p1 : Int32).toNatClampNeg j2_s2) 0 1).1) ((x_rd_takeNumber (sA T302 (p0 + 12) (p1 : Int32).toNatClampNeg j2_s2) 0 1).2)) else (KJ4 ((x_rd_takeNumber (sA T302 (p0 + 12) (p1 : Int32).toNatClampNeg j2_s2) 0 9).1) ((x_rd_takeNumber (sA T302 (p0 + 12) (p1 : Int32).toNatClampNeg j2_s2) 0 9).2)))) (fun (j4_s0 : Int32) (T304 : St) => if p2 = 1 then (fun (T79 : St) => x_rd_takeSign T79) (sA ((x_rd_takeNumber (sA T304 (p0 + 13) (p1 : Int32).toNatClampNeg j4_s0) j4_s0 9).2) (p0 + 14) (p1 : Int32).toNatClampNeg ((x_rd_takeNumber (sA T304 (p0 + 13) (p1 : Int32).toNatClampNeg j4_s0) j4_s0 9).1)) else (fun (T78 : St) => x_rd_takeSign T78) (sA (sA T304 (p0 + 13) (p1 : Int32).toNatClampNeg j4_s0) (p0 + 14) (p1 : Int32).toNatClampNeg (-1000000))))))) (sA ((x_rd_takeNumber T1 0 1).2) (p0 + 11) (p1 : Int32).toNatClampNeg ((x_rd_takeNumber T1 0 1).1))) (sA ((x_rd_takeNumber (sA T (p0 + 9) (p1 : Int32).toNatClampNeg p2) 1 30).2) (p0 + 10) (p1 : Int32).toNatClampNeg ((x_rd_takeNumber (sA T (p0 + 9) (p1 : Int32).toNatClampNeg p2) 1 30).1))) (by unfold x_rd_readStep; rfl) ?_
  generalize sA ((x_rd_takeNumber (sA T (p0 + 9) (p1 : Int32).toNatClampNeg p2) 1 30).2) (p0 + 10) (p1 : Int32).toNatClampNeg ((x_rd_takeNumber (sA T (p0 + 9) (p1 : Int32).toNatClampNeg p2) 1 30).1) = T1 at kk ⊢
  try dsimp only at kk
  refine r_p dX6_readStep_20 rfl rfl ?_
  obtain ⟨q6, kk⟩ := kk
  refine r_get dX6_readStep_21 fkX6_122 q6 rfl ?_
  refine r_p dX6_readStep_24 rfl rfl ?_
  refine r_p dX6_readStep_25 rfl rfl ?_
  refine r_ci (x := 0) dX6_readStep_26 rfl ?_
  refine r_ci (x := 1) dX6_readStep_27 rfl ?_
  obtain ⟨q7, kk⟩ := kk
  refine r_cv (d1 := 3) dX6_readStep_28 cvX6_66 rfl rfl rfl rfl (Nat.le_of_ble_eq_true rfl) (Nat.le_of_ble_eq_true rfl) (Nat.le_of_ble_eq_true rfl) (c_rd_takeNumber 0 1 q7) ?_
  obtain ⟨q8, kk⟩ := kk
  obtain ⟨q9, kk⟩ := kk
  refine r_ias dX6_readStep_31 q8 q9 ?_
  refine r_eV (r' := (fun (T2 : St) => jn (fun (KJ1 : St) => if p2 = 0 then (KJ1) else (if p2 = 1 then (KJ1) else (jn (fun (KJ6 : Int32 → St → St) => if 0 = 0 then (if p2 = 2 then (KJ6 2 T2) else (KJ6 0 T2)) else (KJ6 ((x_rd_takeNumber T2 0 2).1) ((x_rd_takeNumber T2 0 2).2))) (fun (j6_s2 : Int32) (T306 : St) => jn (fun (KJ7 : St) => if 0 = 0 then (if p2 = 4 then (KJ7) else (jn (fun (KJ9 : Int32 → St → St) => if 0 = 0 then (KJ9 (-1000000) (sA T306 (p0 + 12) (p1 : Int32).toNatClampNeg j6_s2)) else (if p2 = 0 then (KJ9 ((x_rd_takeNumber (sA T306 (p0 + 12) (p1 : Int32).toNatClampNeg j6_s2) 0 1).1) ((x_rd_takeNumber (sA T306 (p0 + 12) (p1 : Int32).toNatClampNeg j6_s2) 0 1).2)) else (KJ9 ((x_rd_takeNumber (sA T306 (p0 + 12) (p1 : Int32).toNatClampNeg j6_s2) 0 9).1) ((x_rd_takeNumber (sA T306 (p0 + 12) (p1 : Int32).toNatClampNeg j6_s2) 0 9).2)))) (fun (j9_s0 : Int32) (T309 : St) => if p2 = 1 then (fun (T93 : St) => x_rd_takeSign T93) (sA ((x_rd_takeNumber (sA T309 (p0 + 13) (p1 : Int32).toNatClampNeg j9_s0) j9_s0 9).2) (p0 + 14) (p1 : Int32).toNatClampNeg ((x_rd_takeNumber (sA T309 (p0 + 13) (p1 : Int32).toNatClampNeg j9_s0) j9_s0 9).1)) else (fun (T92 : St) => x_rd_takeSign T92) (sA (sA T309 (p0 + 13) (p1 : Int32).toNatClampNeg j9_s0) (p0 + 14) (p1 : Int32).toNatClampNeg (-1000000))))) else (KJ7)) (jn (fun (KJ8 : Int32 → St → St) => if 1 = 0 then (KJ8 (-1000000) (sA T306 (p0 + 12) (p1 : Int32).toNatClampNeg j6_s2)) else (if p2 = 0 then (KJ8 ((x_rd_takeNumber (sA T306 (p0 + 12) (p1 : Int32).toNatClampNeg j6_s2) 0 1).1) ((x_rd_takeNumber (sA T306 (p0 + 12) (p1 : Int32).toNatClampNeg j6_s2) 0 1).2)) else (KJ8 ((x_rd_takeNumber (sA T306 (p0 + 12) (p1 : Int32).toNatClampNeg j6_s2) 0 9).1) ((x_rd_takeNumber (sA T306 (p0 + 12) (p1 : Int32).toNatClampNeg j6_s2) 0 9).2)))) (fun (j8_s0 : Int32) (T308 : St) => if p2 = 1 then (fun (T91 : St) => x_rd_takeSign T91) (sA ((x_rd_takeNumber (sA T308 (p0 + 13) (p1 : Int32).toNatClampNeg j8_s0) j8_s0 9).2) (p0 + 14) (p1 : Int32).toNatClampNeg ((x_rd_takeNumber (sA T308 (p0 + 13) (p1 : Int32).toNatClampNeg j8_s0) j8_s0 9).1)) else (fun (T90 : St) => x_rd_takeSign T90) (sA (sA T308 (p0 + 13) (p1 : Int32).toNatClampNeg j8_s0) (p0 + 14) (p1 : Int32).toNatClampNeg (-1000000)))))))) (jn (fun (KJ2 : Int32 → St → St) => if 1 = 0 then (if p2 = 2 then (KJ2 2 T2) else (KJ2 0 T2)) else (KJ2 ((x_rd_takeNumber T2 0 2).1) ((x_rd_takeNumber T2 0 2).2))) (fun (j2_s2 : Int32) (T302 : St) => jn (fun (KJ3 : St) => if 1 = 0 then (if p2 = 4 then (KJ3) else (jn (fun (KJ5 : Int32 → St → St) => if 0 = 0 then (KJ5 (-1000000) (sA T302 (p0 + 12) (p1 : Int32).toNatClampNeg j2_s2)) else (if p2 = 0 then (KJ5 ((x_rd_takeNumber (sA T302 (p0 + 12) (p1 : Int32).toNatClampNeg j2_s2) 0 1).1) ((x_rd_takeNumber (sA T302 (p0 + 12) (p1 : Int32).toNatClampNeg j2_s2) 0 1).2)) else (KJ5 ((x_rd_takeNumber (sA T302 (p0 + 12) (p1 : Int32).toNatClampNeg j2_s2) 0 9).1) ((x_rd_takeNumber (sA T302 (p0 + 12) (p1 : Int32).toNatClampNeg j2_s2) 0 9).2)))) (fun (j5_s0 : Int32) (T305 : St) => if p2 = 1 then (fun (T81 : St) => x_rd_takeSign T81) (sA ((x_rd_takeNumber (sA T305 (p0 + 13) (p1 : Int32).toNatClampNeg j5_s0) j5_s0 9).2) (p0 + 14) (p1 : Int32).toNatClampNeg ((x_rd_takeNumber (sA T305 (p0 + 13) (p1 : Int32).toNatClampNeg j5_s0) j5_s0 9).1)) else (fun (T80 : St) => x_rd_takeSign T80) (sA (sA T305 (p0 + 13) (p1 : Int32).toNatClampNeg j5_s0) (p0 + 14) (p1 : Int32).toNatClampNeg (-1000000))))) else (KJ3)) (jn (fun (KJ4 : Int32 → St → St) => if 1 = 0 then (KJ4 (-1000000) (sA T302 (p0 + 12) (p1 : Int32).toNatClampNeg j2_s2)) else (if p2 = 0 then (KJ4 ((x_rd_takeNumber (sA T302 (p0 + 12) (p1 : Int32).toNatClampNeg j2_s2) 0 1).1) ((x_rd_takeNumber (sA T302 (p0 + 12) (p1 : Int32).toNatClampNeg j2_s2) 0 1).2)) else (KJ4 ((x_rd_takeNumber (sA T302 (p0 + 12) (p1 : Int32).toNatClampNeg j2_s2) 0 9).1) ((x_rd_takeNumber (sA T302 (p0 + 12) (p1 : Int32).toNatClampNeg j2_s2) 0 9).2)))) (fun (j4_s0 : Int32) (T304 : St) => if p2 = 1 then (fun (T79 : St) => x_rd_takeSign T79) (sA ((x_rd_takeNumber (sA T304 (p0 + 13) (p1 : Int32).toNatClampNeg j4_s0) j4_s0 9).2) (p0 + 14) (p1 : Int32).toNatClampNeg ((x_rd_takeNumber (sA T304 (p0 + 13) (p1 : Int32).toNatClampNeg j4_s0) j4_s0 9).1)) else (fun (T78 : St) => x_rd_takeSign T78) (sA (sA T304 (p0 + 13) (p1 : Int32).toNatClampNeg j4_s0) (p0 + 14) (p1 : Int32).toNatClampNeg (-1000000))))))) (sA ((x_rd_takeNumber T1 0 1).2) (p0 + 11) (p1 : Int32).toNatClampNeg ((x_rd_takeNumber T1 0 1).1))) rfl ?_
  generalize sA ((x_rd_takeNumber T1 0 1).2) (p0 + 11) (p1 : Int32).toNatClampNeg ((x_rd_takeNumber T1 0 1).1) = T2 at kk ⊢
  try dsimp only at kk
  refine r_p dX6_readStep_32 rfl rfl ?_
  obtain ⟨KJ1, hKJ1⟩ : ∃ q : St, q = (jn (fun (KJ2 : Int32 → St → St) => if 1 = 0 then (if p2 = 2 then (KJ2 2 T2) else (KJ2 0 T2)) else (KJ2 ((x_rd_takeNumber T2 0 2).1) ((x_rd_takeNumber T2 0 2).2))) (fun (j2_s2 : Int32) (T302 : St) => jn (fun (KJ3 : St) => if 1 = 0 then (if p2 = 4 then (KJ3) else (jn (fun (KJ5 : Int32 → St → St) => if 0 = 0 then (KJ5 (-1000000) (sA T302 (p0 + 12) (p1 : Int32).toNatClampNeg j2_s2)) else (if p2 = 0 then (KJ5 ((x_rd_takeNumber (sA T302 (p0 + 12) (p1 : Int32).toNatClampNeg j2_s2) 0 1).1) ((x_rd_takeNumber (sA T302 (p0 + 12) (p1 : Int32).toNatClampNeg j2_s2) 0 1).2)) else (KJ5 ((x_rd_takeNumber (sA T302 (p0 + 12) (p1 : Int32).toNatClampNeg j2_s2) 0 9).1) ((x_rd_takeNumber (sA T302 (p0 + 12) (p1 : Int32).toNatClampNeg j2_s2) 0 9).2)))) (fun (j5_s0 : Int32) (T305 : St) => if p2 = 1 then (fun (T81 : St) => x_rd_takeSign T81) (sA ((x_rd_takeNumber (sA T305 (p0 + 13) (p1 : Int32).toNatClampNeg j5_s0) j5_s0 9).2) (p0 + 14) (p1 : Int32).toNatClampNeg ((x_rd_takeNumber (sA T305 (p0 + 13) (p1 : Int32).toNatClampNeg j5_s0) j5_s0 9).1)) else (fun (T80 : St) => x_rd_takeSign T80) (sA (sA T305 (p0 + 13) (p1 : Int32).toNatClampNeg j5_s0) (p0 + 14) (p1 : Int32).toNatClampNeg (-1000000))))) else (KJ3)) (jn (fun (KJ4 : Int32 → St → St) => if 1 = 0 then (KJ4 (-1000000) (sA T302 (p0 + 12) (p1 : Int32).toNatClampNeg j2_s2)) else (if p2 = 0 then (KJ4 ((x_rd_takeNumber (sA T302 (p0 + 12) (p1 : Int32).toNatClampNeg j2_s2) 0 1).1) ((x_rd_takeNumber (sA T302 (p0 + 12) (p1 : Int32).toNatClampNeg j2_s2) 0 1).2)) else (KJ4 ((x_rd_takeNumber (sA T302 (p0 + 12) (p1 : Int32).toNatClampNeg j2_s2) 0 9).1) ((x_rd_takeNumber (sA T302 (p0 + 12) (p1 : Int32).toNatClampNeg j2_s2) 0 9).2)))) (fun (j4_s0 : Int32) (T304 : St) => if p2 = 1 then (fun (T79 : St) => x_rd_takeSign T79) (sA ((x_rd_takeNumber (sA T304 (p0 + 13) (p1 : Int32).toNatClampNeg j4_s0) j4_s0 9).2) (p0 + 14) (p1 : Int32).toNatClampNeg ((x_rd_takeNumber (sA T304 (p0 + 13) (p1 : Int32).toNatClampNeg j4_s0) j4_s0 9).1)) else (fun (T78 : St) => x_rd_takeSign T78) (sA (sA T304 (p0 + 13) (p1 : Int32).toNatClampNeg j4_s0) (p0 + 14) (p1 : Int32).toNatClampNeg (-1000000)))))) := ⟨_, rfl⟩
  obtain ⟨OJ1, hOJ1⟩ : ∃ q : Prop, q = ((sh p0 = .inr 1) ∧ jn (fun (OJ2 : Int32 → St → Prop) => ((1 = 0 → ((p2 = 2 → OJ2 2 T2) ∧ (¬ p2 = 2 → OJ2 0 T2))) ∧ (¬ 1 = 0 → (ok_rd_takeNumber T2 0 2) ∧ OJ2 ((x_rd_takeNumber T2 0 2).1) ((x_rd_takeNumber T2 0 2).2)))) (fun (j2_s2 : Int32) (T302 : St) => (sh (p0 + 12) = .inl (0, 24)) ∧ (vp_in p1 24) ∧ jn (fun (OJ3 : Prop) => ((1 = 0 → ((p2 = 4 → OJ3) ∧ (¬ p2 = 4 → jn (fun (OJ5 : Int32 → St → Prop) => ((0 = 0 → OJ5 (-1000000) (sA T302 (p0 + 12) (p1 : Int32).toNatClampNeg j2_s2)) ∧ (¬ 0 = 0 → ((p2 = 0 → (ok_rd_takeNumber (sA T302 (p0 + 12) (p1 : Int32).toNatClampNeg j2_s2) 0 1) ∧ OJ5 ((x_rd_takeNumber (sA T302 (p0 + 12) (p1 : Int32).toNatClampNeg j2_s2) 0 1).1) ((x_rd_takeNumber (sA T302 (p0 + 12) (p1 : Int32).toNatClampNeg j2_s2) 0 1).2)) ∧ (¬ p2 = 0 → (ok_rd_takeNumber (sA T302 (p0 + 12) (p1 : Int32).toNatClampNeg j2_s2) 0 9) ∧ OJ5 ((x_rd_takeNumber (sA T302 (p0 + 12) (p1 : Int32).toNatClampNeg j2_s2) 0 9).1) ((x_rd_takeNumber (sA T302 (p0 + 12) (p1 : Int32).toNatClampNeg j2_s2) 0 9).2)))))) (fun (j5_s0 : Int32) (T305 : St) => (sh p0 = .inr 1) ∧ (sh (p0 + 13) = .inl (0, 24)) ∧ (vp_in p1 24) ∧ ((p2 = 1 → (ok_rd_takeNumber (sA T305 (p0 + 13) (p1 : Int32).toNatClampNeg j5_s0) j5_s0 9) ∧ (sh (p0 + 14) = .inl (0, 24)) ∧ (fun (T81 : St) => (ok_rd_takeSign T81) ∧ True) (sA ((x_rd_takeNumber (sA T305 (p0 + 13) (p1 : Int32).toNatClampNeg j5_s0) j5_s0 9).2) (p0 + 14) (p1 : Int32).toNatClampNeg ((x_rd_takeNumber (sA T305 (p0 + 13) (p1 : Int32).toNatClampNeg j5_s0) j5_s0 9).1))) ∧ (¬ p2 = 1 → (sh (p0 + 14) = .inl (0, 24)) ∧ (fun (T80 : St) => (ok_rd_takeSign T80) ∧ True) (sA (sA T305 (p0 + 13) (p1 : Int32).toNatClampNeg j5_s0) (p0 + 14) (p1 : Int32).toNatClampNeg (-1000000)))))))) ∧ (¬ 1 = 0 → OJ3))) (jn (fun (OJ4 : Int32 → St → Prop) => ((1 = 0 → OJ4 (-1000000) (sA T302 (p0 + 12) (p1 : Int32).toNatClampNeg j2_s2)) ∧ (¬ 1 = 0 → ((p2 = 0 → (ok_rd_takeNumber (sA T302 (p0 + 12) (p1 : Int32).toNatClampNeg j2_s2) 0 1) ∧ OJ4 ((x_rd_takeNumber (sA T302 (p0 + 12) (p1 : Int32).toNatClampNeg j2_s2) 0 1).1) ((x_rd_takeNumber (sA T302 (p0 + 12) (p1 : Int32).toNatClampNeg j2_s2) 0 1).2)) ∧ (¬ p2 = 0 → (ok_rd_takeNumber (sA T302 (p0 + 12) (p1 : Int32).toNatClampNeg j2_s2) 0 9) ∧ OJ4 ((x_rd_takeNumber (sA T302 (p0 + 12) (p1 : Int32).toNatClampNeg j2_s2) 0 9).1) ((x_rd_takeNumber (sA T302 (p0 + 12) (p1 : Int32).toNatClampNeg j2_s2) 0 9).2)))))) (fun (j4_s0 : Int32) (T304 : St) => (sh p0 = .inr 1) ∧ (sh (p0 + 13) = .inl (0, 24)) ∧ (vp_in p1 24) ∧ ((p2 = 1 → (ok_rd_takeNumber (sA T304 (p0 + 13) (p1 : Int32).toNatClampNeg j4_s0) j4_s0 9) ∧ (sh (p0 + 14) = .inl (0, 24)) ∧ (fun (T79 : St) => (ok_rd_takeSign T79) ∧ True) (sA ((x_rd_takeNumber (sA T304 (p0 + 13) (p1 : Int32).toNatClampNeg j4_s0) j4_s0 9).2) (p0 + 14) (p1 : Int32).toNatClampNeg ((x_rd_takeNumber (sA T304 (p0 + 13) (p1 : Int32).toNatClampNeg j4_s0) j4_s0 9).1))) ∧ (¬ p2 = 1 → (sh (p0 + 14) = .inl (0, 24)) ∧ (fun (T78 : St) => (ok_rd_takeSign T78) ∧ True) (sA (sA T304 (p0 + 13) (p1 : Int32).toNatClampNeg j4_s0) (p0 + 14) (p1 : Int32).toNatClampNeg (-1000000)))))))) := ⟨_, rfl⟩
  rw [← hOJ1] at kk
  simp only [jn] at kk
  have hJ1 : OJ1 → tR X 3 mX6_readStep 41 [some (.ref 13), some (.ref p0), some (.int p1), some (.int p2), none, none, none] [] T2 none KJ1 := by
    intro  kk
    rw [hOJ1] at kk
    try dsimp only at kk
    rw [hKJ1]
    refine r_ci (x := 1) dX6_readStep_41 rfl ?_
    refine r_go dX6_readStep_42 rfl ?_
    refine r_p dX6_readStep_46 rfl rfl ?_
    refine r_p dX6_readStep_48 rfl rfl ?_
    obtain ⟨q288, kk⟩ := kk
    refine r_get dX6_readStep_49 fkX6_125 q288 rfl ?_
    refine r_p dX6_readStep_52 rfl rfl ?_
    refine r_p dX6_readStep_53 rfl rfl ?_
    obtain ⟨KJ2, hKJ2⟩ : ∃ q : Int32 → St → St, q = (fun (j2_s2 : Int32) (T302 : St) => jn (fun (KJ3 : St) => if 1 = 0 then (if p2 = 4 then (KJ3) else (jn (fun (KJ5 : Int32 → St → St) => if 0 = 0 then (KJ5 (-1000000) (sA T302 (p0 + 12) (p1 : Int32).toNatClampNeg j2_s2)) else (if p2 = 0 then (KJ5 ((x_rd_takeNumber (sA T302 (p0 + 12) (p1 : Int32).toNatClampNeg j2_s2) 0 1).1) ((x_rd_takeNumber (sA T302 (p0 + 12) (p1 : Int32).toNatClampNeg j2_s2) 0 1).2)) else (KJ5 ((x_rd_takeNumber (sA T302 (p0 + 12) (p1 : Int32).toNatClampNeg j2_s2) 0 9).1) ((x_rd_takeNumber (sA T302 (p0 + 12) (p1 : Int32).toNatClampNeg j2_s2) 0 9).2)))) (fun (j5_s0 : Int32) (T305 : St) => if p2 = 1 then (fun (T81 : St) => x_rd_takeSign T81) (sA ((x_rd_takeNumber (sA T305 (p0 + 13) (p1 : Int32).toNatClampNeg j5_s0) j5_s0 9).2) (p0 + 14) (p1 : Int32).toNatClampNeg ((x_rd_takeNumber (sA T305 (p0 + 13) (p1 : Int32).toNatClampNeg j5_s0) j5_s0 9).1)) else (fun (T80 : St) => x_rd_takeSign T80) (sA (sA T305 (p0 + 13) (p1 : Int32).toNatClampNeg j5_s0) (p0 + 14) (p1 : Int32).toNatClampNeg (-1000000))))) else (KJ3)) (jn (fun (KJ4 : Int32 → St → St) => if 1 = 0 then (KJ4 (-1000000) (sA T302 (p0 + 12) (p1 : Int32).toNatClampNeg j2_s2)) else (if p2 = 0 then (KJ4 ((x_rd_takeNumber (sA T302 (p0 + 12) (p1 : Int32).toNatClampNeg j2_s2) 0 1).1) ((x_rd_takeNumber (sA T302 (p0 + 12) (p1 : Int32).toNatClampNeg j2_s2) 0 1).2)) else (KJ4 ((x_rd_takeNumber (sA T302 (p0 + 12) (p1 : Int32).toNatClampNeg j2_s2) 0 9).1) ((x_rd_takeNumber (sA T302 (p0 + 12) (p1 : Int32).toNatClampNeg j2_s2) 0 9).2)))) (fun (j4_s0 : Int32) (T304 : St) => if p2 = 1 then (fun (T79 : St) => x_rd_takeSign T79) (sA ((x_rd_takeNumber (sA T304 (p0 + 13) (p1 : Int32).toNatClampNeg j4_s0) j4_s0 9).2) (p0 + 14) (p1 : Int32).toNatClampNeg ((x_rd_takeNumber (sA T304 (p0 + 13) (p1 : Int32).toNatClampNeg j4_s0) j4_s0 9).1)) else (fun (T78 : St) => x_rd_takeSign T78) (sA (sA T304 (p0 + 13) (p1 : Int32).toNatClampNeg j4_s0) (p0 + 14) (p1 : Int32).toNatClampNeg (-1000000))))) := ⟨_, rfl⟩
    obtain ⟨OJ2, hOJ2⟩ : ∃ q : Int32 → St → Prop, q = (fun (j2_s2 : Int32) (T302 : St) => (sh (p0 + 12) = .inl (0, 24)) ∧ (vp_in p1 24) ∧ jn (fun (OJ3 : Prop) => ((1 = 0 → ((p2 = 4 → OJ3) ∧ (¬ p2 = 4 → jn (fun (OJ5 : Int32 → St → Prop) => ((0 = 0 → OJ5 (-1000000) (sA T302 (p0 + 12) (p1 : Int32).toNatClampNeg j2_s2)) ∧ (¬ 0 = 0 → ((p2 = 0 → (ok_rd_takeNumber (sA T302 (p0 + 12) (p1 : Int32).toNatClampNeg j2_s2) 0 1) ∧ OJ5 ((x_rd_takeNumber (sA T302 (p0 + 12) (p1 : Int32).toNatClampNeg j2_s2) 0 1).1) ((x_rd_takeNumber (sA T302 (p0 + 12) (p1 : Int32).toNatClampNeg j2_s2) 0 1).2)) ∧ (¬ p2 = 0 → (ok_rd_takeNumber (sA T302 (p0 + 12) (p1 : Int32).toNatClampNeg j2_s2) 0 9) ∧ OJ5 ((x_rd_takeNumber (sA T302 (p0 + 12) (p1 : Int32).toNatClampNeg j2_s2) 0 9).1) ((x_rd_takeNumber (sA T302 (p0 + 12) (p1 : Int32).toNatClampNeg j2_s2) 0 9).2)))))) (fun (j5_s0 : Int32) (T305 : St) => (sh p0 = .inr 1) ∧ (sh (p0 + 13) = .inl (0, 24)) ∧ (vp_in p1 24) ∧ ((p2 = 1 → (ok_rd_takeNumber (sA T305 (p0 + 13) (p1 : Int32).toNatClampNeg j5_s0) j5_s0 9) ∧ (sh (p0 + 14) = .inl (0, 24)) ∧ (fun (T81 : St) => (ok_rd_takeSign T81) ∧ True) (sA ((x_rd_takeNumber (sA T305 (p0 + 13) (p1 : Int32).toNatClampNeg j5_s0) j5_s0 9).2) (p0 + 14) (p1 : Int32).toNatClampNeg ((x_rd_takeNumber (sA T305 (p0 + 13) (p1 : Int32).toNatClampNeg j5_s0) j5_s0 9).1))) ∧ (¬ p2 = 1 → (sh (p0 + 14) = .inl (0, 24)) ∧ (fun (T80 : St) => (ok_rd_takeSign T80) ∧ True) (sA (sA T305 (p0 + 13) (p1 : Int32).toNatClampNeg j5_s0) (p0 + 14) (p1 : Int32).toNatClampNeg (-1000000)))))))) ∧ (¬ 1 = 0 → OJ3))) (jn (fun (OJ4 : Int32 → St → Prop) => ((1 = 0 → OJ4 (-1000000) (sA T302 (p0 + 12) (p1 : Int32).toNatClampNeg j2_s2)) ∧ (¬ 1 = 0 → ((p2 = 0 → (ok_rd_takeNumber (sA T302 (p0 + 12) (p1 : Int32).toNatClampNeg j2_s2) 0 1) ∧ OJ4 ((x_rd_takeNumber (sA T302 (p0 + 12) (p1 : Int32).toNatClampNeg j2_s2) 0 1).1) ((x_rd_takeNumber (sA T302 (p0 + 12) (p1 : Int32).toNatClampNeg j2_s2) 0 1).2)) ∧ (¬ p2 = 0 → (ok_rd_takeNumber (sA T302 (p0 + 12) (p1 : Int32).toNatClampNeg j2_s2) 0 9) ∧ OJ4 ((x_rd_takeNumber (sA T302 (p0 + 12) (p1 : Int32).toNatClampNeg j2_s2) 0 9).1) ((x_rd_takeNumber (sA T302 (p0 + 12) (p1 : Int32).toNatClampNeg j2_s2) 0 9).2)))))) (fun (j4_s0 : Int32) (T304 : St) => (sh p0 = .inr 1) ∧ (sh (p0 + 13) = .inl (0, 24)) ∧ (vp_in p1 24) ∧ ((p2 = 1 → (ok_rd_takeNumber (sA T304 (p0 + 13) (p1 : Int32).toNatClampNeg j4_s0) j4_s0 9) ∧ (sh (p0 + 14) = .inl (0, 24)) ∧ (fun (T79 : St) => (ok_rd_takeSign T79) ∧ True) (sA ((x_rd_takeNumber (sA T304 (p0 + 13) (p1 : Int32).toNatClampNeg j4_s0) j4_s0 9).2) (p0 + 14) (p1 : Int32).toNatClampNeg ((x_rd_takeNumber (sA T304 (p0 + 13) (p1 : Int32).toNatClampNeg j4_s0) j4_s0 9).1))) ∧ (¬ p2 = 1 → (sh (p0 + 14) = .inl (0, 24)) ∧ (fun (T78 : St) => (ok_rd_takeSign T78) ∧ True) (sA (sA T304 (p0 + 13) (p1 : Int32).toNatClampNeg j4_s0) (p0 + 14) (p1 : Int32).toNatClampNeg (-1000000))))))) := ⟨_, rfl⟩
    rw [← hOJ2] at kk
    simp only [jn] at kk
    have hJ2 : ∀ (j2_s2 : Int32) (T302 : St), OJ2 j2_s2 T302 → tR X 3 mX6_readStep 77 [some (.ref 13), some (.ref p0), some (.int p1), some (.int p2), some (.int 1), none, none] [.int j2_s2, .int p1, .ref (p0 + 12)] T302 none (KJ2 j2_s2 T302) := by
      intro j2_s2 T302 kk
      rw [hOJ2] at kk
      try dsimp only at kk
      rw [hKJ2]
      obtain ⟨q290, kk⟩ := kk
      obtain ⟨q291, kk⟩ := kk
      refine r_ias dX6_readStep_77 q290 q291 ?_
      refine r_p dX6_readStep_78 rfl rfl ?_
      obtain ⟨KJ3, hKJ3⟩ : ∃ q : St, q = (jn (fun (KJ4 : Int32 → St → St) => if 1 = 0 then (KJ4 (-1000000) (sA T302 (p0 + 12) (p1 : Int32).toNatClampNeg j2_s2)) else (if p2 = 0 then (KJ4 ((x_rd_takeNumber (sA T302 (p0 + 12) (p1 : Int32).toNatClampNeg j2_s2) 0 1).1) ((x_rd_takeNumber (sA T302 (p0 + 12) (p1 : Int32).toNatClampNeg j2_s2) 0 1).2)) else (KJ4 ((x_rd_takeNumber (sA T302 (p0 + 12) (p1 : Int32).toNatClampNeg j2_s2) 0 9).1) ((x_rd_takeNumber (sA T302 (p0 + 12) (p1 : Int32).toNatClampNeg j2_s2) 0 9).2)))) (fun (j4_s0 : Int32) (T304 : St) => if p2 = 1 then (fun (T79 : St) => x_rd_takeSign T79) (sA ((x_rd_takeNumber (sA T304 (p0 + 13) (p1 : Int32).toNatClampNeg j4_s0) j4_s0 9).2) (p0 + 14) (p1 : Int32).toNatClampNeg ((x_rd_takeNumber (sA T304 (p0 + 13) (p1 : Int32).toNatClampNeg j4_s0) j4_s0 9).1)) else (fun (T78 : St) => x_rd_takeSign T78) (sA (sA T304 (p0 + 13) (p1 : Int32).toNatClampNeg j4_s0) (p0 + 14) (p1 : Int32).toNatClampNeg (-1000000)))) := ⟨_, rfl⟩
      obtain ⟨OJ3, hOJ3⟩ : ∃ q : Prop, q = (jn (fun (OJ4 : Int32 → St → Prop) => ((1 = 0 → OJ4 (-1000000) (sA T302 (p0 + 12) (p1 : Int32).toNatClampNeg j2_s2)) ∧ (¬ 1 = 0 → ((p2 = 0 → (ok_rd_takeNumber (sA T302 (p0 + 12) (p1 : Int32).toNatClampNeg j2_s2) 0 1) ∧ OJ4 ((x_rd_takeNumber (sA T302 (p0 + 12) (p1 : Int32).toNatClampNeg j2_s2) 0 1).1) ((x_rd_takeNumber (sA T302 (p0 + 12) (p1 : Int32).toNatClampNeg j2_s2) 0 1).2)) ∧ (¬ p2 = 0 → (ok_rd_takeNumber (sA T302 (p0 + 12) (p1 : Int32).toNatClampNeg j2_s2) 0 9) ∧ OJ4 ((x_rd_takeNumber (sA T302 (p0 + 12) (p1 : Int32).toNatClampNeg j2_s2) 0 9).1) ((x_rd_takeNumber (sA T302 (p0 + 12) (p1 : Int32).toNatClampNeg j2_s2) 0 9).2)))))) (fun (j4_s0 : Int32) (T304 : St) => (sh p0 = .inr 1) ∧ (sh (p0 + 13) = .inl (0, 24)) ∧ (vp_in p1 24) ∧ ((p2 = 1 → (ok_rd_takeNumber (sA T304 (p0 + 13) (p1 : Int32).toNatClampNeg j4_s0) j4_s0 9) ∧ (sh (p0 + 14) = .inl (0, 24)) ∧ (fun (T79 : St) => (ok_rd_takeSign T79) ∧ True) (sA ((x_rd_takeNumber (sA T304 (p0 + 13) (p1 : Int32).toNatClampNeg j4_s0) j4_s0 9).2) (p0 + 14) (p1 : Int32).toNatClampNeg ((x_rd_takeNumber (sA T304 (p0 + 13) (p1 : Int32).toNatClampNeg j4_s0) j4_s0 9).1))) ∧ (¬ p2 = 1 → (sh (p0 + 14) = .inl (0, 24)) ∧ (fun (T78 : St) => (ok_rd_takeSign T78) ∧ True) (sA (sA T304 (p0 + 13) (p1 : Int32).toNatClampNeg j4_s0) (p0 + 14) (p1 : Int32).toNatClampNeg (-1000000)))))) := ⟨_, rfl⟩
      rw [← hOJ3] at kk
      simp only [jn] at kk
      have hJ3 : OJ3 → tR X 3 mX6_readStep 88 [some (.ref 13), some (.ref p0), some (.int p1), some (.int p2), some (.int 1), none, none] [] (sA T302 (p0 + 12) (p1 : Int32).toNatClampNeg j2_s2) none KJ3 := by
        intro  kk
        rw [hOJ3] at kk
        try dsimp only at kk
        rw [hKJ3]
        refine r_ci (x := 1) dX6_readStep_88 rfl ?_
        refine r_go dX6_readStep_89 rfl ?_
        refine r_p dX6_readStep_93 rfl rfl ?_
        refine r_p dX6_readStep_95 rfl rfl ?_
        obtain ⟨KJ4, hKJ4⟩ : ∃ q : Int32 → St → St, q = (fun (j4_s0 : Int32) (T304 : St) => if p2 = 1 then (fun (T79 : St) => x_rd_takeSign T79) (sA ((x_rd_takeNumber (sA T304 (p0 + 13) (p1 : Int32).toNatClampNeg j4_s0) j4_s0 9).2) (p0 + 14) (p1 : Int32).toNatClampNeg ((x_rd_takeNumber (sA T304 (p0 + 13) (p1 : Int32).toNatClampNeg j4_s0) j4_s0 9).1)) else (fun (T78 : St) => x_rd_takeSign T78) (sA (sA T304 (p0 + 13) (p1 : Int32).toNatClampNeg j4_s0) (p0 + 14) (p1 : Int32).toNatClampNeg (-1000000))) := ⟨_, rfl⟩
        obtain ⟨OJ4, hOJ4⟩ : ∃ q : Int32 → St → Prop, q = (fun (j4_s0 : Int32) (T304 : St) => (sh p0 = .inr 1) ∧ (sh (p0 + 13) = .inl (0, 24)) ∧ (vp_in p1 24) ∧ ((p2 = 1 → (ok_rd_takeNumber (sA T304 (p0 + 13) (p1 : Int32).toNatClampNeg j4_s0) j4_s0 9) ∧ (sh (p0 + 14) = .inl (0, 24)) ∧ (fun (T79 : St) => (ok_rd_takeSign T79) ∧ True) (sA ((x_rd_takeNumber (sA T304 (p0 + 13) (p1 : Int32).toNatClampNeg j4_s0) j4_s0 9).2) (p0 + 14) (p1 : Int32).toNatClampNeg ((x_rd_takeNumber (sA T304 (p0 + 13) (p1 : Int32).toNatClampNeg j4_s0) j4_s0 9).1))) ∧ (¬ p2 = 1 → (sh (p0 + 14) = .inl (0, 24)) ∧ (fun (T78 : St) => (ok_rd_takeSign T78) ∧ True) (sA (sA T304 (p0 + 13) (p1 : Int32).toNatClampNeg j4_s0) (p0 + 14) (p1 : Int32).toNatClampNeg (-1000000))))) := ⟨_, rfl⟩
        rw [← hOJ4] at kk
        simp only [jn] at kk
        have hJ4 : ∀ (j4_s0 : Int32) (T304 : St), OJ4 j4_s0 T304 → tR X 3 mX6_readStep 120 [some (.ref 13), some (.ref p0), some (.int p1), some (.int p2), some (.int 1), some (.int 1), none] [.int j4_s0] T304 none (KJ4 j4_s0 T304) := by
          intro j4_s0 T304 kk
          rw [hOJ4] at kk
          try dsimp only at kk
          rw [hKJ4]
          refine r_p dX6_readStep_120 rfl rfl ?_
          refine r_p dX6_readStep_122 rfl rfl ?_
          obtain ⟨q326, kk⟩ := kk
          refine r_get dX6_readStep_123 fkX6_129 q326 rfl ?_
          refine r_p dX6_readStep_126 rfl rfl ?_
          refine r_p dX6_readStep_127 rfl rfl ?_
          obtain ⟨q327, kk⟩ := kk
          obtain ⟨q328, kk⟩ := kk
          refine r_ias dX6_readStep_129 q327 q328 ?_
          refine r_p dX6_readStep_130 rfl rfl ?_
          refine r_get dX6_readStep_131 fkX6_132 q326 rfl ?_
          refine r_p dX6_readStep_134 rfl rfl ?_
          refine r_p dX6_readStep_135 rfl rfl ?_
          refine r_ci (x := 1) dX6_readStep_136 rfl ?_
          refine r_cne dX6_readStep_137 rfl (fun c137_67 => ?_) (fun c137_67 => ?_)
          · have kk := kk.2 c137_67
            refine r_k dX6_readStep_151 kkX6_128 ?_
            obtain ⟨q329, kk⟩ := kk
            refine r_ias dX6_readStep_153 q329 q328 ?_
            refine r_eV (r' := (fun (T78 : St) => x_rd_takeSign T78) (sA (sA T304 (p0 + 13) (p1 : Int32).toNatClampNeg j4_s0) (p0 + 14) (p1 : Int32).toNatClampNeg (-1000000))) (by first | rw [if_neg c137_67] | (dsimp only; rw [if_neg c137_67])) ?_
            generalize sA (sA T304 (p0 + 13) (p1 : Int32).toNatClampNeg j4_s0) (p0 + 14) (p1 : Int32).toNatClampNeg (-1000000) = T78 at kk ⊢
            try dsimp only at kk
            refine r_p dX6_readStep_154 rfl rfl ?_
            obtain ⟨q330, kk⟩ := kk
            refine r_cv (d1 := 3) dX6_readStep_155 cvX6_70 rfl rfl rfl rfl (Nat.le_of_ble_eq_true rfl) (Nat.le_of_ble_eq_true rfl) (Nat.le_of_ble_eq_true rfl) (c_rd_takeSign  q330) ?_
            exact r_eV (r' := (x_rd_takeSign T78)) rfl (r_rv dX6_readStep_158 rfl rfl rfl)
          · have kk := kk.1 c137_67
            refine r_p dX6_readStep_140 rfl rfl ?_
            refine r_p dX6_readStep_141 rfl rfl ?_
            refine r_cb (x := 9) dX6_readStep_143 rfl ?_
            obtain ⟨q331, kk⟩ := kk
            refine r_cv (d1 := 3) dX6_readStep_145 cvX6_66 rfl rfl rfl rfl (Nat.le_of_ble_eq_true rfl) (Nat.le_of_ble_eq_true rfl) (Nat.le_of_ble_eq_true rfl) (c_rd_takeNumber j4_s0 9 q331) ?_
            refine r_go dX6_readStep_148 rfl ?_
            obtain ⟨q332, kk⟩ := kk
            refine r_ias dX6_readStep_153 q332 q328 ?_
            refine r_eV (r' := (fun (T79 : St) => x_rd_takeSign T79) (sA ((x_rd_takeNumber (sA T304 (p0 + 13) (p1 : Int32).toNatClampNeg j4_s0) j4_s0 9).2) (p0 + 14) (p1 : Int32).toNatClampNeg ((x_rd_takeNumber (sA T304 (p0 + 13) (p1 : Int32).toNatClampNeg j4_s0) j4_s0 9).1))) (by first | rw [if_pos c137_67] | (dsimp only; rw [if_pos c137_67])) ?_
            generalize sA ((x_rd_takeNumber (sA T304 (p0 + 13) (p1 : Int32).toNatClampNeg j4_s0) j4_s0 9).2) (p0 + 14) (p1 : Int32).toNatClampNeg ((x_rd_takeNumber (sA T304 (p0 + 13) (p1 : Int32).toNatClampNeg j4_s0) j4_s0 9).1) = T79 at kk ⊢
            try dsimp only at kk
            refine r_p dX6_readStep_154 rfl rfl ?_
            obtain ⟨q333, kk⟩ := kk
            refine r_cv (d1 := 3) dX6_readStep_155 cvX6_70 rfl rfl rfl rfl (Nat.le_of_ble_eq_true rfl) (Nat.le_of_ble_eq_true rfl) (Nat.le_of_ble_eq_true rfl) (c_rd_takeSign  q333) ?_
            exact r_eV (r' := (x_rd_takeSign T79)) rfl (r_rv dX6_readStep_158 rfl rfl rfl)
        refine r_eV (r' := jn (fun (KJ4 : Int32 → St → St) => if 1 = 0 then (KJ4 (-1000000) (sA T302 (p0 + 12) (p1 : Int32).toNatClampNeg j2_s2)) else (if p2 = 0 then (KJ4 ((x_rd_takeNumber (sA T302 (p0 + 12) (p1 : Int32).toNatClampNeg j2_s2) 0 1).1) ((x_rd_takeNumber (sA T302 (p0 + 12) (p1 : Int32).toNatClampNeg j2_s2) 0 1).2)) else (KJ4 ((x_rd_takeNumber (sA T302 (p0 + 12) (p1 : Int32).toNatClampNeg j2_s2) 0 9).1) ((x_rd_takeNumber (sA T302 (p0 + 12) (p1 : Int32).toNatClampNeg j2_s2) 0 9).2)))) KJ4) (by rw [hKJ4]) ?_
        refine r_ieq dX6_readStep_97 rfl (fun c97_68 => ?_) (fun c97_68 => ?_)
        · have kk := kk.1 c97_68
          refine r_k dX6_readStep_118 kkX6_128 ?_
          show tR _ _ _ _ [some (.ref 13), some (.ref p0), some (.int p1), some (.int p2), some (.int 1), some (.int 1), none] [.int (-1000000)] _ _ _
          exact r_eV (r' := KJ4 (-1000000) (sA T302 (p0 + 12) (p1 : Int32).toNatClampNeg j2_s2)) (by simp only [jn]; rw [if_pos c97_68]) ((hJ4 (-1000000) (sA T302 (p0 + 12) (p1 : Int32).toNatClampNeg j2_s2) kk))
        · have kk := kk.2 c97_68
          refine r_p dX6_readStep_100 rfl rfl ?_
          refine r_ci (x := 0) dX6_readStep_101 rfl ?_
          refine r_p dX6_readStep_102 rfl rfl ?_
          refine r_ine dX6_readStep_103 rfl (fun c103_69 => ?_) (fun c103_69 => ?_)
          · have kk := kk.2 c103_69
            refine r_cb (x := 9) dX6_readStep_110 rfl ?_
            obtain ⟨q334, kk⟩ := kk
            refine r_cv (d1 := 3) dX6_readStep_112 cvX6_66 rfl rfl rfl rfl (Nat.le_of_ble_eq_true rfl) (Nat.le_of_ble_eq_true rfl) (Nat.le_of_ble_eq_true rfl) (c_rd_takeNumber 0 9 q334) ?_
            refine r_go dX6_readStep_115 rfl ?_
            show tR _ _ _ _ [some (.ref 13), some (.ref p0), some (.int p1), some (.int p2), some (.int 1), some (.int 1), none] [.int ((x_rd_takeNumber (sA T302 (p0 + 12) (p1 : Int32).toNatClampNeg j2_s2) 0 9).1)] _ _ _
            exact r_eV (r' := KJ4 ((x_rd_takeNumber (sA T302 (p0 + 12) (p1 : Int32).toNatClampNeg j2_s2) 0 9).1) ((x_rd_takeNumber (sA T302 (p0 + 12) (p1 : Int32).toNatClampNeg j2_s2) 0 9).2)) (by simp only [jn]; rw [if_neg c97_68, if_neg c103_69]) ((hJ4 ((x_rd_takeNumber (sA T302 (p0 + 12) (p1 : Int32).toNatClampNeg j2_s2) 0 9).1) ((x_rd_takeNumber (sA T302 (p0 + 12) (p1 : Int32).toNatClampNeg j2_s2) 0 9).2) kk))
          · have kk := kk.1 c103_69
            refine r_ci (x := 1) dX6_readStep_106 rfl ?_
            refine r_go dX6_readStep_107 rfl ?_
            obtain ⟨q335, kk⟩ := kk
            refine r_cv (d1 := 3) dX6_readStep_112 cvX6_66 rfl rfl rfl rfl (Nat.le_of_ble_eq_true rfl) (Nat.le_of_ble_eq_true rfl) (Nat.le_of_ble_eq_true rfl) (c_rd_takeNumber 0 1 q335) ?_
            refine r_go dX6_readStep_115 rfl ?_
            show tR _ _ _ _ [some (.ref 13), some (.ref p0), some (.int p1), some (.int p2), some (.int 1), some (.int 1), none] [.int ((x_rd_takeNumber (sA T302 (p0 + 12) (p1 : Int32).toNatClampNeg j2_s2) 0 1).1)] _ _ _
            exact r_eV (r' := KJ4 ((x_rd_takeNumber (sA T302 (p0 + 12) (p1 : Int32).toNatClampNeg j2_s2) 0 1).1) ((x_rd_takeNumber (sA T302 (p0 + 12) (p1 : Int32).toNatClampNeg j2_s2) 0 1).2)) (by simp only [jn]; rw [if_neg c97_68, if_pos c103_69]) ((hJ4 ((x_rd_takeNumber (sA T302 (p0 + 12) (p1 : Int32).toNatClampNeg j2_s2) 0 1).1) ((x_rd_takeNumber (sA T302 (p0 + 12) (p1 : Int32).toNatClampNeg j2_s2) 0 1).2) kk))
      refine r_eV (r' := jn (fun (KJ3 : St) => if 1 = 0 then (if p2 = 4 then (KJ3) else (jn (fun (KJ5 : Int32 → St → St) => if 0 = 0 then (KJ5 (-1000000) (sA T302 (p0 + 12) (p1 : Int32).toNatClampNeg j2_s2)) else (if p2 = 0 then (KJ5 ((x_rd_takeNumber (sA T302 (p0 + 12) (p1 : Int32).toNatClampNeg j2_s2) 0 1).1) ((x_rd_takeNumber (sA T302 (p0 + 12) (p1 : Int32).toNatClampNeg j2_s2) 0 1).2)) else (KJ5 ((x_rd_takeNumber (sA T302 (p0 + 12) (p1 : Int32).toNatClampNeg j2_s2) 0 9).1) ((x_rd_takeNumber (sA T302 (p0 + 12) (p1 : Int32).toNatClampNeg j2_s2) 0 9).2)))) (fun (j5_s0 : Int32) (T305 : St) => if p2 = 1 then (fun (T81 : St) => x_rd_takeSign T81) (sA ((x_rd_takeNumber (sA T305 (p0 + 13) (p1 : Int32).toNatClampNeg j5_s0) j5_s0 9).2) (p0 + 14) (p1 : Int32).toNatClampNeg ((x_rd_takeNumber (sA T305 (p0 + 13) (p1 : Int32).toNatClampNeg j5_s0) j5_s0 9).1)) else (fun (T80 : St) => x_rd_takeSign T80) (sA (sA T305 (p0 + 13) (p1 : Int32).toNatClampNeg j5_s0) (p0 + 14) (p1 : Int32).toNatClampNeg (-1000000))))) else (KJ3)) KJ3) (by rw [hKJ3]) ?_
      refine r_ine dX6_readStep_80 rfl (fun c80_70 => ?_) (fun c80_70 => ?_)
      · have kk := kk.2 c80_70
        show tR _ _ _ _ [some (.ref 13), some (.ref p0), some (.int p1), some (.int p2), some (.int 1), none, none] [] _ _ _
        exact r_eV (r' := KJ3) (by simp only [jn]; rw [if_neg c80_70]) ((hJ3  kk))
      · have kk := kk.1 c80_70
        refine r_p dX6_readStep_83 rfl rfl ?_
        refine r_ci (x := 4) dX6_readStep_84 rfl ?_
        refine r_cne dX6_readStep_85 rfl (fun c85_71 => ?_) (fun c85_71 => ?_)
        · have kk := kk.2 c85_71
          refine r_ci (x := 0) dX6_readStep_92 rfl ?_
          refine r_p dX6_readStep_93 rfl rfl ?_
          refine r_p dX6_readStep_95 rfl rfl ?_
          obtain ⟨KJ5, hKJ5⟩ : ∃ q : Int32 → St → St, q = (fun (j5_s0 : Int32) (T305 : St) => if p2 = 1 then (fun (T81 : St) => x_rd_takeSign T81) (sA ((x_rd_takeNumber (sA T305 (p0 + 13) (p1 : Int32).toNatClampNeg j5_s0) j5_s0 9).2) (p0 + 14) (p1 : Int32).toNatClampNeg ((x_rd_takeNumber (sA T305 (p0 + 13) (p1 : Int32).toNatClampNeg j5_s0) j5_s0 9).1)) else (fun (T80 : St) => x_rd_takeSign T80) (sA (sA T305 (p0 + 13) (p1 : Int32).toNatClampNeg j5_s0) (p0 + 14) (p1 : Int32).toNatClampNeg (-1000000))) := ⟨_, rfl⟩
          obtain ⟨OJ5, hOJ5⟩ : ∃ q : Int32 → St → Prop, q = (fun (j5_s0 : Int32) (T305 : St) => (sh p0 = .inr 1) ∧ (sh (p0 + 13) = .inl (0, 24)) ∧ (vp_in p1 24) ∧ ((p2 = 1 → (ok_rd_takeNumber (sA T305 (p0 + 13) (p1 : Int32).toNatClampNeg j5_s0) j5_s0 9) ∧ (sh (p0 + 14) = .inl (0, 24)) ∧ (fun (T81 : St) => (ok_rd_takeSign T81) ∧ True) (sA ((x_rd_takeNumber (sA T305 (p0 + 13) (p1 : Int32).toNatClampNeg j5_s0) j5_s0 9).2) (p0 + 14) (p1 : Int32).toNatClampNeg ((x_rd_takeNumber (sA T305 (p0 + 13) (p1 : Int32).toNatClampNeg j5_s0) j5_s0 9).1))) ∧ (¬ p2 = 1 → (sh (p0 + 14) = .inl (0, 24)) ∧ (fun (T80 : St) => (ok_rd_takeSign T80) ∧ True) (sA (sA T305 (p0 + 13) (p1 : Int32).toNatClampNeg j5_s0) (p0 + 14) (p1 : Int32).toNatClampNeg (-1000000))))) := ⟨_, rfl⟩
          rw [← hOJ5] at kk
          simp only [jn] at kk
          have hJ5 : ∀ (j5_s0 : Int32) (T305 : St), OJ5 j5_s0 T305 → tR X 3 mX6_readStep 120 [some (.ref 13), some (.ref p0), some (.int p1), some (.int p2), some (.int 1), some (.int 0), none] [.int j5_s0] T305 none (KJ5 j5_s0 T305) := by
            intro j5_s0 T305 kk
            rw [hOJ5] at kk
            try dsimp only at kk
            rw [hKJ5]
            refine r_p dX6_readStep_120 rfl rfl ?_
            refine r_p dX6_readStep_122 rfl rfl ?_
            obtain ⟨q338, kk⟩ := kk
            refine r_get dX6_readStep_123 fkX6_129 q338 rfl ?_
            refine r_p dX6_readStep_126 rfl rfl ?_
            refine r_p dX6_readStep_127 rfl rfl ?_
            obtain ⟨q339, kk⟩ := kk
            obtain ⟨q340, kk⟩ := kk
            refine r_ias dX6_readStep_129 q339 q340 ?_
            refine r_p dX6_readStep_130 rfl rfl ?_
            refine r_get dX6_readStep_131 fkX6_132 q338 rfl ?_
            refine r_p dX6_readStep_134 rfl rfl ?_
            refine r_p dX6_readStep_135 rfl rfl ?_
            refine r_ci (x := 1) dX6_readStep_136 rfl ?_
            refine r_cne dX6_readStep_137 rfl (fun c137_74 => ?_) (fun c137_74 => ?_)
            · have kk := kk.2 c137_74
              refine r_k dX6_readStep_151 kkX6_128 ?_
              obtain ⟨q341, kk⟩ := kk
              refine r_ias dX6_readStep_153 q341 q340 ?_
              refine r_eV (r' := (fun (T80 : St) => x_rd_takeSign T80) (sA (sA T305 (p0 + 13) (p1 : Int32).toNatClampNeg j5_s0) (p0 + 14) (p1 : Int32).toNatClampNeg (-1000000))) (by first | rw [if_neg c137_74] | (dsimp only; rw [if_neg c137_74])) ?_
              generalize sA (sA T305 (p0 + 13) (p1 : Int32).toNatClampNeg j5_s0) (p0 + 14) (p1 : Int32).toNatClampNeg (-1000000) = T80 at kk ⊢
              try dsimp only at kk
              refine r_p dX6_readStep_154 rfl rfl ?_
              obtain ⟨q342, kk⟩ := kk
              refine r_cv (d1 := 3) dX6_readStep_155 cvX6_70 rfl rfl rfl rfl (Nat.le_of_ble_eq_true rfl) (Nat.le_of_ble_eq_true rfl) (Nat.le_of_ble_eq_true rfl) (c_rd_takeSign  q342) ?_
              exact r_eV (r' := (x_rd_takeSign T80)) rfl (r_rv dX6_readStep_158 rfl rfl rfl)
            · have kk := kk.1 c137_74
              refine r_p dX6_readStep_140 rfl rfl ?_
              refine r_p dX6_readStep_141 rfl rfl ?_
              refine r_cb (x := 9) dX6_readStep_143 rfl ?_
              obtain ⟨q343, kk⟩ := kk
              refine r_cv (d1 := 3) dX6_readStep_145 cvX6_66 rfl rfl rfl rfl (Nat.le_of_ble_eq_true rfl) (Nat.le_of_ble_eq_true rfl) (Nat.le_of_ble_eq_true rfl) (c_rd_takeNumber j5_s0 9 q343) ?_
              refine r_go dX6_readStep_148 rfl ?_
              obtain ⟨q344, kk⟩ := kk
              refine r_ias dX6_readStep_153 q344 q340 ?_
              refine r_eV (r' := (fun (T81 : St) => x_rd_takeSign T81) (sA ((x_rd_takeNumber (sA T305 (p0 + 13) (p1 : Int32).toNatClampNeg j5_s0) j5_s0 9).2) (p0 + 14) (p1 : Int32).toNatClampNeg ((x_rd_takeNumber (sA T305 (p0 + 13) (p1 : Int32).toNatClampNeg j5_s0) j5_s0 9).1))) (by first | rw [if_pos c137_74] | (dsimp only; rw [if_pos c137_74])) ?_
              generalize sA ((x_rd_takeNumber (sA T305 (p0 + 13) (p1 : Int32).toNatClampNeg j5_s0) j5_s0 9).2) (p0 + 14) (p1 : Int32).toNatClampNeg ((x_rd_takeNumber (sA T305 (p0 + 13) (p1 : Int32).toNatClampNeg j5_s0) j5_s0 9).1) = T81 at kk ⊢
              try dsimp only at kk
              refine r_p dX6_readStep_154 rfl rfl ?_
              obtain ⟨q345, kk⟩ := kk
              refine r_cv (d1 := 3) dX6_readStep_155 cvX6_70 rfl rfl rfl rfl (Nat.le_of_ble_eq_true rfl) (Nat.le_of_ble_eq_true rfl) (Nat.le_of_ble_eq_true rfl) (c_rd_takeSign  q345) ?_
              exact r_eV (r' := (x_rd_takeSign T81)) rfl (r_rv dX6_readStep_158 rfl rfl rfl)
          refine r_eV (r' := jn (fun (KJ5 : Int32 → St → St) => if 0 = 0 then (KJ5 (-1000000) (sA T302 (p0 + 12) (p1 : Int32).toNatClampNeg j2_s2)) else (if p2 = 0 then (KJ5 ((x_rd_takeNumber (sA T302 (p0 + 12) (p1 : Int32).toNatClampNeg j2_s2) 0 1).1) ((x_rd_takeNumber (sA T302 (p0 + 12) (p1 : Int32).toNatClampNeg j2_s2) 0 1).2)) else (KJ5 ((x_rd_takeNumber (sA T302 (p0 + 12) (p1 : Int32).toNatClampNeg j2_s2) 0 9).1) ((x_rd_takeNumber (sA T302 (p0 + 12) (p1 : Int32).toNatClampNeg j2_s2) 0 9).2)))) KJ5) (by rw [hKJ5]; simp only [jn]; rw [if_pos c80_70, if_neg c85_71]) ?_
          refine r_ieq dX6_readStep_97 rfl (fun c97_75 => ?_) (fun c97_75 => ?_)
          · have kk := kk.1 c97_75
            refine r_k dX6_readStep_118 kkX6_128 ?_
            show tR _ _ _ _ [some (.ref 13), some (.ref p0), some (.int p1), some (.int p2), some (.int 1), some (.int 0), none] [.int (-1000000)] _ _ _
            exact r_eV (r' := KJ5 (-1000000) (sA T302 (p0 + 12) (p1 : Int32).toNatClampNeg j2_s2)) (by simp only [jn]; rw [if_pos c97_75]) ((hJ5 (-1000000) (sA T302 (p0 + 12) (p1 : Int32).toNatClampNeg j2_s2) kk))
          · have kk := kk.2 c97_75
            refine r_p dX6_readStep_100 rfl rfl ?_
            refine r_ci (x := 0) dX6_readStep_101 rfl ?_
            refine r_p dX6_readStep_102 rfl rfl ?_
            refine r_ine dX6_readStep_103 rfl (fun c103_76 => ?_) (fun c103_76 => ?_)
            · have kk := kk.2 c103_76
              refine r_cb (x := 9) dX6_readStep_110 rfl ?_
              obtain ⟨q346, kk⟩ := kk
              refine r_cv (d1 := 3) dX6_readStep_112 cvX6_66 rfl rfl rfl rfl (Nat.le_of_ble_eq_true rfl) (Nat.le_of_ble_eq_true rfl) (Nat.le_of_ble_eq_true rfl) (c_rd_takeNumber 0 9 q346) ?_
              refine r_go dX6_readStep_115 rfl ?_
              show tR _ _ _ _ [some (.ref 13), some (.ref p0), some (.int p1), some (.int p2), some (.int 1), some (.int 0), none] [.int ((x_rd_takeNumber (sA T302 (p0 + 12) (p1 : Int32).toNatClampNeg j2_s2) 0 9).1)] _ _ _
              exact r_eV (r' := KJ5 ((x_rd_takeNumber (sA T302 (p0 + 12) (p1 : Int32).toNatClampNeg j2_s2) 0 9).1) ((x_rd_takeNumber (sA T302 (p0 + 12) (p1 : Int32).toNatClampNeg j2_s2) 0 9).2)) (by simp only [jn]; rw [if_neg c97_75, if_neg c103_76]) ((hJ5 ((x_rd_takeNumber (sA T302 (p0 + 12) (p1 : Int32).toNatClampNeg j2_s2) 0 9).1) ((x_rd_takeNumber (sA T302 (p0 + 12) (p1 : Int32).toNatClampNeg j2_s2) 0 9).2) kk))
            · have kk := kk.1 c103_76
              refine r_ci (x := 1) dX6_readStep_106 rfl ?_
              refine r_go dX6_readStep_107 rfl ?_
              obtain ⟨q347, kk⟩ := kk
              refine r_cv (d1 := 3) dX6_readStep_112 cvX6_66 rfl rfl rfl rfl (Nat.le_of_ble_eq_true rfl) (Nat.le_of_ble_eq_true rfl) (Nat.le_of_ble_eq_true rfl) (c_rd_takeNumber 0 1 q347) ?_
              refine r_go dX6_readStep_115 rfl ?_
              show tR _ _ _ _ [some (.ref 13), some (.ref p0), some (.int p1), some (.int p2), some (.int 1), some (.int 0), none] [.int ((x_rd_takeNumber (sA T302 (p0 + 12) (p1 : Int32).toNatClampNeg j2_s2) 0 1).1)] _ _ _
              exact r_eV (r' := KJ5 ((x_rd_takeNumber (sA T302 (p0 + 12) (p1 : Int32).toNatClampNeg j2_s2) 0 1).1) ((x_rd_takeNumber (sA T302 (p0 + 12) (p1 : Int32).toNatClampNeg j2_s2) 0 1).2)) (by simp only [jn]; rw [if_neg c97_75, if_pos c103_76]) ((hJ5 ((x_rd_takeNumber (sA T302 (p0 + 12) (p1 : Int32).toNatClampNeg j2_s2) 0 1).1) ((x_rd_takeNumber (sA T302 (p0 + 12) (p1 : Int32).toNatClampNeg j2_s2) 0 1).2) kk))
        · have kk := kk.1 c85_71
          show tR _ _ _ _ [some (.ref 13), some (.ref p0), some (.int p1), some (.int p2), some (.int 1), none, none] [] _ _ _
          exact r_eV (r' := KJ3) (by simp only [jn]; rw [if_pos c80_70, if_pos c85_71]) ((hJ3  kk))
    refine r_eV (r' := jn (fun (KJ2 : Int32 → St → St) => if 1 = 0 then (if p2 = 2 then (KJ2 2 T2) else (KJ2 0 T2)) else (KJ2 ((x_rd_takeNumber T2 0 2).1) ((x_rd_takeNumber T2 0 2).2))) KJ2) (by rw [hKJ2]) ?_
    refine r_ieq dX6_readStep_55 rfl (fun c55_77 => ?_) (fun c55_77 => ?_)
    · have kk := kk.1 c55_77
      refine r_p dX6_readStep_67 rfl rfl ?_
      refine r_ci (x := 2) dX6_readStep_68 rfl ?_
      refine r_cne dX6_readStep_69 rfl (fun c69_78 => ?_) (fun c69_78 => ?_)
      · have kk := kk.2 c69_78
        refine r_ci (x := 0) dX6_readStep_76 rfl ?_
        show tR _ _ _ _ [some (.ref 13), some (.ref p0), some (.int p1), some (.int p2), some (.int 1), none, none] [.int 0, .int p1, .ref (p0 + 12)] _ _ _
        exact r_eV (r' := KJ2 0 T2) (by simp only [jn]; rw [if_pos c55_77, if_neg c69_78]) ((hJ2 0 T2 kk))
      · have kk := kk.1 c69_78
        refine r_ci (x := 2) dX6_readStep_72 rfl ?_
        refine r_go dX6_readStep_73 rfl ?_
        show tR _ _ _ _ [some (.ref 13), some (.ref p0), some (.int p1), some (.int p2), some (.int 1), none, none] [.int 2, .int p1, .ref (p0 + 12)] _ _ _
        exact r_eV (r' := KJ2 2 T2) (by simp only [jn]; rw [if_pos c55_77, if_pos c69_78]) ((hJ2 2 T2 kk))
    · have kk := kk.2 c55_77
      refine r_p dX6_readStep_58 rfl rfl ?_
      refine r_ci (x := 0) dX6_readStep_59 rfl ?_
      refine r_ci (x := 2) dX6_readStep_60 rfl ?_
      obtain ⟨q348, kk⟩ := kk
      refine r_cv (d1 := 3) dX6_readStep_61 cvX6_66 rfl rfl rfl rfl (Nat.le_of_ble_eq_true rfl) (Nat.le_of_ble_eq_true rfl) (Nat.le_of_ble_eq_true rfl) (c_rd_takeNumber 0 2 q348) ?_
      refine r_go dX6_readStep_64 rfl ?_
      show tR _ _ _ _ [some (.ref 13), some (.ref p0), some (.int p1), some (.int p2), some (.int 1), none, none] [.int ((x_rd_takeNumber T2 0 2).1), .int p1, .ref (p0 + 12)] _ _ _
      exact r_eV (r' := KJ2 ((x_rd_takeNumber T2 0 2).1) ((x_rd_takeNumber T2 0 2).2)) (by simp only [jn]; rw [if_neg c55_77]) ((hJ2 ((x_rd_takeNumber T2 0 2).1) ((x_rd_takeNumber T2 0 2).2) kk))
  refine r_eV (r' := jn (fun (KJ1 : St) => if p2 = 0 then (KJ1) else (if p2 = 1 then (KJ1) else (jn (fun (KJ6 : Int32 → St → St) => if 0 = 0 then (if p2 = 2 then (KJ6 2 T2) else (KJ6 0 T2)) else (KJ6 ((x_rd_takeNumber T2 0 2).1) ((x_rd_takeNumber T2 0 2).2))) (fun (j6_s2 : Int32) (T306 : St) => jn (fun (KJ7 : St) => if 0 = 0 then (if p2 = 4 then (KJ7) else (jn (fun (KJ9 : Int32 → St → St) => if 0 = 0 then (KJ9 (-1000000) (sA T306 (p0 + 12) (p1 : Int32).toNatClampNeg j6_s2)) else (if p2 = 0 then (KJ9 ((x_rd_takeNumber (sA T306 (p0 + 12) (p1 : Int32).toNatClampNeg j6_s2) 0 1).1) ((x_rd_takeNumber (sA T306 (p0 + 12) (p1 : Int32).toNatClampNeg j6_s2) 0 1).2)) else (KJ9 ((x_rd_takeNumber (sA T306 (p0 + 12) (p1 : Int32).toNatClampNeg j6_s2) 0 9).1) ((x_rd_takeNumber (sA T306 (p0 + 12) (p1 : Int32).toNatClampNeg j6_s2) 0 9).2)))) (fun (j9_s0 : Int32) (T309 : St) => if p2 = 1 then (fun (T93 : St) => x_rd_takeSign T93) (sA ((x_rd_takeNumber (sA T309 (p0 + 13) (p1 : Int32).toNatClampNeg j9_s0) j9_s0 9).2) (p0 + 14) (p1 : Int32).toNatClampNeg ((x_rd_takeNumber (sA T309 (p0 + 13) (p1 : Int32).toNatClampNeg j9_s0) j9_s0 9).1)) else (fun (T92 : St) => x_rd_takeSign T92) (sA (sA T309 (p0 + 13) (p1 : Int32).toNatClampNeg j9_s0) (p0 + 14) (p1 : Int32).toNatClampNeg (-1000000))))) else (KJ7)) (jn (fun (KJ8 : Int32 → St → St) => if 1 = 0 then (KJ8 (-1000000) (sA T306 (p0 + 12) (p1 : Int32).toNatClampNeg j6_s2)) else (if p2 = 0 then (KJ8 ((x_rd_takeNumber (sA T306 (p0 + 12) (p1 : Int32).toNatClampNeg j6_s2) 0 1).1) ((x_rd_takeNumber (sA T306 (p0 + 12) (p1 : Int32).toNatClampNeg j6_s2) 0 1).2)) else (KJ8 ((x_rd_takeNumber (sA T306 (p0 + 12) (p1 : Int32).toNatClampNeg j6_s2) 0 9).1) ((x_rd_takeNumber (sA T306 (p0 + 12) (p1 : Int32).toNatClampNeg j6_s2) 0 9).2)))) (fun (j8_s0 : Int32) (T308 : St) => if p2 = 1 then (fun (T91 : St) => x_rd_takeSign T91) (sA ((x_rd_takeNumber (sA T308 (p0 + 13) (p1 : Int32).toNatClampNeg j8_s0) j8_s0 9).2) (p0 + 14) (p1 : Int32).toNatClampNeg ((x_rd_takeNumber (sA T308 (p0 + 13) (p1 : Int32).toNatClampNeg j8_s0) j8_s0 9).1)) else (fun (T90 : St) => x_rd_takeSign T90) (sA (sA T308 (p0 + 13) (p1 : Int32).toNatClampNeg j8_s0) (p0 + 14) (p1 : Int32).toNatClampNeg (-1000000)))))))) KJ1) (by rw [hKJ1]) ?_
  refine r_ieq dX6_readStep_33 rfl (fun c33_79 => ?_) (fun c33_79 => ?_)
  · have kk := kk.1 c33_79
    show tR _ _ _ _ [some (.ref 13), some (.ref p0), some (.int p1), some (.int p2), none, none, none] [] _ _ _
    exact r_eV (r' := KJ1) (by simp only [jn]; rw [if_pos c33_79]) ((hJ1  kk))
  · have kk := kk.2 c33_79
    refine r_p dX6_readStep_36 rfl rfl ?_
    refine r_ci (x := 1) dX6_readStep_37 rfl ?_
    refine r_cne dX6_readStep_38 rfl (fun c38_80 => ?_) (fun c38_80 => ?_)
    · have kk := kk.2 c38_80
      refine r_ci (x := 0) dX6_readStep_45 rfl ?_
      refine r_p dX6_readStep_46 rfl rfl ?_
      refine r_p dX6_readStep_48 rfl rfl ?_
      obtain ⟨q349, kk⟩ := kk
      refine r_get dX6_readStep_49 fkX6_125 q349 rfl ?_
      refine r_p dX6_readStep_52 rfl rfl ?_
      refine r_p dX6_readStep_53 rfl rfl ?_
      obtain ⟨KJ6, hKJ6⟩ : ∃ q : Int32 → St → St, q = (fun (j6_s2 : Int32) (T306 : St) => jn (fun (KJ7 : St) => if 0 = 0 then (if p2 = 4 then (KJ7) else (jn (fun (KJ9 : Int32 → St → St) => if 0 = 0 then (KJ9 (-1000000) (sA T306 (p0 + 12) (p1 : Int32).toNatClampNeg j6_s2)) else (if p2 = 0 then (KJ9 ((x_rd_takeNumber (sA T306 (p0 + 12) (p1 : Int32).toNatClampNeg j6_s2) 0 1).1) ((x_rd_takeNumber (sA T306 (p0 + 12) (p1 : Int32).toNatClampNeg j6_s2) 0 1).2)) else (KJ9 ((x_rd_takeNumber (sA T306 (p0 + 12) (p1 : Int32).toNatClampNeg j6_s2) 0 9).1) ((x_rd_takeNumber (sA T306 (p0 + 12) (p1 : Int32).toNatClampNeg j6_s2) 0 9).2)))) (fun (j9_s0 : Int32) (T309 : St) => if p2 = 1 then (fun (T93 : St) => x_rd_takeSign T93) (sA ((x_rd_takeNumber (sA T309 (p0 + 13) (p1 : Int32).toNatClampNeg j9_s0) j9_s0 9).2) (p0 + 14) (p1 : Int32).toNatClampNeg ((x_rd_takeNumber (sA T309 (p0 + 13) (p1 : Int32).toNatClampNeg j9_s0) j9_s0 9).1)) else (fun (T92 : St) => x_rd_takeSign T92) (sA (sA T309 (p0 + 13) (p1 : Int32).toNatClampNeg j9_s0) (p0 + 14) (p1 : Int32).toNatClampNeg (-1000000))))) else (KJ7)) (jn (fun (KJ8 : Int32 → St → St) => if 1 = 0 then (KJ8 (-1000000) (sA T306 (p0 + 12) (p1 : Int32).toNatClampNeg j6_s2)) else (if p2 = 0 then (KJ8 ((x_rd_takeNumber (sA T306 (p0 + 12) (p1 : Int32).toNatClampNeg j6_s2) 0 1).1) ((x_rd_takeNumber (sA T306 (p0 + 12) (p1 : Int32).toNatClampNeg j6_s2) 0 1).2)) else (KJ8 ((x_rd_takeNumber (sA T306 (p0 + 12) (p1 : Int32).toNatClampNeg j6_s2) 0 9).1) ((x_rd_takeNumber (sA T306 (p0 + 12) (p1 : Int32).toNatClampNeg j6_s2) 0 9).2)))) (fun (j8_s0 : Int32) (T308 : St) => if p2 = 1 then (fun (T91 : St) => x_rd_takeSign T91) (sA ((x_rd_takeNumber (sA T308 (p0 + 13) (p1 : Int32).toNatClampNeg j8_s0) j8_s0 9).2) (p0 + 14) (p1 : Int32).toNatClampNeg ((x_rd_takeNumber (sA T308 (p0 + 13) (p1 : Int32).toNatClampNeg j8_s0) j8_s0 9).1)) else (fun (T90 : St) => x_rd_takeSign T90) (sA (sA T308 (p0 + 13) (p1 : Int32).toNatClampNeg j8_s0) (p0 + 14) (p1 : Int32).toNatClampNeg (-1000000))))) := ⟨_, rfl⟩
      obtain ⟨OJ6, hOJ6⟩ : ∃ q : Int32 → St → Prop, q = (fun (j6_s2 : Int32) (T306 : St) => (sh (p0 + 12) = .inl (0, 24)) ∧ (vp_in p1 24) ∧ jn (fun (OJ7 : Prop) => ((0 = 0 → ((p2 = 4 → OJ7) ∧ (¬ p2 = 4 → jn (fun (OJ9 : Int32 → St → Prop) => ((0 = 0 → OJ9 (-1000000) (sA T306 (p0 + 12) (p1 : Int32).toNatClampNeg j6_s2)) ∧ (¬ 0 = 0 → ((p2 = 0 → (ok_rd_takeNumber (sA T306 (p0 + 12) (p1 : Int32).toNatClampNeg j6_s2) 0 1) ∧ OJ9 ((x_rd_takeNumber (sA T306 (p0 + 12) (p1 : Int32).toNatClampNeg j6_s2) 0 1).1) ((x_rd_takeNumber (sA T306 (p0 + 12) (p1 : Int32).toNatClampNeg j6_s2) 0 1).2)) ∧ (¬ p2 = 0 → (ok_rd_takeNumber (sA T306 (p0 + 12) (p1 : Int32).toNatClampNeg j6_s2) 0 9) ∧ OJ9 ((x_rd_takeNumber (sA T306 (p0 + 12) (p1 : Int32).toNatClampNeg j6_s2) 0 9).1) ((x_rd_takeNumber (sA T306 (p0 + 12) (p1 : Int32).toNatClampNeg j6_s2) 0 9).2)))))) (fun (j9_s0 : Int32) (T309 : St) => (sh p0 = .inr 1) ∧ (sh (p0 + 13) = .inl (0, 24)) ∧ (vp_in p1 24) ∧ ((p2 = 1 → (ok_rd_takeNumber (sA T309 (p0 + 13) (p1 : Int32).toNatClampNeg j9_s0) j9_s0 9) ∧ (sh (p0 + 14) = .inl (0, 24)) ∧ (fun (T93 : St) => (ok_rd_takeSign T93) ∧ True) (sA ((x_rd_takeNumber (sA T309 (p0 + 13) (p1 : Int32).toNatClampNeg j9_s0) j9_s0 9).2) (p0 + 14) (p1 : Int32).toNatClampNeg ((x_rd_takeNumber (sA T309 (p0 + 13) (p1 : Int32).toNatClampNeg j9_s0) j9_s0 9).1))) ∧ (¬ p2 = 1 → (sh (p0 + 14) = .inl (0, 24)) ∧ (fun (T92 : St) => (ok_rd_takeSign T92) ∧ True) (sA (sA T309 (p0 + 13) (p1 : Int32).toNatClampNeg j9_s0) (p0 + 14) (p1 : Int32).toNatClampNeg (-1000000)))))))) ∧ (¬ 0 = 0 → OJ7))) (jn (fun (OJ8 : Int32 → St → Prop) => ((1 = 0 → OJ8 (-1000000) (sA T306 (p0 + 12) (p1 : Int32).toNatClampNeg j6_s2)) ∧ (¬ 1 = 0 → ((p2 = 0 → (ok_rd_takeNumber (sA T306 (p0 + 12) (p1 : Int32).toNatClampNeg j6_s2) 0 1) ∧ OJ8 ((x_rd_takeNumber (sA T306 (p0 + 12) (p1 : Int32).toNatClampNeg j6_s2) 0 1).1) ((x_rd_takeNumber (sA T306 (p0 + 12) (p1 : Int32).toNatClampNeg j6_s2) 0 1).2)) ∧ (¬ p2 = 0 → (ok_rd_takeNumber (sA T306 (p0 + 12) (p1 : Int32).toNatClampNeg j6_s2) 0 9) ∧ OJ8 ((x_rd_takeNumber (sA T306 (p0 + 12) (p1 : Int32).toNatClampNeg j6_s2) 0 9).1) ((x_rd_takeNumber (sA T306 (p0 + 12) (p1 : Int32).toNatClampNeg j6_s2) 0 9).2)))))) (fun (j8_s0 : Int32) (T308 : St) => (sh p0 = .inr 1) ∧ (sh (p0 + 13) = .inl (0, 24)) ∧ (vp_in p1 24) ∧ ((p2 = 1 → (ok_rd_takeNumber (sA T308 (p0 + 13) (p1 : Int32).toNatClampNeg j8_s0) j8_s0 9) ∧ (sh (p0 + 14) = .inl (0, 24)) ∧ (fun (T91 : St) => (ok_rd_takeSign T91) ∧ True) (sA ((x_rd_takeNumber (sA T308 (p0 + 13) (p1 : Int32).toNatClampNeg j8_s0) j8_s0 9).2) (p0 + 14) (p1 : Int32).toNatClampNeg ((x_rd_takeNumber (sA T308 (p0 + 13) (p1 : Int32).toNatClampNeg j8_s0) j8_s0 9).1))) ∧ (¬ p2 = 1 → (sh (p0 + 14) = .inl (0, 24)) ∧ (fun (T90 : St) => (ok_rd_takeSign T90) ∧ True) (sA (sA T308 (p0 + 13) (p1 : Int32).toNatClampNeg j8_s0) (p0 + 14) (p1 : Int32).toNatClampNeg (-1000000))))))) := ⟨_, rfl⟩
      rw [← hOJ6] at kk
      simp only [jn] at kk
      have hJ6 : ∀ (j6_s2 : Int32) (T306 : St), OJ6 j6_s2 T306 → tR X 3 mX6_readStep 77 [some (.ref 13), some (.ref p0), some (.int p1), some (.int p2), some (.int 0), none, none] [.int j6_s2, .int p1, .ref (p0 + 12)] T306 none (KJ6 j6_s2 T306) := by
        intro j6_s2 T306 kk
        rw [hOJ6] at kk
        try dsimp only at kk
        rw [hKJ6]
        obtain ⟨q351, kk⟩ := kk
        obtain ⟨q352, kk⟩ := kk
        refine r_ias dX6_readStep_77 q351 q352 ?_
        refine r_p dX6_readStep_78 rfl rfl ?_
        obtain ⟨KJ7, hKJ7⟩ : ∃ q : St, q = (jn (fun (KJ8 : Int32 → St → St) => if 1 = 0 then (KJ8 (-1000000) (sA T306 (p0 + 12) (p1 : Int32).toNatClampNeg j6_s2)) else (if p2 = 0 then (KJ8 ((x_rd_takeNumber (sA T306 (p0 + 12) (p1 : Int32).toNatClampNeg j6_s2) 0 1).1) ((x_rd_takeNumber (sA T306 (p0 + 12) (p1 : Int32).toNatClampNeg j6_s2) 0 1).2)) else (KJ8 ((x_rd_takeNumber (sA T306 (p0 + 12) (p1 : Int32).toNatClampNeg j6_s2) 0 9).1) ((x_rd_takeNumber (sA T306 (p0 + 12) (p1 : Int32).toNatClampNeg j6_s2) 0 9).2)))) (fun (j8_s0 : Int32) (T308 : St) => if p2 = 1 then (fun (T91 : St) => x_rd_takeSign T91) (sA ((x_rd_takeNumber (sA T308 (p0 + 13) (p1 : Int32).toNatClampNeg j8_s0) j8_s0 9).2) (p0 + 14) (p1 : Int32).toNatClampNeg ((x_rd_takeNumber (sA T308 (p0 + 13) (p1 : Int32).toNatClampNeg j8_s0) j8_s0 9).1)) else (fun (T90 : St) => x_rd_takeSign T90) (sA (sA T308 (p0 + 13) (p1 : Int32).toNatClampNeg j8_s0) (p0 + 14) (p1 : Int32).toNatClampNeg (-1000000)))) := ⟨_, rfl⟩
        obtain ⟨OJ7, hOJ7⟩ : ∃ q : Prop, q = (jn (fun (OJ8 : Int32 → St → Prop) => ((1 = 0 → OJ8 (-1000000) (sA T306 (p0 + 12) (p1 : Int32).toNatClampNeg j6_s2)) ∧ (¬ 1 = 0 → ((p2 = 0 → (ok_rd_takeNumber (sA T306 (p0 + 12) (p1 : Int32).toNatClampNeg j6_s2) 0 1) ∧ OJ8 ((x_rd_takeNumber (sA T306 (p0 + 12) (p1 : Int32).toNatClampNeg j6_s2) 0 1).1) ((x_rd_takeNumber (sA T306 (p0 + 12) (p1 : Int32).toNatClampNeg j6_s2) 0 1).2)) ∧ (¬ p2 = 0 → (ok_rd_takeNumber (sA T306 (p0 + 12) (p1 : Int32).toNatClampNeg j6_s2) 0 9) ∧ OJ8 ((x_rd_takeNumber (sA T306 (p0 + 12) (p1 : Int32).toNatClampNeg j6_s2) 0 9).1) ((x_rd_takeNumber (sA T306 (p0 + 12) (p1 : Int32).toNatClampNeg j6_s2) 0 9).2)))))) (fun (j8_s0 : Int32) (T308 : St) => (sh p0 = .inr 1) ∧ (sh (p0 + 13) = .inl (0, 24)) ∧ (vp_in p1 24) ∧ ((p2 = 1 → (ok_rd_takeNumber (sA T308 (p0 + 13) (p1 : Int32).toNatClampNeg j8_s0) j8_s0 9) ∧ (sh (p0 + 14) = .inl (0, 24)) ∧ (fun (T91 : St) => (ok_rd_takeSign T91) ∧ True) (sA ((x_rd_takeNumber (sA T308 (p0 + 13) (p1 : Int32).toNatClampNeg j8_s0) j8_s0 9).2) (p0 + 14) (p1 : Int32).toNatClampNeg ((x_rd_takeNumber (sA T308 (p0 + 13) (p1 : Int32).toNatClampNeg j8_s0) j8_s0 9).1))) ∧ (¬ p2 = 1 → (sh (p0 + 14) = .inl (0, 24)) ∧ (fun (T90 : St) => (ok_rd_takeSign T90) ∧ True) (sA (sA T308 (p0 + 13) (p1 : Int32).toNatClampNeg j8_s0) (p0 + 14) (p1 : Int32).toNatClampNeg (-1000000)))))) := ⟨_, rfl⟩
        rw [← hOJ7] at kk
        simp only [jn] at kk
        have hJ7 : OJ7 → tR X 3 mX6_readStep 88 [some (.ref 13), some (.ref p0), some (.int p1), some (.int p2), some (.int 0), none, none] [] (sA T306 (p0 + 12) (p1 : Int32).toNatClampNeg j6_s2) none KJ7 := by
          intro  kk
          rw [hOJ7] at kk
          try dsimp only at kk
          rw [hKJ7]
          refine r_ci (x := 1) dX6_readStep_88 rfl ?_
          refine r_go dX6_readStep_89 rfl ?_
          refine r_p dX6_readStep_93 rfl rfl ?_
          refine r_p dX6_readStep_95 rfl rfl ?_
          obtain ⟨KJ8, hKJ8⟩ : ∃ q : Int32 → St → St, q = (fun (j8_s0 : Int32) (T308 : St) => if p2 = 1 then (fun (T91 : St) => x_rd_takeSign T91) (sA ((x_rd_takeNumber (sA T308 (p0 + 13) (p1 : Int32).toNatClampNeg j8_s0) j8_s0 9).2) (p0 + 14) (p1 : Int32).toNatClampNeg ((x_rd_takeNumber (sA T308 (p0 + 13) (p1 : Int32).toNatClampNeg j8_s0) j8_s0 9).1)) else (fun (T90 : St) => x_rd_takeSign T90) (sA (sA T308 (p0 + 13) (p1 : Int32).toNatClampNeg j8_s0) (p0 + 14) (p1 : Int32).toNatClampNeg (-1000000))) := ⟨_, rfl⟩
          obtain ⟨OJ8, hOJ8⟩ : ∃ q : Int32 → St → Prop, q = (fun (j8_s0 : Int32) (T308 : St) => (sh p0 = .inr 1) ∧ (sh (p0 + 13) = .inl (0, 24)) ∧ (vp_in p1 24) ∧ ((p2 = 1 → (ok_rd_takeNumber (sA T308 (p0 + 13) (p1 : Int32).toNatClampNeg j8_s0) j8_s0 9) ∧ (sh (p0 + 14) = .inl (0, 24)) ∧ (fun (T91 : St) => (ok_rd_takeSign T91) ∧ True) (sA ((x_rd_takeNumber (sA T308 (p0 + 13) (p1 : Int32).toNatClampNeg j8_s0) j8_s0 9).2) (p0 + 14) (p1 : Int32).toNatClampNeg ((x_rd_takeNumber (sA T308 (p0 + 13) (p1 : Int32).toNatClampNeg j8_s0) j8_s0 9).1))) ∧ (¬ p2 = 1 → (sh (p0 + 14) = .inl (0, 24)) ∧ (fun (T90 : St) => (ok_rd_takeSign T90) ∧ True) (sA (sA T308 (p0 + 13) (p1 : Int32).toNatClampNeg j8_s0) (p0 + 14) (p1 : Int32).toNatClampNeg (-1000000))))) := ⟨_, rfl⟩
          rw [← hOJ8] at kk
          simp only [jn] at kk
          have hJ8 : ∀ (j8_s0 : Int32) (T308 : St), OJ8 j8_s0 T308 → tR X 3 mX6_readStep 120 [some (.ref 13), some (.ref p0), some (.int p1), some (.int p2), some (.int 0), some (.int 1), none] [.int j8_s0] T308 none (KJ8 j8_s0 T308) := by
            intro j8_s0 T308 kk
            rw [hOJ8] at kk
            try dsimp only at kk
            rw [hKJ8]
            refine r_p dX6_readStep_120 rfl rfl ?_
            refine r_p dX6_readStep_122 rfl rfl ?_
            obtain ⟨q387, kk⟩ := kk
            refine r_get dX6_readStep_123 fkX6_129 q387 rfl ?_
            refine r_p dX6_readStep_126 rfl rfl ?_
            refine r_p dX6_readStep_127 rfl rfl ?_
            obtain ⟨q388, kk⟩ := kk
            obtain ⟨q389, kk⟩ := kk
            refine r_ias dX6_readStep_129 q388 q389 ?_
            refine r_p dX6_readStep_130 rfl rfl ?_
            refine r_get dX6_readStep_131 fkX6_132 q387 rfl ?_
            refine r_p dX6_readStep_134 rfl rfl ?_
            refine r_p dX6_readStep_135 rfl rfl ?_
            refine r_ci (x := 1) dX6_readStep_136 rfl ?_
            refine r_cne dX6_readStep_137 rfl (fun c137_92 => ?_) (fun c137_92 => ?_)
            · have kk := kk.2 c137_92
              refine r_k dX6_readStep_151 kkX6_128 ?_
              obtain ⟨q390, kk⟩ := kk
              refine r_ias dX6_readStep_153 q390 q389 ?_
              refine r_eV (r' := (fun (T90 : St) => x_rd_takeSign T90) (sA (sA T308 (p0 + 13) (p1 : Int32).toNatClampNeg j8_s0) (p0 + 14) (p1 : Int32).toNatClampNeg (-1000000))) (by first | rw [if_neg c137_92] | (dsimp only; rw [if_neg c137_92])) ?_
              generalize sA (sA T308 (p0 + 13) (p1 : Int32).toNatClampNeg j8_s0) (p0 + 14) (p1 : Int32).toNatClampNeg (-1000000) = T90 at kk ⊢
              try dsimp only at kk
              refine r_p dX6_readStep_154 rfl rfl ?_
              obtain ⟨q391, kk⟩ := kk
              refine r_cv (d1 := 3) dX6_readStep_155 cvX6_70 rfl rfl rfl rfl (Nat.le_of_ble_eq_true rfl) (Nat.le_of_ble_eq_true rfl) (Nat.le_of_ble_eq_true rfl) (c_rd_takeSign  q391) ?_
              exact r_eV (r' := (x_rd_takeSign T90)) rfl (r_rv dX6_readStep_158 rfl rfl rfl)
            · have kk := kk.1 c137_92
              refine r_p dX6_readStep_140 rfl rfl ?_
              refine r_p dX6_readStep_141 rfl rfl ?_
              refine r_cb (x := 9) dX6_readStep_143 rfl ?_
              obtain ⟨q392, kk⟩ := kk
              refine r_cv (d1 := 3) dX6_readStep_145 cvX6_66 rfl rfl rfl rfl (Nat.le_of_ble_eq_true rfl) (Nat.le_of_ble_eq_true rfl) (Nat.le_of_ble_eq_true rfl) (c_rd_takeNumber j8_s0 9 q392) ?_
              refine r_go dX6_readStep_148 rfl ?_
              obtain ⟨q393, kk⟩ := kk
              refine r_ias dX6_readStep_153 q393 q389 ?_
              refine r_eV (r' := (fun (T91 : St) => x_rd_takeSign T91) (sA ((x_rd_takeNumber (sA T308 (p0 + 13) (p1 : Int32).toNatClampNeg j8_s0) j8_s0 9).2) (p0 + 14) (p1 : Int32).toNatClampNeg ((x_rd_takeNumber (sA T308 (p0 + 13) (p1 : Int32).toNatClampNeg j8_s0) j8_s0 9).1))) (by first | rw [if_pos c137_92] | (dsimp only; rw [if_pos c137_92])) ?_
              generalize sA ((x_rd_takeNumber (sA T308 (p0 + 13) (p1 : Int32).toNatClampNeg j8_s0) j8_s0 9).2) (p0 + 14) (p1 : Int32).toNatClampNeg ((x_rd_takeNumber (sA T308 (p0 + 13) (p1 : Int32).toNatClampNeg j8_s0) j8_s0 9).1) = T91 at kk ⊢
              try dsimp only at kk
              refine r_p dX6_readStep_154 rfl rfl ?_
              obtain ⟨q394, kk⟩ := kk
              refine r_cv (d1 := 3) dX6_readStep_155 cvX6_70 rfl rfl rfl rfl (Nat.le_of_ble_eq_true rfl) (Nat.le_of_ble_eq_true rfl) (Nat.le_of_ble_eq_true rfl) (c_rd_takeSign  q394) ?_
              exact r_eV (r' := (x_rd_takeSign T91)) rfl (r_rv dX6_readStep_158 rfl rfl rfl)
          refine r_eV (r' := jn (fun (KJ8 : Int32 → St → St) => if 1 = 0 then (KJ8 (-1000000) (sA T306 (p0 + 12) (p1 : Int32).toNatClampNeg j6_s2)) else (if p2 = 0 then (KJ8 ((x_rd_takeNumber (sA T306 (p0 + 12) (p1 : Int32).toNatClampNeg j6_s2) 0 1).1) ((x_rd_takeNumber (sA T306 (p0 + 12) (p1 : Int32).toNatClampNeg j6_s2) 0 1).2)) else (KJ8 ((x_rd_takeNumber (sA T306 (p0 + 12) (p1 : Int32).toNatClampNeg j6_s2) 0 9).1) ((x_rd_takeNumber (sA T306 (p0 + 12) (p1 : Int32).toNatClampNeg j6_s2) 0 9).2)))) KJ8) (by rw [hKJ8]) ?_
          refine r_ieq dX6_readStep_97 rfl (fun c97_93 => ?_) (fun c97_93 => ?_)
          · have kk := kk.1 c97_93
            refine r_k dX6_readStep_118 kkX6_128 ?_
            show tR _ _ _ _ [some (.ref 13), some (.ref p0), some (.int p1), some (.int p2), some (.int 0), some (.int 1), none] [.int (-1000000)] _ _ _
            exact r_eV (r' := KJ8 (-1000000) (sA T306 (p0 + 12) (p1 : Int32).toNatClampNeg j6_s2)) (by simp only [jn]; rw [if_pos c97_93]) ((hJ8 (-1000000) (sA T306 (p0 + 12) (p1 : Int32).toNatClampNeg j6_s2) kk))
          · have kk := kk.2 c97_93
            refine r_p dX6_readStep_100 rfl rfl ?_
            refine r_ci (x := 0) dX6_readStep_101 rfl ?_
            refine r_p dX6_readStep_102 rfl rfl ?_
            refine r_ine dX6_readStep_103 rfl (fun c103_94 => ?_) (fun c103_94 => ?_)
            · have kk := kk.2 c103_94
              refine r_cb (x := 9) dX6_readStep_110 rfl ?_
              obtain ⟨q395, kk⟩ := kk
              refine r_cv (d1 := 3) dX6_readStep_112 cvX6_66 rfl rfl rfl rfl (Nat.le_of_ble_eq_true rfl) (Nat.le_of_ble_eq_true rfl) (Nat.le_of_ble_eq_true rfl) (c_rd_takeNumber 0 9 q395) ?_
              refine r_go dX6_readStep_115 rfl ?_
              show tR _ _ _ _ [some (.ref 13), some (.ref p0), some (.int p1), some (.int p2), some (.int 0), some (.int 1), none] [.int ((x_rd_takeNumber (sA T306 (p0 + 12) (p1 : Int32).toNatClampNeg j6_s2) 0 9).1)] _ _ _
              exact r_eV (r' := KJ8 ((x_rd_takeNumber (sA T306 (p0 + 12) (p1 : Int32).toNatClampNeg j6_s2) 0 9).1) ((x_rd_takeNumber (sA T306 (p0 + 12) (p1 : Int32).toNatClampNeg j6_s2) 0 9).2)) (by simp only [jn]; rw [if_neg c97_93, if_neg c103_94]) ((hJ8 ((x_rd_takeNumber (sA T306 (p0 + 12) (p1 : Int32).toNatClampNeg j6_s2) 0 9).1) ((x_rd_takeNumber (sA T306 (p0 + 12) (p1 : Int32).toNatClampNeg j6_s2) 0 9).2) kk))
            · have kk := kk.1 c103_94
              refine r_ci (x := 1) dX6_readStep_106 rfl ?_
              refine r_go dX6_readStep_107 rfl ?_
              obtain ⟨q396, kk⟩ := kk
              refine r_cv (d1 := 3) dX6_readStep_112 cvX6_66 rfl rfl rfl rfl (Nat.le_of_ble_eq_true rfl) (Nat.le_of_ble_eq_true rfl) (Nat.le_of_ble_eq_true rfl) (c_rd_takeNumber 0 1 q396) ?_
              refine r_go dX6_readStep_115 rfl ?_
              show tR _ _ _ _ [some (.ref 13), some (.ref p0), some (.int p1), some (.int p2), some (.int 0), some (.int 1), none] [.int ((x_rd_takeNumber (sA T306 (p0 + 12) (p1 : Int32).toNatClampNeg j6_s2) 0 1).1)] _ _ _
              exact r_eV (r' := KJ8 ((x_rd_takeNumber (sA T306 (p0 + 12) (p1 : Int32).toNatClampNeg j6_s2) 0 1).1) ((x_rd_takeNumber (sA T306 (p0 + 12) (p1 : Int32).toNatClampNeg j6_s2) 0 1).2)) (by simp only [jn]; rw [if_neg c97_93, if_pos c103_94]) ((hJ8 ((x_rd_takeNumber (sA T306 (p0 + 12) (p1 : Int32).toNatClampNeg j6_s2) 0 1).1) ((x_rd_takeNumber (sA T306 (p0 + 12) (p1 : Int32).toNatClampNeg j6_s2) 0 1).2) kk))
        refine r_eV (r' := jn (fun (KJ7 : St) => if 0 = 0 then (if p2 = 4 then (KJ7) else (jn (fun (KJ9 : Int32 → St → St) => if 0 = 0 then (KJ9 (-1000000) (sA T306 (p0 + 12) (p1 : Int32).toNatClampNeg j6_s2)) else (if p2 = 0 then (KJ9 ((x_rd_takeNumber (sA T306 (p0 + 12) (p1 : Int32).toNatClampNeg j6_s2) 0 1).1) ((x_rd_takeNumber (sA T306 (p0 + 12) (p1 : Int32).toNatClampNeg j6_s2) 0 1).2)) else (KJ9 ((x_rd_takeNumber (sA T306 (p0 + 12) (p1 : Int32).toNatClampNeg j6_s2) 0 9).1) ((x_rd_takeNumber (sA T306 (p0 + 12) (p1 : Int32).toNatClampNeg j6_s2) 0 9).2)))) (fun (j9_s0 : Int32) (T309 : St) => if p2 = 1 then (fun (T93 : St) => x_rd_takeSign T93) (sA ((x_rd_takeNumber (sA T309 (p0 + 13) (p1 : Int32).toNatClampNeg j9_s0) j9_s0 9).2) (p0 + 14) (p1 : Int32).toNatClampNeg ((x_rd_takeNumber (sA T309 (p0 + 13) (p1 : Int32).toNatClampNeg j9_s0) j9_s0 9).1)) else (fun (T92 : St) => x_rd_takeSign T92) (sA (sA T309 (p0 + 13) (p1 : Int32).toNatClampNeg j9_s0) (p0 + 14) (p1 : Int32).toNatClampNeg (-1000000))))) else (KJ7)) KJ7) (by rw [hKJ7]) ?_
        refine r_ine dX6_readStep_80 rfl (fun c80_95 => ?_) (fun c80_95 => ?_)
        · have kk := kk.2 c80_95
          show tR _ _ _ _ [some (.ref 13), some (.ref p0), some (.int p1), some (.int p2), some (.int 0), none, none] [] _ _ _
          exact r_eV (r' := KJ7) (by simp only [jn]; rw [if_neg c80_95]) ((hJ7  kk))
        · have kk := kk.1 c80_95
          refine r_p dX6_readStep_83 rfl rfl ?_
          refine r_ci (x := 4) dX6_readStep_84 rfl ?_
          refine r_cne dX6_readStep_85 rfl (fun c85_96 => ?_) (fun c85_96 => ?_)
          · have kk := kk.2 c85_96
            refine r_ci (x := 0) dX6_readStep_92 rfl ?_
            refine r_p dX6_readStep_93 rfl rfl ?_
            refine r_p dX6_readStep_95 rfl rfl ?_
            obtain ⟨KJ9, hKJ9⟩ : ∃ q : Int32 → St → St, q = (fun (j9_s0 : Int32) (T309 : St) => if p2 = 1 then (fun (T93 : St) => x_rd_takeSign T93) (sA ((x_rd_takeNumber (sA T309 (p0 + 13) (p1 : Int32).toNatClampNeg j9_s0) j9_s0 9).2) (p0 + 14) (p1 : Int32).toNatClampNeg ((x_rd_takeNumber (sA T309 (p0 + 13) (p1 : Int32).toNatClampNeg j9_s0) j9_s0 9).1)) else (fun (T92 : St) => x_rd_takeSign T92) (sA (sA T309 (p0 + 13) (p1 : Int32).toNatClampNeg j9_s0) (p0 + 14) (p1 : Int32).toNatClampNeg (-1000000))) := ⟨_, rfl⟩
            obtain ⟨OJ9, hOJ9⟩ : ∃ q : Int32 → St → Prop, q = (fun (j9_s0 : Int32) (T309 : St) => (sh p0 = .inr 1) ∧ (sh (p0 + 13) = .inl (0, 24)) ∧ (vp_in p1 24) ∧ ((p2 = 1 → (ok_rd_takeNumber (sA T309 (p0 + 13) (p1 : Int32).toNatClampNeg j9_s0) j9_s0 9) ∧ (sh (p0 + 14) = .inl (0, 24)) ∧ (fun (T93 : St) => (ok_rd_takeSign T93) ∧ True) (sA ((x_rd_takeNumber (sA T309 (p0 + 13) (p1 : Int32).toNatClampNeg j9_s0) j9_s0 9).2) (p0 + 14) (p1 : Int32).toNatClampNeg ((x_rd_takeNumber (sA T309 (p0 + 13) (p1 : Int32).toNatClampNeg j9_s0) j9_s0 9).1))) ∧ (¬ p2 = 1 → (sh (p0 + 14) = .inl (0, 24)) ∧ (fun (T92 : St) => (ok_rd_takeSign T92) ∧ True) (sA (sA T309 (p0 + 13) (p1 : Int32).toNatClampNeg j9_s0) (p0 + 14) (p1 : Int32).toNatClampNeg (-1000000))))) := ⟨_, rfl⟩
            rw [← hOJ9] at kk
            simp only [jn] at kk
            have hJ9 : ∀ (j9_s0 : Int32) (T309 : St), OJ9 j9_s0 T309 → tR X 3 mX6_readStep 120 [some (.ref 13), some (.ref p0), some (.int p1), some (.int p2), some (.int 0), some (.int 0), none] [.int j9_s0] T309 none (KJ9 j9_s0 T309) := by
              intro j9_s0 T309 kk
              rw [hOJ9] at kk
              try dsimp only at kk
              rw [hKJ9]
              refine r_p dX6_readStep_120 rfl rfl ?_
              refine r_p dX6_readStep_122 rfl rfl ?_
              obtain ⟨q399, kk⟩ := kk
              refine r_get dX6_readStep_123 fkX6_129 q399 rfl ?_
              refine r_p dX6_readStep_126 rfl rfl ?_
              refine r_p dX6_readStep_127 rfl rfl ?_
              obtain ⟨q400, kk⟩ := kk
              obtain ⟨q401, kk⟩ := kk
              refine r_ias dX6_readStep_129 q400 q401 ?_
              refine r_p dX6_readStep_130 rfl rfl ?_
              refine r_get dX6_readStep_131 fkX6_132 q399 rfl ?_
              refine r_p dX6_readStep_134 rfl rfl ?_
              refine r_p dX6_readStep_135 rfl rfl ?_
              refine r_ci (x := 1) dX6_readStep_136 rfl ?_
              refine r_cne dX6_readStep_137 rfl (fun c137_99 => ?_) (fun c137_99 => ?_)
              · have kk := kk.2 c137_99
                refine r_k dX6_readStep_151 kkX6_128 ?_
                obtain ⟨q402, kk⟩ := kk
                refine r_ias dX6_readStep_153 q402 q401 ?_
                refine r_eV (r' := (fun (T92 : St) => x_rd_takeSign T92) (sA (sA T309 (p0 + 13) (p1 : Int32).toNatClampNeg j9_s0) (p0 + 14) (p1 : Int32).toNatClampNeg (-1000000))) (by first | rw [if_neg c137_99] | (dsimp only; rw [if_neg c137_99])) ?_
                generalize sA (sA T309 (p0 + 13) (p1 : Int32).toNatClampNeg j9_s0) (p0 + 14) (p1 : Int32).toNatClampNeg (-1000000) = T92 at kk ⊢
                try dsimp only at kk
                refine r_p dX6_readStep_154 rfl rfl ?_
                obtain ⟨q403, kk⟩ := kk
                refine r_cv (d1 := 3) dX6_readStep_155 cvX6_70 rfl rfl rfl rfl (Nat.le_of_ble_eq_true rfl) (Nat.le_of_ble_eq_true rfl) (Nat.le_of_ble_eq_true rfl) (c_rd_takeSign  q403) ?_
                exact r_eV (r' := (x_rd_takeSign T92)) rfl (r_rv dX6_readStep_158 rfl rfl rfl)
              · have kk := kk.1 c137_99
                refine r_p dX6_readStep_140 rfl rfl ?_
                refine r_p dX6_readStep_141 rfl rfl ?_
                refine r_cb (x := 9) dX6_readStep_143 rfl ?_
                obtain ⟨q404, kk⟩ := kk
                refine r_cv (d1 := 3) dX6_readStep_145 cvX6_66 rfl rfl rfl rfl (Nat.le_of_ble_eq_true rfl) (Nat.le_of_ble_eq_true rfl) (Nat.le_of_ble_eq_true rfl) (c_rd_takeNumber j9_s0 9 q404) ?_
                refine r_go dX6_readStep_148 rfl ?_
                obtain ⟨q405, kk⟩ := kk
                refine r_ias dX6_readStep_153 q405 q401 ?_
                refine r_eV (r' := (fun (T93 : St) => x_rd_takeSign T93) (sA ((x_rd_takeNumber (sA T309 (p0 + 13) (p1 : Int32).toNatClampNeg j9_s0) j9_s0 9).2) (p0 + 14) (p1 : Int32).toNatClampNeg ((x_rd_takeNumber (sA T309 (p0 + 13) (p1 : Int32).toNatClampNeg j9_s0) j9_s0 9).1))) (by first | rw [if_pos c137_99] | (dsimp only; rw [if_pos c137_99])) ?_
                generalize sA ((x_rd_takeNumber (sA T309 (p0 + 13) (p1 : Int32).toNatClampNeg j9_s0) j9_s0 9).2) (p0 + 14) (p1 : Int32).toNatClampNeg ((x_rd_takeNumber (sA T309 (p0 + 13) (p1 : Int32).toNatClampNeg j9_s0) j9_s0 9).1) = T93 at kk ⊢
                try dsimp only at kk
                refine r_p dX6_readStep_154 rfl rfl ?_
                obtain ⟨q406, kk⟩ := kk
                refine r_cv (d1 := 3) dX6_readStep_155 cvX6_70 rfl rfl rfl rfl (Nat.le_of_ble_eq_true rfl) (Nat.le_of_ble_eq_true rfl) (Nat.le_of_ble_eq_true rfl) (c_rd_takeSign  q406) ?_
                exact r_eV (r' := (x_rd_takeSign T93)) rfl (r_rv dX6_readStep_158 rfl rfl rfl)
            refine r_eV (r' := jn (fun (KJ9 : Int32 → St → St) => if 0 = 0 then (KJ9 (-1000000) (sA T306 (p0 + 12) (p1 : Int32).toNatClampNeg j6_s2)) else (if p2 = 0 then (KJ9 ((x_rd_takeNumber (sA T306 (p0 + 12) (p1 : Int32).toNatClampNeg j6_s2) 0 1).1) ((x_rd_takeNumber (sA T306 (p0 + 12) (p1 : Int32).toNatClampNeg j6_s2) 0 1).2)) else (KJ9 ((x_rd_takeNumber (sA T306 (p0 + 12) (p1 : Int32).toNatClampNeg j6_s2) 0 9).1) ((x_rd_takeNumber (sA T306 (p0 + 12) (p1 : Int32).toNatClampNeg j6_s2) 0 9).2)))) KJ9) (by rw [hKJ9]; simp only [jn]; rw [if_pos c80_95, if_neg c85_96]) ?_
            refine r_ieq dX6_readStep_97 rfl (fun c97_100 => ?_) (fun c97_100 => ?_)
            · have kk := kk.1 c97_100
              refine r_k dX6_readStep_118 kkX6_128 ?_
              show tR _ _ _ _ [some (.ref 13), some (.ref p0), some (.int p1), some (.int p2), some (.int 0), some (.int 0), none] [.int (-1000000)] _ _ _
              exact r_eV (r' := KJ9 (-1000000) (sA T306 (p0 + 12) (p1 : Int32).toNatClampNeg j6_s2)) (by simp only [jn]; rw [if_pos c97_100]) ((hJ9 (-1000000) (sA T306 (p0 + 12) (p1 : Int32).toNatClampNeg j6_s2) kk))
            · have kk := kk.2 c97_100
              refine r_p dX6_readStep_100 rfl rfl ?_
              refine r_ci (x := 0) dX6_readStep_101 rfl ?_
              refine r_p dX6_readStep_102 rfl rfl ?_
              refine r_ine dX6_readStep_103 rfl (fun c103_101 => ?_) (fun c103_101 => ?_)
              · have kk := kk.2 c103_101
                refine r_cb (x := 9) dX6_readStep_110 rfl ?_
                obtain ⟨q407, kk⟩ := kk
                refine r_cv (d1 := 3) dX6_readStep_112 cvX6_66 rfl rfl rfl rfl (Nat.le_of_ble_eq_true rfl) (Nat.le_of_ble_eq_true rfl) (Nat.le_of_ble_eq_true rfl) (c_rd_takeNumber 0 9 q407) ?_
                refine r_go dX6_readStep_115 rfl ?_
                show tR _ _ _ _ [some (.ref 13), some (.ref p0), some (.int p1), some (.int p2), some (.int 0), some (.int 0), none] [.int ((x_rd_takeNumber (sA T306 (p0 + 12) (p1 : Int32).toNatClampNeg j6_s2) 0 9).1)] _ _ _
                exact r_eV (r' := KJ9 ((x_rd_takeNumber (sA T306 (p0 + 12) (p1 : Int32).toNatClampNeg j6_s2) 0 9).1) ((x_rd_takeNumber (sA T306 (p0 + 12) (p1 : Int32).toNatClampNeg j6_s2) 0 9).2)) (by simp only [jn]; rw [if_neg c97_100, if_neg c103_101]) ((hJ9 ((x_rd_takeNumber (sA T306 (p0 + 12) (p1 : Int32).toNatClampNeg j6_s2) 0 9).1) ((x_rd_takeNumber (sA T306 (p0 + 12) (p1 : Int32).toNatClampNeg j6_s2) 0 9).2) kk))
              · have kk := kk.1 c103_101
                refine r_ci (x := 1) dX6_readStep_106 rfl ?_
                refine r_go dX6_readStep_107 rfl ?_
                obtain ⟨q408, kk⟩ := kk
                refine r_cv (d1 := 3) dX6_readStep_112 cvX6_66 rfl rfl rfl rfl (Nat.le_of_ble_eq_true rfl) (Nat.le_of_ble_eq_true rfl) (Nat.le_of_ble_eq_true rfl) (c_rd_takeNumber 0 1 q408) ?_
                refine r_go dX6_readStep_115 rfl ?_
                show tR _ _ _ _ [some (.ref 13), some (.ref p0), some (.int p1), some (.int p2), some (.int 0), some (.int 0), none] [.int ((x_rd_takeNumber (sA T306 (p0 + 12) (p1 : Int32).toNatClampNeg j6_s2) 0 1).1)] _ _ _
                exact r_eV (r' := KJ9 ((x_rd_takeNumber (sA T306 (p0 + 12) (p1 : Int32).toNatClampNeg j6_s2) 0 1).1) ((x_rd_takeNumber (sA T306 (p0 + 12) (p1 : Int32).toNatClampNeg j6_s2) 0 1).2)) (by simp only [jn]; rw [if_neg c97_100, if_pos c103_101]) ((hJ9 ((x_rd_takeNumber (sA T306 (p0 + 12) (p1 : Int32).toNatClampNeg j6_s2) 0 1).1) ((x_rd_takeNumber (sA T306 (p0 + 12) (p1 : Int32).toNatClampNeg j6_s2) 0 1).2) kk))
          · have kk := kk.1 c85_96
            show tR _ _ _ _ [some (.ref 13), some (.ref p0), some (.int p1), some (.int p2), some (.int 0), none, none] [] _ _ _
            exact r_eV (r' := KJ7) (by simp only [jn]; rw [if_pos c80_95, if_pos c85_96]) ((hJ7  kk))
      refine r_eV (r' := jn (fun (KJ6 : Int32 → St → St) => if 0 = 0 then (if p2 = 2 then (KJ6 2 T2) else (KJ6 0 T2)) else (KJ6 ((x_rd_takeNumber T2 0 2).1) ((x_rd_takeNumber T2 0 2).2))) KJ6) (by rw [hKJ6]; simp only [jn]; rw [if_neg c33_79, if_neg c38_80]) ?_
      refine r_ieq dX6_readStep_55 rfl (fun c55_102 => ?_) (fun c55_102 => ?_)
      · have kk := kk.1 c55_102
        refine r_p dX6_readStep_67 rfl rfl ?_
        refine r_ci (x := 2) dX6_readStep_68 rfl ?_
        refine r_cne dX6_readStep_69 rfl (fun c69_103 => ?_) (fun c69_103 => ?_)
        · have kk := kk.2 c69_103
          refine r_ci (x := 0) dX6_readStep_76 rfl ?_
          show tR _ _ _ _ [some (.ref 13), some (.ref p0), some (.int p1), some (.int p2), some (.int 0), none, none] [.int 0, .int p1, .ref (p0 + 12)] _ _ _
          exact r_eV (r' := KJ6 0 T2) (by simp only [jn]; rw [if_pos c55_102, if_neg c69_103]) ((hJ6 0 T2 kk))
        · have kk := kk.1 c69_103
          refine r_ci (x := 2) dX6_readStep_72 rfl ?_
          refine r_go dX6_readStep_73 rfl ?_
          show tR _ _ _ _ [some (.ref 13), some (.ref p0), some (.int p1), some (.int p2), some (.int 0), none, none] [.int 2, .int p1, .ref (p0 + 12)] _ _ _
          exact r_eV (r' := KJ6 2 T2) (by simp only [jn]; rw [if_pos c55_102, if_pos c69_103]) ((hJ6 2 T2 kk))
      · have kk := kk.2 c55_102
        refine r_p dX6_readStep_58 rfl rfl ?_
        refine r_ci (x := 0) dX6_readStep_59 rfl ?_
        refine r_ci (x := 2) dX6_readStep_60 rfl ?_
        obtain ⟨q409, kk⟩ := kk
        refine r_cv (d1 := 3) dX6_readStep_61 cvX6_66 rfl rfl rfl rfl (Nat.le_of_ble_eq_true rfl) (Nat.le_of_ble_eq_true rfl) (Nat.le_of_ble_eq_true rfl) (c_rd_takeNumber 0 2 q409) ?_
        refine r_go dX6_readStep_64 rfl ?_
        show tR _ _ _ _ [some (.ref 13), some (.ref p0), some (.int p1), some (.int p2), some (.int 0), none, none] [.int ((x_rd_takeNumber T2 0 2).1), .int p1, .ref (p0 + 12)] _ _ _
        exact r_eV (r' := KJ6 ((x_rd_takeNumber T2 0 2).1) ((x_rd_takeNumber T2 0 2).2)) (by simp only [jn]; rw [if_neg c55_102]) ((hJ6 ((x_rd_takeNumber T2 0 2).1) ((x_rd_takeNumber T2 0 2).2) kk))
    · have kk := kk.1 c38_80
      show tR _ _ _ _ [some (.ref 13), some (.ref p0), some (.int p1), some (.int p2), none, none, none] [] _ _ _
      exact r_eV (r' := KJ1) (by simp only [jn]; rw [if_neg c33_79, if_pos c38_80]) ((hJ1  kk))
