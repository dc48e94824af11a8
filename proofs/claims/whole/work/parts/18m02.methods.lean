def x_ki_fewerThan (T : St) (a : Nat) (p0 : Int32) (p1 : Int32) : Int64 := T.2.2.2 (a + 1) (((p0 * 5) + p1) - 1 : Int32).toNatClampNeg
def ok_ki_fewerThan (T : St) (a : Nat) (p0 : Int32) (p1 : Int32) : Prop := (sh a = .inr 3) ∧ (vp_in (((p0 * 5) + p1) - 1) 25) ∧ True
theorem c_ki_fewerThan {X : Nat × (Nat → Int32)} {T : St} (a : Nat) (p0 : Int32) (p1 : Int32) (kk : ok_ki_fewerThan T a p0 p1) : tC X 1 mX3_fewerThan [.ref a, .int p0, .int p1] T (some (.long (x_ki_fewerThan T a p0 p1))) T := by
  unfold ok_ki_fewerThan at kk
  refine tC_orJp (L := [some (.ref a), some (.int p0), some (.int p1)]) (x_ki_fewerThan T a p0 p1) rfl ?_
  unfold x_ki_fewerThan
  refine r_p (pc2 := 1) dX3_fewerThan_0 rfl rfl ?_
  obtain ⟨q1, kk⟩ := kk
  refine r_get dX3_fewerThan_1 fkX3_11 q1 rfl ?_
  refine r_p (pc2 := 5) dX3_fewerThan_4 rfl rfl ?_
  refine r_ci (x := 5) dX3_fewerThan_5 rfl ?_
  refine r_p (pc2 := 7) dX3_fewerThan_6 rfl rfl ?_
  refine r_p (pc2 := 8) dX3_fewerThan_7 rfl rfl ?_
  refine r_p (pc2 := 9) dX3_fewerThan_8 rfl rfl ?_
  refine r_ci (x := 1) dX3_fewerThan_9 rfl ?_
  refine r_p (pc2 := 11) dX3_fewerThan_10 rfl rfl ?_
  obtain ⟨q2, kk⟩ := kk
  refine r_la dX3_fewerThan_11 (shl3_1 q1) q2 ?_
  exact r_qJp dX3_fewerThan_12 rfl rfl
def x_ki_give_2 (l0 : Nat) (l1 : Int32) (l2 : Int32) (K : Int32 → St → St) : Nat → Int32 → St → St
  | 0, _, T => T
  | f + 1, v3, T => if 5 < v3 then (K v3 T) else (if v3 ≤ l2 then (x_ki_give_2 l0 l1 l2 K f (v3 + 1) (sL T (l0 + 1) (((l1 * 5) + v3) - 1 : Int32).toNatClampNeg 0)) else (x_ki_give_2 l0 l1 l2 K f (v3 + 1) (sL T (l0 + 1) (((l1 * 5) + v3) - 1 : Int32).toNatClampNeg (-1))))
def ok_ki_give_2 (l0 : Nat) (l1 : Int32) (l2 : Int32) (Kk : Int32 → St → Prop) : Nat → Int32 → St → Prop
  | 0, _, _ => False
  | f + 1, v3, T => ((5 < v3 → Kk v3 T) ∧ (¬ 5 < v3 → (sh l0 = .inr 3) ∧ ((v3 ≤ l2 → (vp_in (((l1 * 5) + v3) - 1) 25) ∧ ok_ki_give_2 l0 l1 l2 Kk f (v3 + 1) (sL T (l0 + 1) (((l1 * 5) + v3) - 1 : Int32).toNatClampNeg 0)) ∧ (¬ v3 ≤ l2 → (vp_in (((l1 * 5) + v3) - 1) 25) ∧ ok_ki_give_2 l0 l1 l2 Kk f (v3 + 1) (sL T (l0 + 1) (((l1 * 5) + v3) - 1 : Int32).toNatClampNeg (-1))))))
theorem c_ki_give_2 {X : Nat × (Nat → Int32)} (l0 : Nat) (l1 : Int32) (l2 : Int32) {K : Int32 → St → St} {Kk : Int32 → St → Prop} (hk : ∀ (v3 : Int32) (T : St), Kk v3 T → tR X 0 mX3_give 37 [some (.ref l0), some (.int l1), some (.int l2), some (.int v3)] [] T (rV (K v3 T)).1 ((rV (K v3 T)).2)) : ∀ (f : Nat) (v3 : Int32) (T : St), ok_ki_give_2 l0 l1 l2 Kk f v3 T → tR X 0 mX3_give 2 [some (.ref l0), some (.int l1), some (.int l2), some (.int v3)] [] T (rV (x_ki_give_2 l0 l1 l2 K f v3 T)).1 ((rV (x_ki_give_2 l0 l1 l2 K f v3 T)).2) := by
  intro f
  induction f with
  | zero => intro v3 T kk; exact kk.elim
  | succ f ih =>
    intro v3 T kk
    rw [ok_ki_give_2] at kk
    rw [x_ki_give_2]
    refine r_p (pc2 := 3) dX3_give_2 rfl rfl ?_
    refine r_ci (x := 5) dX3_give_3 rfl ?_
    refine r_cgt dX3_give_4 rfl (fun c4_1 => ?_) (fun c4_1 => ?_)
    · refine r_ip (R := rV) c4_1 ?_
      have kk := kk.1 c4_1
      show tR _ _ _ _ [some (.ref l0), some (.int l1), some (.int l2), some (.int v3)] _ _ _ _
      exact (hk v3 T kk)
    · refine r_in (R := rV) c4_1 ?_
      have kk := kk.2 c4_1
      refine r_p (pc2 := 8) dX3_give_7 rfl rfl ?_
      obtain ⟨q1, kk⟩ := kk
      refine r_get dX3_give_8 fkX3_11 q1 rfl ?_
      refine r_p (pc2 := 12) dX3_give_11 rfl rfl ?_
      refine r_ci (x := 5) dX3_give_12 rfl ?_
      refine r_p (pc2 := 14) dX3_give_13 rfl rfl ?_
      refine r_p (pc2 := 15) dX3_give_14 rfl rfl ?_
      refine r_p (pc2 := 16) dX3_give_15 rfl rfl ?_
      refine r_ci (x := 1) dX3_give_16 rfl ?_
      refine r_p (pc2 := 18) dX3_give_17 rfl rfl ?_
      refine r_p (pc2 := 19) dX3_give_18 rfl rfl ?_
      refine r_p (pc2 := 20) dX3_give_19 rfl rfl ?_
      refine r_cge dX3_give_20 rfl (fun c20_2 => ?_) (fun c20_2 => ?_)
      · refine r_ip (R := rV) c20_2 ?_
        have kk := kk.1 c20_2
        refine r_cl (x := 0) dX3_give_29 rfl ?_
        obtain ⟨q2, kk⟩ := kk
        refine r_las dX3_give_30 (shl3_1 q1) q2 ?_
        refine r_inc (L2 := [some (.ref l0), some (.int l1), some (.int l2), some (.int (v3 + 1))]) (y := 1) dX3_give_31 rfl rfl rfl ?_
        refine r_go dX3_give_34 rfl ?_
        show tR _ _ _ _ [some (.ref l0), some (.int l1), some (.int l2), some (.int (v3 + 1))] _ _ _ _
        exact (ih (v3 + 1) (sL T (l0 + 1) (((l1 * 5) + v3) - 1 : Int32).toNatClampNeg 0) kk)
      · refine r_in (R := rV) c20_2 ?_
        have kk := kk.2 c20_2
        refine r_kl dX3_give_23 klX3_47 ?_
        refine r_go dX3_give_26 rfl ?_
        obtain ⟨q3, kk⟩ := kk
        refine r_las dX3_give_30 (shl3_1 q1) q3 ?_
        refine r_inc (L2 := [some (.ref l0), some (.int l1), some (.int l2), some (.int (v3 + 1))]) (y := 1) dX3_give_31 rfl rfl rfl ?_
        refine r_go dX3_give_34 rfl ?_
        show tR _ _ _ _ [some (.ref l0), some (.int l1), some (.int l2), some (.int (v3 + 1))] _ _ _ _
        exact (ih (v3 + 1) (sL T (l0 + 1) (((l1 * 5) + v3) - 1 : Int32).toNatClampNeg (-1)) kk)
def x_ki_give (T : St) (a : Nat) (p0 : Int32) (p1 : Int32) : St := x_ki_give_2 a p0 p1 (fun (w1_3 : Int32) (T201 : St) => T201) 1000 1 T
def ok_ki_give (T : St) (a : Nat) (p0 : Int32) (p1 : Int32) : Prop := ok_ki_give_2 a p0 p1 (fun (w1_3 : Int32) (T201 : St) => True) 1000 1 T
theorem c_ki_give {X : Nat × (Nat → Int32)} {T : St} (a : Nat) (p0 : Int32) (p1 : Int32) (kk : ok_ki_give T a p0 p1) : tC X 1 mX3_give [.ref a, .int p0, .int p1] T none (x_ki_give T a p0 p1) := by
  unfold ok_ki_give at kk
  refine tC_orV (L := [some (.ref a), some (.int p0), some (.int p1), none]) (x_ki_give T a p0 p1) rfl ?_
  unfold x_ki_give
  refine r_ci (x := 1) dX3_give_0 rfl ?_
  refine r_p (pc2 := 2) (L2 := [some (.ref a), some (.int p0), some (.int p1), some (.int 1)]) dX3_give_1 rfl rfl ?_
  show tR _ _ _ _ [some (.ref a), some (.int p0), some (.int p1), some (.int 1)] _ _ _ _
  refine (c_ki_give_2 a p0 p1 (fun w1_3 T201 kk => ?_) 1000 1 T kk)
  · skip
    exact r_qV dX3_give_37 rfl rfl
def x_ki_giveOneLess_8 (l0 : Nat) (l1 : Int32) (l2 : Int64) (l4 : Int32) (K : Int32 → St → St) : Nat → Int32 → St → St
  | 0, _, T => T
  | f + 1, v5, T => if 5 ≤ v5 then (K v5 T) else (jn (fun (T1 : St) => x_ki_giveOneLess_8 l0 l1 l2 l4 K f (v5 + 1) T1) (sL T (l0 + 1) ((l4 + v5) - 1 : Int32).toNatClampNeg ((T.2.2.2 (l0 + 1) ((l4 + v5) - 1 : Int32).toNatClampNeg) ||| (l2 &&& (T.2.2.2 (l0 + 1) (l4 + v5 : Int32).toNatClampNeg)))))
def ok_ki_giveOneLess_8 (l0 : Nat) (l1 : Int32) (l2 : Int64) (l4 : Int32) (Kk : Int32 → St → Prop) : Nat → Int32 → St → Prop
  | 0, _, _ => False
  | f + 1, v5, T => ((5 ≤ v5 → Kk v5 T) ∧ (¬ 5 ≤ v5 → (sh l0 = .inr 3) ∧ (vp_in ((l4 + v5) - 1) 25) ∧ (vp_in (l4 + v5) 25) ∧ jn (fun (T1 : St) => ok_ki_giveOneLess_8 l0 l1 l2 l4 Kk f (v5 + 1) T1) (sL T (l0 + 1) ((l4 + v5) - 1 : Int32).toNatClampNeg ((T.2.2.2 (l0 + 1) ((l4 + v5) - 1 : Int32).toNatClampNeg) ||| (l2 &&& (T.2.2.2 (l0 + 1) (l4 + v5 : Int32).toNatClampNeg))))))
theorem c_ki_giveOneLess_8 {X : Nat × (Nat → Int32)} (l0 : Nat) (l1 : Int32) (l2 : Int64) (l4 : Int32) {K : Int32 → St → St} {Kk : Int32 → St → Prop} (hk : ∀ (v5 : Int32) (T : St), Kk v5 T → tR X 0 mX3_giveOneLess 47 [some (.ref l0), some (.int l1), some (.long l2), none, some (.int l4), some (.int v5)] [] T (rV (K v5 T)).1 ((rV (K v5 T)).2)) : ∀ (f : Nat) (v5 : Int32) (T : St), ok_ki_giveOneLess_8 l0 l1 l2 l4 Kk f v5 T → tR X 0 mX3_giveOneLess 8 [some (.ref l0), some (.int l1), some (.long l2), none, some (.int l4), some (.int v5)] [] T (rV (x_ki_giveOneLess_8 l0 l1 l2 l4 K f v5 T)).1 ((rV (x_ki_giveOneLess_8 l0 l1 l2 l4 K f v5 T)).2) := by
  intro f
  induction f with
  | zero => intro v5 T kk; exact kk.elim
  | succ f ih =>
    intro v5 T kk
    rw [ok_ki_giveOneLess_8] at kk
    rw [x_ki_giveOneLess_8]
    refine r_p (pc2 := 10) dX3_giveOneLess_8 rfl rfl ?_
    refine r_ci (x := 5) dX3_giveOneLess_10 rfl ?_
    refine r_cge dX3_giveOneLess_11 rfl (fun c11_1 => ?_) (fun c11_1 => ?_)
    · refine r_ip (R := rV) c11_1 ?_
      have kk := kk.1 c11_1
      show tR _ _ _ _ [some (.ref l0), some (.int l1), some (.long l2), none, some (.int l4), some (.int v5)] _ _ _ _
      exact (hk v5 T kk)
    · refine r_in (R := rV) c11_1 ?_
      have kk := kk.2 c11_1
      refine r_p (pc2 := 15) dX3_giveOneLess_14 rfl rfl ?_
      obtain ⟨q1, kk⟩ := kk
      refine r_get dX3_giveOneLess_15 fkX3_11 q1 rfl ?_
      refine r_p (pc2 := 20) dX3_giveOneLess_18 rfl rfl ?_
      refine r_p (pc2 := 22) dX3_giveOneLess_20 rfl rfl ?_
      refine r_p (pc2 := 23) dX3_giveOneLess_22 rfl rfl ?_
      refine r_ci (x := 1) dX3_giveOneLess_23 rfl ?_
      refine r_p (pc2 := 25) dX3_giveOneLess_24 rfl rfl ?_
      refine r_p (pc2 := 26) dX3_giveOneLess_25 rfl rfl ?_
      obtain ⟨q2, kk⟩ := kk
      refine r_la dX3_giveOneLess_26 (shl3_1 q1) q2 ?_
      refine r_p (pc2 := 28) dX3_giveOneLess_27 rfl rfl ?_
      refine r_p (pc2 := 29) dX3_giveOneLess_28 rfl rfl ?_
      refine r_get dX3_giveOneLess_29 fkX3_11 q1 rfl ?_
      refine r_p (pc2 := 34) dX3_giveOneLess_32 rfl rfl ?_
      refine r_p (pc2 := 36) dX3_giveOneLess_34 rfl rfl ?_
      refine r_p (pc2 := 37) dX3_giveOneLess_36 rfl rfl ?_
      obtain ⟨q3, kk⟩ := kk
      refine r_la dX3_giveOneLess_37 (shl3_1 q1) q3 ?_
      refine r_p (pc2 := 39) dX3_giveOneLess_38 rfl rfl ?_
      refine r_p (pc2 := 40) dX3_giveOneLess_39 rfl rfl ?_
      refine r_las dX3_giveOneLess_40 (shl3_1 q1) q2 ?_
      refine r_nT (R := rV) rfl kk (fun T1 kk => ?_)
      refine r_inc (L2 := [some (.ref l0), some (.int l1), some (.long l2), none, some (.int l4), some (.int (v5 + 1))]) (y := 1) dX3_giveOneLess_41 rfl rfl rfl ?_
      refine r_go dX3_giveOneLess_44 rfl ?_
      show tR _ _ _ _ [some (.ref l0), some (.int l1), some (.long l2), none, some (.int l4), some (.int (v5 + 1))] _ _ _ _
      exact (ih (v5 + 1) T1 kk)
def x_ki_giveOneLess (T : St) (a : Nat) (p0 : Int32) (p1 : Int64) : St := x_ki_giveOneLess_8 a p0 p1 (p0 * 5) (fun (w1_5 : Int32) (T201 : St) => T201) 1000 1 T
def ok_ki_giveOneLess (T : St) (a : Nat) (p0 : Int32) (p1 : Int64) : Prop := ok_ki_giveOneLess_8 a p0 p1 (p0 * 5) (fun (w1_5 : Int32) (T201 : St) => True) 1000 1 T
theorem c_ki_giveOneLess {X : Nat × (Nat → Int32)} {T : St} (a : Nat) (p0 : Int32) (p1 : Int64) (kk : ok_ki_giveOneLess T a p0 p1) : tC X 1 mX3_giveOneLess [.ref a, .int p0, .long p1] T none (x_ki_giveOneLess T a p0 p1) := by
  unfold ok_ki_giveOneLess at kk
  refine tC_orV (L := [some (.ref a), some (.int p0), some (.long p1), none, none, none]) (x_ki_giveOneLess T a p0 p1) rfl ?_
  unfold x_ki_giveOneLess
  refine r_p (pc2 := 1) dX3_giveOneLess_0 rfl rfl ?_
  refine r_ci (x := 5) dX3_giveOneLess_1 rfl ?_
  refine r_p (pc2 := 3) dX3_giveOneLess_2 rfl rfl ?_
  refine r_p (pc2 := 5) (L2 := [some (.ref a), some (.int p0), some (.long p1), none, some (.int (p0 * 5)), none]) dX3_giveOneLess_3 rfl rfl ?_
  refine r_ci (x := 1) dX3_giveOneLess_5 rfl ?_
  refine r_p (pc2 := 8) (L2 := [some (.ref a), some (.int p0), some (.long p1), none, some (.int (p0 * 5)), some (.int 1)]) dX3_giveOneLess_6 rfl rfl ?_
  show tR _ _ _ _ [some (.ref a), some (.int p0), some (.long p1), none, some (.int (p0 * 5)), some (.int 1)] _ _ _ _
  refine (c_ki_giveOneLess_8 a p0 p1 (p0 * 5) (fun w1_5 T201 kk => ?_) 1000 1 T kk)
  · skip
    exact r_qV dX3_giveOneLess_47 rfl rfl
def x_ov_want_78 (l1 : Nat) (l2 : Nat) (l3 : Int32) (l4 : Int32) (l5 : Int32) (K : Int32 → St → St) : Nat → Int32 → St → St
  | 0, _, T => T
  | f + 1, v6, T => if l5 ≤ v6 then (K v6 T) else (jn (fun (T4 : St) => jn (fun (T5 : St) => x_ov_want_78 l1 l2 l3 l4 l5 K f (v6 + 1) T5) (sA T4 530 (v6 : Int32).toNatClampNeg (if T4.2.2.1 (l1 + 14) (l4 : Int32).toNatClampNeg < T4.2.2.1 530 (v6 : Int32).toNatClampNeg then T4.2.2.1 (l1 + 14) (l4 : Int32).toNatClampNeg else T4.2.2.1 530 (v6 : Int32).toNatClampNeg : Int32))) (sA T 529 (v6 : Int32).toNatClampNeg (if T.2.2.1 529 (v6 : Int32).toNatClampNeg < T.2.2.1 (l1 + 13) (l4 : Int32).toNatClampNeg then T.2.2.1 (l1 + 13) (l4 : Int32).toNatClampNeg else T.2.2.1 529 (v6 : Int32).toNatClampNeg : Int32)))
def ok_ov_want_78 (l1 : Nat) (l2 : Nat) (l3 : Int32) (l4 : Int32) (l5 : Int32) (Kk : Int32 → St → Prop) : Nat → Int32 → St → Prop
  | 0, _, _ => False
  | f + 1, v6, T => ((l5 ≤ v6 → Kk v6 T) ∧ (¬ l5 ≤ v6 → (vp_in v6 60) ∧ (sh l1 = .inr 1) ∧ (vp_in l4 24) ∧ jn (fun (T4 : St) => jn (fun (T5 : St) => ok_ov_want_78 l1 l2 l3 l4 l5 Kk f (v6 + 1) T5) (sA T4 530 (v6 : Int32).toNatClampNeg (if T4.2.2.1 (l1 + 14) (l4 : Int32).toNatClampNeg < T4.2.2.1 530 (v6 : Int32).toNatClampNeg then T4.2.2.1 (l1 + 14) (l4 : Int32).toNatClampNeg else T4.2.2.1 530 (v6 : Int32).toNatClampNeg : Int32))) (sA T 529 (v6 : Int32).toNatClampNeg (if T.2.2.1 529 (v6 : Int32).toNatClampNeg < T.2.2.1 (l1 + 13) (l4 : Int32).toNatClampNeg then T.2.2.1 (l1 + 13) (l4 : Int32).toNatClampNeg else T.2.2.1 529 (v6 : Int32).toNatClampNeg : Int32))))
theorem c_ov_want_78 {X : Nat × (Nat → Int32)} (l1 : Nat) (l2 : Nat) (l3 : Int32) (l4 : Int32) (l5 : Int32) {K : Int32 → St → St} {Kk : Int32 → St → Prop} (hk : ∀ (v6 : Int32) (T : St), Kk v6 T → tR X 1 mX4_want 139 [some (.ref (528 : Nat)), some (.ref l1), some (.ref l2), some (.int l3), some (.int l4), some (.int l5), some (.int v6)] [] T (rV (K v6 T)).1 ((rV (K v6 T)).2)) : ∀ (f : Nat) (v6 : Int32) (T : St), ok_ov_want_78 l1 l2 l3 l4 l5 Kk f v6 T → tR X 1 mX4_want 78 [some (.ref (528 : Nat)), some (.ref l1), some (.ref l2), some (.int l3), some (.int l4), some (.int l5), some (.int v6)] [] T (rV (x_ov_want_78 l1 l2 l3 l4 l5 K f v6 T)).1 ((rV (x_ov_want_78 l1 l2 l3 l4 l5 K f v6 T)).2) := by
  intro f
  induction f with
  | zero => intro v6 T kk; exact kk.elim
  | succ f ih =>
    intro v6 T kk
    rw [ok_ov_want_78] at kk
    rw [x_ov_want_78]
    refine r_p (pc2 := 80) dX4_want_78 rfl rfl ?_
    refine r_p (pc2 := 82) dX4_want_80 rfl rfl ?_
    refine r_cge dX4_want_82 rfl (fun c82_3 => ?_) (fun c82_3 => ?_)
    · refine r_ip (R := rV) c82_3 ?_
      have kk := kk.1 c82_3
      show tR _ _ _ _ [some (.ref (528 : Nat)), some (.ref l1), some (.ref l2), some (.int l3), some (.int l4), some (.int l5), some (.int v6)] _ _ _ _
      exact (hk v6 T kk)
    · refine r_in (R := rV) c82_3 ?_
      have kk := kk.2 c82_3
      refine r_p (pc2 := 86) dX4_want_85 rfl rfl ?_
      refine r_get dX4_want_86 fkX4_9 rfl rfl ?_
      refine r_p (pc2 := 91) dX4_want_89 rfl rfl ?_
      refine r_p (pc2 := 92) dX4_want_91 rfl rfl ?_
      refine r_get dX4_want_92 fkX4_9 rfl rfl ?_
      refine r_p (pc2 := 97) dX4_want_95 rfl rfl ?_
      obtain ⟨q7, kk⟩ := kk
      refine r_ia dX4_want_97 rfl q7 ?_
      refine r_p (pc2 := 99) dX4_want_98 rfl rfl ?_
      obtain ⟨q8, kk⟩ := kk
      refine r_get dX4_want_99 fkX4_56 q8 rfl ?_
      refine r_p (pc2 := 104) dX4_want_102 rfl rfl ?_
      obtain ⟨q9, kk⟩ := kk
      refine r_ia dX4_want_104 (shl1_13 q8) q9 ?_
      refine r_max dX4_want_105 cmxX4_53 (Nat.le_of_ble_eq_true rfl) ?_
      refine r_ias dX4_want_108 rfl q7 ?_
      refine r_nT (R := rV) rfl kk (fun T4 kk => ?_)
      refine r_p (pc2 := 110) dX4_want_109 rfl rfl ?_
      refine r_get dX4_want_110 fkX4_15 rfl rfl ?_
      refine r_p (pc2 := 115) dX4_want_113 rfl rfl ?_
      refine r_p (pc2 := 116) dX4_want_115 rfl rfl ?_
      refine r_get dX4_want_116 fkX4_15 rfl rfl ?_
      refine r_p (pc2 := 121) dX4_want_119 rfl rfl ?_
      refine r_ia dX4_want_121 rfl q7 ?_
      refine r_p (pc2 := 123) dX4_want_122 rfl rfl ?_
      refine r_get dX4_want_123 fkX4_57 q8 rfl ?_
      refine r_p (pc2 := 128) dX4_want_126 rfl rfl ?_
      refine r_ia dX4_want_128 (shl1_14 q8) q9 ?_
      refine r_min dX4_want_129 cmnX4_47 (Nat.le_of_ble_eq_true rfl) ?_
      refine r_ias dX4_want_132 rfl q7 ?_
      refine r_nT (R := rV) rfl kk (fun T5 kk => ?_)
      refine r_inc (L2 := [some (.ref (528 : Nat)), some (.ref l1), some (.ref l2), some (.int l3), some (.int l4), some (.int l5), some (.int (v6 + 1))]) (y := 1) dX4_want_133 rfl rfl rfl ?_
      refine r_go dX4_want_136 rfl ?_
      show tR _ _ _ _ [some (.ref (528 : Nat)), some (.ref l1), some (.ref l2), some (.int l3), some (.int l4), some (.int l5), some (.int (v6 + 1))] _ _ _ _
      exact (ih (v6 + 1) T5 kk)
def x_ov_want_19 (l1 : Nat) (l2 : Nat) (K : Int32 → St → St) : Nat → Int32 → St → St
  | 0, _, T => T
  | f + 1, v3, T => if (T.1 l2 1) ≤ v3 then (K v3 T) else (jn (fun (i1 : Int32) => if (T.2.2.1 (l1 + 9) (i1 : Int32).toNatClampNeg) = 1 then (jn (fun (i2 : Int32) => jn (fun (i3 : Int32) => x_ov_want_78 l1 l2 v3 i1 i2 (fun (w1_6 : Int32) (T201 : St) => x_ov_want_19 l1 l2 K f (v3 + 1) T201) 1000 i3 T) (if 0 < T.2.2.1 (l2 + 5) (v3 : Int32).toNatClampNeg then T.2.2.1 (l2 + 5) (v3 : Int32).toNatClampNeg else 0 : Int32)) (if (T.2.2.1 (l2 + 5) (v3 : Int32).toNatClampNeg) + (T.2.2.1 (l2 + 6) (v3 : Int32).toNatClampNeg) < 60 then (T.2.2.1 (l2 + 5) (v3 : Int32).toNatClampNeg) + (T.2.2.1 (l2 + 6) (v3 : Int32).toNatClampNeg) else 60 : Int32)) else (x_ov_want_19 l1 l2 K f (v3 + 1) T)) (T.2.2.1 (l2 + 3) (v3 : Int32).toNatClampNeg))
def ok_ov_want_19 (l1 : Nat) (l2 : Nat) (Kk : Int32 → St → Prop) : Nat → Int32 → St → Prop
  | 0, _, _ => False
  | f + 1, v3, T => (sh l2 = .inr 7) ∧ (((T.1 l2 1) ≤ v3 → Kk v3 T) ∧ (¬ (T.1 l2 1) ≤ v3 → (vp_in v3 12) ∧ jn (fun (i1 : Int32) => (sh l1 = .inr 1) ∧ (vp_in i1 24) ∧ (((T.2.2.1 (l1 + 9) (i1 : Int32).toNatClampNeg) = 1 → jn (fun (i2 : Int32) => jn (fun (i3 : Int32) => ok_ov_want_78 l1 l2 v3 i1 i2 (fun (w1_6 : Int32) (T201 : St) => ok_ov_want_19 l1 l2 Kk f (v3 + 1) T201) 1000 i3 T) (if 0 < T.2.2.1 (l2 + 5) (v3 : Int32).toNatClampNeg then T.2.2.1 (l2 + 5) (v3 : Int32).toNatClampNeg else 0 : Int32)) (if (T.2.2.1 (l2 + 5) (v3 : Int32).toNatClampNeg) + (T.2.2.1 (l2 + 6) (v3 : Int32).toNatClampNeg) < 60 then (T.2.2.1 (l2 + 5) (v3 : Int32).toNatClampNeg) + (T.2.2.1 (l2 + 6) (v3 : Int32).toNatClampNeg) else 60 : Int32)) ∧ (¬ (T.2.2.1 (l1 + 9) (i1 : Int32).toNatClampNeg) = 1 → ok_ov_want_19 l1 l2 Kk f (v3 + 1) T))) (T.2.2.1 (l2 + 3) (v3 : Int32).toNatClampNeg)))
theorem c_ov_want_19 {X : Nat × (Nat → Int32)} (l1 : Nat) (l2 : Nat) {K : Int32 → St → St} {Kk : Int32 → St → Prop} (hk : ∀ (v3 : Int32) (T : St), Kk v3 T → tR X 1 mX4_want 145 [some (.ref (528 : Nat)), some (.ref l1), some (.ref l2), some (.int v3), none, none, none] [] T (rV (K v3 T)).1 ((rV (K v3 T)).2)) : ∀ (f : Nat) (v3 : Int32) (T : St), ok_ov_want_19 l1 l2 Kk f v3 T → tR X 1 mX4_want 19 [some (.ref (528 : Nat)), some (.ref l1), some (.ref l2), some (.int v3), none, none, none] [] T (rV (x_ov_want_19 l1 l2 K f v3 T)).1 ((rV (x_ov_want_19 l1 l2 K f v3 T)).2) := by
  intro f
  induction f with
  | zero => intro v3 T kk; exact kk.elim
  | succ f ih =>
    intro v3 T kk
    rw [ok_ov_want_19] at kk
    rw [x_ov_want_19]
    refine r_p (pc2 := 20) dX4_want_19 rfl rfl ?_
    refine r_p (pc2 := 21) dX4_want_20 rfl rfl ?_
    obtain ⟨q3, kk⟩ := kk
    refine r_get dX4_want_21 fkX4_27 q3 rfl ?_
    refine r_cge dX4_want_24 rfl (fun c24_1 => ?_) (fun c24_1 => ?_)
    · refine r_ip (R := rV) c24_1 ?_
      have kk := kk.1 c24_1
      show tR _ _ _ _ [some (.ref (528 : Nat)), some (.ref l1), some (.ref l2), some (.int v3), none, none, none] _ _ _ _
      exact (hk v3 T kk)
    · refine r_in (R := rV) c24_1 ?_
      have kk := kk.2 c24_1
      refine r_p (pc2 := 28) dX4_want_27 rfl rfl ?_
      refine r_get dX4_want_28 fkX4_33 q3 rfl ?_
      refine r_p (pc2 := 32) dX4_want_31 rfl rfl ?_
      obtain ⟨q4, kk⟩ := kk
      refine r_ia dX4_want_32 (shl7_3 q3) q4 ?_
      refine r_nI (R := rV) rfl kk (fun i1 kk => ?_)
      refine r_p (pc2 := 35) (L2 := [some (.ref (528 : Nat)), some (.ref l1), some (.ref l2), some (.int v3), some (.int i1), none, none]) dX4_want_33 rfl rfl ?_
      refine r_p (pc2 := 36) dX4_want_35 rfl rfl ?_
      obtain ⟨q5, kk⟩ := kk
      refine r_get dX4_want_36 fkX4_36 q5 rfl ?_
      refine r_p (pc2 := 41) dX4_want_39 rfl rfl ?_
      obtain ⟨q6, kk⟩ := kk
      refine r_ia dX4_want_41 (shl1_9 q5) q6 ?_
      refine r_ci (x := 1) dX4_want_42 rfl ?_
      refine r_cne dX4_want_43 rfl (fun c43_2 => ?_) (fun c43_2 => ?_)
      · refine r_in (R := rV) c43_2 ?_
        have kk := kk.2 c43_2
        refine r_inc (L2 := [some (.ref (528 : Nat)), some (.ref l1), some (.ref l2), some (.int (v3 + 1)), some (.int i1), none, none]) (y := 1) dX4_want_139 rfl rfl rfl ?_
        refine r_go dX4_want_142 rfl ?_
        show tR _ _ _ _ [some (.ref (528 : Nat)), some (.ref l1), some (.ref l2), some (.int (v3 + 1)), some (.int i1), none, none] _ _ _ _
        exact r_le (le_s (le_s (le_s (le_s (le_n (le_s (le_s (le_0)))))))) (ih (v3 + 1) T kk)
      · refine r_ip (R := rV) c43_2 ?_
        have kk := kk.1 c43_2
        refine r_cb (x := 60) dX4_want_46 rfl ?_
        refine r_p (pc2 := 49) dX4_want_48 rfl rfl ?_
        refine r_get dX4_want_49 fkX4_41 q3 rfl ?_
        refine r_p (pc2 := 53) dX4_want_52 rfl rfl ?_
        refine r_ia dX4_want_53 (shl7_5 q3) q4 ?_
        refine r_p (pc2 := 55) dX4_want_54 rfl rfl ?_
        refine r_get dX4_want_55 fkX4_44 q3 rfl ?_
        refine r_p (pc2 := 59) dX4_want_58 rfl rfl ?_
        refine r_ia dX4_want_59 (shl7_6 q3) q4 ?_
        refine r_p (pc2 := 61) dX4_want_60 rfl rfl ?_
        refine r_min dX4_want_61 cmnX4_47 (Nat.le_of_ble_eq_true rfl) ?_
        refine r_nI (R := rV) rfl kk (fun i2 kk => ?_)
        refine r_p (pc2 := 66) (L2 := [some (.ref (528 : Nat)), some (.ref l1), some (.ref l2), some (.int v3), some (.int i1), some (.int i2), none]) dX4_want_64 rfl rfl ?_
        refine r_ci (x := 0) dX4_want_66 rfl ?_
        refine r_p (pc2 := 68) dX4_want_67 rfl rfl ?_
        refine r_get dX4_want_68 fkX4_41 q3 rfl ?_
        refine r_p (pc2 := 72) dX4_want_71 rfl rfl ?_
        refine r_ia dX4_want_72 (shl7_5 q3) q4 ?_
        refine r_max dX4_want_73 cmxX4_53 (Nat.le_of_ble_eq_true rfl) ?_
        refine r_nI (R := rV) rfl kk (fun i3 kk => ?_)
        refine r_p (pc2 := 78) (L2 := [some (.ref (528 : Nat)), some (.ref l1), some (.ref l2), some (.int v3), some (.int i1), some (.int i2), some (.int i3)]) dX4_want_76 rfl rfl ?_
        show tR _ _ _ _ [some (.ref (528 : Nat)), some (.ref l1), some (.ref l2), some (.int v3), some (.int i1), some (.int i2), some (.int i3)] _ _ _ _
        refine (c_ov_want_78 l1 l2 v3 i1 i2 (fun w1_6 T201 kk => ?_) 1000 i3 T kk)
        · skip
          refine r_inc (L2 := [some (.ref (528 : Nat)), some (.ref l1), some (.ref l2), some (.int (v3 + 1)), some (.int i1), some (.int i2), some (.int w1_6)]) (y := 1) dX4_want_139 rfl rfl rfl ?_
          refine r_go dX4_want_142 rfl ?_
          show tR _ _ _ _ [some (.ref (528 : Nat)), some (.ref l1), some (.ref l2), some (.int (v3 + 1)), some (.int i1), some (.int i2), some (.int w1_6)] _ _ _ _
          exact r_le (le_s (le_s (le_s (le_s (le_n (le_n (le_n (le_0)))))))) (ih (v3 + 1) T201 kk)
def x_ov_want (T : St) (p0 : Nat) (p1 : Nat) : St := x_ov_want_19 p0 p1 (fun (w2_3 : Int32) (T202 : St) => T202) 1000 0 (x_fillI (x_fillI T 529 0) 530 9)
def ok_ov_want (T : St) (p0 : Nat) (p1 : Nat) : Prop := (ok_fillI T 529 0) ∧ (ok_fillI (x_fillI T 529 0) 530 9) ∧ ok_ov_want_19 p0 p1 (fun (w2_3 : Int32) (T202 : St) => True) 1000 0 (x_fillI (x_fillI T 529 0) 530 9)
theorem c_ov_want {X : Nat × (Nat → Int32)} {T : St} (p0 : Nat) (p1 : Nat) (kk : ok_ov_want T p0 p1) : tC X 2 mX4_want [.ref (528 : Nat), .ref p0, .ref p1] T none (x_ov_want T p0 p1) := by
  unfold ok_ov_want at kk
  refine tC_orV (L := [some (.ref (528 : Nat)), some (.ref p0), some (.ref p1), none, none, none, none]) (x_ov_want T p0 p1) rfl ?_
  unfold x_ov_want
  refine r_p (pc2 := 1) dX4_want_0 rfl rfl ?_
  refine r_get dX4_want_1 fkX4_9 rfl rfl ?_
  refine r_ci (x := 0) dX4_want_4 rfl ?_
  obtain ⟨q1, kk⟩ := kk
  refine r_cs (d1 := 1) dX4_want_5 csX4_21 rfl rfl (Nat.le_of_ble_eq_true rfl) (Nat.le_of_ble_eq_true rfl) (Nat.le_of_ble_eq_true rfl) (c_fillI 529 0 q1) ?_
  refine r_p (pc2 := 9) dX4_want_8 rfl rfl ?_
  refine r_get dX4_want_9 fkX4_15 rfl rfl ?_
  refine r_cb (x := 9) dX4_want_12 rfl ?_
  obtain ⟨q2, kk⟩ := kk
  refine r_cs (d1 := 1) dX4_want_14 csX4_21 rfl rfl (Nat.le_of_ble_eq_true rfl) (Nat.le_of_ble_eq_true rfl) (Nat.le_of_ble_eq_true rfl) (c_fillI 530 9 q2) ?_
  refine r_ci (x := 0) dX4_want_17 rfl ?_
  refine r_p (pc2 := 19) (L2 := [some (.ref (528 : Nat)), some (.ref p0), some (.ref p1), some (.int 0), none, none, none]) dX4_want_18 rfl rfl ?_
  show tR _ _ _ _ [some (.ref (528 : Nat)), some (.ref p0), some (.ref p1), some (.int 0), none, none, none] _ _ _ _
  refine (c_ov_want_19 p0 p1 (fun w2_3 T202 kk => ?_) 1000 0 (x_fillI (x_fillI T 529 0) 530 9) kk)
  · skip
    exact r_qV dX4_want_145 rfl rfl
def x_ov_firstLack_8 (T : St) (l1 : Int32) (l2 : Int32) (K : Int32 → Int32 → Int32 → Int32) : Nat → Int32 → Int32 → Int32 → Int32
  | 0, _, _, _ => 0
  | f + 1, v3, v4, v5 => if 60 ≤ v5 then (K v3 v4 v5) else (jn (fun (i1 : Int32) => jn (fun (i2 : Int32) => if i1 ≤ i2 then (x_ov_firstLack_8 T l1 l2 K f i1 i2 (v5 + 1)) else (v5)) (if v4 + l1 < T.2.2.1 530 (v5 : Int32).toNatClampNeg then v4 + l1 else T.2.2.1 530 (v5 : Int32).toNatClampNeg : Int32)) (if T.2.2.1 529 (v5 : Int32).toNatClampNeg < v3 - l2 then v3 - l2 else T.2.2.1 529 (v5 : Int32).toNatClampNeg : Int32))
def ok_ov_firstLack_8 (T : St) (l1 : Int32) (l2 : Int32) (Kk : Int32 → Int32 → Int32 → Prop) : Nat → Int32 → Int32 → Int32 → Prop
  | 0, _, _, _ => False
  | f + 1, v3, v4, v5 => ((60 ≤ v5 → Kk v3 v4 v5) ∧ (¬ 60 ≤ v5 → (vp_in v5 60) ∧ jn (fun (i1 : Int32) => jn (fun (i2 : Int32) => (i1 ≤ i2 → ok_ov_firstLack_8 T l1 l2 Kk f i1 i2 (v5 + 1))) (if v4 + l1 < T.2.2.1 530 (v5 : Int32).toNatClampNeg then v4 + l1 else T.2.2.1 530 (v5 : Int32).toNatClampNeg : Int32)) (if T.2.2.1 529 (v5 : Int32).toNatClampNeg < v3 - l2 then v3 - l2 else T.2.2.1 529 (v5 : Int32).toNatClampNeg : Int32)))
theorem c_ov_firstLack_8 {X : Nat × (Nat → Int32)} (T : St) (l1 : Int32) (l2 : Int32) {K : Int32 → Int32 → Int32 → Int32} {Kk : Int32 → Int32 → Int32 → Prop} (hk : ∀ (v3 : Int32) (v4 : Int32) (v5 : Int32), Kk v3 v4 v5 → tR X 0 mX4_firstLack 60 [some (.ref (528 : Nat)), some (.int l1), some (.int l2), some (.int v3), some (.int v4), some (.int v5)] [] T ((rIp T) (K v3 v4 v5)).1 (((rIp T) (K v3 v4 v5)).2)) : ∀ (f : Nat) (v3 : Int32) (v4 : Int32) (v5 : Int32), ok_ov_firstLack_8 T l1 l2 Kk f v3 v4 v5 → tR X 0 mX4_firstLack 8 [some (.ref (528 : Nat)), some (.int l1), some (.int l2), some (.int v3), some (.int v4), some (.int v5)] [] T ((rIp T) (x_ov_firstLack_8 T l1 l2 K f v3 v4 v5)).1 (((rIp T) (x_ov_firstLack_8 T l1 l2 K f v3 v4 v5)).2) := by
  intro f
  induction f with
  | zero => intro v3 v4 v5 kk; exact kk.elim
  | succ f ih =>
    intro v3 v4 v5 kk
    rw [ok_ov_firstLack_8] at kk
    rw [x_ov_firstLack_8]
    refine r_p (pc2 := 10) dX4_firstLack_8 rfl rfl ?_
    refine r_cb (x := 60) dX4_firstLack_10 rfl ?_
    refine r_cge dX4_firstLack_12 rfl (fun c12_1 => ?_) (fun c12_1 => ?_)
    · refine r_ip (R := (rIp T)) c12_1 ?_
      have kk := kk.1 c12_1
      show tR _ _ _ _ [some (.ref (528 : Nat)), some (.int l1), some (.int l2), some (.int v3), some (.int v4), some (.int v5)] _ _ _ _
      exact (hk v3 v4 v5  kk)
    · refine r_in (R := (rIp T)) c12_1 ?_
      have kk := kk.2 c12_1
      refine r_p (pc2 := 16) dX4_firstLack_15 rfl rfl ?_
      refine r_get dX4_firstLack_16 fkX4_9 rfl rfl ?_
      refine r_p (pc2 := 21) dX4_firstLack_19 rfl rfl ?_
      obtain ⟨q1, kk⟩ := kk
      refine r_ia dX4_firstLack_21 rfl q1 ?_
      refine r_p (pc2 := 23) dX4_firstLack_22 rfl rfl ?_
      refine r_p (pc2 := 24) dX4_firstLack_23 rfl rfl ?_
      refine r_p (pc2 := 25) dX4_firstLack_24 rfl rfl ?_
      refine r_max dX4_firstLack_25 cmxX4_53 (Nat.le_of_ble_eq_true rfl) ?_
      refine r_nI (R := (rIp T)) rfl kk (fun i1 kk => ?_)
      refine r_p (pc2 := 29) (L2 := [some (.ref (528 : Nat)), some (.int l1), some (.int l2), some (.int i1), some (.int v4), some (.int v5)]) dX4_firstLack_28 rfl rfl ?_
      refine r_p (pc2 := 30) dX4_firstLack_29 rfl rfl ?_
      refine r_get dX4_firstLack_30 fkX4_15 rfl rfl ?_
      refine r_p (pc2 := 35) dX4_firstLack_33 rfl rfl ?_
      refine r_ia dX4_firstLack_35 rfl q1 ?_
      refine r_p (pc2 := 38) dX4_firstLack_36 rfl rfl ?_
      refine r_p (pc2 := 39) dX4_firstLack_38 rfl rfl ?_
      refine r_p (pc2 := 40) dX4_firstLack_39 rfl rfl ?_
      refine r_min dX4_firstLack_40 cmnX4_47 (Nat.le_of_ble_eq_true rfl) ?_
      refine r_nI (R := (rIp T)) rfl kk (fun i2 kk => ?_)
      refine r_p (pc2 := 45) (L2 := [some (.ref (528 : Nat)), some (.int l1), some (.int l2), some (.int i1), some (.int i2), some (.int v5)]) dX4_firstLack_43 rfl rfl ?_
      refine r_p (pc2 := 46) dX4_firstLack_45 rfl rfl ?_
      refine r_p (pc2 := 48) dX4_firstLack_46 rfl rfl ?_
      refine r_cle dX4_firstLack_48 rfl (fun c48_2 => ?_) (fun c48_2 => ?_)
      · refine r_ip (R := (rIp T)) c48_2 ?_
        have kk := kk c48_2
        refine r_inc (L2 := [some (.ref (528 : Nat)), some (.int l1), some (.int l2), some (.int i1), some (.int i2), some (.int (v5 + 1))]) (y := 1) dX4_firstLack_54 rfl rfl rfl ?_
        refine r_go dX4_firstLack_57 rfl ?_
        show tR _ _ _ _ [some (.ref (528 : Nat)), some (.int l1), some (.int l2), some (.int i1), some (.int i2), some (.int (v5 + 1))] _ _ _ _
        exact (ih i1 i2 (v5 + 1)  kk)
      · refine r_in (R := (rIp T)) c48_2 ?_
        refine r_p (pc2 := 53) dX4_firstLack_51 rfl rfl ?_
        exact r_qIp dX4_firstLack_53 rfl rfl rfl
def x_ov_firstLack (T : St) (p0 : Int32) (p1 : Int32) : Int32 := x_ov_firstLack_8 T p0 p1 (fun (w1_3 : Int32) (w1_4 : Int32) (w1_5 : Int32) => 60) 1000 0 0 0
def ok_ov_firstLack (T : St) (p0 : Int32) (p1 : Int32) : Prop := ok_ov_firstLack_8 T p0 p1 (fun (w1_3 : Int32) (w1_4 : Int32) (w1_5 : Int32) => True) 1000 0 0 0
theorem c_ov_firstLack {X : Nat × (Nat → Int32)} {T : St} (p0 : Int32) (p1 : Int32) (kk : ok_ov_firstLack T p0 p1) : tC X 1 mX4_firstLack [.ref (528 : Nat), .int p0, .int p1] T (some (.int (x_ov_firstLack T p0 p1))) T := by
  unfold ok_ov_firstLack at kk
  refine tC_orIp (L := [some (.ref (528 : Nat)), some (.int p0), some (.int p1), none, none, none]) (x_ov_firstLack T p0 p1) rfl ?_
  unfold x_ov_firstLack
  refine r_ci (x := 0) dX4_firstLack_0 rfl ?_
  refine r_p (pc2 := 2) (L2 := [some (.ref (528 : Nat)), some (.int p0), some (.int p1), some (.int 0), none, none]) dX4_firstLack_1 rfl rfl ?_
  refine r_ci (x := 0) dX4_firstLack_2 rfl ?_
  refine r_p (pc2 := 5) (L2 := [some (.ref (528 : Nat)), some (.int p0), some (.int p1), some (.int 0), some (.int 0), none]) dX4_firstLack_3 rfl rfl ?_
  refine r_ci (x := 0) dX4_firstLack_5 rfl ?_
  refine r_p (pc2 := 8) (L2 := [some (.ref (528 : Nat)), some (.int p0), some (.int p1), some (.int 0), some (.int 0), some (.int 0)]) dX4_firstLack_6 rfl rfl ?_
  show tR _ _ _ _ [some (.ref (528 : Nat)), some (.int p0), some (.int p1), some (.int 0), some (.int 0), some (.int 0)] _ _ _ _
  refine (c_ov_firstLack_8 T p0 p1 (fun w1_3 w1_4 w1_5 kk => ?_) 1000 0 0 0  kk)
  · skip
    refine r_cb (x := 60) dX4_firstLack_60 rfl ?_
    exact r_qIp dX4_firstLack_62 rfl rfl rfl
def x_ov_settle_3 (l1 : Int32) (l2 : Int32) (K : Int32 → St → St) : Nat → Int32 → St → St
  | 0, _, T => T
  | f + 1, v3, T => if v3 < 0 then (K v3 T) else (jn (fun (T1 : St) => x_ov_settle_3 l1 l2 K f (v3 + (-1)) T1) (sA T 529 (v3 : Int32).toNatClampNeg (if T.2.2.1 529 (v3 : Int32).toNatClampNeg < (T.2.2.1 529 (v3 + 1 : Int32).toNatClampNeg) - l1 then (T.2.2.1 529 (v3 + 1 : Int32).toNatClampNeg) - l1 else T.2.2.1 529 (v3 : Int32).toNatClampNeg : Int32)))
def ok_ov_settle_3 (l1 : Int32) (l2 : Int32) (Kk : Int32 → St → Prop) : Nat → Int32 → St → Prop
  | 0, _, _ => False
  | f + 1, v3, T => ((v3 < 0 → Kk v3 T) ∧ (¬ v3 < 0 → (vp_in v3 60) ∧ (vp_in (v3 + 1) 60) ∧ jn (fun (T1 : St) => ok_ov_settle_3 l1 l2 Kk f (v3 + (-1)) T1) (sA T 529 (v3 : Int32).toNatClampNeg (if T.2.2.1 529 (v3 : Int32).toNatClampNeg < (T.2.2.1 529 (v3 + 1 : Int32).toNatClampNeg) - l1 then (T.2.2.1 529 (v3 + 1 : Int32).toNatClampNeg) - l1 else T.2.2.1 529 (v3 : Int32).toNatClampNeg : Int32))))
theorem c_ov_settle_3 {X : Nat × (Nat → Int32)} (l1 : Int32) (l2 : Int32) {K : Int32 → St → St} {Kk : Int32 → St → Prop} (hk : ∀ (v3 : Int32) (T : St), Kk v3 T → tR X 0 mX4_settle 38 [some (.ref (528 : Nat)), some (.int l1), some (.int l2), some (.int v3), none] [] T (rV (K v3 T)).1 ((rV (K v3 T)).2)) : ∀ (f : Nat) (v3 : Int32) (T : St), ok_ov_settle_3 l1 l2 Kk f v3 T → tR X 0 mX4_settle 3 [some (.ref (528 : Nat)), some (.int l1), some (.int l2), some (.int v3), none] [] T (rV (x_ov_settle_3 l1 l2 K f v3 T)).1 ((rV (x_ov_settle_3 l1 l2 K f v3 T)).2) := by
  intro f
  induction f with
  | zero => intro v3 T kk; exact kk.elim
  | succ f ih =>
    intro v3 T kk
    rw [ok_ov_settle_3] at kk
    rw [x_ov_settle_3]
    refine r_p (pc2 := 4) dX4_settle_3 rfl rfl ?_
    refine r_ilt dX4_settle_4 rfl (fun c4_1 => ?_) (fun c4_1 => ?_)
    · refine r_ip (R := rV) c4_1 ?_
      have kk := kk.1 c4_1
      show tR _ _ _ _ [some (.ref (528 : Nat)), some (.int l1), some (.int l2), some (.int v3), none] _ _ _ _
      exact (hk v3 T kk)
    · refine r_in (R := rV) c4_1 ?_
      have kk := kk.2 c4_1
      refine r_p (pc2 := 8) dX4_settle_7 rfl rfl ?_
      refine r_get dX4_settle_8 fkX4_9 rfl rfl ?_
      refine r_p (pc2 := 12) dX4_settle_11 rfl rfl ?_
      refine r_p (pc2 := 13) dX4_settle_12 rfl rfl ?_
      refine r_get dX4_settle_13 fkX4_9 rfl rfl ?_
      refine r_p (pc2 := 17) dX4_settle_16 rfl rfl ?_
      obtain ⟨q1, kk⟩ := kk
      refine r_ia dX4_settle_17 rfl q1 ?_
      refine r_p (pc2 := 19) dX4_settle_18 rfl rfl ?_
      refine r_get dX4_settle_19 fkX4_9 rfl rfl ?_
      refine r_p (pc2 := 23) dX4_settle_22 rfl rfl ?_
      refine r_ci (x := 1) dX4_settle_23 rfl ?_
      refine r_p (pc2 := 25) dX4_settle_24 rfl rfl ?_
      obtain ⟨q2, kk⟩ := kk
      refine r_ia dX4_settle_25 rfl q2 ?_
      refine r_p (pc2 := 27) dX4_settle_26 rfl rfl ?_
      refine r_p (pc2 := 28) dX4_settle_27 rfl rfl ?_
      refine r_max dX4_settle_28 cmxX4_53 (Nat.le_of_ble_eq_true rfl) ?_
      refine r_ias dX4_settle_31 rfl q1 ?_
      refine r_nT (R := rV) rfl kk (fun T1 kk => ?_)
      refine r_inc (L2 := [some (.ref (528 : Nat)), some (.int l1), some (.int l2), some (.int (v3 + (-1))), none]) (y := -1) dX4_settle_32 rfl rfl rfl ?_
      refine r_go dX4_settle_35 rfl ?_
      show tR _ _ _ _ [some (.ref (528 : Nat)), some (.int l1), some (.int l2), some (.int (v3 + (-1))), none] _ _ _ _
      exact (ih (v3 + (-1)) T1 kk)
def x_ov_settle_43 (l1 : Int32) (l2 : Int32) (K : Int32 → Int32 → St → St) : Nat → Int32 → Int32 → St → St
  | 0, _, _, T => T
  | f + 1, v3, v4, T => if 60 ≤ v4 then (K v3 v4 T) else (jn (fun (i2 : Int32) => x_ov_settle_43 l1 l2 K f i2 (v4 + 1) (sA T 531 (v4 : Int32).toNatClampNeg i2)) (if T.2.2.1 529 (v4 : Int32).toNatClampNeg < v3 - l2 then v3 - l2 else T.2.2.1 529 (v4 : Int32).toNatClampNeg : Int32))
def ok_ov_settle_43 (l1 : Int32) (l2 : Int32) (Kk : Int32 → Int32 → St → Prop) : Nat → Int32 → Int32 → St → Prop
  | 0, _, _, _ => False
  | f + 1, v3, v4, T => ((60 ≤ v4 → Kk v3 v4 T) ∧ (¬ 60 ≤ v4 → (vp_in v4 60) ∧ jn (fun (i2 : Int32) => ok_ov_settle_43 l1 l2 Kk f i2 (v4 + 1) (sA T 531 (v4 : Int32).toNatClampNeg i2)) (if T.2.2.1 529 (v4 : Int32).toNatClampNeg < v3 - l2 then v3 - l2 else T.2.2.1 529 (v4 : Int32).toNatClampNeg : Int32)))
theorem c_ov_settle_43 {X : Nat × (Nat → Int32)} (l1 : Int32) (l2 : Int32) {K : Int32 → Int32 → St → St} {Kk : Int32 → Int32 → St → Prop} (hk : ∀ (v3 : Int32) (v4 : Int32) (T : St), Kk v3 v4 T → tR X 0 mX4_settle 78 [some (.ref (528 : Nat)), some (.int l1), some (.int l2), some (.int v3), some (.int v4)] [] T (rV (K v3 v4 T)).1 ((rV (K v3 v4 T)).2)) : ∀ (f : Nat) (v3 : Int32) (v4 : Int32) (T : St), ok_ov_settle_43 l1 l2 Kk f v3 v4 T → tR X 0 mX4_settle 43 [some (.ref (528 : Nat)), some (.int l1), some (.int l2), some (.int v3), some (.int v4)] [] T (rV (x_ov_settle_43 l1 l2 K f v3 v4 T)).1 ((rV (x_ov_settle_43 l1 l2 K f v3 v4 T)).2) := by
  intro f
  induction f with
  | zero => intro v3 v4 T kk; exact kk.elim
  | succ f ih =>
    intro v3 v4 T kk
    rw [ok_ov_settle_43] at kk
    rw [x_ov_settle_43]
    refine r_p (pc2 := 45) dX4_settle_43 rfl rfl ?_
    refine r_cb (x := 60) dX4_settle_45 rfl ?_
    refine r_cge dX4_settle_47 rfl (fun c47_2 => ?_) (fun c47_2 => ?_)
    · refine r_ip (R := rV) c47_2 ?_
      have kk := kk.1 c47_2
      show tR _ _ _ _ [some (.ref (528 : Nat)), some (.int l1), some (.int l2), some (.int v3), some (.int v4)] _ _ _ _
      exact (hk v3 v4 T kk)
    · refine r_in (R := rV) c47_2 ?_
      have kk := kk.2 c47_2
      refine r_p (pc2 := 51) dX4_settle_50 rfl rfl ?_
      refine r_get dX4_settle_51 fkX4_9 rfl rfl ?_
      refine r_p (pc2 := 56) dX4_settle_54 rfl rfl ?_
      obtain ⟨q3, kk⟩ := kk
      refine r_ia dX4_settle_56 rfl q3 ?_
      refine r_p (pc2 := 58) dX4_settle_57 rfl rfl ?_
      refine r_p (pc2 := 59) dX4_settle_58 rfl rfl ?_
      refine r_p (pc2 := 60) dX4_settle_59 rfl rfl ?_
      refine r_max dX4_settle_60 cmxX4_53 (Nat.le_of_ble_eq_true rfl) ?_
      refine r_nI (R := rV) rfl kk (fun i2 kk => ?_)
      refine r_p (pc2 := 64) (L2 := [some (.ref (528 : Nat)), some (.int l1), some (.int l2), some (.int i2), some (.int v4)]) dX4_settle_63 rfl rfl ?_
      refine r_p (pc2 := 65) dX4_settle_64 rfl rfl ?_
      refine r_get dX4_settle_65 fkX4_18 rfl rfl ?_
      refine r_p (pc2 := 70) dX4_settle_68 rfl rfl ?_
      refine r_p (pc2 := 71) dX4_settle_70 rfl rfl ?_
      refine r_ias dX4_settle_71 rfl q3 ?_
      refine r_inc (L2 := [some (.ref (528 : Nat)), some (.int l1), some (.int l2), some (.int i2), some (.int (v4 + 1))]) (y := 1) dX4_settle_72 rfl rfl rfl ?_
      refine r_go dX4_settle_75 rfl ?_
      show tR _ _ _ _ [some (.ref (528 : Nat)), some (.int l1), some (.int l2), some (.int i2), some (.int (v4 + 1))] _ _ _ _
      exact (ih i2 (v4 + 1) (sA T 531 (v4 : Int32).toNatClampNeg i2) kk)
def x_ov_settle (T : St) (p0 : Int32) (p1 : Int32) : St := x_ov_settle_3 p0 p1 (fun (w1_3 : Int32) (T201 : St) => x_ov_settle_43 p0 p1 (fun (w2_3 : Int32) (w2_4 : Int32) (T202 : St) => T202) 1000 0 0 T201) 1000 58 T
def ok_ov_settle (T : St) (p0 : Int32) (p1 : Int32) : Prop := ok_ov_settle_3 p0 p1 (fun (w1_3 : Int32) (T201 : St) => ok_ov_settle_43 p0 p1 (fun (w2_3 : Int32) (w2_4 : Int32) (T202 : St) => True) 1000 0 0 T201) 1000 58 T
theorem c_ov_settle {X : Nat × (Nat → Int32)} {T : St} (p0 : Int32) (p1 : Int32) (kk : ok_ov_settle T p0 p1) : tC X 1 mX4_settle [.ref (528 : Nat), .int p0, .int p1] T none (x_ov_settle T p0 p1) := by
  unfold ok_ov_settle at kk
  refine tC_orV (L := [some (.ref (528 : Nat)), some (.int p0), some (.int p1), none, none]) (x_ov_settle T p0 p1) rfl ?_
  unfold x_ov_settle
  refine r_cb (x := 58) dX4_settle_0 rfl ?_
  refine r_p (pc2 := 3) (L2 := [some (.ref (528 : Nat)), some (.int p0), some (.int p1), some (.int 58), none]) dX4_settle_2 rfl rfl ?_
  show tR _ _ _ _ [some (.ref (528 : Nat)), some (.int p0), some (.int p1), some (.int 58), none] _ _ _ _
  refine (c_ov_settle_3 p0 p1 (fun w1_3 T201 kk => ?_) 1000 58 T kk)
  · skip
    refine r_ci (x := 0) dX4_settle_38 rfl ?_
    refine r_p (pc2 := 40) (L2 := [some (.ref (528 : Nat)), some (.int p0), some (.int p1), some (.int 0), none]) dX4_settle_39 rfl rfl ?_
    refine r_ci (x := 0) dX4_settle_40 rfl ?_
    refine r_p (pc2 := 43) (L2 := [some (.ref (528 : Nat)), some (.int p0), some (.int p1), some (.int 0), some (.int 0)]) dX4_settle_41 rfl rfl ?_
    show tR _ _ _ _ [some (.ref (528 : Nat)), some (.int p0), some (.int p1), some (.int 0), some (.int 0)] _ _ _ _
    refine (c_ov_settle_43 p0 p1 (fun w2_3 w2_4 T202 kk => ?_) 1000 0 0 T201 kk)
    · skip
      exact r_qV dX4_settle_78 rfl rfl
def x_pl_strikeEarly_2  (K : Int32 → St → St) : Nat → Int32 → St → St
  | 0, _, T => T
  | f + 1, v1, T => if (Int32.ofNat 96) ≤ v1 then (K v1 T) else (if (T.1 (123 + 4 * (v1 : Int32).toNatClampNeg) 4) ≤ 0 then (x_pl_strikeEarly_2 K f (v1 + 1) T) else (x_pl_strikeEarly_2 K f (v1 + 1) (sF T (123 + 4 * (v1 : Int32).toNatClampNeg) 6 0)))
def ok_pl_strikeEarly_2  (Kk : Int32 → St → Prop) : Nat → Int32 → St → Prop
  | 0, _, _ => False
  | f + 1, v1, T => (((Int32.ofNat 96) ≤ v1 → Kk v1 T) ∧ (¬ (Int32.ofNat 96) ≤ v1 → (vp_in v1 96) ∧ (((T.1 (123 + 4 * (v1 : Int32).toNatClampNeg) 4) ≤ 0 → ok_pl_strikeEarly_2 Kk f (v1 + 1) T) ∧ (¬ (T.1 (123 + 4 * (v1 : Int32).toNatClampNeg) 4) ≤ 0 → ok_pl_strikeEarly_2 Kk f (v1 + 1) (sF T (123 + 4 * (v1 : Int32).toNatClampNeg) 6 0)))))
theorem c_pl_strikeEarly_2 {X : Nat × (Nat → Int32)}  {K : Int32 → St → St} {Kk : Int32 → St → Prop} (hk : ∀ (v1 : Int32) (T : St), Kk v1 T → tR X 0 mX5_strikeEarly 39 [some (.ref (80 : Nat)), some (.int v1)] [] T (rV (K v1 T)).1 ((rV (K v1 T)).2)) : ∀ (f : Nat) (v1 : Int32) (T : St), ok_pl_strikeEarly_2  Kk f v1 T → tR X 0 mX5_strikeEarly 2 [some (.ref (80 : Nat)), some (.int v1)] [] T (rV (x_pl_strikeEarly_2 K f v1 T)).1 ((rV (x_pl_strikeEarly_2 K f v1 T)).2) := by
  intro f
  induction f with
  | zero => intro v1 T kk; exact kk.elim
  | succ f ih =>
    intro v1 T kk
    rw [ok_pl_strikeEarly_2] at kk
    rw [x_pl_strikeEarly_2]
    refine r_p (pc2 := 3) dX5_strikeEarly_2 rfl rfl ?_
    refine r_p (pc2 := 4) dX5_strikeEarly_3 rfl rfl ?_
    refine r_get dX5_strikeEarly_4 fkX5_11 rfl rfl ?_
    refine r_al dX5_strikeEarly_7 rfl (by decide) ?_
    refine r_cge dX5_strikeEarly_8 rfl (fun c8_1 => ?_) (fun c8_1 => ?_)
    · refine r_ip (R := rV) c8_1 ?_
      have kk := kk.1 c8_1
      show tR _ _ _ _ [some (.ref (80 : Nat)), some (.int v1)] _ _ _ _
      exact (hk v1 T kk)
    · refine r_in (R := rV) c8_1 ?_
      have kk := kk.2 c8_1
      refine r_p (pc2 := 12) dX5_strikeEarly_11 rfl rfl ?_
      refine r_get dX5_strikeEarly_12 fkX5_11 rfl rfl ?_
      refine r_p (pc2 := 16) dX5_strikeEarly_15 rfl rfl ?_
      obtain ⟨q1, kk⟩ := kk
      refine r_aa dX5_strikeEarly_16 rfl (by decide) q1 (rf81 q1) ?_
      refine r_get dX5_strikeEarly_17 fkX5_97 (shr81 q1) rfl ?_
      refine r_ile dX5_strikeEarly_20 rfl (fun c20_2 => ?_) (fun c20_2 => ?_)
      · refine r_ip (R := rV) c20_2 ?_
        have kk := kk.1 c20_2
        refine r_inc (L2 := [some (.ref (80 : Nat)), some (.int (v1 + 1))]) (y := 1) dX5_strikeEarly_33 rfl rfl rfl ?_
        refine r_go dX5_strikeEarly_36 rfl ?_
        show tR _ _ _ _ [some (.ref (80 : Nat)), some (.int (v1 + 1))] _ _ _ _
        exact (ih (v1 + 1) T kk)
      · refine r_in (R := rV) c20_2 ?_
        have kk := kk.2 c20_2
        refine r_p (pc2 := 24) dX5_strikeEarly_23 rfl rfl ?_
        refine r_get dX5_strikeEarly_24 fkX5_11 rfl rfl ?_
        refine r_p (pc2 := 28) dX5_strikeEarly_27 rfl rfl ?_
        refine r_aa dX5_strikeEarly_28 rfl (by decide) q1 (rf81 q1) ?_
        refine r_ci (x := 0) dX5_strikeEarly_29 rfl ?_
        refine r_put dX5_strikeEarly_30 fkX5_106 rfl (shr81 q1) rfl (Nat.le_of_ble_eq_true rfl) rfl rfl ?_
        refine r_inc (L2 := [some (.ref (80 : Nat)), some (.int (v1 + 1))]) (y := 1) dX5_strikeEarly_33 rfl rfl rfl ?_
        refine r_go dX5_strikeEarly_36 rfl ?_
        show tR _ _ _ _ [some (.ref (80 : Nat)), some (.int (v1 + 1))] _ _ _ _
        exact (ih (v1 + 1) (sF T (123 + 4 * (v1 : Int32).toNatClampNeg) 6 0) kk)
def x_pl_strikeEarly (T : St)  : St := x_pl_strikeEarly_2  (fun (w1_1 : Int32) (T201 : St) => T201) 1000 0 T
def ok_pl_strikeEarly (T : St)  : Prop := ok_pl_strikeEarly_2  (fun (w1_1 : Int32) (T201 : St) => True) 1000 0 T
theorem c_pl_strikeEarly {X : Nat × (Nat → Int32)} {T : St}  (kk : ok_pl_strikeEarly T ) : tC X 1 mX5_strikeEarly [.ref (80 : Nat)] T none (x_pl_strikeEarly T) := by
  unfold ok_pl_strikeEarly at kk
  refine tC_orV (L := [some (.ref (80 : Nat)), none]) (x_pl_strikeEarly T ) rfl ?_
  unfold x_pl_strikeEarly
  refine r_ci (x := 0) dX5_strikeEarly_0 rfl ?_
  refine r_p (pc2 := 2) (L2 := [some (.ref (80 : Nat)), some (.int 0)]) dX5_strikeEarly_1 rfl rfl ?_
  show tR _ _ _ _ [some (.ref (80 : Nat)), some (.int 0)] _ _ _ _
  refine (c_pl_strikeEarly_2  (fun w1_1 T201 kk => ?_) 1000 0 T kk)
  · skip
    exact r_qV dX5_strikeEarly_39 rfl rfl
def x_pl_strikeUnlike_45 (l1 : Nat) (l2 : Int32) (l3 : Int32) (l4 : Int32) (l5 : Int32) (K : Int32 → St → St) : Nat → Int32 → St → St
  | 0, _, T => T
  | f + 1, v6, T => if (T.2.2.1 82 (l4 : Int32).toNatClampNeg) ≤ v6 then (K v6 T) else (jn (fun (r3 : Nat) => jn (fun (i4 : Int32) => jn (fun (KJ1 : Int32 → St) => if l2 ≤ (T.2.2.1 (l1 + 5) (l3 : Int32).toNatClampNeg) then (if i4 < l2 then (KJ1 0) else (KJ1 1)) else (if i4 = (T.2.2.1 (l1 + 5) (l3 : Int32).toNatClampNeg) then (KJ1 1) else (KJ1 0))) (fun (j1_s0 : Int32) => if j1_s0 = 0 then (x_pl_strikeUnlike_45 l1 l2 l3 l4 l5 K f (v6 + 1) (sF T r3 6 0)) else (x_pl_strikeUnlike_45 l1 l2 l3 l4 l5 K f (v6 + 1) T))) (T.2.2.1 (r3 + 1) (l5 : Int32).toNatClampNeg)) (123 + 4 * ((l4 * 12) + v6 : Int32).toNatClampNeg))
def ok_pl_strikeUnlike_45 (l1 : Nat) (l2 : Int32) (l3 : Int32) (l4 : Int32) (l5 : Int32) (Kk : Int32 → St → Prop) : Nat → Int32 → St → Prop
  | 0, _, _ => False
  | f + 1, v6, T => (vp_in l4 8) ∧ (((T.2.2.1 82 (l4 : Int32).toNatClampNeg) ≤ v6 → Kk v6 T) ∧ (¬ (T.2.2.1 82 (l4 : Int32).toNatClampNeg) ≤ v6 → (vp_in ((l4 * 12) + v6) 96) ∧ jn (fun (r3 : Nat) => (sh r3 = .inr 10) ∧ (vp_in l5 3) ∧ jn (fun (i4 : Int32) => (sh l1 = .inr 7) ∧ (vp_in l3 12) ∧ jn (fun (OJ1 : Int32 → Prop) => ((l2 ≤ (T.2.2.1 (l1 + 5) (l3 : Int32).toNatClampNeg) → ((i4 < l2 → OJ1 0) ∧ (¬ i4 < l2 → OJ1 1))) ∧ (¬ l2 ≤ (T.2.2.1 (l1 + 5) (l3 : Int32).toNatClampNeg) → ((i4 = (T.2.2.1 (l1 + 5) (l3 : Int32).toNatClampNeg) → OJ1 1) ∧ (¬ i4 = (T.2.2.1 (l1 + 5) (l3 : Int32).toNatClampNeg) → OJ1 0))))) (fun (j1_s0 : Int32) => ((j1_s0 = 0 → ok_pl_strikeUnlike_45 l1 l2 l3 l4 l5 Kk f (v6 + 1) (sF T r3 6 0)) ∧ (¬ j1_s0 = 0 → ok_pl_strikeUnlike_45 l1 l2 l3 l4 l5 Kk f (v6 + 1) T)))) (T.2.2.1 (r3 + 1) (l5 : Int32).toNatClampNeg)) (123 + 4 * ((l4 * 12) + v6 : Int32).toNatClampNeg)))
theorem c_pl_strikeUnlike_45 {X : Nat × (Nat → Int32)} (l1 : Nat) (l2 : Int32) (l3 : Int32) (l4 : Int32) (l5 : Int32) {K : Int32 → St → St} {Kk : Int32 → St → Prop} (hk : ∀ (v6 : Int32) (T : St), Kk v6 T → tR X 0 mX5_strikeUnlike 141 [some (.ref (80 : Nat)), some (.ref l1), some (.int l2), some (.int l3), some (.int l4), some (.int l5), some (.int v6), none, none, none] [] T (rV (K v6 T)).1 ((rV (K v6 T)).2)) : ∀ (f : Nat) (v6 : Int32) (T : St), ok_pl_strikeUnlike_45 l1 l2 l3 l4 l5 Kk f v6 T → tR X 0 mX5_strikeUnlike 45 [some (.ref (80 : Nat)), some (.ref l1), some (.int l2), some (.int l3), some (.int l4), some (.int l5), some (.int v6), none, none, none] [] T (rV (x_pl_strikeUnlike_45 l1 l2 l3 l4 l5 K f v6 T)).1 ((rV (x_pl_strikeUnlike_45 l1 l2 l3 l4 l5 K f v6 T)).2) := by
  intro f
  induction f with
  | zero => intro v6 T kk; exact kk.elim
  | succ f ih =>
    intro v6 T kk
    rw [ok_pl_strikeUnlike_45] at kk
    rw [x_pl_strikeUnlike_45]
    refine r_p (pc2 := 47) dX5_strikeUnlike_45 rfl rfl ?_
    refine r_p (pc2 := 48) dX5_strikeUnlike_47 rfl rfl ?_
    refine r_get dX5_strikeUnlike_48 fkX5_17 rfl rfl ?_
    refine r_p (pc2 := 53) dX5_strikeUnlike_51 rfl rfl ?_
    obtain ⟨q6, kk⟩ := kk
    refine r_ia dX5_strikeUnlike_53 rfl q6 ?_
    refine r_cge dX5_strikeUnlike_54 rfl (fun c54_2 => ?_) (fun c54_2 => ?_)
    · refine r_ip (R := rV) c54_2 ?_
      have kk := kk.1 c54_2
      show tR _ _ _ _ [some (.ref (80 : Nat)), some (.ref l1), some (.int l2), some (.int l3), some (.int l4), some (.int l5), some (.int v6), none, none, none] _ _ _ _
      exact (hk v6 T kk)
    · refine r_in (R := rV) c54_2 ?_
      have kk := kk.2 c54_2
      refine r_p (pc2 := 58) dX5_strikeUnlike_57 rfl rfl ?_
      refine r_get dX5_strikeUnlike_58 fkX5_11 rfl rfl ?_
      refine r_p (pc2 := 63) dX5_strikeUnlike_61 rfl rfl ?_
      refine r_cb (x := 12) dX5_strikeUnlike_63 rfl ?_
      refine r_p (pc2 := 66) dX5_strikeUnlike_65 rfl rfl ?_
      refine r_p (pc2 := 68) dX5_strikeUnlike_66 rfl rfl ?_
      refine r_p (pc2 := 69) dX5_strikeUnlike_68 rfl rfl ?_
      obtain ⟨q7, kk⟩ := kk
      refine r_aa dX5_strikeUnlike_69 rfl (by decide) q7 (rf81 q7) ?_
      refine r_nR (R := rV) rfl kk (fun r3 kk => ?_)
      refine r_p (pc2 := 72) (L2 := [some (.ref (80 : Nat)), some (.ref l1), some (.int l2), some (.int l3), some (.int l4), some (.int l5), some (.int v6), some (.ref r3), none, none]) dX5_strikeUnlike_70 rfl rfl ?_
      refine r_p (pc2 := 74) dX5_strikeUnlike_72 rfl rfl ?_
      obtain ⟨q8, kk⟩ := kk
      refine r_get dX5_strikeUnlike_74 fkX5_135 q8 rfl ?_
      refine r_p (pc2 := 79) dX5_strikeUnlike_77 rfl rfl ?_
      obtain ⟨q9, kk⟩ := kk
      refine r_ia dX5_strikeUnlike_79 (shl10_1 q8) q9 ?_
      refine r_nI (R := rV) rfl kk (fun i4 kk => ?_)
      refine r_p (pc2 := 82) (L2 := [some (.ref (80 : Nat)), some (.ref l1), some (.int l2), some (.int l3), some (.int l4), some (.int l5), some (.int v6), some (.ref r3), some (.int i4), none]) dX5_strikeUnlike_80 rfl rfl ?_
      refine r_p (pc2 := 83) dX5_strikeUnlike_82 rfl rfl ?_
      obtain ⟨q10, kk⟩ := kk
      refine r_get dX5_strikeUnlike_83 fkX5_138 q10 rfl ?_
      refine r_p (pc2 := 87) dX5_strikeUnlike_86 rfl rfl ?_
      obtain ⟨q11, kk⟩ := kk
      refine r_ia dX5_strikeUnlike_87 (shl7_5 q10) q11 ?_
      refine r_p (pc2 := 89) dX5_strikeUnlike_88 rfl rfl ?_
      refine r_jn (R := rV) (J := fun (KJ1 : Int32 → St) (OJ1 : Int32 → Prop) => ∀ (j1_s0 : Int32), OJ1 j1_s0 → tR X 0 mX5_strikeUnlike 122 [some (.ref (80 : Nat)), some (.ref l1), some (.int l2), some (.int l3), some (.int l4), some (.int l5), some (.int v6), some (.ref r3), some (.int i4), none] [.int j1_s0] T (rV (KJ1 j1_s0)).1 (rV (KJ1 j1_s0)).2) kk (fun j1_s0 kk => ?_) (fun KJ1 OJ1 hJ1 kk => ?_)
      · skip
        refine r_p (pc2 := 124) (L2 := [some (.ref (80 : Nat)), some (.ref l1), some (.int l2), some (.int l3), some (.int l4), some (.int l5), some (.int v6), some (.ref r3), some (.int i4), some (.int j1_s0)]) dX5_strikeUnlike_122 rfl rfl ?_
        refine r_p (pc2 := 126) dX5_strikeUnlike_124 rfl rfl ?_
        refine r_ine dX5_strikeUnlike_126 rfl (fun c126_6 => ?_) (fun c126_6 => ?_)
        · refine r_in (R := rV) c126_6 ?_
          have kk := kk.2 c126_6
          refine r_inc (L2 := [some (.ref (80 : Nat)), some (.ref l1), some (.int l2), some (.int l3), some (.int l4), some (.int l5), some (.int (v6 + 1)), some (.ref r3), some (.int i4), some (.int j1_s0)]) (y := 1) dX5_strikeUnlike_135 rfl rfl rfl ?_
          refine r_go dX5_strikeUnlike_138 rfl ?_
          show tR _ _ _ _ [some (.ref (80 : Nat)), some (.ref l1), some (.int l2), some (.int l3), some (.int l4), some (.int l5), some (.int (v6 + 1)), some (.ref r3), some (.int i4), some (.int j1_s0)] _ _ _ _
          exact r_le (le_s (le_s (le_s (le_s (le_s (le_s (le_s (le_n (le_n (le_n (le_0))))))))))) (ih (v6 + 1) T kk)
        · refine r_ip (R := rV) c126_6 ?_
          have kk := kk.1 c126_6
          refine r_p (pc2 := 131) dX5_strikeUnlike_129 rfl rfl ?_
          refine r_ci (x := 0) dX5_strikeUnlike_131 rfl ?_
          refine r_put dX5_strikeUnlike_132 fkX5_106 rfl q8 rfl (Nat.le_of_ble_eq_true rfl) rfl rfl ?_
          refine r_inc (L2 := [some (.ref (80 : Nat)), some (.ref l1), some (.int l2), some (.int l3), some (.int l4), some (.int l5), some (.int (v6 + 1)), some (.ref r3), some (.int i4), some (.int j1_s0)]) (y := 1) dX5_strikeUnlike_135 rfl rfl rfl ?_
          refine r_go dX5_strikeUnlike_138 rfl ?_
          show tR _ _ _ _ [some (.ref (80 : Nat)), some (.ref l1), some (.int l2), some (.int l3), some (.int l4), some (.int l5), some (.int (v6 + 1)), some (.ref r3), some (.int i4), some (.int j1_s0)] _ _ _ _
          exact r_le (le_s (le_s (le_s (le_s (le_s (le_s (le_s (le_n (le_n (le_n (le_0))))))))))) (ih (v6 + 1) (sF T r3 6 0) kk)
      refine r_cge dX5_strikeUnlike_89 rfl (fun c89_7 => ?_) (fun c89_7 => ?_)
      · refine r_ip (R := rV) c89_7 ?_
        have kk := kk.1 c89_7
        refine r_p (pc2 := 113) dX5_strikeUnlike_111 rfl rfl ?_
        refine r_p (pc2 := 114) dX5_strikeUnlike_113 rfl rfl ?_
        refine r_clt dX5_strikeUnlike_114 rfl (fun c114_8 => ?_) (fun c114_8 => ?_)
        · refine r_ip (R := rV) c114_8 ?_
          have kk := kk.1 c114_8
          refine r_ci (x := 0) dX5_strikeUnlike_121 rfl ?_
          show tR _ _ _ _ [some (.ref (80 : Nat)), some (.ref l1), some (.int l2), some (.int l3), some (.int l4), some (.int l5), some (.int v6), some (.ref r3), some (.int i4), none] [.int 0] _ _ _
          exact (hJ1 0 kk)
        · refine r_in (R := rV) c114_8 ?_
          have kk := kk.2 c114_8
          refine r_ci (x := 1) dX5_strikeUnlike_117 rfl ?_
          refine r_go dX5_strikeUnlike_118 rfl ?_
          show tR _ _ _ _ [some (.ref (80 : Nat)), some (.ref l1), some (.int l2), some (.int l3), some (.int l4), some (.int l5), some (.int v6), some (.ref r3), some (.int i4), none] [.int 1] _ _ _
          exact (hJ1 1 kk)
      · refine r_in (R := rV) c89_7 ?_
        have kk := kk.2 c89_7
        refine r_p (pc2 := 94) dX5_strikeUnlike_92 rfl rfl ?_
        refine r_p (pc2 := 95) dX5_strikeUnlike_94 rfl rfl ?_
        refine r_get dX5_strikeUnlike_95 fkX5_138 q10 rfl ?_
        refine r_p (pc2 := 99) dX5_strikeUnlike_98 rfl rfl ?_
        refine r_ia dX5_strikeUnlike_99 (shl7_5 q10) q11 ?_
        refine r_cne dX5_strikeUnlike_100 rfl (fun c100_9 => ?_) (fun c100_9 => ?_)
        · refine r_in (R := rV) c100_9 ?_
          have kk := kk.2 c100_9
          refine r_ci (x := 0) dX5_strikeUnlike_107 rfl ?_
          refine r_go dX5_strikeUnlike_108 rfl ?_
          show tR _ _ _ _ [some (.ref (80 : Nat)), some (.ref l1), some (.int l2), some (.int l3), some (.int l4), some (.int l5), some (.int v6), some (.ref r3), some (.int i4), none] [.int 0] _ _ _
          exact (hJ1 0 kk)
        · refine r_ip (R := rV) c100_9 ?_
          have kk := kk.1 c100_9
          refine r_ci (x := 1) dX5_strikeUnlike_103 rfl ?_
          refine r_go dX5_strikeUnlike_104 rfl ?_
          show tR _ _ _ _ [some (.ref (80 : Nat)), some (.ref l1), some (.int l2), some (.int l3), some (.int l4), some (.int l5), some (.int v6), some (.ref r3), some (.int i4), none] [.int 1] _ _ _
          exact (hJ1 1 kk)
def x_pl_strikeUnlike_2 (l1 : Nat) (l2 : Int32) (K : Int32 → St → St) : Nat → Int32 → St → St
  | 0, _, T => T
  | f + 1, v3, T => if (T.1 l1 1) ≤ v3 then (K v3 T) else (jn (fun (i1 : Int32) => jn (fun (i2 : Int32) => x_pl_strikeUnlike_45 l1 l2 v3 i1 i2 (fun (w1_6 : Int32) (T201 : St) => x_pl_strikeUnlike_2 l1 l2 K f (v3 + 1) T201) 1000 0 T) ((T.2.2.1 (l1 + 3) (v3 : Int32).toNatClampNeg) - (T.2.2.1 ((T.2.1 2) + 8) (i1 : Int32).toNatClampNeg))) (T.2.2.1 (l1 + 1) (T.2.2.1 (l1 + 4) (v3 : Int32).toNatClampNeg : Int32).toNatClampNeg))
def ok_pl_strikeUnlike_2 (l1 : Nat) (l2 : Int32) (Kk : Int32 → St → Prop) : Nat → Int32 → St → Prop
  | 0, _, _ => False
  | f + 1, v3, T => (sh l1 = .inr 7) ∧ (((T.1 l1 1) ≤ v3 → Kk v3 T) ∧ (¬ (T.1 l1 1) ≤ v3 → (vp_in v3 12) ∧ (vp_in (T.2.2.1 (l1 + 4) (v3 : Int32).toNatClampNeg) 4) ∧ jn (fun (i1 : Int32) => (sh (T.2.1 2) = .inr 1) ∧ (vp_in i1 8) ∧ jn (fun (i2 : Int32) => ok_pl_strikeUnlike_45 l1 l2 v3 i1 i2 (fun (w1_6 : Int32) (T201 : St) => ok_pl_strikeUnlike_2 l1 l2 Kk f (v3 + 1) T201) 1000 0 T) ((T.2.2.1 (l1 + 3) (v3 : Int32).toNatClampNeg) - (T.2.2.1 ((T.2.1 2) + 8) (i1 : Int32).toNatClampNeg))) (T.2.2.1 (l1 + 1) (T.2.2.1 (l1 + 4) (v3 : Int32).toNatClampNeg : Int32).toNatClampNeg)))
theorem c_pl_strikeUnlike_2 {X : Nat × (Nat → Int32)} (l1 : Nat) (l2 : Int32) {K : Int32 → St → St} {Kk : Int32 → St → Prop} (hk : ∀ (v3 : Int32) (T : St), Kk v3 T → tR X 0 mX5_strikeUnlike 147 [some (.ref (80 : Nat)), some (.ref l1), some (.int l2), some (.int v3), none, none, none, none, none, none] [] T (rV (K v3 T)).1 ((rV (K v3 T)).2)) : ∀ (f : Nat) (v3 : Int32) (T : St), ok_pl_strikeUnlike_2 l1 l2 Kk f v3 T → tR X 0 mX5_strikeUnlike 2 [some (.ref (80 : Nat)), some (.ref l1), some (.int l2), some (.int v3), none, none, none, none, none, none] [] T (rV (x_pl_strikeUnlike_2 l1 l2 K f v3 T)).1 ((rV (x_pl_strikeUnlike_2 l1 l2 K f v3 T)).2) := by
  intro f
  induction f with
  | zero => intro v3 T kk; exact kk.elim
  | succ f ih =>
    intro v3 T kk
    rw [ok_pl_strikeUnlike_2] at kk
    rw [x_pl_strikeUnlike_2]
    refine r_p (pc2 := 3) dX5_strikeUnlike_2 rfl rfl ?_
    refine r_p (pc2 := 4) dX5_strikeUnlike_3 rfl rfl ?_
    obtain ⟨q1, kk⟩ := kk
    refine r_get dX5_strikeUnlike_4 fkX5_118 q1 rfl ?_
    refine r_cge dX5_strikeUnlike_7 rfl (fun c7_1 => ?_) (fun c7_1 => ?_)
    · refine r_ip (R := rV) c7_1 ?_
      have kk := kk.1 c7_1
      show tR _ _ _ _ [some (.ref (80 : Nat)), some (.ref l1), some (.int l2), some (.int v3), none, none, none, none, none, none] _ _ _ _
      exact (hk v3 T kk)
    · refine r_in (R := rV) c7_1 ?_
      have kk := kk.2 c7_1
      refine r_p (pc2 := 11) dX5_strikeUnlike_10 rfl rfl ?_
      refine r_get dX5_strikeUnlike_11 fkX5_123 q1 rfl ?_
      refine r_p (pc2 := 15) dX5_strikeUnlike_14 rfl rfl ?_
      refine r_get dX5_strikeUnlike_15 fkX5_126 q1 rfl ?_
      refine r_p (pc2 := 19) dX5_strikeUnlike_18 rfl rfl ?_
      obtain ⟨q2, kk⟩ := kk
      refine r_ia dX5_strikeUnlike_19 (shl7_4 q1) q2 ?_
      obtain ⟨q3, kk⟩ := kk
      refine r_ia dX5_strikeUnlike_20 (shl7_1 q1) q3 ?_
      refine r_nI (R := rV) rfl kk (fun i1 kk => ?_)
      refine r_p (pc2 := 23) (L2 := [some (.ref (80 : Nat)), some (.ref l1), some (.int l2), some (.int v3), some (.int i1), none, none, none, none, none]) dX5_strikeUnlike_21 rfl rfl ?_
      refine r_p (pc2 := 24) dX5_strikeUnlike_23 rfl rfl ?_
      refine r_get dX5_strikeUnlike_24 fkX5_129 q1 rfl ?_
      refine r_p (pc2 := 28) dX5_strikeUnlike_27 rfl rfl ?_
      refine r_ia dX5_strikeUnlike_28 (shl7_3 q1) q2 ?_
      refine r_p (pc2 := 30) dX5_strikeUnlike_29 rfl rfl ?_
      refine r_get dX5_strikeUnlike_30 fkX5_62 rfl rfl ?_
      obtain ⟨q4, kk⟩ := kk
      refine r_get dX5_strikeUnlike_33 fkX5_132 q4 rfl ?_
      refine r_p (pc2 := 38) dX5_strikeUnlike_36 rfl rfl ?_
      obtain ⟨q5, kk⟩ := kk
      refine r_ia dX5_strikeUnlike_38 (shl1_8 q4) q5 ?_
      refine r_p (pc2 := 40) dX5_strikeUnlike_39 rfl rfl ?_
      refine r_nI (R := rV) rfl kk (fun i2 kk => ?_)
      refine r_p (pc2 := 42) (L2 := [some (.ref (80 : Nat)), some (.ref l1), some (.int l2), some (.int v3), some (.int i1), some (.int i2), none, none, none, none]) dX5_strikeUnlike_40 rfl rfl ?_
      refine r_ci (x := 0) dX5_strikeUnlike_42 rfl ?_
      refine r_p (pc2 := 45) (L2 := [some (.ref (80 : Nat)), some (.ref l1), some (.int l2), some (.int v3), some (.int i1), some (.int i2), some (.int 0), none, none, none]) dX5_strikeUnlike_43 rfl rfl ?_
      show tR _ _ _ _ [some (.ref (80 : Nat)), some (.ref l1), some (.int l2), some (.int v3), some (.int i1), some (.int i2), some (.int 0), none, none, none] _ _ _ _
      refine (c_pl_strikeUnlike_45 l1 l2 v3 i1 i2 (fun w1_6 T201 kk => ?_) 1000 0 T kk)
      · skip
        refine r_inc (L2 := [some (.ref (80 : Nat)), some (.ref l1), some (.int l2), some (.int (v3 + 1)), some (.int i1), some (.int i2), some (.int w1_6), none, none, none]) (y := 1) dX5_strikeUnlike_141 rfl rfl rfl ?_
        refine r_go dX5_strikeUnlike_144 rfl ?_
        show tR _ _ _ _ [some (.ref (80 : Nat)), some (.ref l1), some (.int l2), some (.int (v3 + 1)), some (.int i1), some (.int i2), some (.int w1_6), none, none, none] _ _ _ _
        exact r_le (le_s (le_s (le_s (le_s (le_n (le_n (le_n (le_s (le_s (le_s (le_0))))))))))) (ih (v3 + 1) T201 kk)
def x_pl_strikeUnlike (T : St) (p0 : Nat) (p1 : Int32) : St := x_pl_strikeUnlike_2 p0 p1 (fun (w2_3 : Int32) (T202 : St) => T202) 1000 0 T
def ok_pl_strikeUnlike (T : St) (p0 : Nat) (p1 : Int32) : Prop := ok_pl_strikeUnlike_2 p0 p1 (fun (w2_3 : Int32) (T202 : St) => True) 1000 0 T
theorem c_pl_strikeUnlike {X : Nat × (Nat → Int32)} {T : St} (p0 : Nat) (p1 : Int32) (kk : ok_pl_strikeUnlike T p0 p1) : tC X 1 mX5_strikeUnlike [.ref (80 : Nat), .ref p0, .int p1] T none (x_pl_strikeUnlike T p0 p1) := by
  unfold ok_pl_strikeUnlike at kk
  refine tC_orV (L := [some (.ref (80 : Nat)), some (.ref p0), some (.int p1), none, none, none, none, none, none, none]) (x_pl_strikeUnlike T p0 p1) rfl ?_
  unfold x_pl_strikeUnlike
  refine r_ci (x := 0) dX5_strikeUnlike_0 rfl ?_
  refine r_p (pc2 := 2) (L2 := [some (.ref (80 : Nat)), some (.ref p0), some (.int p1), some (.int 0), none, none, none, none, none, none]) dX5_strikeUnlike_1 rfl rfl ?_
  show tR _ _ _ _ [some (.ref (80 : Nat)), some (.ref p0), some (.int p1), some (.int 0), none, none, none, none, none, none] _ _ _ _
  refine (c_pl_strikeUnlike_2 p0 p1 (fun w2_3 T202 kk => ?_) 1000 0 T kk)
  · skip
    exact r_qV dX5_strikeUnlike_147 rfl rfl
def x_pl_settleDish_84 (l1 : Int32) (l2 : Nat) (l3 : Int32) (l4 : Int32) (K : Int32 → St → St) : Nat → Int32 → St → St
  | 0, _, T => T
  | f + 1, v5, T => if 5 ≤ v5 then (K v5 T) else (jn (fun (T3 : St) => x_pl_settleDish_84 l1 l2 l3 l4 K f (v5 + 1) T3) (sL T l2 (v5 : Int32).toNatClampNeg ((T.2.2.2 l2 (v5 : Int32).toNatClampNeg) &&& (T.2.2.2 ((123 + 4 * (l4 : Int32).toNatClampNeg) + 3) (v5 : Int32).toNatClampNeg))))
def ok_pl_settleDish_84 (l1 : Int32) (l2 : Nat) (l3 : Int32) (l4 : Int32) (Kk : Int32 → St → Prop) : Nat → Int32 → St → Prop
  | 0, _, _ => False
  | f + 1, v5, T => ((5 ≤ v5 → Kk v5 T) ∧ (¬ 5 ≤ v5 → (sh l2 = .inl (1, 5)) ∧ (vp_in v5 5) ∧ (vp_in l4 96) ∧ (sh ((123 + 4 * (l4 : Int32).toNatClampNeg) + 3) = .inl (1, 5)) ∧ jn (fun (T3 : St) => ok_pl_settleDish_84 l1 l2 l3 l4 Kk f (v5 + 1) T3) (sL T l2 (v5 : Int32).toNatClampNeg ((T.2.2.2 l2 (v5 : Int32).toNatClampNeg) &&& (T.2.2.2 ((123 + 4 * (l4 : Int32).toNatClampNeg) + 3) (v5 : Int32).toNatClampNeg)))))
theorem c_pl_settleDish_84 {X : Nat × (Nat → Int32)} (l1 : Int32) (l2 : Nat) (l3 : Int32) (l4 : Int32) {K : Int32 → St → St} {Kk : Int32 → St → Prop} (hk : ∀ (v5 : Int32) (T : St), Kk v5 T → tR X 1 mX5_settleDish 116 [some (.ref (80 : Nat)), some (.int l1), some (.ref l2), some (.int l3), some (.int l4), some (.int v5)] [] T (rV (K v5 T)).1 ((rV (K v5 T)).2)) : ∀ (f : Nat) (v5 : Int32) (T : St), ok_pl_settleDish_84 l1 l2 l3 l4 Kk f v5 T → tR X 1 mX5_settleDish 84 [some (.ref (80 : Nat)), some (.int l1), some (.ref l2), some (.int l3), some (.int l4), some (.int v5)] [] T (rV (x_pl_settleDish_84 l1 l2 l3 l4 K f v5 T)).1 ((rV (x_pl_settleDish_84 l1 l2 l3 l4 K f v5 T)).2) := by
  intro f
  induction f with
  | zero => intro v5 T kk; exact kk.elim
  | succ f ih =>
    intro v5 T kk
    rw [ok_pl_settleDish_84] at kk
    rw [x_pl_settleDish_84]
    refine r_p (pc2 := 86) dX5_settleDish_84 rfl rfl ?_
    refine r_ci (x := 5) dX5_settleDish_86 rfl ?_
    refine r_cge dX5_settleDish_87 rfl (fun c87_3 => ?_) (fun c87_3 => ?_)
    · refine r_ip (R := rV) c87_3 ?_
      have kk := kk.1 c87_3
      show tR _ _ _ _ [some (.ref (80 : Nat)), some (.int l1), some (.ref l2), some (.int l3), some (.int l4), some (.int v5)] _ _ _ _
      exact (hk v5 T kk)
    · refine r_in (R := rV) c87_3 ?_
      have kk := kk.2 c87_3
      refine r_p (pc2 := 91) dX5_settleDish_90 rfl rfl ?_
      refine r_p (pc2 := 93) dX5_settleDish_91 rfl rfl ?_
      refine r_p (pc2 := 94) dX5_settleDish_93 rfl rfl ?_
      obtain ⟨q5, kk⟩ := kk
      obtain ⟨q6, kk⟩ := kk
      refine r_la dX5_settleDish_94 q5 q6 ?_
      refine r_p (pc2 := 96) dX5_settleDish_95 rfl rfl ?_
      refine r_get dX5_settleDish_96 fkX5_11 rfl rfl ?_
      refine r_p (pc2 := 101) dX5_settleDish_99 rfl rfl ?_
      obtain ⟨q7, kk⟩ := kk
      refine r_aa dX5_settleDish_101 rfl (by decide) q7 (rf81 q7) ?_
      refine r_get dX5_settleDish_102 fkX5_110 (shr81 q7) rfl ?_
      refine r_p (pc2 := 107) dX5_settleDish_105 rfl rfl ?_
      obtain ⟨q8, kk⟩ := kk
      refine r_la dX5_settleDish_107 q8 q6 ?_
      refine r_p (pc2 := 109) dX5_settleDish_108 rfl rfl ?_
      refine r_las dX5_settleDish_109 q5 q6 ?_
      refine r_nT (R := rV) rfl kk (fun T3 kk => ?_)
      refine r_inc (L2 := [some (.ref (80 : Nat)), some (.int l1), some (.ref l2), some (.int l3), some (.int l4), some (.int (v5 + 1))]) (y := 1) dX5_settleDish_110 rfl rfl rfl ?_
      refine r_go dX5_settleDish_113 rfl ?_
      show tR _ _ _ _ [some (.ref (80 : Nat)), some (.int l1), some (.ref l2), some (.int l3), some (.int l4), some (.int (v5 + 1))] _ _ _ _
      exact (ih (v5 + 1) T3 kk)
def x_pl_settleDish_30 (l1 : Int32) (l2 : Nat) (l3 : Int32) (K : Int32 → St → St) : Nat → Int32 → St → St
  | 0, _, T => T
  | f + 1, v4, T => if (l3 + (T.2.2.1 82 (l1 : Int32).toNatClampNeg)) ≤ v4 then (K v4 T) else (if (T.1 (123 + 4 * (v4 : Int32).toNatClampNeg) 6) = 0 then (x_pl_settleDish_30 l1 l2 l3 K f (v4 + 1) T) else (jn (fun (T2 : St) => x_pl_settleDish_84 l1 l2 l3 v4 (fun (w1_5 : Int32) (T201 : St) => x_pl_settleDish_30 l1 l2 l3 K f (v4 + 1) T201) 1000 0 T2) (sA T 83 (l1 : Int32).toNatClampNeg (if T.1 (123 + 4 * (v4 : Int32).toNatClampNeg) 5 < T.2.2.1 83 (l1 : Int32).toNatClampNeg then T.1 (123 + 4 * (v4 : Int32).toNatClampNeg) 5 else T.2.2.1 83 (l1 : Int32).toNatClampNeg : Int32))))
def ok_pl_settleDish_30 (l1 : Int32) (l2 : Nat) (l3 : Int32) (Kk : Int32 → St → Prop) : Nat → Int32 → St → Prop
  | 0, _, _ => False
  | f + 1, v4, T => (vp_in l1 8) ∧ (((l3 + (T.2.2.1 82 (l1 : Int32).toNatClampNeg)) ≤ v4 → Kk v4 T) ∧ (¬ (l3 + (T.2.2.1 82 (l1 : Int32).toNatClampNeg)) ≤ v4 → (vp_in v4 96) ∧ (((T.1 (123 + 4 * (v4 : Int32).toNatClampNeg) 6) = 0 → ok_pl_settleDish_30 l1 l2 l3 Kk f (v4 + 1) T) ∧ (¬ (T.1 (123 + 4 * (v4 : Int32).toNatClampNeg) 6) = 0 → jn (fun (T2 : St) => ok_pl_settleDish_84 l1 l2 l3 v4 (fun (w1_5 : Int32) (T201 : St) => ok_pl_settleDish_30 l1 l2 l3 Kk f (v4 + 1) T201) 1000 0 T2) (sA T 83 (l1 : Int32).toNatClampNeg (if T.1 (123 + 4 * (v4 : Int32).toNatClampNeg) 5 < T.2.2.1 83 (l1 : Int32).toNatClampNeg then T.1 (123 + 4 * (v4 : Int32).toNatClampNeg) 5 else T.2.2.1 83 (l1 : Int32).toNatClampNeg : Int32))))))
theorem c_pl_settleDish_30 {X : Nat × (Nat → Int32)} (l1 : Int32) (l2 : Nat) (l3 : Int32) {K : Int32 → St → St} {Kk : Int32 → St → Prop} (hk : ∀ (v4 : Int32) (T : St), Kk v4 T → tR X 1 mX5_settleDish 122 [some (.ref (80 : Nat)), some (.int l1), some (.ref l2), some (.int l3), some (.int v4), none] [] T (rV (K v4 T)).1 ((rV (K v4 T)).2)) : ∀ (f : Nat) (v4 : Int32) (T : St), ok_pl_settleDish_30 l1 l2 l3 Kk f v4 T → tR X 1 mX5_settleDish 30 [some (.ref (80 : Nat)), some (.int l1), some (.ref l2), some (.int l3), some (.int v4), none] [] T (rV (x_pl_settleDish_30 l1 l2 l3 K f v4 T)).1 ((rV (x_pl_settleDish_30 l1 l2 l3 K f v4 T)).2) := by
  intro f
  induction f with
  | zero => intro v4 T kk; exact kk.elim
  | succ f ih =>
    intro v4 T kk
    rw [ok_pl_settleDish_30] at kk
    rw [x_pl_settleDish_30]
    refine r_p (pc2 := 32) dX5_settleDish_30 rfl rfl ?_
    refine r_p (pc2 := 33) dX5_settleDish_32 rfl rfl ?_
    refine r_p (pc2 := 34) dX5_settleDish_33 rfl rfl ?_
    refine r_get dX5_settleDish_34 fkX5_17 rfl rfl ?_
    refine r_p (pc2 := 38) dX5_settleDish_37 rfl rfl ?_
    obtain ⟨q3, kk⟩ := kk
    refine r_ia dX5_settleDish_38 rfl q3 ?_
    refine r_p (pc2 := 40) dX5_settleDish_39 rfl rfl ?_
    refine r_cge dX5_settleDish_40 rfl (fun c40_1 => ?_) (fun c40_1 => ?_)
    · refine r_ip (R := rV) c40_1 ?_
      have kk := kk.1 c40_1
      show tR _ _ _ _ [some (.ref (80 : Nat)), some (.int l1), some (.ref l2), some (.int l3), some (.int v4), none] _ _ _ _
      exact (hk v4 T kk)
    · refine r_in (R := rV) c40_1 ?_
      have kk := kk.2 c40_1
      refine r_p (pc2 := 44) dX5_settleDish_43 rfl rfl ?_
      refine r_get dX5_settleDish_44 fkX5_11 rfl rfl ?_
      refine r_p (pc2 := 49) dX5_settleDish_47 rfl rfl ?_
      obtain ⟨q4, kk⟩ := kk
      refine r_aa dX5_settleDish_49 rfl (by decide) q4 (rf81 q4) ?_
      refine r_get dX5_settleDish_50 fkX5_106 (shr81 q4) rfl ?_
      refine r_ieq dX5_settleDish_53 rfl (fun c53_2 => ?_) (fun c53_2 => ?_)
      · refine r_ip (R := rV) c53_2 ?_
        have kk := kk.1 c53_2
        refine r_inc (L2 := [some (.ref (80 : Nat)), some (.int l1), some (.ref l2), some (.int l3), some (.int (v4 + 1)), none]) (y := 1) dX5_settleDish_116 rfl rfl rfl ?_
        refine r_go dX5_settleDish_119 rfl ?_
        show tR _ _ _ _ [some (.ref (80 : Nat)), some (.int l1), some (.ref l2), some (.int l3), some (.int (v4 + 1)), none] _ _ _ _
        exact (ih (v4 + 1) T kk)
      · refine r_in (R := rV) c53_2 ?_
        have kk := kk.2 c53_2
        refine r_p (pc2 := 57) dX5_settleDish_56 rfl rfl ?_
        refine r_get dX5_settleDish_57 fkX5_21 rfl rfl ?_
        refine r_p (pc2 := 61) dX5_settleDish_60 rfl rfl ?_
        refine r_p (pc2 := 62) dX5_settleDish_61 rfl rfl ?_
        refine r_get dX5_settleDish_62 fkX5_21 rfl rfl ?_
        refine r_p (pc2 := 66) dX5_settleDish_65 rfl rfl ?_
        refine r_ia dX5_settleDish_66 rfl q3 ?_
        refine r_p (pc2 := 68) dX5_settleDish_67 rfl rfl ?_
        refine r_get dX5_settleDish_68 fkX5_11 rfl rfl ?_
        refine r_p (pc2 := 73) dX5_settleDish_71 rfl rfl ?_
        refine r_aa dX5_settleDish_73 rfl (by decide) q4 (rf81 q4) ?_
        refine r_get dX5_settleDish_74 fkX5_100 (shr81 q4) rfl ?_
        refine r_min dX5_settleDish_77 cmnX5_152 (Nat.le_of_ble_eq_true rfl) ?_
        refine r_ias dX5_settleDish_80 rfl q3 ?_
        refine r_nT (R := rV) rfl kk (fun T2 kk => ?_)
        refine r_ci (x := 0) dX5_settleDish_81 rfl ?_
        refine r_p (pc2 := 84) (L2 := [some (.ref (80 : Nat)), some (.int l1), some (.ref l2), some (.int l3), some (.int v4), some (.int 0)]) dX5_settleDish_82 rfl rfl ?_
        show tR _ _ _ _ [some (.ref (80 : Nat)), some (.int l1), some (.ref l2), some (.int l3), some (.int v4), some (.int 0)] _ _ _ _
        refine (c_pl_settleDish_84 l1 l2 l3 v4 (fun w1_5 T201 kk => ?_) 1000 0 T2 kk)
        · skip
          refine r_inc (L2 := [some (.ref (80 : Nat)), some (.int l1), some (.ref l2), some (.int l3), some (.int (v4 + 1)), some (.int w1_5)]) (y := 1) dX5_settleDish_116 rfl rfl rfl ?_
          refine r_go dX5_settleDish_119 rfl ?_
          show tR _ _ _ _ [some (.ref (80 : Nat)), some (.int l1), some (.ref l2), some (.int l3), some (.int (v4 + 1)), some (.int w1_5)] _ _ _ _
          exact r_le (le_s (le_s (le_s (le_s (le_s (le_n (le_0))))))) (ih (v4 + 1) T201 kk)
def x_pl_settleDish_154 (l1 : Int32) (l2 : Nat) (l3 : Int32) (l4 : Int32) (K : Int32 → St → St) : Nat → Int32 → St → St
  | 0, _, T => T
  | f + 1, v5, T => if 5 ≤ v5 then (K v5 T) else (jn (fun (T4 : St) => x_pl_settleDish_154 l1 l2 l3 l4 K f (v5 + 1) T4) (sL T ((123 + 4 * (l4 : Int32).toNatClampNeg) + 3) (v5 : Int32).toNatClampNeg ((T.2.2.2 ((123 + 4 * (l4 : Int32).toNatClampNeg) + 3) (v5 : Int32).toNatClampNeg) &&& ((T.2.2.2 l2 (v5 : Int32).toNatClampNeg) ^^^ (-1)))))
def ok_pl_settleDish_154 (l1 : Int32) (l2 : Nat) (l3 : Int32) (l4 : Int32) (Kk : Int32 → St → Prop) : Nat → Int32 → St → Prop
  | 0, _, _ => False
  | f + 1, v5, T => ((5 ≤ v5 → Kk v5 T) ∧ (¬ 5 ≤ v5 → (vp_in l4 96) ∧ (sh ((123 + 4 * (l4 : Int32).toNatClampNeg) + 3) = .inl (1, 5)) ∧ (vp_in v5 5) ∧ (sh l2 = .inl (1, 5)) ∧ jn (fun (T4 : St) => ok_pl_settleDish_154 l1 l2 l3 l4 Kk f (v5 + 1) T4) (sL T ((123 + 4 * (l4 : Int32).toNatClampNeg) + 3) (v5 : Int32).toNatClampNeg ((T.2.2.2 ((123 + 4 * (l4 : Int32).toNatClampNeg) + 3) (v5 : Int32).toNatClampNeg) &&& ((T.2.2.2 l2 (v5 : Int32).toNatClampNeg) ^^^ (-1))))))
theorem c_pl_settleDish_154 {X : Nat × (Nat → Int32)} (l1 : Int32) (l2 : Nat) (l3 : Int32) (l4 : Int32) {K : Int32 → St → St} {Kk : Int32 → St → Prop} (hk : ∀ (v5 : Int32) (T : St), Kk v5 T → tR X 1 mX5_settleDish 190 [some (.ref (80 : Nat)), some (.int l1), some (.ref l2), some (.int l3), some (.int l4), some (.int v5)] [] T (rV (K v5 T)).1 ((rV (K v5 T)).2)) : ∀ (f : Nat) (v5 : Int32) (T : St), ok_pl_settleDish_154 l1 l2 l3 l4 Kk f v5 T → tR X 1 mX5_settleDish 154 [some (.ref (80 : Nat)), some (.int l1), some (.ref l2), some (.int l3), some (.int l4), some (.int v5)] [] T (rV (x_pl_settleDish_154 l1 l2 l3 l4 K f v5 T)).1 ((rV (x_pl_settleDish_154 l1 l2 l3 l4 K f v5 T)).2) := by
  intro f
  induction f with
  | zero => intro v5 T kk; exact kk.elim
  | succ f ih =>
    intro v5 T kk
    rw [ok_pl_settleDish_154] at kk
    rw [x_pl_settleDish_154]
    refine r_p (pc2 := 156) dX5_settleDish_154 rfl rfl ?_
    refine r_ci (x := 5) dX5_settleDish_156 rfl ?_
    refine r_cge dX5_settleDish_157 rfl (fun c157_6 => ?_) (fun c157_6 => ?_)
    · refine r_ip (R := rV) c157_6 ?_
      have kk := kk.1 c157_6
      show tR _ _ _ _ [some (.ref (80 : Nat)), some (.int l1), some (.ref l2), some (.int l3), some (.int l4), some (.int v5)] _ _ _ _
      exact (hk v5 T kk)
    · refine r_in (R := rV) c157_6 ?_
      have kk := kk.2 c157_6
      refine r_p (pc2 := 161) dX5_settleDish_160 rfl rfl ?_
      refine r_get dX5_settleDish_161 fkX5_11 rfl rfl ?_
      refine r_p (pc2 := 166) dX5_settleDish_164 rfl rfl ?_
      obtain ⟨q11, kk⟩ := kk
      refine r_aa dX5_settleDish_166 rfl (by decide) q11 (rf81 q11) ?_
      refine r_get dX5_settleDish_167 fkX5_110 (shr81 q11) rfl ?_
      refine r_p (pc2 := 172) dX5_settleDish_170 rfl rfl ?_
      refine r_p (pc2 := 173) dX5_settleDish_172 rfl rfl ?_
      obtain ⟨q12, kk⟩ := kk
      obtain ⟨q13, kk⟩ := kk
      refine r_la dX5_settleDish_173 q12 q13 ?_
      refine r_p (pc2 := 175) dX5_settleDish_174 rfl rfl ?_
      refine r_p (pc2 := 177) dX5_settleDish_175 rfl rfl ?_
      obtain ⟨q14, kk⟩ := kk
      refine r_la dX5_settleDish_177 q14 q13 ?_
      refine r_kl dX5_settleDish_178 klX5_143 ?_
      refine r_p (pc2 := 182) dX5_settleDish_181 rfl rfl ?_
      refine r_p (pc2 := 183) dX5_settleDish_182 rfl rfl ?_
      refine r_las dX5_settleDish_183 q12 q13 ?_
      refine r_nT (R := rV) rfl kk (fun T4 kk => ?_)
      refine r_inc (L2 := [some (.ref (80 : Nat)), some (.int l1), some (.ref l2), some (.int l3), some (.int l4), some (.int (v5 + 1))]) (y := 1) dX5_settleDish_184 rfl rfl rfl ?_
      refine r_go dX5_settleDish_187 rfl ?_
      show tR _ _ _ _ [some (.ref (80 : Nat)), some (.int l1), some (.ref l2), some (.int l3), some (.int l4), some (.int (v5 + 1))] _ _ _ _
      exact (ih (v5 + 1) T4 kk)
def x_pl_settleDish_125 (l1 : Int32) (l2 : Nat) (l3 : Int32) (K : Int32 → St → St) : Nat → Int32 → St → St
  | 0, _, T => T
  | f + 1, v4, T => if (l3 + (T.2.2.1 82 (l1 : Int32).toNatClampNeg)) ≤ v4 then (K v4 T) else (if (T.1 (123 + 4 * (v4 : Int32).toNatClampNeg) 6) = 0 then (x_pl_settleDish_125 l1 l2 l3 K f (v4 + 1) T) else (x_pl_settleDish_154 l1 l2 l3 v4 (fun (w3_5 : Int32) (T203 : St) => x_pl_settleDish_125 l1 l2 l3 K f (v4 + 1) T203) 1000 0 T))
def ok_pl_settleDish_125 (l1 : Int32) (l2 : Nat) (l3 : Int32) (Kk : Int32 → St → Prop) : Nat → Int32 → St → Prop
  | 0, _, _ => False
  | f + 1, v4, T => (vp_in l1 8) ∧ (((l3 + (T.2.2.1 82 (l1 : Int32).toNatClampNeg)) ≤ v4 → Kk v4 T) ∧ (¬ (l3 + (T.2.2.1 82 (l1 : Int32).toNatClampNeg)) ≤ v4 → (vp_in v4 96) ∧ (((T.1 (123 + 4 * (v4 : Int32).toNatClampNeg) 6) = 0 → ok_pl_settleDish_125 l1 l2 l3 Kk f (v4 + 1) T) ∧ (¬ (T.1 (123 + 4 * (v4 : Int32).toNatClampNeg) 6) = 0 → ok_pl_settleDish_154 l1 l2 l3 v4 (fun (w3_5 : Int32) (T203 : St) => ok_pl_settleDish_125 l1 l2 l3 Kk f (v4 + 1) T203) 1000 0 T))))
theorem c_pl_settleDish_125 {X : Nat × (Nat → Int32)} (l1 : Int32) (l2 : Nat) (l3 : Int32) {K : Int32 → St → St} {Kk : Int32 → St → Prop} (hk : ∀ (v4 : Int32) (T : St), Kk v4 T → tR X 1 mX5_settleDish 196 [some (.ref (80 : Nat)), some (.int l1), some (.ref l2), some (.int l3), some (.int v4), none] [] T (rV (K v4 T)).1 ((rV (K v4 T)).2)) : ∀ (f : Nat) (v4 : Int32) (T : St), ok_pl_settleDish_125 l1 l2 l3 Kk f v4 T → tR X 1 mX5_settleDish 125 [some (.ref (80 : Nat)), some (.int l1), some (.ref l2), some (.int l3), some (.int v4), none] [] T (rV (x_pl_settleDish_125 l1 l2 l3 K f v4 T)).1 ((rV (x_pl_settleDish_125 l1 l2 l3 K f v4 T)).2) := by
  intro f
  induction f with
  | zero => intro v4 T kk; exact kk.elim
  | succ f ih =>
    intro v4 T kk
    rw [ok_pl_settleDish_125] at kk
    rw [x_pl_settleDish_125]
    refine r_p (pc2 := 127) dX5_settleDish_125 rfl rfl ?_
    refine r_p (pc2 := 128) dX5_settleDish_127 rfl rfl ?_
    refine r_p (pc2 := 129) dX5_settleDish_128 rfl rfl ?_
    refine r_get dX5_settleDish_129 fkX5_17 rfl rfl ?_
    refine r_p (pc2 := 133) dX5_settleDish_132 rfl rfl ?_
    obtain ⟨q9, kk⟩ := kk
    refine r_ia dX5_settleDish_133 rfl q9 ?_
    refine r_p (pc2 := 135) dX5_settleDish_134 rfl rfl ?_
    refine r_cge dX5_settleDish_135 rfl (fun c135_4 => ?_) (fun c135_4 => ?_)
    · refine r_ip (R := rV) c135_4 ?_
      have kk := kk.1 c135_4
      show tR _ _ _ _ [some (.ref (80 : Nat)), some (.int l1), some (.ref l2), some (.int l3), some (.int v4), none] _ _ _ _
      exact (hk v4 T kk)
    · refine r_in (R := rV) c135_4 ?_
      have kk := kk.2 c135_4
      refine r_p (pc2 := 139) dX5_settleDish_138 rfl rfl ?_
      refine r_get dX5_settleDish_139 fkX5_11 rfl rfl ?_
      refine r_p (pc2 := 144) dX5_settleDish_142 rfl rfl ?_
      obtain ⟨q10, kk⟩ := kk
      refine r_aa dX5_settleDish_144 rfl (by decide) q10 (rf81 q10) ?_
      refine r_get dX5_settleDish_145 fkX5_106 (shr81 q10) rfl ?_
      refine r_ieq dX5_settleDish_148 rfl (fun c148_5 => ?_) (fun c148_5 => ?_)
      · refine r_ip (R := rV) c148_5 ?_
        have kk := kk.1 c148_5
        refine r_inc (L2 := [some (.ref (80 : Nat)), some (.int l1), some (.ref l2), some (.int l3), some (.int (v4 + 1)), none]) (y := 1) dX5_settleDish_190 rfl rfl rfl ?_
        refine r_go dX5_settleDish_193 rfl ?_
        show tR _ _ _ _ [some (.ref (80 : Nat)), some (.int l1), some (.ref l2), some (.int l3), some (.int (v4 + 1)), none] _ _ _ _
        exact (ih (v4 + 1) T kk)
      · refine r_in (R := rV) c148_5 ?_
        have kk := kk.2 c148_5
        refine r_ci (x := 0) dX5_settleDish_151 rfl ?_
        refine r_p (pc2 := 154) (L2 := [some (.ref (80 : Nat)), some (.int l1), some (.ref l2), some (.int l3), some (.int v4), some (.int 0)]) dX5_settleDish_152 rfl rfl ?_
        show tR _ _ _ _ [some (.ref (80 : Nat)), some (.int l1), some (.ref l2), some (.int l3), some (.int v4), some (.int 0)] _ _ _ _
        refine (c_pl_settleDish_154 l1 l2 l3 v4 (fun w3_5 T203 kk => ?_) 1000 0 T kk)
        · skip
          refine r_inc (L2 := [some (.ref (80 : Nat)), some (.int l1), some (.ref l2), some (.int l3), some (.int (v4 + 1)), some (.int w3_5)]) (y := 1) dX5_settleDish_190 rfl rfl rfl ?_
          refine r_go dX5_settleDish_193 rfl ?_
          show tR _ _ _ _ [some (.ref (80 : Nat)), some (.int l1), some (.ref l2), some (.int l3), some (.int (v4 + 1)), some (.int w3_5)] _ _ _ _
          exact r_le (le_s (le_s (le_s (le_s (le_s (le_n (le_0))))))) (ih (v4 + 1) T203 kk)
def x_pl_settleDish_202 (l1 : Int32) (l2 : Nat) (l3 : Int32) (K : Int32 → St → St) : Nat → Int32 → St → St
  | 0, _, T => T
  | f + 1, v4, T => if ((l3 + 12) * 8) ≤ v4 then (K v4 T) else (x_pl_settleDish_202 l1 l2 l3 K f (v4 + 1) (sA T 98 (v4 : Int32).toNatClampNeg (-1)))
def ok_pl_settleDish_202 (l1 : Int32) (l2 : Nat) (l3 : Int32) (Kk : Int32 → St → Prop) : Nat → Int32 → St → Prop
  | 0, _, _ => False
  | f + 1, v4, T => ((((l3 + 12) * 8) ≤ v4 → Kk v4 T) ∧ (¬ ((l3 + 12) * 8) ≤ v4 → (vp_in v4 768) ∧ ok_pl_settleDish_202 l1 l2 l3 Kk f (v4 + 1) (sA T 98 (v4 : Int32).toNatClampNeg (-1))))
theorem c_pl_settleDish_202 {X : Nat × (Nat → Int32)} (l1 : Int32) (l2 : Nat) (l3 : Int32) {K : Int32 → St → St} {Kk : Int32 → St → Prop} (hk : ∀ (v4 : Int32) (T : St), Kk v4 T → tR X 1 mX5_settleDish 228 [some (.ref (80 : Nat)), some (.int l1), some (.ref l2), some (.int l3), some (.int v4), none] [] T (rV (K v4 T)).1 ((rV (K v4 T)).2)) : ∀ (f : Nat) (v4 : Int32) (T : St), ok_pl_settleDish_202 l1 l2 l3 Kk f v4 T → tR X 1 mX5_settleDish 202 [some (.ref (80 : Nat)), some (.int l1), some (.ref l2), some (.int l3), some (.int v4), none] [] T (rV (x_pl_settleDish_202 l1 l2 l3 K f v4 T)).1 ((rV (x_pl_settleDish_202 l1 l2 l3 K f v4 T)).2) := by
  intro f
  induction f with
  | zero => intro v4 T kk; exact kk.elim
  | succ f ih =>
    intro v4 T kk
    rw [ok_pl_settleDish_202] at kk
    rw [x_pl_settleDish_202]
    refine r_p (pc2 := 204) dX5_settleDish_202 rfl rfl ?_
    refine r_p (pc2 := 205) dX5_settleDish_204 rfl rfl ?_
    refine r_cb (x := 12) dX5_settleDish_205 rfl ?_
    refine r_p (pc2 := 208) dX5_settleDish_207 rfl rfl ?_
    refine r_cb (x := 8) dX5_settleDish_208 rfl ?_
    refine r_p (pc2 := 211) dX5_settleDish_210 rfl rfl ?_
    refine r_cge dX5_settleDish_211 rfl (fun c211_7 => ?_) (fun c211_7 => ?_)
    · refine r_ip (R := rV) c211_7 ?_
      have kk := kk.1 c211_7
      show tR _ _ _ _ [some (.ref (80 : Nat)), some (.int l1), some (.ref l2), some (.int l3), some (.int v4), none] _ _ _ _
      exact (hk v4 T kk)
    · refine r_in (R := rV) c211_7 ?_
      have kk := kk.2 c211_7
      refine r_p (pc2 := 215) dX5_settleDish_214 rfl rfl ?_
      refine r_get dX5_settleDish_215 fkX5_47 rfl rfl ?_
      refine r_p (pc2 := 220) dX5_settleDish_218 rfl rfl ?_
      refine r_ci (x := -1) dX5_settleDish_220 rfl ?_
      obtain ⟨q15, kk⟩ := kk
      refine r_ias dX5_settleDish_221 rfl q15 ?_
      refine r_inc (L2 := [some (.ref (80 : Nat)), some (.int l1), some (.ref l2), some (.int l3), some (.int (v4 + 1)), none]) (y := 1) dX5_settleDish_222 rfl rfl rfl ?_
      refine r_go dX5_settleDish_225 rfl ?_
      show tR _ _ _ _ [some (.ref (80 : Nat)), some (.int l1), some (.ref l2), some (.int l3), some (.int (v4 + 1)), none] _ _ _ _
      exact (ih (v4 + 1) (sA T 98 (v4 : Int32).toNatClampNeg (-1)) kk)
def x_pl_settleDish (T : St) (p0 : Int32) : St := jn (fun (r1 : Nat) => x_pl_settleDish_30 p0 r1 (p0 * 12) (fun (w2_4 : Int32) (T202 : St) => x_pl_settleDish_125 p0 r1 (p0 * 12) (fun (w4_4 : Int32) (T204 : St) => x_pl_settleDish_202 p0 r1 (p0 * 12) (fun (w5_4 : Int32) (T205 : St) => T205) 1000 ((p0 * 12) * 8) T204) 1000 (p0 * 12) T202) 1000 (p0 * 12) (sA (x_fillJ T r1 (-1)) 83 (p0 : Int32).toNatClampNeg 1000000)) (85 + (p0 : Int32).toNatClampNeg)
def ok_pl_settleDish (T : St) (p0 : Int32) : Prop := (vp_in p0 8) ∧ jn (fun (r1 : Nat) => (ok_fillJ T r1 (-1)) ∧ ok_pl_settleDish_30 p0 r1 (p0 * 12) (fun (w2_4 : Int32) (T202 : St) => ok_pl_settleDish_125 p0 r1 (p0 * 12) (fun (w4_4 : Int32) (T204 : St) => ok_pl_settleDish_202 p0 r1 (p0 * 12) (fun (w5_4 : Int32) (T205 : St) => True) 1000 ((p0 * 12) * 8) T204) 1000 (p0 * 12) T202) 1000 (p0 * 12) (sA (x_fillJ T r1 (-1)) 83 (p0 : Int32).toNatClampNeg 1000000)) (85 + (p0 : Int32).toNatClampNeg)
theorem c_pl_settleDish {X : Nat × (Nat → Int32)} {T : St} (p0 : Int32) (kk : ok_pl_settleDish T p0) : tC X 2 mX5_settleDish [.ref (80 : Nat), .int p0] T none (x_pl_settleDish T p0) := by
  unfold ok_pl_settleDish at kk
  refine tC_orV (L := [some (.ref (80 : Nat)), some (.int p0), none, none, none, none]) (x_pl_settleDish T p0) rfl ?_
  unfold x_pl_settleDish
  refine r_p (pc2 := 1) dX5_settleDish_0 rfl rfl ?_
  refine r_get dX5_settleDish_1 fkX5_26 rfl rfl ?_
  refine r_p (pc2 := 5) dX5_settleDish_4 rfl rfl ?_
  obtain ⟨q1, kk⟩ := kk
  refine r_aa dX5_settleDish_5 rfl (by decide) q1 (rf84 q1) ?_
  refine r_nR (R := rV) rfl kk (fun r1 kk => ?_)
  refine r_p (pc2 := 7) (L2 := [some (.ref (80 : Nat)), some (.int p0), some (.ref r1), none, none, none]) dX5_settleDish_6 rfl rfl ?_
  refine r_p (pc2 := 8) dX5_settleDish_7 rfl rfl ?_
  refine r_kl dX5_settleDish_8 klX5_143 ?_
  obtain ⟨q2, kk⟩ := kk
  refine r_cs (d1 := 1) dX5_settleDish_11 csX5_145 rfl rfl (Nat.le_of_ble_eq_true rfl) (Nat.le_of_ble_eq_true rfl) (Nat.le_of_ble_eq_true rfl) (c_fillJ r1 (-1) q2) ?_
  refine r_p (pc2 := 15) dX5_settleDish_14 rfl rfl ?_
  refine r_get dX5_settleDish_15 fkX5_21 rfl rfl ?_
  refine r_p (pc2 := 19) dX5_settleDish_18 rfl rfl ?_
  refine r_k dX5_settleDish_19 kkX5_151 ?_
  refine r_ias dX5_settleDish_21 rfl q1 ?_
  refine r_p (pc2 := 23) dX5_settleDish_22 rfl rfl ?_
  refine r_cb (x := 12) dX5_settleDish_23 rfl ?_
  refine r_p (pc2 := 26) dX5_settleDish_25 rfl rfl ?_
  refine r_p (pc2 := 27) (L2 := [some (.ref (80 : Nat)), some (.int p0), some (.ref r1), some (.int (p0 * 12)), none, none]) dX5_settleDish_26 rfl rfl ?_
  refine r_p (pc2 := 28) dX5_settleDish_27 rfl rfl ?_
  refine r_p (pc2 := 30) (L2 := [some (.ref (80 : Nat)), some (.int p0), some (.ref r1), some (.int (p0 * 12)), some (.int (p0 * 12)), none]) dX5_settleDish_28 rfl rfl ?_
  show tR _ _ _ _ [some (.ref (80 : Nat)), some (.int p0), some (.ref r1), some (.int (p0 * 12)), some (.int (p0 * 12)), none] _ _ _ _
  refine (c_pl_settleDish_30 p0 r1 (p0 * 12) (fun w2_4 T202 kk => ?_) 1000 (p0 * 12) (sA (x_fillJ T r1 (-1)) 83 (p0 : Int32).toNatClampNeg 1000000) kk)
  · skip
    refine r_p (pc2 := 123) dX5_settleDish_122 rfl rfl ?_
    refine r_p (pc2 := 125) (L2 := [some (.ref (80 : Nat)), some (.int p0), some (.ref r1), some (.int (p0 * 12)), some (.int (p0 * 12)), none]) dX5_settleDish_123 rfl rfl ?_
    show tR _ _ _ _ [some (.ref (80 : Nat)), some (.int p0), some (.ref r1), some (.int (p0 * 12)), some (.int (p0 * 12)), none] _ _ _ _
    refine (c_pl_settleDish_125 p0 r1 (p0 * 12) (fun w4_4 T204 kk => ?_) 1000 (p0 * 12) T202 kk)
    · skip
      refine r_p (pc2 := 197) dX5_settleDish_196 rfl rfl ?_
      refine r_cb (x := 8) dX5_settleDish_197 rfl ?_
      refine r_p (pc2 := 200) dX5_settleDish_199 rfl rfl ?_
      refine r_p (pc2 := 202) (L2 := [some (.ref (80 : Nat)), some (.int p0), some (.ref r1), some (.int (p0 * 12)), some (.int ((p0 * 12) * 8)), none]) dX5_settleDish_200 rfl rfl ?_
      show tR _ _ _ _ [some (.ref (80 : Nat)), some (.int p0), some (.ref r1), some (.int (p0 * 12)), some (.int ((p0 * 12) * 8)), none] _ _ _ _
      refine (c_pl_settleDish_202 p0 r1 (p0 * 12) (fun w5_4 T205 kk => ?_) 1000 ((p0 * 12) * 8) T204 kk)
      · skip
        exact r_qV dX5_settleDish_228 rfl rfl
