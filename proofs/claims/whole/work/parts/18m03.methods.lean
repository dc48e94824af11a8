def x_pl_choicesThatCan_4 (T : St) (l1 : Int32) (K : Int32 → Int32 → Int32) : Nat → Int32 → Int32 → Int32
  | 0, _, _ => 0
  | f + 1, v2, v3 => if (T.2.2.1 82 (l1 : Int32).toNatClampNeg) ≤ v3 then (K v2 v3) else (if (T.1 (123 + 4 * ((l1 * 12) + v3 : Int32).toNatClampNeg) 6) = 0 then (x_pl_choicesThatCan_4 T l1 K f v2 (v3 + 1)) else (jn (fun (i1 : Int32) => x_pl_choicesThatCan_4 T l1 K f i1 (v3 + 1)) (v2 ||| (1 <<< (v3 &&& 31)))))
def ok_pl_choicesThatCan_4 (T : St) (l1 : Int32) (Kk : Int32 → Int32 → Prop) : Nat → Int32 → Int32 → Prop
  | 0, _, _ => False
  | f + 1, v2, v3 => (vp_in l1 8) ∧ (((T.2.2.1 82 (l1 : Int32).toNatClampNeg) ≤ v3 → Kk v2 v3) ∧ (¬ (T.2.2.1 82 (l1 : Int32).toNatClampNeg) ≤ v3 → (vp_in ((l1 * 12) + v3) 96) ∧ (((T.1 (123 + 4 * ((l1 * 12) + v3 : Int32).toNatClampNeg) 6) = 0 → ok_pl_choicesThatCan_4 T l1 Kk f v2 (v3 + 1)) ∧ (¬ (T.1 (123 + 4 * ((l1 * 12) + v3 : Int32).toNatClampNeg) 6) = 0 → jn (fun (i1 : Int32) => ok_pl_choicesThatCan_4 T l1 Kk f i1 (v3 + 1)) (v2 ||| (1 <<< (v3 &&& 31)))))))
theorem c_pl_choicesThatCan_4 {X : Nat × (Nat → Int32)} (T : St) (l1 : Int32) {K : Int32 → Int32 → Int32} {Kk : Int32 → Int32 → Prop} (hk : ∀ (v2 : Int32) (v3 : Int32), Kk v2 v3 → tR X 0 mX5_choicesThatCan 43 [some (.ref (80 : Nat)), some (.int l1), some (.int v2), some (.int v3)] [] T ((rIp T) (K v2 v3)).1 (((rIp T) (K v2 v3)).2)) : ∀ (f : Nat) (v2 : Int32) (v3 : Int32), ok_pl_choicesThatCan_4 T l1 Kk f v2 v3 → tR X 0 mX5_choicesThatCan 4 [some (.ref (80 : Nat)), some (.int l1), some (.int v2), some (.int v3)] [] T ((rIp T) (x_pl_choicesThatCan_4 T l1 K f v2 v3)).1 (((rIp T) (x_pl_choicesThatCan_4 T l1 K f v2 v3)).2) := by
  intro f
  induction f with
  | zero => intro v2 v3 kk; exact kk.elim
  | succ f ih =>
    intro v2 v3 kk
    rw [ok_pl_choicesThatCan_4] at kk
    rw [x_pl_choicesThatCan_4]
    refine r_p (pc2 := 5) dX5_choicesThatCan_4 rfl rfl ?_
    refine r_p (pc2 := 6) dX5_choicesThatCan_5 rfl rfl ?_
    refine r_get dX5_choicesThatCan_6 fkX5_17 rfl rfl ?_
    refine r_p (pc2 := 10) dX5_choicesThatCan_9 rfl rfl ?_
    obtain ⟨q1, kk⟩ := kk
    refine r_ia dX5_choicesThatCan_10 rfl q1 ?_
    refine r_cge dX5_choicesThatCan_11 rfl (fun c11_1 => ?_) (fun c11_1 => ?_)
    · refine r_ip (R := (rIp T)) c11_1 ?_
      have kk := kk.1 c11_1
      show tR _ _ _ _ [some (.ref (80 : Nat)), some (.int l1), some (.int v2), some (.int v3)] _ _ _ _
      exact (hk v2 v3  kk)
    · refine r_in (R := (rIp T)) c11_1 ?_
      have kk := kk.2 c11_1
      refine r_p (pc2 := 15) dX5_choicesThatCan_14 rfl rfl ?_
      refine r_get dX5_choicesThatCan_15 fkX5_11 rfl rfl ?_
      refine r_p (pc2 := 19) dX5_choicesThatCan_18 rfl rfl ?_
      refine r_cb (x := 12) dX5_choicesThatCan_19 rfl ?_
      refine r_p (pc2 := 22) dX5_choicesThatCan_21 rfl rfl ?_
      refine r_p (pc2 := 23) dX5_choicesThatCan_22 rfl rfl ?_
      refine r_p (pc2 := 24) dX5_choicesThatCan_23 rfl rfl ?_
      obtain ⟨q2, kk⟩ := kk
      refine r_aa dX5_choicesThatCan_24 rfl (by decide) q2 (rf81 q2) ?_
      refine r_get dX5_choicesThatCan_25 fkX5_106 (shr81 q2) rfl ?_
      refine r_ieq dX5_choicesThatCan_28 rfl (fun c28_2 => ?_) (fun c28_2 => ?_)
      · refine r_ip (R := (rIp T)) c28_2 ?_
        have kk := kk.1 c28_2
        refine r_inc (L2 := [some (.ref (80 : Nat)), some (.int l1), some (.int v2), some (.int (v3 + 1))]) (y := 1) dX5_choicesThatCan_37 rfl rfl rfl ?_
        refine r_go dX5_choicesThatCan_40 rfl ?_
        show tR _ _ _ _ [some (.ref (80 : Nat)), some (.int l1), some (.int v2), some (.int (v3 + 1))] _ _ _ _
        exact (ih v2 (v3 + 1)  kk)
      · refine r_in (R := (rIp T)) c28_2 ?_
        have kk := kk.2 c28_2
        refine r_p (pc2 := 32) dX5_choicesThatCan_31 rfl rfl ?_
        refine r_ci (x := 1) dX5_choicesThatCan_32 rfl ?_
        refine r_p (pc2 := 34) dX5_choicesThatCan_33 rfl rfl ?_
        refine r_p (pc2 := 35) dX5_choicesThatCan_34 rfl rfl ?_
        refine r_p (pc2 := 36) dX5_choicesThatCan_35 rfl rfl ?_
        refine r_nI (R := (rIp T)) rfl kk (fun i1 kk => ?_)
        refine r_p (pc2 := 37) (L2 := [some (.ref (80 : Nat)), some (.int l1), some (.int i1), some (.int v3)]) dX5_choicesThatCan_36 rfl rfl ?_
        refine r_inc (L2 := [some (.ref (80 : Nat)), some (.int l1), some (.int i1), some (.int (v3 + 1))]) (y := 1) dX5_choicesThatCan_37 rfl rfl rfl ?_
        refine r_go dX5_choicesThatCan_40 rfl ?_
        show tR _ _ _ _ [some (.ref (80 : Nat)), some (.int l1), some (.int i1), some (.int (v3 + 1))] _ _ _ _
        exact (ih i1 (v3 + 1)  kk)
def x_pl_choicesThatCan (T : St) (p0 : Int32) : Int32 := x_pl_choicesThatCan_4 T p0 (fun (w1_2 : Int32) (w1_3 : Int32) => w1_2) 1000 0 0
def ok_pl_choicesThatCan (T : St) (p0 : Int32) : Prop := ok_pl_choicesThatCan_4 T p0 (fun (w1_2 : Int32) (w1_3 : Int32) => True) 1000 0 0
theorem c_pl_choicesThatCan {X : Nat × (Nat → Int32)} {T : St} (p0 : Int32) (kk : ok_pl_choicesThatCan T p0) : tC X 1 mX5_choicesThatCan [.ref (80 : Nat), .int p0] T (some (.int (x_pl_choicesThatCan T p0))) T := by
  unfold ok_pl_choicesThatCan at kk
  refine tC_orIp (L := [some (.ref (80 : Nat)), some (.int p0), none, none]) (x_pl_choicesThatCan T p0) rfl ?_
  unfold x_pl_choicesThatCan
  refine r_ci (x := 0) dX5_choicesThatCan_0 rfl ?_
  refine r_p (pc2 := 2) (L2 := [some (.ref (80 : Nat)), some (.int p0), some (.int 0), none]) dX5_choicesThatCan_1 rfl rfl ?_
  refine r_ci (x := 0) dX5_choicesThatCan_2 rfl ?_
  refine r_p (pc2 := 4) (L2 := [some (.ref (80 : Nat)), some (.int p0), some (.int 0), some (.int 0)]) dX5_choicesThatCan_3 rfl rfl ?_
  show tR _ _ _ _ [some (.ref (80 : Nat)), some (.int p0), some (.int 0), some (.int 0)] _ _ _ _
  refine (c_pl_choicesThatCan_4 T p0 (fun w1_2 w1_3 kk => ?_) 1000 0 0  kk)
  · skip
    refine r_p (pc2 := 44) dX5_choicesThatCan_43 rfl rfl ?_
    exact r_qIp dX5_choicesThatCan_44 rfl rfl rfl
def x_pl_collide_2 (T : St) (l1 : Nat) (l2 : Nat) (K : Int32 → Int32) : Nat → Int32 → Int32
  | 0, _ => 0
  | f + 1, v3 => if 5 ≤ v3 then (K v3) else (if (lg_cmp (((T.2.2.2 l1 (v3 : Int32).toNatClampNeg) &&& (T.2.2.2 l2 (v3 : Int32).toNatClampNeg)) &&& (x_ki_fewerThan T (T.2.1 3) v3 2)) 0) = 0 then (x_pl_collide_2 T l1 l2 K f (v3 + 1)) else (1))
def ok_pl_collide_2 (T : St) (l1 : Nat) (l2 : Nat) (Kk : Int32 → Prop) : Nat → Int32 → Prop
  | 0, _ => False
  | f + 1, v3 => ((5 ≤ v3 → Kk v3) ∧ (¬ 5 ≤ v3 → (sh l1 = .inl (1, 5)) ∧ (vp_in v3 5) ∧ (sh l2 = .inl (1, 5)) ∧ (ok_ki_fewerThan T (T.2.1 3) v3 2) ∧ (sh (T.2.1 3) = .inr 3) ∧ ((lg_cmp (((T.2.2.2 l1 (v3 : Int32).toNatClampNeg) &&& (T.2.2.2 l2 (v3 : Int32).toNatClampNeg)) &&& (x_ki_fewerThan T (T.2.1 3) v3 2)) 0) = 0 → ok_pl_collide_2 T l1 l2 Kk f (v3 + 1))))
theorem c_pl_collide_2 {X : Nat × (Nat → Int32)} (T : St) (l1 : Nat) (l2 : Nat) {K : Int32 → Int32} {Kk : Int32 → Prop} (hk : ∀ (v3 : Int32), Kk v3 → tR X 1 mX5_collide 37 [some (.ref (80 : Nat)), some (.ref l1), some (.ref l2), some (.int v3)] [] T ((rIp T) (K v3)).1 (((rIp T) (K v3)).2)) : ∀ (f : Nat) (v3 : Int32), ok_pl_collide_2 T l1 l2 Kk f v3 → tR X 1 mX5_collide 2 [some (.ref (80 : Nat)), some (.ref l1), some (.ref l2), some (.int v3)] [] T ((rIp T) (x_pl_collide_2 T l1 l2 K f v3)).1 (((rIp T) (x_pl_collide_2 T l1 l2 K f v3)).2) := by
  intro f
  induction f with
  | zero => intro v3 kk; exact kk.elim
  | succ f ih =>
    intro v3 kk
    rw [ok_pl_collide_2] at kk
    rw [x_pl_collide_2]
    refine r_p (pc2 := 3) dX5_collide_2 rfl rfl ?_
    refine r_ci (x := 5) dX5_collide_3 rfl ?_
    refine r_cge dX5_collide_4 rfl (fun c4_1 => ?_) (fun c4_1 => ?_)
    · refine r_ip (R := (rIp T)) c4_1 ?_
      have kk := kk.1 c4_1
      show tR _ _ _ _ [some (.ref (80 : Nat)), some (.ref l1), some (.ref l2), some (.int v3)] _ _ _ _
      exact (hk v3  kk)
    · refine r_in (R := (rIp T)) c4_1 ?_
      have kk := kk.2 c4_1
      refine r_p (pc2 := 8) dX5_collide_7 rfl rfl ?_
      refine r_p (pc2 := 9) dX5_collide_8 rfl rfl ?_
      obtain ⟨q1, kk⟩ := kk
      obtain ⟨q2, kk⟩ := kk
      refine r_la dX5_collide_9 q1 q2 ?_
      refine r_p (pc2 := 11) dX5_collide_10 rfl rfl ?_
      refine r_p (pc2 := 12) dX5_collide_11 rfl rfl ?_
      obtain ⟨q3, kk⟩ := kk
      refine r_la dX5_collide_12 q3 q2 ?_
      refine r_p (pc2 := 14) dX5_collide_13 rfl rfl ?_
      refine r_p (pc2 := 15) dX5_collide_14 rfl rfl ?_
      refine r_get dX5_collide_15 fkX5_69 rfl rfl ?_
      refine r_p (pc2 := 19) dX5_collide_18 rfl rfl ?_
      refine r_ci (x := 2) dX5_collide_19 rfl ?_
      obtain ⟨q4, kk⟩ := kk
      obtain ⟨q5, kk⟩ := kk
      refine r_cv (d1 := 1) dX5_collide_20 cvX5_201 rfl rfl q5 rfl (Nat.le_of_ble_eq_true rfl) (Nat.le_of_ble_eq_true rfl) (Nat.le_of_ble_eq_true rfl) (c_ki_fewerThan (T.2.1 3) v3 2 q4) ?_
      refine r_p (pc2 := 24) dX5_collide_23 rfl rfl ?_
      refine r_cl (x := 0) dX5_collide_24 rfl ?_
      refine r_p (pc2 := 26) dX5_collide_25 rfl rfl ?_
      refine r_ieq dX5_collide_26 rfl (fun c26_2 => ?_) (fun c26_2 => ?_)
      · refine r_ip (R := (rIp T)) c26_2 ?_
        have kk := kk c26_2
        refine r_inc (L2 := [some (.ref (80 : Nat)), some (.ref l1), some (.ref l2), some (.int (v3 + 1))]) (y := 1) dX5_collide_31 rfl rfl rfl ?_
        refine r_go dX5_collide_34 rfl ?_
        show tR _ _ _ _ [some (.ref (80 : Nat)), some (.ref l1), some (.ref l2), some (.int (v3 + 1))] _ _ _ _
        exact (ih (v3 + 1)  kk)
      · refine r_in (R := (rIp T)) c26_2 ?_
        refine r_ci (x := 1) dX5_collide_29 rfl ?_
        exact r_qIp dX5_collide_30 rfl rfl rfl
def x_pl_collide (T : St) (p0 : Nat) (p1 : Nat) : Int32 := x_pl_collide_2 T p0 p1 (fun (w1_3 : Int32) => 0) 1000 0
def ok_pl_collide (T : St) (p0 : Nat) (p1 : Nat) : Prop := ok_pl_collide_2 T p0 p1 (fun (w1_3 : Int32) => True) 1000 0
theorem c_pl_collide {X : Nat × (Nat → Int32)} {T : St} (p0 : Nat) (p1 : Nat) (kk : ok_pl_collide T p0 p1) : tC X 2 mX5_collide [.ref (80 : Nat), .ref p0, .ref p1] T (some (.int (x_pl_collide T p0 p1))) T := by
  unfold ok_pl_collide at kk
  refine tC_orIp (L := [some (.ref (80 : Nat)), some (.ref p0), some (.ref p1), none]) (x_pl_collide T p0 p1) rfl ?_
  unfold x_pl_collide
  refine r_ci (x := 0) dX5_collide_0 rfl ?_
  refine r_p (pc2 := 2) (L2 := [some (.ref (80 : Nat)), some (.ref p0), some (.ref p1), some (.int 0)]) dX5_collide_1 rfl rfl ?_
  show tR _ _ _ _ [some (.ref (80 : Nat)), some (.ref p0), some (.ref p1), some (.int 0)] _ _ _ _
  refine (c_pl_collide_2 T p0 p1 (fun w1_3 kk => ?_) 1000 0  kk)
  · skip
    refine r_ci (x := 0) dX5_collide_37 rfl ?_
    exact r_qIp dX5_collide_38 rfl rfl rfl
def x_pl_keepPicked (T : St) (p0 : Int32) : St := jn (fun (KJ1 : Int32 → St) => if ((sF T 80 17 p0).1 80 14) = 0 then (KJ1 p0) else (KJ1 0)) (fun (j1_s1 : Int32) => sAr (sF (sF T 80 17 p0) 80 13 j1_s1) 96 (va_cpy ((sF (sF T 80 17 p0) 80 13 j1_s1).2.2.1 95) ((sF (sF T 80 17 p0) 80 13 j1_s1).2.2.1 96) (0 : Int32).toNatClampNeg (0 : Int32).toNatClampNeg ((sF (sF T 80 17 p0) 80 13 j1_s1).1 80 12 : Int32).toNatClampNeg))
def ok_pl_keepPicked (T : St) (p0 : Int32) : Prop := jn (fun (OJ1 : Int32 → Prop) => ((((sF T 80 17 p0).1 80 14) = 0 → OJ1 p0) ∧ (¬ ((sF T 80 17 p0).1 80 14) = 0 → OJ1 0))) (fun (j1_s1 : Int32) => (cpok 0 0 ((sF (sF T 80 17 p0) 80 13 j1_s1).1 80 12) 4 4) ∧ True)
theorem c_pl_keepPicked {X : Nat × (Nat → Int32)} {T : St} (p0 : Int32) (kk : ok_pl_keepPicked T p0) : tC X 1 mX5_keepPicked [.ref (80 : Nat), .int p0] T none (x_pl_keepPicked T p0) := by
  unfold ok_pl_keepPicked at kk
  refine tC_orV (L := [some (.ref (80 : Nat)), some (.int p0)]) (x_pl_keepPicked T p0) rfl ?_
  unfold x_pl_keepPicked
  refine r_p (pc2 := 1) dX5_keepPicked_0 rfl rfl ?_
  refine r_p (pc2 := 2) dX5_keepPicked_1 rfl rfl ?_
  refine r_put dX5_keepPicked_2 fkX5_164 rfl rfl rfl (Nat.le_of_ble_eq_true rfl) rfl rfl ?_
  refine r_p (pc2 := 6) dX5_keepPicked_5 rfl rfl ?_
  refine r_p (pc2 := 7) dX5_keepPicked_6 rfl rfl ?_
  refine r_get dX5_keepPicked_7 fkX5_157 rfl rfl ?_
  refine r_jn (R := rV) (J := fun (KJ1 : Int32 → St) (OJ1 : Int32 → Prop) => ∀ (j1_s1 : Int32), OJ1 j1_s1 → tR X 0 mX5_keepPicked 18 [some (.ref (80 : Nat)), some (.int p0)] [.int j1_s1, .ref (80 : Nat)] (sF T 80 17 p0) (rV (KJ1 j1_s1)).1 (rV (KJ1 j1_s1)).2) kk (fun j1_s1 kk => ?_) (fun KJ1 OJ1 hJ1 kk => ?_)
  · skip
    refine r_put dX5_keepPicked_18 fkX5_160 rfl rfl rfl (Nat.le_of_ble_eq_true rfl) rfl rfl ?_
    refine r_p (pc2 := 22) dX5_keepPicked_21 rfl rfl ?_
    refine r_get dX5_keepPicked_22 fkX5_38 rfl rfl ?_
    refine r_ci (x := 0) dX5_keepPicked_25 rfl ?_
    refine r_p (pc2 := 27) dX5_keepPicked_26 rfl rfl ?_
    refine r_get dX5_keepPicked_27 fkX5_41 rfl rfl ?_
    refine r_ci (x := 0) dX5_keepPicked_30 rfl ?_
    refine r_p (pc2 := 32) dX5_keepPicked_31 rfl rfl ?_
    refine r_get dX5_keepPicked_32 fkX5_172 rfl rfl ?_
    obtain ⟨q1, kk⟩ := kk
    refine r_cpy dX5_keepPicked_35 cpX5_205 rfl rfl q1.1 q1.2.1 q1.2.2.1 q1.2.2.2.1 q1.2.2.2.2 (Nat.le_of_ble_eq_true rfl) ?_
    exact r_qV dX5_keepPicked_38 rfl rfl
  refine r_ieq dX5_keepPicked_10 rfl (fun c10_2 => ?_) (fun c10_2 => ?_)
  · refine r_ip (R := rV) c10_2 ?_
    have kk := kk.1 c10_2
    refine r_p (pc2 := 18) dX5_keepPicked_17 rfl rfl ?_
    show tR _ _ _ _ [some (.ref (80 : Nat)), some (.int p0)] [.int p0, .ref (80 : Nat)] _ _ _
    exact (hJ1 p0 kk)
  · refine r_in (R := rV) c10_2 ?_
    have kk := kk.2 c10_2
    refine r_ci (x := 0) dX5_keepPicked_13 rfl ?_
    refine r_go dX5_keepPicked_14 rfl ?_
    show tR _ _ _ _ [some (.ref (80 : Nat)), some (.int p0)] [.int 0, .ref (80 : Nat)] _ _ _
    exact (hJ1 0 kk)
def x_pl_tell_2 (l1 : Nat) (K : Int32 → St → St) : Nat → Int32 → St → St
  | 0, _, T => T
  | f + 1, v2, T => if (T.1 l1 0) ≤ v2 then (K v2 T) else (if (T.1 80 12) ≤ v2 then (K v2 T) else (jn (fun (T1 : St) => x_pl_tell_2 l1 K f (v2 + 1) T1) (sA T (l1 + 2) (v2 : Int32).toNatClampNeg ((T.2.2.1 96 (v2 : Int32).toNatClampNeg) - ((T.2.2.1 94 (v2 : Int32).toNatClampNeg) * 12)))))
def ok_pl_tell_2 (l1 : Nat) (Kk : Int32 → St → Prop) : Nat → Int32 → St → Prop
  | 0, _, _ => False
  | f + 1, v2, T => (sh l1 = .inr 7) ∧ (((T.1 l1 0) ≤ v2 → Kk v2 T) ∧ (¬ (T.1 l1 0) ≤ v2 → (((T.1 80 12) ≤ v2 → Kk v2 T) ∧ (¬ (T.1 80 12) ≤ v2 → (vp_in v2 4) ∧ jn (fun (T1 : St) => ok_pl_tell_2 l1 Kk f (v2 + 1) T1) (sA T (l1 + 2) (v2 : Int32).toNatClampNeg ((T.2.2.1 96 (v2 : Int32).toNatClampNeg) - ((T.2.2.1 94 (v2 : Int32).toNatClampNeg) * 12)))))))
theorem c_pl_tell_2 {X : Nat × (Nat → Int32)} (l1 : Nat) {K : Int32 → St → St} {Kk : Int32 → St → Prop} (hk : ∀ (v2 : Int32) (T : St), Kk v2 T → tR X 0 mX5_tell 46 [some (.ref (80 : Nat)), some (.ref l1), some (.int v2), none] [] T (rV (K v2 T)).1 ((rV (K v2 T)).2)) : ∀ (f : Nat) (v2 : Int32) (T : St), ok_pl_tell_2 l1 Kk f v2 T → tR X 0 mX5_tell 2 [some (.ref (80 : Nat)), some (.ref l1), some (.int v2), none] [] T (rV (x_pl_tell_2 l1 K f v2 T)).1 ((rV (x_pl_tell_2 l1 K f v2 T)).2) := by
  intro f
  induction f with
  | zero => intro v2 T kk; exact kk.elim
  | succ f ih =>
    intro v2 T kk
    rw [ok_pl_tell_2] at kk
    rw [x_pl_tell_2]
    refine r_p (pc2 := 3) dX5_tell_2 rfl rfl ?_
    refine r_p (pc2 := 4) dX5_tell_3 rfl rfl ?_
    obtain ⟨q1, kk⟩ := kk
    refine r_get dX5_tell_4 fkX5_211 q1 rfl ?_
    refine r_cge dX5_tell_7 rfl (fun c7_1 => ?_) (fun c7_1 => ?_)
    · refine r_ip (R := rV) c7_1 ?_
      have kk := kk.1 c7_1
      show tR _ _ _ _ [some (.ref (80 : Nat)), some (.ref l1), some (.int v2), none] _ _ _ _
      exact (hk v2 T kk)
    · refine r_in (R := rV) c7_1 ?_
      have kk := kk.2 c7_1
      refine r_p (pc2 := 11) dX5_tell_10 rfl rfl ?_
      refine r_p (pc2 := 12) dX5_tell_11 rfl rfl ?_
      refine r_get dX5_tell_12 fkX5_172 rfl rfl ?_
      refine r_cge dX5_tell_15 rfl (fun c15_2 => ?_) (fun c15_2 => ?_)
      · refine r_ip (R := rV) c15_2 ?_
        have kk := kk.1 c15_2
        show tR _ _ _ _ [some (.ref (80 : Nat)), some (.ref l1), some (.int v2), none] _ _ _ _
        exact (hk v2 T kk)
      · refine r_in (R := rV) c15_2 ?_
        have kk := kk.2 c15_2
        refine r_p (pc2 := 19) dX5_tell_18 rfl rfl ?_
        refine r_get dX5_tell_19 fkX5_212 q1 rfl ?_
        refine r_p (pc2 := 23) dX5_tell_22 rfl rfl ?_
        refine r_p (pc2 := 24) dX5_tell_23 rfl rfl ?_
        refine r_get dX5_tell_24 fkX5_41 rfl rfl ?_
        refine r_p (pc2 := 28) dX5_tell_27 rfl rfl ?_
        obtain ⟨q2, kk⟩ := kk
        refine r_ia dX5_tell_28 rfl q2 ?_
        refine r_p (pc2 := 30) dX5_tell_29 rfl rfl ?_
        refine r_get dX5_tell_30 fkX5_35 rfl rfl ?_
        refine r_p (pc2 := 34) dX5_tell_33 rfl rfl ?_
        refine r_ia dX5_tell_34 rfl q2 ?_
        refine r_cb (x := 12) dX5_tell_35 rfl ?_
        refine r_p (pc2 := 38) dX5_tell_37 rfl rfl ?_
        refine r_p (pc2 := 39) dX5_tell_38 rfl rfl ?_
        refine r_ias dX5_tell_39 (shl7_2 q1) q2 ?_
        refine r_nT (R := rV) rfl kk (fun T1 kk => ?_)
        refine r_inc (L2 := [some (.ref (80 : Nat)), some (.ref l1), some (.int (v2 + 1)), none]) (y := 1) dX5_tell_40 rfl rfl rfl ?_
        refine r_go dX5_tell_43 rfl ?_
        show tR _ _ _ _ [some (.ref (80 : Nat)), some (.ref l1), some (.int (v2 + 1)), none] _ _ _ _
        exact (ih (v2 + 1) T1 kk)
def x_pl_tell_48 (l1 : Nat) (K : Int32 → St → St) : Nat → Int32 → St → St
  | 0, _, T => T
  | f + 1, v2, T => if (T.1 l1 1) ≤ v2 then (K v2 T) else (jn (fun (i2 : Int32) => jn (fun (T3 : St) => x_pl_tell_48 l1 K f (v2 + 1) T3) (sA T (l1 + 5) (v2 : Int32).toNatClampNeg (T.2.2.1 ((123 + 4 * (T.2.2.1 96 (i2 : Int32).toNatClampNeg : Int32).toNatClampNeg) + 1) ((T.2.2.1 (l1 + 3) (v2 : Int32).toNatClampNeg) - (T.2.2.1 ((T.2.1 2) + 8) (T.2.2.1 94 (i2 : Int32).toNatClampNeg : Int32).toNatClampNeg) : Int32).toNatClampNeg))) (T.2.2.1 (l1 + 4) (v2 : Int32).toNatClampNeg))
def ok_pl_tell_48 (l1 : Nat) (Kk : Int32 → St → Prop) : Nat → Int32 → St → Prop
  | 0, _, _ => False
  | f + 1, v2, T => (sh l1 = .inr 7) ∧ (((T.1 l1 1) ≤ v2 → Kk v2 T) ∧ (¬ (T.1 l1 1) ≤ v2 → (vp_in v2 12) ∧ jn (fun (i2 : Int32) => (vp_in i2 4) ∧ (vp_in (T.2.2.1 96 (i2 : Int32).toNatClampNeg) 96) ∧ (sh (T.2.1 2) = .inr 1) ∧ (vp_in (T.2.2.1 94 (i2 : Int32).toNatClampNeg) 8) ∧ (sh ((123 + 4 * (T.2.2.1 96 (i2 : Int32).toNatClampNeg : Int32).toNatClampNeg) + 1) = .inl (0, 3)) ∧ (vp_in ((T.2.2.1 (l1 + 3) (v2 : Int32).toNatClampNeg) - (T.2.2.1 ((T.2.1 2) + 8) (T.2.2.1 94 (i2 : Int32).toNatClampNeg : Int32).toNatClampNeg)) 3) ∧ jn (fun (T3 : St) => ok_pl_tell_48 l1 Kk f (v2 + 1) T3) (sA T (l1 + 5) (v2 : Int32).toNatClampNeg (T.2.2.1 ((123 + 4 * (T.2.2.1 96 (i2 : Int32).toNatClampNeg : Int32).toNatClampNeg) + 1) ((T.2.2.1 (l1 + 3) (v2 : Int32).toNatClampNeg) - (T.2.2.1 ((T.2.1 2) + 8) (T.2.2.1 94 (i2 : Int32).toNatClampNeg : Int32).toNatClampNeg) : Int32).toNatClampNeg))) (T.2.2.1 (l1 + 4) (v2 : Int32).toNatClampNeg)))
theorem c_pl_tell_48 {X : Nat × (Nat → Int32)} (l1 : Nat) {K : Int32 → St → St} {Kk : Int32 → St → Prop} (hk : ∀ (v2 : Int32) (T : St), Kk v2 T → tR X 0 mX5_tell 111 [some (.ref (80 : Nat)), some (.ref l1), some (.int v2), none] [] T (rV (K v2 T)).1 ((rV (K v2 T)).2)) : ∀ (f : Nat) (v2 : Int32) (T : St), ok_pl_tell_48 l1 Kk f v2 T → tR X 0 mX5_tell 48 [some (.ref (80 : Nat)), some (.ref l1), some (.int v2), none] [] T (rV (x_pl_tell_48 l1 K f v2 T)).1 ((rV (x_pl_tell_48 l1 K f v2 T)).2) := by
  intro f
  induction f with
  | zero => intro v2 T kk; exact kk.elim
  | succ f ih =>
    intro v2 T kk
    rw [ok_pl_tell_48] at kk
    rw [x_pl_tell_48]
    refine r_p (pc2 := 49) dX5_tell_48 rfl rfl ?_
    refine r_p (pc2 := 50) dX5_tell_49 rfl rfl ?_
    obtain ⟨q3, kk⟩ := kk
    refine r_get dX5_tell_50 fkX5_118 q3 rfl ?_
    refine r_cge dX5_tell_53 rfl (fun c53_3 => ?_) (fun c53_3 => ?_)
    · refine r_ip (R := rV) c53_3 ?_
      have kk := kk.1 c53_3
      show tR _ _ _ _ [some (.ref (80 : Nat)), some (.ref l1), some (.int v2), none] _ _ _ _
      exact (hk v2 T kk)
    · refine r_in (R := rV) c53_3 ?_
      have kk := kk.2 c53_3
      refine r_p (pc2 := 57) dX5_tell_56 rfl rfl ?_
      refine r_get dX5_tell_57 fkX5_126 q3 rfl ?_
      refine r_p (pc2 := 61) dX5_tell_60 rfl rfl ?_
      obtain ⟨q4, kk⟩ := kk
      refine r_ia dX5_tell_61 (shl7_4 q3) q4 ?_
      refine r_nI (R := rV) rfl kk (fun i2 kk => ?_)
      refine r_p (pc2 := 63) (L2 := [some (.ref (80 : Nat)), some (.ref l1), some (.int v2), some (.int i2)]) dX5_tell_62 rfl rfl ?_
      refine r_p (pc2 := 64) dX5_tell_63 rfl rfl ?_
      refine r_get dX5_tell_64 fkX5_138 q3 rfl ?_
      refine r_p (pc2 := 68) dX5_tell_67 rfl rfl ?_
      refine r_p (pc2 := 69) dX5_tell_68 rfl rfl ?_
      refine r_get dX5_tell_69 fkX5_11 rfl rfl ?_
      refine r_p (pc2 := 73) dX5_tell_72 rfl rfl ?_
      refine r_get dX5_tell_73 fkX5_41 rfl rfl ?_
      refine r_p (pc2 := 77) dX5_tell_76 rfl rfl ?_
      obtain ⟨q5, kk⟩ := kk
      refine r_ia dX5_tell_77 rfl q5 ?_
      obtain ⟨q6, kk⟩ := kk
      refine r_aa dX5_tell_78 rfl (by decide) q6 (rf81 q6) ?_
      refine r_get dX5_tell_79 fkX5_135 (shr81 q6) rfl ?_
      refine r_p (pc2 := 83) dX5_tell_82 rfl rfl ?_
      refine r_get dX5_tell_83 fkX5_129 q3 rfl ?_
      refine r_p (pc2 := 87) dX5_tell_86 rfl rfl ?_
      refine r_ia dX5_tell_87 (shl7_3 q3) q4 ?_
      refine r_p (pc2 := 89) dX5_tell_88 rfl rfl ?_
      refine r_get dX5_tell_89 fkX5_62 rfl rfl ?_
      obtain ⟨q7, kk⟩ := kk
      refine r_get dX5_tell_92 fkX5_132 q7 rfl ?_
      refine r_p (pc2 := 96) dX5_tell_95 rfl rfl ?_
      refine r_get dX5_tell_96 fkX5_35 rfl rfl ?_
      refine r_p (pc2 := 100) dX5_tell_99 rfl rfl ?_
      refine r_ia dX5_tell_100 rfl q5 ?_
      obtain ⟨q8, kk⟩ := kk
      refine r_ia dX5_tell_101 (shl1_8 q7) q8 ?_
      refine r_p (pc2 := 103) dX5_tell_102 rfl rfl ?_
      obtain ⟨q9, kk⟩ := kk
      obtain ⟨q10, kk⟩ := kk
      refine r_ia dX5_tell_103 q9 q10 ?_
      refine r_ias dX5_tell_104 (shl7_5 q3) q4 ?_
      refine r_nT (R := rV) rfl kk (fun T3 kk => ?_)
      refine r_inc (L2 := [some (.ref (80 : Nat)), some (.ref l1), some (.int (v2 + 1)), some (.int i2)]) (y := 1) dX5_tell_105 rfl rfl rfl ?_
      refine r_go dX5_tell_108 rfl ?_
      show tR _ _ _ _ [some (.ref (80 : Nat)), some (.ref l1), some (.int (v2 + 1)), some (.int i2)] _ _ _ _
      exact r_le (le_s (le_s (le_s (le_n (le_0))))) (ih (v2 + 1) T3 kk)
def x_pl_tell (T : St) (p0 : Nat) : St := x_pl_tell_2 p0 (fun (w1_2 : Int32) (T201 : St) => x_pl_tell_48 p0 (fun (w2_2 : Int32) (T202 : St) => T202) 1000 0 T201) 1000 0 T
def ok_pl_tell (T : St) (p0 : Nat) : Prop := ok_pl_tell_2 p0 (fun (w1_2 : Int32) (T201 : St) => ok_pl_tell_48 p0 (fun (w2_2 : Int32) (T202 : St) => True) 1000 0 T201) 1000 0 T
theorem c_pl_tell {X : Nat × (Nat → Int32)} {T : St} (p0 : Nat) (kk : ok_pl_tell T p0) : tC X 1 mX5_tell [.ref (80 : Nat), .ref p0] T none (x_pl_tell T p0) := by
  unfold ok_pl_tell at kk
  refine tC_orV (L := [some (.ref (80 : Nat)), some (.ref p0), none, none]) (x_pl_tell T p0) rfl ?_
  unfold x_pl_tell
  refine r_ci (x := 0) dX5_tell_0 rfl ?_
  refine r_p (pc2 := 2) (L2 := [some (.ref (80 : Nat)), some (.ref p0), some (.int 0), none]) dX5_tell_1 rfl rfl ?_
  show tR _ _ _ _ [some (.ref (80 : Nat)), some (.ref p0), some (.int 0), none] _ _ _ _
  refine (c_pl_tell_2 p0 (fun w1_2 T201 kk => ?_) 1000 0 T kk)
  · skip
    refine r_ci (x := 0) dX5_tell_46 rfl ?_
    refine r_p (pc2 := 48) (L2 := [some (.ref (80 : Nat)), some (.ref p0), some (.int 0), none]) dX5_tell_47 rfl rfl ?_
    show tR _ _ _ _ [some (.ref (80 : Nat)), some (.ref p0), some (.int 0), none] _ _ _ _
    refine (c_pl_tell_48 p0 (fun w2_2 T202 kk => ?_) 1000 0 T201 kk)
    · skip
      exact r_qV dX5_tell_111 rfl rfl
def x_pl_isBuilt_2 (T : St) (l1 : Int32) (K : Int32 → Int32) : Nat → Int32 → Int32
  | 0, _ => 0
  | f + 1, v2 => if (T.1 (T.2.1 2) 4) ≤ v2 then (K v2) else (jn (fun (i1 : Int32) => if i1 = l1 then (x_pl_isBuilt_2 T l1 K f (v2 + 1)) else (if i1 = 0 then (x_pl_isBuilt_2 T l1 K f (v2 + 1)) else (if (T.2.2.1 105 (i1 : Int32).toNatClampNeg) = 0 then (0) else (x_pl_isBuilt_2 T l1 K f (v2 + 1))))) (l1 &&& ((1 <<< (v2 &&& 31)) ^^^ (-1))))
def ok_pl_isBuilt_2 (T : St) (l1 : Int32) (Kk : Int32 → Prop) : Nat → Int32 → Prop
  | 0, _ => False
  | f + 1, v2 => (sh (T.2.1 2) = .inr 1) ∧ (((T.1 (T.2.1 2) 4) ≤ v2 → Kk v2) ∧ (¬ (T.1 (T.2.1 2) 4) ≤ v2 → jn (fun (i1 : Int32) => ((i1 = l1 → ok_pl_isBuilt_2 T l1 Kk f (v2 + 1)) ∧ (¬ i1 = l1 → ((i1 = 0 → ok_pl_isBuilt_2 T l1 Kk f (v2 + 1)) ∧ (¬ i1 = 0 → (vp_in i1 256) ∧ (¬ (T.2.2.1 105 (i1 : Int32).toNatClampNeg) = 0 → ok_pl_isBuilt_2 T l1 Kk f (v2 + 1))))))) (l1 &&& ((1 <<< (v2 &&& 31)) ^^^ (-1)))))
theorem c_pl_isBuilt_2 {X : Nat × (Nat → Int32)} (T : St) (l1 : Int32) {K : Int32 → Int32} {Kk : Int32 → Prop} (hk : ∀ (v2 : Int32), Kk v2 → tR X 0 mX5_isBuilt 47 [some (.ref (80 : Nat)), some (.int l1), some (.int v2), none] [] T ((rIp T) (K v2)).1 (((rIp T) (K v2)).2)) : ∀ (f : Nat) (v2 : Int32), ok_pl_isBuilt_2 T l1 Kk f v2 → tR X 0 mX5_isBuilt 2 [some (.ref (80 : Nat)), some (.int l1), some (.int v2), none] [] T ((rIp T) (x_pl_isBuilt_2 T l1 K f v2)).1 (((rIp T) (x_pl_isBuilt_2 T l1 K f v2)).2) := by
  intro f
  induction f with
  | zero => intro v2 kk; exact kk.elim
  | succ f ih =>
    intro v2 kk
    rw [ok_pl_isBuilt_2] at kk
    rw [x_pl_isBuilt_2]
    refine r_p (pc2 := 3) dX5_isBuilt_2 rfl rfl ?_
    refine r_p (pc2 := 4) dX5_isBuilt_3 rfl rfl ?_
    refine r_get dX5_isBuilt_4 fkX5_62 rfl rfl ?_
    obtain ⟨q1, kk⟩ := kk
    refine r_get dX5_isBuilt_7 fkX5_78 q1 rfl ?_
    refine r_cge dX5_isBuilt_10 rfl (fun c10_1 => ?_) (fun c10_1 => ?_)
    · refine r_ip (R := (rIp T)) c10_1 ?_
      have kk := kk.1 c10_1
      show tR _ _ _ _ [some (.ref (80 : Nat)), some (.int l1), some (.int v2), none] _ _ _ _
      exact (hk v2  kk)
    · refine r_in (R := (rIp T)) c10_1 ?_
      have kk := kk.2 c10_1
      refine r_p (pc2 := 14) dX5_isBuilt_13 rfl rfl ?_
      refine r_ci (x := 1) dX5_isBuilt_14 rfl ?_
      refine r_p (pc2 := 16) dX5_isBuilt_15 rfl rfl ?_
      refine r_p (pc2 := 17) dX5_isBuilt_16 rfl rfl ?_
      refine r_ci (x := -1) dX5_isBuilt_17 rfl ?_
      refine r_p (pc2 := 19) dX5_isBuilt_18 rfl rfl ?_
      refine r_p (pc2 := 20) dX5_isBuilt_19 rfl rfl ?_
      refine r_nI (R := (rIp T)) rfl kk (fun i1 kk => ?_)
      refine r_p (pc2 := 21) (L2 := [some (.ref (80 : Nat)), some (.int l1), some (.int v2), some (.int i1)]) dX5_isBuilt_20 rfl rfl ?_
      refine r_p (pc2 := 22) dX5_isBuilt_21 rfl rfl ?_
      refine r_p (pc2 := 23) dX5_isBuilt_22 rfl rfl ?_
      refine r_ceq dX5_isBuilt_23 rfl (fun c23_2 => ?_) (fun c23_2 => ?_)
      · refine r_ip (R := (rIp T)) c23_2 ?_
        have kk := kk.1 c23_2
        refine r_inc (L2 := [some (.ref (80 : Nat)), some (.int l1), some (.int (v2 + 1)), some (.int i1)]) (y := 1) dX5_isBuilt_41 rfl rfl rfl ?_
        refine r_go dX5_isBuilt_44 rfl ?_
        show tR _ _ _ _ [some (.ref (80 : Nat)), some (.int l1), some (.int (v2 + 1)), some (.int i1)] _ _ _ _
        exact r_le (le_s (le_s (le_s (le_n (le_0))))) (ih (v2 + 1)  kk)
      · refine r_in (R := (rIp T)) c23_2 ?_
        have kk := kk.2 c23_2
        refine r_p (pc2 := 27) dX5_isBuilt_26 rfl rfl ?_
        refine r_ieq dX5_isBuilt_27 rfl (fun c27_3 => ?_) (fun c27_3 => ?_)
        · refine r_ip (R := (rIp T)) c27_3 ?_
          have kk := kk.1 c27_3
          refine r_inc (L2 := [some (.ref (80 : Nat)), some (.int l1), some (.int (v2 + 1)), some (.int i1)]) (y := 1) dX5_isBuilt_41 rfl rfl rfl ?_
          refine r_go dX5_isBuilt_44 rfl ?_
          show tR _ _ _ _ [some (.ref (80 : Nat)), some (.int l1), some (.int (v2 + 1)), some (.int i1)] _ _ _ _
          exact r_le (le_s (le_s (le_s (le_n (le_0))))) (ih (v2 + 1)  kk)
        · refine r_in (R := (rIp T)) c27_3 ?_
          have kk := kk.2 c27_3
          refine r_p (pc2 := 31) dX5_isBuilt_30 rfl rfl ?_
          refine r_get dX5_isBuilt_31 fkX5_55 rfl rfl ?_
          refine r_p (pc2 := 35) dX5_isBuilt_34 rfl rfl ?_
          obtain ⟨q2, kk⟩ := kk
          refine r_za dX5_isBuilt_35 rfl q2 ?_
          refine r_ine dX5_isBuilt_36 rfl (fun c36_4 => ?_) (fun c36_4 => ?_)
          · refine r_in (R := (rIp T)) c36_4 ?_
            have kk := kk c36_4
            refine r_inc (L2 := [some (.ref (80 : Nat)), some (.int l1), some (.int (v2 + 1)), some (.int i1)]) (y := 1) dX5_isBuilt_41 rfl rfl rfl ?_
            refine r_go dX5_isBuilt_44 rfl ?_
            show tR _ _ _ _ [some (.ref (80 : Nat)), some (.int l1), some (.int (v2 + 1)), some (.int i1)] _ _ _ _
            exact r_le (le_s (le_s (le_s (le_n (le_0))))) (ih (v2 + 1)  kk)
          · refine r_ip (R := (rIp T)) c36_4 ?_
            refine r_ci (x := 0) dX5_isBuilt_39 rfl ?_
            exact r_qIp dX5_isBuilt_40 rfl rfl rfl
def x_pl_isBuilt (T : St) (p0 : Int32) : Int32 := x_pl_isBuilt_2 T p0 (fun (w1_2 : Int32) => 1) 1000 0
def ok_pl_isBuilt (T : St) (p0 : Int32) : Prop := ok_pl_isBuilt_2 T p0 (fun (w1_2 : Int32) => True) 1000 0
theorem c_pl_isBuilt {X : Nat × (Nat → Int32)} {T : St} (p0 : Int32) (kk : ok_pl_isBuilt T p0) : tC X 1 mX5_isBuilt [.ref (80 : Nat), .int p0] T (some (.int (x_pl_isBuilt T p0))) T := by
  unfold ok_pl_isBuilt at kk
  refine tC_orIp (L := [some (.ref (80 : Nat)), some (.int p0), none, none]) (x_pl_isBuilt T p0) rfl ?_
  unfold x_pl_isBuilt
  refine r_ci (x := 0) dX5_isBuilt_0 rfl ?_
  refine r_p (pc2 := 2) (L2 := [some (.ref (80 : Nat)), some (.int p0), some (.int 0), none]) dX5_isBuilt_1 rfl rfl ?_
  show tR _ _ _ _ [some (.ref (80 : Nat)), some (.int p0), some (.int 0), none] _ _ _ _
  refine (c_pl_isBuilt_2 T p0 (fun w1_2 kk => ?_) 1000 0  kk)
  · skip
    refine r_ci (x := 1) dX5_isBuilt_47 rfl ?_
    exact r_qIp dX5_isBuilt_48 rfl rfl rfl
def x_rd_hasRoom (T : St) (p0 : Int32) : Int32 := if 600 < ((T.1 13 1) + p0) then (0) else (1)
theorem c_rd_hasRoom {X : Nat × (Nat → Int32)} {T : St} (p0 : Int32) : tC X 1 mX6_hasRoom [.ref (13 : Nat), .int p0] T (some (.int (x_rd_hasRoom T p0))) T := by
  refine tC_orIp (L := [some (.ref (13 : Nat)), some (.int p0)]) (x_rd_hasRoom T p0) rfl ?_
  unfold x_rd_hasRoom
  refine r_p (pc2 := 1) dX6_hasRoom_0 rfl rfl ?_
  refine r_get dX6_hasRoom_1 fkX6_15 rfl rfl ?_
  refine r_p (pc2 := 5) dX6_hasRoom_4 rfl rfl ?_
  refine r_p (pc2 := 6) dX6_hasRoom_5 rfl rfl ?_
  refine r_csi (x := 600) dX6_hasRoom_6 rfl ?_
  refine r_cgt dX6_hasRoom_9 rfl (fun c9_1 => ?_) (fun c9_1 => ?_)
  · refine r_ip (R := (rIp T)) c9_1 ?_
    refine r_ci (x := 0) dX6_hasRoom_16 rfl ?_
    exact r_qIp dX6_hasRoom_17 rfl rfl rfl
  · refine r_in (R := (rIp T)) c9_1 ?_
    refine r_ci (x := 1) dX6_hasRoom_12 rfl ?_
    refine r_go dX6_hasRoom_13 rfl ?_
    exact r_qIp dX6_hasRoom_17 rfl rfl rfl
theorem b_rd_hasRoom (T : St) (p0 : Int32) : x_rd_hasRoom T p0 = 0 ∨ x_rd_hasRoom T p0 = 1 := by
  unfold x_rd_hasRoom
  try simp only [jn]
  repeat' split
  all_goals (first | exact Or.inl rfl | exact Or.inr rfl)
def x_rd_put_5 (l1 : Int64) (l3 : Int32) (K : Int32 → St → St) : Nat → Int32 → St → St
  | 0, _, T => T
  | f + 1, v4, T => if v4 < 0 then (K v4 T) else (if 600 ≤ (T.1 13 1) then (K v4 T) else (jn (fun (T1 : St) => x_rd_put_5 l1 l3 K f (v4 + (-1)) (sF T1 13 1 ((T1.1 13 1) + 1))) (sA T 14 (T.1 13 1 : Int32).toNatClampNeg (((l1 >>> (((8 * v4) : Int32).toInt64 &&& 63) : Int64).toInt32) &&& 255))))
def ok_rd_put_5 (l1 : Int64) (l3 : Int32) (Kk : Int32 → St → Prop) : Nat → Int32 → St → Prop
  | 0, _, _ => False
  | f + 1, v4, T => ((v4 < 0 → Kk v4 T) ∧ (¬ v4 < 0 → ((600 ≤ (T.1 13 1) → Kk v4 T) ∧ (¬ 600 ≤ (T.1 13 1) → (vp_in (T.1 13 1) 600) ∧ jn (fun (T1 : St) => ok_rd_put_5 l1 l3 Kk f (v4 + (-1)) (sF T1 13 1 ((T1.1 13 1) + 1))) (sA T 14 (T.1 13 1 : Int32).toNatClampNeg (((l1 >>> (((8 * v4) : Int32).toInt64 &&& 63) : Int64).toInt32) &&& 255))))))
theorem c_rd_put_5 {X : Nat × (Nat → Int32)} (l1 : Int64) (l3 : Int32) {K : Int32 → St → St} {Kk : Int32 → St → Prop} (hk : ∀ (v4 : Int32) (T : St), Kk v4 T → tR X 0 mX6_put 57 [some (.ref (13 : Nat)), some (.long l1), none, some (.int l3), some (.int v4)] [] T (rV (K v4 T)).1 ((rV (K v4 T)).2)) : ∀ (f : Nat) (v4 : Int32) (T : St), ok_rd_put_5 l1 l3 Kk f v4 T → tR X 0 mX6_put 5 [some (.ref (13 : Nat)), some (.long l1), none, some (.int l3), some (.int v4)] [] T (rV (x_rd_put_5 l1 l3 K f v4 T)).1 ((rV (x_rd_put_5 l1 l3 K f v4 T)).2) := by
  intro f
  induction f with
  | zero => intro v4 T kk; exact kk.elim
  | succ f ih =>
    intro v4 T kk
    rw [ok_rd_put_5] at kk
    rw [x_rd_put_5]
    refine r_p (pc2 := 7) dX6_put_5 rfl rfl ?_
    refine r_ilt dX6_put_7 rfl (fun c7_1 => ?_) (fun c7_1 => ?_)
    · refine r_ip (R := rV) c7_1 ?_
      have kk := kk.1 c7_1
      show tR _ _ _ _ [some (.ref (13 : Nat)), some (.long l1), none, some (.int l3), some (.int v4)] _ _ _ _
      exact (hk v4 T kk)
    · refine r_in (R := rV) c7_1 ?_
      have kk := kk.2 c7_1
      refine r_p (pc2 := 11) dX6_put_10 rfl rfl ?_
      refine r_get dX6_put_11 fkX6_15 rfl rfl ?_
      refine r_csi (x := 600) dX6_put_14 rfl ?_
      refine r_cge dX6_put_17 rfl (fun c17_2 => ?_) (fun c17_2 => ?_)
      · refine r_ip (R := rV) c17_2 ?_
        have kk := kk.1 c17_2
        show tR _ _ _ _ [some (.ref (13 : Nat)), some (.long l1), none, some (.int l3), some (.int v4)] _ _ _ _
        exact (hk v4 T kk)
      · refine r_in (R := rV) c17_2 ?_
        have kk := kk.2 c17_2
        refine r_p (pc2 := 21) dX6_put_20 rfl rfl ?_
        refine r_get dX6_put_21 fkX6_11 rfl rfl ?_
        refine r_p (pc2 := 25) dX6_put_24 rfl rfl ?_
        refine r_get dX6_put_25 fkX6_15 rfl rfl ?_
        refine r_p (pc2 := 29) dX6_put_28 rfl rfl ?_
        refine r_cb (x := 8) dX6_put_29 rfl ?_
        refine r_p (pc2 := 33) dX6_put_31 rfl rfl ?_
        refine r_p (pc2 := 34) dX6_put_33 rfl rfl ?_
        refine r_p (pc2 := 35) dX6_put_34 rfl rfl ?_
        refine r_p (pc2 := 36) dX6_put_35 rfl rfl ?_
        refine r_csi (x := 255) dX6_put_36 rfl ?_
        refine r_p (pc2 := 40) dX6_put_39 rfl rfl ?_
        obtain ⟨q1, kk⟩ := kk
        refine r_ias dX6_put_40 rfl q1 ?_
        refine r_nT (R := rV) rfl kk (fun T1 kk => ?_)
        refine r_p (pc2 := 42) dX6_put_41 rfl rfl ?_
        refine r_p (pc2 := 43) dX6_put_42 rfl rfl ?_
        refine r_get dX6_put_43 fkX6_15 rfl rfl ?_
        refine r_ci (x := 1) dX6_put_46 rfl ?_
        refine r_p (pc2 := 48) dX6_put_47 rfl rfl ?_
        refine r_put dX6_put_48 fkX6_15 rfl rfl rfl (Nat.le_of_ble_eq_true rfl) rfl rfl ?_
        refine r_inc (L2 := [some (.ref (13 : Nat)), some (.long l1), none, some (.int l3), some (.int (v4 + (-1)))]) (y := -1) dX6_put_51 rfl rfl rfl ?_
        refine r_go dX6_put_54 rfl ?_
        show tR _ _ _ _ [some (.ref (13 : Nat)), some (.long l1), none, some (.int l3), some (.int (v4 + (-1)))] _ _ _ _
        exact (ih (v4 + (-1)) (sF T1 13 1 ((T1.1 13 1) + 1)) kk)
def x_rd_put (T : St) (p0 : Int64) (p1 : Int32) : St := x_rd_put_5 p0 p1 (fun (w1_4 : Int32) (T201 : St) => T201) 1000 (p1 - 1) T
def ok_rd_put (T : St) (p0 : Int64) (p1 : Int32) : Prop := ok_rd_put_5 p0 p1 (fun (w1_4 : Int32) (T201 : St) => True) 1000 (p1 - 1) T
theorem c_rd_put {X : Nat × (Nat → Int32)} {T : St} (p0 : Int64) (p1 : Int32) (kk : ok_rd_put T p0 p1) : tC X 1 mX6_put [.ref (13 : Nat), .long p0, .int p1] T none (x_rd_put T p0 p1) := by
  unfold ok_rd_put at kk
  refine tC_orV (L := [some (.ref (13 : Nat)), some (.long p0), none, some (.int p1), none]) (x_rd_put T p0 p1) rfl ?_
  unfold x_rd_put
  refine r_p (pc2 := 1) dX6_put_0 rfl rfl ?_
  refine r_ci (x := 1) dX6_put_1 rfl ?_
  refine r_p (pc2 := 3) dX6_put_2 rfl rfl ?_
  refine r_p (pc2 := 5) (L2 := [some (.ref (13 : Nat)), some (.long p0), none, some (.int p1), some (.int (p1 - 1))]) dX6_put_3 rfl rfl ?_
  show tR _ _ _ _ [some (.ref (13 : Nat)), some (.long p0), none, some (.int p1), some (.int (p1 - 1))] _ _ _ _
  refine (c_rd_put_5 p0 p1 (fun w1_4 T201 kk => ?_) 1000 (p1 - 1) T kk)
  · skip
    exact r_qV dX6_put_57 rfl rfl
def x_rd_isWord_28 (T : St) (l1 : Nat) (K : Int32 → Int32) : Nat → Int32 → Int32
  | 0, _ => 0
  | f + 1, v2 => if (x_slen T l1) ≤ v2 then (K v2) else (if (T.2.2.1 14 ((T.1 13 3) + v2 : Int32).toNatClampNeg) = (x_sch T l1 v2) then (x_rd_isWord_28 T l1 K f (v2 + 1)) else (0))
def ok_rd_isWord_28 (T : St) (l1 : Nat) (Kk : Int32 → Prop) : Nat → Int32 → Prop
  | 0, _ => False
  | f + 1, v2 => (ok_slen T l1) ∧ (l1 < 8) ∧ (((x_slen T l1) ≤ v2 → Kk v2) ∧ (¬ (x_slen T l1) ≤ v2 → (vp_in ((T.1 13 3) + v2) 600) ∧ (ok_sch T l1 v2) ∧ ((T.2.2.1 14 ((T.1 13 3) + v2 : Int32).toNatClampNeg) = (x_sch T l1 v2) → ok_rd_isWord_28 T l1 Kk f (v2 + 1))))
theorem c_rd_isWord_28 {X : Nat × (Nat → Int32)} (T : St) (l1 : Nat) {K : Int32 → Int32} {Kk : Int32 → Prop} (hk : ∀ (v2 : Int32), Kk v2 → tR X 4 mX6_isWord 63 [some (.ref (13 : Nat)), some (.ref (mx_B + (10 + l1))), some (.int v2)] [] T ((rIp T) (K v2)).1 (((rIp T) (K v2)).2)) : ∀ (f : Nat) (v2 : Int32), ok_rd_isWord_28 T l1 Kk f v2 → tR X 4 mX6_isWord 28 [some (.ref (13 : Nat)), some (.ref (mx_B + (10 + l1))), some (.int v2)] [] T ((rIp T) (x_rd_isWord_28 T l1 K f v2)).1 (((rIp T) (x_rd_isWord_28 T l1 K f v2)).2) := by
  intro f
  induction f with
  | zero => intro v2 kk; exact kk.elim
  | succ f ih =>
    intro v2 kk
    rw [ok_rd_isWord_28] at kk
    rw [x_rd_isWord_28]
    refine r_p (pc2 := 29) dX6_isWord_28 rfl rfl ?_
    refine r_p (pc2 := 30) dX6_isWord_29 rfl rfl ?_
    obtain ⟨q3, kk⟩ := kk
    obtain ⟨q4, kk⟩ := kk
    refine r_cvs (d1 := 2) (j := l1) dX6_isWord_30 cvX6_150 rfl rfl q4 rfl (Nat.le_of_ble_eq_true rfl) (Nat.le_of_ble_eq_true rfl) (Nat.le_of_ble_eq_true rfl) (c_slen l1 q3) ?_
    refine r_cge dX6_isWord_33 rfl (fun c33_3 => ?_) (fun c33_3 => ?_)
    · refine r_ip (R := (rIp T)) c33_3 ?_
      have kk := kk.1 c33_3
      show tR _ _ _ _ [some (.ref (13 : Nat)), some (.ref (mx_B + (10 + l1))), some (.int v2)] _ _ _ _
      exact (hk v2  kk)
    · refine r_in (R := (rIp T)) c33_3 ?_
      have kk := kk.2 c33_3
      refine r_p (pc2 := 37) dX6_isWord_36 rfl rfl ?_
      refine r_get dX6_isWord_37 fkX6_11 rfl rfl ?_
      refine r_p (pc2 := 41) dX6_isWord_40 rfl rfl ?_
      refine r_get dX6_isWord_41 fkX6_147 rfl rfl ?_
      refine r_p (pc2 := 45) dX6_isWord_44 rfl rfl ?_
      refine r_p (pc2 := 46) dX6_isWord_45 rfl rfl ?_
      obtain ⟨q5, kk⟩ := kk
      refine r_ia dX6_isWord_46 rfl q5 ?_
      refine r_p (pc2 := 48) dX6_isWord_47 rfl rfl ?_
      refine r_p (pc2 := 49) dX6_isWord_48 rfl rfl ?_
      obtain ⟨q6, kk⟩ := kk
      refine r_cvs (d1 := 4) (j := l1) dX6_isWord_49 cvX6_154 rfl rfl q4 rfl (Nat.le_of_ble_eq_true rfl) (Nat.le_of_ble_eq_true rfl) (Nat.le_of_ble_eq_true rfl) (c_sch l1 v2 q6) ?_
      refine r_ceq dX6_isWord_52 rfl (fun c52_4 => ?_) (fun c52_4 => ?_)
      · refine r_ip (R := (rIp T)) c52_4 ?_
        have kk := kk c52_4
        refine r_inc (L2 := [some (.ref (13 : Nat)), some (.ref (mx_B + (10 + l1))), some (.int (v2 + 1))]) (y := 1) dX6_isWord_57 rfl rfl rfl ?_
        refine r_go dX6_isWord_60 rfl ?_
        show tR _ _ _ _ [some (.ref (13 : Nat)), some (.ref (mx_B + (10 + l1))), some (.int (v2 + 1))] _ _ _ _
        exact (ih (v2 + 1)  kk)
      · refine r_in (R := (rIp T)) c52_4 ?_
        refine r_ci (x := 0) dX6_isWord_55 rfl ?_
        exact r_qIp dX6_isWord_56 rfl rfl rfl
def x_rd_isWord (T : St) (p0 : Nat) : Int32 := if (T.1 13 5) = 1 then (if ((T.1 13 4) - (T.1 13 3)) = (x_slen T p0) then (x_rd_isWord_28 T p0 (fun (w1_2 : Int32) => 1) 1000 0) else (0)) else (0)
def ok_rd_isWord (T : St) (p0 : Nat) : Prop := ((T.1 13 5) = 1 → (ok_slen T p0) ∧ (p0 < 8) ∧ (((T.1 13 4) - (T.1 13 3)) = (x_slen T p0) → ok_rd_isWord_28 T p0 (fun (w1_2 : Int32) => True) 1000 0))
theorem c_rd_isWord {X : Nat × (Nat → Int32)} {T : St} (p0 : Nat) (kk : ok_rd_isWord T p0) : tC X 5 mX6_isWord [.ref (13 : Nat), .ref (mx_B + (10 + p0))] T (some (.int (x_rd_isWord T p0))) T := by
  unfold ok_rd_isWord at kk
  refine tC_orIp (L := [some (.ref (13 : Nat)), some (.ref (mx_B + (10 + p0))), none]) (x_rd_isWord T p0) rfl ?_
  unfold x_rd_isWord
  refine r_p (pc2 := 1) dX6_isWord_0 rfl rfl ?_
  refine r_get dX6_isWord_1 fkX6_49 rfl rfl ?_
  refine r_ci (x := 1) dX6_isWord_4 rfl ?_
  refine r_cne dX6_isWord_5 rfl (fun c5_1 => ?_) (fun c5_1 => ?_)
  · refine r_in (R := (rIp T)) c5_1 ?_
    refine r_ci (x := 0) dX6_isWord_24 rfl ?_
    exact r_qIp dX6_isWord_25 rfl rfl rfl
  · refine r_ip (R := (rIp T)) c5_1 ?_
    have kk := kk c5_1
    refine r_p (pc2 := 9) dX6_isWord_8 rfl rfl ?_
    refine r_get dX6_isWord_9 fkX6_27 rfl rfl ?_
    refine r_p (pc2 := 13) dX6_isWord_12 rfl rfl ?_
    refine r_get dX6_isWord_13 fkX6_147 rfl rfl ?_
    refine r_p (pc2 := 17) dX6_isWord_16 rfl rfl ?_
    refine r_p (pc2 := 18) dX6_isWord_17 rfl rfl ?_
    obtain ⟨q1, kk⟩ := kk
    obtain ⟨q2, kk⟩ := kk
    refine r_cvs (d1 := 2) (j := p0) dX6_isWord_18 cvX6_150 rfl rfl q2 rfl (Nat.le_of_ble_eq_true rfl) (Nat.le_of_ble_eq_true rfl) (Nat.le_of_ble_eq_true rfl) (c_slen p0 q1) ?_
    refine r_ceq dX6_isWord_21 rfl (fun c21_2 => ?_) (fun c21_2 => ?_)
    · refine r_ip (R := (rIp T)) c21_2 ?_
      have kk := kk c21_2
      refine r_ci (x := 0) dX6_isWord_26 rfl ?_
      refine r_p (pc2 := 28) (L2 := [some (.ref (13 : Nat)), some (.ref (mx_B + (10 + p0))), some (.int 0)]) dX6_isWord_27 rfl rfl ?_
      show tR _ _ _ _ [some (.ref (13 : Nat)), some (.ref (mx_B + (10 + p0))), some (.int 0)] _ _ _ _
      refine (c_rd_isWord_28 T p0 (fun w1_2 kk => ?_) 1000 0  kk)
      · skip
        refine r_ci (x := 1) dX6_isWord_63 rfl ?_
        exact r_qIp dX6_isWord_64 rfl rfl rfl
    · refine r_in (R := (rIp T)) c21_2 ?_
      refine r_ci (x := 0) dX6_isWord_24 rfl ?_
      exact r_qIp dX6_isWord_25 rfl rfl rfl
def x_rd_takeFigures_5  (K : St → St) : Nat → St → St
  | 0, T => T
  | f + 1, T => if (T.1 13 1) ≤ (T.1 13 4) then (K  T) else (if (T.2.2.1 14 (T.1 13 4 : Int32).toNatClampNeg) < 48 then (K  T) else (if 57 < (T.2.2.1 14 (T.1 13 4 : Int32).toNatClampNeg) then (K  T) else (jn (fun (T1 : St) => x_rd_takeFigures_5 K f  T1) (sF (sF T 13 6 ((((T.1 13 6) * 10) + (T.2.2.1 14 (T.1 13 4 : Int32).toNatClampNeg)) - 48)) 13 4 (((sF T 13 6 ((((T.1 13 6) * 10) + (T.2.2.1 14 (T.1 13 4 : Int32).toNatClampNeg)) - 48)).1 13 4) + 1)))))
def ok_rd_takeFigures_5  (Kk : St → Prop) : Nat → St → Prop
  | 0, _ => False
  | f + 1, T => (((T.1 13 1) ≤ (T.1 13 4) → Kk  T) ∧ (¬ (T.1 13 1) ≤ (T.1 13 4) → (vp_in (T.1 13 4) 600) ∧ (((T.2.2.1 14 (T.1 13 4 : Int32).toNatClampNeg) < 48 → Kk  T) ∧ (¬ (T.2.2.1 14 (T.1 13 4 : Int32).toNatClampNeg) < 48 → ((57 < (T.2.2.1 14 (T.1 13 4 : Int32).toNatClampNeg) → Kk  T) ∧ (¬ 57 < (T.2.2.1 14 (T.1 13 4 : Int32).toNatClampNeg) → jn (fun (T1 : St) => ok_rd_takeFigures_5 Kk f  T1) (sF (sF T 13 6 ((((T.1 13 6) * 10) + (T.2.2.1 14 (T.1 13 4 : Int32).toNatClampNeg)) - 48)) 13 4 (((sF T 13 6 ((((T.1 13 6) * 10) + (T.2.2.1 14 (T.1 13 4 : Int32).toNatClampNeg)) - 48)).1 13 4) + 1))))))))
theorem c_rd_takeFigures_5 {X : Nat × (Nat → Int32)}  {K : St → St} {Kk : St → Prop} (hk : ∀  (T : St), Kk  T → tR X 0 mX6_takeFigures 81 [some (.ref (13 : Nat))] [] T (rV (K  T)).1 ((rV (K  T)).2)) : ∀ (f : Nat)  (T : St), ok_rd_takeFigures_5  Kk f  T → tR X 0 mX6_takeFigures 5 [some (.ref (13 : Nat))] [] T (rV (x_rd_takeFigures_5 K f T)).1 ((rV (x_rd_takeFigures_5 K f T)).2) := by
  intro f
  induction f with
  | zero => intro  T kk; exact kk.elim
  | succ f ih =>
    intro  T kk
    rw [ok_rd_takeFigures_5] at kk
    rw [x_rd_takeFigures_5]
    refine r_p (pc2 := 6) dX6_takeFigures_5 rfl rfl ?_
    refine r_get dX6_takeFigures_6 fkX6_27 rfl rfl ?_
    refine r_p (pc2 := 10) dX6_takeFigures_9 rfl rfl ?_
    refine r_get dX6_takeFigures_10 fkX6_15 rfl rfl ?_
    refine r_cge dX6_takeFigures_13 rfl (fun c13_1 => ?_) (fun c13_1 => ?_)
    · refine r_ip (R := rV) c13_1 ?_
      have kk := kk.1 c13_1
      show tR _ _ _ _ [some (.ref (13 : Nat))] _ _ _ _
      exact (hk  T kk)
    · refine r_in (R := rV) c13_1 ?_
      have kk := kk.2 c13_1
      refine r_p (pc2 := 17) dX6_takeFigures_16 rfl rfl ?_
      refine r_get dX6_takeFigures_17 fkX6_11 rfl rfl ?_
      refine r_p (pc2 := 21) dX6_takeFigures_20 rfl rfl ?_
      refine r_get dX6_takeFigures_21 fkX6_27 rfl rfl ?_
      obtain ⟨q1, kk⟩ := kk
      refine r_ia dX6_takeFigures_24 rfl q1 ?_
      refine r_cb (x := 48) dX6_takeFigures_25 rfl ?_
      refine r_clt dX6_takeFigures_27 rfl (fun c27_2 => ?_) (fun c27_2 => ?_)
      · refine r_ip (R := rV) c27_2 ?_
        have kk := kk.1 c27_2
        show tR _ _ _ _ [some (.ref (13 : Nat))] _ _ _ _
        exact (hk  T kk)
      · refine r_in (R := rV) c27_2 ?_
        have kk := kk.2 c27_2
        refine r_p (pc2 := 31) dX6_takeFigures_30 rfl rfl ?_
        refine r_get dX6_takeFigures_31 fkX6_11 rfl rfl ?_
        refine r_p (pc2 := 35) dX6_takeFigures_34 rfl rfl ?_
        refine r_get dX6_takeFigures_35 fkX6_27 rfl rfl ?_
        refine r_ia dX6_takeFigures_38 rfl q1 ?_
        refine r_cb (x := 57) dX6_takeFigures_39 rfl ?_
        refine r_cgt dX6_takeFigures_41 rfl (fun c41_3 => ?_) (fun c41_3 => ?_)
        · refine r_ip (R := rV) c41_3 ?_
          have kk := kk.1 c41_3
          show tR _ _ _ _ [some (.ref (13 : Nat))] _ _ _ _
          exact (hk  T kk)
        · refine r_in (R := rV) c41_3 ?_
          have kk := kk.2 c41_3
          refine r_p (pc2 := 45) dX6_takeFigures_44 rfl rfl ?_
          refine r_p (pc2 := 46) dX6_takeFigures_45 rfl rfl ?_
          refine r_get dX6_takeFigures_46 fkX6_144 rfl rfl ?_
          refine r_cb (x := 10) dX6_takeFigures_49 rfl ?_
          refine r_p (pc2 := 52) dX6_takeFigures_51 rfl rfl ?_
          refine r_p (pc2 := 53) dX6_takeFigures_52 rfl rfl ?_
          refine r_get dX6_takeFigures_53 fkX6_11 rfl rfl ?_
          refine r_p (pc2 := 57) dX6_takeFigures_56 rfl rfl ?_
          refine r_get dX6_takeFigures_57 fkX6_27 rfl rfl ?_
          refine r_ia dX6_takeFigures_60 rfl q1 ?_
          refine r_p (pc2 := 62) dX6_takeFigures_61 rfl rfl ?_
          refine r_cb (x := 48) dX6_takeFigures_62 rfl ?_
          refine r_p (pc2 := 65) dX6_takeFigures_64 rfl rfl ?_
          refine r_put dX6_takeFigures_65 fkX6_144 rfl rfl rfl (Nat.le_of_ble_eq_true rfl) rfl rfl ?_
          refine r_p (pc2 := 69) dX6_takeFigures_68 rfl rfl ?_
          refine r_p (pc2 := 70) dX6_takeFigures_69 rfl rfl ?_
          refine r_get dX6_takeFigures_70 fkX6_27 rfl rfl ?_
          refine r_ci (x := 1) dX6_takeFigures_73 rfl ?_
          refine r_p (pc2 := 75) dX6_takeFigures_74 rfl rfl ?_
          refine r_put dX6_takeFigures_75 fkX6_27 rfl rfl rfl (Nat.le_of_ble_eq_true rfl) rfl rfl ?_
          refine r_nT (R := rV) rfl kk (fun T1 kk => ?_)
          refine r_go dX6_takeFigures_78 rfl ?_
          show tR _ _ _ _ [some (.ref (13 : Nat))] _ _ _ _
          exact (ih  T1 kk)
def x_rd_takeFigures (T : St)  : St := x_rd_takeFigures_5  (fun  (T201 : St) => if 2 < ((T201.1 13 4) - (T201.1 13 3)) then (sF T201 13 5 4) else (sF T201 13 5 2)) 1000  (sF T 13 6 0)
def ok_rd_takeFigures (T : St)  : Prop := ok_rd_takeFigures_5  (fun  (T201 : St) => True) 1000  (sF T 13 6 0)
theorem c_rd_takeFigures {X : Nat × (Nat → Int32)} {T : St}  (kk : ok_rd_takeFigures T ) : tC X 1 mX6_takeFigures [.ref (13 : Nat)] T none (x_rd_takeFigures T) := by
  unfold ok_rd_takeFigures at kk
  refine tC_orV (L := [some (.ref (13 : Nat))]) (x_rd_takeFigures T ) rfl ?_
  unfold x_rd_takeFigures
  refine r_p (pc2 := 1) dX6_takeFigures_0 rfl rfl ?_
  refine r_ci (x := 0) dX6_takeFigures_1 rfl ?_
  refine r_put dX6_takeFigures_2 fkX6_144 rfl rfl rfl (Nat.le_of_ble_eq_true rfl) rfl rfl ?_
  show tR _ _ _ _ [some (.ref (13 : Nat))] _ _ _ _
  refine (c_rd_takeFigures_5  (fun  T201 kk => ?_) 1000  (sF T 13 6 0) kk)
  · skip
    refine r_p (pc2 := 82) dX6_takeFigures_81 rfl rfl ?_
    refine r_p (pc2 := 83) dX6_takeFigures_82 rfl rfl ?_
    refine r_get dX6_takeFigures_83 fkX6_27 rfl rfl ?_
    refine r_p (pc2 := 87) dX6_takeFigures_86 rfl rfl ?_
    refine r_get dX6_takeFigures_87 fkX6_147 rfl rfl ?_
    refine r_p (pc2 := 91) dX6_takeFigures_90 rfl rfl ?_
    refine r_ci (x := 2) dX6_takeFigures_91 rfl ?_
    refine r_cgt dX6_takeFigures_92 rfl (fun c92_4 => ?_) (fun c92_4 => ?_)
    · refine r_ip (R := rV) c92_4 ?_
      refine r_ci (x := 4) dX6_takeFigures_99 rfl ?_
      refine r_put dX6_takeFigures_100 fkX6_49 rfl rfl rfl (Nat.le_of_ble_eq_true rfl) rfl rfl ?_
      exact r_qV dX6_takeFigures_103 rfl rfl
    · refine r_in (R := rV) c92_4 ?_
      refine r_ci (x := 2) dX6_takeFigures_95 rfl ?_
      refine r_go dX6_takeFigures_96 rfl ?_
      refine r_put dX6_takeFigures_100 fkX6_49 rfl rfl rfl (Nat.le_of_ble_eq_true rfl) rfl rfl ?_
      exact r_qV dX6_takeFigures_103 rfl rfl
def x_ro_fillDish_2 (l0 : Nat) (l1 : Nat) (l2 : Int32) (K : Int32 → St → St) : Nat → Int32 → St → St
  | 0, _, T => T
  | f + 1, v3, T => if (T.2.2.1 (l1 + 7) (l2 : Int32).toNatClampNeg) ≤ v3 then (K v3 T) else (if 12 ≤ (T.1 l0 1) then (K v3 T) else (jn (fun (i1 : Int32) => jn (fun (T2 : St) => jn (fun (T3 : St) => x_ro_fillDish_2 l0 l1 l2 K f (v3 + 1) (sF T3 l0 1 ((T3.1 l0 1) + 1))) (sA T2 (l0 + 6) (T2.1 l0 1 : Int32).toNatClampNeg (T2.2.2.1 (l1 + 10) (i1 : Int32).toNatClampNeg))) (sA (sA T (l0 + 3) (T.1 l0 1 : Int32).toNatClampNeg i1) (l0 + 4) ((sA T (l0 + 3) (T.1 l0 1 : Int32).toNatClampNeg i1).1 l0 1 : Int32).toNatClampNeg ((sA T (l0 + 3) (T.1 l0 1 : Int32).toNatClampNeg i1).1 l0 0))) ((T.2.2.1 (l1 + 8) (l2 : Int32).toNatClampNeg) + v3)))
def ok_ro_fillDish_2 (l0 : Nat) (l1 : Nat) (l2 : Int32) (Kk : Int32 → St → Prop) : Nat → Int32 → St → Prop
  | 0, _, _ => False
  | f + 1, v3, T => (sh l1 = .inr 1) ∧ (vp_in l2 8) ∧ (((T.2.2.1 (l1 + 7) (l2 : Int32).toNatClampNeg) ≤ v3 → Kk v3 T) ∧ (¬ (T.2.2.1 (l1 + 7) (l2 : Int32).toNatClampNeg) ≤ v3 → (sh l0 = .inr 7) ∧ ((12 ≤ (T.1 l0 1) → Kk v3 T) ∧ (¬ 12 ≤ (T.1 l0 1) → jn (fun (i1 : Int32) => (vp_in (T.1 l0 1) 12) ∧ (vp_in ((sA T (l0 + 3) (T.1 l0 1 : Int32).toNatClampNeg i1).1 l0 1) 12) ∧ jn (fun (T2 : St) => (vp_in i1 24) ∧ (vp_in (T2.1 l0 1) 12) ∧ jn (fun (T3 : St) => ok_ro_fillDish_2 l0 l1 l2 Kk f (v3 + 1) (sF T3 l0 1 ((T3.1 l0 1) + 1))) (sA T2 (l0 + 6) (T2.1 l0 1 : Int32).toNatClampNeg (T2.2.2.1 (l1 + 10) (i1 : Int32).toNatClampNeg))) (sA (sA T (l0 + 3) (T.1 l0 1 : Int32).toNatClampNeg i1) (l0 + 4) ((sA T (l0 + 3) (T.1 l0 1 : Int32).toNatClampNeg i1).1 l0 1 : Int32).toNatClampNeg ((sA T (l0 + 3) (T.1 l0 1 : Int32).toNatClampNeg i1).1 l0 0))) ((T.2.2.1 (l1 + 8) (l2 : Int32).toNatClampNeg) + v3)))))
theorem c_ro_fillDish_2 {X : Nat × (Nat → Int32)} (l0 : Nat) (l1 : Nat) (l2 : Int32) {K : Int32 → St → St} {Kk : Int32 → St → Prop} (hk : ∀ (v3 : Int32) (T : St), Kk v3 T → tR X 0 mX7_fillDish 87 [some (.ref l0), some (.ref l1), some (.int l2), some (.int v3), none] [] T (rV (K v3 T)).1 ((rV (K v3 T)).2)) : ∀ (f : Nat) (v3 : Int32) (T : St), ok_ro_fillDish_2 l0 l1 l2 Kk f v3 T → tR X 0 mX7_fillDish 2 [some (.ref l0), some (.ref l1), some (.int l2), some (.int v3), none] [] T (rV (x_ro_fillDish_2 l0 l1 l2 K f v3 T)).1 ((rV (x_ro_fillDish_2 l0 l1 l2 K f v3 T)).2) := by
  intro f
  induction f with
  | zero => intro v3 T kk; exact kk.elim
  | succ f ih =>
    intro v3 T kk
    rw [ok_ro_fillDish_2] at kk
    rw [x_ro_fillDish_2]
    refine r_p (pc2 := 3) dX7_fillDish_2 rfl rfl ?_
    refine r_p (pc2 := 4) dX7_fillDish_3 rfl rfl ?_
    obtain ⟨q1, kk⟩ := kk
    refine r_get dX7_fillDish_4 fkX7_47 q1 rfl ?_
    refine r_p (pc2 := 8) dX7_fillDish_7 rfl rfl ?_
    obtain ⟨q2, kk⟩ := kk
    refine r_ia dX7_fillDish_8 (shl1_7 q1) q2 ?_
    refine r_cge dX7_fillDish_9 rfl (fun c9_1 => ?_) (fun c9_1 => ?_)
    · refine r_ip (R := rV) c9_1 ?_
      have kk := kk.1 c9_1
      show tR _ _ _ _ [some (.ref l0), some (.ref l1), some (.int l2), some (.int v3), none] _ _ _ _
      exact (hk v3 T kk)
    · refine r_in (R := rV) c9_1 ?_
      have kk := kk.2 c9_1
      refine r_p (pc2 := 13) dX7_fillDish_12 rfl rfl ?_
      obtain ⟨q3, kk⟩ := kk
      refine r_get dX7_fillDish_13 fkX7_34 q3 rfl ?_
      refine r_cb (x := 12) dX7_fillDish_16 rfl ?_
      refine r_cge dX7_fillDish_18 rfl (fun c18_2 => ?_) (fun c18_2 => ?_)
      · refine r_ip (R := rV) c18_2 ?_
        have kk := kk.1 c18_2
        show tR _ _ _ _ [some (.ref l0), some (.ref l1), some (.int l2), some (.int v3), none] _ _ _ _
        exact (hk v3 T kk)
      · refine r_in (R := rV) c18_2 ?_
        have kk := kk.2 c18_2
        refine r_p (pc2 := 22) dX7_fillDish_21 rfl rfl ?_
        refine r_get dX7_fillDish_22 fkX7_50 q1 rfl ?_
        refine r_p (pc2 := 26) dX7_fillDish_25 rfl rfl ?_
        refine r_ia dX7_fillDish_26 (shl1_8 q1) q2 ?_
        refine r_p (pc2 := 28) dX7_fillDish_27 rfl rfl ?_
        refine r_p (pc2 := 29) dX7_fillDish_28 rfl rfl ?_
        refine r_nI (R := rV) rfl kk (fun i1 kk => ?_)
        refine r_p (pc2 := 31) (L2 := [some (.ref l0), some (.ref l1), some (.int l2), some (.int v3), some (.int i1)]) dX7_fillDish_29 rfl rfl ?_
        refine r_p (pc2 := 32) dX7_fillDish_31 rfl rfl ?_
        refine r_get dX7_fillDish_32 fkX7_18 q3 rfl ?_
        refine r_p (pc2 := 36) dX7_fillDish_35 rfl rfl ?_
        refine r_get dX7_fillDish_36 fkX7_34 q3 rfl ?_
        refine r_p (pc2 := 41) dX7_fillDish_39 rfl rfl ?_
        obtain ⟨q4, kk⟩ := kk
        refine r_ias dX7_fillDish_41 (shl7_3 q3) q4 ?_
        refine r_p (pc2 := 43) dX7_fillDish_42 rfl rfl ?_
        refine r_get dX7_fillDish_43 fkX7_21 q3 rfl ?_
        refine r_p (pc2 := 47) dX7_fillDish_46 rfl rfl ?_
        refine r_get dX7_fillDish_47 fkX7_34 q3 rfl ?_
        refine r_p (pc2 := 51) dX7_fillDish_50 rfl rfl ?_
        refine r_get dX7_fillDish_51 fkX7_30 q3 rfl ?_
        obtain ⟨q5, kk⟩ := kk
        refine r_ias dX7_fillDish_54 (shl7_4 q3) q5 ?_
        refine r_nT (R := rV) rfl kk (fun T2 kk => ?_)
        refine r_p (pc2 := 56) dX7_fillDish_55 rfl rfl ?_
        refine r_get dX7_fillDish_56 fkX7_27 q3 rfl ?_
        refine r_p (pc2 := 60) dX7_fillDish_59 rfl rfl ?_
        refine r_get dX7_fillDish_60 fkX7_34 q3 rfl ?_
        refine r_p (pc2 := 64) dX7_fillDish_63 rfl rfl ?_
        refine r_get dX7_fillDish_64 fkX7_53 q1 rfl ?_
        refine r_p (pc2 := 69) dX7_fillDish_67 rfl rfl ?_
        obtain ⟨q6, kk⟩ := kk
        refine r_ia dX7_fillDish_69 (shl1_10 q1) q6 ?_
        obtain ⟨q7, kk⟩ := kk
        refine r_ias dX7_fillDish_70 (shl7_6 q3) q7 ?_
        refine r_nT (R := rV) rfl kk (fun T3 kk => ?_)
        refine r_p (pc2 := 72) dX7_fillDish_71 rfl rfl ?_
        refine r_p (pc2 := 73) dX7_fillDish_72 rfl rfl ?_
        refine r_get dX7_fillDish_73 fkX7_34 q3 rfl ?_
        refine r_ci (x := 1) dX7_fillDish_76 rfl ?_
        refine r_p (pc2 := 78) dX7_fillDish_77 rfl rfl ?_
        refine r_put dX7_fillDish_78 fkX7_34 rfl q3 rfl (Nat.le_of_ble_eq_true rfl) rfl rfl ?_
        refine r_inc (L2 := [some (.ref l0), some (.ref l1), some (.int l2), some (.int (v3 + 1)), some (.int i1)]) (y := 1) dX7_fillDish_81 rfl rfl rfl ?_
        refine r_go dX7_fillDish_84 rfl ?_
        show tR _ _ _ _ [some (.ref l0), some (.ref l1), some (.int l2), some (.int (v3 + 1)), some (.int i1)] _ _ _ _
        exact r_le (le_s (le_s (le_s (le_s (le_n (le_0)))))) (ih (v3 + 1) (sF T3 l0 1 ((T3.1 l0 1) + 1)) kk)
def x_ro_fillDish (T : St) (a : Nat) (p0 : Nat) (p1 : Int32) : St := x_ro_fillDish_2 a p0 p1 (fun (w1_3 : Int32) (T201 : St) => T201) 1000 0 T
def ok_ro_fillDish (T : St) (a : Nat) (p0 : Nat) (p1 : Int32) : Prop := ok_ro_fillDish_2 a p0 p1 (fun (w1_3 : Int32) (T201 : St) => True) 1000 0 T
theorem c_ro_fillDish {X : Nat × (Nat → Int32)} {T : St} (a : Nat) (p0 : Nat) (p1 : Int32) (kk : ok_ro_fillDish T a p0 p1) : tC X 1 mX7_fillDish [.ref a, .ref p0, .int p1] T none (x_ro_fillDish T a p0 p1) := by
  unfold ok_ro_fillDish at kk
  refine tC_orV (L := [some (.ref a), some (.ref p0), some (.int p1), none, none]) (x_ro_fillDish T a p0 p1) rfl ?_
  unfold x_ro_fillDish
  refine r_ci (x := 0) dX7_fillDish_0 rfl ?_
  refine r_p (pc2 := 2) (L2 := [some (.ref a), some (.ref p0), some (.int p1), some (.int 0), none]) dX7_fillDish_1 rfl rfl ?_
  show tR _ _ _ _ [some (.ref a), some (.ref p0), some (.int p1), some (.int 0), none] _ _ _ _
  refine (c_ro_fillDish_2 a p0 p1 (fun w1_3 T201 kk => ?_) 1000 0 T kk)
  · skip
    exact r_qV dX7_fillDish_87 rfl rfl
def x_ro_take (T : St) (a : Nat) (p0 : Nat) : St := jn (fun (T1 : St) => jn (fun (T2 : St) => jn (fun (T3 : St) => jn (fun (T4 : St) => jn (fun (T5 : St) => sAr T5 (a + 6) (va_cpy (T5.2.2.1 (p0 + 6)) (T5.2.2.1 (a + 6)) (0 : Int32).toNatClampNeg (0 : Int32).toNatClampNeg (12 : Int32).toNatClampNeg)) (sAr T4 (a + 5) (va_cpy (T4.2.2.1 (p0 + 5)) (T4.2.2.1 (a + 5)) (0 : Int32).toNatClampNeg (0 : Int32).toNatClampNeg (12 : Int32).toNatClampNeg))) (sAr T3 (a + 4) (va_cpy (T3.2.2.1 (p0 + 4)) (T3.2.2.1 (a + 4)) (0 : Int32).toNatClampNeg (0 : Int32).toNatClampNeg (12 : Int32).toNatClampNeg))) (sAr T2 (a + 3) (va_cpy (T2.2.2.1 (p0 + 3)) (T2.2.2.1 (a + 3)) (0 : Int32).toNatClampNeg (0 : Int32).toNatClampNeg (12 : Int32).toNatClampNeg))) (sAr T1 (a + 2) (va_cpy (T1.2.2.1 (p0 + 2)) (T1.2.2.1 (a + 2)) (0 : Int32).toNatClampNeg (0 : Int32).toNatClampNeg (4 : Int32).toNatClampNeg))) (sAr (sF (sF T a 0 (T.1 p0 0)) a 1 ((sF T a 0 (T.1 p0 0)).1 p0 1)) (a + 1) (va_cpy ((sF (sF T a 0 (T.1 p0 0)) a 1 ((sF T a 0 (T.1 p0 0)).1 p0 1)).2.2.1 (p0 + 1)) ((sF (sF T a 0 (T.1 p0 0)) a 1 ((sF T a 0 (T.1 p0 0)).1 p0 1)).2.2.1 (a + 1)) (0 : Int32).toNatClampNeg (0 : Int32).toNatClampNeg (4 : Int32).toNatClampNeg))
def ok_ro_take (T : St) (a : Nat) (p0 : Nat) : Prop := (sh p0 = .inr 7) ∧ (sh a = .inr 7) ∧ (cpok 0 0 4 4 4) ∧ jn (fun (T1 : St) => jn (fun (T2 : St) => (cpok 0 0 12 12 12) ∧ True) (sAr T1 (a + 2) (va_cpy (T1.2.2.1 (p0 + 2)) (T1.2.2.1 (a + 2)) (0 : Int32).toNatClampNeg (0 : Int32).toNatClampNeg (4 : Int32).toNatClampNeg))) (sAr (sF (sF T a 0 (T.1 p0 0)) a 1 ((sF T a 0 (T.1 p0 0)).1 p0 1)) (a + 1) (va_cpy ((sF (sF T a 0 (T.1 p0 0)) a 1 ((sF T a 0 (T.1 p0 0)).1 p0 1)).2.2.1 (p0 + 1)) ((sF (sF T a 0 (T.1 p0 0)) a 1 ((sF T a 0 (T.1 p0 0)).1 p0 1)).2.2.1 (a + 1)) (0 : Int32).toNatClampNeg (0 : Int32).toNatClampNeg (4 : Int32).toNatClampNeg))
theorem c_ro_take {X : Nat × (Nat → Int32)} {T : St} (a : Nat) (p0 : Nat) (kk : ok_ro_take T a p0) : tC X 1 mX7_take [.ref a, .ref p0] T none (x_ro_take T a p0) := by
  unfold ok_ro_take at kk
  refine tC_orV (L := [some (.ref a), some (.ref p0)]) (x_ro_take T a p0) rfl ?_
  unfold x_ro_take
  refine r_p (pc2 := 1) dX7_take_0 rfl rfl ?_
  refine r_p (pc2 := 2) dX7_take_1 rfl rfl ?_
  obtain ⟨q1, kk⟩ := kk
  refine r_get dX7_take_2 fkX7_30 q1 rfl ?_
  obtain ⟨q2, kk⟩ := kk
  refine r_put dX7_take_5 fkX7_30 rfl q2 rfl (Nat.le_of_ble_eq_true rfl) rfl rfl ?_
  refine r_p (pc2 := 9) dX7_take_8 rfl rfl ?_
  refine r_p (pc2 := 10) dX7_take_9 rfl rfl ?_
  refine r_get dX7_take_10 fkX7_34 q1 rfl ?_
  refine r_put dX7_take_13 fkX7_34 rfl q2 rfl (Nat.le_of_ble_eq_true rfl) rfl rfl ?_
  refine r_p (pc2 := 17) dX7_take_16 rfl rfl ?_
  refine r_get dX7_take_17 fkX7_9 q1 rfl ?_
  refine r_ci (x := 0) dX7_take_20 rfl ?_
  refine r_p (pc2 := 22) dX7_take_21 rfl rfl ?_
  refine r_get dX7_take_22 fkX7_9 q2 rfl ?_
  refine r_ci (x := 0) dX7_take_25 rfl ?_
  refine r_ci (x := 4) dX7_take_26 rfl ?_
  obtain ⟨q3, kk⟩ := kk
  refine r_cpy dX7_take_27 cpX7_54 (shl7_1 q2) (shl7_1 q1) q3.1 q3.2.1 q3.2.2.1 q3.2.2.2.1 q3.2.2.2.2 (Nat.le_of_ble_eq_true rfl) ?_
  refine r_nT (R := rV) rfl kk (fun T1 kk => ?_)
  refine r_p (pc2 := 31) dX7_take_30 rfl rfl ?_
  refine r_get dX7_take_31 fkX7_15 q1 rfl ?_
  refine r_ci (x := 0) dX7_take_34 rfl ?_
  refine r_p (pc2 := 36) dX7_take_35 rfl rfl ?_
  refine r_get dX7_take_36 fkX7_15 q2 rfl ?_
  refine r_ci (x := 0) dX7_take_39 rfl ?_
  refine r_ci (x := 4) dX7_take_40 rfl ?_
  refine r_cpy dX7_take_41 cpX7_54 (shl7_2 q2) (shl7_2 q1) q3.1 q3.2.1 q3.2.2.1 q3.2.2.2.1 q3.2.2.2.2 (Nat.le_of_ble_eq_true rfl) ?_
  refine r_nT (R := rV) rfl kk (fun T2 kk => ?_)
  refine r_p (pc2 := 45) dX7_take_44 rfl rfl ?_
  refine r_get dX7_take_45 fkX7_18 q1 rfl ?_
  refine r_ci (x := 0) dX7_take_48 rfl ?_
  refine r_p (pc2 := 50) dX7_take_49 rfl rfl ?_
  refine r_get dX7_take_50 fkX7_18 q2 rfl ?_
  refine r_ci (x := 0) dX7_take_53 rfl ?_
  refine r_cb (x := 12) dX7_take_54 rfl ?_
  obtain ⟨q4, kk⟩ := kk
  refine r_cpy dX7_take_56 cpX7_54 (shl7_3 q2) (shl7_3 q1) q4.1 q4.2.1 q4.2.2.1 q4.2.2.2.1 q4.2.2.2.2 (Nat.le_of_ble_eq_true rfl) ?_
  refine r_nT0 (R := rV) rfl (fun T3 => ?_)
  refine r_p (pc2 := 60) dX7_take_59 rfl rfl ?_
  refine r_get dX7_take_60 fkX7_21 q1 rfl ?_
  refine r_ci (x := 0) dX7_take_63 rfl ?_
  refine r_p (pc2 := 65) dX7_take_64 rfl rfl ?_
  refine r_get dX7_take_65 fkX7_21 q2 rfl ?_
  refine r_ci (x := 0) dX7_take_68 rfl ?_
  refine r_cb (x := 12) dX7_take_69 rfl ?_
  refine r_cpy dX7_take_71 cpX7_54 (shl7_4 q2) (shl7_4 q1) q4.1 q4.2.1 q4.2.2.1 q4.2.2.2.1 q4.2.2.2.2 (Nat.le_of_ble_eq_true rfl) ?_
  refine r_nT0 (R := rV) rfl (fun T4 => ?_)
  refine r_p (pc2 := 75) dX7_take_74 rfl rfl ?_
  refine r_get dX7_take_75 fkX7_24 q1 rfl ?_
  refine r_ci (x := 0) dX7_take_78 rfl ?_
  refine r_p (pc2 := 80) dX7_take_79 rfl rfl ?_
  refine r_get dX7_take_80 fkX7_24 q2 rfl ?_
  refine r_ci (x := 0) dX7_take_83 rfl ?_
  refine r_cb (x := 12) dX7_take_84 rfl ?_
  refine r_cpy dX7_take_86 cpX7_54 (shl7_5 q2) (shl7_5 q1) q4.1 q4.2.1 q4.2.2.1 q4.2.2.2.1 q4.2.2.2.2 (Nat.le_of_ble_eq_true rfl) ?_
  refine r_nT0 (R := rV) rfl (fun T5 => ?_)
  refine r_p (pc2 := 90) dX7_take_89 rfl rfl ?_
  refine r_get dX7_take_90 fkX7_27 q1 rfl ?_
  refine r_ci (x := 0) dX7_take_93 rfl ?_
  refine r_p (pc2 := 95) dX7_take_94 rfl rfl ?_
  refine r_get dX7_take_95 fkX7_27 q2 rfl ?_
  refine r_ci (x := 0) dX7_take_98 rfl ?_
  refine r_cb (x := 12) dX7_take_99 rfl ?_
  refine r_cpy dX7_take_101 cpX7_54 (shl7_6 q2) (shl7_6 q1) q4.1 q4.2.1 q4.2.2.1 q4.2.2.2.1 q4.2.2.2.2 (Nat.le_of_ble_eq_true rfl) ?_
  exact r_qV dX7_take_104 rfl rfl
def x_ro_isFirst (T : St) (a : Nat) (p0 : Int32) : Int32 := if p0 = 0 then (1) else (if (T.2.2.1 (a + 4) (p0 - 1 : Int32).toNatClampNeg) = (T.2.2.1 (a + 4) (p0 : Int32).toNatClampNeg) then (0) else (1))
def ok_ro_isFirst (T : St) (a : Nat) (p0 : Int32) : Prop := (¬ p0 = 0 → (sh a = .inr 7) ∧ (vp_in (p0 - 1) 12) ∧ (vp_in p0 12) ∧ True)
theorem c_ro_isFirst {X : Nat × (Nat → Int32)} {T : St} (a : Nat) (p0 : Int32) (kk : ok_ro_isFirst T a p0) : tC X 1 mX7_isFirst [.ref a, .int p0] T (some (.int (x_ro_isFirst T a p0))) T := by
  unfold ok_ro_isFirst at kk
  refine tC_orIp (L := [some (.ref a), some (.int p0)]) (x_ro_isFirst T a p0) rfl ?_
  unfold x_ro_isFirst
  refine r_p (pc2 := 1) dX7_isFirst_0 rfl rfl ?_
  refine r_ieq dX7_isFirst_1 rfl (fun c1_1 => ?_) (fun c1_1 => ?_)
  · refine r_ip (R := (rIp T)) c1_1 ?_
    refine r_ci (x := 1) dX7_isFirst_21 rfl ?_
    refine r_go dX7_isFirst_22 rfl ?_
    exact r_qIp dX7_isFirst_26 rfl rfl rfl
  · refine r_in (R := (rIp T)) c1_1 ?_
    have kk := kk c1_1
    refine r_p (pc2 := 5) dX7_isFirst_4 rfl rfl ?_
    obtain ⟨q1, kk⟩ := kk
    refine r_get dX7_isFirst_5 fkX7_21 q1 rfl ?_
    refine r_p (pc2 := 9) dX7_isFirst_8 rfl rfl ?_
    refine r_ci (x := 1) dX7_isFirst_9 rfl ?_
    refine r_p (pc2 := 11) dX7_isFirst_10 rfl rfl ?_
    obtain ⟨q2, kk⟩ := kk
    refine r_ia dX7_isFirst_11 (shl7_4 q1) q2 ?_
    refine r_p (pc2 := 13) dX7_isFirst_12 rfl rfl ?_
    refine r_get dX7_isFirst_13 fkX7_21 q1 rfl ?_
    refine r_p (pc2 := 17) dX7_isFirst_16 rfl rfl ?_
    obtain ⟨q3, kk⟩ := kk
    refine r_ia dX7_isFirst_17 (shl7_4 q1) q3 ?_
    refine r_ceq dX7_isFirst_18 rfl (fun c18_2 => ?_) (fun c18_2 => ?_)
    · refine r_ip (R := (rIp T)) c18_2 ?_
      refine r_ci (x := 0) dX7_isFirst_25 rfl ?_
      exact r_qIp dX7_isFirst_26 rfl rfl rfl
    · refine r_in (R := (rIp T)) c18_2 ?_
      refine r_ci (x := 1) dX7_isFirst_21 rfl ?_
      refine r_go dX7_isFirst_22 rfl ?_
      exact r_qIp dX7_isFirst_26 rfl rfl rfl
theorem b_ro_isFirst (T : St) (a : Nat) (p0 : Int32) : x_ro_isFirst T a p0 = 0 ∨ x_ro_isFirst T a p0 = 1 := by
  unfold x_ro_isFirst
  try simp only [jn]
  repeat' split
  all_goals (first | exact Or.inl rfl | exact Or.inr rfl)
def x_ro_isLast (T : St) (a : Nat) (p0 : Int32) : Int32 := if p0 = ((T.1 a 1) - 1) then (1) else (if (T.2.2.1 (a + 4) (p0 + 1 : Int32).toNatClampNeg) = (T.2.2.1 (a + 4) (p0 : Int32).toNatClampNeg) then (0) else (1))
def ok_ro_isLast (T : St) (a : Nat) (p0 : Int32) : Prop := (sh a = .inr 7) ∧ (¬ p0 = ((T.1 a 1) - 1) → (vp_in (p0 + 1) 12) ∧ (vp_in p0 12) ∧ True)
theorem c_ro_isLast {X : Nat × (Nat → Int32)} {T : St} (a : Nat) (p0 : Int32) (kk : ok_ro_isLast T a p0) : tC X 1 mX7_isLast [.ref a, .int p0] T (some (.int (x_ro_isLast T a p0))) T := by
  unfold ok_ro_isLast at kk
  refine tC_orIp (L := [some (.ref a), some (.int p0)]) (x_ro_isLast T a p0) rfl ?_
  unfold x_ro_isLast
  refine r_p (pc2 := 1) dX7_isLast_0 rfl rfl ?_
  refine r_p (pc2 := 2) dX7_isLast_1 rfl rfl ?_
  obtain ⟨q1, kk⟩ := kk
  refine r_get dX7_isLast_2 fkX7_34 q1 rfl ?_
  refine r_ci (x := 1) dX7_isLast_5 rfl ?_
  refine r_p (pc2 := 7) dX7_isLast_6 rfl rfl ?_
  refine r_ceq dX7_isLast_7 rfl (fun c7_1 => ?_) (fun c7_1 => ?_)
  · refine r_ip (R := (rIp T)) c7_1 ?_
    refine r_ci (x := 1) dX7_isLast_27 rfl ?_
    refine r_go dX7_isLast_28 rfl ?_
    exact r_qIp dX7_isLast_32 rfl rfl rfl
  · refine r_in (R := (rIp T)) c7_1 ?_
    have kk := kk c7_1
    refine r_p (pc2 := 11) dX7_isLast_10 rfl rfl ?_
    refine r_get dX7_isLast_11 fkX7_21 q1 rfl ?_
    refine r_p (pc2 := 15) dX7_isLast_14 rfl rfl ?_
    refine r_ci (x := 1) dX7_isLast_15 rfl ?_
    refine r_p (pc2 := 17) dX7_isLast_16 rfl rfl ?_
    obtain ⟨q2, kk⟩ := kk
    refine r_ia dX7_isLast_17 (shl7_4 q1) q2 ?_
    refine r_p (pc2 := 19) dX7_isLast_18 rfl rfl ?_
    refine r_get dX7_isLast_19 fkX7_21 q1 rfl ?_
    refine r_p (pc2 := 23) dX7_isLast_22 rfl rfl ?_
    obtain ⟨q3, kk⟩ := kk
    refine r_ia dX7_isLast_23 (shl7_4 q1) q3 ?_
    refine r_ceq dX7_isLast_24 rfl (fun c24_2 => ?_) (fun c24_2 => ?_)
    · refine r_ip (R := (rIp T)) c24_2 ?_
      refine r_ci (x := 0) dX7_isLast_31 rfl ?_
      exact r_qIp dX7_isLast_32 rfl rfl rfl
    · refine r_in (R := (rIp T)) c24_2 ?_
      refine r_ci (x := 1) dX7_isLast_27 rfl ?_
      refine r_go dX7_isLast_28 rfl ?_
      exact r_qIp dX7_isLast_32 rfl rfl rfl
theorem b_ro_isLast (T : St) (a : Nat) (p0 : Int32) : x_ro_isLast T a p0 = 0 ∨ x_ro_isLast T a p0 = 1 := by
  unfold x_ro_isLast
  try simp only [jn]
  repeat' split
  all_goals (first | exact Or.inl rfl | exact Or.inr rfl)
def x_sh_isOne (T : St) (p0 : Int32) : Int32 := if p0 < 0 then (0) else (if 8 ≤ p0 then (0) else (1))
theorem c_sh_isOne {X : Nat × (Nat → Int32)} {T : St} (p0 : Int32) : tC X 1 mX8_isOne [.ref (1 : Nat), .int p0] T (some (.int (x_sh_isOne T p0))) T := by
  refine tC_orIp (L := [some (.ref (1 : Nat)), some (.int p0)]) (x_sh_isOne T p0) rfl ?_
  unfold x_sh_isOne
  refine r_p (pc2 := 1) dX8_isOne_0 rfl rfl ?_
  refine r_ilt dX8_isOne_1 rfl (fun c1_1 => ?_) (fun c1_1 => ?_)
  · refine r_ip (R := (rIp T)) c1_1 ?_
    refine r_ci (x := 0) dX8_isOne_14 rfl ?_
    exact r_qIp dX8_isOne_15 rfl rfl rfl
  · refine r_in (R := (rIp T)) c1_1 ?_
    refine r_p (pc2 := 5) dX8_isOne_4 rfl rfl ?_
    refine r_cb (x := 8) dX8_isOne_5 rfl ?_
    refine r_cge dX8_isOne_7 rfl (fun c7_2 => ?_) (fun c7_2 => ?_)
    · refine r_ip (R := (rIp T)) c7_2 ?_
      refine r_ci (x := 0) dX8_isOne_14 rfl ?_
      exact r_qIp dX8_isOne_15 rfl rfl rfl
    · refine r_in (R := (rIp T)) c7_2 ?_
      refine r_ci (x := 1) dX8_isOne_10 rfl ?_
      refine r_go dX8_isOne_11 rfl ?_
      exact r_qIp dX8_isOne_15 rfl rfl rfl
theorem b_sh_isOne (T : St) (p0 : Int32) : x_sh_isOne T p0 = 0 ∨ x_sh_isOne T p0 = 1 := by
  unfold x_sh_isOne
  try simp only [jn]
  repeat' split
  all_goals (first | exact Or.inl rfl | exact Or.inr rfl)
def x_sh_isMissing (T : St) (p0 : Int32) : Int32 := if (T.2.2.1 2 (p0 : Int32).toNatClampNeg) = (-1) then (1) else (0)
def ok_sh_isMissing (T : St) (p0 : Int32) : Prop := (vp_in p0 8) ∧ True
theorem c_sh_isMissing {X : Nat × (Nat → Int32)} {T : St} (p0 : Int32) (kk : ok_sh_isMissing T p0) : tC X 1 mX8_isMissing [.ref (1 : Nat), .int p0] T (some (.int (x_sh_isMissing T p0))) T := by
  unfold ok_sh_isMissing at kk
  refine tC_orIp (L := [some (.ref (1 : Nat)), some (.int p0)]) (x_sh_isMissing T p0) rfl ?_
  unfold x_sh_isMissing
  refine r_p (pc2 := 1) dX8_isMissing_0 rfl rfl ?_
  refine r_get dX8_isMissing_1 fkX8_9 rfl rfl ?_
  refine r_p (pc2 := 5) dX8_isMissing_4 rfl rfl ?_
  obtain ⟨q1, kk⟩ := kk
  refine r_ia dX8_isMissing_5 rfl q1 ?_
  refine r_ci (x := -1) dX8_isMissing_6 rfl ?_
  refine r_cne dX8_isMissing_7 rfl (fun c7_1 => ?_) (fun c7_1 => ?_)
  · refine r_in (R := (rIp T)) c7_1 ?_
    refine r_ci (x := 0) dX8_isMissing_14 rfl ?_
    exact r_qIp dX8_isMissing_15 rfl rfl rfl
  · refine r_ip (R := (rIp T)) c7_1 ?_
    refine r_ci (x := 1) dX8_isMissing_10 rfl ?_
    refine r_go dX8_isMissing_11 rfl ?_
    exact r_qIp dX8_isMissing_15 rfl rfl rfl
theorem b_sh_isMissing (T : St) (p0 : Int32) : x_sh_isMissing T p0 = 0 ∨ x_sh_isMissing T p0 = 1 := by
  unfold x_sh_isMissing
  try simp only [jn]
  repeat' split
  all_goals (first | exact Or.inl rfl | exact Or.inr rfl)
def x_sh_reaches (T : St) (p0 : Int32) (p1 : Int32) (p2 : Int32) : Int32 := if p1 < 0 then (0) else (if p2 < 0 then (0) else (if (T.2.2.1 3 (p0 : Int32).toNatClampNeg) < p2 then (0) else (if ((T.2.2.1 3 (p0 : Int32).toNatClampNeg) - p2) < p1 then (0) else (1))))
def ok_sh_reaches (T : St) (p0 : Int32) (p1 : Int32) (p2 : Int32) : Prop := (¬ p1 < 0 → (¬ p2 < 0 → (vp_in p0 8) ∧ True))
theorem c_sh_reaches {X : Nat × (Nat → Int32)} {T : St} (p0 : Int32) (p1 : Int32) (p2 : Int32) (kk : ok_sh_reaches T p0 p1 p2) : tC X 1 mX8_reaches [.ref (1 : Nat), .int p0, .int p1, .int p2] T (some (.int (x_sh_reaches T p0 p1 p2))) T := by
  unfold ok_sh_reaches at kk
  refine tC_orIp (L := [some (.ref (1 : Nat)), some (.int p0), some (.int p1), some (.int p2)]) (x_sh_reaches T p0 p1 p2) rfl ?_
  unfold x_sh_reaches
  refine r_p (pc2 := 1) dX8_reaches_0 rfl rfl ?_
  refine r_ilt dX8_reaches_1 rfl (fun c1_1 => ?_) (fun c1_1 => ?_)
  · refine r_ip (R := (rIp T)) c1_1 ?_
    refine r_ci (x := 0) dX8_reaches_34 rfl ?_
    exact r_qIp dX8_reaches_35 rfl rfl rfl
  · refine r_in (R := (rIp T)) c1_1 ?_
    have kk := kk c1_1
    refine r_p (pc2 := 5) dX8_reaches_4 rfl rfl ?_
    refine r_ilt dX8_reaches_5 rfl (fun c5_2 => ?_) (fun c5_2 => ?_)
    · refine r_ip (R := (rIp T)) c5_2 ?_
      refine r_ci (x := 0) dX8_reaches_34 rfl ?_
      exact r_qIp dX8_reaches_35 rfl rfl rfl
    · refine r_in (R := (rIp T)) c5_2 ?_
      have kk := kk c5_2
      refine r_p (pc2 := 9) dX8_reaches_8 rfl rfl ?_
      refine r_p (pc2 := 10) dX8_reaches_9 rfl rfl ?_
      refine r_get dX8_reaches_10 fkX8_13 rfl rfl ?_
      refine r_p (pc2 := 14) dX8_reaches_13 rfl rfl ?_
      obtain ⟨q1, kk⟩ := kk
      refine r_ia dX8_reaches_14 rfl q1 ?_
      refine r_cgt dX8_reaches_15 rfl (fun c15_3 => ?_) (fun c15_3 => ?_)
      · refine r_ip (R := (rIp T)) c15_3 ?_
        refine r_ci (x := 0) dX8_reaches_34 rfl ?_
        exact r_qIp dX8_reaches_35 rfl rfl rfl
      · refine r_in (R := (rIp T)) c15_3 ?_
        refine r_p (pc2 := 19) dX8_reaches_18 rfl rfl ?_
        refine r_p (pc2 := 20) dX8_reaches_19 rfl rfl ?_
        refine r_get dX8_reaches_20 fkX8_13 rfl rfl ?_
        refine r_p (pc2 := 24) dX8_reaches_23 rfl rfl ?_
        refine r_ia dX8_reaches_24 rfl q1 ?_
        refine r_p (pc2 := 26) dX8_reaches_25 rfl rfl ?_
        refine r_p (pc2 := 27) dX8_reaches_26 rfl rfl ?_
        refine r_cgt dX8_reaches_27 rfl (fun c27_4 => ?_) (fun c27_4 => ?_)
        · refine r_ip (R := (rIp T)) c27_4 ?_
          refine r_ci (x := 0) dX8_reaches_34 rfl ?_
          exact r_qIp dX8_reaches_35 rfl rfl rfl
        · refine r_in (R := (rIp T)) c27_4 ?_
          refine r_ci (x := 1) dX8_reaches_30 rfl ?_
          refine r_go dX8_reaches_31 rfl ?_
          exact r_qIp dX8_reaches_35 rfl rfl rfl
theorem b_sh_reaches (T : St) (p0 : Int32) (p1 : Int32) (p2 : Int32) : x_sh_reaches T p0 p1 p2 = 0 ∨ x_sh_reaches T p0 p1 p2 = 1 := by
  unfold x_sh_reaches
  try simp only [jn]
  repeat' split
  all_goals (first | exact Or.inl rfl | exact Or.inr rfl)
