def x_sh_lay (T : St) (p0 : Int32) (p1 : Int32) (p2 : Int32) : St := x_fillI (sA (sA T 2 (p0 : Int32).toNatClampNeg p1) 3 (p0 : Int32).toNatClampNeg p2) (5 + (p0 : Int32).toNatClampNeg) 0
def ok_sh_lay (T : St) (p0 : Int32) (p1 : Int32) (p2 : Int32) : Prop := (vp_in p0 8) ∧ (ok_fillI (sA (sA T 2 (p0 : Int32).toNatClampNeg p1) 3 (p0 : Int32).toNatClampNeg p2) (5 + (p0 : Int32).toNatClampNeg) 0) ∧ True
theorem c_sh_lay {X : Nat × (Nat → Int32)} {T : St} (p0 : Int32) (p1 : Int32) (p2 : Int32) (kk : ok_sh_lay T p0 p1 p2) : tC X 2 mX8_lay [.ref (1 : Nat), .int p0, .int p1, .int p2] T none (x_sh_lay T p0 p1 p2) := by
  unfold ok_sh_lay at kk
  refine tC_orV (L := [some (.ref (1 : Nat)), some (.int p0), some (.int p1), some (.int p2)]) (x_sh_lay T p0 p1 p2) rfl ?_
  unfold x_sh_lay
  refine r_p (pc2 := 1) dX8_lay_0 rfl rfl ?_
  refine r_get dX8_lay_1 fkX8_9 rfl rfl ?_
  refine r_p (pc2 := 5) dX8_lay_4 rfl rfl ?_
  refine r_p (pc2 := 6) dX8_lay_5 rfl rfl ?_
  obtain ⟨q1, kk⟩ := kk
  refine r_ias dX8_lay_6 rfl q1 ?_
  refine r_p (pc2 := 8) dX8_lay_7 rfl rfl ?_
  refine r_get dX8_lay_8 fkX8_13 rfl rfl ?_
  refine r_p (pc2 := 12) dX8_lay_11 rfl rfl ?_
  refine r_p (pc2 := 13) dX8_lay_12 rfl rfl ?_
  refine r_ias dX8_lay_13 rfl q1 ?_
  refine r_p (pc2 := 15) dX8_lay_14 rfl rfl ?_
  refine r_get dX8_lay_15 fkX8_18 rfl rfl ?_
  refine r_p (pc2 := 19) dX8_lay_18 rfl rfl ?_
  refine r_aa dX8_lay_19 rfl (by decide) q1 (rf4 q1) ?_
  refine r_ci (x := 0) dX8_lay_20 rfl ?_
  obtain ⟨q2, kk⟩ := kk
  refine r_cs (d1 := 1) dX8_lay_21 csX8_21 rfl rfl (Nat.le_of_ble_eq_true rfl) (Nat.le_of_ble_eq_true rfl) (Nat.le_of_ble_eq_true rfl) (c_fillI (5 + (p0 : Int32).toNatClampNeg) 0 q2) ?_
  exact r_qV dX8_lay_24 rfl rfl
def x_sh_write (T : St) (p0 : Int32) (p1 : Int32) (p2 : Int32) : Int32 × St := jn (fun (KJ1 : Int32 → Int32 × St) => if (T.2.2.1 2 (p0 : Int32).toNatClampNeg) = 0 then (KJ1 ((p2 : Int32).toInt8.toInt32)) else (if (T.2.2.1 2 (p0 : Int32).toNatClampNeg) = 1 then (KJ1 ((p2 : Int32).toInt16.toInt32)) else (KJ1 p2))) (fun (j1_s0 : Int32) => (j1_s0, sA T (5 + (p0 : Int32).toNatClampNeg) (p1 : Int32).toNatClampNeg j1_s0))
def ok_sh_write (T : St) (p0 : Int32) (p1 : Int32) (p2 : Int32) : Prop := (vp_in p0 8) ∧ jn (fun (OJ1 : Int32 → Prop) => (((T.2.2.1 2 (p0 : Int32).toNatClampNeg) = 0 → OJ1 ((p2 : Int32).toInt8.toInt32)) ∧ (¬ (T.2.2.1 2 (p0 : Int32).toNatClampNeg) = 0 → (((T.2.2.1 2 (p0 : Int32).toNatClampNeg) = 1 → OJ1 ((p2 : Int32).toInt16.toInt32)) ∧ (¬ (T.2.2.1 2 (p0 : Int32).toNatClampNeg) = 1 → OJ1 p2))))) (fun (j1_s0 : Int32) => (vp_in p1 40) ∧ True)
theorem c_sh_write {X : Nat × (Nat → Int32)} {T : St} (p0 : Int32) (p1 : Int32) (p2 : Int32) (kk : ok_sh_write T p0 p1 p2) : tC X 1 mX8_write [.ref (1 : Nat), .int p0, .int p1, .int p2] T (some (.int (x_sh_write T p0 p1 p2).1)) ((x_sh_write T p0 p1 p2).2) := by
  unfold ok_sh_write at kk
  refine tC_orI (L := [some (.ref (1 : Nat)), some (.int p0), some (.int p1), some (.int p2), none]) (x_sh_write T p0 p1 p2) rfl ?_
  unfold x_sh_write
  refine r_p (pc2 := 1) dX8_write_0 rfl rfl ?_
  refine r_get dX8_write_1 fkX8_9 rfl rfl ?_
  refine r_p (pc2 := 5) dX8_write_4 rfl rfl ?_
  obtain ⟨q1, kk⟩ := kk
  refine r_ia dX8_write_5 rfl q1 ?_
  refine r_jn (R := rI) (J := fun (KJ1 : Int32 → Int32 × St) (OJ1 : Int32 → Prop) => ∀ (j1_s0 : Int32), OJ1 j1_s0 → tR X 0 mX8_write 30 [some (.ref (1 : Nat)), some (.int p0), some (.int p1), some (.int p2), none] [.int j1_s0] T (rI (KJ1 j1_s0)).1 (rI (KJ1 j1_s0)).2) kk (fun j1_s0 kk => ?_) (fun KJ1 OJ1 hJ1 kk => ?_)
  · skip
    refine r_p (pc2 := 32) (L2 := [some (.ref (1 : Nat)), some (.int p0), some (.int p1), some (.int p2), some (.int j1_s0)]) dX8_write_30 rfl rfl ?_
    refine r_p (pc2 := 33) dX8_write_32 rfl rfl ?_
    refine r_get dX8_write_33 fkX8_18 rfl rfl ?_
    refine r_p (pc2 := 37) dX8_write_36 rfl rfl ?_
    refine r_aa dX8_write_37 rfl (by decide) q1 (rf4 q1) ?_
    refine r_p (pc2 := 39) dX8_write_38 rfl rfl ?_
    refine r_p (pc2 := 41) dX8_write_39 rfl rfl ?_
    obtain ⟨q2, kk⟩ := kk
    refine r_ias dX8_write_41 (shr4 q1) q2 ?_
    refine r_p (pc2 := 44) dX8_write_42 rfl rfl ?_
    exact r_qI dX8_write_44 rfl rfl rfl rfl
  refine r_ine dX8_write_6 rfl (fun c6_3 => ?_) (fun c6_3 => ?_)
  · refine r_in (R := rI) c6_3 ?_
    have kk := kk.2 c6_3
    refine r_p (pc2 := 15) dX8_write_14 rfl rfl ?_
    refine r_get dX8_write_15 fkX8_9 rfl rfl ?_
    refine r_p (pc2 := 19) dX8_write_18 rfl rfl ?_
    refine r_ia dX8_write_19 rfl q1 ?_
    refine r_ci (x := 1) dX8_write_20 rfl ?_
    refine r_cne dX8_write_21 rfl (fun c21_4 => ?_) (fun c21_4 => ?_)
    · refine r_in (R := rI) c21_4 ?_
      have kk := kk.2 c21_4
      refine r_p (pc2 := 30) dX8_write_29 rfl rfl ?_
      show tR _ _ _ _ [some (.ref (1 : Nat)), some (.int p0), some (.int p1), some (.int p2), none] [.int p2] _ _ _
      exact (hJ1 p2 kk)
    · refine r_ip (R := rI) c21_4 ?_
      have kk := kk.1 c21_4
      refine r_p (pc2 := 25) dX8_write_24 rfl rfl ?_
      refine r_p (pc2 := 26) dX8_write_25 rfl rfl ?_
      refine r_go dX8_write_26 rfl ?_
      show tR _ _ _ _ [some (.ref (1 : Nat)), some (.int p0), some (.int p1), some (.int p2), none] [.int ((p2 : Int32).toInt16.toInt32)] _ _ _
      exact (hJ1 ((p2 : Int32).toInt16.toInt32) kk)
  · refine r_ip (R := rI) c6_3 ?_
    have kk := kk.1 c6_3
    refine r_p (pc2 := 10) dX8_write_9 rfl rfl ?_
    refine r_p (pc2 := 11) dX8_write_10 rfl rfl ?_
    refine r_go dX8_write_11 rfl ?_
    show tR _ _ _ _ [some (.ref (1 : Nat)), some (.int p0), some (.int p1), some (.int p2), none] [.int ((p2 : Int32).toInt8.toInt32)] _ _ _
    exact (hJ1 ((p2 : Int32).toInt8.toInt32) kk)
def x_sh_lose (T : St) (p0 : Int32) : Int32 × St := ((sA T 2 (p0 : Int32).toNatClampNeg (-1)).2.2.1 3 (p0 : Int32).toNatClampNeg, sA T 2 (p0 : Int32).toNatClampNeg (-1))
def ok_sh_lose (T : St) (p0 : Int32) : Prop := (vp_in p0 8) ∧ True
theorem c_sh_lose {X : Nat × (Nat → Int32)} {T : St} (p0 : Int32) (kk : ok_sh_lose T p0) : tC X 1 mX8_lose [.ref (1 : Nat), .int p0] T (some (.int (x_sh_lose T p0).1)) ((x_sh_lose T p0).2) := by
  unfold ok_sh_lose at kk
  refine tC_orI (L := [some (.ref (1 : Nat)), some (.int p0)]) (x_sh_lose T p0) rfl ?_
  unfold x_sh_lose
  refine r_p (pc2 := 1) dX8_lose_0 rfl rfl ?_
  refine r_get dX8_lose_1 fkX8_9 rfl rfl ?_
  refine r_p (pc2 := 5) dX8_lose_4 rfl rfl ?_
  refine r_ci (x := -1) dX8_lose_5 rfl ?_
  obtain ⟨q1, kk⟩ := kk
  refine r_ias dX8_lose_6 rfl q1 ?_
  refine r_p (pc2 := 8) dX8_lose_7 rfl rfl ?_
  refine r_get dX8_lose_8 fkX8_13 rfl rfl ?_
  refine r_p (pc2 := 12) dX8_lose_11 rfl rfl ?_
  refine r_ia dX8_lose_12 rfl q1 ?_
  exact r_qI dX8_lose_13 rfl rfl rfl rfl
def x_sh_present_4 (T : St)  (K : Int32 → Int32 → Int32) : Nat → Int32 → Int32 → Int32
  | 0, _, _ => 0
  | f + 1, v1, v2 => if 8 ≤ v2 then (K v1 v2) else (if (T.2.2.1 2 (v2 : Int32).toNatClampNeg) = (-1) then (x_sh_present_4 T K f v1 (v2 + 1)) else (x_sh_present_4 T K f (v1 + 1) (v2 + 1)))
def ok_sh_present_4 (T : St)  (Kk : Int32 → Int32 → Prop) : Nat → Int32 → Int32 → Prop
  | 0, _, _ => False
  | f + 1, v1, v2 => ((8 ≤ v2 → Kk v1 v2) ∧ (¬ 8 ≤ v2 → (vp_in v2 8) ∧ (((T.2.2.1 2 (v2 : Int32).toNatClampNeg) = (-1) → ok_sh_present_4 T Kk f v1 (v2 + 1)) ∧ (¬ (T.2.2.1 2 (v2 : Int32).toNatClampNeg) = (-1) → ok_sh_present_4 T Kk f (v1 + 1) (v2 + 1)))))
theorem c_sh_present_4 {X : Nat × (Nat → Int32)} (T : St)  {K : Int32 → Int32 → Int32} {Kk : Int32 → Int32 → Prop} (hk : ∀ (v1 : Int32) (v2 : Int32), Kk v1 v2 → tR X 0 mX8_present 29 [some (.ref (1 : Nat)), some (.int v1), some (.int v2)] [] T ((rIp T) (K v1 v2)).1 (((rIp T) (K v1 v2)).2)) : ∀ (f : Nat) (v1 : Int32) (v2 : Int32), ok_sh_present_4 T  Kk f v1 v2 → tR X 0 mX8_present 4 [some (.ref (1 : Nat)), some (.int v1), some (.int v2)] [] T ((rIp T) (x_sh_present_4 T K f v1 v2)).1 (((rIp T) (x_sh_present_4 T K f v1 v2)).2) := by
  intro f
  induction f with
  | zero => intro v1 v2 kk; exact kk.elim
  | succ f ih =>
    intro v1 v2 kk
    rw [ok_sh_present_4] at kk
    rw [x_sh_present_4]
    refine r_p (pc2 := 5) dX8_present_4 rfl rfl ?_
    refine r_cb (x := 8) dX8_present_5 rfl ?_
    refine r_cge dX8_present_7 rfl (fun c7_1 => ?_) (fun c7_1 => ?_)
    · refine r_ip (R := (rIp T)) c7_1 ?_
      have kk := kk.1 c7_1
      show tR _ _ _ _ [some (.ref (1 : Nat)), some (.int v1), some (.int v2)] _ _ _ _
      exact (hk v1 v2  kk)
    · refine r_in (R := (rIp T)) c7_1 ?_
      have kk := kk.2 c7_1
      refine r_p (pc2 := 11) dX8_present_10 rfl rfl ?_
      refine r_get dX8_present_11 fkX8_9 rfl rfl ?_
      refine r_p (pc2 := 15) dX8_present_14 rfl rfl ?_
      obtain ⟨q1, kk⟩ := kk
      refine r_ia dX8_present_15 rfl q1 ?_
      refine r_ci (x := -1) dX8_present_16 rfl ?_
      refine r_ceq dX8_present_17 rfl (fun c17_2 => ?_) (fun c17_2 => ?_)
      · refine r_ip (R := (rIp T)) c17_2 ?_
        have kk := kk.1 c17_2
        refine r_inc (L2 := [some (.ref (1 : Nat)), some (.int v1), some (.int (v2 + 1))]) (y := 1) dX8_present_23 rfl rfl rfl ?_
        refine r_go dX8_present_26 rfl ?_
        show tR _ _ _ _ [some (.ref (1 : Nat)), some (.int v1), some (.int (v2 + 1))] _ _ _ _
        exact (ih v1 (v2 + 1)  kk)
      · refine r_in (R := (rIp T)) c17_2 ?_
        have kk := kk.2 c17_2
        refine r_inc (L2 := [some (.ref (1 : Nat)), some (.int (v1 + 1)), some (.int v2)]) (y := 1) dX8_present_20 rfl rfl rfl ?_
        refine r_inc (L2 := [some (.ref (1 : Nat)), some (.int (v1 + 1)), some (.int (v2 + 1))]) (y := 1) dX8_present_23 rfl rfl rfl ?_
        refine r_go dX8_present_26 rfl ?_
        show tR _ _ _ _ [some (.ref (1 : Nat)), some (.int (v1 + 1)), some (.int (v2 + 1))] _ _ _ _
        exact (ih (v1 + 1) (v2 + 1)  kk)
def x_sh_present (T : St)  : Int32 := x_sh_present_4 T  (fun (w1_1 : Int32) (w1_2 : Int32) => w1_1) 1000 0 0
def ok_sh_present (T : St)  : Prop := ok_sh_present_4 T  (fun (w1_1 : Int32) (w1_2 : Int32) => True) 1000 0 0
theorem c_sh_present {X : Nat × (Nat → Int32)} {T : St}  (kk : ok_sh_present T ) : tC X 1 mX8_present [.ref (1 : Nat)] T (some (.int (x_sh_present T))) T := by
  unfold ok_sh_present at kk
  refine tC_orIp (L := [some (.ref (1 : Nat)), none, none]) (x_sh_present T ) rfl ?_
  unfold x_sh_present
  refine r_ci (x := 0) dX8_present_0 rfl ?_
  refine r_p (pc2 := 2) (L2 := [some (.ref (1 : Nat)), some (.int 0), none]) dX8_present_1 rfl rfl ?_
  refine r_ci (x := 0) dX8_present_2 rfl ?_
  refine r_p (pc2 := 4) (L2 := [some (.ref (1 : Nat)), some (.int 0), some (.int 0)]) dX8_present_3 rfl rfl ?_
  show tR _ _ _ _ [some (.ref (1 : Nat)), some (.int 0), some (.int 0)] _ _ _ _
  refine (c_sh_present_4 T  (fun w1_1 w1_2 kk => ?_) 1000 0 0  kk)
  · skip
    refine r_p (pc2 := 30) dX8_present_29 rfl rfl ?_
    exact r_qIp dX8_present_30 rfl rfl rfl
def x_ta_open_2 (l0 : Nat) (l1 : Nat) (K : Int32 → St → St) : Nat → Int32 → St → St
  | 0, _, T => T
  | f + 1, v2, T => if 5 ≤ v2 then (K v2 T) else (jn (fun (T1 : St) => x_ta_open_2 l0 l1 K f (v2 + 1) (sL T1 (l0 + 4) (v2 : Int32).toNatClampNeg (x_ki_fewerThan T1 l1 v2 1))) (sL (sL (sL T (l0 + 1) (v2 : Int32).toNatClampNeg 0) (l0 + 2) (v2 : Int32).toNatClampNeg 0) (l0 + 3) (v2 : Int32).toNatClampNeg 0))
def ok_ta_open_2 (l0 : Nat) (l1 : Nat) (Kk : Int32 → St → Prop) : Nat → Int32 → St → Prop
  | 0, _, _ => False
  | f + 1, v2, T => ((5 ≤ v2 → Kk v2 T) ∧ (¬ 5 ≤ v2 → (sh l0 = .inr 9) ∧ (vp_in v2 5) ∧ jn (fun (T1 : St) => (ok_ki_fewerThan T1 l1 v2 1) ∧ (sh l1 = .inr 3) ∧ ok_ta_open_2 l0 l1 Kk f (v2 + 1) (sL T1 (l0 + 4) (v2 : Int32).toNatClampNeg (x_ki_fewerThan T1 l1 v2 1))) (sL (sL (sL T (l0 + 1) (v2 : Int32).toNatClampNeg 0) (l0 + 2) (v2 : Int32).toNatClampNeg 0) (l0 + 3) (v2 : Int32).toNatClampNeg 0)))
theorem c_ta_open_2 {X : Nat × (Nat → Int32)} (l0 : Nat) (l1 : Nat) {K : Int32 → St → St} {Kk : Int32 → St → Prop} (hk : ∀ (v2 : Int32) (T : St), Kk v2 T → tR X 1 mX9_open 46 [some (.ref l0), some (.ref l1), some (.int v2)] [] T (rV (K v2 T)).1 ((rV (K v2 T)).2)) : ∀ (f : Nat) (v2 : Int32) (T : St), ok_ta_open_2 l0 l1 Kk f v2 T → tR X 1 mX9_open 2 [some (.ref l0), some (.ref l1), some (.int v2)] [] T (rV (x_ta_open_2 l0 l1 K f v2 T)).1 ((rV (x_ta_open_2 l0 l1 K f v2 T)).2) := by
  intro f
  induction f with
  | zero => intro v2 T kk; exact kk.elim
  | succ f ih =>
    intro v2 T kk
    rw [ok_ta_open_2] at kk
    rw [x_ta_open_2]
    refine r_p (pc2 := 3) dX9_open_2 rfl rfl ?_
    refine r_ci (x := 5) dX9_open_3 rfl ?_
    refine r_cge dX9_open_4 rfl (fun c4_1 => ?_) (fun c4_1 => ?_)
    · refine r_ip (R := rV) c4_1 ?_
      have kk := kk.1 c4_1
      show tR _ _ _ _ [some (.ref l0), some (.ref l1), some (.int v2)] _ _ _ _
      exact (hk v2 T kk)
    · refine r_in (R := rV) c4_1 ?_
      have kk := kk.2 c4_1
      refine r_p (pc2 := 8) dX9_open_7 rfl rfl ?_
      obtain ⟨q1, kk⟩ := kk
      refine r_get dX9_open_8 fkX9_9 q1 rfl ?_
      refine r_p (pc2 := 12) dX9_open_11 rfl rfl ?_
      refine r_cl (x := 0) dX9_open_12 rfl ?_
      obtain ⟨q2, kk⟩ := kk
      refine r_las dX9_open_13 (shl9_1 q1) q2 ?_
      refine r_p (pc2 := 15) dX9_open_14 rfl rfl ?_
      refine r_get dX9_open_15 fkX9_15 q1 rfl ?_
      refine r_p (pc2 := 19) dX9_open_18 rfl rfl ?_
      refine r_cl (x := 0) dX9_open_19 rfl ?_
      refine r_las dX9_open_20 (shl9_2 q1) q2 ?_
      refine r_p (pc2 := 22) dX9_open_21 rfl rfl ?_
      refine r_get dX9_open_22 fkX9_18 q1 rfl ?_
      refine r_p (pc2 := 26) dX9_open_25 rfl rfl ?_
      refine r_cl (x := 0) dX9_open_26 rfl ?_
      refine r_las dX9_open_27 (shl9_3 q1) q2 ?_
      refine r_nT (R := rV) rfl kk (fun T1 kk => ?_)
      refine r_p (pc2 := 29) dX9_open_28 rfl rfl ?_
      refine r_get dX9_open_29 fkX9_21 q1 rfl ?_
      refine r_p (pc2 := 33) dX9_open_32 rfl rfl ?_
      refine r_p (pc2 := 34) dX9_open_33 rfl rfl ?_
      refine r_p (pc2 := 35) dX9_open_34 rfl rfl ?_
      refine r_ci (x := 1) dX9_open_35 rfl ?_
      obtain ⟨q3, kk⟩ := kk
      obtain ⟨q4, kk⟩ := kk
      refine r_cv (d1 := 1) dX9_open_36 cvX9_24 rfl rfl q4 rfl (Nat.le_of_ble_eq_true rfl) (Nat.le_of_ble_eq_true rfl) (Nat.le_of_ble_eq_true rfl) (c_ki_fewerThan l1 v2 1 q3) ?_
      refine r_las dX9_open_39 (shl9_4 q1) q2 ?_
      refine r_inc (L2 := [some (.ref l0), some (.ref l1), some (.int (v2 + 1))]) (y := 1) dX9_open_40 rfl rfl rfl ?_
      refine r_go dX9_open_43 rfl ?_
      show tR _ _ _ _ [some (.ref l0), some (.ref l1), some (.int (v2 + 1))] _ _ _ _
      exact (ih (v2 + 1) (sL T1 (l0 + 4) (v2 : Int32).toNatClampNeg (x_ki_fewerThan T1 l1 v2 1)) kk)
def x_ta_open (T : St) (a : Nat) (p0 : Nat) : St := x_ta_open_2 a p0 (fun (w1_2 : Int32) (T201 : St) => T201) 1000 0 T
def ok_ta_open (T : St) (a : Nat) (p0 : Nat) : Prop := ok_ta_open_2 a p0 (fun (w1_2 : Int32) (T201 : St) => True) 1000 0 T
theorem c_ta_open {X : Nat × (Nat → Int32)} {T : St} (a : Nat) (p0 : Nat) (kk : ok_ta_open T a p0) : tC X 2 mX9_open [.ref a, .ref p0] T none (x_ta_open T a p0) := by
  unfold ok_ta_open at kk
  refine tC_orV (L := [some (.ref a), some (.ref p0), none]) (x_ta_open T a p0) rfl ?_
  unfold x_ta_open
  refine r_ci (x := 0) dX9_open_0 rfl ?_
  refine r_p (pc2 := 2) (L2 := [some (.ref a), some (.ref p0), some (.int 0)]) dX9_open_1 rfl rfl ?_
  show tR _ _ _ _ [some (.ref a), some (.ref p0), some (.int 0)] _ _ _ _
  refine (c_ta_open_2 a p0 (fun w1_2 T201 kk => ?_) 1000 0 T kk)
  · skip
    exact r_qV dX9_open_46 rfl rfl
def x_ta_hasRoom (T : St) (a : Nat) (p0 : Nat) : Int32 := if (lg_cmp ((T.2.2.2 (a + 4) (0 : Int32).toNatClampNeg) &&& (T.2.2.2 p0 (0 : Int32).toNatClampNeg)) 0) = 0 then (if (lg_cmp ((T.2.2.2 (a + 4) (1 : Int32).toNatClampNeg) &&& (T.2.2.2 p0 (1 : Int32).toNatClampNeg)) 0) = 0 then (if (lg_cmp ((T.2.2.2 (a + 4) (2 : Int32).toNatClampNeg) &&& (T.2.2.2 p0 (2 : Int32).toNatClampNeg)) 0) = 0 then (if (lg_cmp ((T.2.2.2 (a + 4) (3 : Int32).toNatClampNeg) &&& (T.2.2.2 p0 (3 : Int32).toNatClampNeg)) 0) = 0 then (if (lg_cmp ((T.2.2.2 (a + 4) (4 : Int32).toNatClampNeg) &&& (T.2.2.2 p0 (4 : Int32).toNatClampNeg)) 0) = 0 then (1) else (0)) else (0)) else (0)) else (0)) else (0)
def ok_ta_hasRoom (T : St) (a : Nat) (p0 : Nat) : Prop := (sh a = .inr 9) ∧ (sh p0 = .inl (1, 5)) ∧ True
theorem c_ta_hasRoom {X : Nat × (Nat → Int32)} {T : St} (a : Nat) (p0 : Nat) (kk : ok_ta_hasRoom T a p0) : tC X 1 mX9_hasRoom [.ref a, .ref p0] T (some (.int (x_ta_hasRoom T a p0))) T := by
  unfold ok_ta_hasRoom at kk
  refine tC_orIp (L := [some (.ref a), some (.ref p0)]) (x_ta_hasRoom T a p0) rfl ?_
  unfold x_ta_hasRoom
  refine r_p (pc2 := 1) dX9_hasRoom_0 rfl rfl ?_
  obtain ⟨q1, kk⟩ := kk
  refine r_get dX9_hasRoom_1 fkX9_21 q1 rfl ?_
  refine r_ci (x := 0) dX9_hasRoom_4 rfl ?_
  refine r_la dX9_hasRoom_5 (shl9_4 q1) (in_c (by decide)) ?_
  refine r_p (pc2 := 7) dX9_hasRoom_6 rfl rfl ?_
  refine r_ci (x := 0) dX9_hasRoom_7 rfl ?_
  obtain ⟨q2, kk⟩ := kk
  refine r_la dX9_hasRoom_8 q2 (in_c (by decide)) ?_
  refine r_p (pc2 := 10) dX9_hasRoom_9 rfl rfl ?_
  refine r_cl (x := 0) dX9_hasRoom_10 rfl ?_
  refine r_p (pc2 := 12) dX9_hasRoom_11 rfl rfl ?_
  refine r_ine dX9_hasRoom_12 rfl (fun c12_1 => ?_) (fun c12_1 => ?_)
  · refine r_in (R := (rIp T)) c12_1 ?_
    refine r_ci (x := 0) dX9_hasRoom_79 rfl ?_
    exact r_qIp dX9_hasRoom_80 rfl rfl rfl
  · refine r_ip (R := (rIp T)) c12_1 ?_
    refine r_p (pc2 := 16) dX9_hasRoom_15 rfl rfl ?_
    refine r_get dX9_hasRoom_16 fkX9_21 q1 rfl ?_
    refine r_ci (x := 1) dX9_hasRoom_19 rfl ?_
    refine r_la dX9_hasRoom_20 (shl9_4 q1) (in_c (by decide)) ?_
    refine r_p (pc2 := 22) dX9_hasRoom_21 rfl rfl ?_
    refine r_ci (x := 1) dX9_hasRoom_22 rfl ?_
    refine r_la dX9_hasRoom_23 q2 (in_c (by decide)) ?_
    refine r_p (pc2 := 25) dX9_hasRoom_24 rfl rfl ?_
    refine r_cl (x := 0) dX9_hasRoom_25 rfl ?_
    refine r_p (pc2 := 27) dX9_hasRoom_26 rfl rfl ?_
    refine r_ine dX9_hasRoom_27 rfl (fun c27_2 => ?_) (fun c27_2 => ?_)
    · refine r_in (R := (rIp T)) c27_2 ?_
      refine r_ci (x := 0) dX9_hasRoom_79 rfl ?_
      exact r_qIp dX9_hasRoom_80 rfl rfl rfl
    · refine r_ip (R := (rIp T)) c27_2 ?_
      refine r_p (pc2 := 31) dX9_hasRoom_30 rfl rfl ?_
      refine r_get dX9_hasRoom_31 fkX9_21 q1 rfl ?_
      refine r_ci (x := 2) dX9_hasRoom_34 rfl ?_
      refine r_la dX9_hasRoom_35 (shl9_4 q1) (in_c (by decide)) ?_
      refine r_p (pc2 := 37) dX9_hasRoom_36 rfl rfl ?_
      refine r_ci (x := 2) dX9_hasRoom_37 rfl ?_
      refine r_la dX9_hasRoom_38 q2 (in_c (by decide)) ?_
      refine r_p (pc2 := 40) dX9_hasRoom_39 rfl rfl ?_
      refine r_cl (x := 0) dX9_hasRoom_40 rfl ?_
      refine r_p (pc2 := 42) dX9_hasRoom_41 rfl rfl ?_
      refine r_ine dX9_hasRoom_42 rfl (fun c42_3 => ?_) (fun c42_3 => ?_)
      · refine r_in (R := (rIp T)) c42_3 ?_
        refine r_ci (x := 0) dX9_hasRoom_79 rfl ?_
        exact r_qIp dX9_hasRoom_80 rfl rfl rfl
      · refine r_ip (R := (rIp T)) c42_3 ?_
        refine r_p (pc2 := 46) dX9_hasRoom_45 rfl rfl ?_
        refine r_get dX9_hasRoom_46 fkX9_21 q1 rfl ?_
        refine r_ci (x := 3) dX9_hasRoom_49 rfl ?_
        refine r_la dX9_hasRoom_50 (shl9_4 q1) (in_c (by decide)) ?_
        refine r_p (pc2 := 52) dX9_hasRoom_51 rfl rfl ?_
        refine r_ci (x := 3) dX9_hasRoom_52 rfl ?_
        refine r_la dX9_hasRoom_53 q2 (in_c (by decide)) ?_
        refine r_p (pc2 := 55) dX9_hasRoom_54 rfl rfl ?_
        refine r_cl (x := 0) dX9_hasRoom_55 rfl ?_
        refine r_p (pc2 := 57) dX9_hasRoom_56 rfl rfl ?_
        refine r_ine dX9_hasRoom_57 rfl (fun c57_4 => ?_) (fun c57_4 => ?_)
        · refine r_in (R := (rIp T)) c57_4 ?_
          refine r_ci (x := 0) dX9_hasRoom_79 rfl ?_
          exact r_qIp dX9_hasRoom_80 rfl rfl rfl
        · refine r_ip (R := (rIp T)) c57_4 ?_
          refine r_p (pc2 := 61) dX9_hasRoom_60 rfl rfl ?_
          refine r_get dX9_hasRoom_61 fkX9_21 q1 rfl ?_
          refine r_ci (x := 4) dX9_hasRoom_64 rfl ?_
          refine r_la dX9_hasRoom_65 (shl9_4 q1) (in_c (by decide)) ?_
          refine r_p (pc2 := 67) dX9_hasRoom_66 rfl rfl ?_
          refine r_ci (x := 4) dX9_hasRoom_67 rfl ?_
          refine r_la dX9_hasRoom_68 q2 (in_c (by decide)) ?_
          refine r_p (pc2 := 70) dX9_hasRoom_69 rfl rfl ?_
          refine r_cl (x := 0) dX9_hasRoom_70 rfl ?_
          refine r_p (pc2 := 72) dX9_hasRoom_71 rfl rfl ?_
          refine r_ine dX9_hasRoom_72 rfl (fun c72_5 => ?_) (fun c72_5 => ?_)
          · refine r_in (R := (rIp T)) c72_5 ?_
            refine r_ci (x := 0) dX9_hasRoom_79 rfl ?_
            exact r_qIp dX9_hasRoom_80 rfl rfl rfl
          · refine r_ip (R := (rIp T)) c72_5 ?_
            refine r_ci (x := 1) dX9_hasRoom_75 rfl ?_
            refine r_go dX9_hasRoom_76 rfl ?_
            exact r_qIp dX9_hasRoom_80 rfl rfl rfl
theorem b_ta_hasRoom (T : St) (a : Nat) (p0 : Nat) : x_ta_hasRoom T a p0 = 0 ∨ x_ta_hasRoom T a p0 = 1 := by
  unfold x_ta_hasRoom
  try simp only [jn]
  repeat' split
  all_goals (first | exact Or.inl rfl | exact Or.inr rfl)
def x_ta_add_3 (l0 : Nat) (l1 : Nat) (l2 : Nat) (l3 : Nat) (K : Int32 → St → St) : Nat → Int32 → St → St
  | 0, _, T => T
  | f + 1, v4, T => if 5 ≤ v4 then (K v4 T) else (jn (fun (k1 : Int64) => jn (fun (T2 : St) => jn (fun (T3 : St) => jn (fun (T4 : St) => jn (fun (T5 : St) => x_ta_add_3 l0 l1 l2 l3 K f (v4 + 1) T5) (sL T4 (l0 + 4) (v4 : Int32).toNatClampNeg ((((x_ki_fewerThan T4 l3 v4 1) ||| ((x_ki_fewerThan T4 l3 v4 2) &&& (T4.2.2.2 (l0 + 1) (v4 : Int32).toNatClampNeg))) ||| ((x_ki_fewerThan T4 l3 v4 3) &&& (T4.2.2.2 (l0 + 2) (v4 : Int32).toNatClampNeg))) ||| ((x_ki_fewerThan T4 l3 v4 4) &&& (T4.2.2.2 (l0 + 3) (v4 : Int32).toNatClampNeg))))) (sL T3 (l0 + 1) (v4 : Int32).toNatClampNeg ((T3.2.2.2 (l1 + 1) (v4 : Int32).toNatClampNeg) ||| k1))) (sL T2 (l0 + 2) (v4 : Int32).toNatClampNeg ((T2.2.2.2 (l1 + 2) (v4 : Int32).toNatClampNeg) ||| ((T2.2.2.2 (l1 + 1) (v4 : Int32).toNatClampNeg) &&& k1)))) (sL T (l0 + 3) (v4 : Int32).toNatClampNeg ((T.2.2.2 (l1 + 3) (v4 : Int32).toNatClampNeg) ||| ((T.2.2.2 (l1 + 2) (v4 : Int32).toNatClampNeg) &&& k1)))) (T.2.2.2 l2 (v4 : Int32).toNatClampNeg))
def ok_ta_add_3 (l0 : Nat) (l1 : Nat) (l2 : Nat) (l3 : Nat) (Kk : Int32 → St → Prop) : Nat → Int32 → St → Prop
  | 0, _, _ => False
  | f + 1, v4, T => ((5 ≤ v4 → Kk v4 T) ∧ (¬ 5 ≤ v4 → (sh l2 = .inl (1, 5)) ∧ (vp_in v4 5) ∧ jn (fun (k1 : Int64) => (sh l0 = .inr 9) ∧ (sh l1 = .inr 9) ∧ jn (fun (T2 : St) => jn (fun (T3 : St) => jn (fun (T4 : St) => (ok_ki_fewerThan T4 l3 v4 1) ∧ (sh l3 = .inr 3) ∧ (ok_ki_fewerThan T4 l3 v4 2) ∧ (ok_ki_fewerThan T4 l3 v4 3) ∧ (ok_ki_fewerThan T4 l3 v4 4) ∧ jn (fun (T5 : St) => ok_ta_add_3 l0 l1 l2 l3 Kk f (v4 + 1) T5) (sL T4 (l0 + 4) (v4 : Int32).toNatClampNeg ((((x_ki_fewerThan T4 l3 v4 1) ||| ((x_ki_fewerThan T4 l3 v4 2) &&& (T4.2.2.2 (l0 + 1) (v4 : Int32).toNatClampNeg))) ||| ((x_ki_fewerThan T4 l3 v4 3) &&& (T4.2.2.2 (l0 + 2) (v4 : Int32).toNatClampNeg))) ||| ((x_ki_fewerThan T4 l3 v4 4) &&& (T4.2.2.2 (l0 + 3) (v4 : Int32).toNatClampNeg))))) (sL T3 (l0 + 1) (v4 : Int32).toNatClampNeg ((T3.2.2.2 (l1 + 1) (v4 : Int32).toNatClampNeg) ||| k1))) (sL T2 (l0 + 2) (v4 : Int32).toNatClampNeg ((T2.2.2.2 (l1 + 2) (v4 : Int32).toNatClampNeg) ||| ((T2.2.2.2 (l1 + 1) (v4 : Int32).toNatClampNeg) &&& k1)))) (sL T (l0 + 3) (v4 : Int32).toNatClampNeg ((T.2.2.2 (l1 + 3) (v4 : Int32).toNatClampNeg) ||| ((T.2.2.2 (l1 + 2) (v4 : Int32).toNatClampNeg) &&& k1)))) (T.2.2.2 l2 (v4 : Int32).toNatClampNeg)))
theorem c_ta_add_3 {X : Nat × (Nat → Int32)} (l0 : Nat) (l1 : Nat) (l2 : Nat) (l3 : Nat) {K : Int32 → St → St} {Kk : Int32 → St → Prop} (hk : ∀ (v4 : Int32) (T : St), Kk v4 T → tR X 1 mX9_add 150 [some (.ref l0), some (.ref l1), some (.ref l2), some (.ref l3), some (.int v4), none, none] [] T (rV (K v4 T)).1 ((rV (K v4 T)).2)) : ∀ (f : Nat) (v4 : Int32) (T : St), ok_ta_add_3 l0 l1 l2 l3 Kk f v4 T → tR X 1 mX9_add 3 [some (.ref l0), some (.ref l1), some (.ref l2), some (.ref l3), some (.int v4), none, none] [] T (rV (x_ta_add_3 l0 l1 l2 l3 K f v4 T)).1 ((rV (x_ta_add_3 l0 l1 l2 l3 K f v4 T)).2) := by
  intro f
  induction f with
  | zero => intro v4 T kk; exact kk.elim
  | succ f ih =>
    intro v4 T kk
    rw [ok_ta_add_3] at kk
    rw [x_ta_add_3]
    refine r_p (pc2 := 5) dX9_add_3 rfl rfl ?_
    refine r_ci (x := 5) dX9_add_5 rfl ?_
    refine r_cge dX9_add_6 rfl (fun c6_1 => ?_) (fun c6_1 => ?_)
    · refine r_ip (R := rV) c6_1 ?_
      have kk := kk.1 c6_1
      show tR _ _ _ _ [some (.ref l0), some (.ref l1), some (.ref l2), some (.ref l3), some (.int v4), none, none] _ _ _ _
      exact (hk v4 T kk)
    · refine r_in (R := rV) c6_1 ?_
      have kk := kk.2 c6_1
      refine r_p (pc2 := 10) dX9_add_9 rfl rfl ?_
      refine r_p (pc2 := 12) dX9_add_10 rfl rfl ?_
      obtain ⟨q1, kk⟩ := kk
      obtain ⟨q2, kk⟩ := kk
      refine r_la dX9_add_12 q1 q2 ?_
      refine r_nJ (R := rV) rfl kk (fun k1 kk => ?_)
      refine r_p (pc2 := 15) (L2 := [some (.ref l0), some (.ref l1), some (.ref l2), some (.ref l3), some (.int v4), some (.long k1), none]) dX9_add_13 rfl rfl ?_
      refine r_p (pc2 := 16) dX9_add_15 rfl rfl ?_
      obtain ⟨q3, kk⟩ := kk
      refine r_get dX9_add_16 fkX9_18 q3 rfl ?_
      refine r_p (pc2 := 21) dX9_add_19 rfl rfl ?_
      refine r_p (pc2 := 22) dX9_add_21 rfl rfl ?_
      obtain ⟨q4, kk⟩ := kk
      refine r_get dX9_add_22 fkX9_18 q4 rfl ?_
      refine r_p (pc2 := 27) dX9_add_25 rfl rfl ?_
      refine r_la dX9_add_27 (shl9_3 q4) q2 ?_
      refine r_p (pc2 := 29) dX9_add_28 rfl rfl ?_
      refine r_get dX9_add_29 fkX9_15 q4 rfl ?_
      refine r_p (pc2 := 34) dX9_add_32 rfl rfl ?_
      refine r_la dX9_add_34 (shl9_2 q4) q2 ?_
      refine r_p (pc2 := 37) dX9_add_35 rfl rfl ?_
      refine r_p (pc2 := 38) dX9_add_37 rfl rfl ?_
      refine r_p (pc2 := 39) dX9_add_38 rfl rfl ?_
      refine r_las dX9_add_39 (shl9_3 q3) q2 ?_
      refine r_nT (R := rV) rfl kk (fun T2 kk => ?_)
      refine r_p (pc2 := 41) dX9_add_40 rfl rfl ?_
      refine r_get dX9_add_41 fkX9_15 q3 rfl ?_
      refine r_p (pc2 := 46) dX9_add_44 rfl rfl ?_
      refine r_p (pc2 := 47) dX9_add_46 rfl rfl ?_
      refine r_get dX9_add_47 fkX9_15 q4 rfl ?_
      refine r_p (pc2 := 52) dX9_add_50 rfl rfl ?_
      refine r_la dX9_add_52 (shl9_2 q4) q2 ?_
      refine r_p (pc2 := 54) dX9_add_53 rfl rfl ?_
      refine r_get dX9_add_54 fkX9_9 q4 rfl ?_
      refine r_p (pc2 := 59) dX9_add_57 rfl rfl ?_
      refine r_la dX9_add_59 (shl9_1 q4) q2 ?_
      refine r_p (pc2 := 62) dX9_add_60 rfl rfl ?_
      refine r_p (pc2 := 63) dX9_add_62 rfl rfl ?_
      refine r_p (pc2 := 64) dX9_add_63 rfl rfl ?_
      refine r_las dX9_add_64 (shl9_2 q3) q2 ?_
      refine r_nT (R := rV) rfl kk (fun T3 kk => ?_)
      refine r_p (pc2 := 66) dX9_add_65 rfl rfl ?_
      refine r_get dX9_add_66 fkX9_9 q3 rfl ?_
      refine r_p (pc2 := 71) dX9_add_69 rfl rfl ?_
      refine r_p (pc2 := 72) dX9_add_71 rfl rfl ?_
      refine r_get dX9_add_72 fkX9_9 q4 rfl ?_
      refine r_p (pc2 := 77) dX9_add_75 rfl rfl ?_
      refine r_la dX9_add_77 (shl9_1 q4) q2 ?_
      refine r_p (pc2 := 80) dX9_add_78 rfl rfl ?_
      refine r_p (pc2 := 81) dX9_add_80 rfl rfl ?_
      refine r_las dX9_add_81 (shl9_1 q3) q2 ?_
      refine r_nT (R := rV) rfl kk (fun T4 kk => ?_)
      refine r_p (pc2 := 83) dX9_add_82 rfl rfl ?_
      refine r_get dX9_add_83 fkX9_21 q3 rfl ?_
      refine r_p (pc2 := 88) dX9_add_86 rfl rfl ?_
      refine r_p (pc2 := 89) dX9_add_88 rfl rfl ?_
      refine r_p (pc2 := 91) dX9_add_89 rfl rfl ?_
      refine r_ci (x := 1) dX9_add_91 rfl ?_
      obtain ⟨q5, kk⟩ := kk
      obtain ⟨q6, kk⟩ := kk
      refine r_cv (d1 := 1) dX9_add_92 cvX9_24 rfl rfl q6 rfl (Nat.le_of_ble_eq_true rfl) (Nat.le_of_ble_eq_true rfl) (Nat.le_of_ble_eq_true rfl) (c_ki_fewerThan l3 v4 1 q5) ?_
      refine r_p (pc2 := 96) dX9_add_95 rfl rfl ?_
      refine r_p (pc2 := 98) dX9_add_96 rfl rfl ?_
      refine r_ci (x := 2) dX9_add_98 rfl ?_
      obtain ⟨q7, kk⟩ := kk
      refine r_cv (d1 := 1) dX9_add_99 cvX9_24 rfl rfl q6 rfl (Nat.le_of_ble_eq_true rfl) (Nat.le_of_ble_eq_true rfl) (Nat.le_of_ble_eq_true rfl) (c_ki_fewerThan l3 v4 2 q7) ?_
      refine r_p (pc2 := 103) dX9_add_102 rfl rfl ?_
      refine r_get dX9_add_103 fkX9_9 q3 rfl ?_
      refine r_p (pc2 := 108) dX9_add_106 rfl rfl ?_
      refine r_la dX9_add_108 (shl9_1 q3) q2 ?_
      refine r_p (pc2 := 110) dX9_add_109 rfl rfl ?_
      refine r_p (pc2 := 111) dX9_add_110 rfl rfl ?_
      refine r_p (pc2 := 112) dX9_add_111 rfl rfl ?_
      refine r_p (pc2 := 114) dX9_add_112 rfl rfl ?_
      refine r_ci (x := 3) dX9_add_114 rfl ?_
      obtain ⟨q8, kk⟩ := kk
      refine r_cv (d1 := 1) dX9_add_115 cvX9_24 rfl rfl q6 rfl (Nat.le_of_ble_eq_true rfl) (Nat.le_of_ble_eq_true rfl) (Nat.le_of_ble_eq_true rfl) (c_ki_fewerThan l3 v4 3 q8) ?_
      refine r_p (pc2 := 119) dX9_add_118 rfl rfl ?_
      refine r_get dX9_add_119 fkX9_15 q3 rfl ?_
      refine r_p (pc2 := 124) dX9_add_122 rfl rfl ?_
      refine r_la dX9_add_124 (shl9_2 q3) q2 ?_
      refine r_p (pc2 := 126) dX9_add_125 rfl rfl ?_
      refine r_p (pc2 := 127) dX9_add_126 rfl rfl ?_
      refine r_p (pc2 := 128) dX9_add_127 rfl rfl ?_
      refine r_p (pc2 := 130) dX9_add_128 rfl rfl ?_
      refine r_ci (x := 4) dX9_add_130 rfl ?_
      obtain ⟨q9, kk⟩ := kk
      refine r_cv (d1 := 1) dX9_add_131 cvX9_24 rfl rfl q6 rfl (Nat.le_of_ble_eq_true rfl) (Nat.le_of_ble_eq_true rfl) (Nat.le_of_ble_eq_true rfl) (c_ki_fewerThan l3 v4 4 q9) ?_
      refine r_p (pc2 := 135) dX9_add_134 rfl rfl ?_
      refine r_get dX9_add_135 fkX9_18 q3 rfl ?_
      refine r_p (pc2 := 140) dX9_add_138 rfl rfl ?_
      refine r_la dX9_add_140 (shl9_3 q3) q2 ?_
      refine r_p (pc2 := 142) dX9_add_141 rfl rfl ?_
      refine r_p (pc2 := 143) dX9_add_142 rfl rfl ?_
      refine r_las dX9_add_143 (shl9_4 q3) q2 ?_
      refine r_nT (R := rV) rfl kk (fun T5 kk => ?_)
      refine r_inc (L2 := [some (.ref l0), some (.ref l1), some (.ref l2), some (.ref l3), some (.int (v4 + 1)), some (.long k1), none]) (y := 1) dX9_add_144 rfl rfl rfl ?_
      refine r_go dX9_add_147 rfl ?_
      show tR _ _ _ _ [some (.ref l0), some (.ref l1), some (.ref l2), some (.ref l3), some (.int (v4 + 1)), some (.long k1), none] _ _ _ _
      exact r_le (le_s (le_s (le_s (le_s (le_s (le_n (le_s (le_0)))))))) (ih (v4 + 1) T5 kk)
def x_ta_add (T : St) (a : Nat) (p0 : Nat) (p1 : Nat) (p2 : Nat) : St := x_ta_add_3 a p0 p1 p2 (fun (w1_4 : Int32) (T201 : St) => T201) 1000 0 T
def ok_ta_add (T : St) (a : Nat) (p0 : Nat) (p1 : Nat) (p2 : Nat) : Prop := ok_ta_add_3 a p0 p1 p2 (fun (w1_4 : Int32) (T201 : St) => True) 1000 0 T
theorem c_ta_add {X : Nat × (Nat → Int32)} {T : St} (a : Nat) (p0 : Nat) (p1 : Nat) (p2 : Nat) (kk : ok_ta_add T a p0 p1 p2) : tC X 2 mX9_add [.ref a, .ref p0, .ref p1, .ref p2] T none (x_ta_add T a p0 p1 p2) := by
  unfold ok_ta_add at kk
  refine tC_orV (L := [some (.ref a), some (.ref p0), some (.ref p1), some (.ref p2), none, none, none]) (x_ta_add T a p0 p1 p2) rfl ?_
  unfold x_ta_add
  refine r_ci (x := 0) dX9_add_0 rfl ?_
  refine r_p (pc2 := 3) (L2 := [some (.ref a), some (.ref p0), some (.ref p1), some (.ref p2), some (.int 0), none, none]) dX9_add_1 rfl rfl ?_
  show tR _ _ _ _ [some (.ref a), some (.ref p0), some (.ref p1), some (.ref p2), some (.int 0), none, none] _ _ _ _
  refine (c_ta_add_3 a p0 p1 p2 (fun w1_4 T201 kk => ?_) 1000 0 T kk)
  · skip
    exact r_qV dX9_add_150 rfl rfl
def x_wa_isWarmed_12 (T : St) (l0 : Nat) (l1 : Nat) (l2 : Int32) (K : Int32 → Int32) : Nat → Int32 → Int32
  | 0, _ => 0
  | f + 1, v3 => if (T.2.2.1 (l1 + 7) (T.1 l0 3 : Int32).toNatClampNeg) ≤ v3 then (K v3) else (if (T.2.2.1 (l1 + 9) (l2 + v3 : Int32).toNatClampNeg) = 1 then (if (x_bk_warmsBy T l1 (l2 + v3) (T.2.2.1 (l0 + 1) (v3 : Int32).toNatClampNeg)) = 0 then (0) else (x_wa_isWarmed_12 T l0 l1 l2 K f (v3 + 1))) else (x_wa_isWarmed_12 T l0 l1 l2 K f (v3 + 1)))
def ok_wa_isWarmed_12 (T : St) (l0 : Nat) (l1 : Nat) (l2 : Int32) (Kk : Int32 → Prop) : Nat → Int32 → Prop
  | 0, _ => False
  | f + 1, v3 => (sh l1 = .inr 1) ∧ (sh l0 = .inr 10) ∧ (vp_in (T.1 l0 3) 8) ∧ (((T.2.2.1 (l1 + 7) (T.1 l0 3 : Int32).toNatClampNeg) ≤ v3 → Kk v3) ∧ (¬ (T.2.2.1 (l1 + 7) (T.1 l0 3 : Int32).toNatClampNeg) ≤ v3 → (vp_in (l2 + v3) 24) ∧ (((T.2.2.1 (l1 + 9) (l2 + v3 : Int32).toNatClampNeg) = 1 → (vp_in v3 3) ∧ (ok_bk_warmsBy T l1 (l2 + v3) (T.2.2.1 (l0 + 1) (v3 : Int32).toNatClampNeg)) ∧ (¬ (x_bk_warmsBy T l1 (l2 + v3) (T.2.2.1 (l0 + 1) (v3 : Int32).toNatClampNeg)) = 0 → ok_wa_isWarmed_12 T l0 l1 l2 Kk f (v3 + 1))) ∧ (¬ (T.2.2.1 (l1 + 9) (l2 + v3 : Int32).toNatClampNeg) = 1 → ok_wa_isWarmed_12 T l0 l1 l2 Kk f (v3 + 1)))))
theorem c_wa_isWarmed_12 {X : Nat × (Nat → Int32)} (T : St) (l0 : Nat) (l1 : Nat) (l2 : Int32) {K : Int32 → Int32} {Kk : Int32 → Prop} (hk : ∀ (v3 : Int32), Kk v3 → tR X 1 mX10_isWarmed 61 [some (.ref l0), some (.ref l1), some (.int l2), some (.int v3)] [] T ((rIp T) (K v3)).1 (((rIp T) (K v3)).2)) : ∀ (f : Nat) (v3 : Int32), ok_wa_isWarmed_12 T l0 l1 l2 Kk f v3 → tR X 1 mX10_isWarmed 12 [some (.ref l0), some (.ref l1), some (.int l2), some (.int v3)] [] T ((rIp T) (x_wa_isWarmed_12 T l0 l1 l2 K f v3)).1 (((rIp T) (x_wa_isWarmed_12 T l0 l1 l2 K f v3)).2) := by
  intro f
  induction f with
  | zero => intro v3 kk; exact kk.elim
  | succ f ih =>
    intro v3 kk
    rw [ok_wa_isWarmed_12] at kk
    rw [x_wa_isWarmed_12]
    refine r_p (pc2 := 13) dX10_isWarmed_12 rfl rfl ?_
    refine r_p (pc2 := 14) dX10_isWarmed_13 rfl rfl ?_
    obtain ⟨q4, kk⟩ := kk
    refine r_get dX10_isWarmed_14 fkX10_34 q4 rfl ?_
    refine r_p (pc2 := 18) dX10_isWarmed_17 rfl rfl ?_
    obtain ⟨q5, kk⟩ := kk
    refine r_get dX10_isWarmed_18 fkX10_22 q5 rfl ?_
    obtain ⟨q6, kk⟩ := kk
    refine r_ia dX10_isWarmed_21 (shl1_7 q4) q6 ?_
    refine r_cge dX10_isWarmed_22 rfl (fun c22_1 => ?_) (fun c22_1 => ?_)
    · refine r_ip (R := (rIp T)) c22_1 ?_
      have kk := kk.1 c22_1
      show tR _ _ _ _ [some (.ref l0), some (.ref l1), some (.int l2), some (.int v3)] _ _ _ _
      exact (hk v3  kk)
    · refine r_in (R := (rIp T)) c22_1 ?_
      have kk := kk.2 c22_1
      refine r_p (pc2 := 26) dX10_isWarmed_25 rfl rfl ?_
      refine r_get dX10_isWarmed_26 fkX10_38 q4 rfl ?_
      refine r_p (pc2 := 30) dX10_isWarmed_29 rfl rfl ?_
      refine r_p (pc2 := 31) dX10_isWarmed_30 rfl rfl ?_
      refine r_p (pc2 := 32) dX10_isWarmed_31 rfl rfl ?_
      obtain ⟨q7, kk⟩ := kk
      refine r_ia dX10_isWarmed_32 (shl1_9 q4) q7 ?_
      refine r_ci (x := 1) dX10_isWarmed_33 rfl ?_
      refine r_cne dX10_isWarmed_34 rfl (fun c34_2 => ?_) (fun c34_2 => ?_)
      · refine r_in (R := (rIp T)) c34_2 ?_
        have kk := kk.2 c34_2
        refine r_inc (L2 := [some (.ref l0), some (.ref l1), some (.int l2), some (.int (v3 + 1))]) (y := 1) dX10_isWarmed_55 rfl rfl rfl ?_
        refine r_go dX10_isWarmed_58 rfl ?_
        show tR _ _ _ _ [some (.ref l0), some (.ref l1), some (.int l2), some (.int (v3 + 1))] _ _ _ _
        exact (ih (v3 + 1)  kk)
      · refine r_ip (R := (rIp T)) c34_2 ?_
        have kk := kk.1 c34_2
        refine r_p (pc2 := 38) dX10_isWarmed_37 rfl rfl ?_
        refine r_p (pc2 := 39) dX10_isWarmed_38 rfl rfl ?_
        refine r_p (pc2 := 40) dX10_isWarmed_39 rfl rfl ?_
        refine r_p (pc2 := 41) dX10_isWarmed_40 rfl rfl ?_
        refine r_p (pc2 := 42) dX10_isWarmed_41 rfl rfl ?_
        refine r_get dX10_isWarmed_42 fkX10_9 q5 rfl ?_
        refine r_p (pc2 := 46) dX10_isWarmed_45 rfl rfl ?_
        obtain ⟨q8, kk⟩ := kk
        refine r_ia dX10_isWarmed_46 (shl10_1 q5) q8 ?_
        obtain ⟨q9, kk⟩ := kk
        refine r_cv (d1 := 1) dX10_isWarmed_47 cvX10_76 rfl rfl q4 rfl (Nat.le_of_ble_eq_true rfl) (Nat.le_of_ble_eq_true rfl) (Nat.le_of_ble_eq_true rfl) (c_bk_warmsBy l1 (l2 + v3) (T.2.2.1 (l0 + 1) (v3 : Int32).toNatClampNeg) q9) ?_
        refine r_ine dX10_isWarmed_50 rfl (fun c50_3 => ?_) (fun c50_3 => ?_)
        · refine r_in (R := (rIp T)) c50_3 ?_
          have kk := kk c50_3
          refine r_inc (L2 := [some (.ref l0), some (.ref l1), some (.int l2), some (.int (v3 + 1))]) (y := 1) dX10_isWarmed_55 rfl rfl rfl ?_
          refine r_go dX10_isWarmed_58 rfl ?_
          show tR _ _ _ _ [some (.ref l0), some (.ref l1), some (.int l2), some (.int (v3 + 1))] _ _ _ _
          exact (ih (v3 + 1)  kk)
        · refine r_ip (R := (rIp T)) c50_3 ?_
          refine r_ci (x := 0) dX10_isWarmed_53 rfl ?_
          exact r_qIp dX10_isWarmed_54 rfl rfl rfl
def x_wa_isWarmed (T : St) (a : Nat) (p0 : Nat) : Int32 := jn (fun (i1 : Int32) => x_wa_isWarmed_12 T a p0 i1 (fun (w1_3 : Int32) => 1) 1000 0) (T.2.2.1 (p0 + 8) (T.1 a 3 : Int32).toNatClampNeg)
def ok_wa_isWarmed (T : St) (a : Nat) (p0 : Nat) : Prop := (sh p0 = .inr 1) ∧ (sh a = .inr 10) ∧ (vp_in (T.1 a 3) 8) ∧ jn (fun (i1 : Int32) => ok_wa_isWarmed_12 T a p0 i1 (fun (w1_3 : Int32) => True) 1000 0) (T.2.2.1 (p0 + 8) (T.1 a 3 : Int32).toNatClampNeg)
theorem c_wa_isWarmed {X : Nat × (Nat → Int32)} {T : St} (a : Nat) (p0 : Nat) (kk : ok_wa_isWarmed T a p0) : tC X 2 mX10_isWarmed [.ref a, .ref p0] T (some (.int (x_wa_isWarmed T a p0))) T := by
  unfold ok_wa_isWarmed at kk
  refine tC_orIp (L := [some (.ref a), some (.ref p0), none, none]) (x_wa_isWarmed T a p0) rfl ?_
  unfold x_wa_isWarmed
  refine r_p (pc2 := 1) dX10_isWarmed_0 rfl rfl ?_
  obtain ⟨q1, kk⟩ := kk
  refine r_get dX10_isWarmed_1 fkX10_26 q1 rfl ?_
  refine r_p (pc2 := 5) dX10_isWarmed_4 rfl rfl ?_
  obtain ⟨q2, kk⟩ := kk
  refine r_get dX10_isWarmed_5 fkX10_22 q2 rfl ?_
  obtain ⟨q3, kk⟩ := kk
  refine r_ia dX10_isWarmed_8 (shl1_8 q1) q3 ?_
  refine r_nI (R := (rIp T)) rfl kk (fun i1 kk => ?_)
  refine r_p (pc2 := 10) (L2 := [some (.ref a), some (.ref p0), some (.int i1), none]) dX10_isWarmed_9 rfl rfl ?_
  refine r_ci (x := 0) dX10_isWarmed_10 rfl ?_
  refine r_p (pc2 := 12) (L2 := [some (.ref a), some (.ref p0), some (.int i1), some (.int 0)]) dX10_isWarmed_11 rfl rfl ?_
  show tR _ _ _ _ [some (.ref a), some (.ref p0), some (.int i1), some (.int 0)] _ _ _ _
  refine (c_wa_isWarmed_12 T a p0 i1 (fun w1_3 kk => ?_) 1000 0  kk)
  · skip
    refine r_ci (x := 1) dX10_isWarmed_61 rfl ?_
    exact r_qIp dX10_isWarmed_62 rfl rfl rfl
def x_wa_agrees_57 (T : St) (l0 : Nat) (l1 : Nat) (l2 : Nat) (l3 : Int32) (l4 : Int32) (l5 : Int32) (K : Int32 → Int32) : Nat → Int32 → Int32
  | 0, _ => 0
  | f + 1, v6 => if (T.2.2.1 (l1 + 7) (T.1 l2 3 : Int32).toNatClampNeg) ≤ v6 then (K v6) else (jn (fun (KJ1 : Int32 → Int32) => if (T.2.2.1 (l1 + 9) (l4 + v6 : Int32).toNatClampNeg) = 1 then (KJ1 1) else (KJ1 0)) (fun (j1_s0 : Int32) => if j1_s0 = 0 then (x_wa_agrees_57 T l0 l1 l2 l3 l4 l5 K f (v6 + 1)) else (if (x_bk_heatsAgree T l1 (l3 + l5) (T.2.2.1 (l0 + 1) (l5 : Int32).toNatClampNeg) (l4 + v6) (T.2.2.1 (l2 + 1) (v6 : Int32).toNatClampNeg)) = 0 then (0) else (x_wa_agrees_57 T l0 l1 l2 l3 l4 l5 K f (v6 + 1)))))
def ok_wa_agrees_57 (T : St) (l0 : Nat) (l1 : Nat) (l2 : Nat) (l3 : Int32) (l4 : Int32) (l5 : Int32) (Kk : Int32 → Prop) : Nat → Int32 → Prop
  | 0, _ => False
  | f + 1, v6 => (sh l1 = .inr 1) ∧ (sh l2 = .inr 10) ∧ (vp_in (T.1 l2 3) 8) ∧ (((T.2.2.1 (l1 + 7) (T.1 l2 3 : Int32).toNatClampNeg) ≤ v6 → Kk v6) ∧ (¬ (T.2.2.1 (l1 + 7) (T.1 l2 3 : Int32).toNatClampNeg) ≤ v6 → (vp_in (l4 + v6) 24) ∧ jn (fun (OJ1 : Int32 → Prop) => (((T.2.2.1 (l1 + 9) (l4 + v6 : Int32).toNatClampNeg) = 1 → OJ1 1) ∧ (¬ (T.2.2.1 (l1 + 9) (l4 + v6 : Int32).toNatClampNeg) = 1 → OJ1 0))) (fun (j1_s0 : Int32) => ((j1_s0 = 0 → ok_wa_agrees_57 T l0 l1 l2 l3 l4 l5 Kk f (v6 + 1)) ∧ (¬ j1_s0 = 0 → (sh l0 = .inr 10) ∧ (vp_in l5 3) ∧ (vp_in v6 3) ∧ (ok_bk_heatsAgree T l1 (l3 + l5) (T.2.2.1 (l0 + 1) (l5 : Int32).toNatClampNeg) (l4 + v6) (T.2.2.1 (l2 + 1) (v6 : Int32).toNatClampNeg)) ∧ (¬ (x_bk_heatsAgree T l1 (l3 + l5) (T.2.2.1 (l0 + 1) (l5 : Int32).toNatClampNeg) (l4 + v6) (T.2.2.1 (l2 + 1) (v6 : Int32).toNatClampNeg)) = 0 → ok_wa_agrees_57 T l0 l1 l2 l3 l4 l5 Kk f (v6 + 1)))))))
theorem c_wa_agrees_57 {X : Nat × (Nat → Int32)} (T : St) (l0 : Nat) (l1 : Nat) (l2 : Nat) (l3 : Int32) (l4 : Int32) (l5 : Int32) {K : Int32 → Int32} {Kk : Int32 → Prop} (hk : ∀ (v6 : Int32), Kk v6 → tR X 1 mX10_agrees 135 [some (.ref l0), some (.ref l1), some (.ref l2), some (.int l3), some (.int l4), some (.int l5), some (.int v6), none] [] T ((rIp T) (K v6)).1 (((rIp T) (K v6)).2)) : ∀ (f : Nat) (v6 : Int32), ok_wa_agrees_57 T l0 l1 l2 l3 l4 l5 Kk f v6 → tR X 1 mX10_agrees 57 [some (.ref l0), some (.ref l1), some (.ref l2), some (.int l3), some (.int l4), some (.int l5), some (.int v6), none] [] T ((rIp T) (x_wa_agrees_57 T l0 l1 l2 l3 l4 l5 K f v6)).1 (((rIp T) (x_wa_agrees_57 T l0 l1 l2 l3 l4 l5 K f v6)).2) := by
  intro f
  induction f with
  | zero => intro v6 kk; exact kk.elim
  | succ f ih =>
    intro v6 kk
    rw [ok_wa_agrees_57] at kk
    rw [x_wa_agrees_57]
    refine r_p (pc2 := 59) dX10_agrees_57 rfl rfl ?_
    refine r_p (pc2 := 60) dX10_agrees_59 rfl rfl ?_
    obtain ⟨q10, kk⟩ := kk
    refine r_get dX10_agrees_60 fkX10_34 q10 rfl ?_
    refine r_p (pc2 := 64) dX10_agrees_63 rfl rfl ?_
    obtain ⟨q11, kk⟩ := kk
    refine r_get dX10_agrees_64 fkX10_22 q11 rfl ?_
    obtain ⟨q12, kk⟩ := kk
    refine r_ia dX10_agrees_67 (shl1_7 q10) q12 ?_
    refine r_cge dX10_agrees_68 rfl (fun c68_3 => ?_) (fun c68_3 => ?_)
    · refine r_ip (R := (rIp T)) c68_3 ?_
      have kk := kk.1 c68_3
      show tR _ _ _ _ [some (.ref l0), some (.ref l1), some (.ref l2), some (.int l3), some (.int l4), some (.int l5), some (.int v6), none] _ _ _ _
      exact (hk v6  kk)
    · refine r_in (R := (rIp T)) c68_3 ?_
      have kk := kk.2 c68_3
      refine r_p (pc2 := 72) dX10_agrees_71 rfl rfl ?_
      refine r_get dX10_agrees_72 fkX10_38 q10 rfl ?_
      refine r_p (pc2 := 77) dX10_agrees_75 rfl rfl ?_
      refine r_p (pc2 := 79) dX10_agrees_77 rfl rfl ?_
      refine r_p (pc2 := 80) dX10_agrees_79 rfl rfl ?_
      obtain ⟨q13, kk⟩ := kk
      refine r_ia dX10_agrees_80 (shl1_9 q10) q13 ?_
      refine r_ci (x := 1) dX10_agrees_81 rfl ?_
      refine r_jn (R := (rIp T)) (J := fun (KJ1 : Int32 → Int32) (OJ1 : Int32 → Prop) => ∀ (j1_s0 : Int32), OJ1 j1_s0 → tR X 1 mX10_agrees 90 [some (.ref l0), some (.ref l1), some (.ref l2), some (.int l3), some (.int l4), some (.int l5), some (.int v6), none] [.int j1_s0] T ((rIp T) (KJ1 j1_s0)).1 ((rIp T) (KJ1 j1_s0)).2) kk (fun j1_s0 kk => ?_) (fun KJ1 OJ1 hJ1 kk => ?_)
      · skip
        refine r_p (pc2 := 92) (L2 := [some (.ref l0), some (.ref l1), some (.ref l2), some (.int l3), some (.int l4), some (.int l5), some (.int v6), some (.int j1_s0)]) dX10_agrees_90 rfl rfl ?_
        refine r_p (pc2 := 94) dX10_agrees_92 rfl rfl ?_
        refine r_ieq dX10_agrees_94 rfl (fun c94_5 => ?_) (fun c94_5 => ?_)
        · refine r_ip (R := (rIp T)) c94_5 ?_
          have kk := kk.1 c94_5
          refine r_inc (L2 := [some (.ref l0), some (.ref l1), some (.ref l2), some (.int l3), some (.int l4), some (.int l5), some (.int (v6 + 1)), some (.int j1_s0)]) (y := 1) dX10_agrees_129 rfl rfl rfl ?_
          refine r_go dX10_agrees_132 rfl ?_
          show tR _ _ _ _ [some (.ref l0), some (.ref l1), some (.ref l2), some (.int l3), some (.int l4), some (.int l5), some (.int (v6 + 1)), some (.int j1_s0)] _ _ _ _
          exact r_le (le_s (le_s (le_s (le_s (le_s (le_s (le_s (le_n (le_0))))))))) (ih (v6 + 1)  kk)
        · refine r_in (R := (rIp T)) c94_5 ?_
          have kk := kk.2 c94_5
          refine r_p (pc2 := 98) dX10_agrees_97 rfl rfl ?_
          refine r_p (pc2 := 99) dX10_agrees_98 rfl rfl ?_
          refine r_p (pc2 := 101) dX10_agrees_99 rfl rfl ?_
          refine r_p (pc2 := 102) dX10_agrees_101 rfl rfl ?_
          refine r_p (pc2 := 103) dX10_agrees_102 rfl rfl ?_
          obtain ⟨q14, kk⟩ := kk
          refine r_get dX10_agrees_103 fkX10_9 q14 rfl ?_
          refine r_p (pc2 := 108) dX10_agrees_106 rfl rfl ?_
          obtain ⟨q15, kk⟩ := kk
          refine r_ia dX10_agrees_108 (shl10_1 q14) q15 ?_
          refine r_p (pc2 := 111) dX10_agrees_109 rfl rfl ?_
          refine r_p (pc2 := 113) dX10_agrees_111 rfl rfl ?_
          refine r_p (pc2 := 114) dX10_agrees_113 rfl rfl ?_
          refine r_p (pc2 := 115) dX10_agrees_114 rfl rfl ?_
          refine r_get dX10_agrees_115 fkX10_9 q11 rfl ?_
          refine r_p (pc2 := 120) dX10_agrees_118 rfl rfl ?_
          obtain ⟨q16, kk⟩ := kk
          refine r_ia dX10_agrees_120 (shl10_1 q11) q16 ?_
          obtain ⟨q17, kk⟩ := kk
          refine r_cv (d1 := 1) dX10_agrees_121 cvX10_80 rfl rfl q10 rfl (Nat.le_of_ble_eq_true rfl) (Nat.le_of_ble_eq_true rfl) (Nat.le_of_ble_eq_true rfl) (c_bk_heatsAgree l1 (l3 + l5) (T.2.2.1 (l0 + 1) (l5 : Int32).toNatClampNeg) (l4 + v6) (T.2.2.1 (l2 + 1) (v6 : Int32).toNatClampNeg) q17) ?_
          refine r_ine dX10_agrees_124 rfl (fun c124_6 => ?_) (fun c124_6 => ?_)
          · refine r_in (R := (rIp T)) c124_6 ?_
            have kk := kk c124_6
            refine r_inc (L2 := [some (.ref l0), some (.ref l1), some (.ref l2), some (.int l3), some (.int l4), some (.int l5), some (.int (v6 + 1)), some (.int j1_s0)]) (y := 1) dX10_agrees_129 rfl rfl rfl ?_
            refine r_go dX10_agrees_132 rfl ?_
            show tR _ _ _ _ [some (.ref l0), some (.ref l1), some (.ref l2), some (.int l3), some (.int l4), some (.int l5), some (.int (v6 + 1)), some (.int j1_s0)] _ _ _ _
            exact r_le (le_s (le_s (le_s (le_s (le_s (le_s (le_s (le_n (le_0))))))))) (ih (v6 + 1)  kk)
          · refine r_ip (R := (rIp T)) c124_6 ?_
            refine r_ci (x := 0) dX10_agrees_127 rfl ?_
            exact r_qIp dX10_agrees_128 rfl rfl rfl
      refine r_cne dX10_agrees_82 rfl (fun c82_7 => ?_) (fun c82_7 => ?_)
      · refine r_in (R := (rIp T)) c82_7 ?_
        have kk := kk.2 c82_7
        refine r_ci (x := 0) dX10_agrees_89 rfl ?_
        show tR _ _ _ _ [some (.ref l0), some (.ref l1), some (.ref l2), some (.int l3), some (.int l4), some (.int l5), some (.int v6), none] [.int 0] _ _ _
        exact (hJ1 0 kk)
      · refine r_ip (R := (rIp T)) c82_7 ?_
        have kk := kk.1 c82_7
        refine r_ci (x := 1) dX10_agrees_85 rfl ?_
        refine r_go dX10_agrees_86 rfl ?_
        show tR _ _ _ _ [some (.ref l0), some (.ref l1), some (.ref l2), some (.int l3), some (.int l4), some (.int l5), some (.int v6), none] [.int 1] _ _ _
        exact (hJ1 1 kk)
def x_wa_agrees_24 (T : St) (l0 : Nat) (l1 : Nat) (l2 : Nat) (l3 : Int32) (l4 : Int32) (K : Int32 → Int32) : Nat → Int32 → Int32
  | 0, _ => 0
  | f + 1, v5 => if (T.2.2.1 (l1 + 7) (T.1 l0 3 : Int32).toNatClampNeg) ≤ v5 then (K v5) else (if (T.2.2.1 (l1 + 9) (l3 + v5 : Int32).toNatClampNeg) = 1 then (x_wa_agrees_57 T l0 l1 l2 l3 l4 v5 (fun (w1_6 : Int32) => x_wa_agrees_24 T l0 l1 l2 l3 l4 K f (v5 + 1)) 1000 0) else (x_wa_agrees_24 T l0 l1 l2 l3 l4 K f (v5 + 1)))
def ok_wa_agrees_24 (T : St) (l0 : Nat) (l1 : Nat) (l2 : Nat) (l3 : Int32) (l4 : Int32) (Kk : Int32 → Prop) : Nat → Int32 → Prop
  | 0, _ => False
  | f + 1, v5 => (sh l1 = .inr 1) ∧ (sh l0 = .inr 10) ∧ (vp_in (T.1 l0 3) 8) ∧ (((T.2.2.1 (l1 + 7) (T.1 l0 3 : Int32).toNatClampNeg) ≤ v5 → Kk v5) ∧ (¬ (T.2.2.1 (l1 + 7) (T.1 l0 3 : Int32).toNatClampNeg) ≤ v5 → (vp_in (l3 + v5) 24) ∧ (((T.2.2.1 (l1 + 9) (l3 + v5 : Int32).toNatClampNeg) = 1 → ok_wa_agrees_57 T l0 l1 l2 l3 l4 v5 (fun (w1_6 : Int32) => ok_wa_agrees_24 T l0 l1 l2 l3 l4 Kk f (v5 + 1)) 1000 0) ∧ (¬ (T.2.2.1 (l1 + 9) (l3 + v5 : Int32).toNatClampNeg) = 1 → ok_wa_agrees_24 T l0 l1 l2 l3 l4 Kk f (v5 + 1)))))
theorem c_wa_agrees_24 {X : Nat × (Nat → Int32)} (T : St) (l0 : Nat) (l1 : Nat) (l2 : Nat) (l3 : Int32) (l4 : Int32) {K : Int32 → Int32} {Kk : Int32 → Prop} (hk : ∀ (v5 : Int32), Kk v5 → tR X 1 mX10_agrees 141 [some (.ref l0), some (.ref l1), some (.ref l2), some (.int l3), some (.int l4), some (.int v5), none, none] [] T ((rIp T) (K v5)).1 (((rIp T) (K v5)).2)) : ∀ (f : Nat) (v5 : Int32), ok_wa_agrees_24 T l0 l1 l2 l3 l4 Kk f v5 → tR X 1 mX10_agrees 24 [some (.ref l0), some (.ref l1), some (.ref l2), some (.int l3), some (.int l4), some (.int v5), none, none] [] T ((rIp T) (x_wa_agrees_24 T l0 l1 l2 l3 l4 K f v5)).1 (((rIp T) (x_wa_agrees_24 T l0 l1 l2 l3 l4 K f v5)).2) := by
  intro f
  induction f with
  | zero => intro v5 kk; exact kk.elim
  | succ f ih =>
    intro v5 kk
    rw [ok_wa_agrees_24] at kk
    rw [x_wa_agrees_24]
    refine r_p (pc2 := 26) dX10_agrees_24 rfl rfl ?_
    refine r_p (pc2 := 27) dX10_agrees_26 rfl rfl ?_
    obtain ⟨q6, kk⟩ := kk
    refine r_get dX10_agrees_27 fkX10_34 q6 rfl ?_
    refine r_p (pc2 := 31) dX10_agrees_30 rfl rfl ?_
    obtain ⟨q7, kk⟩ := kk
    refine r_get dX10_agrees_31 fkX10_22 q7 rfl ?_
    obtain ⟨q8, kk⟩ := kk
    refine r_ia dX10_agrees_34 (shl1_7 q6) q8 ?_
    refine r_cge dX10_agrees_35 rfl (fun c35_1 => ?_) (fun c35_1 => ?_)
    · refine r_ip (R := (rIp T)) c35_1 ?_
      have kk := kk.1 c35_1
      show tR _ _ _ _ [some (.ref l0), some (.ref l1), some (.ref l2), some (.int l3), some (.int l4), some (.int v5), none, none] _ _ _ _
      exact (hk v5  kk)
    · refine r_in (R := (rIp T)) c35_1 ?_
      have kk := kk.2 c35_1
      refine r_p (pc2 := 39) dX10_agrees_38 rfl rfl ?_
      refine r_get dX10_agrees_39 fkX10_38 q6 rfl ?_
      refine r_p (pc2 := 43) dX10_agrees_42 rfl rfl ?_
      refine r_p (pc2 := 45) dX10_agrees_43 rfl rfl ?_
      refine r_p (pc2 := 46) dX10_agrees_45 rfl rfl ?_
      obtain ⟨q9, kk⟩ := kk
      refine r_ia dX10_agrees_46 (shl1_9 q6) q9 ?_
      refine r_ci (x := 1) dX10_agrees_47 rfl ?_
      refine r_ceq dX10_agrees_48 rfl (fun c48_2 => ?_) (fun c48_2 => ?_)
      · refine r_ip (R := (rIp T)) c48_2 ?_
        have kk := kk.1 c48_2
        refine r_ci (x := 0) dX10_agrees_54 rfl ?_
        refine r_p (pc2 := 57) (L2 := [some (.ref l0), some (.ref l1), some (.ref l2), some (.int l3), some (.int l4), some (.int v5), some (.int 0), none]) dX10_agrees_55 rfl rfl ?_
        show tR _ _ _ _ [some (.ref l0), some (.ref l1), some (.ref l2), some (.int l3), some (.int l4), some (.int v5), some (.int 0), none] _ _ _ _
        refine (c_wa_agrees_57 T l0 l1 l2 l3 l4 v5 (fun w1_6 kk => ?_) 1000 0  kk)
        · skip
          refine r_inc (L2 := [some (.ref l0), some (.ref l1), some (.ref l2), some (.int l3), some (.int l4), some (.int (v5 + 1)), some (.int w1_6), none]) (y := 1) dX10_agrees_135 rfl rfl rfl ?_
          refine r_go dX10_agrees_138 rfl ?_
          show tR _ _ _ _ [some (.ref l0), some (.ref l1), some (.ref l2), some (.int l3), some (.int l4), some (.int (v5 + 1)), some (.int w1_6), none] _ _ _ _
          exact r_le (le_s (le_s (le_s (le_s (le_s (le_s (le_n (le_s (le_0))))))))) (ih (v5 + 1)  kk)
      · refine r_in (R := (rIp T)) c48_2 ?_
        have kk := kk.2 c48_2
        refine r_go dX10_agrees_51 rfl ?_
        refine r_inc (L2 := [some (.ref l0), some (.ref l1), some (.ref l2), some (.int l3), some (.int l4), some (.int (v5 + 1)), none, none]) (y := 1) dX10_agrees_135 rfl rfl rfl ?_
        refine r_go dX10_agrees_138 rfl ?_
        show tR _ _ _ _ [some (.ref l0), some (.ref l1), some (.ref l2), some (.int l3), some (.int l4), some (.int (v5 + 1)), none, none] _ _ _ _
        exact (ih (v5 + 1)  kk)
def x_wa_agrees (T : St) (a : Nat) (p0 : Nat) (p1 : Nat) : Int32 := jn (fun (i1 : Int32) => jn (fun (i2 : Int32) => x_wa_agrees_24 T a p0 p1 i1 i2 (fun (w2_5 : Int32) => 1) 1000 0) (T.2.2.1 (p0 + 8) (T.1 p1 3 : Int32).toNatClampNeg)) (T.2.2.1 (p0 + 8) (T.1 a 3 : Int32).toNatClampNeg)
def ok_wa_agrees (T : St) (a : Nat) (p0 : Nat) (p1 : Nat) : Prop := (sh p0 = .inr 1) ∧ (sh a = .inr 10) ∧ (vp_in (T.1 a 3) 8) ∧ jn (fun (i1 : Int32) => (sh p1 = .inr 10) ∧ (vp_in (T.1 p1 3) 8) ∧ jn (fun (i2 : Int32) => ok_wa_agrees_24 T a p0 p1 i1 i2 (fun (w2_5 : Int32) => True) 1000 0) (T.2.2.1 (p0 + 8) (T.1 p1 3 : Int32).toNatClampNeg)) (T.2.2.1 (p0 + 8) (T.1 a 3 : Int32).toNatClampNeg)
theorem c_wa_agrees {X : Nat × (Nat → Int32)} {T : St} (a : Nat) (p0 : Nat) (p1 : Nat) (kk : ok_wa_agrees T a p0 p1) : tC X 2 mX10_agrees [.ref a, .ref p0, .ref p1] T (some (.int (x_wa_agrees T a p0 p1))) T := by
  unfold ok_wa_agrees at kk
  refine tC_orIp (L := [some (.ref a), some (.ref p0), some (.ref p1), none, none, none, none, none]) (x_wa_agrees T a p0 p1) rfl ?_
  unfold x_wa_agrees
  refine r_p (pc2 := 1) dX10_agrees_0 rfl rfl ?_
  obtain ⟨q1, kk⟩ := kk
  refine r_get dX10_agrees_1 fkX10_26 q1 rfl ?_
  refine r_p (pc2 := 5) dX10_agrees_4 rfl rfl ?_
  obtain ⟨q2, kk⟩ := kk
  refine r_get dX10_agrees_5 fkX10_22 q2 rfl ?_
  obtain ⟨q3, kk⟩ := kk
  refine r_ia dX10_agrees_8 (shl1_8 q1) q3 ?_
  refine r_nI (R := (rIp T)) rfl kk (fun i1 kk => ?_)
  refine r_p (pc2 := 10) (L2 := [some (.ref a), some (.ref p0), some (.ref p1), some (.int i1), none, none, none, none]) dX10_agrees_9 rfl rfl ?_
  refine r_p (pc2 := 11) dX10_agrees_10 rfl rfl ?_
  refine r_get dX10_agrees_11 fkX10_26 q1 rfl ?_
  refine r_p (pc2 := 15) dX10_agrees_14 rfl rfl ?_
  obtain ⟨q4, kk⟩ := kk
  refine r_get dX10_agrees_15 fkX10_22 q4 rfl ?_
  obtain ⟨q5, kk⟩ := kk
  refine r_ia dX10_agrees_18 (shl1_8 q1) q5 ?_
  refine r_nI (R := (rIp T)) rfl kk (fun i2 kk => ?_)
  refine r_p (pc2 := 21) (L2 := [some (.ref a), some (.ref p0), some (.ref p1), some (.int i1), some (.int i2), none, none, none]) dX10_agrees_19 rfl rfl ?_
  refine r_ci (x := 0) dX10_agrees_21 rfl ?_
  refine r_p (pc2 := 24) (L2 := [some (.ref a), some (.ref p0), some (.ref p1), some (.int i1), some (.int i2), some (.int 0), none, none]) dX10_agrees_22 rfl rfl ?_
  show tR _ _ _ _ [some (.ref a), some (.ref p0), some (.ref p1), some (.int i1), some (.int i2), some (.int 0), none, none] _ _ _ _
  refine (c_wa_agrees_24 T a p0 p1 i1 i2 (fun w2_5 kk => ?_) 1000 0  kk)
  · skip
    refine r_ci (x := 1) dX10_agrees_141 rfl ?_
    exact r_qIp dX10_agrees_142 rfl rfl rfl
def x_x_feed (T : St) (p0 : Int64) (p1 : Int32) : Int32 × St := if p1 < 1 then ((-1000001), T) else (if p1 ≤ 8 then (if (x_rd_hasRoom T p1) = 0 then ((-1000003), T) else ((x_rd_put T p0 p1).1 13 1, x_rd_put T p0 p1)) else ((-1000001), T))
def ok_x_feed (T : St) (p0 : Int64) (p1 : Int32) : Prop := (¬ p1 < 1 → (p1 ≤ 8 → (¬ (x_rd_hasRoom T p1) = 0 → (ok_rd_put T p0 p1) ∧ True)))
theorem c_x_feed {X : Nat × (Nat → Int32)} {T : St} (p0 : Int64) (p1 : Int32) (kk : ok_x_feed T p0 p1) : tC X 2 mX11_feed [.ref (0 : Nat), .long p0, .int p1] T (some (.int (x_x_feed T p0 p1).1)) ((x_x_feed T p0 p1).2) := by
  unfold ok_x_feed at kk
  refine tC_orI (L := [some (.ref (0 : Nat)), some (.long p0), none, some (.int p1)]) (x_x_feed T p0 p1) rfl ?_
  unfold x_x_feed
  refine r_p (pc2 := 1) dX11_feed_0 rfl rfl ?_
  refine r_ci (x := 1) dX11_feed_1 rfl ?_
  refine r_clt dX11_feed_2 rfl (fun c2_1 => ?_) (fun c2_1 => ?_)
  · refine r_ip (R := rI) c2_1 ?_
    refine r_k dX11_feed_11 kkX11_82 ?_
    exact r_qI dX11_feed_13 rfl rfl rfl rfl
  · refine r_in (R := rI) c2_1 ?_
    have kk := kk c2_1
    refine r_p (pc2 := 6) dX11_feed_5 rfl rfl ?_
    refine r_cb (x := 8) dX11_feed_6 rfl ?_
    refine r_cle dX11_feed_8 rfl (fun c8_2 => ?_) (fun c8_2 => ?_)
    · refine r_ip (R := rI) c8_2 ?_
      have kk := kk c8_2
      refine r_p (pc2 := 15) dX11_feed_14 rfl rfl ?_
      refine r_get dX11_feed_15 fkX11_19 rfl rfl ?_
      refine r_p (pc2 := 19) dX11_feed_18 rfl rfl ?_
      refine r_cv (d1 := 1) dX11_feed_19 cvX11_122 rfl rfl rfl rfl (Nat.le_of_ble_eq_true rfl) (Nat.le_of_ble_eq_true rfl) (Nat.le_of_ble_eq_true rfl) (c_rd_hasRoom p1) ?_
      refine r_ine dX11_feed_22 rfl (fun c22_3 => ?_) (fun c22_3 => ?_)
      · refine r_in (R := rI) c22_3 ?_
        have kk := kk c22_3
        refine r_p (pc2 := 29) dX11_feed_28 rfl rfl ?_
        refine r_get dX11_feed_29 fkX11_19 rfl rfl ?_
        refine r_p (pc2 := 33) dX11_feed_32 rfl rfl ?_
        refine r_p (pc2 := 34) dX11_feed_33 rfl rfl ?_
        obtain ⟨q1, kk⟩ := kk
        refine r_cv (d1 := 1) dX11_feed_34 cvX11_126 rfl rfl rfl rfl (Nat.le_of_ble_eq_true rfl) (Nat.le_of_ble_eq_true rfl) (Nat.le_of_ble_eq_true rfl) (c_rd_put p0 p1 q1) ?_
        refine r_p (pc2 := 38) dX11_feed_37 rfl rfl ?_
        refine r_get dX11_feed_38 fkX11_19 rfl rfl ?_
        refine r_get dX11_feed_41 fkX11_130 rfl rfl ?_
        exact r_qI dX11_feed_44 rfl rfl rfl rfl
      · refine r_ip (R := rI) c22_3 ?_
        refine r_k dX11_feed_25 kkX11_125 ?_
        exact r_qI dX11_feed_27 rfl rfl rfl rfl
    · refine r_in (R := rI) c8_2 ?_
      refine r_k dX11_feed_11 kkX11_82 ?_
      exact r_qI dX11_feed_13 rfl rfl rfl rfl
def x_x_fault (T : St)  : Int32 := T.1 0 13
theorem c_x_fault {X : Nat × (Nat → Int32)} {T : St}  : tC X 1 mX11_fault [.ref (0 : Nat)] T (some (.int (x_x_fault T))) T := by
  refine tC_orIp (L := [some (.ref (0 : Nat))]) (x_x_fault T ) rfl ?_
  unfold x_x_fault
  refine r_p (pc2 := 1) dX11_fault_0 rfl rfl ?_
  refine r_get dX11_fault_1 fkX11_141 rfl rfl ?_
  exact r_qIp dX11_fault_4 rfl rfl rfl
def x_x_dish (T : St) (p0 : Int32) (p1 : Int32) : Int32 := if p0 < 0 then (-1000001) else (if p0 < (T.1 (T.2.1 0) 4) then (if p1 = 0 then (T.2.2.1 ((T.2.1 0) + 4) (p0 : Int32).toNatClampNeg) else (if p1 = 1 then (T.2.2.1 ((T.2.1 0) + 5) (p0 : Int32).toNatClampNeg) else (if p1 = 2 then (T.2.2.1 ((T.2.1 0) + 6) (p0 : Int32).toNatClampNeg) else (if p1 = 3 then (T.2.2.1 ((T.2.1 0) + 7) (p0 : Int32).toNatClampNeg) else (if p1 = 4 then (T.2.2.1 ((T.2.1 0) + 8) (p0 : Int32).toNatClampNeg) else (if p1 = 5 then (((T.2.2.1 ((T.2.1 0) + 4) (p0 : Int32).toNatClampNeg) + 1) * ((x_bk_waitBehind T (T.2.1 0) p0 0) + 1)) * ((x_bk_waitBehind T (T.2.1 0) p0 1) + 1) else (-1000001))))))) else (-1000001))
def ok_x_dish (T : St) (p0 : Int32) (p1 : Int32) : Prop := (¬ p0 < 0 → (sh (T.2.1 0) = .inr 1) ∧ (p0 < (T.1 (T.2.1 0) 4) → ((p1 = 0 → (vp_in p0 8) ∧ True) ∧ (¬ p1 = 0 → ((p1 = 1 → (vp_in p0 8) ∧ True) ∧ (¬ p1 = 1 → ((p1 = 2 → (vp_in p0 8) ∧ True) ∧ (¬ p1 = 2 → ((p1 = 3 → (vp_in p0 8) ∧ True) ∧ (¬ p1 = 3 → ((p1 = 4 → (vp_in p0 8) ∧ True) ∧ (¬ p1 = 4 → (p1 = 5 → (vp_in p0 8) ∧ (ok_bk_waitBehind T (T.2.1 0) p0 0) ∧ (ok_bk_waitBehind T (T.2.1 0) p0 1) ∧ True)))))))))))))
theorem c_x_dish {X : Nat × (Nat → Int32)} {T : St} (p0 : Int32) (p1 : Int32) (kk : ok_x_dish T p0 p1) : tC X 2 mX11_dish [.ref (0 : Nat), .int p0, .int p1] T (some (.int (x_x_dish T p0 p1))) T := by
  unfold ok_x_dish at kk
  refine tC_orIp (L := [some (.ref (0 : Nat)), some (.int p0), some (.int p1)]) (x_x_dish T p0 p1) rfl ?_
  unfold x_x_dish
  refine r_p (pc2 := 1) dX11_dish_0 rfl rfl ?_
  refine r_ilt dX11_dish_1 rfl (fun c1_1 => ?_) (fun c1_1 => ?_)
  · refine r_ip (R := (rIp T)) c1_1 ?_
    refine r_k dX11_dish_15 kkX11_82 ?_
    exact r_qIp dX11_dish_17 rfl rfl rfl
  · refine r_in (R := (rIp T)) c1_1 ?_
    have kk := kk c1_1
    refine r_p (pc2 := 5) dX11_dish_4 rfl rfl ?_
    refine r_p (pc2 := 6) dX11_dish_5 rfl rfl ?_
    refine r_get dX11_dish_6 fkX11_30 rfl rfl ?_
    obtain ⟨q1, kk⟩ := kk
    refine r_get dX11_dish_9 fkX11_149 q1 rfl ?_
    refine r_clt dX11_dish_12 rfl (fun c12_2 => ?_) (fun c12_2 => ?_)
    · refine r_ip (R := (rIp T)) c12_2 ?_
      have kk := kk c12_2
      refine r_p (pc2 := 19) dX11_dish_18 rfl rfl ?_
      by_cases s19_3_0 : p1 = 0
      · refine r_ip (R := (rIp T)) s19_3_0 ?_
        have kk := kk.1 s19_3_0
        refine r_tin dX11_dish_19 (by rw [s19_3_0]; decide) (by rw [s19_3_0]; decide) (off := 37) (by rw [s19_3_0]; rfl) rfl ?_
        refine r_p (pc2 := 57) dX11_dish_56 rfl rfl ?_
        refine r_get dX11_dish_57 fkX11_30 rfl rfl ?_
        refine r_get dX11_dish_60 fkX11_152 q1 rfl ?_
        refine r_p (pc2 := 64) dX11_dish_63 rfl rfl ?_
        obtain ⟨q2, kk⟩ := kk
        refine r_ia dX11_dish_64 (shl1_4 q1) q2 ?_
        exact r_qIp dX11_dish_65 rfl rfl rfl
      · refine r_in (R := (rIp T)) s19_3_0 ?_
        have kk := kk.2 s19_3_0
        by_cases s19_3_1 : p1 = 1
        · refine r_ip (R := (rIp T)) s19_3_1 ?_
          have kk := kk.1 s19_3_1
          refine r_tin dX11_dish_19 (by rw [s19_3_1]; decide) (by rw [s19_3_1]; decide) (off := 47) (by rw [s19_3_1]; rfl) rfl ?_
          refine r_p (pc2 := 67) dX11_dish_66 rfl rfl ?_
          refine r_get dX11_dish_67 fkX11_30 rfl rfl ?_
          refine r_get dX11_dish_70 fkX11_155 q1 rfl ?_
          refine r_p (pc2 := 74) dX11_dish_73 rfl rfl ?_
          obtain ⟨q3, kk⟩ := kk
          refine r_ia dX11_dish_74 (shl1_5 q1) q3 ?_
          exact r_qIp dX11_dish_75 rfl rfl rfl
        · refine r_in (R := (rIp T)) s19_3_1 ?_
          have kk := kk.2 s19_3_1
          by_cases s19_3_2 : p1 = 2
          · refine r_ip (R := (rIp T)) s19_3_2 ?_
            have kk := kk.1 s19_3_2
            refine r_tin dX11_dish_19 (by rw [s19_3_2]; decide) (by rw [s19_3_2]; decide) (off := 57) (by rw [s19_3_2]; rfl) rfl ?_
            refine r_p (pc2 := 77) dX11_dish_76 rfl rfl ?_
            refine r_get dX11_dish_77 fkX11_30 rfl rfl ?_
            refine r_get dX11_dish_80 fkX11_158 q1 rfl ?_
            refine r_p (pc2 := 84) dX11_dish_83 rfl rfl ?_
            obtain ⟨q4, kk⟩ := kk
            refine r_ia dX11_dish_84 (shl1_6 q1) q4 ?_
            exact r_qIp dX11_dish_85 rfl rfl rfl
          · refine r_in (R := (rIp T)) s19_3_2 ?_
            have kk := kk.2 s19_3_2
            by_cases s19_3_3 : p1 = 3
            · refine r_ip (R := (rIp T)) s19_3_3 ?_
              have kk := kk.1 s19_3_3
              refine r_tin dX11_dish_19 (by rw [s19_3_3]; decide) (by rw [s19_3_3]; decide) (off := 67) (by rw [s19_3_3]; rfl) rfl ?_
              refine r_p (pc2 := 87) dX11_dish_86 rfl rfl ?_
              refine r_get dX11_dish_87 fkX11_30 rfl rfl ?_
              refine r_get dX11_dish_90 fkX11_161 q1 rfl ?_
              refine r_p (pc2 := 94) dX11_dish_93 rfl rfl ?_
              obtain ⟨q5, kk⟩ := kk
              refine r_ia dX11_dish_94 (shl1_7 q1) q5 ?_
              exact r_qIp dX11_dish_95 rfl rfl rfl
            · refine r_in (R := (rIp T)) s19_3_3 ?_
              have kk := kk.2 s19_3_3
              by_cases s19_3_4 : p1 = 4
              · refine r_ip (R := (rIp T)) s19_3_4 ?_
                have kk := kk.1 s19_3_4
                refine r_tin dX11_dish_19 (by rw [s19_3_4]; decide) (by rw [s19_3_4]; decide) (off := 77) (by rw [s19_3_4]; rfl) rfl ?_
                refine r_p (pc2 := 97) dX11_dish_96 rfl rfl ?_
                refine r_get dX11_dish_97 fkX11_30 rfl rfl ?_
                refine r_get dX11_dish_100 fkX11_164 q1 rfl ?_
                refine r_p (pc2 := 104) dX11_dish_103 rfl rfl ?_
                obtain ⟨q6, kk⟩ := kk
                refine r_ia dX11_dish_104 (shl1_8 q1) q6 ?_
                exact r_qIp dX11_dish_105 rfl rfl rfl
              · refine r_in (R := (rIp T)) s19_3_4 ?_
                have kk := kk.2 s19_3_4
                by_cases s19_3_5 : p1 = 5
                · refine r_ip (R := (rIp T)) s19_3_5 ?_
                  have kk := kk s19_3_5
                  refine r_tin dX11_dish_19 (by rw [s19_3_5]; decide) (by rw [s19_3_5]; decide) (off := 87) (by rw [s19_3_5]; rfl) rfl ?_
                  refine r_p (pc2 := 107) dX11_dish_106 rfl rfl ?_
                  refine r_get dX11_dish_107 fkX11_30 rfl rfl ?_
                  refine r_get dX11_dish_110 fkX11_152 q1 rfl ?_
                  refine r_p (pc2 := 114) dX11_dish_113 rfl rfl ?_
                  obtain ⟨q7, kk⟩ := kk
                  refine r_ia dX11_dish_114 (shl1_4 q1) q7 ?_
                  refine r_ci (x := 1) dX11_dish_115 rfl ?_
                  refine r_p (pc2 := 117) dX11_dish_116 rfl rfl ?_
                  refine r_p (pc2 := 118) dX11_dish_117 rfl rfl ?_
                  refine r_get dX11_dish_118 fkX11_30 rfl rfl ?_
                  refine r_p (pc2 := 122) dX11_dish_121 rfl rfl ?_
                  refine r_ci (x := 0) dX11_dish_122 rfl ?_
                  obtain ⟨q8, kk⟩ := kk
                  refine r_cv (d1 := 1) dX11_dish_123 cvX11_167 rfl rfl q1 rfl (Nat.le_of_ble_eq_true rfl) (Nat.le_of_ble_eq_true rfl) (Nat.le_of_ble_eq_true rfl) (c_bk_waitBehind (T.2.1 0) p0 0 q8) ?_
                  refine r_ci (x := 1) dX11_dish_126 rfl ?_
                  refine r_p (pc2 := 128) dX11_dish_127 rfl rfl ?_
                  refine r_p (pc2 := 129) dX11_dish_128 rfl rfl ?_
                  refine r_p (pc2 := 130) dX11_dish_129 rfl rfl ?_
                  refine r_get dX11_dish_130 fkX11_30 rfl rfl ?_
                  refine r_p (pc2 := 134) dX11_dish_133 rfl rfl ?_
                  refine r_ci (x := 1) dX11_dish_134 rfl ?_
                  obtain ⟨q9, kk⟩ := kk
                  refine r_cv (d1 := 1) dX11_dish_135 cvX11_167 rfl rfl q1 rfl (Nat.le_of_ble_eq_true rfl) (Nat.le_of_ble_eq_true rfl) (Nat.le_of_ble_eq_true rfl) (c_bk_waitBehind (T.2.1 0) p0 1 q9) ?_
                  refine r_ci (x := 1) dX11_dish_138 rfl ?_
                  refine r_p (pc2 := 140) dX11_dish_139 rfl rfl ?_
                  refine r_p (pc2 := 141) dX11_dish_140 rfl rfl ?_
                  exact r_qIp dX11_dish_141 rfl rfl rfl
                · refine r_in (R := (rIp T)) s19_3_5 ?_
                  refine r_tout dX11_dish_19 (by have := i_rg (p1); simp only [i_eq, i_0, i_1, i_2, i_3, i_4, i_5] at s19_3_0 s19_3_1 s19_3_2 s19_3_3 s19_3_4 s19_3_5; omega) rfl ?_
                  refine r_k dX11_dish_142 kkX11_82 ?_
                  exact r_qIp dX11_dish_144 rfl rfl rfl
    · refine r_in (R := (rIp T)) c12_2 ?_
      refine r_k dX11_dish_15 kkX11_82 ?_
      exact r_qIp dX11_dish_17 rfl rfl rfl
def x_x_step (T : St) (p0 : Int32) (p1 : Int32) : Int32 := if (x_bk_hasStep T (T.2.1 0) p0) = 0 then (-1000001) else (if p1 = 0 then (T.2.2.1 ((T.2.1 0) + 10) (p0 : Int32).toNatClampNeg) else (if p1 = 1 then (T.2.2.1 ((T.2.1 0) + 11) (p0 : Int32).toNatClampNeg) else (if p1 = 2 then (T.2.2.1 ((T.2.1 0) + 12) (p0 : Int32).toNatClampNeg) else (if p1 = 3 then (T.2.2.1 ((T.2.1 0) + 13) (p0 : Int32).toNatClampNeg) else (if p1 = 4 then (T.2.2.1 ((T.2.1 0) + 14) (p0 : Int32).toNatClampNeg) else (-1000001))))))
def ok_x_step (T : St) (p0 : Int32) (p1 : Int32) : Prop := (ok_bk_hasStep T (T.2.1 0) p0) ∧ (sh (T.2.1 0) = .inr 1) ∧ (¬ (x_bk_hasStep T (T.2.1 0) p0) = 0 → ((p1 = 0 → (vp_in p0 24) ∧ True) ∧ (¬ p1 = 0 → ((p1 = 1 → (vp_in p0 24) ∧ True) ∧ (¬ p1 = 1 → ((p1 = 2 → (vp_in p0 24) ∧ True) ∧ (¬ p1 = 2 → ((p1 = 3 → (vp_in p0 24) ∧ True) ∧ (¬ p1 = 3 → (p1 = 4 → (vp_in p0 24) ∧ True))))))))))
theorem c_x_step {X : Nat × (Nat → Int32)} {T : St} (p0 : Int32) (p1 : Int32) (kk : ok_x_step T p0 p1) : tC X 2 mX11_step [.ref (0 : Nat), .int p0, .int p1] T (some (.int (x_x_step T p0 p1))) T := by
  unfold ok_x_step at kk
  refine tC_orIp (L := [some (.ref (0 : Nat)), some (.int p0), some (.int p1)]) (x_x_step T p0 p1) rfl ?_
  unfold x_x_step
  refine r_p (pc2 := 1) dX11_step_0 rfl rfl ?_
  refine r_get dX11_step_1 fkX11_30 rfl rfl ?_
  refine r_p (pc2 := 5) dX11_step_4 rfl rfl ?_
  obtain ⟨q1, kk⟩ := kk
  obtain ⟨q2, kk⟩ := kk
  refine r_cv (d1 := 1) dX11_step_5 cvX11_171 rfl rfl q2 rfl (Nat.le_of_ble_eq_true rfl) (Nat.le_of_ble_eq_true rfl) (Nat.le_of_ble_eq_true rfl) (c_bk_hasStep (T.2.1 0) p0 q1) ?_
  refine r_ine dX11_step_8 rfl (fun c8_1 => ?_) (fun c8_1 => ?_)
  · refine r_in (R := (rIp T)) c8_1 ?_
    have kk := kk c8_1
    refine r_p (pc2 := 15) dX11_step_14 rfl rfl ?_
    by_cases s15_2_0 : p1 = 0
    · refine r_ip (R := (rIp T)) s15_2_0 ?_
      have kk := kk.1 s15_2_0
      refine r_tin dX11_step_15 (by rw [s15_2_0]; decide) (by rw [s15_2_0]; decide) (off := 33) (by rw [s15_2_0]; rfl) rfl ?_
      refine r_p (pc2 := 49) dX11_step_48 rfl rfl ?_
      refine r_get dX11_step_49 fkX11_30 rfl rfl ?_
      refine r_get dX11_step_52 fkX11_174 q2 rfl ?_
      refine r_p (pc2 := 56) dX11_step_55 rfl rfl ?_
      obtain ⟨q3, kk⟩ := kk
      refine r_ia dX11_step_56 (shl1_10 q2) q3 ?_
      exact r_qIp dX11_step_57 rfl rfl rfl
    · refine r_in (R := (rIp T)) s15_2_0 ?_
      have kk := kk.2 s15_2_0
      by_cases s15_2_1 : p1 = 1
      · refine r_ip (R := (rIp T)) s15_2_1 ?_
        have kk := kk.1 s15_2_1
        refine r_tin dX11_step_15 (by rw [s15_2_1]; decide) (by rw [s15_2_1]; decide) (off := 43) (by rw [s15_2_1]; rfl) rfl ?_
        refine r_p (pc2 := 59) dX11_step_58 rfl rfl ?_
        refine r_get dX11_step_59 fkX11_30 rfl rfl ?_
        refine r_get dX11_step_62 fkX11_177 q2 rfl ?_
        refine r_p (pc2 := 66) dX11_step_65 rfl rfl ?_
        obtain ⟨q4, kk⟩ := kk
        refine r_ia dX11_step_66 (shl1_11 q2) q4 ?_
        exact r_qIp dX11_step_67 rfl rfl rfl
      · refine r_in (R := (rIp T)) s15_2_1 ?_
        have kk := kk.2 s15_2_1
        by_cases s15_2_2 : p1 = 2
        · refine r_ip (R := (rIp T)) s15_2_2 ?_
          have kk := kk.1 s15_2_2
          refine r_tin dX11_step_15 (by rw [s15_2_2]; decide) (by rw [s15_2_2]; decide) (off := 53) (by rw [s15_2_2]; rfl) rfl ?_
          refine r_p (pc2 := 69) dX11_step_68 rfl rfl ?_
          refine r_get dX11_step_69 fkX11_30 rfl rfl ?_
          refine r_get dX11_step_72 fkX11_180 q2 rfl ?_
          refine r_p (pc2 := 76) dX11_step_75 rfl rfl ?_
          obtain ⟨q5, kk⟩ := kk
          refine r_ia dX11_step_76 (shl1_12 q2) q5 ?_
          exact r_qIp dX11_step_77 rfl rfl rfl
        · refine r_in (R := (rIp T)) s15_2_2 ?_
          have kk := kk.2 s15_2_2
          by_cases s15_2_3 : p1 = 3
          · refine r_ip (R := (rIp T)) s15_2_3 ?_
            have kk := kk.1 s15_2_3
            refine r_tin dX11_step_15 (by rw [s15_2_3]; decide) (by rw [s15_2_3]; decide) (off := 63) (by rw [s15_2_3]; rfl) rfl ?_
            refine r_p (pc2 := 79) dX11_step_78 rfl rfl ?_
            refine r_get dX11_step_79 fkX11_30 rfl rfl ?_
            refine r_get dX11_step_82 fkX11_183 q2 rfl ?_
            refine r_p (pc2 := 86) dX11_step_85 rfl rfl ?_
            obtain ⟨q6, kk⟩ := kk
            refine r_ia dX11_step_86 (shl1_13 q2) q6 ?_
            exact r_qIp dX11_step_87 rfl rfl rfl
          · refine r_in (R := (rIp T)) s15_2_3 ?_
            have kk := kk.2 s15_2_3
            by_cases s15_2_4 : p1 = 4
            · refine r_ip (R := (rIp T)) s15_2_4 ?_
              have kk := kk s15_2_4
              refine r_tin dX11_step_15 (by rw [s15_2_4]; decide) (by rw [s15_2_4]; decide) (off := 73) (by rw [s15_2_4]; rfl) rfl ?_
              refine r_p (pc2 := 89) dX11_step_88 rfl rfl ?_
              refine r_get dX11_step_89 fkX11_30 rfl rfl ?_
              refine r_get dX11_step_92 fkX11_186 q2 rfl ?_
              refine r_p (pc2 := 96) dX11_step_95 rfl rfl ?_
              obtain ⟨q7, kk⟩ := kk
              refine r_ia dX11_step_96 (shl1_14 q2) q7 ?_
              exact r_qIp dX11_step_97 rfl rfl rfl
            · refine r_in (R := (rIp T)) s15_2_4 ?_
              refine r_tout dX11_step_15 (by have := i_rg (p1); simp only [i_eq, i_0, i_1, i_2, i_3, i_4] at s15_2_0 s15_2_1 s15_2_2 s15_2_3 s15_2_4; omega) rfl ?_
              refine r_k dX11_step_98 kkX11_82 ?_
              exact r_qIp dX11_step_100 rfl rfl rfl
  · refine r_ip (R := (rIp T)) c8_1 ?_
    refine r_k dX11_step_11 kkX11_82 ?_
    exact r_qIp dX11_step_13 rfl rfl rfl
