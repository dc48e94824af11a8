def x_ro_fill_12 (l0 : Nat) (l1 : Nat) (K : Int32 → St → St) : Nat → Int32 → St → St
  | 0, _, T => T
  | f + 1, v2, T => if (T.1 l1 4) ≤ v2 then (K v2 T) else (if 4 ≤ (T.1 l0 0) then (K v2 T) else (if (((T.1 l1 17) >>> (v2 &&& 31)) &&& 1) = 0 then (x_ro_fill_12 l0 l1 K f (v2 + 1) T) else (jn (fun (T1 : St) => x_ro_fill_12 l0 l1 K f (v2 + 1) (sF T1 l0 0 ((T1.1 l0 0) + 1))) (sA (x_ro_fillDish T l0 l1 v2) (l0 + 1) ((x_ro_fillDish T l0 l1 v2).1 l0 0 : Int32).toNatClampNeg v2))))
def ok_ro_fill_12 (l0 : Nat) (l1 : Nat) (Kk : Int32 → St → Prop) : Nat → Int32 → St → Prop
  | 0, _, _ => False
  | f + 1, v2, T => (sh l1 = .inr 1) ∧ (((T.1 l1 4) ≤ v2 → Kk v2 T) ∧ (¬ (T.1 l1 4) ≤ v2 → (sh l0 = .inr 7) ∧ ((4 ≤ (T.1 l0 0) → Kk v2 T) ∧ (¬ 4 ≤ (T.1 l0 0) → (((((T.1 l1 17) >>> (v2 &&& 31)) &&& 1) = 0 → ok_ro_fill_12 l0 l1 Kk f (v2 + 1) T) ∧ (¬ (((T.1 l1 17) >>> (v2 &&& 31)) &&& 1) = 0 → (ok_ro_fillDish T l0 l1 v2) ∧ (vp_in ((x_ro_fillDish T l0 l1 v2).1 l0 0) 4) ∧ jn (fun (T1 : St) => ok_ro_fill_12 l0 l1 Kk f (v2 + 1) (sF T1 l0 0 ((T1.1 l0 0) + 1))) (sA (x_ro_fillDish T l0 l1 v2) (l0 + 1) ((x_ro_fillDish T l0 l1 v2).1 l0 0 : Int32).toNatClampNeg v2)))))))
theorem c_ro_fill_12 {X : Nat × (Nat → Int32)} (l0 : Nat) (l1 : Nat) {K : Int32 → St → St} {Kk : Int32 → St → Prop} (hk : ∀ (v2 : Int32) (T : St), Kk v2 T → tR X 1 mX7_fill 71 [some (.ref l0), some (.ref l1), some (.int v2)] [] T (rV (K v2 T)).1 ((rV (K v2 T)).2)) : ∀ (f : Nat) (v2 : Int32) (T : St), ok_ro_fill_12 l0 l1 Kk f v2 T → tR X 1 mX7_fill 12 [some (.ref l0), some (.ref l1), some (.int v2)] [] T (rV (x_ro_fill_12 l0 l1 K f v2 T)).1 ((rV (x_ro_fill_12 l0 l1 K f v2 T)).2) := by
  intro f
  induction f with
  | zero => intro v2 T kk; exact kk.elim
  | succ f ih =>
    intro v2 T kk
    rw [ok_ro_fill_12] at kk
    rw [x_ro_fill_12]
    refine r_p (pc2 := 13) dX7_fill_12 rfl rfl ?_
    refine r_p (pc2 := 14) dX7_fill_13 rfl rfl ?_
    obtain ⟨q2, kk⟩ := kk
    refine r_get dX7_fill_14 fkX7_37 q2 rfl ?_
    refine r_cge dX7_fill_17 rfl (fun c17_1 => ?_) (fun c17_1 => ?_)
    · refine r_ip (R := rV) c17_1 ?_
      have kk := kk.1 c17_1
      show tR _ _ _ _ [some (.ref l0), some (.ref l1), some (.int v2)] _ _ _ _
      exact (hk v2 T kk)
    · refine r_in (R := rV) c17_1 ?_
      have kk := kk.2 c17_1
      refine r_p (pc2 := 21) dX7_fill_20 rfl rfl ?_
      obtain ⟨q3, kk⟩ := kk
      refine r_get dX7_fill_21 fkX7_30 q3 rfl ?_
      refine r_ci (x := 4) dX7_fill_24 rfl ?_
      refine r_cge dX7_fill_25 rfl (fun c25_2 => ?_) (fun c25_2 => ?_)
      · refine r_ip (R := rV) c25_2 ?_
        have kk := kk.1 c25_2
        show tR _ _ _ _ [some (.ref l0), some (.ref l1), some (.int v2)] _ _ _ _
        exact (hk v2 T kk)
      · refine r_in (R := rV) c25_2 ?_
        have kk := kk.2 c25_2
        refine r_p (pc2 := 29) dX7_fill_28 rfl rfl ?_
        refine r_get dX7_fill_29 fkX7_40 q2 rfl ?_
        refine r_p (pc2 := 33) dX7_fill_32 rfl rfl ?_
        refine r_p (pc2 := 34) dX7_fill_33 rfl rfl ?_
        refine r_ci (x := 1) dX7_fill_34 rfl ?_
        refine r_p (pc2 := 36) dX7_fill_35 rfl rfl ?_
        refine r_ieq dX7_fill_36 rfl (fun c36_3 => ?_) (fun c36_3 => ?_)
        · refine r_ip (R := rV) c36_3 ?_
          have kk := kk.1 c36_3
          refine r_inc (L2 := [some (.ref l0), some (.ref l1), some (.int (v2 + 1))]) (y := 1) dX7_fill_65 rfl rfl rfl ?_
          refine r_go dX7_fill_68 rfl ?_
          show tR _ _ _ _ [some (.ref l0), some (.ref l1), some (.int (v2 + 1))] _ _ _ _
          exact (ih (v2 + 1) T kk)
        · refine r_in (R := rV) c36_3 ?_
          have kk := kk.2 c36_3
          refine r_p (pc2 := 40) dX7_fill_39 rfl rfl ?_
          refine r_p (pc2 := 41) dX7_fill_40 rfl rfl ?_
          refine r_p (pc2 := 42) dX7_fill_41 rfl rfl ?_
          obtain ⟨q4, kk⟩ := kk
          refine r_cv (d1 := 1) dX7_fill_42 cvX7_43 rfl rfl q3 rfl (Nat.le_of_ble_eq_true rfl) (Nat.le_of_ble_eq_true rfl) (Nat.le_of_ble_eq_true rfl) (c_ro_fillDish l0 l1 v2 q4) ?_
          refine r_p (pc2 := 46) dX7_fill_45 rfl rfl ?_
          refine r_get dX7_fill_46 fkX7_9 q3 rfl ?_
          refine r_p (pc2 := 50) dX7_fill_49 rfl rfl ?_
          refine r_get dX7_fill_50 fkX7_30 q3 rfl ?_
          refine r_p (pc2 := 54) dX7_fill_53 rfl rfl ?_
          obtain ⟨q5, kk⟩ := kk
          refine r_ias dX7_fill_54 (shl7_1 q3) q5 ?_
          refine r_nT (R := rV) kk (fun T1 kk => ?_)
          refine r_p (pc2 := 56) dX7_fill_55 rfl rfl ?_
          refine r_p (pc2 := 57) dX7_fill_56 rfl rfl ?_
          refine r_get dX7_fill_57 fkX7_30 q3 rfl ?_
          refine r_ci (x := 1) dX7_fill_60 rfl ?_
          refine r_p (pc2 := 62) dX7_fill_61 rfl rfl ?_
          refine r_put dX7_fill_62 fkX7_30 rfl q3 rfl (Nat.le_of_ble_eq_true rfl) rfl rfl ?_
          refine r_inc (L2 := [some (.ref l0), some (.ref l1), some (.int (v2 + 1))]) (y := 1) dX7_fill_65 rfl rfl rfl ?_
          refine r_go dX7_fill_68 rfl ?_
          show tR _ _ _ _ [some (.ref l0), some (.ref l1), some (.int (v2 + 1))] _ _ _ _
          exact (ih (v2 + 1) (sF T1 l0 0 ((T1.1 l0 0) + 1)) kk)
def x_ro_fill (T : St) (a : Nat) (p0 : Nat) : St := x_ro_fill_12 a p0 (fun (w1_2 : Int32) (T201 : St) => T201) 1000 0 (sF (sF T a 0 0) a 1 0)
def ok_ro_fill (T : St) (a : Nat) (p0 : Nat) : Prop := (sh a = .inr 7) ∧ ok_ro_fill_12 a p0 (fun (w1_2 : Int32) (T201 : St) => True) 1000 0 (sF (sF T a 0 0) a 1 0)
theorem c_ro_fill {X : Nat × (Nat → Int32)} {T : St} (a : Nat) (p0 : Nat) (kk : ok_ro_fill T a p0) : tC X 2 mX7_fill [.ref a, .ref p0] T none (x_ro_fill T a p0) := by
  unfold ok_ro_fill at kk
  refine tC_orV (L := [some (.ref a), some (.ref p0), none]) (x_ro_fill T a p0) rfl ?_
  unfold x_ro_fill
  refine r_p (pc2 := 1) dX7_fill_0 rfl rfl ?_
  refine r_ci (x := 0) dX7_fill_1 rfl ?_
  obtain ⟨q1, kk⟩ := kk
  refine r_put dX7_fill_2 fkX7_30 rfl q1 rfl (Nat.le_of_ble_eq_true rfl) rfl rfl ?_
  refine r_p (pc2 := 6) dX7_fill_5 rfl rfl ?_
  refine r_ci (x := 0) dX7_fill_6 rfl ?_
  refine r_put dX7_fill_7 fkX7_34 rfl q1 rfl (Nat.le_of_ble_eq_true rfl) rfl rfl ?_
  refine r_ci (x := 0) dX7_fill_10 rfl ?_
  refine r_p (pc2 := 12) (L2 := [some (.ref a), some (.ref p0), some (.int 0)]) dX7_fill_11 rfl rfl ?_
  show tR _ _ _ _ [some (.ref a), some (.ref p0), some (.int 0)] _ _ _ _
  refine (c_ro_fill_12 a p0 (fun w1_2 T201 kk => ?_) 1000 0 (sF (sF T a 0 0) a 1 0) kk)
  · skip
    exact (r_rv dX7_fill_71 rfl rfl rfl)
def x_wa_lay_33 (l0 : Nat) (l1 : Nat) (l2 : Int32) (l3 : Int32) (K : Int32 → St → St) : Nat → Int32 → St → St
  | 0, _, T => T
  | f + 1, v4, T => if l3 < v4 then (K v4 T) else (jn (fun (k3 : Int64) => jn (fun (i4 : Int32) => jn (fun (i5 : Int32) => jn (fun (KJ1 : St → St) => if i4 = 0 then (jn (fun (T14 : St) => KJ1 T14) (sL T (l0 + 3) (0 : Int32).toNatClampNeg ((T.2.2.2 (l0 + 3) (0 : Int32).toNatClampNeg) ||| k3))) else (KJ1 T)) (fun (T301 : St) => jn (fun (KJ2 : St → St) => if i4 = 0 then (if (T301.2.2.1 (l1 + 13) (l2 + v4 : Int32).toNatClampNeg) = 1 then (jn (fun (T13 : St) => KJ2 T13) (sL T301 (l0 + 3) (1 : Int32).toNatClampNeg ((T301.2.2.2 (l0 + 3) (1 : Int32).toNatClampNeg) ||| k3))) else (KJ2 T301)) else (KJ2 T301)) (fun (T302 : St) => jn (fun (KJ3 : St → St) => if i4 = 1 then (jn (fun (T12 : St) => KJ3 T12) (sL T302 (l0 + 3) (2 : Int32).toNatClampNeg ((T302.2.2.2 (l0 + 3) (2 : Int32).toNatClampNeg) ||| k3))) else (KJ3 T302)) (fun (T303 : St) => jn (fun (KJ4 : St → St) => if i5 = 1 then (jn (fun (T11 : St) => KJ4 T11) (sL T303 (l0 + 3) (3 : Int32).toNatClampNeg ((T303.2.2.2 (l0 + 3) (3 : Int32).toNatClampNeg) ||| (x_x_span T303 (T303.2.2.1 (l0 + 1) (v4 : Int32).toNatClampNeg) 1)))) else (KJ4 T303)) (fun (T304 : St) => if i5 = 2 then (jn (fun (T10 : St) => x_wa_lay_33 l0 l1 l2 l3 K f (v4 + 1) T10) (sL T304 (l0 + 3) (3 : Int32).toNatClampNeg ((T304.2.2.2 (l0 + 3) (3 : Int32).toNatClampNeg) ||| k3))) else (x_wa_lay_33 l0 l1 l2 l3 K f (v4 + 1) T304)))))) (T.2.2.1 (l1 + 12) (l2 + v4 : Int32).toNatClampNeg)) (T.2.2.1 (l1 + 9) (l2 + v4 : Int32).toNatClampNeg)) (x_x_span T (T.2.2.1 (l0 + 1) (v4 : Int32).toNatClampNeg) (T.2.2.1 (l0 + 2) (v4 : Int32).toNatClampNeg)))
def ok_wa_lay_33 (l0 : Nat) (l1 : Nat) (l2 : Int32) (l3 : Int32) (Kk : Int32 → St → Prop) : Nat → Int32 → St → Prop
  | 0, _, _ => False
  | f + 1, v4, T => ((l3 < v4 → Kk v4 T) ∧ (¬ l3 < v4 → (sh l0 = .inr 10) ∧ (vp_in v4 3) ∧ jn (fun (k3 : Int64) => (sh l1 = .inr 1) ∧ (vp_in (l2 + v4) 24) ∧ jn (fun (i4 : Int32) => jn (fun (i5 : Int32) => jn (fun (OJ1 : St → Prop) => ((i4 = 0 → jn (fun (T14 : St) => OJ1 T14) (sL T (l0 + 3) (0 : Int32).toNatClampNeg ((T.2.2.2 (l0 + 3) (0 : Int32).toNatClampNeg) ||| k3))) ∧ (¬ i4 = 0 → OJ1 T))) (fun (T301 : St) => jn (fun (OJ2 : St → Prop) => ((i4 = 0 → (((T301.2.2.1 (l1 + 13) (l2 + v4 : Int32).toNatClampNeg) = 1 → jn (fun (T13 : St) => OJ2 T13) (sL T301 (l0 + 3) (1 : Int32).toNatClampNeg ((T301.2.2.2 (l0 + 3) (1 : Int32).toNatClampNeg) ||| k3))) ∧ (¬ (T301.2.2.1 (l1 + 13) (l2 + v4 : Int32).toNatClampNeg) = 1 → OJ2 T301))) ∧ (¬ i4 = 0 → OJ2 T301))) (fun (T302 : St) => jn (fun (OJ3 : St → Prop) => ((i4 = 1 → jn (fun (T12 : St) => OJ3 T12) (sL T302 (l0 + 3) (2 : Int32).toNatClampNeg ((T302.2.2.2 (l0 + 3) (2 : Int32).toNatClampNeg) ||| k3))) ∧ (¬ i4 = 1 → OJ3 T302))) (fun (T303 : St) => jn (fun (OJ4 : St → Prop) => ((i5 = 1 → jn (fun (T11 : St) => OJ4 T11) (sL T303 (l0 + 3) (3 : Int32).toNatClampNeg ((T303.2.2.2 (l0 + 3) (3 : Int32).toNatClampNeg) ||| (x_x_span T303 (T303.2.2.1 (l0 + 1) (v4 : Int32).toNatClampNeg) 1)))) ∧ (¬ i5 = 1 → OJ4 T303))) (fun (T304 : St) => ((i5 = 2 → jn (fun (T10 : St) => ok_wa_lay_33 l0 l1 l2 l3 Kk f (v4 + 1) T10) (sL T304 (l0 + 3) (3 : Int32).toNatClampNeg ((T304.2.2.2 (l0 + 3) (3 : Int32).toNatClampNeg) ||| k3))) ∧ (¬ i5 = 2 → ok_wa_lay_33 l0 l1 l2 l3 Kk f (v4 + 1) T304))))))) (T.2.2.1 (l1 + 12) (l2 + v4 : Int32).toNatClampNeg)) (T.2.2.1 (l1 + 9) (l2 + v4 : Int32).toNatClampNeg)) (x_x_span T (T.2.2.1 (l0 + 1) (v4 : Int32).toNatClampNeg) (T.2.2.1 (l0 + 2) (v4 : Int32).toNatClampNeg))))
theorem c_wa_lay_33 {X : Nat × (Nat → Int32)} (l0 : Nat) (l1 : Nat) (l2 : Int32) (l3 : Int32) {K : Int32 → St → St} {Kk : Int32 → St → Prop} (hk : ∀ (v4 : Int32) (T : St), Kk v4 T → tR X 1 mX10_lay 191 [some (.ref l0), some (.ref l1), some (.int l2), some (.int l3), some (.int v4), none, none, none, none] [] T (rV (K v4 T)).1 ((rV (K v4 T)).2)) : ∀ (f : Nat) (v4 : Int32) (T : St), ok_wa_lay_33 l0 l1 l2 l3 Kk f v4 T → tR X 1 mX10_lay 33 [some (.ref l0), some (.ref l1), some (.int l2), some (.int l3), some (.int v4), none, none, none, none] [] T (rV (x_wa_lay_33 l0 l1 l2 l3 K f v4 T)).1 ((rV (x_wa_lay_33 l0 l1 l2 l3 K f v4 T)).2) := by
  intro f
  induction f with
  | zero => intro v4 T kk; exact kk.elim
  | succ f ih =>
    intro v4 T kk
    rw [ok_wa_lay_33] at kk
    rw [x_wa_lay_33]
    refine r_p (pc2 := 35) dX10_lay_33 rfl rfl ?_
    refine r_p (pc2 := 36) dX10_lay_35 rfl rfl ?_
    refine r_cgt dX10_lay_36 rfl (fun c36_1 => ?_) (fun c36_1 => ?_)
    · refine r_ip (R := rV) c36_1 ?_
      have kk := kk.1 c36_1
      show tR _ _ _ _ [some (.ref l0), some (.ref l1), some (.int l2), some (.int l3), some (.int v4), none, none, none, none] _ _ _ _
      exact (hk v4 T kk)
    · refine r_in (R := rV) c36_1 ?_
      have kk := kk.2 c36_1
      refine r_p (pc2 := 40) dX10_lay_39 rfl rfl ?_
      obtain ⟨q5, kk⟩ := kk
      refine r_get dX10_lay_40 fkX10_9 q5 rfl ?_
      refine r_p (pc2 := 45) dX10_lay_43 rfl rfl ?_
      obtain ⟨q6, kk⟩ := kk
      refine r_ia dX10_lay_45 (shl10_1 q5) q6 ?_
      refine r_p (pc2 := 47) dX10_lay_46 rfl rfl ?_
      refine r_get dX10_lay_47 fkX10_15 q5 rfl ?_
      refine r_p (pc2 := 52) dX10_lay_50 rfl rfl ?_
      refine r_ia dX10_lay_52 (shl10_2 q5) q6 ?_
      refine r_cs (d1 := 1) dX10_lay_53 csX10_66 rfl rfl (Nat.le_of_ble_eq_true rfl) (Nat.le_of_ble_eq_true rfl) (Nat.le_of_ble_eq_true rfl) (c_x_span (T.2.2.1 (l0 + 1) (v4 : Int32).toNatClampNeg) (T.2.2.1 (l0 + 2) (v4 : Int32).toNatClampNeg)) ?_
      refine r_nJ (R := rV) kk (fun k3 kk => ?_)
      refine r_p (pc2 := 58) (L2 := [some (.ref l0), some (.ref l1), some (.int l2), some (.int l3), some (.int v4), some (.long k3), none, none, none]) dX10_lay_56 rfl rfl ?_
      refine r_p (pc2 := 59) dX10_lay_58 rfl rfl ?_
      obtain ⟨q7, kk⟩ := kk
      refine r_get dX10_lay_59 fkX10_38 q7 rfl ?_
      refine r_p (pc2 := 63) dX10_lay_62 rfl rfl ?_
      refine r_p (pc2 := 65) dX10_lay_63 rfl rfl ?_
      refine r_p (pc2 := 66) dX10_lay_65 rfl rfl ?_
      obtain ⟨q8, kk⟩ := kk
      refine r_ia dX10_lay_66 (shl1_9 q7) q8 ?_
      refine r_nI (R := rV) kk (fun i4 kk => ?_)
      refine r_p (pc2 := 69) (L2 := [some (.ref l0), some (.ref l1), some (.int l2), some (.int l3), some (.int v4), some (.long k3), none, some (.int i4), none]) dX10_lay_67 rfl rfl ?_
      refine r_p (pc2 := 70) dX10_lay_69 rfl rfl ?_
      refine r_get dX10_lay_70 fkX10_70 q7 rfl ?_
      refine r_p (pc2 := 74) dX10_lay_73 rfl rfl ?_
      refine r_p (pc2 := 76) dX10_lay_74 rfl rfl ?_
      refine r_p (pc2 := 77) dX10_lay_76 rfl rfl ?_
      refine r_ia dX10_lay_77 (shl1_12 q7) q8 ?_
      refine r_nI (R := rV) kk (fun i5 kk => ?_)
      refine r_p (pc2 := 80) (L2 := [some (.ref l0), some (.ref l1), some (.int l2), some (.int l3), some (.int v4), some (.long k3), none, some (.int i4), some (.int i5)]) dX10_lay_78 rfl rfl ?_
      refine r_p (pc2 := 82) dX10_lay_80 rfl rfl ?_
      refine r_jn (R := rV) (J := fun (KJ1 : St → St) (OJ1 : St → Prop) => ∀ (T301 : St), OJ1 T301 → tR X 1 mX10_lay 96 [some (.ref l0), some (.ref l1), some (.int l2), some (.int l3), some (.int v4), some (.long k3), none, some (.int i4), some (.int i5)] [] T301 (rV (KJ1 T301)).1 (rV (KJ1 T301)).2) kk (fun T301 kk => ?_) (fun KJ1 OJ1 hJ1 kk => ?_)
      · skip
        refine r_p (pc2 := 98) dX10_lay_96 rfl rfl ?_
        refine r_jn (R := rV) (J := fun (KJ2 : St → St) (OJ2 : St → Prop) => ∀ (T302 : St), OJ2 T302 → tR X 1 mX10_lay 125 [some (.ref l0), some (.ref l1), some (.int l2), some (.int l3), some (.int v4), some (.long k3), none, some (.int i4), some (.int i5)] [] T302 (rV (KJ2 T302)).1 (rV (KJ2 T302)).2) kk (fun T302 kk => ?_) (fun KJ2 OJ2 hJ2 kk => ?_)
        · skip
          refine r_p (pc2 := 127) dX10_lay_125 rfl rfl ?_
          refine r_ci (x := 1) dX10_lay_127 rfl ?_
          refine r_jn (R := rV) (J := fun (KJ3 : St → St) (OJ3 : St → Prop) => ∀ (T303 : St), OJ3 T303 → tR X 1 mX10_lay 142 [some (.ref l0), some (.ref l1), some (.int l2), some (.int l3), some (.int v4), some (.long k3), none, some (.int i4), some (.int i5)] [] T303 (rV (KJ3 T303)).1 (rV (KJ3 T303)).2) kk (fun T303 kk => ?_) (fun KJ3 OJ3 hJ3 kk => ?_)
          · skip
            refine r_p (pc2 := 144) dX10_lay_142 rfl rfl ?_
            refine r_ci (x := 1) dX10_lay_144 rfl ?_
            refine r_jn (R := rV) (J := fun (KJ4 : St → St) (OJ4 : St → Prop) => ∀ (T304 : St), OJ4 T304 → tR X 1 mX10_lay 168 [some (.ref l0), some (.ref l1), some (.int l2), some (.int l3), some (.int v4), some (.long k3), none, some (.int i4), some (.int i5)] [] T304 (rV (KJ4 T304)).1 (rV (KJ4 T304)).2) kk (fun T304 kk => ?_) (fun KJ4 OJ4 hJ4 kk => ?_)
            · skip
              refine r_p (pc2 := 170) dX10_lay_168 rfl rfl ?_
              refine r_ci (x := 2) dX10_lay_170 rfl ?_
              refine r_cne dX10_lay_171 rfl (fun c171_7 => ?_) (fun c171_7 => ?_)
              · refine r_in (R := rV) c171_7 ?_
                have kk := kk.2 c171_7
                refine r_inc (L2 := [some (.ref l0), some (.ref l1), some (.int l2), some (.int l3), some (.int (v4 + 1)), some (.long k3), none, some (.int i4), some (.int i5)]) (y := 1) dX10_lay_185 rfl rfl rfl ?_
                refine r_go dX10_lay_188 rfl ?_
                show tR _ _ _ _ [some (.ref l0), some (.ref l1), some (.int l2), some (.int l3), some (.int (v4 + 1)), some (.long k3), none, some (.int i4), some (.int i5)] _ _ _ _
                exact r_le (le_s (le_s (le_s (le_s (le_s (le_n (le_s (le_n (le_n (le_0)))))))))) (ih (v4 + 1) T304 kk)
              · refine r_ip (R := rV) c171_7 ?_
                have kk := kk.1 c171_7
                refine r_p (pc2 := 175) dX10_lay_174 rfl rfl ?_
                refine r_get dX10_lay_175 fkX10_18 q5 rfl ?_
                refine r_ci (x := 3) dX10_lay_178 rfl ?_
                refine r_p (pc2 := 180) dX10_lay_179 rfl rfl ?_
                refine r_la dX10_lay_180 (shl10_3 q5) (in_c (by decide)) ?_
                refine r_p (pc2 := 183) dX10_lay_181 rfl rfl ?_
                refine r_p (pc2 := 184) dX10_lay_183 rfl rfl ?_
                refine r_las dX10_lay_184 (shl10_3 q5) (in_c (by decide)) ?_
                refine r_nT (R := rV) kk (fun T10 kk => ?_)
                refine r_inc (L2 := [some (.ref l0), some (.ref l1), some (.int l2), some (.int l3), some (.int (v4 + 1)), some (.long k3), none, some (.int i4), some (.int i5)]) (y := 1) dX10_lay_185 rfl rfl rfl ?_
                refine r_go dX10_lay_188 rfl ?_
                show tR _ _ _ _ [some (.ref l0), some (.ref l1), some (.int l2), some (.int l3), some (.int (v4 + 1)), some (.long k3), none, some (.int i4), some (.int i5)] _ _ _ _
                exact r_le (le_s (le_s (le_s (le_s (le_s (le_n (le_s (le_n (le_n (le_0)))))))))) (ih (v4 + 1) T10 kk)
            refine r_cne dX10_lay_145 rfl (fun c145_8 => ?_) (fun c145_8 => ?_)
            · refine r_in (R := rV) c145_8 ?_
              have kk := kk.2 c145_8
              show tR _ _ _ _ [some (.ref l0), some (.ref l1), some (.int l2), some (.int l3), some (.int v4), some (.long k3), none, some (.int i4), some (.int i5)] [] _ _ _
              exact (hJ4 T303 kk)
            · refine r_ip (R := rV) c145_8 ?_
              have kk := kk.1 c145_8
              refine r_p (pc2 := 149) dX10_lay_148 rfl rfl ?_
              refine r_get dX10_lay_149 fkX10_18 q5 rfl ?_
              refine r_ci (x := 3) dX10_lay_152 rfl ?_
              refine r_p (pc2 := 154) dX10_lay_153 rfl rfl ?_
              refine r_la dX10_lay_154 (shl10_3 q5) (in_c (by decide)) ?_
              refine r_p (pc2 := 156) dX10_lay_155 rfl rfl ?_
              refine r_get dX10_lay_156 fkX10_9 q5 rfl ?_
              refine r_p (pc2 := 161) dX10_lay_159 rfl rfl ?_
              refine r_ia dX10_lay_161 (shl10_1 q5) q6 ?_
              refine r_ci (x := 1) dX10_lay_162 rfl ?_
              refine r_cs (d1 := 1) dX10_lay_163 csX10_66 rfl rfl (Nat.le_of_ble_eq_true rfl) (Nat.le_of_ble_eq_true rfl) (Nat.le_of_ble_eq_true rfl) (c_x_span (T303.2.2.1 (l0 + 1) (v4 : Int32).toNatClampNeg) 1) ?_
              refine r_p (pc2 := 167) dX10_lay_166 rfl rfl ?_
              refine r_las dX10_lay_167 (shl10_3 q5) (in_c (by decide)) ?_
              refine r_nT (R := rV) kk (fun T11 kk => ?_)
              show tR _ _ _ _ [some (.ref l0), some (.ref l1), some (.int l2), some (.int l3), some (.int v4), some (.long k3), none, some (.int i4), some (.int i5)] [] _ _ _
              exact (hJ4 T11 kk)
          refine r_cne dX10_lay_128 rfl (fun c128_9 => ?_) (fun c128_9 => ?_)
          · refine r_in (R := rV) c128_9 ?_
            have kk := kk.2 c128_9
            show tR _ _ _ _ [some (.ref l0), some (.ref l1), some (.int l2), some (.int l3), some (.int v4), some (.long k3), none, some (.int i4), some (.int i5)] [] _ _ _
            exact (hJ3 T302 kk)
          · refine r_ip (R := rV) c128_9 ?_
            have kk := kk.1 c128_9
            refine r_p (pc2 := 132) dX10_lay_131 rfl rfl ?_
            refine r_get dX10_lay_132 fkX10_18 q5 rfl ?_
            refine r_ci (x := 2) dX10_lay_135 rfl ?_
            refine r_p (pc2 := 137) dX10_lay_136 rfl rfl ?_
            refine r_la dX10_lay_137 (shl10_3 q5) (in_c (by decide)) ?_
            refine r_p (pc2 := 140) dX10_lay_138 rfl rfl ?_
            refine r_p (pc2 := 141) dX10_lay_140 rfl rfl ?_
            refine r_las dX10_lay_141 (shl10_3 q5) (in_c (by decide)) ?_
            refine r_nT (R := rV) kk (fun T12 kk => ?_)
            show tR _ _ _ _ [some (.ref l0), some (.ref l1), some (.int l2), some (.int l3), some (.int v4), some (.long k3), none, some (.int i4), some (.int i5)] [] _ _ _
            exact (hJ3 T12 kk)
        refine r_ine dX10_lay_98 rfl (fun c98_10 => ?_) (fun c98_10 => ?_)
        · refine r_in (R := rV) c98_10 ?_
          have kk := kk.2 c98_10
          show tR _ _ _ _ [some (.ref l0), some (.ref l1), some (.int l2), some (.int l3), some (.int v4), some (.long k3), none, some (.int i4), some (.int i5)] [] _ _ _
          exact (hJ2 T301 kk)
        · refine r_ip (R := rV) c98_10 ?_
          have kk := kk.1 c98_10
          refine r_p (pc2 := 102) dX10_lay_101 rfl rfl ?_
          refine r_get dX10_lay_102 fkX10_41 q7 rfl ?_
          refine r_p (pc2 := 106) dX10_lay_105 rfl rfl ?_
          refine r_p (pc2 := 108) dX10_lay_106 rfl rfl ?_
          refine r_p (pc2 := 109) dX10_lay_108 rfl rfl ?_
          refine r_ia dX10_lay_109 (shl1_13 q7) q8 ?_
          refine r_ci (x := 1) dX10_lay_110 rfl ?_
          refine r_cne dX10_lay_111 rfl (fun c111_11 => ?_) (fun c111_11 => ?_)
          · refine r_in (R := rV) c111_11 ?_
            have kk := kk.2 c111_11
            show tR _ _ _ _ [some (.ref l0), some (.ref l1), some (.int l2), some (.int l3), some (.int v4), some (.long k3), none, some (.int i4), some (.int i5)] [] _ _ _
            exact (hJ2 T301 kk)
          · refine r_ip (R := rV) c111_11 ?_
            have kk := kk.1 c111_11
            refine r_p (pc2 := 115) dX10_lay_114 rfl rfl ?_
            refine r_get dX10_lay_115 fkX10_18 q5 rfl ?_
            refine r_ci (x := 1) dX10_lay_118 rfl ?_
            refine r_p (pc2 := 120) dX10_lay_119 rfl rfl ?_
            refine r_la dX10_lay_120 (shl10_3 q5) (in_c (by decide)) ?_
            refine r_p (pc2 := 123) dX10_lay_121 rfl rfl ?_
            refine r_p (pc2 := 124) dX10_lay_123 rfl rfl ?_
            refine r_las dX10_lay_124 (shl10_3 q5) (in_c (by decide)) ?_
            refine r_nT (R := rV) kk (fun T13 kk => ?_)
            show tR _ _ _ _ [some (.ref l0), some (.ref l1), some (.int l2), some (.int l3), some (.int v4), some (.long k3), none, some (.int i4), some (.int i5)] [] _ _ _
            exact (hJ2 T13 kk)
      refine r_ine dX10_lay_82 rfl (fun c82_12 => ?_) (fun c82_12 => ?_)
      · refine r_in (R := rV) c82_12 ?_
        have kk := kk.2 c82_12
        show tR _ _ _ _ [some (.ref l0), some (.ref l1), some (.int l2), some (.int l3), some (.int v4), some (.long k3), none, some (.int i4), some (.int i5)] [] _ _ _
        exact (hJ1 T kk)
      · refine r_ip (R := rV) c82_12 ?_
        have kk := kk.1 c82_12
        refine r_p (pc2 := 86) dX10_lay_85 rfl rfl ?_
        refine r_get dX10_lay_86 fkX10_18 q5 rfl ?_
        refine r_ci (x := 0) dX10_lay_89 rfl ?_
        refine r_p (pc2 := 91) dX10_lay_90 rfl rfl ?_
        refine r_la dX10_lay_91 (shl10_3 q5) (in_c (by decide)) ?_
        refine r_p (pc2 := 94) dX10_lay_92 rfl rfl ?_
        refine r_p (pc2 := 95) dX10_lay_94 rfl rfl ?_
        refine r_las dX10_lay_95 (shl10_3 q5) (in_c (by decide)) ?_
        refine r_nT (R := rV) kk (fun T14 kk => ?_)
        show tR _ _ _ _ [some (.ref l0), some (.ref l1), some (.int l2), some (.int l3), some (.int v4), some (.long k3), none, some (.int i4), some (.int i5)] [] _ _ _
        exact (hJ1 T14 kk)
def x_wa_lay (T : St) (a : Nat) (p0 : Nat) : St := jn (fun (i1 : Int32) => jn (fun (i2 : Int32) => x_wa_lay_33 a p0 i1 i2 (fun (w1_4 : Int32) (T201 : St) => if (T201.2.2.1 (p0 + 6) (T201.1 a 3 : Int32).toNatClampNeg) = 1 then (sL T201 (a + 3) (4 : Int32).toNatClampNeg (x_x_span T201 (T201.2.2.1 (a + 1) (0 : Int32).toNatClampNeg) (((T201.2.2.1 (a + 1) (i2 : Int32).toNatClampNeg) + (T201.2.2.1 (a + 2) (i2 : Int32).toNatClampNeg)) - (T201.2.2.1 (a + 1) (0 : Int32).toNatClampNeg)))) else (T201)) 1000 0 (x_fillJ T (a + 3) 0)) (((x_fillJ T (a + 3) 0).2.2.1 (p0 + 7) ((x_fillJ T (a + 3) 0).1 a 3 : Int32).toNatClampNeg) - 1)) ((x_fillJ T (a + 3) 0).2.2.1 (p0 + 8) ((x_fillJ T (a + 3) 0).1 a 3 : Int32).toNatClampNeg)
def ok_wa_lay (T : St) (a : Nat) (p0 : Nat) : Prop := (sh a = .inr 10) ∧ (ok_fillJ T (a + 3) 0) ∧ (sh p0 = .inr 1) ∧ (vp_in ((x_fillJ T (a + 3) 0).1 a 3) 8) ∧ jn (fun (i1 : Int32) => jn (fun (i2 : Int32) => ok_wa_lay_33 a p0 i1 i2 (fun (w1_4 : Int32) (T201 : St) => (vp_in (T201.1 a 3) 8) ∧ ((T201.2.2.1 (p0 + 6) (T201.1 a 3 : Int32).toNatClampNeg) = 1 → (vp_in i2 3) ∧ True)) 1000 0 (x_fillJ T (a + 3) 0)) (((x_fillJ T (a + 3) 0).2.2.1 (p0 + 7) ((x_fillJ T (a + 3) 0).1 a 3 : Int32).toNatClampNeg) - 1)) ((x_fillJ T (a + 3) 0).2.2.1 (p0 + 8) ((x_fillJ T (a + 3) 0).1 a 3 : Int32).toNatClampNeg)
theorem c_wa_lay {X : Nat × (Nat → Int32)} {T : St} (a : Nat) (p0 : Nat) (kk : ok_wa_lay T a p0) : tC X 2 mX10_lay [.ref a, .ref p0] T none (x_wa_lay T a p0) := by
  unfold ok_wa_lay at kk
  refine tC_orV (L := [some (.ref a), some (.ref p0), none, none, none, none, none, none, none]) (x_wa_lay T a p0) rfl ?_
  unfold x_wa_lay
  refine r_p (pc2 := 1) dX10_lay_0 rfl rfl ?_
  obtain ⟨q1, kk⟩ := kk
  refine r_get dX10_lay_1 fkX10_18 q1 rfl ?_
  refine r_cl (x := 0) dX10_lay_4 rfl ?_
  obtain ⟨q2, kk⟩ := kk
  refine r_cs (d1 := 1) dX10_lay_5 csX10_60 rfl rfl (Nat.le_of_ble_eq_true rfl) (Nat.le_of_ble_eq_true rfl) (Nat.le_of_ble_eq_true rfl) (c_fillJ (a + 3) 0 q2) ?_
  refine r_p (pc2 := 9) dX10_lay_8 rfl rfl ?_
  obtain ⟨q3, kk⟩ := kk
  refine r_get dX10_lay_9 fkX10_26 q3 rfl ?_
  refine r_p (pc2 := 13) dX10_lay_12 rfl rfl ?_
  refine r_get dX10_lay_13 fkX10_22 q1 rfl ?_
  obtain ⟨q4, kk⟩ := kk
  refine r_ia dX10_lay_16 (shl1_8 q3) q4 ?_
  refine r_nI (R := rV) kk (fun i1 kk => ?_)
  refine r_p (pc2 := 18) (L2 := [some (.ref a), some (.ref p0), some (.int i1), none, none, none, none, none, none]) dX10_lay_17 rfl rfl ?_
  refine r_p (pc2 := 19) dX10_lay_18 rfl rfl ?_
  refine r_get dX10_lay_19 fkX10_34 q3 rfl ?_
  refine r_p (pc2 := 23) dX10_lay_22 rfl rfl ?_
  refine r_get dX10_lay_23 fkX10_22 q1 rfl ?_
  refine r_ia dX10_lay_26 (shl1_7 q3) q4 ?_
  refine r_ci (x := 1) dX10_lay_27 rfl ?_
  refine r_p (pc2 := 29) dX10_lay_28 rfl rfl ?_
  refine r_nI (R := rV) kk (fun i2 kk => ?_)
  refine r_p (pc2 := 30) (L2 := [some (.ref a), some (.ref p0), some (.int i1), some (.int i2), none, none, none, none, none]) dX10_lay_29 rfl rfl ?_
  refine r_ci (x := 0) dX10_lay_30 rfl ?_
  refine r_p (pc2 := 33) (L2 := [some (.ref a), some (.ref p0), some (.int i1), some (.int i2), some (.int 0), none, none, none, none]) dX10_lay_31 rfl rfl ?_
  show tR _ _ _ _ [some (.ref a), some (.ref p0), some (.int i1), some (.int i2), some (.int 0), none, none, none, none] _ _ _ _
  refine (c_wa_lay_33 a p0 i1 i2 (fun w1_4 T201 kk => ?_) 1000 0 (x_fillJ T (a + 3) 0) kk)
  · skip
    refine r_p (pc2 := 192) dX10_lay_191 rfl rfl ?_
    refine r_get dX10_lay_192 fkX10_73 q3 rfl ?_
    refine r_p (pc2 := 196) dX10_lay_195 rfl rfl ?_
    refine r_get dX10_lay_196 fkX10_22 q1 rfl ?_
    obtain ⟨q9, kk⟩ := kk
    refine r_ia dX10_lay_199 (shl1_6 q3) q9 ?_
    refine r_ci (x := 1) dX10_lay_200 rfl ?_
    refine r_cne dX10_lay_201 rfl (fun c201_13 => ?_) (fun c201_13 => ?_)
    · refine r_in (R := rV) c201_13 ?_
      exact (r_rv dX10_lay_239 rfl rfl rfl)
    · refine r_ip (R := rV) c201_13 ?_
      have kk := kk c201_13
      refine r_p (pc2 := 205) dX10_lay_204 rfl rfl ?_
      refine r_get dX10_lay_205 fkX10_18 q1 rfl ?_
      refine r_ci (x := 4) dX10_lay_208 rfl ?_
      refine r_p (pc2 := 210) dX10_lay_209 rfl rfl ?_
      refine r_get dX10_lay_210 fkX10_9 q1 rfl ?_
      refine r_ci (x := 0) dX10_lay_213 rfl ?_
      refine r_ia dX10_lay_214 (shl10_1 q1) (in_c (by decide)) ?_
      refine r_p (pc2 := 216) dX10_lay_215 rfl rfl ?_
      refine r_get dX10_lay_216 fkX10_9 q1 rfl ?_
      refine r_p (pc2 := 220) dX10_lay_219 rfl rfl ?_
      obtain ⟨q10, kk⟩ := kk
      refine r_ia dX10_lay_220 (shl10_1 q1) q10 ?_
      refine r_p (pc2 := 222) dX10_lay_221 rfl rfl ?_
      refine r_get dX10_lay_222 fkX10_15 q1 rfl ?_
      refine r_p (pc2 := 226) dX10_lay_225 rfl rfl ?_
      refine r_ia dX10_lay_226 (shl10_2 q1) q10 ?_
      refine r_p (pc2 := 228) dX10_lay_227 rfl rfl ?_
      refine r_p (pc2 := 229) dX10_lay_228 rfl rfl ?_
      refine r_get dX10_lay_229 fkX10_9 q1 rfl ?_
      refine r_ci (x := 0) dX10_lay_232 rfl ?_
      refine r_ia dX10_lay_233 (shl10_1 q1) (in_c (by decide)) ?_
      refine r_p (pc2 := 235) dX10_lay_234 rfl rfl ?_
      refine r_cs (d1 := 1) dX10_lay_235 csX10_66 rfl rfl (Nat.le_of_ble_eq_true rfl) (Nat.le_of_ble_eq_true rfl) (Nat.le_of_ble_eq_true rfl) (c_x_span (T201.2.2.1 (a + 1) (0 : Int32).toNatClampNeg) (((T201.2.2.1 (a + 1) (i2 : Int32).toNatClampNeg) + (T201.2.2.1 (a + 2) (i2 : Int32).toNatClampNeg)) - (T201.2.2.1 (a + 1) (0 : Int32).toNatClampNeg))) ?_
      refine r_las dX10_lay_238 (shl10_3 q1) (in_c (by decide)) ?_
      exact (r_rv dX10_lay_239 rfl rfl rfl)
def x_x_sheet (T : St) (p0 : Int32) (p1 : Int32) (p2 : Int32) : Int32 × St := if (x_sh_isOne T p0) = 0 then ((-1000001), T) else (if p1 < 0 then ((-1000001), T) else (if 3 ≤ p1 then ((-1000001), T) else (if p2 ≤ 40 then (if 0 ≤ p2 then ((x_x_fine (x_sh_lay T p0 p1 p2) p2).1, (x_x_fine (x_sh_lay T p0 p1 p2) p2).2) else ((x_x_found T 4).1, (x_x_found T 4).2)) else ((-1000001), T))))
def ok_x_sheet (T : St) (p0 : Int32) (p1 : Int32) (p2 : Int32) : Prop := (¬ (x_sh_isOne T p0) = 0 → (¬ p1 < 0 → (¬ 3 ≤ p1 → (p2 ≤ 40 → (0 ≤ p2 → (ok_sh_lay T p0 p1 p2) ∧ True)))))
theorem c_x_sheet {X : Nat × (Nat → Int32)} {T : St} (p0 : Int32) (p1 : Int32) (p2 : Int32) (kk : ok_x_sheet T p0 p1 p2) : tC X 3 mX11_sheet [.ref 0, .int p0, .int p1, .int p2] T (some (.int (x_x_sheet T p0 p1 p2).1)) ((x_x_sheet T p0 p1 p2).2) := by
  unfold ok_x_sheet at kk
  refine tC_orI (L := [some (.ref 0), some (.int p0), some (.int p1), some (.int p2)]) (x_x_sheet T p0 p1 p2) rfl ?_
  unfold x_x_sheet
  refine r_p (pc2 := 1) dX11_sheet_0 rfl rfl ?_
  refine r_get dX11_sheet_1 fkX11_10 rfl rfl ?_
  refine r_p (pc2 := 5) dX11_sheet_4 rfl rfl ?_
  refine r_cv (d1 := 1) dX11_sheet_5 cvX11_78 rfl rfl rfl rfl (Nat.le_of_ble_eq_true rfl) (Nat.le_of_ble_eq_true rfl) (Nat.le_of_ble_eq_true rfl) (c_sh_isOne p0) ?_
  refine r_ieq dX11_sheet_8 rfl (fun c8_1 => ?_) (fun c8_1 => ?_)
  · refine r_ip (R := rI) c8_1 ?_
    refine r_k dX11_sheet_26 kkX11_82 ?_
    exact (r_ri dX11_sheet_28 rfl rfl rfl rfl)
  · refine r_in (R := rI) c8_1 ?_
    have kk := kk c8_1
    refine r_p (pc2 := 12) dX11_sheet_11 rfl rfl ?_
    refine r_ilt dX11_sheet_12 rfl (fun c12_2 => ?_) (fun c12_2 => ?_)
    · refine r_ip (R := rI) c12_2 ?_
      refine r_k dX11_sheet_26 kkX11_82 ?_
      exact (r_ri dX11_sheet_28 rfl rfl rfl rfl)
    · refine r_in (R := rI) c12_2 ?_
      have kk := kk c12_2
      refine r_p (pc2 := 16) dX11_sheet_15 rfl rfl ?_
      refine r_ci (x := 3) dX11_sheet_16 rfl ?_
      refine r_cge dX11_sheet_17 rfl (fun c17_3 => ?_) (fun c17_3 => ?_)
      · refine r_ip (R := rI) c17_3 ?_
        refine r_k dX11_sheet_26 kkX11_82 ?_
        exact (r_ri dX11_sheet_28 rfl rfl rfl rfl)
      · refine r_in (R := rI) c17_3 ?_
        have kk := kk c17_3
        refine r_p (pc2 := 21) dX11_sheet_20 rfl rfl ?_
        refine r_cb (x := 40) dX11_sheet_21 rfl ?_
        refine r_cle dX11_sheet_23 rfl (fun c23_4 => ?_) (fun c23_4 => ?_)
        · refine r_ip (R := rI) c23_4 ?_
          have kk := kk c23_4
          refine r_p (pc2 := 30) dX11_sheet_29 rfl rfl ?_
          refine r_ige dX11_sheet_30 rfl (fun c30_5 => ?_) (fun c30_5 => ?_)
          · refine r_ip (R := rI) c30_5 ?_
            have kk := kk c30_5
            refine r_p (pc2 := 40) dX11_sheet_39 rfl rfl ?_
            refine r_get dX11_sheet_40 fkX11_10 rfl rfl ?_
            refine r_p (pc2 := 44) dX11_sheet_43 rfl rfl ?_
            refine r_p (pc2 := 45) dX11_sheet_44 rfl rfl ?_
            refine r_p (pc2 := 46) dX11_sheet_45 rfl rfl ?_
            obtain ⟨q1, kk⟩ := kk
            refine r_cv (d1 := 2) dX11_sheet_46 cvX11_87 rfl rfl rfl rfl (Nat.le_of_ble_eq_true rfl) (Nat.le_of_ble_eq_true rfl) (Nat.le_of_ble_eq_true rfl) (c_sh_lay p0 p1 p2 q1) ?_
            refine r_p (pc2 := 50) dX11_sheet_49 rfl rfl ?_
            refine r_p (pc2 := 51) dX11_sheet_50 rfl rfl ?_
            refine r_cv (d1 := 1) dX11_sheet_51 cvX11_91 rfl rfl rfl rfl (Nat.le_of_ble_eq_true rfl) (Nat.le_of_ble_eq_true rfl) (Nat.le_of_ble_eq_true rfl) (c_x_fine p2) ?_
            exact (r_ri dX11_sheet_54 rfl rfl rfl rfl)
          · refine r_in (R := rI) c30_5 ?_
            refine r_p (pc2 := 34) dX11_sheet_33 rfl rfl ?_
            refine r_ci (x := 4) dX11_sheet_34 rfl ?_
            refine r_cv (d1 := 1) dX11_sheet_35 cvX11_83 rfl rfl rfl rfl (Nat.le_of_ble_eq_true rfl) (Nat.le_of_ble_eq_true rfl) (Nat.le_of_ble_eq_true rfl) (c_x_found 4) ?_
            exact (r_ri dX11_sheet_38 rfl rfl rfl rfl)
        · refine r_in (R := rI) c23_4 ?_
          refine r_k dX11_sheet_26 kkX11_82 ?_
          exact (r_ri dX11_sheet_28 rfl rfl rfl rfl)
def x_x_set (T : St) (p0 : Int32) (p1 : Int32) (p2 : Int32) : Int32 × St := if (x_sh_isOne T p0) = 0 then ((-1000001), T) else (if (x_sh_isMissing T p0) = 0 then (if (x_sh_reaches T p0 p1 1) = 0 then ((x_x_found T 2).1, (x_x_found T 2).2) else ((x_x_fine ((x_sh_write T p0 p1 p2).2) ((x_sh_write T p0 p1 p2).1)).1, (x_x_fine ((x_sh_write T p0 p1 p2).2) ((x_sh_write T p0 p1 p2).1)).2)) else ((x_x_found T 1).1, (x_x_found T 1).2))
def ok_x_set (T : St) (p0 : Int32) (p1 : Int32) (p2 : Int32) : Prop := (¬ (x_sh_isOne T p0) = 0 → (ok_sh_isMissing T p0) ∧ ((x_sh_isMissing T p0) = 0 → (ok_sh_reaches T p0 p1 1) ∧ (¬ (x_sh_reaches T p0 p1 1) = 0 → (ok_sh_write T p0 p1 p2) ∧ True)))
theorem c_x_set {X : Nat × (Nat → Int32)} {T : St} (p0 : Int32) (p1 : Int32) (p2 : Int32) (kk : ok_x_set T p0 p1 p2) : tC X 2 mX11_set [.ref 0, .int p0, .int p1, .int p2] T (some (.int (x_x_set T p0 p1 p2).1)) ((x_x_set T p0 p1 p2).2) := by
  unfold ok_x_set at kk
  refine tC_orI (L := [some (.ref 0), some (.int p0), some (.int p1), some (.int p2)]) (x_x_set T p0 p1 p2) rfl ?_
  unfold x_x_set
  refine r_p (pc2 := 1) dX11_set_0 rfl rfl ?_
  refine r_get dX11_set_1 fkX11_10 rfl rfl ?_
  refine r_p (pc2 := 5) dX11_set_4 rfl rfl ?_
  refine r_cv (d1 := 1) dX11_set_5 cvX11_78 rfl rfl rfl rfl (Nat.le_of_ble_eq_true rfl) (Nat.le_of_ble_eq_true rfl) (Nat.le_of_ble_eq_true rfl) (c_sh_isOne p0) ?_
  refine r_ine dX11_set_8 rfl (fun c8_1 => ?_) (fun c8_1 => ?_)
  · refine r_in (R := rI) c8_1 ?_
    have kk := kk c8_1
    refine r_p (pc2 := 15) dX11_set_14 rfl rfl ?_
    refine r_get dX11_set_15 fkX11_10 rfl rfl ?_
    refine r_p (pc2 := 19) dX11_set_18 rfl rfl ?_
    obtain ⟨q1, kk⟩ := kk
    refine r_cv (d1 := 1) dX11_set_19 cvX11_94 rfl rfl rfl rfl (Nat.le_of_ble_eq_true rfl) (Nat.le_of_ble_eq_true rfl) (Nat.le_of_ble_eq_true rfl) (c_sh_isMissing p0 q1) ?_
    refine r_ieq dX11_set_22 rfl (fun c22_2 => ?_) (fun c22_2 => ?_)
    · refine r_ip (R := rI) c22_2 ?_
      have kk := kk c22_2
      refine r_p (pc2 := 32) dX11_set_31 rfl rfl ?_
      refine r_get dX11_set_32 fkX11_10 rfl rfl ?_
      refine r_p (pc2 := 36) dX11_set_35 rfl rfl ?_
      refine r_p (pc2 := 37) dX11_set_36 rfl rfl ?_
      refine r_ci (x := 1) dX11_set_37 rfl ?_
      obtain ⟨q2, kk⟩ := kk
      refine r_cv (d1 := 1) dX11_set_38 cvX11_97 rfl rfl rfl rfl (Nat.le_of_ble_eq_true rfl) (Nat.le_of_ble_eq_true rfl) (Nat.le_of_ble_eq_true rfl) (c_sh_reaches p0 p1 1 q2) ?_
      refine r_ine dX11_set_41 rfl (fun c41_3 => ?_) (fun c41_3 => ?_)
      · refine r_in (R := rI) c41_3 ?_
        have kk := kk c41_3
        refine r_p (pc2 := 51) dX11_set_50 rfl rfl ?_
        refine r_p (pc2 := 52) dX11_set_51 rfl rfl ?_
        refine r_get dX11_set_52 fkX11_10 rfl rfl ?_
        refine r_p (pc2 := 56) dX11_set_55 rfl rfl ?_
        refine r_p (pc2 := 57) dX11_set_56 rfl rfl ?_
        refine r_p (pc2 := 58) dX11_set_57 rfl rfl ?_
        obtain ⟨q3, kk⟩ := kk
        refine r_cv (d1 := 1) dX11_set_58 cvX11_101 rfl rfl rfl rfl (Nat.le_of_ble_eq_true rfl) (Nat.le_of_ble_eq_true rfl) (Nat.le_of_ble_eq_true rfl) (c_sh_write p0 p1 p2 q3) ?_
        refine r_cv (d1 := 1) dX11_set_61 cvX11_91 rfl rfl rfl rfl (Nat.le_of_ble_eq_true rfl) (Nat.le_of_ble_eq_true rfl) (Nat.le_of_ble_eq_true rfl) (c_x_fine ((x_sh_write T p0 p1 p2).1)) ?_
        exact (r_ri dX11_set_64 rfl rfl rfl rfl)
      · refine r_ip (R := rI) c41_3 ?_
        refine r_p (pc2 := 45) dX11_set_44 rfl rfl ?_
        refine r_ci (x := 2) dX11_set_45 rfl ?_
        refine r_cv (d1 := 1) dX11_set_46 cvX11_83 rfl rfl rfl rfl (Nat.le_of_ble_eq_true rfl) (Nat.le_of_ble_eq_true rfl) (Nat.le_of_ble_eq_true rfl) (c_x_found 2) ?_
        exact (r_ri dX11_set_49 rfl rfl rfl rfl)
    · refine r_in (R := rI) c22_2 ?_
      refine r_p (pc2 := 26) dX11_set_25 rfl rfl ?_
      refine r_ci (x := 1) dX11_set_26 rfl ?_
      refine r_cv (d1 := 1) dX11_set_27 cvX11_83 rfl rfl rfl rfl (Nat.le_of_ble_eq_true rfl) (Nat.le_of_ble_eq_true rfl) (Nat.le_of_ble_eq_true rfl) (c_x_found 1) ?_
      exact (r_ri dX11_set_30 rfl rfl rfl rfl)
  · refine r_ip (R := rI) c8_1 ?_
    refine r_k dX11_set_11 kkX11_82 ?_
    exact (r_ri dX11_set_13 rfl rfl rfl rfl)
def x_x_copy (T : St) (p0 : Int32) (p1 : Int32) (p2 : Int32) (p3 : Int32) (p4 : Int32) : Int32 × St := if (x_sh_isOne T p0) = 0 then ((-1000001), T) else (if (x_sh_isOne T p2) = 0 then ((-1000001), T) else (if (x_sh_isMissing T p0) = 0 then (if (x_sh_isMissing T p2) = 0 then (if (T.2.2.1 2 (p0 : Int32).toNatClampNeg) = (T.2.2.1 2 (p2 : Int32).toNatClampNeg) then (if (x_sh_reaches T p0 p1 p4) = 0 then ((x_x_found T 2).1, (x_x_found T 2).2) else (if (x_sh_reaches T p2 p3 p4) = 0 then ((x_x_found T 2).1, (x_x_found T 2).2) else (jn (fun (T1 : St) => ((x_x_fine T1 p4).1, (x_x_fine T1 p4).2)) (sAr T (5 + (p2 : Int32).toNatClampNeg) (va_cpy (T.2.2.1 (5 + (p0 : Int32).toNatClampNeg)) (T.2.2.1 (5 + (p2 : Int32).toNatClampNeg)) (p1 : Int32).toNatClampNeg (p3 : Int32).toNatClampNeg (p4 : Int32).toNatClampNeg))))) else ((x_x_found T 5).1, (x_x_found T 5).2)) else ((x_x_found T 1).1, (x_x_found T 1).2)) else ((x_x_found T 1).1, (x_x_found T 1).2)))
def ok_x_copy (T : St) (p0 : Int32) (p1 : Int32) (p2 : Int32) (p3 : Int32) (p4 : Int32) : Prop := (¬ (x_sh_isOne T p0) = 0 → (¬ (x_sh_isOne T p2) = 0 → (ok_sh_isMissing T p0) ∧ ((x_sh_isMissing T p0) = 0 → (ok_sh_isMissing T p2) ∧ ((x_sh_isMissing T p2) = 0 → (vp_in p0 8) ∧ (vp_in p2 8) ∧ ((T.2.2.1 2 (p0 : Int32).toNatClampNeg) = (T.2.2.1 2 (p2 : Int32).toNatClampNeg) → (ok_sh_reaches T p0 p1 p4) ∧ (¬ (x_sh_reaches T p0 p1 p4) = 0 → (ok_sh_reaches T p2 p3 p4) ∧ (¬ (x_sh_reaches T p2 p3 p4) = 0 → (cpok p1 p3 p4 40 40) ∧ True)))))))
theorem c_x_copy {X : Nat × (Nat → Int32)} {T : St} (p0 : Int32) (p1 : Int32) (p2 : Int32) (p3 : Int32) (p4 : Int32) (kk : ok_x_copy T p0 p1 p2 p3 p4) : tC X 2 mX11_copy [.ref 0, .int p0, .int p1, .int p2, .int p3, .int p4] T (some (.int (x_x_copy T p0 p1 p2 p3 p4).1)) ((x_x_copy T p0 p1 p2 p3 p4).2) := by
  unfold ok_x_copy at kk
  refine tC_orI (L := [some (.ref 0), some (.int p0), some (.int p1), some (.int p2), some (.int p3), some (.int p4)]) (x_x_copy T p0 p1 p2 p3 p4) rfl ?_
  unfold x_x_copy
  refine r_p (pc2 := 1) dX11_copy_0 rfl rfl ?_
  refine r_get dX11_copy_1 fkX11_10 rfl rfl ?_
  refine r_p (pc2 := 5) dX11_copy_4 rfl rfl ?_
  refine r_cv (d1 := 1) dX11_copy_5 cvX11_78 rfl rfl rfl rfl (Nat.le_of_ble_eq_true rfl) (Nat.le_of_ble_eq_true rfl) (Nat.le_of_ble_eq_true rfl) (c_sh_isOne p0) ?_
  refine r_ieq dX11_copy_8 rfl (fun c8_1 => ?_) (fun c8_1 => ?_)
  · refine r_ip (R := rI) c8_1 ?_
    refine r_k dX11_copy_22 kkX11_82 ?_
    exact (r_ri dX11_copy_24 rfl rfl rfl rfl)
  · refine r_in (R := rI) c8_1 ?_
    have kk := kk c8_1
    refine r_p (pc2 := 12) dX11_copy_11 rfl rfl ?_
    refine r_get dX11_copy_12 fkX11_10 rfl rfl ?_
    refine r_p (pc2 := 16) dX11_copy_15 rfl rfl ?_
    refine r_cv (d1 := 1) dX11_copy_16 cvX11_78 rfl rfl rfl rfl (Nat.le_of_ble_eq_true rfl) (Nat.le_of_ble_eq_true rfl) (Nat.le_of_ble_eq_true rfl) (c_sh_isOne p2) ?_
    refine r_ine dX11_copy_19 rfl (fun c19_2 => ?_) (fun c19_2 => ?_)
    · refine r_in (R := rI) c19_2 ?_
      have kk := kk c19_2
      refine r_p (pc2 := 26) dX11_copy_25 rfl rfl ?_
      refine r_get dX11_copy_26 fkX11_10 rfl rfl ?_
      refine r_p (pc2 := 30) dX11_copy_29 rfl rfl ?_
      obtain ⟨q1, kk⟩ := kk
      refine r_cv (d1 := 1) dX11_copy_30 cvX11_94 rfl rfl rfl rfl (Nat.le_of_ble_eq_true rfl) (Nat.le_of_ble_eq_true rfl) (Nat.le_of_ble_eq_true rfl) (c_sh_isMissing p0 q1) ?_
      refine r_ine dX11_copy_33 rfl (fun c33_3 => ?_) (fun c33_3 => ?_)
      · refine r_in (R := rI) c33_3 ?_
        refine r_p (pc2 := 48) dX11_copy_47 rfl rfl ?_
        refine r_ci (x := 1) dX11_copy_48 rfl ?_
        refine r_cv (d1 := 1) dX11_copy_49 cvX11_83 rfl rfl rfl rfl (Nat.le_of_ble_eq_true rfl) (Nat.le_of_ble_eq_true rfl) (Nat.le_of_ble_eq_true rfl) (c_x_found 1) ?_
        exact (r_ri dX11_copy_52 rfl rfl rfl rfl)
      · refine r_ip (R := rI) c33_3 ?_
        have kk := kk c33_3
        refine r_p (pc2 := 37) dX11_copy_36 rfl rfl ?_
        refine r_get dX11_copy_37 fkX11_10 rfl rfl ?_
        refine r_p (pc2 := 41) dX11_copy_40 rfl rfl ?_
        obtain ⟨q2, kk⟩ := kk
        refine r_cv (d1 := 1) dX11_copy_41 cvX11_94 rfl rfl rfl rfl (Nat.le_of_ble_eq_true rfl) (Nat.le_of_ble_eq_true rfl) (Nat.le_of_ble_eq_true rfl) (c_sh_isMissing p2 q2) ?_
        refine r_ieq dX11_copy_44 rfl (fun c44_4 => ?_) (fun c44_4 => ?_)
        · refine r_ip (R := rI) c44_4 ?_
          have kk := kk c44_4
          refine r_p (pc2 := 54) dX11_copy_53 rfl rfl ?_
          refine r_get dX11_copy_54 fkX11_10 rfl rfl ?_
          refine r_get dX11_copy_57 fkX11_105 rfl rfl ?_
          refine r_p (pc2 := 61) dX11_copy_60 rfl rfl ?_
          obtain ⟨q3, kk⟩ := kk
          refine r_ia dX11_copy_61 rfl q3 ?_
          refine r_p (pc2 := 63) dX11_copy_62 rfl rfl ?_
          refine r_get dX11_copy_63 fkX11_10 rfl rfl ?_
          refine r_get dX11_copy_66 fkX11_105 rfl rfl ?_
          refine r_p (pc2 := 70) dX11_copy_69 rfl rfl ?_
          obtain ⟨q4, kk⟩ := kk
          refine r_ia dX11_copy_70 rfl q4 ?_
          refine r_ceq dX11_copy_71 rfl (fun c71_5 => ?_) (fun c71_5 => ?_)
          · refine r_ip (R := rI) c71_5 ?_
            have kk := kk c71_5
            refine r_p (pc2 := 81) dX11_copy_80 rfl rfl ?_
            refine r_get dX11_copy_81 fkX11_10 rfl rfl ?_
            refine r_p (pc2 := 85) dX11_copy_84 rfl rfl ?_
            refine r_p (pc2 := 86) dX11_copy_85 rfl rfl ?_
            refine r_p (pc2 := 88) dX11_copy_86 rfl rfl ?_
            obtain ⟨q5, kk⟩ := kk
            refine r_cv (d1 := 1) dX11_copy_88 cvX11_97 rfl rfl rfl rfl (Nat.le_of_ble_eq_true rfl) (Nat.le_of_ble_eq_true rfl) (Nat.le_of_ble_eq_true rfl) (c_sh_reaches p0 p1 p4 q5) ?_
            refine r_ieq dX11_copy_91 rfl (fun c91_6 => ?_) (fun c91_6 => ?_)
            · refine r_ip (R := rI) c91_6 ?_
              refine r_p (pc2 := 110) dX11_copy_109 rfl rfl ?_
              refine r_ci (x := 2) dX11_copy_110 rfl ?_
              refine r_cv (d1 := 1) dX11_copy_111 cvX11_83 rfl rfl rfl rfl (Nat.le_of_ble_eq_true rfl) (Nat.le_of_ble_eq_true rfl) (Nat.le_of_ble_eq_true rfl) (c_x_found 2) ?_
              exact (r_ri dX11_copy_114 rfl rfl rfl rfl)
            · refine r_in (R := rI) c91_6 ?_
              have kk := kk c91_6
              refine r_p (pc2 := 95) dX11_copy_94 rfl rfl ?_
              refine r_get dX11_copy_95 fkX11_10 rfl rfl ?_
              refine r_p (pc2 := 99) dX11_copy_98 rfl rfl ?_
              refine r_p (pc2 := 101) dX11_copy_99 rfl rfl ?_
              refine r_p (pc2 := 103) dX11_copy_101 rfl rfl ?_
              obtain ⟨q6, kk⟩ := kk
              refine r_cv (d1 := 1) dX11_copy_103 cvX11_97 rfl rfl rfl rfl (Nat.le_of_ble_eq_true rfl) (Nat.le_of_ble_eq_true rfl) (Nat.le_of_ble_eq_true rfl) (c_sh_reaches p2 p3 p4 q6) ?_
              refine r_ine dX11_copy_106 rfl (fun c106_7 => ?_) (fun c106_7 => ?_)
              · refine r_in (R := rI) c106_7 ?_
                have kk := kk c106_7
                refine r_p (pc2 := 116) dX11_copy_115 rfl rfl ?_
                refine r_get dX11_copy_116 fkX11_10 rfl rfl ?_
                refine r_get dX11_copy_119 fkX11_109 rfl rfl ?_
                refine r_p (pc2 := 123) dX11_copy_122 rfl rfl ?_
                refine r_aa dX11_copy_123 rfl (by decide) q3 (rf4 q3) ?_
                refine r_p (pc2 := 125) dX11_copy_124 rfl rfl ?_
                refine r_p (pc2 := 126) dX11_copy_125 rfl rfl ?_
                refine r_get dX11_copy_126 fkX11_10 rfl rfl ?_
                refine r_get dX11_copy_129 fkX11_109 rfl rfl ?_
                refine r_p (pc2 := 133) dX11_copy_132 rfl rfl ?_
                refine r_aa dX11_copy_133 rfl (by decide) q4 (rf4 q4) ?_
                refine r_p (pc2 := 136) dX11_copy_134 rfl rfl ?_
                refine r_p (pc2 := 138) dX11_copy_136 rfl rfl ?_
                obtain ⟨q7, kk⟩ := kk
                refine r_cpy dX11_copy_138 cpX11_113 (shr4 q4) (shr4 q3) q7.1 q7.2.1 q7.2.2.1 q7.2.2.2.1 q7.2.2.2.2 (Nat.le_of_ble_eq_true rfl) ?_
                refine r_nT0 (R := rI) (fun T1 => ?_)
                refine r_p (pc2 := 142) dX11_copy_141 rfl rfl ?_
                refine r_p (pc2 := 144) dX11_copy_142 rfl rfl ?_
                refine r_cv (d1 := 1) dX11_copy_144 cvX11_91 rfl rfl rfl rfl (Nat.le_of_ble_eq_true rfl) (Nat.le_of_ble_eq_true rfl) (Nat.le_of_ble_eq_true rfl) (c_x_fine p4) ?_
                exact (r_ri dX11_copy_147 rfl rfl rfl rfl)
              · refine r_ip (R := rI) c106_7 ?_
                refine r_p (pc2 := 110) dX11_copy_109 rfl rfl ?_
                refine r_ci (x := 2) dX11_copy_110 rfl ?_
                refine r_cv (d1 := 1) dX11_copy_111 cvX11_83 rfl rfl rfl rfl (Nat.le_of_ble_eq_true rfl) (Nat.le_of_ble_eq_true rfl) (Nat.le_of_ble_eq_true rfl) (c_x_found 2) ?_
                exact (r_ri dX11_copy_114 rfl rfl rfl rfl)
          · refine r_in (R := rI) c71_5 ?_
            refine r_p (pc2 := 75) dX11_copy_74 rfl rfl ?_
            refine r_ci (x := 5) dX11_copy_75 rfl ?_
            refine r_cv (d1 := 1) dX11_copy_76 cvX11_83 rfl rfl rfl rfl (Nat.le_of_ble_eq_true rfl) (Nat.le_of_ble_eq_true rfl) (Nat.le_of_ble_eq_true rfl) (c_x_found 5) ?_
            exact (r_ri dX11_copy_79 rfl rfl rfl rfl)
        · refine r_in (R := rI) c44_4 ?_
          refine r_p (pc2 := 48) dX11_copy_47 rfl rfl ?_
          refine r_ci (x := 1) dX11_copy_48 rfl ?_
          refine r_cv (d1 := 1) dX11_copy_49 cvX11_83 rfl rfl rfl rfl (Nat.le_of_ble_eq_true rfl) (Nat.le_of_ble_eq_true rfl) (Nat.le_of_ble_eq_true rfl) (c_x_found 1) ?_
          exact (r_ri dX11_copy_52 rfl rfl rfl rfl)
    · refine r_ip (R := rI) c19_2 ?_
      refine r_k dX11_copy_22 kkX11_82 ?_
      exact (r_ri dX11_copy_24 rfl rfl rfl rfl)
def x_x_drop (T : St) (p0 : Int32) : Int32 × St := if (x_sh_isOne T p0) = 0 then ((-1000001), T) else (if (x_sh_isMissing T p0) = 0 then ((x_x_fine ((x_sh_lose T p0).2) ((x_sh_lose T p0).1)).1, (x_x_fine ((x_sh_lose T p0).2) ((x_sh_lose T p0).1)).2) else ((x_x_found T 1).1, (x_x_found T 1).2))
def ok_x_drop (T : St) (p0 : Int32) : Prop := (¬ (x_sh_isOne T p0) = 0 → (ok_sh_isMissing T p0) ∧ ((x_sh_isMissing T p0) = 0 → (ok_sh_lose T p0) ∧ True))
theorem c_x_drop {X : Nat × (Nat → Int32)} {T : St} (p0 : Int32) (kk : ok_x_drop T p0) : tC X 2 mX11_drop [.ref 0, .int p0] T (some (.int (x_x_drop T p0).1)) ((x_x_drop T p0).2) := by
  unfold ok_x_drop at kk
  refine tC_orI (L := [some (.ref 0), some (.int p0)]) (x_x_drop T p0) rfl ?_
  unfold x_x_drop
  refine r_p (pc2 := 1) dX11_drop_0 rfl rfl ?_
  refine r_get dX11_drop_1 fkX11_10 rfl rfl ?_
  refine r_p (pc2 := 5) dX11_drop_4 rfl rfl ?_
  refine r_cv (d1 := 1) dX11_drop_5 cvX11_78 rfl rfl rfl rfl (Nat.le_of_ble_eq_true rfl) (Nat.le_of_ble_eq_true rfl) (Nat.le_of_ble_eq_true rfl) (c_sh_isOne p0) ?_
  refine r_ine dX11_drop_8 rfl (fun c8_1 => ?_) (fun c8_1 => ?_)
  · refine r_in (R := rI) c8_1 ?_
    have kk := kk c8_1
    refine r_p (pc2 := 15) dX11_drop_14 rfl rfl ?_
    refine r_get dX11_drop_15 fkX11_10 rfl rfl ?_
    refine r_p (pc2 := 19) dX11_drop_18 rfl rfl ?_
    obtain ⟨q1, kk⟩ := kk
    refine r_cv (d1 := 1) dX11_drop_19 cvX11_94 rfl rfl rfl rfl (Nat.le_of_ble_eq_true rfl) (Nat.le_of_ble_eq_true rfl) (Nat.le_of_ble_eq_true rfl) (c_sh_isMissing p0 q1) ?_
    refine r_ieq dX11_drop_22 rfl (fun c22_2 => ?_) (fun c22_2 => ?_)
    · refine r_ip (R := rI) c22_2 ?_
      have kk := kk c22_2
      refine r_p (pc2 := 32) dX11_drop_31 rfl rfl ?_
      refine r_p (pc2 := 33) dX11_drop_32 rfl rfl ?_
      refine r_get dX11_drop_33 fkX11_10 rfl rfl ?_
      refine r_p (pc2 := 37) dX11_drop_36 rfl rfl ?_
      obtain ⟨q2, kk⟩ := kk
      refine r_cv (d1 := 1) dX11_drop_37 cvX11_119 rfl rfl rfl rfl (Nat.le_of_ble_eq_true rfl) (Nat.le_of_ble_eq_true rfl) (Nat.le_of_ble_eq_true rfl) (c_sh_lose p0 q2) ?_
      refine r_cv (d1 := 1) dX11_drop_40 cvX11_91 rfl rfl rfl rfl (Nat.le_of_ble_eq_true rfl) (Nat.le_of_ble_eq_true rfl) (Nat.le_of_ble_eq_true rfl) (c_x_fine ((x_sh_lose T p0).1)) ?_
      exact (r_ri dX11_drop_43 rfl rfl rfl rfl)
    · refine r_in (R := rI) c22_2 ?_
      refine r_p (pc2 := 26) dX11_drop_25 rfl rfl ?_
      refine r_ci (x := 1) dX11_drop_26 rfl ?_
      refine r_cv (d1 := 1) dX11_drop_27 cvX11_83 rfl rfl rfl rfl (Nat.le_of_ble_eq_true rfl) (Nat.le_of_ble_eq_true rfl) (Nat.le_of_ble_eq_true rfl) (c_x_found 1) ?_
      exact (r_ri dX11_drop_30 rfl rfl rfl rfl)
  · refine r_ip (R := rI) c8_1 ?_
    refine r_k dX11_drop_11 kkX11_82 ?_
    exact (r_ri dX11_drop_13 rfl rfl rfl rfl)
def x_x_gives (T : St) (p0 : Int32) (p1 : Int32) : Int32 := if (x_bk_isRead T (T.2.1 0)) = 0 then (-1000002) else (if (x_x_isMinute T p0) = 0 then (-1000001) else (if p1 < 0 then (-1000001) else (if p1 < 5 then (x_bk_given T (T.2.1 0) p0 p1) else (-1000001))))
def ok_x_gives (T : St) (p0 : Int32) (p1 : Int32) : Prop := (ok_bk_isRead T (T.2.1 0)) ∧ (sh (T.2.1 0) = .inr 1) ∧ (¬ (x_bk_isRead T (T.2.1 0)) = 0 → (¬ (x_x_isMinute T p0) = 0 → (¬ p1 < 0 → (p1 < 5 → (ok_bk_given T (T.2.1 0) p0 p1) ∧ True))))
theorem c_x_gives {X : Nat × (Nat → Int32)} {T : St} (p0 : Int32) (p1 : Int32) (kk : ok_x_gives T p0 p1) : tC X 3 mX11_gives [.ref 0, .int p0, .int p1] T (some (.int (x_x_gives T p0 p1))) T := by
  unfold ok_x_gives at kk
  refine tC_orIp (L := [some (.ref 0), some (.int p0), some (.int p1)]) (x_x_gives T p0 p1) rfl ?_
  unfold x_x_gives
  refine r_p (pc2 := 1) dX11_gives_0 rfl rfl ?_
  refine r_get dX11_gives_1 fkX11_30 rfl rfl ?_
  obtain ⟨q1, kk⟩ := kk
  obtain ⟨q2, kk⟩ := kk
  refine r_cv (d1 := 1) dX11_gives_4 cvX11_189 rfl rfl q2 rfl (Nat.le_of_ble_eq_true rfl) (Nat.le_of_ble_eq_true rfl) (Nat.le_of_ble_eq_true rfl) (c_bk_isRead (T.2.1 0) q1) ?_
  refine r_ine dX11_gives_7 rfl (fun c7_1 => ?_) (fun c7_1 => ?_)
  · refine r_in (R := (rIp T)) c7_1 ?_
    have kk := kk c7_1
    refine r_p (pc2 := 14) dX11_gives_13 rfl rfl ?_
    refine r_cs (d1 := 1) dX11_gives_14 csX11_194 rfl rfl (Nat.le_of_ble_eq_true rfl) (Nat.le_of_ble_eq_true rfl) (Nat.le_of_ble_eq_true rfl) (c_x_isMinute p0) ?_
    refine r_ieq dX11_gives_17 rfl (fun c17_2 => ?_) (fun c17_2 => ?_)
    · refine r_ip (R := (rIp T)) c17_2 ?_
      refine r_k dX11_gives_29 kkX11_82 ?_
      exact (r_ri dX11_gives_31 rfl rfl rfl rfl)
    · refine r_in (R := (rIp T)) c17_2 ?_
      have kk := kk c17_2
      refine r_p (pc2 := 21) dX11_gives_20 rfl rfl ?_
      refine r_ilt dX11_gives_21 rfl (fun c21_3 => ?_) (fun c21_3 => ?_)
      · refine r_ip (R := (rIp T)) c21_3 ?_
        refine r_k dX11_gives_29 kkX11_82 ?_
        exact (r_ri dX11_gives_31 rfl rfl rfl rfl)
      · refine r_in (R := (rIp T)) c21_3 ?_
        have kk := kk c21_3
        refine r_p (pc2 := 25) dX11_gives_24 rfl rfl ?_
        refine r_ci (x := 5) dX11_gives_25 rfl ?_
        refine r_clt dX11_gives_26 rfl (fun c26_4 => ?_) (fun c26_4 => ?_)
        · refine r_ip (R := (rIp T)) c26_4 ?_
          have kk := kk c26_4
          refine r_p (pc2 := 33) dX11_gives_32 rfl rfl ?_
          refine r_get dX11_gives_33 fkX11_30 rfl rfl ?_
          refine r_p (pc2 := 37) dX11_gives_36 rfl rfl ?_
          refine r_p (pc2 := 38) dX11_gives_37 rfl rfl ?_
          obtain ⟨q3, kk⟩ := kk
          refine r_cv (d1 := 2) dX11_gives_38 cvX11_197 rfl rfl q2 rfl (Nat.le_of_ble_eq_true rfl) (Nat.le_of_ble_eq_true rfl) (Nat.le_of_ble_eq_true rfl) (c_bk_given (T.2.1 0) p0 p1 q3) ?_
          exact (r_ri dX11_gives_41 rfl rfl rfl rfl)
        · refine r_in (R := (rIp T)) c26_4 ?_
          refine r_k dX11_gives_29 kkX11_82 ?_
          exact (r_ri dX11_gives_31 rfl rfl rfl rfl)
  · refine r_ip (R := (rIp T)) c7_1 ?_
    refine r_k dX11_gives_10 kkX11_193 ?_
    exact (r_ri dX11_gives_12 rfl rfl rfl rfl)
def x_x_image (T : St) (p0 : Int32) : Int32 × St := jn (fun (KJ1 : Int32 × St) => if p0 < 0 then (KJ1) else (if 2 ≤ p0 then (KJ1) else (if (x_x_refusal T 1) = 0 then (1, x_bk_take T (16 + 15 * (p0 : Int32).toNatClampNeg) (T.2.1 0)) else (x_x_refusal T 1, T)))) (if (x_x_refusal T 0) = 0 then (1, x_bk_take T (16 + 15 * (p0 : Int32).toNatClampNeg) (T.2.1 0)) else (x_x_refusal T 0, T))
def ok_x_image (T : St) (p0 : Int32) : Prop := jn (fun (OJ1 : Prop) => ((p0 < 0 → OJ1) ∧ (¬ p0 < 0 → ((2 ≤ p0 → OJ1) ∧ (¬ 2 ≤ p0 → (ok_x_refusal T 1) ∧ ((x_x_refusal T 1) = 0 → (vp_in p0 2) ∧ (ok_bk_take T (16 + 15 * (p0 : Int32).toNatClampNeg) (T.2.1 0)) ∧ True)))))) ((ok_x_refusal T 0) ∧ ((x_x_refusal T 0) = 0 → (vp_in p0 2) ∧ (ok_bk_take T (16 + 15 * (p0 : Int32).toNatClampNeg) (T.2.1 0)) ∧ True))
theorem c_x_image {X : Nat × (Nat → Int32)} {T : St} (p0 : Int32) (kk : ok_x_image T p0) : tC X 3 mX11_image [.ref 0, .int p0] T (some (.int (x_x_image T p0).1)) ((x_x_image T p0).2) := by
  unfold ok_x_image at kk
  refine tC_orI (L := [some (.ref 0), some (.int p0), none]) (x_x_image T p0) rfl ?_
  unfold x_x_image
  refine r_p (pc2 := 1) dX11_image_0 rfl rfl ?_
  refine r_p (pc2 := 2) dX11_image_1 rfl rfl ?_
  refine r_jn (R := rI) (J := fun (KJ1 : Int32 × St) (OJ1 : Prop) => OJ1 → tR X 2 mX11_image 14 [some (.ref 0), some (.int p0), none] [.ref 0] T (rI KJ1).1 (rI KJ1).2) kk (fun  kk => ?_) (fun KJ1 OJ1 hJ1 kk => ?_)
  · skip
    refine r_ci (x := 0) dX11_image_14 rfl ?_
    obtain ⟨q4, kk⟩ := kk
    refine r_cv (d1 := 2) dX11_image_15 cvX11_221 rfl rfl rfl rfl (Nat.le_of_ble_eq_true rfl) (Nat.le_of_ble_eq_true rfl) (Nat.le_of_ble_eq_true rfl) (c_x_refusal 0 q4) ?_
    refine r_p (pc2 := 19) (L2 := [some (.ref 0), some (.int p0), some (.int (x_x_refusal T 0))]) dX11_image_18 rfl rfl ?_
    refine r_p (pc2 := 20) dX11_image_19 rfl rfl ?_
    refine r_ieq dX11_image_20 rfl (fun c20_4 => ?_) (fun c20_4 => ?_)
    · refine r_ip (R := rI) c20_4 ?_
      have kk := kk c20_4
      refine r_p (pc2 := 26) dX11_image_25 rfl rfl ?_
      refine r_get dX11_image_26 fkX11_26 rfl rfl ?_
      refine r_p (pc2 := 30) dX11_image_29 rfl rfl ?_
      obtain ⟨q5, kk⟩ := kk
      refine r_aa dX11_image_30 rfl (by decide) q5 (rf15 q5) ?_
      refine r_p (pc2 := 32) dX11_image_31 rfl rfl ?_
      refine r_get dX11_image_32 fkX11_30 rfl rfl ?_
      obtain ⟨q6, kk⟩ := kk
      refine r_cv (d1 := 1) dX11_image_35 cvX11_325 rfl rfl (shr15 q5) rfl (Nat.le_of_ble_eq_true rfl) (Nat.le_of_ble_eq_true rfl) (Nat.le_of_ble_eq_true rfl) (c_bk_take (16 + 15 * (p0 : Int32).toNatClampNeg) (T.2.1 0) q6) ?_
      refine r_ci (x := 1) dX11_image_38 rfl ?_
      exact (r_ri dX11_image_39 rfl rfl rfl rfl)
    · refine r_in (R := rI) c20_4 ?_
      refine r_p (pc2 := 24) dX11_image_23 rfl rfl ?_
      exact (r_ri dX11_image_24 rfl rfl rfl rfl)
  refine r_ilt dX11_image_2 rfl (fun c2_5 => ?_) (fun c2_5 => ?_)
  · refine r_ip (R := rI) c2_5 ?_
    have kk := kk.1 c2_5
    show tR _ _ _ _ [some (.ref 0), some (.int p0), none] [.ref 0] _ _ _
    exact (hJ1  kk)
  · refine r_in (R := rI) c2_5 ?_
    have kk := kk.2 c2_5
    refine r_p (pc2 := 6) dX11_image_5 rfl rfl ?_
    refine r_ci (x := 2) dX11_image_6 rfl ?_
    refine r_cge dX11_image_7 rfl (fun c7_6 => ?_) (fun c7_6 => ?_)
    · refine r_ip (R := rI) c7_6 ?_
      have kk := kk.1 c7_6
      show tR _ _ _ _ [some (.ref 0), some (.int p0), none] [.ref 0] _ _ _
      exact (hJ1  kk)
    · refine r_in (R := rI) c7_6 ?_
      have kk := kk.2 c7_6
      refine r_ci (x := 1) dX11_image_10 rfl ?_
      refine r_go dX11_image_11 rfl ?_
      obtain ⟨q7, kk⟩ := kk
      refine r_cv (d1 := 2) dX11_image_15 cvX11_221 rfl rfl rfl rfl (Nat.le_of_ble_eq_true rfl) (Nat.le_of_ble_eq_true rfl) (Nat.le_of_ble_eq_true rfl) (c_x_refusal 1 q7) ?_
      refine r_p (pc2 := 19) (L2 := [some (.ref 0), some (.int p0), some (.int (x_x_refusal T 1))]) dX11_image_18 rfl rfl ?_
      refine r_p (pc2 := 20) dX11_image_19 rfl rfl ?_
      refine r_ieq dX11_image_20 rfl (fun c20_7 => ?_) (fun c20_7 => ?_)
      · refine r_ip (R := rI) c20_7 ?_
        have kk := kk c20_7
        refine r_p (pc2 := 26) dX11_image_25 rfl rfl ?_
        refine r_get dX11_image_26 fkX11_26 rfl rfl ?_
        refine r_p (pc2 := 30) dX11_image_29 rfl rfl ?_
        obtain ⟨q8, kk⟩ := kk
        refine r_aa dX11_image_30 rfl (by decide) q8 (rf15 q8) ?_
        refine r_p (pc2 := 32) dX11_image_31 rfl rfl ?_
        refine r_get dX11_image_32 fkX11_30 rfl rfl ?_
        obtain ⟨q9, kk⟩ := kk
        refine r_cv (d1 := 1) dX11_image_35 cvX11_325 rfl rfl (shr15 q8) rfl (Nat.le_of_ble_eq_true rfl) (Nat.le_of_ble_eq_true rfl) (Nat.le_of_ble_eq_true rfl) (c_bk_take (16 + 15 * (p0 : Int32).toNatClampNeg) (T.2.1 0) q9) ?_
        refine r_ci (x := 1) dX11_image_38 rfl ?_
        exact (r_ri dX11_image_39 rfl rfl rfl rfl)
      · refine r_in (R := rI) c20_7 ?_
        refine r_p (pc2 := 24) dX11_image_23 rfl rfl ?_
        exact (r_ri dX11_image_24 rfl rfl rfl rfl)
def x_x_as (T : St) (p0 : Int32) (p1 : Int32) : Int32 × St := if (x_bk_hasStep T (T.2.1 0) p0) = 0 then ((-1000001), T) else (if p1 < 0 then ((-1000001), T) else (if p1 < 7 then (if (x_ask_isKind T (x_bk_kindOf T (T.2.1 0) p0) p1) = 0 then ((x_x_found T 3).1, (x_x_found T 3).2) else ((x_x_fine T p0).1, (x_x_fine T p0).2)) else ((-1000001), T)))
def ok_x_as (T : St) (p0 : Int32) (p1 : Int32) : Prop := (ok_bk_hasStep T (T.2.1 0) p0) ∧ (sh (T.2.1 0) = .inr 1) ∧ (¬ (x_bk_hasStep T (T.2.1 0) p0) = 0 → (¬ p1 < 0 → (p1 < 7 → (ok_bk_kindOf T (T.2.1 0) p0) ∧ (ok_ask_isKind T (x_bk_kindOf T (T.2.1 0) p0) p1) ∧ True)))
theorem c_x_as {X : Nat × (Nat → Int32)} {T : St} (p0 : Int32) (p1 : Int32) (kk : ok_x_as T p0 p1) : tC X 2 mX11_as [.ref 0, .int p0, .int p1] T (some (.int (x_x_as T p0 p1).1)) ((x_x_as T p0 p1).2) := by
  unfold ok_x_as at kk
  refine tC_orI (L := [some (.ref 0), some (.int p0), some (.int p1)]) (x_x_as T p0 p1) rfl ?_
  unfold x_x_as
  refine r_p (pc2 := 1) dX11_as_0 rfl rfl ?_
  refine r_get dX11_as_1 fkX11_30 rfl rfl ?_
  refine r_p (pc2 := 5) dX11_as_4 rfl rfl ?_
  obtain ⟨q1, kk⟩ := kk
  obtain ⟨q2, kk⟩ := kk
  refine r_cv (d1 := 1) dX11_as_5 cvX11_171 rfl rfl q2 rfl (Nat.le_of_ble_eq_true rfl) (Nat.le_of_ble_eq_true rfl) (Nat.le_of_ble_eq_true rfl) (c_bk_hasStep (T.2.1 0) p0 q1) ?_
  refine r_ieq dX11_as_8 rfl (fun c8_1 => ?_) (fun c8_1 => ?_)
  · refine r_ip (R := rI) c8_1 ?_
    refine r_k dX11_as_21 kkX11_82 ?_
    exact (r_ri dX11_as_23 rfl rfl rfl rfl)
  · refine r_in (R := rI) c8_1 ?_
    have kk := kk c8_1
    refine r_p (pc2 := 12) dX11_as_11 rfl rfl ?_
    refine r_ilt dX11_as_12 rfl (fun c12_2 => ?_) (fun c12_2 => ?_)
    · refine r_ip (R := rI) c12_2 ?_
      refine r_k dX11_as_21 kkX11_82 ?_
      exact (r_ri dX11_as_23 rfl rfl rfl rfl)
    · refine r_in (R := rI) c12_2 ?_
      have kk := kk c12_2
      refine r_p (pc2 := 16) dX11_as_15 rfl rfl ?_
      refine r_cb (x := 7) dX11_as_16 rfl ?_
      refine r_clt dX11_as_18 rfl (fun c18_3 => ?_) (fun c18_3 => ?_)
      · refine r_ip (R := rI) c18_3 ?_
        have kk := kk c18_3
        refine r_p (pc2 := 25) dX11_as_24 rfl rfl ?_
        refine r_get dX11_as_25 fkX11_64 rfl rfl ?_
        refine r_p (pc2 := 29) dX11_as_28 rfl rfl ?_
        refine r_get dX11_as_29 fkX11_30 rfl rfl ?_
        refine r_p (pc2 := 33) dX11_as_32 rfl rfl ?_
        obtain ⟨q3, kk⟩ := kk
        refine r_cv (d1 := 1) dX11_as_33 cvX11_327 rfl rfl q2 rfl (Nat.le_of_ble_eq_true rfl) (Nat.le_of_ble_eq_true rfl) (Nat.le_of_ble_eq_true rfl) (c_bk_kindOf (T.2.1 0) p0 q3) ?_
        refine r_p (pc2 := 37) dX11_as_36 rfl rfl ?_
        obtain ⟨q4, kk⟩ := kk
        refine r_cv (d1 := 1) dX11_as_37 cvX11_330 rfl rfl rfl rfl (Nat.le_of_ble_eq_true rfl) (Nat.le_of_ble_eq_true rfl) (Nat.le_of_ble_eq_true rfl) (c_ask_isKind (x_bk_kindOf T (T.2.1 0) p0) p1 q4) ?_
        refine r_ine dX11_as_40 rfl (fun c40_4 => ?_) (fun c40_4 => ?_)
        · refine r_in (R := rI) c40_4 ?_
          refine r_p (pc2 := 50) dX11_as_49 rfl rfl ?_
          refine r_p (pc2 := 51) dX11_as_50 rfl rfl ?_
          refine r_cv (d1 := 1) dX11_as_51 cvX11_91 rfl rfl rfl rfl (Nat.le_of_ble_eq_true rfl) (Nat.le_of_ble_eq_true rfl) (Nat.le_of_ble_eq_true rfl) (c_x_fine p0) ?_
          exact (r_ri dX11_as_54 rfl rfl rfl rfl)
        · refine r_ip (R := rI) c40_4 ?_
          refine r_p (pc2 := 44) dX11_as_43 rfl rfl ?_
          refine r_ci (x := 3) dX11_as_44 rfl ?_
          refine r_cv (d1 := 1) dX11_as_45 cvX11_83 rfl rfl rfl rfl (Nat.le_of_ble_eq_true rfl) (Nat.le_of_ble_eq_true rfl) (Nat.le_of_ble_eq_true rfl) (c_x_found 3) ?_
          exact (r_ri dX11_as_48 rfl rfl rfl rfl)
      · refine r_in (R := rI) c18_3 ?_
        refine r_k dX11_as_21 kkX11_82 ?_
        exact (r_ri dX11_as_23 rfl rfl rfl rfl)
def x_x_count (T : St) (p0 : Int32) : Int32 := if p0 = 0 then (x_sh_present T) else (if p0 = 1 then (T.1 (T.2.1 0) 4) else (if p0 = 2 then (T.1 (T.2.1 0) 10) else (if p0 = 3 then (x_J_bitCount T (T.1 (T.2.1 0) 17)) else (if p0 = 4 then (x_bk_dinnerSteps T (T.2.1 0)) else (if p0 = 5 then (T.1 (T.2.1 0) 1) else (if p0 = 6 then (T.1 13 1) else (if p0 = 7 then (T.1 (T.2.1 0) 18) else (-1000001))))))))
def ok_x_count (T : St) (p0 : Int32) : Prop := ((p0 = 0 → (ok_sh_present T) ∧ True) ∧ (¬ p0 = 0 → ((p0 = 1 → (sh (T.2.1 0) = .inr 1) ∧ True) ∧ (¬ p0 = 1 → ((p0 = 2 → (sh (T.2.1 0) = .inr 1) ∧ True) ∧ (¬ p0 = 2 → ((p0 = 3 → (sh (T.2.1 0) = .inr 1) ∧ True) ∧ (¬ p0 = 3 → ((p0 = 4 → (ok_bk_dinnerSteps T (T.2.1 0)) ∧ (sh (T.2.1 0) = .inr 1) ∧ True) ∧ (¬ p0 = 4 → ((p0 = 5 → (sh (T.2.1 0) = .inr 1) ∧ True) ∧ (¬ p0 = 5 → (¬ p0 = 6 → (p0 = 7 → (sh (T.2.1 0) = .inr 1) ∧ True))))))))))))))
theorem c_x_count {X : Nat × (Nat → Int32)} {T : St} (p0 : Int32) (kk : ok_x_count T p0) : tC X 2 mX11_count [.ref 0, .int p0] T (some (.int (x_x_count T p0))) T := by
  unfold ok_x_count at kk
  refine tC_orIp (L := [some (.ref 0), some (.int p0)]) (x_x_count T p0) rfl ?_
  unfold x_x_count
  refine r_p (pc2 := 1) dX11_count_0 rfl rfl ?_
  by_cases s1_1_0 : p0 = 0
  · refine r_ip (R := (rIp T)) s1_1_0 ?_
    have kk := kk.1 s1_1_0
    refine r_tin dX11_count_1 (by rw [s1_1_0]; decide) (by rw [s1_1_0]; decide) (off := 47) (by rw [s1_1_0]; rfl) rfl ?_
    refine r_p (pc2 := 49) dX11_count_48 rfl rfl ?_
    refine r_get dX11_count_49 fkX11_10 rfl rfl ?_
    obtain ⟨q1, kk⟩ := kk
    refine r_cv (d1 := 1) dX11_count_52 cvX11_342 rfl rfl rfl rfl (Nat.le_of_ble_eq_true rfl) (Nat.le_of_ble_eq_true rfl) (Nat.le_of_ble_eq_true rfl) (c_sh_present  q1) ?_
    exact (r_ri dX11_count_55 rfl rfl rfl rfl)
  · refine r_in (R := (rIp T)) s1_1_0 ?_
    have kk := kk.2 s1_1_0
    by_cases s1_1_1 : p0 = 1
    · refine r_ip (R := (rIp T)) s1_1_1 ?_
      have kk := kk.1 s1_1_1
      refine r_tin dX11_count_1 (by rw [s1_1_1]; decide) (by rw [s1_1_1]; decide) (off := 55) (by rw [s1_1_1]; rfl) rfl ?_
      refine r_p (pc2 := 57) dX11_count_56 rfl rfl ?_
      refine r_get dX11_count_57 fkX11_30 rfl rfl ?_
      obtain ⟨q2, kk⟩ := kk
      refine r_get dX11_count_60 fkX11_149 q2 rfl ?_
      exact (r_ri dX11_count_63 rfl rfl rfl rfl)
    · refine r_in (R := (rIp T)) s1_1_1 ?_
      have kk := kk.2 s1_1_1
      by_cases s1_1_2 : p0 = 2
      · refine r_ip (R := (rIp T)) s1_1_2 ?_
        have kk := kk.1 s1_1_2
        refine r_tin dX11_count_1 (by rw [s1_1_2]; decide) (by rw [s1_1_2]; decide) (off := 63) (by rw [s1_1_2]; rfl) rfl ?_
        refine r_p (pc2 := 65) dX11_count_64 rfl rfl ?_
        refine r_get dX11_count_65 fkX11_30 rfl rfl ?_
        obtain ⟨q3, kk⟩ := kk
        refine r_get dX11_count_68 fkX11_345 q3 rfl ?_
        exact (r_ri dX11_count_71 rfl rfl rfl rfl)
      · refine r_in (R := (rIp T)) s1_1_2 ?_
        have kk := kk.2 s1_1_2
        by_cases s1_1_3 : p0 = 3
        · refine r_ip (R := (rIp T)) s1_1_3 ?_
          have kk := kk.1 s1_1_3
          refine r_tin dX11_count_1 (by rw [s1_1_3]; decide) (by rw [s1_1_3]; decide) (off := 71) (by rw [s1_1_3]; rfl) rfl ?_
          refine r_p (pc2 := 73) dX11_count_72 rfl rfl ?_
          refine r_get dX11_count_73 fkX11_30 rfl rfl ?_
          obtain ⟨q4, kk⟩ := kk
          refine r_get dX11_count_76 fkX11_209 q4 rfl ?_
          refine r_cs (d1 := 1) dX11_count_79 csX11_200 rfl rfl (Nat.le_of_ble_eq_true rfl) (Nat.le_of_ble_eq_true rfl) (Nat.le_of_ble_eq_true rfl) (c_J_bitCount (T.1 (T.2.1 0) 17)) ?_
          exact (r_ri dX11_count_82 rfl rfl rfl rfl)
        · refine r_in (R := (rIp T)) s1_1_3 ?_
          have kk := kk.2 s1_1_3
          by_cases s1_1_4 : p0 = 4
          · refine r_ip (R := (rIp T)) s1_1_4 ?_
            have kk := kk.1 s1_1_4
            refine r_tin dX11_count_1 (by rw [s1_1_4]; decide) (by rw [s1_1_4]; decide) (off := 82) (by rw [s1_1_4]; rfl) rfl ?_
            refine r_p (pc2 := 84) dX11_count_83 rfl rfl ?_
            refine r_get dX11_count_84 fkX11_30 rfl rfl ?_
            obtain ⟨q5, kk⟩ := kk
            obtain ⟨q6, kk⟩ := kk
            refine r_cv (d1 := 1) dX11_count_87 cvX11_348 rfl rfl q6 rfl (Nat.le_of_ble_eq_true rfl) (Nat.le_of_ble_eq_true rfl) (Nat.le_of_ble_eq_true rfl) (c_bk_dinnerSteps (T.2.1 0) q5) ?_
            exact (r_ri dX11_count_90 rfl rfl rfl rfl)
          · refine r_in (R := (rIp T)) s1_1_4 ?_
            have kk := kk.2 s1_1_4
            by_cases s1_1_5 : p0 = 5
            · refine r_ip (R := (rIp T)) s1_1_5 ?_
              have kk := kk.1 s1_1_5
              refine r_tin dX11_count_1 (by rw [s1_1_5]; decide) (by rw [s1_1_5]; decide) (off := 90) (by rw [s1_1_5]; rfl) rfl ?_
              refine r_p (pc2 := 92) dX11_count_91 rfl rfl ?_
              refine r_get dX11_count_92 fkX11_30 rfl rfl ?_
              obtain ⟨q7, kk⟩ := kk
              refine r_get dX11_count_95 fkX11_351 q7 rfl ?_
              exact (r_ri dX11_count_98 rfl rfl rfl rfl)
            · refine r_in (R := (rIp T)) s1_1_5 ?_
              have kk := kk.2 s1_1_5
              by_cases s1_1_6 : p0 = 6
              · refine r_ip (R := (rIp T)) s1_1_6 ?_
                refine r_tin dX11_count_1 (by rw [s1_1_6]; decide) (by rw [s1_1_6]; decide) (off := 98) (by rw [s1_1_6]; rfl) rfl ?_
                refine r_p (pc2 := 100) dX11_count_99 rfl rfl ?_
                refine r_get dX11_count_100 fkX11_19 rfl rfl ?_
                refine r_get dX11_count_103 fkX11_130 rfl rfl ?_
                exact (r_ri dX11_count_106 rfl rfl rfl rfl)
              · refine r_in (R := (rIp T)) s1_1_6 ?_
                have kk := kk s1_1_6
                by_cases s1_1_7 : p0 = 7
                · refine r_ip (R := (rIp T)) s1_1_7 ?_
                  have kk := kk s1_1_7
                  refine r_tin dX11_count_1 (by rw [s1_1_7]; decide) (by rw [s1_1_7]; decide) (off := 106) (by rw [s1_1_7]; rfl) rfl ?_
                  refine r_p (pc2 := 108) dX11_count_107 rfl rfl ?_
                  refine r_get dX11_count_108 fkX11_30 rfl rfl ?_
                  obtain ⟨q8, kk⟩ := kk
                  refine r_get dX11_count_111 fkX11_215 q8 rfl ?_
                  exact (r_ri dX11_count_114 rfl rfl rfl rfl)
                · refine r_in (R := (rIp T)) s1_1_7 ?_
                  refine r_tout dX11_count_1 (by have := i_rg (p0); simp only [i_eq, i_0, i_1, i_2, i_3, i_4, i_5, i_6, i_7] at s1_1_0 s1_1_1 s1_1_2 s1_1_3 s1_1_4 s1_1_5 s1_1_6 s1_1_7; omega) rfl ?_
                  refine r_k dX11_count_115 kkX11_82 ?_
                  exact (r_ri dX11_count_117 rfl rfl rfl rfl)
def x_x_changed (T : St)  : St := x_ki_fit (sF (sF T 0 14 0) 0 16 0) 76 ((sF (sF T 0 14 0) 0 16 0).2.1 0) ((sF (sF T 0 14 0) 0 16 0).2.2.1 (((sF (sF T 0 14 0) 0 16 0).2.1 0) + 1) (5 : Int32).toNatClampNeg) ((sF (sF T 0 14 0) 0 16 0).1 ((sF (sF T 0 14 0) 0 16 0).2.1 0) 18)
def ok_x_changed (T : St)  : Prop := (sh ((sF (sF T 0 14 0) 0 16 0).2.1 0) = .inr 1) ∧ (ok_ki_fit (sF (sF T 0 14 0) 0 16 0) 76 ((sF (sF T 0 14 0) 0 16 0).2.1 0) ((sF (sF T 0 14 0) 0 16 0).2.2.1 (((sF (sF T 0 14 0) 0 16 0).2.1 0) + 1) (5 : Int32).toNatClampNeg) ((sF (sF T 0 14 0) 0 16 0).1 ((sF (sF T 0 14 0) 0 16 0).2.1 0) 18)) ∧ True
theorem c_x_changed {X : Nat × (Nat → Int32)} {T : St}  (kk : ok_x_changed T ) : tC X 4 mX11_changed [.ref 0] T none (x_x_changed T) := by
  unfold ok_x_changed at kk
  refine tC_orV (L := [some (.ref 0)]) (x_x_changed T ) rfl ?_
  unfold x_x_changed
  refine r_p (pc2 := 1) dX11_changed_0 rfl rfl ?_
  refine r_ci (x := 0) dX11_changed_1 rfl ?_
  refine r_put dX11_changed_2 fkX11_358 rfl rfl rfl (Nat.le_of_ble_eq_true rfl) rfl rfl ?_
  refine r_p (pc2 := 6) dX11_changed_5 rfl rfl ?_
  refine r_ci (x := 0) dX11_changed_6 rfl ?_
  refine r_put dX11_changed_7 fkX11_297 rfl rfl rfl (Nat.le_of_ble_eq_true rfl) rfl rfl ?_
  refine r_p (pc2 := 11) dX11_changed_10 rfl rfl ?_
  refine r_get dX11_changed_11 fkX11_40 rfl rfl ?_
  refine r_p (pc2 := 15) dX11_changed_14 rfl rfl ?_
  refine r_get dX11_changed_15 fkX11_30 rfl rfl ?_
  refine r_p (pc2 := 19) dX11_changed_18 rfl rfl ?_
  refine r_get dX11_changed_19 fkX11_30 rfl rfl ?_
  obtain ⟨q1, kk⟩ := kk
  refine r_get dX11_changed_22 fkX11_212 q1 rfl ?_
  refine r_ci (x := 5) dX11_changed_25 rfl ?_
  refine r_ia dX11_changed_26 (shl1_1 q1) (in_c (by decide)) ?_
  refine r_p (pc2 := 28) dX11_changed_27 rfl rfl ?_
  refine r_get dX11_changed_28 fkX11_30 rfl rfl ?_
  refine r_get dX11_changed_31 fkX11_215 q1 rfl ?_
  obtain ⟨q2, kk⟩ := kk
  refine r_cv (d1 := 3) dX11_changed_34 cvX11_300 rfl rfl rfl rfl (Nat.le_of_ble_eq_true rfl) (Nat.le_of_ble_eq_true rfl) (Nat.le_of_ble_eq_true rfl) (c_ki_fit 76 ((sF (sF T 0 14 0) 0 16 0).2.1 0) ((sF (sF T 0 14 0) 0 16 0).2.2.1 (((sF (sF T 0 14 0) 0 16 0).2.1 0) + 1) (5 : Int32).toNatClampNeg) ((sF (sF T 0 14 0) 0 16 0).1 ((sF (sF T 0 14 0) 0 16 0).2.1 0) 18) q2) ?_
  exact (r_rv dX11_changed_37 rfl rfl rfl)
