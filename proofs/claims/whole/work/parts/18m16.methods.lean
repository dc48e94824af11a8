def x_ro_fill_12 (l0 : Nat) (l1 : Nat) (K : Int32 → St → St) : Nat → Int32 → St → St
  | 0, _, T => T
  | f + 1, v2, T => if (T.1 l1 4) ≤ v2 then (K v2 T) else (if 4 ≤ (T.1 l0 0) then (K v2 T) else (if (((T.1 l1 17) >>> (v2 &&& 31)) &&& 1) = 0 then (x_ro_fill_12 l0 l1 K f (v2 + 1) T) else (fun (T1 : St) => x_ro_fill_12 l0 l1 K f (v2 + 1) (sF T1 l0 0 ((T1.1 l0 0) + 1))) (sA (x_ro_fillDish T l0 l1 v2) (l0 + 1) ((x_ro_fillDish T l0 l1 v2).1 l0 0 : Int32).toNatClampNeg v2)))
def ok_ro_fill_12 (l0 : Nat) (l1 : Nat) (Kk : Int32 → St → Prop) : Nat → Int32 → St → Prop
  | 0, _, _ => False
  | f + 1, v2, T => (sh l1 = .inr 1) ∧ (((T.1 l1 4) ≤ v2 → Kk v2 T) ∧ (¬ (T.1 l1 4) ≤ v2 → (sh l0 = .inr 7) ∧ ((4 ≤ (T.1 l0 0) → Kk v2 T) ∧ (¬ 4 ≤ (T.1 l0 0) → (((((T.1 l1 17) >>> (v2 &&& 31)) &&& 1) = 0 → ok_ro_fill_12 l0 l1 Kk f (v2 + 1) T) ∧ (¬ (((T.1 l1 17) >>> (v2 &&& 31)) &&& 1) = 0 → (ok_ro_fillDish T l0 l1 v2) ∧ (sh (l0 + 1) = .inl (0, 4)) ∧ (vp_in ((x_ro_fillDish T l0 l1 v2).1 l0 0) 4) ∧ (fun (T1 : St) => (sh l0 = .inr 7) ∧ ok_ro_fill_12 l0 l1 Kk f (v2 + 1) (sF T1 l0 0 ((T1.1 l0 0) + 1))) (sA (x_ro_fillDish T l0 l1 v2) (l0 + 1) ((x_ro_fillDish T l0 l1 v2).1 l0 0 : Int32).toNatClampNeg v2)))))))
theorem c_ro_fill_12 {X : Nat × (Nat → Int32)} (l0 : Nat) (l1 : Nat) {K : Int32 → St → St} {Kk : Int32 → St → Prop} (hk : ∀ (v2 : Int32) (T : St), Kk v2 T → tR X 1 mX7_fill 71 [some (.ref l0), some (.ref l1), some (.int v2)] [] T none (K v2 T)) : ∀ (f : Nat) (v2 : Int32) (T : St), ok_ro_fill_12 l0 l1 Kk f v2 T → tR X 1 mX7_fill 12 [some (.ref l0), some (.ref l1), some (.int v2)] [] T none (x_ro_fill_12 l0 l1 K f v2 T) := by
  intro f
  induction f with
  | zero => intro v2 T kk; exact kk.elim
  | succ f ih =>
    intro v2 T kk
    rw [ok_ro_fill_12] at kk
    refine r_p dX7_fill_12 rfl rfl ?_
    refine r_p dX7_fill_13 rfl rfl ?_
    obtain ⟨q2, kk⟩ := kk
    refine r_get dX7_fill_14 fkX7_37 q2 rfl ?_
    refine r_cge dX7_fill_17 rfl (fun c17_1 => ?_) (fun c17_1 => ?_)
    · have kk := kk.1 c17_1
      show tR _ _ _ _ [some (.ref l0), some (.ref l1), some (.int v2)] _ _ _ _
      exact r_eV (r' := K v2 T) (by rw [x_ro_fill_12]; rw [if_pos c17_1]) ((hk v2 T kk))
    · have kk := kk.2 c17_1
      refine r_p dX7_fill_20 rfl rfl ?_
      obtain ⟨q3, kk⟩ := kk
      refine r_get dX7_fill_21 fkX7_30 q3 rfl ?_
      refine r_ci (x := 4) dX7_fill_24 rfl ?_
      refine r_cge dX7_fill_25 rfl (fun c25_2 => ?_) (fun c25_2 => ?_)
      · have kk := kk.1 c25_2
        show tR _ _ _ _ [some (.ref l0), some (.ref l1), some (.int v2)] _ _ _ _
        exact r_eV (r' := K v2 T) (by rw [x_ro_fill_12]; rw [if_neg c17_1, if_pos c25_2]) ((hk v2 T kk))
      · have kk := kk.2 c25_2
        refine r_p dX7_fill_28 rfl rfl ?_
        refine r_get dX7_fill_29 fkX7_40 q2 rfl ?_
        refine r_p dX7_fill_32 rfl rfl ?_
        refine r_p dX7_fill_33 rfl rfl ?_
        refine r_ci (x := 1) dX7_fill_34 rfl ?_
        refine r_p dX7_fill_35 rfl rfl ?_
        refine r_ieq dX7_fill_36 rfl (fun c36_3 => ?_) (fun c36_3 => ?_)
        · have kk := kk.1 c36_3
          refine r_inc (y := 1) dX7_fill_65 rfl rfl rfl ?_
          refine r_go dX7_fill_68 rfl ?_
          show tR _ _ _ _ [some (.ref l0), some (.ref l1), some (.int (v2 + 1))] _ _ _ _
          exact r_eV (r' := x_ro_fill_12 l0 l1 K f (v2 + 1) T) (by rw [x_ro_fill_12]; rw [if_neg c17_1, if_neg c25_2, if_pos c36_3]) ((ih (v2 + 1) T kk))
        · have kk := kk.2 c36_3
          refine r_p dX7_fill_39 rfl rfl ?_
          refine r_p dX7_fill_40 rfl rfl ?_
          refine r_p dX7_fill_41 rfl rfl ?_
          obtain ⟨q4, kk⟩ := kk
          refine r_cv (d1 := 1) dX7_fill_42 cvX7_43 rfl rfl q3 rfl (Nat.le_of_ble_eq_true rfl) (Nat.le_of_ble_eq_true rfl) (Nat.le_of_ble_eq_true rfl) (c_ro_fillDish l0 l1 v2 q4) ?_
          refine r_p dX7_fill_45 rfl rfl ?_
          refine r_get dX7_fill_46 fkX7_9 q3 rfl ?_
          refine r_p dX7_fill_49 rfl rfl ?_
          refine r_get dX7_fill_50 fkX7_30 q3 rfl ?_
          refine r_p dX7_fill_53 rfl rfl ?_
          obtain ⟨q5, kk⟩ := kk
          obtain ⟨q6, kk⟩ := kk
          refine r_ias dX7_fill_54 q5 q6 ?_
          refine r_eV (r' := (fun (T1 : St) => x_ro_fill_12 l0 l1 K f (v2 + 1) (sF T1 l0 0 ((T1.1 l0 0) + 1))) (sA (x_ro_fillDish T l0 l1 v2) (l0 + 1) ((x_ro_fillDish T l0 l1 v2).1 l0 0 : Int32).toNatClampNeg v2)) (by rw [x_ro_fill_12]; rw [if_neg c17_1, if_neg c25_2, if_neg c36_3]) ?_
          generalize sA (x_ro_fillDish T l0 l1 v2) (l0 + 1) ((x_ro_fillDish T l0 l1 v2).1 l0 0 : Int32).toNatClampNeg v2 = T1 at kk ⊢
          try dsimp only at kk
          refine r_p dX7_fill_55 rfl rfl ?_
          refine r_p dX7_fill_56 rfl rfl ?_
          obtain ⟨q7, kk⟩ := kk
          refine r_get dX7_fill_57 fkX7_30 q7 rfl ?_
          refine r_ci (x := 1) dX7_fill_60 rfl ?_
          refine r_p dX7_fill_61 rfl rfl ?_
          refine r_put dX7_fill_62 fkX7_30 rfl q7 rfl (Nat.le_of_ble_eq_true rfl) rfl rfl ?_
          refine r_inc (y := 1) dX7_fill_65 rfl rfl rfl ?_
          refine r_go dX7_fill_68 rfl ?_
          show tR _ _ _ _ [some (.ref l0), some (.ref l1), some (.int (v2 + 1))] _ _ _ _
          exact r_eV (r' := x_ro_fill_12 l0 l1 K f (v2 + 1) (sF T1 l0 0 ((T1.1 l0 0) + 1))) rfl ((ih (v2 + 1) (sF T1 l0 0 ((T1.1 l0 0) + 1)) kk))
def x_ro_fill (T : St) (a : Nat) (p0 : Nat) : St := x_ro_fill_12 a p0 (fun (w1_2 : Int32) (T201 : St) => T201) 1000 0 (sF (sF T a 0 0) a 1 0)
def ok_ro_fill (T : St) (a : Nat) (p0 : Nat) : Prop := (sh a = .inr 7) ∧ ok_ro_fill_12 a p0 (fun (w1_2 : Int32) (T201 : St) => True) 1000 0 (sF (sF T a 0 0) a 1 0)
theorem c_ro_fill {X : Nat × (Nat → Int32)} {T : St} (a : Nat) (p0 : Nat) (kk : ok_ro_fill T a p0) : tC X 2 mX7_fill [.ref a, .ref p0] T none (x_ro_fill T a p0) := by
  unfold ok_ro_fill at kk
  refine tC_of ?_
  refine r_p dX7_fill_0 rfl rfl ?_
  refine r_ci (x := 0) dX7_fill_1 rfl ?_
  obtain ⟨q1, kk⟩ := kk
  refine r_put dX7_fill_2 fkX7_30 rfl q1 rfl (Nat.le_of_ble_eq_true rfl) rfl rfl ?_
  refine r_p dX7_fill_5 rfl rfl ?_
  refine r_ci (x := 0) dX7_fill_6 rfl ?_
  refine r_put dX7_fill_7 fkX7_34 rfl q1 rfl (Nat.le_of_ble_eq_true rfl) rfl rfl ?_
  refine r_ci (x := 0) dX7_fill_10 rfl ?_
  refine r_p dX7_fill_11 rfl rfl ?_
  show tR _ _ _ _ [some (.ref a), some (.ref p0), some (.int 0)] _ _ _ _
  refine r_eV (r' := x_ro_fill_12 a p0 (fun (w1_2 : Int32) (T201 : St) => T201) 1000 0 (sF (sF T a 0 0) a 1 0)) (by unfold x_ro_fill; rfl) ((c_ro_fill_12 a p0 (fun w1_2 T201 kk => ?_) 1000 0 (sF (sF T a 0 0) a 1 0) kk))
  · exact r_eV (r' := T201) rfl (r_rv dX7_fill_71 rfl rfl rfl)
def x_wa_lay_33 (l0 : Nat) (l1 : Nat) (l2 : Int32) (l3 : Int32) (K : Int32 → St → St) : Nat → Int32 → St → St
  | 0, _, T => T
  | f + 1, v4, T => if l3 < v4 then (K v4 T) else (jn (fun (KJ1 : St → St) => if (T.2.2.1 (l1 + 9) (l2 + v4 : Int32).toNatClampNeg) = 0 then (fun (T9 : St) => KJ1 T9) (sL T (l0 + 3) (0 : Int32).toNatClampNeg ((T.2.2.2 (l0 + 3) (0 : Int32).toNatClampNeg) ||| (x_x_span T (T.2.2.1 (l0 + 1) (v4 : Int32).toNatClampNeg) (T.2.2.1 (l0 + 2) (v4 : Int32).toNatClampNeg)))) else (KJ1 T)) (fun (T301 : St) => jn (fun (KJ2 : St → St) => if (T.2.2.1 (l1 + 9) (l2 + v4 : Int32).toNatClampNeg) = 0 then (if (T301.2.2.1 (l1 + 13) (l2 + v4 : Int32).toNatClampNeg) = 1 then (fun (T8 : St) => KJ2 T8) (sL T301 (l0 + 3) (1 : Int32).toNatClampNeg ((T301.2.2.2 (l0 + 3) (1 : Int32).toNatClampNeg) ||| (x_x_span T (T.2.2.1 (l0 + 1) (v4 : Int32).toNatClampNeg) (T.2.2.1 (l0 + 2) (v4 : Int32).toNatClampNeg)))) else (KJ2 T301)) else (KJ2 T301)) (fun (T302 : St) => jn (fun (KJ3 : St → St) => if (T.2.2.1 (l1 + 9) (l2 + v4 : Int32).toNatClampNeg) = 1 then (fun (T7 : St) => KJ3 T7) (sL T302 (l0 + 3) (2 : Int32).toNatClampNeg ((T302.2.2.2 (l0 + 3) (2 : Int32).toNatClampNeg) ||| (x_x_span T (T.2.2.1 (l0 + 1) (v4 : Int32).toNatClampNeg) (T.2.2.1 (l0 + 2) (v4 : Int32).toNatClampNeg)))) else (KJ3 T302)) (fun (T303 : St) => jn (fun (KJ4 : St → St) => if (T.2.2.1 (l1 + 12) (l2 + v4 : Int32).toNatClampNeg) = 1 then (fun (T6 : St) => KJ4 T6) (sL T303 (l0 + 3) (3 : Int32).toNatClampNeg ((T303.2.2.2 (l0 + 3) (3 : Int32).toNatClampNeg) ||| (x_x_span T303 (T303.2.2.1 (l0 + 1) (v4 : Int32).toNatClampNeg) 1))) else (KJ4 T303)) (fun (T304 : St) => if (T.2.2.1 (l1 + 12) (l2 + v4 : Int32).toNatClampNeg) = 2 then (fun (T5 : St) => x_wa_lay_33 l0 l1 l2 l3 K f (v4 + 1) T5) (sL T304 (l0 + 3) (3 : Int32).toNatClampNeg ((T304.2.2.2 (l0 + 3) (3 : Int32).toNatClampNeg) ||| (x_x_span T (T.2.2.1 (l0 + 1) (v4 : Int32).toNatClampNeg) (T.2.2.1 (l0 + 2) (v4 : Int32).toNatClampNeg)))) else (x_wa_lay_33 l0 l1 l2 l3 K f (v4 + 1) T304))))))
def ok_wa_lay_33 (l0 : Nat) (l1 : Nat) (l2 : Int32) (l3 : Int32) (Kk : Int32 → St → Prop) : Nat → Int32 → St → Prop
  | 0, _, _ => False
  | f + 1, v4, T => ((l3 < v4 → Kk v4 T) ∧ (¬ l3 < v4 → (sh l0 = .inr 10) ∧ (sh (l0 + 1) = .inl (0, 3)) ∧ (vp_in v4 3) ∧ (sh (l0 + 2) = .inl (0, 3)) ∧ (sh l1 = .inr 1) ∧ (sh (l1 + 9) = .inl (0, 24)) ∧ (vp_in (l2 + v4) 24) ∧ (sh (l1 + 12) = .inl (0, 24)) ∧ jn (fun (OJ1 : St → Prop) => (((T.2.2.1 (l1 + 9) (l2 + v4 : Int32).toNatClampNeg) = 0 → (sh (l0 + 3) = .inl (1, 5)) ∧ (vp_in 0 5) ∧ (fun (T9 : St) => OJ1 T9) (sL T (l0 + 3) (0 : Int32).toNatClampNeg ((T.2.2.2 (l0 + 3) (0 : Int32).toNatClampNeg) ||| (x_x_span T (T.2.2.1 (l0 + 1) (v4 : Int32).toNatClampNeg) (T.2.2.1 (l0 + 2) (v4 : Int32).toNatClampNeg))))) ∧ (¬ (T.2.2.1 (l1 + 9) (l2 + v4 : Int32).toNatClampNeg) = 0 → OJ1 T))) (fun (T301 : St) => jn (fun (OJ2 : St → Prop) => (((T.2.2.1 (l1 + 9) (l2 + v4 : Int32).toNatClampNeg) = 0 → (sh l1 = .inr 1) ∧ (sh (l1 + 13) = .inl (0, 24)) ∧ (vp_in (l2 + v4) 24) ∧ (((T301.2.2.1 (l1 + 13) (l2 + v4 : Int32).toNatClampNeg) = 1 → (sh l0 = .inr 10) ∧ (sh (l0 + 3) = .inl (1, 5)) ∧ (vp_in 1 5) ∧ (fun (T8 : St) => OJ2 T8) (sL T301 (l0 + 3) (1 : Int32).toNatClampNeg ((T301.2.2.2 (l0 + 3) (1 : Int32).toNatClampNeg) ||| (x_x_span T (T.2.2.1 (l0 + 1) (v4 : Int32).toNatClampNeg) (T.2.2.1 (l0 + 2) (v4 : Int32).toNatClampNeg))))) ∧ (¬ (T301.2.2.1 (l1 + 13) (l2 + v4 : Int32).toNatClampNeg) = 1 → OJ2 T301))) ∧ (¬ (T.2.2.1 (l1 + 9) (l2 + v4 : Int32).toNatClampNeg) = 0 → OJ2 T301))) (fun (T302 : St) => jn (fun (OJ3 : St → Prop) => (((T.2.2.1 (l1 + 9) (l2 + v4 : Int32).toNatClampNeg) = 1 → (sh l0 = .inr 10) ∧ (sh (l0 + 3) = .inl (1, 5)) ∧ (vp_in 2 5) ∧ (fun (T7 : St) => OJ3 T7) (sL T302 (l0 + 3) (2 : Int32).toNatClampNeg ((T302.2.2.2 (l0 + 3) (2 : Int32).toNatClampNeg) ||| (x_x_span T (T.2.2.1 (l0 + 1) (v4 : Int32).toNatClampNeg) (T.2.2.1 (l0 + 2) (v4 : Int32).toNatClampNeg))))) ∧ (¬ (T.2.2.1 (l1 + 9) (l2 + v4 : Int32).toNatClampNeg) = 1 → OJ3 T302))) (fun (T303 : St) => jn (fun (OJ4 : St → Prop) => (((T.2.2.1 (l1 + 12) (l2 + v4 : Int32).toNatClampNeg) = 1 → (sh l0 = .inr 10) ∧ (sh (l0 + 3) = .inl (1, 5)) ∧ (vp_in 3 5) ∧ (sh (l0 + 1) = .inl (0, 3)) ∧ (vp_in v4 3) ∧ (fun (T6 : St) => OJ4 T6) (sL T303 (l0 + 3) (3 : Int32).toNatClampNeg ((T303.2.2.2 (l0 + 3) (3 : Int32).toNatClampNeg) ||| (x_x_span T303 (T303.2.2.1 (l0 + 1) (v4 : Int32).toNatClampNeg) 1)))) ∧ (¬ (T.2.2.1 (l1 + 12) (l2 + v4 : Int32).toNatClampNeg) = 1 → OJ4 T303))) (fun (T304 : St) => (((T.2.2.1 (l1 + 12) (l2 + v4 : Int32).toNatClampNeg) = 2 → (sh l0 = .inr 10) ∧ (sh (l0 + 3) = .inl (1, 5)) ∧ (vp_in 3 5) ∧ (fun (T5 : St) => ok_wa_lay_33 l0 l1 l2 l3 Kk f (v4 + 1) T5) (sL T304 (l0 + 3) (3 : Int32).toNatClampNeg ((T304.2.2.2 (l0 + 3) (3 : Int32).toNatClampNeg) ||| (x_x_span T (T.2.2.1 (l0 + 1) (v4 : Int32).toNatClampNeg) (T.2.2.1 (l0 + 2) (v4 : Int32).toNatClampNeg))))) ∧ (¬ (T.2.2.1 (l1 + 12) (l2 + v4 : Int32).toNatClampNeg) = 2 → ok_wa_lay_33 l0 l1 l2 l3 Kk f (v4 + 1) T304))))))))
theorem c_wa_lay_33 {X : Nat × (Nat → Int32)} (l0 : Nat) (l1 : Nat) (l2 : Int32) (l3 : Int32) {K : Int32 → St → St} {Kk : Int32 → St → Prop} (hk : ∀ (v4 : Int32) (T : St), Kk v4 T → tR X 1 mX10_lay 191 [some (.ref l0), some (.ref l1), some (.int l2), some (.int l3), some (.int v4), none, none, none, none] [] T none (K v4 T)) : ∀ (f : Nat) (v4 : Int32) (T : St), ok_wa_lay_33 l0 l1 l2 l3 Kk f v4 T → tR X 1 mX10_lay 33 [some (.ref l0), some (.ref l1), some (.int l2), some (.int l3), some (.int v4), none, none, none, none] [] T none (x_wa_lay_33 l0 l1 l2 l3 K f v4 T) := by
  intro f
  induction f with
  | zero => intro v4 T kk; exact kk.elim
  | succ f ih =>
    intro v4 T kk
    rw [ok_wa_lay_33] at kk
    refine r_p dX10_lay_33 rfl rfl ?_
    refine r_p dX10_lay_35 rfl rfl ?_
    refine r_cgt dX10_lay_36 rfl (fun c36_1 => ?_) (fun c36_1 => ?_)
    · have kk := kk.1 c36_1
      show tR _ _ _ _ [some (.ref l0), some (.ref l1), some (.int l2), some (.int l3), some (.int v4), none, none, none, none] _ _ _ _
      exact r_eV (r' := K v4 T) (by rw [x_wa_lay_33]; rw [if_pos c36_1]) ((hk v4 T kk))
    · have kk := kk.2 c36_1
      refine r_p dX10_lay_39 rfl rfl ?_
      obtain ⟨q7, kk⟩ := kk
      refine r_get dX10_lay_40 fkX10_9 q7 rfl ?_
      refine r_p dX10_lay_43 rfl rfl ?_
      obtain ⟨q8, kk⟩ := kk
      obtain ⟨q9, kk⟩ := kk
      refine r_ia dX10_lay_45 q8 q9 ?_
      refine r_p dX10_lay_46 rfl rfl ?_
      refine r_get dX10_lay_47 fkX10_15 q7 rfl ?_
      refine r_p dX10_lay_50 rfl rfl ?_
      obtain ⟨q10, kk⟩ := kk
      refine r_ia dX10_lay_52 q10 q9 ?_
      refine r_cs (d1 := 1) dX10_lay_53 csX10_66 rfl rfl (Nat.le_of_ble_eq_true rfl) (Nat.le_of_ble_eq_true rfl) (Nat.le_of_ble_eq_true rfl) (c_x_span (T.2.2.1 (l0 + 1) (v4 : Int32).toNatClampNeg) (T.2.2.1 (l0 + 2) (v4 : Int32).toNatClampNeg)) ?_
      refine r_p dX10_lay_56 rfl rfl ?_
      refine r_p dX10_lay_58 rfl rfl ?_
      obtain ⟨q11, kk⟩ := kk
      refine r_get dX10_lay_59 fkX10_38 q11 rfl ?_
      refine r_p dX10_lay_62 rfl rfl ?_
      refine r_p dX10_lay_63 rfl rfl ?_
      refine r_p dX10_lay_65 rfl rfl ?_
      obtain ⟨q12, kk⟩ := kk
      obtain ⟨q13, kk⟩ := kk
      refine r_ia dX10_lay_66 q12 q13 ?_
      refine r_p dX10_lay_67 rfl rfl ?_
      refine r_p dX10_lay_69 rfl rfl ?_
      refine r_get dX10_lay_70 fkX10_70 q11 rfl ?_
      refine r_p dX10_lay_73 rfl rfl ?_
      refine r_p dX10_lay_74 rfl rfl ?_
      refine r_p dX10_lay_76 rfl rfl ?_
      obtain ⟨q14, kk⟩ := kk
      refine r_ia dX10_lay_77 q14 q13 ?_
      refine r_p dX10_lay_78 rfl rfl ?_
      refine r_p dX10_lay_80 rfl rfl ?_
      obtain ⟨KJ1, hKJ1⟩ : ∃ q : St → St, q = (fun (T301 : St) => jn (fun (KJ2 : St → St) => if (T.2.2.1 (l1 + 9) (l2 + v4 : Int32).toNatClampNeg) = 0 then (if (T301.2.2.1 (l1 + 13) (l2 + v4 : Int32).toNatClampNeg) = 1 then (fun (T8 : St) => KJ2 T8) (sL T301 (l0 + 3) (1 : Int32).toNatClampNeg ((T301.2.2.2 (l0 + 3) (1 : Int32).toNatClampNeg) ||| (x_x_span T (T.2.2.1 (l0 + 1) (v4 : Int32).toNatClampNeg) (T.2.2.1 (l0 + 2) (v4 : Int32).toNatClampNeg)))) else (KJ2 T301)) else (KJ2 T301)) (fun (T302 : St) => jn (fun (KJ3 : St → St) => if (T.2.2.1 (l1 + 9) (l2 + v4 : Int32).toNatClampNeg) = 1 then (fun (T7 : St) => KJ3 T7) (sL T302 (l0 + 3) (2 : Int32).toNatClampNeg ((T302.2.2.2 (l0 + 3) (2 : Int32).toNatClampNeg) ||| (x_x_span T (T.2.2.1 (l0 + 1) (v4 : Int32).toNatClampNeg) (T.2.2.1 (l0 + 2) (v4 : Int32).toNatClampNeg)))) else (KJ3 T302)) (fun (T303 : St) => jn (fun (KJ4 : St → St) => if (T.2.2.1 (l1 + 12) (l2 + v4 : Int32).toNatClampNeg) = 1 then (fun (T6 : St) => KJ4 T6) (sL T303 (l0 + 3) (3 : Int32).toNatClampNeg ((T303.2.2.2 (l0 + 3) (3 : Int32).toNatClampNeg) ||| (x_x_span T303 (T303.2.2.1 (l0 + 1) (v4 : Int32).toNatClampNeg) 1))) else (KJ4 T303)) (fun (T304 : St) => if (T.2.2.1 (l1 + 12) (l2 + v4 : Int32).toNatClampNeg) = 2 then (fun (T5 : St) => x_wa_lay_33 l0 l1 l2 l3 K f (v4 + 1) T5) (sL T304 (l0 + 3) (3 : Int32).toNatClampNeg ((T304.2.2.2 (l0 + 3) (3 : Int32).toNatClampNeg) ||| (x_x_span T (T.2.2.1 (l0 + 1) (v4 : Int32).toNatClampNeg) (T.2.2.1 (l0 + 2) (v4 : Int32).toNatClampNeg)))) else (x_wa_lay_33 l0 l1 l2 l3 K f (v4 + 1) T304))))) := ⟨_, rfl⟩
      obtain ⟨OJ1, hOJ1⟩ : ∃ q : St → Prop, q = (fun (T301 : St) => jn (fun (OJ2 : St → Prop) => (((T.2.2.1 (l1 + 9) (l2 + v4 : Int32).toNatClampNeg) = 0 → (sh l1 = .inr 1) ∧ (sh (l1 + 13) = .inl (0, 24)) ∧ (vp_in (l2 + v4) 24) ∧ (((T301.2.2.1 (l1 + 13) (l2 + v4 : Int32).toNatClampNeg) = 1 → (sh l0 = .inr 10) ∧ (sh (l0 + 3) = .inl (1, 5)) ∧ (vp_in 1 5) ∧ (fun (T8 : St) => OJ2 T8) (sL T301 (l0 + 3) (1 : Int32).toNatClampNeg ((T301.2.2.2 (l0 + 3) (1 : Int32).toNatClampNeg) ||| (x_x_span T (T.2.2.1 (l0 + 1) (v4 : Int32).toNatClampNeg) (T.2.2.1 (l0 + 2) (v4 : Int32).toNatClampNeg))))) ∧ (¬ (T301.2.2.1 (l1 + 13) (l2 + v4 : Int32).toNatClampNeg) = 1 → OJ2 T301))) ∧ (¬ (T.2.2.1 (l1 + 9) (l2 + v4 : Int32).toNatClampNeg) = 0 → OJ2 T301))) (fun (T302 : St) => jn (fun (OJ3 : St → Prop) => (((T.2.2.1 (l1 + 9) (l2 + v4 : Int32).toNatClampNeg) = 1 → (sh l0 = .inr 10) ∧ (sh (l0 + 3) = .inl (1, 5)) ∧ (vp_in 2 5) ∧ (fun (T7 : St) => OJ3 T7) (sL T302 (l0 + 3) (2 : Int32).toNatClampNeg ((T302.2.2.2 (l0 + 3) (2 : Int32).toNatClampNeg) ||| (x_x_span T (T.2.2.1 (l0 + 1) (v4 : Int32).toNatClampNeg) (T.2.2.1 (l0 + 2) (v4 : Int32).toNatClampNeg))))) ∧ (¬ (T.2.2.1 (l1 + 9) (l2 + v4 : Int32).toNatClampNeg) = 1 → OJ3 T302))) (fun (T303 : St) => jn (fun (OJ4 : St → Prop) => (((T.2.2.1 (l1 + 12) (l2 + v4 : Int32).toNatClampNeg) = 1 → (sh l0 = .inr 10) ∧ (sh (l0 + 3) = .inl (1, 5)) ∧ (vp_in 3 5) ∧ (sh (l0 + 1) = .inl (0, 3)) ∧ (vp_in v4 3) ∧ (fun (T6 : St) => OJ4 T6) (sL T303 (l0 + 3) (3 : Int32).toNatClampNeg ((T303.2.2.2 (l0 + 3) (3 : Int32).toNatClampNeg) ||| (x_x_span T303 (T303.2.2.1 (l0 + 1) (v4 : Int32).toNatClampNeg) 1)))) ∧ (¬ (T.2.2.1 (l1 + 12) (l2 + v4 : Int32).toNatClampNeg) = 1 → OJ4 T303))) (fun (T304 : St) => (((T.2.2.1 (l1 + 12) (l2 + v4 : Int32).toNatClampNeg) = 2 → (sh l0 = .inr 10) ∧ (sh (l0 + 3) = .inl (1, 5)) ∧ (vp_in 3 5) ∧ (fun (T5 : St) => ok_wa_lay_33 l0 l1 l2 l3 Kk f (v4 + 1) T5) (sL T304 (l0 + 3) (3 : Int32).toNatClampNeg ((T304.2.2.2 (l0 + 3) (3 : Int32).toNatClampNeg) ||| (x_x_span T (T.2.2.1 (l0 + 1) (v4 : Int32).toNatClampNeg) (T.2.2.1 (l0 + 2) (v4 : Int32).toNatClampNeg))))) ∧ (¬ (T.2.2.1 (l1 + 12) (l2 + v4 : Int32).toNatClampNeg) = 2 → ok_wa_lay_33 l0 l1 l2 l3 Kk f (v4 + 1) T304)))))) := ⟨_, rfl⟩
      rw [← hOJ1] at kk
      simp only [jn] at kk
      have hJ1 : ∀ (T301 : St), OJ1 T301 → tR X 1 mX10_lay 96 [some (.ref l0), some (.ref l1), some (.int l2), some (.int l3), some (.int v4), some (.long (x_x_span T (T.2.2.1 (l0 + 1) (v4 : Int32).toNatClampNeg) (T.2.2.1 (l0 + 2) (v4 : Int32).toNatClampNeg))), none, some (.int (T.2.2.1 (l1 + 9) (l2 + v4 : Int32).toNatClampNeg)), some (.int (T.2.2.1 (l1 + 12) (l2 + v4 : Int32).toNatClampNeg))] [] T301 none (KJ1 T301) := by
        intro T301 kk
        rw [hOJ1] at kk
        try dsimp only at kk
        rw [hKJ1]
        refine r_p dX10_lay_96 rfl rfl ?_
        obtain ⟨KJ2, hKJ2⟩ : ∃ q : St → St, q = (fun (T302 : St) => jn (fun (KJ3 : St → St) => if (T.2.2.1 (l1 + 9) (l2 + v4 : Int32).toNatClampNeg) = 1 then (fun (T7 : St) => KJ3 T7) (sL T302 (l0 + 3) (2 : Int32).toNatClampNeg ((T302.2.2.2 (l0 + 3) (2 : Int32).toNatClampNeg) ||| (x_x_span T (T.2.2.1 (l0 + 1) (v4 : Int32).toNatClampNeg) (T.2.2.1 (l0 + 2) (v4 : Int32).toNatClampNeg)))) else (KJ3 T302)) (fun (T303 : St) => jn (fun (KJ4 : St → St) => if (T.2.2.1 (l1 + 12) (l2 + v4 : Int32).toNatClampNeg) = 1 then (fun (T6 : St) => KJ4 T6) (sL T303 (l0 + 3) (3 : Int32).toNatClampNeg ((T303.2.2.2 (l0 + 3) (3 : Int32).toNatClampNeg) ||| (x_x_span T303 (T303.2.2.1 (l0 + 1) (v4 : Int32).toNatClampNeg) 1))) else (KJ4 T303)) (fun (T304 : St) => if (T.2.2.1 (l1 + 12) (l2 + v4 : Int32).toNatClampNeg) = 2 then (fun (T5 : St) => x_wa_lay_33 l0 l1 l2 l3 K f (v4 + 1) T5) (sL T304 (l0 + 3) (3 : Int32).toNatClampNeg ((T304.2.2.2 (l0 + 3) (3 : Int32).toNatClampNeg) ||| (x_x_span T (T.2.2.1 (l0 + 1) (v4 : Int32).toNatClampNeg) (T.2.2.1 (l0 + 2) (v4 : Int32).toNatClampNeg)))) else (x_wa_lay_33 l0 l1 l2 l3 K f (v4 + 1) T304)))) := ⟨_, rfl⟩
        obtain ⟨OJ2, hOJ2⟩ : ∃ q : St → Prop, q = (fun (T302 : St) => jn (fun (OJ3 : St → Prop) => (((T.2.2.1 (l1 + 9) (l2 + v4 : Int32).toNatClampNeg) = 1 → (sh l0 = .inr 10) ∧ (sh (l0 + 3) = .inl (1, 5)) ∧ (vp_in 2 5) ∧ (fun (T7 : St) => OJ3 T7) (sL T302 (l0 + 3) (2 : Int32).toNatClampNeg ((T302.2.2.2 (l0 + 3) (2 : Int32).toNatClampNeg) ||| (x_x_span T (T.2.2.1 (l0 + 1) (v4 : Int32).toNatClampNeg) (T.2.2.1 (l0 + 2) (v4 : Int32).toNatClampNeg))))) ∧ (¬ (T.2.2.1 (l1 + 9) (l2 + v4 : Int32).toNatClampNeg) = 1 → OJ3 T302))) (fun (T303 : St) => jn (fun (OJ4 : St → Prop) => (((T.2.2.1 (l1 + 12) (l2 + v4 : Int32).toNatClampNeg) = 1 → (sh l0 = .inr 10) ∧ (sh (l0 + 3) = .inl (1, 5)) ∧ (vp_in 3 5) ∧ (sh (l0 + 1) = .inl (0, 3)) ∧ (vp_in v4 3) ∧ (fun (T6 : St) => OJ4 T6) (sL T303 (l0 + 3) (3 : Int32).toNatClampNeg ((T303.2.2.2 (l0 + 3) (3 : Int32).toNatClampNeg) ||| (x_x_span T303 (T303.2.2.1 (l0 + 1) (v4 : Int32).toNatClampNeg) 1)))) ∧ (¬ (T.2.2.1 (l1 + 12) (l2 + v4 : Int32).toNatClampNeg) = 1 → OJ4 T303))) (fun (T304 : St) => (((T.2.2.1 (l1 + 12) (l2 + v4 : Int32).toNatClampNeg) = 2 → (sh l0 = .inr 10) ∧ (sh (l0 + 3) = .inl (1, 5)) ∧ (vp_in 3 5) ∧ (fun (T5 : St) => ok_wa_lay_33 l0 l1 l2 l3 Kk f (v4 + 1) T5) (sL T304 (l0 + 3) (3 : Int32).toNatClampNeg ((T304.2.2.2 (l0 + 3) (3 : Int32).toNatClampNeg) ||| (x_x_span T (T.2.2.1 (l0 + 1) (v4 : Int32).toNatClampNeg) (T.2.2.1 (l0 + 2) (v4 : Int32).toNatClampNeg))))) ∧ (¬ (T.2.2.1 (l1 + 12) (l2 + v4 : Int32).toNatClampNeg) = 2 → ok_wa_lay_33 l0 l1 l2 l3 Kk f (v4 + 1) T304))))) := ⟨_, rfl⟩
        rw [← hOJ2] at kk
        simp only [jn] at kk
        have hJ2 : ∀ (T302 : St), OJ2 T302 → tR X 1 mX10_lay 125 [some (.ref l0), some (.ref l1), some (.int l2), some (.int l3), some (.int v4), some (.long (x_x_span T (T.2.2.1 (l0 + 1) (v4 : Int32).toNatClampNeg) (T.2.2.1 (l0 + 2) (v4 : Int32).toNatClampNeg))), none, some (.int (T.2.2.1 (l1 + 9) (l2 + v4 : Int32).toNatClampNeg)), some (.int (T.2.2.1 (l1 + 12) (l2 + v4 : Int32).toNatClampNeg))] [] T302 none (KJ2 T302) := by
          intro T302 kk
          rw [hOJ2] at kk
          try dsimp only at kk
          rw [hKJ2]
          refine r_p dX10_lay_125 rfl rfl ?_
          refine r_ci (x := 1) dX10_lay_127 rfl ?_
          obtain ⟨KJ3, hKJ3⟩ : ∃ q : St → St, q = (fun (T303 : St) => jn (fun (KJ4 : St → St) => if (T.2.2.1 (l1 + 12) (l2 + v4 : Int32).toNatClampNeg) = 1 then (fun (T6 : St) => KJ4 T6) (sL T303 (l0 + 3) (3 : Int32).toNatClampNeg ((T303.2.2.2 (l0 + 3) (3 : Int32).toNatClampNeg) ||| (x_x_span T303 (T303.2.2.1 (l0 + 1) (v4 : Int32).toNatClampNeg) 1))) else (KJ4 T303)) (fun (T304 : St) => if (T.2.2.1 (l1 + 12) (l2 + v4 : Int32).toNatClampNeg) = 2 then (fun (T5 : St) => x_wa_lay_33 l0 l1 l2 l3 K f (v4 + 1) T5) (sL T304 (l0 + 3) (3 : Int32).toNatClampNeg ((T304.2.2.2 (l0 + 3) (3 : Int32).toNatClampNeg) ||| (x_x_span T (T.2.2.1 (l0 + 1) (v4 : Int32).toNatClampNeg) (T.2.2.1 (l0 + 2) (v4 : Int32).toNatClampNeg)))) else (x_wa_lay_33 l0 l1 l2 l3 K f (v4 + 1) T304))) := ⟨_, rfl⟩
          obtain ⟨OJ3, hOJ3⟩ : ∃ q : St → Prop, q = (fun (T303 : St) => jn (fun (OJ4 : St → Prop) => (((T.2.2.1 (l1 + 12) (l2 + v4 : Int32).toNatClampNeg) = 1 → (sh l0 = .inr 10) ∧ (sh (l0 + 3) = .inl (1, 5)) ∧ (vp_in 3 5) ∧ (sh (l0 + 1) = .inl (0, 3)) ∧ (vp_in v4 3) ∧ (fun (T6 : St) => OJ4 T6) (sL T303 (l0 + 3) (3 : Int32).toNatClampNeg ((T303.2.2.2 (l0 + 3) (3 : Int32).toNatClampNeg) ||| (x_x_span T303 (T303.2.2.1 (l0 + 1) (v4 : Int32).toNatClampNeg) 1)))) ∧ (¬ (T.2.2.1 (l1 + 12) (l2 + v4 : Int32).toNatClampNeg) = 1 → OJ4 T303))) (fun (T304 : St) => (((T.2.2.1 (l1 + 12) (l2 + v4 : Int32).toNatClampNeg) = 2 → (sh l0 = .inr 10) ∧ (sh (l0 + 3) = .inl (1, 5)) ∧ (vp_in 3 5) ∧ (fun (T5 : St) => ok_wa_lay_33 l0 l1 l2 l3 Kk f (v4 + 1) T5) (sL T304 (l0 + 3) (3 : Int32).toNatClampNeg ((T304.2.2.2 (l0 + 3) (3 : Int32).toNatClampNeg) ||| (x_x_span T (T.2.2.1 (l0 + 1) (v4 : Int32).toNatClampNeg) (T.2.2.1 (l0 + 2) (v4 : Int32).toNatClampNeg))))) ∧ (¬ (T.2.2.1 (l1 + 12) (l2 + v4 : Int32).toNatClampNeg) = 2 → ok_wa_lay_33 l0 l1 l2 l3 Kk f (v4 + 1) T304)))) := ⟨_, rfl⟩
          rw [← hOJ3] at kk
          simp only [jn] at kk
          have hJ3 : ∀ (T303 : St), OJ3 T303 → tR X 1 mX10_lay 142 [some (.ref l0), some (.ref l1), some (.int l2), some (.int l3), some (.int v4), some (.long (x_x_span T (T.2.2.1 (l0 + 1) (v4 : Int32).toNatClampNeg) (T.2.2.1 (l0 + 2) (v4 : Int32).toNatClampNeg))), none, some (.int (T.2.2.1 (l1 + 9) (l2 + v4 : Int32).toNatClampNeg)), some (.int (T.2.2.1 (l1 + 12) (l2 + v4 : Int32).toNatClampNeg))] [] T303 none (KJ3 T303) := by
            intro T303 kk
            rw [hOJ3] at kk
            try dsimp only at kk
            rw [hKJ3]
            refine r_p dX10_lay_142 rfl rfl ?_
            refine r_ci (x := 1) dX10_lay_144 rfl ?_
            obtain ⟨KJ4, hKJ4⟩ : ∃ q : St → St, q = (fun (T304 : St) => if (T.2.2.1 (l1 + 12) (l2 + v4 : Int32).toNatClampNeg) = 2 then (fun (T5 : St) => x_wa_lay_33 l0 l1 l2 l3 K f (v4 + 1) T5) (sL T304 (l0 + 3) (3 : Int32).toNatClampNeg ((T304.2.2.2 (l0 + 3) (3 : Int32).toNatClampNeg) ||| (x_x_span T (T.2.2.1 (l0 + 1) (v4 : Int32).toNatClampNeg) (T.2.2.1 (l0 + 2) (v4 : Int32).toNatClampNeg)))) else (x_wa_lay_33 l0 l1 l2 l3 K f (v4 + 1) T304)) := ⟨_, rfl⟩
            obtain ⟨OJ4, hOJ4⟩ : ∃ q : St → Prop, q = (fun (T304 : St) => (((T.2.2.1 (l1 + 12) (l2 + v4 : Int32).toNatClampNeg) = 2 → (sh l0 = .inr 10) ∧ (sh (l0 + 3) = .inl (1, 5)) ∧ (vp_in 3 5) ∧ (fun (T5 : St) => ok_wa_lay_33 l0 l1 l2 l3 Kk f (v4 + 1) T5) (sL T304 (l0 + 3) (3 : Int32).toNatClampNeg ((T304.2.2.2 (l0 + 3) (3 : Int32).toNatClampNeg) ||| (x_x_span T (T.2.2.1 (l0 + 1) (v4 : Int32).toNatClampNeg) (T.2.2.1 (l0 + 2) (v4 : Int32).toNatClampNeg))))) ∧ (¬ (T.2.2.1 (l1 + 12) (l2 + v4 : Int32).toNatClampNeg) = 2 → ok_wa_lay_33 l0 l1 l2 l3 Kk f (v4 + 1) T304))) := ⟨_, rfl⟩
            rw [← hOJ4] at kk
            simp only [jn] at kk
            have hJ4 : ∀ (T304 : St), OJ4 T304 → tR X 1 mX10_lay 168 [some (.ref l0), some (.ref l1), some (.int l2), some (.int l3), some (.int v4), some (.long (x_x_span T (T.2.2.1 (l0 + 1) (v4 : Int32).toNatClampNeg) (T.2.2.1 (l0 + 2) (v4 : Int32).toNatClampNeg))), none, some (.int (T.2.2.1 (l1 + 9) (l2 + v4 : Int32).toNatClampNeg)), some (.int (T.2.2.1 (l1 + 12) (l2 + v4 : Int32).toNatClampNeg))] [] T304 none (KJ4 T304) := by
              intro T304 kk
              rw [hOJ4] at kk
              try dsimp only at kk
              rw [hKJ4]
              refine r_p dX10_lay_168 rfl rfl ?_
              refine r_ci (x := 2) dX10_lay_170 rfl ?_
              refine r_cne dX10_lay_171 rfl (fun c171_7 => ?_) (fun c171_7 => ?_)
              · have kk := kk.2 c171_7
                refine r_inc (y := 1) dX10_lay_185 rfl rfl rfl ?_
                refine r_go dX10_lay_188 rfl ?_
                show tR _ _ _ _ [some (.ref l0), some (.ref l1), some (.int l2), some (.int l3), some (.int (v4 + 1)), some (.long (x_x_span T (T.2.2.1 (l0 + 1) (v4 : Int32).toNatClampNeg) (T.2.2.1 (l0 + 2) (v4 : Int32).toNatClampNeg))), none, some (.int (T.2.2.1 (l1 + 9) (l2 + v4 : Int32).toNatClampNeg)), some (.int (T.2.2.1 (l1 + 12) (l2 + v4 : Int32).toNatClampNeg))] _ _ _ _
                exact r_eV (r' := x_wa_lay_33 l0 l1 l2 l3 K f (v4 + 1) T304) (by first | rw [if_neg c171_7] | (dsimp only; rw [if_neg c171_7])) (r_le (le_s (le_s (le_s (le_s (le_s (le_n (le_s (le_n (le_n (le_0)))))))))) (ih (v4 + 1) T304 kk))
              · have kk := kk.1 c171_7
                refine r_p dX10_lay_174 rfl rfl ?_
                obtain ⟨q31, kk⟩ := kk
                refine r_get dX10_lay_175 fkX10_18 q31 rfl ?_
                refine r_ci (x := 3) dX10_lay_178 rfl ?_
                refine r_p dX10_lay_179 rfl rfl ?_
                obtain ⟨q32, kk⟩ := kk
                obtain ⟨q33, kk⟩ := kk
                refine r_la dX10_lay_180 q32 q33 ?_
                refine r_p dX10_lay_181 rfl rfl ?_
                refine r_p dX10_lay_183 rfl rfl ?_
                refine r_las dX10_lay_184 q32 q33 ?_
                refine r_eV (r' := (fun (T5 : St) => x_wa_lay_33 l0 l1 l2 l3 K f (v4 + 1) T5) (sL T304 (l0 + 3) (3 : Int32).toNatClampNeg ((T304.2.2.2 (l0 + 3) (3 : Int32).toNatClampNeg) ||| (x_x_span T (T.2.2.1 (l0 + 1) (v4 : Int32).toNatClampNeg) (T.2.2.1 (l0 + 2) (v4 : Int32).toNatClampNeg))))) (by first | rw [if_pos c171_7] | (dsimp only; rw [if_pos c171_7])) ?_
                generalize sL T304 (l0 + 3) (3 : Int32).toNatClampNeg ((T304.2.2.2 (l0 + 3) (3 : Int32).toNatClampNeg) ||| (x_x_span T (T.2.2.1 (l0 + 1) (v4 : Int32).toNatClampNeg) (T.2.2.1 (l0 + 2) (v4 : Int32).toNatClampNeg))) = T5 at kk ⊢
                try dsimp only at kk
                refine r_inc (y := 1) dX10_lay_185 rfl rfl rfl ?_
                refine r_go dX10_lay_188 rfl ?_
                show tR _ _ _ _ [some (.ref l0), some (.ref l1), some (.int l2), some (.int l3), some (.int (v4 + 1)), some (.long (x_x_span T (T.2.2.1 (l0 + 1) (v4 : Int32).toNatClampNeg) (T.2.2.1 (l0 + 2) (v4 : Int32).toNatClampNeg))), none, some (.int (T.2.2.1 (l1 + 9) (l2 + v4 : Int32).toNatClampNeg)), some (.int (T.2.2.1 (l1 + 12) (l2 + v4 : Int32).toNatClampNeg))] _ _ _ _
                exact r_eV (r' := x_wa_lay_33 l0 l1 l2 l3 K f (v4 + 1) T5) rfl (r_le (le_s (le_s (le_s (le_s (le_s (le_n (le_s (le_n (le_n (le_0)))))))))) (ih (v4 + 1) T5 kk))
            refine r_eV (r' := jn (fun (KJ4 : St → St) => if (T.2.2.1 (l1 + 12) (l2 + v4 : Int32).toNatClampNeg) = 1 then (fun (T6 : St) => KJ4 T6) (sL T303 (l0 + 3) (3 : Int32).toNatClampNeg ((T303.2.2.2 (l0 + 3) (3 : Int32).toNatClampNeg) ||| (x_x_span T303 (T303.2.2.1 (l0 + 1) (v4 : Int32).toNatClampNeg) 1))) else (KJ4 T303)) KJ4) (by rw [hKJ4]) ?_
            refine r_cne dX10_lay_145 rfl (fun c145_8 => ?_) (fun c145_8 => ?_)
            · have kk := kk.2 c145_8
              show tR _ _ _ _ [some (.ref l0), some (.ref l1), some (.int l2), some (.int l3), some (.int v4), some (.long (x_x_span T (T.2.2.1 (l0 + 1) (v4 : Int32).toNatClampNeg) (T.2.2.1 (l0 + 2) (v4 : Int32).toNatClampNeg))), none, some (.int (T.2.2.1 (l1 + 9) (l2 + v4 : Int32).toNatClampNeg)), some (.int (T.2.2.1 (l1 + 12) (l2 + v4 : Int32).toNatClampNeg))] [] _ _ _
              exact r_eV (r' := KJ4 T303) (by simp only [jn]; rw [if_neg c145_8]) ((hJ4 T303 kk))
            · have kk := kk.1 c145_8
              refine r_p dX10_lay_148 rfl rfl ?_
              obtain ⟨q34, kk⟩ := kk
              refine r_get dX10_lay_149 fkX10_18 q34 rfl ?_
              refine r_ci (x := 3) dX10_lay_152 rfl ?_
              refine r_p dX10_lay_153 rfl rfl ?_
              obtain ⟨q35, kk⟩ := kk
              obtain ⟨q36, kk⟩ := kk
              refine r_la dX10_lay_154 q35 q36 ?_
              refine r_p dX10_lay_155 rfl rfl ?_
              refine r_get dX10_lay_156 fkX10_9 q34 rfl ?_
              refine r_p dX10_lay_159 rfl rfl ?_
              obtain ⟨q37, kk⟩ := kk
              obtain ⟨q38, kk⟩ := kk
              refine r_ia dX10_lay_161 q37 q38 ?_
              refine r_ci (x := 1) dX10_lay_162 rfl ?_
              refine r_cs (d1 := 1) dX10_lay_163 csX10_66 rfl rfl (Nat.le_of_ble_eq_true rfl) (Nat.le_of_ble_eq_true rfl) (Nat.le_of_ble_eq_true rfl) (c_x_span (T303.2.2.1 (l0 + 1) (v4 : Int32).toNatClampNeg) 1) ?_
              refine r_p dX10_lay_166 rfl rfl ?_
              refine r_las dX10_lay_167 q35 q36 ?_
              refine r_eV (r' := (fun (T6 : St) => KJ4 T6) (sL T303 (l0 + 3) (3 : Int32).toNatClampNeg ((T303.2.2.2 (l0 + 3) (3 : Int32).toNatClampNeg) ||| (x_x_span T303 (T303.2.2.1 (l0 + 1) (v4 : Int32).toNatClampNeg) 1)))) (by simp only [jn]; rw [if_pos c145_8]) ?_
              generalize sL T303 (l0 + 3) (3 : Int32).toNatClampNeg ((T303.2.2.2 (l0 + 3) (3 : Int32).toNatClampNeg) ||| (x_x_span T303 (T303.2.2.1 (l0 + 1) (v4 : Int32).toNatClampNeg) 1)) = T6 at kk ⊢
              try dsimp only at kk
              show tR _ _ _ _ [some (.ref l0), some (.ref l1), some (.int l2), some (.int l3), some (.int v4), some (.long (x_x_span T (T.2.2.1 (l0 + 1) (v4 : Int32).toNatClampNeg) (T.2.2.1 (l0 + 2) (v4 : Int32).toNatClampNeg))), none, some (.int (T.2.2.1 (l1 + 9) (l2 + v4 : Int32).toNatClampNeg)), some (.int (T.2.2.1 (l1 + 12) (l2 + v4 : Int32).toNatClampNeg))] [] _ _ _
              exact r_eV (r' := KJ4 T6) rfl ((hJ4 T6 kk))
          refine r_eV (r' := jn (fun (KJ3 : St → St) => if (T.2.2.1 (l1 + 9) (l2 + v4 : Int32).toNatClampNeg) = 1 then (fun (T7 : St) => KJ3 T7) (sL T302 (l0 + 3) (2 : Int32).toNatClampNeg ((T302.2.2.2 (l0 + 3) (2 : Int32).toNatClampNeg) ||| (x_x_span T (T.2.2.1 (l0 + 1) (v4 : Int32).toNatClampNeg) (T.2.2.1 (l0 + 2) (v4 : Int32).toNatClampNeg)))) else (KJ3 T302)) KJ3) (by rw [hKJ3]) ?_
          refine r_cne dX10_lay_128 rfl (fun c128_9 => ?_) (fun c128_9 => ?_)
          · have kk := kk.2 c128_9
            show tR _ _ _ _ [some (.ref l0), some (.ref l1), some (.int l2), some (.int l3), some (.int v4), some (.long (x_x_span T (T.2.2.1 (l0 + 1) (v4 : Int32).toNatClampNeg) (T.2.2.1 (l0 + 2) (v4 : Int32).toNatClampNeg))), none, some (.int (T.2.2.1 (l1 + 9) (l2 + v4 : Int32).toNatClampNeg)), some (.int (T.2.2.1 (l1 + 12) (l2 + v4 : Int32).toNatClampNeg))] [] _ _ _
            exact r_eV (r' := KJ3 T302) (by simp only [jn]; rw [if_neg c128_9]) ((hJ3 T302 kk))
          · have kk := kk.1 c128_9
            refine r_p dX10_lay_131 rfl rfl ?_
            obtain ⟨q39, kk⟩ := kk
            refine r_get dX10_lay_132 fkX10_18 q39 rfl ?_
            refine r_ci (x := 2) dX10_lay_135 rfl ?_
            refine r_p dX10_lay_136 rfl rfl ?_
            obtain ⟨q40, kk⟩ := kk
            obtain ⟨q41, kk⟩ := kk
            refine r_la dX10_lay_137 q40 q41 ?_
            refine r_p dX10_lay_138 rfl rfl ?_
            refine r_p dX10_lay_140 rfl rfl ?_
            refine r_las dX10_lay_141 q40 q41 ?_
            refine r_eV (r' := (fun (T7 : St) => KJ3 T7) (sL T302 (l0 + 3) (2 : Int32).toNatClampNeg ((T302.2.2.2 (l0 + 3) (2 : Int32).toNatClampNeg) ||| (x_x_span T (T.2.2.1 (l0 + 1) (v4 : Int32).toNatClampNeg) (T.2.2.1 (l0 + 2) (v4 : Int32).toNatClampNeg))))) (by simp only [jn]; rw [if_pos c128_9]) ?_
            generalize sL T302 (l0 + 3) (2 : Int32).toNatClampNeg ((T302.2.2.2 (l0 + 3) (2 : Int32).toNatClampNeg) ||| (x_x_span T (T.2.2.1 (l0 + 1) (v4 : Int32).toNatClampNeg) (T.2.2.1 (l0 + 2) (v4 : Int32).toNatClampNeg))) = T7 at kk ⊢
            try dsimp only at kk
            show tR _ _ _ _ [some (.ref l0), some (.ref l1), some (.int l2), some (.int l3), some (.int v4), some (.long (x_x_span T (T.2.2.1 (l0 + 1) (v4 : Int32).toNatClampNeg) (T.2.2.1 (l0 + 2) (v4 : Int32).toNatClampNeg))), none, some (.int (T.2.2.1 (l1 + 9) (l2 + v4 : Int32).toNatClampNeg)), some (.int (T.2.2.1 (l1 + 12) (l2 + v4 : Int32).toNatClampNeg))] [] _ _ _
            exact r_eV (r' := KJ3 T7) rfl ((hJ3 T7 kk))
        refine r_eV (r' := jn (fun (KJ2 : St → St) => if (T.2.2.1 (l1 + 9) (l2 + v4 : Int32).toNatClampNeg) = 0 then (if (T301.2.2.1 (l1 + 13) (l2 + v4 : Int32).toNatClampNeg) = 1 then (fun (T8 : St) => KJ2 T8) (sL T301 (l0 + 3) (1 : Int32).toNatClampNeg ((T301.2.2.2 (l0 + 3) (1 : Int32).toNatClampNeg) ||| (x_x_span T (T.2.2.1 (l0 + 1) (v4 : Int32).toNatClampNeg) (T.2.2.1 (l0 + 2) (v4 : Int32).toNatClampNeg)))) else (KJ2 T301)) else (KJ2 T301)) KJ2) (by rw [hKJ2]) ?_
        refine r_ine dX10_lay_98 rfl (fun c98_10 => ?_) (fun c98_10 => ?_)
        · have kk := kk.2 c98_10
          show tR _ _ _ _ [some (.ref l0), some (.ref l1), some (.int l2), some (.int l3), some (.int v4), some (.long (x_x_span T (T.2.2.1 (l0 + 1) (v4 : Int32).toNatClampNeg) (T.2.2.1 (l0 + 2) (v4 : Int32).toNatClampNeg))), none, some (.int (T.2.2.1 (l1 + 9) (l2 + v4 : Int32).toNatClampNeg)), some (.int (T.2.2.1 (l1 + 12) (l2 + v4 : Int32).toNatClampNeg))] [] _ _ _
          exact r_eV (r' := KJ2 T301) (by simp only [jn]; rw [if_neg c98_10]) ((hJ2 T301 kk))
        · have kk := kk.1 c98_10
          refine r_p dX10_lay_101 rfl rfl ?_
          obtain ⟨q42, kk⟩ := kk
          refine r_get dX10_lay_102 fkX10_41 q42 rfl ?_
          refine r_p dX10_lay_105 rfl rfl ?_
          refine r_p dX10_lay_106 rfl rfl ?_
          refine r_p dX10_lay_108 rfl rfl ?_
          obtain ⟨q43, kk⟩ := kk
          obtain ⟨q44, kk⟩ := kk
          refine r_ia dX10_lay_109 q43 q44 ?_
          refine r_ci (x := 1) dX10_lay_110 rfl ?_
          refine r_cne dX10_lay_111 rfl (fun c111_11 => ?_) (fun c111_11 => ?_)
          · have kk := kk.2 c111_11
            show tR _ _ _ _ [some (.ref l0), some (.ref l1), some (.int l2), some (.int l3), some (.int v4), some (.long (x_x_span T (T.2.2.1 (l0 + 1) (v4 : Int32).toNatClampNeg) (T.2.2.1 (l0 + 2) (v4 : Int32).toNatClampNeg))), none, some (.int (T.2.2.1 (l1 + 9) (l2 + v4 : Int32).toNatClampNeg)), some (.int (T.2.2.1 (l1 + 12) (l2 + v4 : Int32).toNatClampNeg))] [] _ _ _
            exact r_eV (r' := KJ2 T301) (by simp only [jn]; rw [if_pos c98_10, if_neg c111_11]) ((hJ2 T301 kk))
          · have kk := kk.1 c111_11
            refine r_p dX10_lay_114 rfl rfl ?_
            obtain ⟨q45, kk⟩ := kk
            refine r_get dX10_lay_115 fkX10_18 q45 rfl ?_
            refine r_ci (x := 1) dX10_lay_118 rfl ?_
            refine r_p dX10_lay_119 rfl rfl ?_
            obtain ⟨q46, kk⟩ := kk
            obtain ⟨q47, kk⟩ := kk
            refine r_la dX10_lay_120 q46 q47 ?_
            refine r_p dX10_lay_121 rfl rfl ?_
            refine r_p dX10_lay_123 rfl rfl ?_
            refine r_las dX10_lay_124 q46 q47 ?_
            refine r_eV (r' := (fun (T8 : St) => KJ2 T8) (sL T301 (l0 + 3) (1 : Int32).toNatClampNeg ((T301.2.2.2 (l0 + 3) (1 : Int32).toNatClampNeg) ||| (x_x_span T (T.2.2.1 (l0 + 1) (v4 : Int32).toNatClampNeg) (T.2.2.1 (l0 + 2) (v4 : Int32).toNatClampNeg))))) (by simp only [jn]; rw [if_pos c98_10, if_pos c111_11]) ?_
            generalize sL T301 (l0 + 3) (1 : Int32).toNatClampNeg ((T301.2.2.2 (l0 + 3) (1 : Int32).toNatClampNeg) ||| (x_x_span T (T.2.2.1 (l0 + 1) (v4 : Int32).toNatClampNeg) (T.2.2.1 (l0 + 2) (v4 : Int32).toNatClampNeg))) = T8 at kk ⊢
            try dsimp only at kk
            show tR _ _ _ _ [some (.ref l0), some (.ref l1), some (.int l2), some (.int l3), some (.int v4), some (.long (x_x_span T (T.2.2.1 (l0 + 1) (v4 : Int32).toNatClampNeg) (T.2.2.1 (l0 + 2) (v4 : Int32).toNatClampNeg))), none, some (.int (T.2.2.1 (l1 + 9) (l2 + v4 : Int32).toNatClampNeg)), some (.int (T.2.2.1 (l1 + 12) (l2 + v4 : Int32).toNatClampNeg))] [] _ _ _
            exact r_eV (r' := KJ2 T8) rfl ((hJ2 T8 kk))
      refine r_eV (r' := jn (fun (KJ1 : St → St) => if (T.2.2.1 (l1 + 9) (l2 + v4 : Int32).toNatClampNeg) = 0 then (fun (T9 : St) => KJ1 T9) (sL T (l0 + 3) (0 : Int32).toNatClampNeg ((T.2.2.2 (l0 + 3) (0 : Int32).toNatClampNeg) ||| (x_x_span T (T.2.2.1 (l0 + 1) (v4 : Int32).toNatClampNeg) (T.2.2.1 (l0 + 2) (v4 : Int32).toNatClampNeg)))) else (KJ1 T)) KJ1) (by rw [hKJ1]; rw [x_wa_lay_33]; rw [if_neg c36_1]) ?_
      refine r_ine dX10_lay_82 rfl (fun c82_12 => ?_) (fun c82_12 => ?_)
      · have kk := kk.2 c82_12
        show tR _ _ _ _ [some (.ref l0), some (.ref l1), some (.int l2), some (.int l3), some (.int v4), some (.long (x_x_span T (T.2.2.1 (l0 + 1) (v4 : Int32).toNatClampNeg) (T.2.2.1 (l0 + 2) (v4 : Int32).toNatClampNeg))), none, some (.int (T.2.2.1 (l1 + 9) (l2 + v4 : Int32).toNatClampNeg)), some (.int (T.2.2.1 (l1 + 12) (l2 + v4 : Int32).toNatClampNeg))] [] _ _ _
        exact r_eV (r' := KJ1 T) (by simp only [jn]; rw [if_neg c82_12]) ((hJ1 T kk))
      · have kk := kk.1 c82_12
        refine r_p dX10_lay_85 rfl rfl ?_
        refine r_get dX10_lay_86 fkX10_18 q7 rfl ?_
        refine r_ci (x := 0) dX10_lay_89 rfl ?_
        refine r_p dX10_lay_90 rfl rfl ?_
        obtain ⟨q48, kk⟩ := kk
        obtain ⟨q49, kk⟩ := kk
        refine r_la dX10_lay_91 q48 q49 ?_
        refine r_p dX10_lay_92 rfl rfl ?_
        refine r_p dX10_lay_94 rfl rfl ?_
        refine r_las dX10_lay_95 q48 q49 ?_
        refine r_eV (r' := (fun (T9 : St) => KJ1 T9) (sL T (l0 + 3) (0 : Int32).toNatClampNeg ((T.2.2.2 (l0 + 3) (0 : Int32).toNatClampNeg) ||| (x_x_span T (T.2.2.1 (l0 + 1) (v4 : Int32).toNatClampNeg) (T.2.2.1 (l0 + 2) (v4 : Int32).toNatClampNeg))))) (by simp only [jn]; rw [if_pos c82_12]) ?_
        generalize sL T (l0 + 3) (0 : Int32).toNatClampNeg ((T.2.2.2 (l0 + 3) (0 : Int32).toNatClampNeg) ||| (x_x_span T (T.2.2.1 (l0 + 1) (v4 : Int32).toNatClampNeg) (T.2.2.1 (l0 + 2) (v4 : Int32).toNatClampNeg))) = T9 at kk ⊢
        try dsimp only at kk
        show tR _ _ _ _ [some (.ref l0), some (.ref l1), some (.int l2), some (.int l3), some (.int v4), some (.long (x_x_span T (T.2.2.1 (l0 + 1) (v4 : Int32).toNatClampNeg) (T.2.2.1 (l0 + 2) (v4 : Int32).toNatClampNeg))), none, some (.int (T.2.2.1 (l1 + 9) (l2 + v4 : Int32).toNatClampNeg)), some (.int (T.2.2.1 (l1 + 12) (l2 + v4 : Int32).toNatClampNeg))] [] _ _ _
        exact r_eV (r' := KJ1 T9) rfl ((hJ1 T9 kk))
def x_wa_lay (T : St) (a : Nat) (p0 : Nat) : St := x_wa_lay_33 a p0 ((x_fillJ T (a + 3) 0).2.2.1 (p0 + 8) ((x_fillJ T (a + 3) 0).1 a 3 : Int32).toNatClampNeg) (((x_fillJ T (a + 3) 0).2.2.1 (p0 + 7) ((x_fillJ T (a + 3) 0).1 a 3 : Int32).toNatClampNeg) - 1) (fun (w1_4 : Int32) (T201 : St) => if (T201.2.2.1 (p0 + 6) (T201.1 a 3 : Int32).toNatClampNeg) = 1 then (sL T201 (a + 3) (4 : Int32).toNatClampNeg (x_x_span T201 (T201.2.2.1 (a + 1) (0 : Int32).toNatClampNeg) (((T201.2.2.1 (a + 1) (((x_fillJ T (a + 3) 0).2.2.1 (p0 + 7) ((x_fillJ T (a + 3) 0).1 a 3 : Int32).toNatClampNeg) - 1 : Int32).toNatClampNeg) + (T201.2.2.1 (a + 2) (((x_fillJ T (a + 3) 0).2.2.1 (p0 + 7) ((x_fillJ T (a + 3) 0).1 a 3 : Int32).toNatClampNeg) - 1 : Int32).toNatClampNeg)) - (T201.2.2.1 (a + 1) (0 : Int32).toNatClampNeg)))) else (T201)) 1000 0 (x_fillJ T (a + 3) 0)
def ok_wa_lay (T : St) (a : Nat) (p0 : Nat) : Prop := (sh a = .inr 10) ∧ (ok_fillJ T (a + 3) 0) ∧ (sh p0 = .inr 1) ∧ (sh (p0 + 8) = .inl (0, 8)) ∧ (vp_in ((x_fillJ T (a + 3) 0).1 a 3) 8) ∧ (sh (p0 + 7) = .inl (0, 8)) ∧ ok_wa_lay_33 a p0 ((x_fillJ T (a + 3) 0).2.2.1 (p0 + 8) ((x_fillJ T (a + 3) 0).1 a 3 : Int32).toNatClampNeg) (((x_fillJ T (a + 3) 0).2.2.1 (p0 + 7) ((x_fillJ T (a + 3) 0).1 a 3 : Int32).toNatClampNeg) - 1) (fun (w1_4 : Int32) (T201 : St) => (sh p0 = .inr 1) ∧ (sh a = .inr 10) ∧ (sh (p0 + 6) = .inl (0, 8)) ∧ (vp_in (T201.1 a 3) 8) ∧ ((T201.2.2.1 (p0 + 6) (T201.1 a 3 : Int32).toNatClampNeg) = 1 → (sh (a + 1) = .inl (0, 3)) ∧ (vp_in 0 3) ∧ (vp_in (((x_fillJ T (a + 3) 0).2.2.1 (p0 + 7) ((x_fillJ T (a + 3) 0).1 a 3 : Int32).toNatClampNeg) - 1) 3) ∧ (sh (a + 2) = .inl (0, 3)) ∧ (sh (a + 3) = .inl (1, 5)) ∧ (vp_in 4 5) ∧ True)) 1000 0 (x_fillJ T (a + 3) 0)
theorem c_wa_lay {X : Nat × (Nat → Int32)} {T : St} (a : Nat) (p0 : Nat) (kk : ok_wa_lay T a p0) : tC X 2 mX10_lay [.ref a, .ref p0] T none (x_wa_lay T a p0) := by
  unfold ok_wa_lay at kk
  refine tC_of ?_
  refine r_p dX10_lay_0 rfl rfl ?_
  obtain ⟨q1, kk⟩ := kk
  refine r_get dX10_lay_1 fkX10_18 q1 rfl ?_
  refine r_cl (x := 0) dX10_lay_4 rfl ?_
  obtain ⟨q2, kk⟩ := kk
  refine r_cs (d1 := 1) dX10_lay_5 csX10_60 rfl rfl (Nat.le_of_ble_eq_true rfl) (Nat.le_of_ble_eq_true rfl) (Nat.le_of_ble_eq_true rfl) (c_fillJ (a + 3) 0 q2) ?_
  refine r_p dX10_lay_8 rfl rfl ?_
  obtain ⟨q3, kk⟩ := kk
  refine r_get dX10_lay_9 fkX10_26 q3 rfl ?_
  refine r_p dX10_lay_12 rfl rfl ?_
  refine r_get dX10_lay_13 fkX10_22 q1 rfl ?_
  obtain ⟨q4, kk⟩ := kk
  obtain ⟨q5, kk⟩ := kk
  refine r_ia dX10_lay_16 q4 q5 ?_
  refine r_p dX10_lay_17 rfl rfl ?_
  refine r_p dX10_lay_18 rfl rfl ?_
  refine r_get dX10_lay_19 fkX10_34 q3 rfl ?_
  refine r_p dX10_lay_22 rfl rfl ?_
  refine r_get dX10_lay_23 fkX10_22 q1 rfl ?_
  obtain ⟨q6, kk⟩ := kk
  refine r_ia dX10_lay_26 q6 q5 ?_
  refine r_ci (x := 1) dX10_lay_27 rfl ?_
  refine r_p dX10_lay_28 rfl rfl ?_
  refine r_p dX10_lay_29 rfl rfl ?_
  refine r_ci (x := 0) dX10_lay_30 rfl ?_
  refine r_p dX10_lay_31 rfl rfl ?_
  show tR _ _ _ _ [some (.ref a), some (.ref p0), some (.int ((x_fillJ T (a + 3) 0).2.2.1 (p0 + 8) ((x_fillJ T (a + 3) 0).1 a 3 : Int32).toNatClampNeg)), some (.int (((x_fillJ T (a + 3) 0).2.2.1 (p0 + 7) ((x_fillJ T (a + 3) 0).1 a 3 : Int32).toNatClampNeg) - 1)), some (.int 0), none, none, none, none] _ _ _ _
  refine r_eV (r' := x_wa_lay_33 a p0 ((x_fillJ T (a + 3) 0).2.2.1 (p0 + 8) ((x_fillJ T (a + 3) 0).1 a 3 : Int32).toNatClampNeg) (((x_fillJ T (a + 3) 0).2.2.1 (p0 + 7) ((x_fillJ T (a + 3) 0).1 a 3 : Int32).toNatClampNeg) - 1) (fun (w1_4 : Int32) (T201 : St) => if (T201.2.2.1 (p0 + 6) (T201.1 a 3 : Int32).toNatClampNeg) = 1 then (sL T201 (a + 3) (4 : Int32).toNatClampNeg (x_x_span T201 (T201.2.2.1 (a + 1) (0 : Int32).toNatClampNeg) (((T201.2.2.1 (a + 1) (((x_fillJ T (a + 3) 0).2.2.1 (p0 + 7) ((x_fillJ T (a + 3) 0).1 a 3 : Int32).toNatClampNeg) - 1 : Int32).toNatClampNeg) + (T201.2.2.1 (a + 2) (((x_fillJ T (a + 3) 0).2.2.1 (p0 + 7) ((x_fillJ T (a + 3) 0).1 a 3 : Int32).toNatClampNeg) - 1 : Int32).toNatClampNeg)) - (T201.2.2.1 (a + 1) (0 : Int32).toNatClampNeg)))) else (T201)) 1000 0 (x_fillJ T (a + 3) 0)) (by unfold x_wa_lay; rfl) ((c_wa_lay_33 a p0 ((x_fillJ T (a + 3) 0).2.2.1 (p0 + 8) ((x_fillJ T (a + 3) 0).1 a 3 : Int32).toNatClampNeg) (((x_fillJ T (a + 3) 0).2.2.1 (p0 + 7) ((x_fillJ T (a + 3) 0).1 a 3 : Int32).toNatClampNeg) - 1) (fun w1_4 T201 kk => ?_) 1000 0 (x_fillJ T (a + 3) 0) kk))
  · try dsimp only at kk
    refine r_p dX10_lay_191 rfl rfl ?_
    obtain ⟨q50, kk⟩ := kk
    refine r_get dX10_lay_192 fkX10_73 q50 rfl ?_
    refine r_p dX10_lay_195 rfl rfl ?_
    obtain ⟨q51, kk⟩ := kk
    refine r_get dX10_lay_196 fkX10_22 q51 rfl ?_
    obtain ⟨q52, kk⟩ := kk
    obtain ⟨q53, kk⟩ := kk
    refine r_ia dX10_lay_199 q52 q53 ?_
    refine r_ci (x := 1) dX10_lay_200 rfl ?_
    refine r_cne dX10_lay_201 rfl (fun c201_13 => ?_) (fun c201_13 => ?_)
    · exact r_eV (r' := T201) (by first | rw [if_neg c201_13] | (dsimp only; rw [if_neg c201_13])) (r_rv dX10_lay_239 rfl rfl rfl)
    · have kk := kk c201_13
      refine r_p dX10_lay_204 rfl rfl ?_
      refine r_get dX10_lay_205 fkX10_18 q51 rfl ?_
      refine r_ci (x := 4) dX10_lay_208 rfl ?_
      refine r_p dX10_lay_209 rfl rfl ?_
      refine r_get dX10_lay_210 fkX10_9 q51 rfl ?_
      refine r_ci (x := 0) dX10_lay_213 rfl ?_
      obtain ⟨q54, kk⟩ := kk
      obtain ⟨q55, kk⟩ := kk
      refine r_ia dX10_lay_214 q54 q55 ?_
      refine r_p dX10_lay_215 rfl rfl ?_
      refine r_get dX10_lay_216 fkX10_9 q51 rfl ?_
      refine r_p dX10_lay_219 rfl rfl ?_
      obtain ⟨q56, kk⟩ := kk
      refine r_ia dX10_lay_220 q54 q56 ?_
      refine r_p dX10_lay_221 rfl rfl ?_
      refine r_get dX10_lay_222 fkX10_15 q51 rfl ?_
      refine r_p dX10_lay_225 rfl rfl ?_
      obtain ⟨q57, kk⟩ := kk
      refine r_ia dX10_lay_226 q57 q56 ?_
      refine r_p dX10_lay_227 rfl rfl ?_
      refine r_p dX10_lay_228 rfl rfl ?_
      refine r_get dX10_lay_229 fkX10_9 q51 rfl ?_
      refine r_ci (x := 0) dX10_lay_232 rfl ?_
      refine r_ia dX10_lay_233 q54 q55 ?_
      refine r_p dX10_lay_234 rfl rfl ?_
      refine r_cs (d1 := 1) dX10_lay_235 csX10_66 rfl rfl (Nat.le_of_ble_eq_true rfl) (Nat.le_of_ble_eq_true rfl) (Nat.le_of_ble_eq_true rfl) (c_x_span (T201.2.2.1 (a + 1) (0 : Int32).toNatClampNeg) (((T201.2.2.1 (a + 1) (((x_fillJ T (a + 3) 0).2.2.1 (p0 + 7) ((x_fillJ T (a + 3) 0).1 a 3 : Int32).toNatClampNeg) - 1 : Int32).toNatClampNeg) + (T201.2.2.1 (a + 2) (((x_fillJ T (a + 3) 0).2.2.1 (p0 + 7) ((x_fillJ T (a + 3) 0).1 a 3 : Int32).toNatClampNeg) - 1 : Int32).toNatClampNeg)) - (T201.2.2.1 (a + 1) (0 : Int32).toNatClampNeg))) ?_
      obtain ⟨q58, kk⟩ := kk
      obtain ⟨q59, kk⟩ := kk
      refine r_las dX10_lay_238 q58 q59 ?_
      exact r_eV (r' := (sL T201 (a + 3) (4 : Int32).toNatClampNeg (x_x_span T201 (T201.2.2.1 (a + 1) (0 : Int32).toNatClampNeg) (((T201.2.2.1 (a + 1) (((x_fillJ T (a + 3) 0).2.2.1 (p0 + 7) ((x_fillJ T (a + 3) 0).1 a 3 : Int32).toNatClampNeg) - 1 : Int32).toNatClampNeg) + (T201.2.2.1 (a + 2) (((x_fillJ T (a + 3) 0).2.2.1 (p0 + 7) ((x_fillJ T (a + 3) 0).1 a 3 : Int32).toNatClampNeg) - 1 : Int32).toNatClampNeg)) - (T201.2.2.1 (a + 1) (0 : Int32).toNatClampNeg))))) (by first | rw [if_pos c201_13] | (dsimp only; rw [if_pos c201_13])) (r_rv dX10_lay_239 rfl rfl rfl)
def x_x_sheet (T : St) (p0 : Int32) (p1 : Int32) (p2 : Int32) : Int32 × St := if (x_sh_isOne T p0) = 0 then ((-1000001), T) else (if p1 < 0 then ((-1000001), T) else (if 3 ≤ p1 then ((-1000001), T) else (if p2 ≤ 40 then (if 0 ≤ p2 then ((x_x_fine (x_sh_lay T p0 p1 p2) p2).1, (x_x_fine (x_sh_lay T p0 p1 p2) p2).2) else ((x_x_found T 4).1, (x_x_found T 4).2)) else ((-1000001), T))))
def ok_x_sheet (T : St) (p0 : Int32) (p1 : Int32) (p2 : Int32) : Prop := (¬ (x_sh_isOne T p0) = 0 → (¬ p1 < 0 → (¬ 3 ≤ p1 → (p2 ≤ 40 → (0 ≤ p2 → (ok_sh_lay T p0 p1 p2) ∧ True)))))
theorem c_x_sheet {X : Nat × (Nat → Int32)} {T : St} (p0 : Int32) (p1 : Int32) (p2 : Int32) (kk : ok_x_sheet T p0 p1 p2) : tC X 3 mX11_sheet [.ref 0, .int p0, .int p1, .int p2] T (some (.int (x_x_sheet T p0 p1 p2).1)) ((x_x_sheet T p0 p1 p2).2) := by
  unfold ok_x_sheet at kk
  refine tC_of ?_
  refine r_p dX11_sheet_0 rfl rfl ?_
  refine r_get dX11_sheet_1 fkX11_10 rfl rfl ?_
  refine r_p dX11_sheet_4 rfl rfl ?_
  refine r_cv (d1 := 1) dX11_sheet_5 cvX11_78 rfl rfl rfl rfl (Nat.le_of_ble_eq_true rfl) (Nat.le_of_ble_eq_true rfl) (Nat.le_of_ble_eq_true rfl) (c_sh_isOne p0) ?_
  refine r_ieq dX11_sheet_8 rfl (fun c8_1 => ?_) (fun c8_1 => ?_)
  · refine r_k dX11_sheet_26 kkX11_82 ?_
    exact r_eI (r' := ((-1000001), T)) (by unfold x_x_sheet; rw [if_pos c8_1]) (r_ri dX11_sheet_28 rfl rfl rfl rfl)
  · have kk := kk c8_1
    refine r_p dX11_sheet_11 rfl rfl ?_
    refine r_ilt dX11_sheet_12 rfl (fun c12_2 => ?_) (fun c12_2 => ?_)
    · refine r_k dX11_sheet_26 kkX11_82 ?_
      exact r_eI (r' := ((-1000001), T)) (by unfold x_x_sheet; rw [if_neg c8_1, if_pos c12_2]) (r_ri dX11_sheet_28 rfl rfl rfl rfl)
    · have kk := kk c12_2
      refine r_p dX11_sheet_15 rfl rfl ?_
      refine r_ci (x := 3) dX11_sheet_16 rfl ?_
      refine r_cge dX11_sheet_17 rfl (fun c17_3 => ?_) (fun c17_3 => ?_)
      · refine r_k dX11_sheet_26 kkX11_82 ?_
        exact r_eI (r' := ((-1000001), T)) (by unfold x_x_sheet; rw [if_neg c8_1, if_neg c12_2, if_pos c17_3]) (r_ri dX11_sheet_28 rfl rfl rfl rfl)
      · have kk := kk c17_3
        refine r_p dX11_sheet_20 rfl rfl ?_
        refine r_cb (x := 40) dX11_sheet_21 rfl ?_
        refine r_cle dX11_sheet_23 rfl (fun c23_4 => ?_) (fun c23_4 => ?_)
        · have kk := kk c23_4
          refine r_p dX11_sheet_29 rfl rfl ?_
          refine r_ige dX11_sheet_30 rfl (fun c30_5 => ?_) (fun c30_5 => ?_)
          · have kk := kk c30_5
            refine r_p dX11_sheet_39 rfl rfl ?_
            refine r_get dX11_sheet_40 fkX11_10 rfl rfl ?_
            refine r_p dX11_sheet_43 rfl rfl ?_
            refine r_p dX11_sheet_44 rfl rfl ?_
            refine r_p dX11_sheet_45 rfl rfl ?_
            obtain ⟨q1, kk⟩ := kk
            refine r_cv (d1 := 2) dX11_sheet_46 cvX11_87 rfl rfl rfl rfl (Nat.le_of_ble_eq_true rfl) (Nat.le_of_ble_eq_true rfl) (Nat.le_of_ble_eq_true rfl) (c_sh_lay p0 p1 p2 q1) ?_
            refine r_p dX11_sheet_49 rfl rfl ?_
            refine r_p dX11_sheet_50 rfl rfl ?_
            refine r_cv (d1 := 1) dX11_sheet_51 cvX11_91 rfl rfl rfl rfl (Nat.le_of_ble_eq_true rfl) (Nat.le_of_ble_eq_true rfl) (Nat.le_of_ble_eq_true rfl) (c_x_fine p2) ?_
            exact r_eI (r' := ((x_x_fine (x_sh_lay T p0 p1 p2) p2).1, (x_x_fine (x_sh_lay T p0 p1 p2) p2).2)) (by unfold x_x_sheet; rw [if_neg c8_1, if_neg c12_2, if_neg c17_3, if_pos c23_4, if_pos c30_5]) (r_ri dX11_sheet_54 rfl rfl rfl rfl)
          · refine r_p dX11_sheet_33 rfl rfl ?_
            refine r_ci (x := 4) dX11_sheet_34 rfl ?_
            refine r_cv (d1 := 1) dX11_sheet_35 cvX11_83 rfl rfl rfl rfl (Nat.le_of_ble_eq_true rfl) (Nat.le_of_ble_eq_true rfl) (Nat.le_of_ble_eq_true rfl) (c_x_found 4) ?_
            exact r_eI (r' := ((x_x_found T 4).1, (x_x_found T 4).2)) (by unfold x_x_sheet; rw [if_neg c8_1, if_neg c12_2, if_neg c17_3, if_pos c23_4, if_neg c30_5]) (r_ri dX11_sheet_38 rfl rfl rfl rfl)
        · refine r_k dX11_sheet_26 kkX11_82 ?_
          exact r_eI (r' := ((-1000001), T)) (by unfold x_x_sheet; rw [if_neg c8_1, if_neg c12_2, if_neg c17_3, if_neg c23_4]) (r_ri dX11_sheet_28 rfl rfl rfl rfl)
def x_x_set (T : St) (p0 : Int32) (p1 : Int32) (p2 : Int32) : Int32 × St := if (x_sh_isOne T p0) = 0 then ((-1000001), T) else (if (x_sh_isMissing T p0) = 0 then (if (x_sh_reaches T p0 p1 1) = 0 then ((x_x_found T 2).1, (x_x_found T 2).2) else ((x_x_fine ((x_sh_write T p0 p1 p2).2) ((x_sh_write T p0 p1 p2).1)).1, (x_x_fine ((x_sh_write T p0 p1 p2).2) ((x_sh_write T p0 p1 p2).1)).2)) else ((x_x_found T 1).1, (x_x_found T 1).2))
def ok_x_set (T : St) (p0 : Int32) (p1 : Int32) (p2 : Int32) : Prop := (¬ (x_sh_isOne T p0) = 0 → (ok_sh_isMissing T p0) ∧ ((x_sh_isMissing T p0) = 0 → (ok_sh_reaches T p0 p1 1) ∧ (¬ (x_sh_reaches T p0 p1 1) = 0 → (ok_sh_write T p0 p1 p2) ∧ True)))
theorem c_x_set {X : Nat × (Nat → Int32)} {T : St} (p0 : Int32) (p1 : Int32) (p2 : Int32) (kk : ok_x_set T p0 p1 p2) : tC X 2 mX11_set [.ref 0, .int p0, .int p1, .int p2] T (some (.int (x_x_set T p0 p1 p2).1)) ((x_x_set T p0 p1 p2).2) := by
  unfold ok_x_set at kk
  refine tC_of ?_
  refine r_p dX11_set_0 rfl rfl ?_
  refine r_get dX11_set_1 fkX11_10 rfl rfl ?_
  refine r_p dX11_set_4 rfl rfl ?_
  refine r_cv (d1 := 1) dX11_set_5 cvX11_78 rfl rfl rfl rfl (Nat.le_of_ble_eq_true rfl) (Nat.le_of_ble_eq_true rfl) (Nat.le_of_ble_eq_true rfl) (c_sh_isOne p0) ?_
  refine r_ine dX11_set_8 rfl (fun c8_1 => ?_) (fun c8_1 => ?_)
  · have kk := kk c8_1
    refine r_p dX11_set_14 rfl rfl ?_
    refine r_get dX11_set_15 fkX11_10 rfl rfl ?_
    refine r_p dX11_set_18 rfl rfl ?_
    obtain ⟨q1, kk⟩ := kk
    refine r_cv (d1 := 1) dX11_set_19 cvX11_94 rfl rfl rfl rfl (Nat.le_of_ble_eq_true rfl) (Nat.le_of_ble_eq_true rfl) (Nat.le_of_ble_eq_true rfl) (c_sh_isMissing p0 q1) ?_
    refine r_ieq dX11_set_22 rfl (fun c22_2 => ?_) (fun c22_2 => ?_)
    · have kk := kk c22_2
      refine r_p dX11_set_31 rfl rfl ?_
      refine r_get dX11_set_32 fkX11_10 rfl rfl ?_
      refine r_p dX11_set_35 rfl rfl ?_
      refine r_p dX11_set_36 rfl rfl ?_
      refine r_ci (x := 1) dX11_set_37 rfl ?_
      obtain ⟨q2, kk⟩ := kk
      refine r_cv (d1 := 1) dX11_set_38 cvX11_97 rfl rfl rfl rfl (Nat.le_of_ble_eq_true rfl) (Nat.le_of_ble_eq_true rfl) (Nat.le_of_ble_eq_true rfl) (c_sh_reaches p0 p1 1 q2) ?_
      refine r_ine dX11_set_41 rfl (fun c41_3 => ?_) (fun c41_3 => ?_)
      · have kk := kk c41_3
        refine r_p dX11_set_50 rfl rfl ?_
        refine r_p dX11_set_51 rfl rfl ?_
        refine r_get dX11_set_52 fkX11_10 rfl rfl ?_
        refine r_p dX11_set_55 rfl rfl ?_
        refine r_p dX11_set_56 rfl rfl ?_
        refine r_p dX11_set_57 rfl rfl ?_
        obtain ⟨q3, kk⟩ := kk
        refine r_cv (d1 := 1) dX11_set_58 cvX11_101 rfl rfl rfl rfl (Nat.le_of_ble_eq_true rfl) (Nat.le_of_ble_eq_true rfl) (Nat.le_of_ble_eq_true rfl) (c_sh_write p0 p1 p2 q3) ?_
        refine r_cv (d1 := 1) dX11_set_61 cvX11_91 rfl rfl rfl rfl (Nat.le_of_ble_eq_true rfl) (Nat.le_of_ble_eq_true rfl) (Nat.le_of_ble_eq_true rfl) (c_x_fine ((x_sh_write T p0 p1 p2).1)) ?_
        exact r_eI (r' := ((x_x_fine ((x_sh_write T p0 p1 p2).2) ((x_sh_write T p0 p1 p2).1)).1, (x_x_fine ((x_sh_write T p0 p1 p2).2) ((x_sh_write T p0 p1 p2).1)).2)) (by unfold x_x_set; rw [if_neg c8_1, if_pos c22_2, if_neg c41_3]) (r_ri dX11_set_64 rfl rfl rfl rfl)
      · refine r_p dX11_set_44 rfl rfl ?_
        refine r_ci (x := 2) dX11_set_45 rfl ?_
        refine r_cv (d1 := 1) dX11_set_46 cvX11_83 rfl rfl rfl rfl (Nat.le_of_ble_eq_true rfl) (Nat.le_of_ble_eq_true rfl) (Nat.le_of_ble_eq_true rfl) (c_x_found 2) ?_
        exact r_eI (r' := ((x_x_found T 2).1, (x_x_found T 2).2)) (by unfold x_x_set; rw [if_neg c8_1, if_pos c22_2, if_pos c41_3]) (r_ri dX11_set_49 rfl rfl rfl rfl)
    · refine r_p dX11_set_25 rfl rfl ?_
      refine r_ci (x := 1) dX11_set_26 rfl ?_
      refine r_cv (d1 := 1) dX11_set_27 cvX11_83 rfl rfl rfl rfl (Nat.le_of_ble_eq_true rfl) (Nat.le_of_ble_eq_true rfl) (Nat.le_of_ble_eq_true rfl) (c_x_found 1) ?_
      exact r_eI (r' := ((x_x_found T 1).1, (x_x_found T 1).2)) (by unfold x_x_set; rw [if_neg c8_1, if_neg c22_2]) (r_ri dX11_set_30 rfl rfl rfl rfl)
  · refine r_k dX11_set_11 kkX11_82 ?_
    exact r_eI (r' := ((-1000001), T)) (by unfold x_x_set; rw [if_pos c8_1]) (r_ri dX11_set_13 rfl rfl rfl rfl)
def x_x_copy (T : St) (p0 : Int32) (p1 : Int32) (p2 : Int32) (p3 : Int32) (p4 : Int32) : Int32 × St := if (x_sh_isOne T p0) = 0 then ((-1000001), T) else (if (x_sh_isOne T p2) = 0 then ((-1000001), T) else (if (x_sh_isMissing T p0) = 0 then (if (x_sh_isMissing T p2) = 0 then (if (T.2.2.1 2 (p0 : Int32).toNatClampNeg) = (T.2.2.1 2 (p2 : Int32).toNatClampNeg) then (if (x_sh_reaches T p0 p1 p4) = 0 then ((x_x_found T 2).1, (x_x_found T 2).2) else (if (x_sh_reaches T p2 p3 p4) = 0 then ((x_x_found T 2).1, (x_x_found T 2).2) else (fun (T1 : St) => ((x_x_fine T1 p4).1, (x_x_fine T1 p4).2)) (sAr T (5 + (p2 : Int32).toNatClampNeg) (va_cpy (T.2.2.1 (5 + (p0 : Int32).toNatClampNeg)) (T.2.2.1 (5 + (p2 : Int32).toNatClampNeg)) (p1 : Int32).toNatClampNeg (p3 : Int32).toNatClampNeg (p4 : Int32).toNatClampNeg)))) else ((x_x_found T 5).1, (x_x_found T 5).2)) else ((x_x_found T 1).1, (x_x_found T 1).2)) else ((x_x_found T 1).1, (x_x_found T 1).2)))
def ok_x_copy (T : St) (p0 : Int32) (p1 : Int32) (p2 : Int32) (p3 : Int32) (p4 : Int32) : Prop := (¬ (x_sh_isOne T p0) = 0 → (¬ (x_sh_isOne T p2) = 0 → (ok_sh_isMissing T p0) ∧ ((x_sh_isMissing T p0) = 0 → (ok_sh_isMissing T p2) ∧ ((x_sh_isMissing T p2) = 0 → (vp_in p0 8) ∧ (vp_in p2 8) ∧ ((T.2.2.1 2 (p0 : Int32).toNatClampNeg) = (T.2.2.1 2 (p2 : Int32).toNatClampNeg) → (ok_sh_reaches T p0 p1 p4) ∧ (¬ (x_sh_reaches T p0 p1 p4) = 0 → (ok_sh_reaches T p2 p3 p4) ∧ (¬ (x_sh_reaches T p2 p3 p4) = 0 → (cpok p1 p3 p4 40 40) ∧ (sh (5 + (p2 : Int32).toNatClampNeg) = .inl (0, 40)) ∧ (sh (5 + (p0 : Int32).toNatClampNeg) = .inl (0, 40)) ∧ True)))))))
theorem c_x_copy {X : Nat × (Nat → Int32)} {T : St} (p0 : Int32) (p1 : Int32) (p2 : Int32) (p3 : Int32) (p4 : Int32) (kk : ok_x_copy T p0 p1 p2 p3 p4) : tC X 2 mX11_copy [.ref 0, .int p0, .int p1, .int p2, .int p3, .int p4] T (some (.int (x_x_copy T p0 p1 p2 p3 p4).1)) ((x_x_copy T p0 p1 p2 p3 p4).2) := by
  unfold ok_x_copy at kk
  refine tC_of ?_
  refine r_p dX11_copy_0 rfl rfl ?_
  refine r_get dX11_copy_1 fkX11_10 rfl rfl ?_
  refine r_p dX11_copy_4 rfl rfl ?_
  refine r_cv (d1 := 1) dX11_copy_5 cvX11_78 rfl rfl rfl rfl (Nat.le_of_ble_eq_true rfl) (Nat.le_of_ble_eq_true rfl) (Nat.le_of_ble_eq_true rfl) (c_sh_isOne p0) ?_
  refine r_ieq dX11_copy_8 rfl (fun c8_1 => ?_) (fun c8_1 => ?_)
  · refine r_k dX11_copy_22 kkX11_82 ?_
    exact r_eI (r' := ((-1000001), T)) (by unfold x_x_copy; rw [if_pos c8_1]) (r_ri dX11_copy_24 rfl rfl rfl rfl)
  · have kk := kk c8_1
    refine r_p dX11_copy_11 rfl rfl ?_
    refine r_get dX11_copy_12 fkX11_10 rfl rfl ?_
    refine r_p dX11_copy_15 rfl rfl ?_
    refine r_cv (d1 := 1) dX11_copy_16 cvX11_78 rfl rfl rfl rfl (Nat.le_of_ble_eq_true rfl) (Nat.le_of_ble_eq_true rfl) (Nat.le_of_ble_eq_true rfl) (c_sh_isOne p2) ?_
    refine r_ine dX11_copy_19 rfl (fun c19_2 => ?_) (fun c19_2 => ?_)
    · have kk := kk c19_2
      refine r_p dX11_copy_25 rfl rfl ?_
      refine r_get dX11_copy_26 fkX11_10 rfl rfl ?_
      refine r_p dX11_copy_29 rfl rfl ?_
      obtain ⟨q1, kk⟩ := kk
      refine r_cv (d1 := 1) dX11_copy_30 cvX11_94 rfl rfl rfl rfl (Nat.le_of_ble_eq_true rfl) (Nat.le_of_ble_eq_true rfl) (Nat.le_of_ble_eq_true rfl) (c_sh_isMissing p0 q1) ?_
      refine r_ine dX11_copy_33 rfl (fun c33_3 => ?_) (fun c33_3 => ?_)
      · refine r_p dX11_copy_47 rfl rfl ?_
        refine r_ci (x := 1) dX11_copy_48 rfl ?_
        refine r_cv (d1 := 1) dX11_copy_49 cvX11_83 rfl rfl rfl rfl (Nat.le_of_ble_eq_true rfl) (Nat.le_of_ble_eq_true rfl) (Nat.le_of_ble_eq_true rfl) (c_x_found 1) ?_
        exact r_eI (r' := ((x_x_found T 1).1, (x_x_found T 1).2)) (by unfold x_x_copy; rw [if_neg c8_1, if_neg c19_2, if_neg c33_3]) (r_ri dX11_copy_52 rfl rfl rfl rfl)
      · have kk := kk c33_3
        refine r_p dX11_copy_36 rfl rfl ?_
        refine r_get dX11_copy_37 fkX11_10 rfl rfl ?_
        refine r_p dX11_copy_40 rfl rfl ?_
        obtain ⟨q2, kk⟩ := kk
        refine r_cv (d1 := 1) dX11_copy_41 cvX11_94 rfl rfl rfl rfl (Nat.le_of_ble_eq_true rfl) (Nat.le_of_ble_eq_true rfl) (Nat.le_of_ble_eq_true rfl) (c_sh_isMissing p2 q2) ?_
        refine r_ieq dX11_copy_44 rfl (fun c44_4 => ?_) (fun c44_4 => ?_)
        · have kk := kk c44_4
          refine r_p dX11_copy_53 rfl rfl ?_
          refine r_get dX11_copy_54 fkX11_10 rfl rfl ?_
          refine r_get dX11_copy_57 fkX11_105 rfl rfl ?_
          refine r_p dX11_copy_60 rfl rfl ?_
          obtain ⟨q3, kk⟩ := kk
          refine r_ia dX11_copy_61 rfl q3 ?_
          refine r_p dX11_copy_62 rfl rfl ?_
          refine r_get dX11_copy_63 fkX11_10 rfl rfl ?_
          refine r_get dX11_copy_66 fkX11_105 rfl rfl ?_
          refine r_p dX11_copy_69 rfl rfl ?_
          obtain ⟨q4, kk⟩ := kk
          refine r_ia dX11_copy_70 rfl q4 ?_
          refine r_ceq dX11_copy_71 rfl (fun c71_5 => ?_) (fun c71_5 => ?_)
          · have kk := kk c71_5
            refine r_p dX11_copy_80 rfl rfl ?_
            refine r_get dX11_copy_81 fkX11_10 rfl rfl ?_
            refine r_p dX11_copy_84 rfl rfl ?_
            refine r_p dX11_copy_85 rfl rfl ?_
            refine r_p dX11_copy_86 rfl rfl ?_
            obtain ⟨q5, kk⟩ := kk
            refine r_cv (d1 := 1) dX11_copy_88 cvX11_97 rfl rfl rfl rfl (Nat.le_of_ble_eq_true rfl) (Nat.le_of_ble_eq_true rfl) (Nat.le_of_ble_eq_true rfl) (c_sh_reaches p0 p1 p4 q5) ?_
            refine r_ieq dX11_copy_91 rfl (fun c91_6 => ?_) (fun c91_6 => ?_)
            · refine r_p dX11_copy_109 rfl rfl ?_
              refine r_ci (x := 2) dX11_copy_110 rfl ?_
              refine r_cv (d1 := 1) dX11_copy_111 cvX11_83 rfl rfl rfl rfl (Nat.le_of_ble_eq_true rfl) (Nat.le_of_ble_eq_true rfl) (Nat.le_of_ble_eq_true rfl) (c_x_found 2) ?_
              exact r_eI (r' := ((x_x_found T 2).1, (x_x_found T 2).2)) (by unfold x_x_copy; rw [if_neg c8_1, if_neg c19_2, if_pos c33_3, if_pos c44_4, if_pos c71_5, if_pos c91_6]) (r_ri dX11_copy_114 rfl rfl rfl rfl)
            · have kk := kk c91_6
              refine r_p dX11_copy_94 rfl rfl ?_
              refine r_get dX11_copy_95 fkX11_10 rfl rfl ?_
              refine r_p dX11_copy_98 rfl rfl ?_
              refine r_p dX11_copy_99 rfl rfl ?_
              refine r_p dX11_copy_101 rfl rfl ?_
              obtain ⟨q6, kk⟩ := kk
              refine r_cv (d1 := 1) dX11_copy_103 cvX11_97 rfl rfl rfl rfl (Nat.le_of_ble_eq_true rfl) (Nat.le_of_ble_eq_true rfl) (Nat.le_of_ble_eq_true rfl) (c_sh_reaches p2 p3 p4 q6) ?_
              refine r_ine dX11_copy_106 rfl (fun c106_7 => ?_) (fun c106_7 => ?_)
              · have kk := kk c106_7
                refine r_p dX11_copy_115 rfl rfl ?_
                refine r_get dX11_copy_116 fkX11_10 rfl rfl ?_
                refine r_get dX11_copy_119 fkX11_109 rfl rfl ?_
                refine r_p dX11_copy_122 rfl rfl ?_
                refine r_aa dX11_copy_123 rfl (by decide) q3 (rf4 q3) ?_
                refine r_p dX11_copy_124 rfl rfl ?_
                refine r_p dX11_copy_125 rfl rfl ?_
                refine r_get dX11_copy_126 fkX11_10 rfl rfl ?_
                refine r_get dX11_copy_129 fkX11_109 rfl rfl ?_
                refine r_p dX11_copy_132 rfl rfl ?_
                refine r_aa dX11_copy_133 rfl (by decide) q4 (rf4 q4) ?_
                refine r_p dX11_copy_134 rfl rfl ?_
                refine r_p dX11_copy_136 rfl rfl ?_
                obtain ⟨q7, kk⟩ := kk
                obtain ⟨q8, kk⟩ := kk
                obtain ⟨q9, kk⟩ := kk
                refine r_cpy dX11_copy_138 cpX11_113 q8 q9 q7.1 q7.2.1 q7.2.2.1 q7.2.2.2.1 q7.2.2.2.2 (Nat.le_of_ble_eq_true rfl) ?_
                refine r_eI (r' := (fun (T1 : St) => ((x_x_fine T1 p4).1, (x_x_fine T1 p4).2)) (sAr T (5 + (p2 : Int32).toNatClampNeg) (va_cpy (T.2.2.1 (5 + (p0 : Int32).toNatClampNeg)) (T.2.2.1 (5 + (p2 : Int32).toNatClampNeg)) (p1 : Int32).toNatClampNeg (p3 : Int32).toNatClampNeg (p4 : Int32).toNatClampNeg))) (by unfold x_x_copy; rw [if_neg c8_1, if_neg c19_2, if_pos c33_3, if_pos c44_4, if_pos c71_5, if_neg c91_6, if_neg c106_7]) ?_
                generalize sAr T (5 + (p2 : Int32).toNatClampNeg) (va_cpy (T.2.2.1 (5 + (p0 : Int32).toNatClampNeg)) (T.2.2.1 (5 + (p2 : Int32).toNatClampNeg)) (p1 : Int32).toNatClampNeg (p3 : Int32).toNatClampNeg (p4 : Int32).toNatClampNeg) = T1 at ⊢
                refine r_p dX11_copy_141 rfl rfl ?_
                refine r_p dX11_copy_142 rfl rfl ?_
                refine r_cv (d1 := 1) dX11_copy_144 cvX11_91 rfl rfl rfl rfl (Nat.le_of_ble_eq_true rfl) (Nat.le_of_ble_eq_true rfl) (Nat.le_of_ble_eq_true rfl) (c_x_fine p4) ?_
                exact r_eI (r' := ((x_x_fine T1 p4).1, (x_x_fine T1 p4).2)) rfl (r_ri dX11_copy_147 rfl rfl rfl rfl)
              · refine r_p dX11_copy_109 rfl rfl ?_
                refine r_ci (x := 2) dX11_copy_110 rfl ?_
                refine r_cv (d1 := 1) dX11_copy_111 cvX11_83 rfl rfl rfl rfl (Nat.le_of_ble_eq_true rfl) (Nat.le_of_ble_eq_true rfl) (Nat.le_of_ble_eq_true rfl) (c_x_found 2) ?_
                exact r_eI (r' := ((x_x_found T 2).1, (x_x_found T 2).2)) (by unfold x_x_copy; rw [if_neg c8_1, if_neg c19_2, if_pos c33_3, if_pos c44_4, if_pos c71_5, if_neg c91_6, if_pos c106_7]) (r_ri dX11_copy_114 rfl rfl rfl rfl)
          · refine r_p dX11_copy_74 rfl rfl ?_
            refine r_ci (x := 5) dX11_copy_75 rfl ?_
            refine r_cv (d1 := 1) dX11_copy_76 cvX11_83 rfl rfl rfl rfl (Nat.le_of_ble_eq_true rfl) (Nat.le_of_ble_eq_true rfl) (Nat.le_of_ble_eq_true rfl) (c_x_found 5) ?_
            exact r_eI (r' := ((x_x_found T 5).1, (x_x_found T 5).2)) (by unfold x_x_copy; rw [if_neg c8_1, if_neg c19_2, if_pos c33_3, if_pos c44_4, if_neg c71_5]) (r_ri dX11_copy_79 rfl rfl rfl rfl)
        · refine r_p dX11_copy_47 rfl rfl ?_
          refine r_ci (x := 1) dX11_copy_48 rfl ?_
          refine r_cv (d1 := 1) dX11_copy_49 cvX11_83 rfl rfl rfl rfl (Nat.le_of_ble_eq_true rfl) (Nat.le_of_ble_eq_true rfl) (Nat.le_of_ble_eq_true rfl) (c_x_found 1) ?_
          exact r_eI (r' := ((x_x_found T 1).1, (x_x_found T 1).2)) (by unfold x_x_copy; rw [if_neg c8_1, if_neg c19_2, if_pos c33_3, if_neg c44_4]) (r_ri dX11_copy_52 rfl rfl rfl rfl)
    · refine r_k dX11_copy_22 kkX11_82 ?_
      exact r_eI (r' := ((-1000001), T)) (by unfold x_x_copy; rw [if_neg c8_1, if_pos c19_2]) (r_ri dX11_copy_24 rfl rfl rfl rfl)
def x_x_drop (T : St) (p0 : Int32) : Int32 × St := if (x_sh_isOne T p0) = 0 then ((-1000001), T) else (if (x_sh_isMissing T p0) = 0 then ((x_x_fine ((x_sh_lose T p0).2) ((x_sh_lose T p0).1)).1, (x_x_fine ((x_sh_lose T p0).2) ((x_sh_lose T p0).1)).2) else ((x_x_found T 1).1, (x_x_found T 1).2))
def ok_x_drop (T : St) (p0 : Int32) : Prop := (¬ (x_sh_isOne T p0) = 0 → (ok_sh_isMissing T p0) ∧ ((x_sh_isMissing T p0) = 0 → (ok_sh_lose T p0) ∧ True))
theorem c_x_drop {X : Nat × (Nat → Int32)} {T : St} (p0 : Int32) (kk : ok_x_drop T p0) : tC X 2 mX11_drop [.ref 0, .int p0] T (some (.int (x_x_drop T p0).1)) ((x_x_drop T p0).2) := by
  unfold ok_x_drop at kk
  refine tC_of ?_
  refine r_p dX11_drop_0 rfl rfl ?_
  refine r_get dX11_drop_1 fkX11_10 rfl rfl ?_
  refine r_p dX11_drop_4 rfl rfl ?_
  refine r_cv (d1 := 1) dX11_drop_5 cvX11_78 rfl rfl rfl rfl (Nat.le_of_ble_eq_true rfl) (Nat.le_of_ble_eq_true rfl) (Nat.le_of_ble_eq_true rfl) (c_sh_isOne p0) ?_
  refine r_ine dX11_drop_8 rfl (fun c8_1 => ?_) (fun c8_1 => ?_)
  · have kk := kk c8_1
    refine r_p dX11_drop_14 rfl rfl ?_
    refine r_get dX11_drop_15 fkX11_10 rfl rfl ?_
    refine r_p dX11_drop_18 rfl rfl ?_
    obtain ⟨q1, kk⟩ := kk
    refine r_cv (d1 := 1) dX11_drop_19 cvX11_94 rfl rfl rfl rfl (Nat.le_of_ble_eq_true rfl) (Nat.le_of_ble_eq_true rfl) (Nat.le_of_ble_eq_true rfl) (c_sh_isMissing p0 q1) ?_
    refine r_ieq dX11_drop_22 rfl (fun c22_2 => ?_) (fun c22_2 => ?_)
    · have kk := kk c22_2
      refine r_p dX11_drop_31 rfl rfl ?_
      refine r_p dX11_drop_32 rfl rfl ?_
      refine r_get dX11_drop_33 fkX11_10 rfl rfl ?_
      refine r_p dX11_drop_36 rfl rfl ?_
      obtain ⟨q2, kk⟩ := kk
      refine r_cv (d1 := 1) dX11_drop_37 cvX11_119 rfl rfl rfl rfl (Nat.le_of_ble_eq_true rfl) (Nat.le_of_ble_eq_true rfl) (Nat.le_of_ble_eq_true rfl) (c_sh_lose p0 q2) ?_
      refine r_cv (d1 := 1) dX11_drop_40 cvX11_91 rfl rfl rfl rfl (Nat.le_of_ble_eq_true rfl) (Nat.le_of_ble_eq_true rfl) (Nat.le_of_ble_eq_true rfl) (c_x_fine ((x_sh_lose T p0).1)) ?_
      exact r_eI (r' := ((x_x_fine ((x_sh_lose T p0).2) ((x_sh_lose T p0).1)).1, (x_x_fine ((x_sh_lose T p0).2) ((x_sh_lose T p0).1)).2)) (by unfold x_x_drop; rw [if_neg c8_1, if_pos c22_2]) (r_ri dX11_drop_43 rfl rfl rfl rfl)
    · refine r_p dX11_drop_25 rfl rfl ?_
      refine r_ci (x := 1) dX11_drop_26 rfl ?_
      refine r_cv (d1 := 1) dX11_drop_27 cvX11_83 rfl rfl rfl rfl (Nat.le_of_ble_eq_true rfl) (Nat.le_of_ble_eq_true rfl) (Nat.le_of_ble_eq_true rfl) (c_x_found 1) ?_
      exact r_eI (r' := ((x_x_found T 1).1, (x_x_found T 1).2)) (by unfold x_x_drop; rw [if_neg c8_1, if_neg c22_2]) (r_ri dX11_drop_30 rfl rfl rfl rfl)
  · refine r_k dX11_drop_11 kkX11_82 ?_
    exact r_eI (r' := ((-1000001), T)) (by unfold x_x_drop; rw [if_pos c8_1]) (r_ri dX11_drop_13 rfl rfl rfl rfl)
def x_x_gives (T : St) (p0 : Int32) (p1 : Int32) : Int32 := if (x_bk_isRead T (T.2.1 0)) = 0 then (-1000002) else (if (x_x_isMinute T p0) = 0 then (-1000001) else (if p1 < 0 then (-1000001) else (if p1 < 5 then (x_bk_given T (T.2.1 0) p0 p1) else (-1000001))))
def ok_x_gives (T : St) (p0 : Int32) (p1 : Int32) : Prop := (ok_bk_isRead T (T.2.1 0)) ∧ (sh (T.2.1 0) = .inr 1) ∧ (¬ (x_bk_isRead T (T.2.1 0)) = 0 → (¬ (x_x_isMinute T p0) = 0 → (¬ p1 < 0 → (p1 < 5 → (ok_bk_given T (T.2.1 0) p0 p1) ∧ True))))
theorem c_x_gives {X : Nat × (Nat → Int32)} {T : St} (p0 : Int32) (p1 : Int32) (kk : ok_x_gives T p0 p1) : tC X 3 mX11_gives [.ref 0, .int p0, .int p1] T (some (.int (x_x_gives T p0 p1))) T := by
  unfold ok_x_gives at kk
  refine tC_of ?_
  refine r_p dX11_gives_0 rfl rfl ?_
  refine r_get dX11_gives_1 fkX11_30 rfl rfl ?_
  obtain ⟨q1, kk⟩ := kk
  obtain ⟨q2, kk⟩ := kk
  refine r_cv (d1 := 1) dX11_gives_4 cvX11_189 rfl rfl q2 rfl (Nat.le_of_ble_eq_true rfl) (Nat.le_of_ble_eq_true rfl) (Nat.le_of_ble_eq_true rfl) (c_bk_isRead (T.2.1 0) q1) ?_
  refine r_ine dX11_gives_7 rfl (fun c7_1 => ?_) (fun c7_1 => ?_)
  · have kk := kk c7_1
    refine r_p dX11_gives_13 rfl rfl ?_
    refine r_cs (d1 := 1) dX11_gives_14 csX11_194 rfl rfl (Nat.le_of_ble_eq_true rfl) (Nat.le_of_ble_eq_true rfl) (Nat.le_of_ble_eq_true rfl) (c_x_isMinute p0) ?_
    refine r_ieq dX11_gives_17 rfl (fun c17_2 => ?_) (fun c17_2 => ?_)
    · refine r_k dX11_gives_29 kkX11_82 ?_
      exact r_eIp (r' := (-1000001)) (by unfold x_x_gives; rw [if_neg c7_1, if_pos c17_2]) (r_ri dX11_gives_31 rfl rfl rfl rfl)
    · have kk := kk c17_2
      refine r_p dX11_gives_20 rfl rfl ?_
      refine r_ilt dX11_gives_21 rfl (fun c21_3 => ?_) (fun c21_3 => ?_)
      · refine r_k dX11_gives_29 kkX11_82 ?_
        exact r_eIp (r' := (-1000001)) (by unfold x_x_gives; rw [if_neg c7_1, if_neg c17_2, if_pos c21_3]) (r_ri dX11_gives_31 rfl rfl rfl rfl)
      · have kk := kk c21_3
        refine r_p dX11_gives_24 rfl rfl ?_
        refine r_ci (x := 5) dX11_gives_25 rfl ?_
        refine r_clt dX11_gives_26 rfl (fun c26_4 => ?_) (fun c26_4 => ?_)
        · have kk := kk c26_4
          refine r_p dX11_gives_32 rfl rfl ?_
          refine r_get dX11_gives_33 fkX11_30 rfl rfl ?_
          refine r_p dX11_gives_36 rfl rfl ?_
          refine r_p dX11_gives_37 rfl rfl ?_
          obtain ⟨q3, kk⟩ := kk
          refine r_cv (d1 := 2) dX11_gives_38 cvX11_197 rfl rfl q2 rfl (Nat.le_of_ble_eq_true rfl) (Nat.le_of_ble_eq_true rfl) (Nat.le_of_ble_eq_true rfl) (c_bk_given (T.2.1 0) p0 p1 q3) ?_
          exact r_eIp (r' := (x_bk_given T (T.2.1 0) p0 p1)) (by unfold x_x_gives; rw [if_neg c7_1, if_neg c17_2, if_neg c21_3, if_pos c26_4]) (r_ri dX11_gives_41 rfl rfl rfl rfl)
        · refine r_k dX11_gives_29 kkX11_82 ?_
          exact r_eIp (r' := (-1000001)) (by unfold x_x_gives; rw [if_neg c7_1, if_neg c17_2, if_neg c21_3, if_neg c26_4]) (r_ri dX11_gives_31 rfl rfl rfl rfl)
  · refine r_k dX11_gives_10 kkX11_193 ?_
    exact r_eIp (r' := (-1000002)) (by unfold x_x_gives; rw [if_pos c7_1]) (r_ri dX11_gives_12 rfl rfl rfl rfl)
