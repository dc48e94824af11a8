def x_ta_add_3 (l0 : Nat) (l1 : Nat) (l2 : Nat) (l3 : Nat) (K : Int32 → St → St) : Nat → Int32 → St → St
  | 0, _, T => T
  | f + 1, v4, T => if 5 ≤ v4 then (K v4 T) else (fun (T1 : St) => (fun (T2 : St) => (fun (T3 : St) => (fun (T4 : St) => x_ta_add_3 l0 l1 l2 l3 K f (v4 + 1) T4) (sL T3 (l0 + 4) (v4 : Int32).toNatClampNeg ((((x_ki_fewerThan T3 l3 v4 1) ||| ((x_ki_fewerThan T3 l3 v4 2) &&& (T3.2.2.2 (l0 + 1) (v4 : Int32).toNatClampNeg))) ||| ((x_ki_fewerThan T3 l3 v4 3) &&& (T3.2.2.2 (l0 + 2) (v4 : Int32).toNatClampNeg))) ||| ((x_ki_fewerThan T3 l3 v4 4) &&& (T3.2.2.2 (l0 + 3) (v4 : Int32).toNatClampNeg))))) (sL T2 (l0 + 1) (v4 : Int32).toNatClampNeg ((T2.2.2.2 (l1 + 1) (v4 : Int32).toNatClampNeg) ||| (T.2.2.2 l2 (v4 : Int32).toNatClampNeg)))) (sL T1 (l0 + 2) (v4 : Int32).toNatClampNeg ((T1.2.2.2 (l1 + 2) (v4 : Int32).toNatClampNeg) ||| ((T1.2.2.2 (l1 + 1) (v4 : Int32).toNatClampNeg) &&& (T.2.2.2 l2 (v4 : Int32).toNatClampNeg))))) (sL T (l0 + 3) (v4 : Int32).toNatClampNeg ((T.2.2.2 (l1 + 3) (v4 : Int32).toNatClampNeg) ||| ((T.2.2.2 (l1 + 2) (v4 : Int32).toNatClampNeg) &&& (T.2.2.2 l2 (v4 : Int32).toNatClampNeg))))
def ok_ta_add_3 (l0 : Nat) (l1 : Nat) (l2 : Nat) (l3 : Nat) (Kk : Int32 → St → Prop) : Nat → Int32 → St → Prop
  | 0, _, _ => False
  | f + 1, v4, T => ((5 ≤ v4 → Kk v4 T) ∧ (¬ 5 ≤ v4 → (sh l2 = .inl (1, 5)) ∧ (vp_in v4 5) ∧ (sh l0 = .inr 9) ∧ (sh l1 = .inr 9) ∧ (sh (l1 + 3) = .inl (1, 5)) ∧ (sh (l1 + 2) = .inl (1, 5)) ∧ (sh (l0 + 3) = .inl (1, 5)) ∧ (fun (T1 : St) => (sh l0 = .inr 9) ∧ (sh l1 = .inr 9) ∧ (sh (l1 + 2) = .inl (1, 5)) ∧ (vp_in v4 5) ∧ (sh (l1 + 1) = .inl (1, 5)) ∧ (sh (l0 + 2) = .inl (1, 5)) ∧ (fun (T2 : St) => (sh l0 = .inr 9) ∧ (sh l1 = .inr 9) ∧ (sh (l1 + 1) = .inl (1, 5)) ∧ (vp_in v4 5) ∧ (sh (l0 + 1) = .inl (1, 5)) ∧ (fun (T3 : St) => (sh l0 = .inr 9) ∧ (ok_ki_fewerThan T3 l3 v4 1) ∧ (sh l3 = .inr 3) ∧ (ok_ki_fewerThan T3 l3 v4 2) ∧ (sh (l0 + 1) = .inl (1, 5)) ∧ (vp_in v4 5) ∧ (ok_ki_fewerThan T3 l3 v4 3) ∧ (sh (l0 + 2) = .inl (1, 5)) ∧ (ok_ki_fewerThan T3 l3 v4 4) ∧ (sh (l0 + 3) = .inl (1, 5)) ∧ (sh (l0 + 4) = .inl (1, 5)) ∧ (fun (T4 : St) => ok_ta_add_3 l0 l1 l2 l3 Kk f (v4 + 1) T4) (sL T3 (l0 + 4) (v4 : Int32).toNatClampNeg ((((x_ki_fewerThan T3 l3 v4 1) ||| ((x_ki_fewerThan T3 l3 v4 2) &&& (T3.2.2.2 (l0 + 1) (v4 : Int32).toNatClampNeg))) ||| ((x_ki_fewerThan T3 l3 v4 3) &&& (T3.2.2.2 (l0 + 2) (v4 : Int32).toNatClampNeg))) ||| ((x_ki_fewerThan T3 l3 v4 4) &&& (T3.2.2.2 (l0 + 3) (v4 : Int32).toNatClampNeg))))) (sL T2 (l0 + 1) (v4 : Int32).toNatClampNeg ((T2.2.2.2 (l1 + 1) (v4 : Int32).toNatClampNeg) ||| (T.2.2.2 l2 (v4 : Int32).toNatClampNeg)))) (sL T1 (l0 + 2) (v4 : Int32).toNatClampNeg ((T1.2.2.2 (l1 + 2) (v4 : Int32).toNatClampNeg) ||| ((T1.2.2.2 (l1 + 1) (v4 : Int32).toNatClampNeg) &&& (T.2.2.2 l2 (v4 : Int32).toNatClampNeg))))) (sL T (l0 + 3) (v4 : Int32).toNatClampNeg ((T.2.2.2 (l1 + 3) (v4 : Int32).toNatClampNeg) ||| ((T.2.2.2 (l1 + 2) (v4 : Int32).toNatClampNeg) &&& (T.2.2.2 l2 (v4 : Int32).toNatClampNeg))))))
theorem c_ta_add_3 {X : Nat × (Nat → Int32)} (l0 : Nat) (l1 : Nat) (l2 : Nat) (l3 : Nat) {K : Int32 → St → St} {Kk : Int32 → St → Prop} (hk : ∀ (v4 : Int32) (T : St), Kk v4 T → tR X 1 mX9_add 150 [some (.ref l0), some (.ref l1), some (.ref l2), some (.ref l3), some (.int v4), none, none] [] T none (K v4 T)) : ∀ (f : Nat) (v4 : Int32) (T : St), ok_ta_add_3 l0 l1 l2 l3 Kk f v4 T → tR X 1 mX9_add 3 [some (.ref l0), some (.ref l1), some (.ref l2), some (.ref l3), some (.int v4), none, none] [] T none (x_ta_add_3 l0 l1 l2 l3 K f v4 T) := by
  intro f
  induction f with
  | zero => intro v4 T kk; exact kk.elim
  | succ f ih =>
    intro v4 T kk
    rw [ok_ta_add_3] at kk
    refine r_p dX9_add_3 rfl rfl ?_
    refine r_ci (x := 5) dX9_add_5 rfl ?_
    refine r_cge dX9_add_6 rfl (fun c6_1 => ?_) (fun c6_1 => ?_)
    · have kk := kk.1 c6_1
      show tR _ _ _ _ [some (.ref l0), some (.ref l1), some (.ref l2), some (.ref l3), some (.int v4), none, none] _ _ _ _
      exact r_eV (r' := K v4 T) (by rw [x_ta_add_3]; rw [if_pos c6_1]) ((hk v4 T kk))
    · have kk := kk.2 c6_1
      refine r_p dX9_add_9 rfl rfl ?_
      refine r_p dX9_add_10 rfl rfl ?_
      obtain ⟨q1, kk⟩ := kk
      obtain ⟨q2, kk⟩ := kk
      refine r_la dX9_add_12 q1 q2 ?_
      refine r_p dX9_add_13 rfl rfl ?_
      refine r_p dX9_add_15 rfl rfl ?_
      obtain ⟨q3, kk⟩ := kk
      refine r_get dX9_add_16 fkX9_18 q3 rfl ?_
      refine r_p dX9_add_19 rfl rfl ?_
      refine r_p dX9_add_21 rfl rfl ?_
      obtain ⟨q4, kk⟩ := kk
      refine r_get dX9_add_22 fkX9_18 q4 rfl ?_
      refine r_p dX9_add_25 rfl rfl ?_
      obtain ⟨q5, kk⟩ := kk
      refine r_la dX9_add_27 q5 q2 ?_
      refine r_p dX9_add_28 rfl rfl ?_
      refine r_get dX9_add_29 fkX9_15 q4 rfl ?_
      refine r_p dX9_add_32 rfl rfl ?_
      obtain ⟨q6, kk⟩ := kk
      refine r_la dX9_add_34 q6 q2 ?_
      refine r_p dX9_add_35 rfl rfl ?_
      refine r_p dX9_add_37 rfl rfl ?_
      refine r_p dX9_add_38 rfl rfl ?_
      obtain ⟨q7, kk⟩ := kk
      refine r_las dX9_add_39 q7 q2 ?_
      refine r_eV (r' := (fun (T1 : St) => (fun (T2 : St) => (fun (T3 : St) => (fun (T4 : St) => x_ta_add_3 l0 l1 l2 l3 K f (v4 + 1) T4) (sL T3 (l0 + 4) (v4 : Int32).toNatClampNeg ((((x_ki_fewerThan T3 l3 v4 1) ||| ((x_ki_fewerThan T3 l3 v4 2) &&& (T3.2.2.2 (l0 + 1) (v4 : Int32).toNatClampNeg))) ||| ((x_ki_fewerThan T3 l3 v4 3) &&& (T3.2.2.2 (l0 + 2) (v4 : Int32).toNatClampNeg))) ||| ((x_ki_fewerThan T3 l3 v4 4) &&& (T3.2.2.2 (l0 + 3) (v4 : Int32).toNatClampNeg))))) (sL T2 (l0 + 1) (v4 : Int32).toNatClampNeg ((T2.2.2.2 (l1 + 1) (v4 : Int32).toNatClampNeg) ||| (T.2.2.2 l2 (v4 : Int32).toNatClampNeg)))) (sL T1 (l0 + 2) (v4 : Int32).toNatClampNeg ((T1.2.2.2 (l1 + 2) (v4 : Int32).toNatClampNeg) ||| ((T1.2.2.2 (l1 + 1) (v4 : Int32).toNatClampNeg) &&& (T.2.2.2 l2 (v4 : Int32).toNatClampNeg))))) (sL T (l0 + 3) (v4 : Int32).toNatClampNeg ((T.2.2.2 (l1 + 3) (v4 : Int32).toNatClampNeg) ||| ((T.2.2.2 (l1 + 2) (v4 : Int32).toNatClampNeg) &&& (T.2.2.2 l2 (v4 : Int32).toNatClampNeg))))) (by rw [x_ta_add_3]; rw [if_neg c6_1]) ?_
      generalize sL T (l0 + 3) (v4 : Int32).toNatClampNeg ((T.2.2.2 (l1 + 3) (v4 : Int32).toNatClampNeg) ||| ((T.2.2.2 (l1 + 2) (v4 : Int32).toNatClampNeg) &&& (T.2.2.2 l2 (v4 : Int32).toNatClampNeg))) = T1 at kk ⊢
      try dsimp only at kk
      refine r_p dX9_add_40 rfl rfl ?_
      obtain ⟨q8, kk⟩ := kk
      refine r_get dX9_add_41 fkX9_15 q8 rfl ?_
      refine r_p dX9_add_44 rfl rfl ?_
      refine r_p dX9_add_46 rfl rfl ?_
      obtain ⟨q9, kk⟩ := kk
      refine r_get dX9_add_47 fkX9_15 q9 rfl ?_
      refine r_p dX9_add_50 rfl rfl ?_
      obtain ⟨q10, kk⟩ := kk
      obtain ⟨q11, kk⟩ := kk
      refine r_la dX9_add_52 q10 q11 ?_
      refine r_p dX9_add_53 rfl rfl ?_
      refine r_get dX9_add_54 fkX9_9 q9 rfl ?_
      refine r_p dX9_add_57 rfl rfl ?_
      obtain ⟨q12, kk⟩ := kk
      refine r_la dX9_add_59 q12 q11 ?_
      refine r_p dX9_add_60 rfl rfl ?_
      refine r_p dX9_add_62 rfl rfl ?_
      refine r_p dX9_add_63 rfl rfl ?_
      obtain ⟨q13, kk⟩ := kk
      refine r_las dX9_add_64 q13 q11 ?_
      refine r_eV (r' := (fun (T2 : St) => (fun (T3 : St) => (fun (T4 : St) => x_ta_add_3 l0 l1 l2 l3 K f (v4 + 1) T4) (sL T3 (l0 + 4) (v4 : Int32).toNatClampNeg ((((x_ki_fewerThan T3 l3 v4 1) ||| ((x_ki_fewerThan T3 l3 v4 2) &&& (T3.2.2.2 (l0 + 1) (v4 : Int32).toNatClampNeg))) ||| ((x_ki_fewerThan T3 l3 v4 3) &&& (T3.2.2.2 (l0 + 2) (v4 : Int32).toNatClampNeg))) ||| ((x_ki_fewerThan T3 l3 v4 4) &&& (T3.2.2.2 (l0 + 3) (v4 : Int32).toNatClampNeg))))) (sL T2 (l0 + 1) (v4 : Int32).toNatClampNeg ((T2.2.2.2 (l1 + 1) (v4 : Int32).toNatClampNeg) ||| (T.2.2.2 l2 (v4 : Int32).toNatClampNeg)))) (sL T1 (l0 + 2) (v4 : Int32).toNatClampNeg ((T1.2.2.2 (l1 + 2) (v4 : Int32).toNatClampNeg) ||| ((T1.2.2.2 (l1 + 1) (v4 : Int32).toNatClampNeg) &&& (T.2.2.2 l2 (v4 : Int32).toNatClampNeg))))) rfl ?_
      generalize sL T1 (l0 + 2) (v4 : Int32).toNatClampNeg ((T1.2.2.2 (l1 + 2) (v4 : Int32).toNatClampNeg) ||| ((T1.2.2.2 (l1 + 1) (v4 : Int32).toNatClampNeg) &&& (T.2.2.2 l2 (v4 : Int32).toNatClampNeg))) = T2 at kk ⊢
      try dsimp only at kk
      refine r_p dX9_add_65 rfl rfl ?_
      obtain ⟨q14, kk⟩ := kk
      refine r_get dX9_add_66 fkX9_9 q14 rfl ?_
      refine r_p dX9_add_69 rfl rfl ?_
      refine r_p dX9_add_71 rfl rfl ?_
      obtain ⟨q15, kk⟩ := kk
      refine r_get dX9_add_72 fkX9_9 q15 rfl ?_
      refine r_p dX9_add_75 rfl rfl ?_
      obtain ⟨q16, kk⟩ := kk
      obtain ⟨q17, kk⟩ := kk
      refine r_la dX9_add_77 q16 q17 ?_
      refine r_p dX9_add_78 rfl rfl ?_
      refine r_p dX9_add_80 rfl rfl ?_
      obtain ⟨q18, kk⟩ := kk
      refine r_las dX9_add_81 q18 q17 ?_
      refine r_eV (r' := (fun (T3 : St) => (fun (T4 : St) => x_ta_add_3 l0 l1 l2 l3 K f (v4 + 1) T4) (sL T3 (l0 + 4) (v4 : Int32).toNatClampNeg ((((x_ki_fewerThan T3 l3 v4 1) ||| ((x_ki_fewerThan T3 l3 v4 2) &&& (T3.2.2.2 (l0 + 1) (v4 : Int32).toNatClampNeg))) ||| ((x_ki_fewerThan T3 l3 v4 3) &&& (T3.2.2.2 (l0 + 2) (v4 : Int32).toNatClampNeg))) ||| ((x_ki_fewerThan T3 l3 v4 4) &&& (T3.2.2.2 (l0 + 3) (v4 : Int32).toNatClampNeg))))) (sL T2 (l0 + 1) (v4 : Int32).toNatClampNeg ((T2.2.2.2 (l1 + 1) (v4 : Int32).toNatClampNeg) ||| (T.2.2.2 l2 (v4 : Int32).toNatClampNeg)))) rfl ?_
      generalize sL T2 (l0 + 1) (v4 : Int32).toNatClampNeg ((T2.2.2.2 (l1 + 1) (v4 : Int32).toNatClampNeg) ||| (T.2.2.2 l2 (v4 : Int32).toNatClampNeg)) = T3 at kk ⊢
      try dsimp only at kk
      refine r_p dX9_add_82 rfl rfl ?_
      obtain ⟨q19, kk⟩ := kk
      refine r_get dX9_add_83 fkX9_21 q19 rfl ?_
      refine r_p dX9_add_86 rfl rfl ?_
      refine r_p dX9_add_88 rfl rfl ?_
      refine r_p dX9_add_89 rfl rfl ?_
      refine r_ci (x := 1) dX9_add_91 rfl ?_
      obtain ⟨q20, kk⟩ := kk
      obtain ⟨q21, kk⟩ := kk
      refine r_cv (d1 := 1) dX9_add_92 cvX9_24 rfl rfl q21 rfl (Nat.le_of_ble_eq_true rfl) (Nat.le_of_ble_eq_true rfl) (Nat.le_of_ble_eq_true rfl) (c_ki_fewerThan l3 v4 1 q20) ?_
      refine r_p dX9_add_95 rfl rfl ?_
      refine r_p dX9_add_96 rfl rfl ?_
      refine r_ci (x := 2) dX9_add_98 rfl ?_
      obtain ⟨q22, kk⟩ := kk
      refine r_cv (d1 := 1) dX9_add_99 cvX9_24 rfl rfl q21 rfl (Nat.le_of_ble_eq_true rfl) (Nat.le_of_ble_eq_true rfl) (Nat.le_of_ble_eq_true rfl) (c_ki_fewerThan l3 v4 2 q22) ?_
      refine r_p dX9_add_102 rfl rfl ?_
      refine r_get dX9_add_103 fkX9_9 q19 rfl ?_
      refine r_p dX9_add_106 rfl rfl ?_
      obtain ⟨q23, kk⟩ := kk
      obtain ⟨q24, kk⟩ := kk
      refine r_la dX9_add_108 q23 q24 ?_
      refine r_p dX9_add_109 rfl rfl ?_
      refine r_p dX9_add_110 rfl rfl ?_
      refine r_p dX9_add_111 rfl rfl ?_
      refine r_p dX9_add_112 rfl rfl ?_
      refine r_ci (x := 3) dX9_add_114 rfl ?_
      obtain ⟨q25, kk⟩ := kk
      refine r_cv (d1 := 1) dX9_add_115 cvX9_24 rfl rfl q21 rfl (Nat.le_of_ble_eq_true rfl) (Nat.le_of_ble_eq_true rfl) (Nat.le_of_ble_eq_true rfl) (c_ki_fewerThan l3 v4 3 q25) ?_
      refine r_p dX9_add_118 rfl rfl ?_
      refine r_get dX9_add_119 fkX9_15 q19 rfl ?_
      refine r_p dX9_add_122 rfl rfl ?_
      obtain ⟨q26, kk⟩ := kk
      refine r_la dX9_add_124 q26 q24 ?_
      refine r_p dX9_add_125 rfl rfl ?_
      refine r_p dX9_add_126 rfl rfl ?_
      refine r_p dX9_add_127 rfl rfl ?_
      refine r_p dX9_add_128 rfl rfl ?_
      refine r_ci (x := 4) dX9_add_130 rfl ?_
      obtain ⟨q27, kk⟩ := kk
      refine r_cv (d1 := 1) dX9_add_131 cvX9_24 rfl rfl q21 rfl (Nat.le_of_ble_eq_true rfl) (Nat.le_of_ble_eq_true rfl) (Nat.le_of_ble_eq_true rfl) (c_ki_fewerThan l3 v4 4 q27) ?_
      refine r_p dX9_add_134 rfl rfl ?_
      refine r_get dX9_add_135 fkX9_18 q19 rfl ?_
      refine r_p dX9_add_138 rfl rfl ?_
      obtain ⟨q28, kk⟩ := kk
      refine r_la dX9_add_140 q28 q24 ?_
      refine r_p dX9_add_141 rfl rfl ?_
      refine r_p dX9_add_142 rfl rfl ?_
      obtain ⟨q29, kk⟩ := kk
      refine r_las dX9_add_143 q29 q24 ?_
      refine r_eV (r' := (fun (T4 : St) => x_ta_add_3 l0 l1 l2 l3 K f (v4 + 1) T4) (sL T3 (l0 + 4) (v4 : Int32).toNatClampNeg ((((x_ki_fewerThan T3 l3 v4 1) ||| ((x_ki_fewerThan T3 l3 v4 2) &&& (T3.2.2.2 (l0 + 1) (v4 : Int32).toNatClampNeg))) ||| ((x_ki_fewerThan T3 l3 v4 3) &&& (T3.2.2.2 (l0 + 2) (v4 : Int32).toNatClampNeg))) ||| ((x_ki_fewerThan T3 l3 v4 4) &&& (T3.2.2.2 (l0 + 3) (v4 : Int32).toNatClampNeg))))) rfl ?_
      generalize sL T3 (l0 + 4) (v4 : Int32).toNatClampNeg ((((x_ki_fewerThan T3 l3 v4 1) ||| ((x_ki_fewerThan T3 l3 v4 2) &&& (T3.2.2.2 (l0 + 1) (v4 : Int32).toNatClampNeg))) ||| ((x_ki_fewerThan T3 l3 v4 3) &&& (T3.2.2.2 (l0 + 2) (v4 : Int32).toNatClampNeg))) ||| ((x_ki_fewerThan T3 l3 v4 4) &&& (T3.2.2.2 (l0 + 3) (v4 : Int32).toNatClampNeg))) = T4 at kk ⊢
      try dsimp only at kk
      refine r_inc (y := 1) dX9_add_144 rfl rfl rfl ?_
      refine r_go dX9_add_147 rfl ?_
      show tR _ _ _ _ [some (.ref l0), some (.ref l1), some (.ref l2), some (.ref l3), some (.int (v4 + 1)), some (.long (T.2.2.2 l2 (v4 : Int32).toNatClampNeg)), none] _ _ _ _
      exact r_eV (r' := x_ta_add_3 l0 l1 l2 l3 K f (v4 + 1) T4) rfl (r_le (le_s (le_s (le_s (le_s (le_s (le_n (le_s (le_0)))))))) (ih (v4 + 1) T4 kk))
def x_ta_add (T : St) (a : Nat) (p0 : Nat) (p1 : Nat) (p2 : Nat) : St := x_ta_add_3 a p0 p1 p2 (fun (w1_4 : Int32) (T201 : St) => T201) 1000 0 T
def ok_ta_add (T : St) (a : Nat) (p0 : Nat) (p1 : Nat) (p2 : Nat) : Prop := ok_ta_add_3 a p0 p1 p2 (fun (w1_4 : Int32) (T201 : St) => True) 1000 0 T
theorem c_ta_add {X : Nat × (Nat → Int32)} {T : St} (a : Nat) (p0 : Nat) (p1 : Nat) (p2 : Nat) (kk : ok_ta_add T a p0 p1 p2) : tC X 2 mX9_add [.ref a, .ref p0, .ref p1, .ref p2] T none (x_ta_add T a p0 p1 p2) := by
  unfold ok_ta_add at kk
  refine tC_of ?_
  refine r_ci (x := 0) dX9_add_0 rfl ?_
  refine r_p dX9_add_1 rfl rfl ?_
  show tR _ _ _ _ [some (.ref a), some (.ref p0), some (.ref p1), some (.ref p2), some (.int 0), none, none] _ _ _ _
  refine r_eV (r' := x_ta_add_3 a p0 p1 p2 (fun (w1_4 : Int32) (T201 : St) => T201) 1000 0 T) (by unfold x_ta_add; rfl) ((c_ta_add_3 a p0 p1 p2 (fun w1_4 T201 kk => ?_) 1000 0 T kk))
  · exact r_eV (r' := T201) rfl (r_rv dX9_add_150 rfl rfl rfl)
def x_wa_isWarmed_12 (T : St) (l0 : Nat) (l1 : Nat) (l2 : Int32) (K : Int32 → Int32) : Nat → Int32 → Int32
  | 0, _ => 0
  | f + 1, v3 => if (T.2.2.1 (l1 + 7) (T.1 l0 3 : Int32).toNatClampNeg) ≤ v3 then (K v3) else (if (T.2.2.1 (l1 + 9) (l2 + v3 : Int32).toNatClampNeg) = 1 then (if (x_bk_warmsBy T l1 (l2 + v3) (T.2.2.1 (l0 + 1) (v3 : Int32).toNatClampNeg)) = 0 then (0) else (x_wa_isWarmed_12 T l0 l1 l2 K f (v3 + 1))) else (x_wa_isWarmed_12 T l0 l1 l2 K f (v3 + 1)))
def ok_wa_isWarmed_12 (T : St) (l0 : Nat) (l1 : Nat) (l2 : Int32) (Kk : Int32 → Prop) : Nat → Int32 → Prop
  | 0, _ => False
  | f + 1, v3 => (sh l1 = .inr 1) ∧ (sh l0 = .inr 10) ∧ (sh (l1 + 7) = .inl (0, 8)) ∧ (vp_in (T.1 l0 3) 8) ∧ (((T.2.2.1 (l1 + 7) (T.1 l0 3 : Int32).toNatClampNeg) ≤ v3 → Kk v3) ∧ (¬ (T.2.2.1 (l1 + 7) (T.1 l0 3 : Int32).toNatClampNeg) ≤ v3 → (sh (l1 + 9) = .inl (0, 24)) ∧ (vp_in (l2 + v3) 24) ∧ (((T.2.2.1 (l1 + 9) (l2 + v3 : Int32).toNatClampNeg) = 1 → (sh (l0 + 1) = .inl (0, 3)) ∧ (vp_in v3 3) ∧ (ok_bk_warmsBy T l1 (l2 + v3) (T.2.2.1 (l0 + 1) (v3 : Int32).toNatClampNeg)) ∧ (¬ (x_bk_warmsBy T l1 (l2 + v3) (T.2.2.1 (l0 + 1) (v3 : Int32).toNatClampNeg)) = 0 → ok_wa_isWarmed_12 T l0 l1 l2 Kk f (v3 + 1))) ∧ (¬ (T.2.2.1 (l1 + 9) (l2 + v3 : Int32).toNatClampNeg) = 1 → ok_wa_isWarmed_12 T l0 l1 l2 Kk f (v3 + 1)))))
theorem c_wa_isWarmed_12 {X : Nat × (Nat → Int32)} (T : St) (l0 : Nat) (l1 : Nat) (l2 : Int32) {K : Int32 → Int32} {Kk : Int32 → Prop} (hk : ∀ (v3 : Int32), Kk v3 → tR X 1 mX10_isWarmed 61 [some (.ref l0), some (.ref l1), some (.int l2), some (.int v3)] [] T (some (.int (K v3))) T) : ∀ (f : Nat) (v3 : Int32), ok_wa_isWarmed_12 T l0 l1 l2 Kk f v3 → tR X 1 mX10_isWarmed 12 [some (.ref l0), some (.ref l1), some (.int l2), some (.int v3)] [] T (some (.int (x_wa_isWarmed_12 T l0 l1 l2 K f v3))) T := by
  intro f
  induction f with
  | zero => intro v3 kk; exact kk.elim
  | succ f ih =>
    intro v3 kk
    rw [ok_wa_isWarmed_12] at kk
    refine r_p dX10_isWarmed_12 rfl rfl ?_
    refine r_p dX10_isWarmed_13 rfl rfl ?_
    obtain ⟨q5, kk⟩ := kk
    refine r_get dX10_isWarmed_14 fkX10_34 q5 rfl ?_
    refine r_p dX10_isWarmed_17 rfl rfl ?_
    obtain ⟨q6, kk⟩ := kk
    refine r_get dX10_isWarmed_18 fkX10_22 q6 rfl ?_
    obtain ⟨q7, kk⟩ := kk
    obtain ⟨q8, kk⟩ := kk
    refine r_ia dX10_isWarmed_21 q7 q8 ?_
    refine r_cge dX10_isWarmed_22 rfl (fun c22_1 => ?_) (fun c22_1 => ?_)
    · have kk := kk.1 c22_1
      show tR _ _ _ _ [some (.ref l0), some (.ref l1), some (.int l2), some (.int v3)] _ _ _ _
      exact r_eIp (r' := K v3) (by rw [x_wa_isWarmed_12]; rw [if_pos c22_1]) ((hk v3  kk))
    · have kk := kk.2 c22_1
      refine r_p dX10_isWarmed_25 rfl rfl ?_
      refine r_get dX10_isWarmed_26 fkX10_38 q5 rfl ?_
      refine r_p dX10_isWarmed_29 rfl rfl ?_
      refine r_p dX10_isWarmed_30 rfl rfl ?_
      refine r_p dX10_isWarmed_31 rfl rfl ?_
      obtain ⟨q9, kk⟩ := kk
      obtain ⟨q10, kk⟩ := kk
      refine r_ia dX10_isWarmed_32 q9 q10 ?_
      refine r_ci (x := 1) dX10_isWarmed_33 rfl ?_
      refine r_cne dX10_isWarmed_34 rfl (fun c34_2 => ?_) (fun c34_2 => ?_)
      · have kk := kk.2 c34_2
        refine r_inc (y := 1) dX10_isWarmed_55 rfl rfl rfl ?_
        refine r_go dX10_isWarmed_58 rfl ?_
        show tR _ _ _ _ [some (.ref l0), some (.ref l1), some (.int l2), some (.int (v3 + 1))] _ _ _ _
        exact r_eIp (r' := x_wa_isWarmed_12 T l0 l1 l2 K f (v3 + 1)) (by rw [x_wa_isWarmed_12]; rw [if_neg c22_1, if_neg c34_2]) ((ih (v3 + 1)  kk))
      · have kk := kk.1 c34_2
        refine r_p dX10_isWarmed_37 rfl rfl ?_
        refine r_p dX10_isWarmed_38 rfl rfl ?_
        refine r_p dX10_isWarmed_39 rfl rfl ?_
        refine r_p dX10_isWarmed_40 rfl rfl ?_
        refine r_p dX10_isWarmed_41 rfl rfl ?_
        refine r_get dX10_isWarmed_42 fkX10_9 q6 rfl ?_
        refine r_p dX10_isWarmed_45 rfl rfl ?_
        obtain ⟨q11, kk⟩ := kk
        obtain ⟨q12, kk⟩ := kk
        refine r_ia dX10_isWarmed_46 q11 q12 ?_
        obtain ⟨q13, kk⟩ := kk
        refine r_cv (d1 := 1) dX10_isWarmed_47 cvX10_76 rfl rfl q5 rfl (Nat.le_of_ble_eq_true rfl) (Nat.le_of_ble_eq_true rfl) (Nat.le_of_ble_eq_true rfl) (c_bk_warmsBy l1 (l2 + v3) (T.2.2.1 (l0 + 1) (v3 : Int32).toNatClampNeg) q13) ?_
        refine r_ine dX10_isWarmed_50 rfl (fun c50_3 => ?_) (fun c50_3 => ?_)
        · have kk := kk c50_3
          refine r_inc (y := 1) dX10_isWarmed_55 rfl rfl rfl ?_
          refine r_go dX10_isWarmed_58 rfl ?_
          show tR _ _ _ _ [some (.ref l0), some (.ref l1), some (.int l2), some (.int (v3 + 1))] _ _ _ _
          exact r_eIp (r' := x_wa_isWarmed_12 T l0 l1 l2 K f (v3 + 1)) (by rw [x_wa_isWarmed_12]; rw [if_neg c22_1, if_pos c34_2, if_neg c50_3]) ((ih (v3 + 1)  kk))
        · refine r_ci (x := 0) dX10_isWarmed_53 rfl ?_
          exact r_eIp (r' := 0) (by rw [x_wa_isWarmed_12]; rw [if_neg c22_1, if_pos c34_2, if_pos c50_3]) (r_ri dX10_isWarmed_54 rfl rfl rfl rfl)
def x_wa_isWarmed (T : St) (a : Nat) (p0 : Nat) : Int32 := x_wa_isWarmed_12 T a p0 (T.2.2.1 (p0 + 8) (T.1 a 3 : Int32).toNatClampNeg) (fun (w1_3 : Int32) => 1) 1000 0
def ok_wa_isWarmed (T : St) (a : Nat) (p0 : Nat) : Prop := (sh p0 = .inr 1) ∧ (sh a = .inr 10) ∧ (sh (p0 + 8) = .inl (0, 8)) ∧ (vp_in (T.1 a 3) 8) ∧ ok_wa_isWarmed_12 T a p0 (T.2.2.1 (p0 + 8) (T.1 a 3 : Int32).toNatClampNeg) (fun (w1_3 : Int32) => True) 1000 0
theorem c_wa_isWarmed {X : Nat × (Nat → Int32)} {T : St} (a : Nat) (p0 : Nat) (kk : ok_wa_isWarmed T a p0) : tC X 2 mX10_isWarmed [.ref a, .ref p0] T (some (.int (x_wa_isWarmed T a p0))) T := by
  unfold ok_wa_isWarmed at kk
  refine tC_of ?_
  refine r_p dX10_isWarmed_0 rfl rfl ?_
  obtain ⟨q1, kk⟩ := kk
  refine r_get dX10_isWarmed_1 fkX10_26 q1 rfl ?_
  refine r_p dX10_isWarmed_4 rfl rfl ?_
  obtain ⟨q2, kk⟩ := kk
  refine r_get dX10_isWarmed_5 fkX10_22 q2 rfl ?_
  obtain ⟨q3, kk⟩ := kk
  obtain ⟨q4, kk⟩ := kk
  refine r_ia dX10_isWarmed_8 q3 q4 ?_
  refine r_p dX10_isWarmed_9 rfl rfl ?_
  refine r_ci (x := 0) dX10_isWarmed_10 rfl ?_
  refine r_p dX10_isWarmed_11 rfl rfl ?_
  show tR _ _ _ _ [some (.ref a), some (.ref p0), some (.int (T.2.2.1 (p0 + 8) (T.1 a 3 : Int32).toNatClampNeg)), some (.int 0)] _ _ _ _
  refine r_eIp (r' := x_wa_isWarmed_12 T a p0 (T.2.2.1 (p0 + 8) (T.1 a 3 : Int32).toNatClampNeg) (fun (w1_3 : Int32) => 1) 1000 0) (by unfold x_wa_isWarmed; rfl) ((c_wa_isWarmed_12 T a p0 (T.2.2.1 (p0 + 8) (T.1 a 3 : Int32).toNatClampNeg) (fun w1_3 kk => ?_) 1000 0  kk))
  · refine r_ci (x := 1) dX10_isWarmed_61 rfl ?_
    exact r_eIp (r' := 1) rfl (r_ri dX10_isWarmed_62 rfl rfl rfl rfl)
def x_wa_agrees_57 (T : St) (l0 : Nat) (l1 : Nat) (l2 : Nat) (l3 : Int32) (l4 : Int32) (l5 : Int32) (K : Int32 → Int32) : Nat → Int32 → Int32
  | 0, _ => 0
  | f + 1, v6 => if (T.2.2.1 (l1 + 7) (T.1 l2 3 : Int32).toNatClampNeg) ≤ v6 then (K v6) else (jn (fun (KJ1 : Int32 → Int32) => if (T.2.2.1 (l1 + 9) (l4 + v6 : Int32).toNatClampNeg) = 1 then (KJ1 1) else (KJ1 0)) (fun (j1_s0 : Int32) => if j1_s0 = 0 then (x_wa_agrees_57 T l0 l1 l2 l3 l4 l5 K f (v6 + 1)) else (if (x_bk_heatsAgree T l1 (l3 + l5) (T.2.2.1 (l0 + 1) (l5 : Int32).toNatClampNeg) (l4 + v6) (T.2.2.1 (l2 + 1) (v6 : Int32).toNatClampNeg)) = 0 then (0) else (x_wa_agrees_57 T l0 l1 l2 l3 l4 l5 K f (v6 + 1)))))
def ok_wa_agrees_57 (T : St) (l0 : Nat) (l1 : Nat) (l2 : Nat) (l3 : Int32) (l4 : Int32) (l5 : Int32) (Kk : Int32 → Prop) : Nat → Int32 → Prop
  | 0, _ => False
  | f + 1, v6 => (sh l1 = .inr 1) ∧ (sh l2 = .inr 10) ∧ (sh (l1 + 7) = .inl (0, 8)) ∧ (vp_in (T.1 l2 3) 8) ∧ (((T.2.2.1 (l1 + 7) (T.1 l2 3 : Int32).toNatClampNeg) ≤ v6 → Kk v6) ∧ (¬ (T.2.2.1 (l1 + 7) (T.1 l2 3 : Int32).toNatClampNeg) ≤ v6 → (sh (l1 + 9) = .inl (0, 24)) ∧ (vp_in (l4 + v6) 24) ∧ jn (fun (OJ1 : Int32 → Prop) => (((T.2.2.1 (l1 + 9) (l4 + v6 : Int32).toNatClampNeg) = 1 → OJ1 1) ∧ (¬ (T.2.2.1 (l1 + 9) (l4 + v6 : Int32).toNatClampNeg) = 1 → OJ1 0))) (fun (j1_s0 : Int32) => ((j1_s0 = 0 → ok_wa_agrees_57 T l0 l1 l2 l3 l4 l5 Kk f (v6 + 1)) ∧ (¬ j1_s0 = 0 → (sh l0 = .inr 10) ∧ (sh (l0 + 1) = .inl (0, 3)) ∧ (vp_in l5 3) ∧ (sh l2 = .inr 10) ∧ (sh (l2 + 1) = .inl (0, 3)) ∧ (vp_in v6 3) ∧ (ok_bk_heatsAgree T l1 (l3 + l5) (T.2.2.1 (l0 + 1) (l5 : Int32).toNatClampNeg) (l4 + v6) (T.2.2.1 (l2 + 1) (v6 : Int32).toNatClampNeg)) ∧ (sh l1 = .inr 1) ∧ (¬ (x_bk_heatsAgree T l1 (l3 + l5) (T.2.2.1 (l0 + 1) (l5 : Int32).toNatClampNeg) (l4 + v6) (T.2.2.1 (l2 + 1) (v6 : Int32).toNatClampNeg)) = 0 → ok_wa_agrees_57 T l0 l1 l2 l3 l4 l5 Kk f (v6 + 1)))))))
theorem c_wa_agrees_57 {X : Nat × (Nat → Int32)} (T : St) (l0 : Nat) (l1 : Nat) (l2 : Nat) (l3 : Int32) (l4 : Int32) (l5 : Int32) {K : Int32 → Int32} {Kk : Int32 → Prop} (hk : ∀ (v6 : Int32), Kk v6 → tR X 1 mX10_agrees 135 [some (.ref l0), some (.ref l1), some (.ref l2), some (.int l3), some (.int l4), some (.int l5), some (.int v6), none] [] T (some (.int (K v6))) T) : ∀ (f : Nat) (v6 : Int32), ok_wa_agrees_57 T l0 l1 l2 l3 l4 l5 Kk f v6 → tR X 1 mX10_agrees 57 [some (.ref l0), some (.ref l1), some (.ref l2), some (.int l3), some (.int l4), some (.int l5), some (.int v6), none] [] T (some (.int (x_wa_agrees_57 T l0 l1 l2 l3 l4 l5 K f v6))) T := by
  intro f
  induction f with
  | zero => intro v6 kk; exact kk.elim
  | succ f ih =>
    intro v6 kk
    rw [ok_wa_agrees_57] at kk
    refine r_p dX10_agrees_57 rfl rfl ?_
    refine r_p dX10_agrees_59 rfl rfl ?_
    obtain ⟨q13, kk⟩ := kk
    refine r_get dX10_agrees_60 fkX10_34 q13 rfl ?_
    refine r_p dX10_agrees_63 rfl rfl ?_
    obtain ⟨q14, kk⟩ := kk
    refine r_get dX10_agrees_64 fkX10_22 q14 rfl ?_
    obtain ⟨q15, kk⟩ := kk
    obtain ⟨q16, kk⟩ := kk
    refine r_ia dX10_agrees_67 q15 q16 ?_
    refine r_cge dX10_agrees_68 rfl (fun c68_3 => ?_) (fun c68_3 => ?_)
    · have kk := kk.1 c68_3
      show tR _ _ _ _ [some (.ref l0), some (.ref l1), some (.ref l2), some (.int l3), some (.int l4), some (.int l5), some (.int v6), none] _ _ _ _
      exact r_eIp (r' := K v6) (by rw [x_wa_agrees_57]; rw [if_pos c68_3]) ((hk v6  kk))
    · have kk := kk.2 c68_3
      refine r_p dX10_agrees_71 rfl rfl ?_
      refine r_get dX10_agrees_72 fkX10_38 q13 rfl ?_
      refine r_p dX10_agrees_75 rfl rfl ?_
      refine r_p dX10_agrees_77 rfl rfl ?_
      refine r_p dX10_agrees_79 rfl rfl ?_
      obtain ⟨q17, kk⟩ := kk
      obtain ⟨q18, kk⟩ := kk
      refine r_ia dX10_agrees_80 q17 q18 ?_
      refine r_ci (x := 1) dX10_agrees_81 rfl ?_
      obtain ⟨KJ1, hKJ1⟩ : ∃ q : Int32 → Int32, q = (fun (j1_s0 : Int32) => if j1_s0 = 0 then (x_wa_agrees_57 T l0 l1 l2 l3 l4 l5 K f (v6 + 1)) else (if (x_bk_heatsAgree T l1 (l3 + l5) (T.2.2.1 (l0 + 1) (l5 : Int32).toNatClampNeg) (l4 + v6) (T.2.2.1 (l2 + 1) (v6 : Int32).toNatClampNeg)) = 0 then (0) else (x_wa_agrees_57 T l0 l1 l2 l3 l4 l5 K f (v6 + 1)))) := ⟨_, rfl⟩
      obtain ⟨OJ1, hOJ1⟩ : ∃ q : Int32 → Prop, q = (fun (j1_s0 : Int32) => ((j1_s0 = 0 → ok_wa_agrees_57 T l0 l1 l2 l3 l4 l5 Kk f (v6 + 1)) ∧ (¬ j1_s0 = 0 → (sh l0 = .inr 10) ∧ (sh (l0 + 1) = .inl (0, 3)) ∧ (vp_in l5 3) ∧ (sh l2 = .inr 10) ∧ (sh (l2 + 1) = .inl (0, 3)) ∧ (vp_in v6 3) ∧ (ok_bk_heatsAgree T l1 (l3 + l5) (T.2.2.1 (l0 + 1) (l5 : Int32).toNatClampNeg) (l4 + v6) (T.2.2.1 (l2 + 1) (v6 : Int32).toNatClampNeg)) ∧ (sh l1 = .inr 1) ∧ (¬ (x_bk_heatsAgree T l1 (l3 + l5) (T.2.2.1 (l0 + 1) (l5 : Int32).toNatClampNeg) (l4 + v6) (T.2.2.1 (l2 + 1) (v6 : Int32).toNatClampNeg)) = 0 → ok_wa_agrees_57 T l0 l1 l2 l3 l4 l5 Kk f (v6 + 1))))) := ⟨_, rfl⟩
      rw [← hOJ1] at kk
      simp only [jn] at kk
      have hJ1 : ∀ (j1_s0 : Int32), OJ1 j1_s0 → tR X 1 mX10_agrees 90 [some (.ref l0), some (.ref l1), some (.ref l2), some (.int l3), some (.int l4), some (.int l5), some (.int v6), none] [.int j1_s0] T (some (.int (KJ1 j1_s0))) T := by
        intro j1_s0 kk
        rw [hOJ1] at kk
        try dsimp only at kk
        rw [hKJ1]
        refine r_p dX10_agrees_90 rfl rfl ?_
        refine r_p dX10_agrees_92 rfl rfl ?_
        refine r_ieq dX10_agrees_94 rfl (fun c94_5 => ?_) (fun c94_5 => ?_)
        · have kk := kk.1 c94_5
          refine r_inc (y := 1) dX10_agrees_129 rfl rfl rfl ?_
          refine r_go dX10_agrees_132 rfl ?_
          show tR _ _ _ _ [some (.ref l0), some (.ref l1), some (.ref l2), some (.int l3), some (.int l4), some (.int l5), some (.int (v6 + 1)), some (.int j1_s0)] _ _ _ _
          exact r_eIp (r' := x_wa_agrees_57 T l0 l1 l2 l3 l4 l5 K f (v6 + 1)) (by first | rw [if_pos c94_5] | (dsimp only; rw [if_pos c94_5])) (r_le (le_s (le_s (le_s (le_s (le_s (le_s (le_s (le_n (le_0))))))))) (ih (v6 + 1)  kk))
        · have kk := kk.2 c94_5
          refine r_p dX10_agrees_97 rfl rfl ?_
          refine r_p dX10_agrees_98 rfl rfl ?_
          refine r_p dX10_agrees_99 rfl rfl ?_
          refine r_p dX10_agrees_101 rfl rfl ?_
          refine r_p dX10_agrees_102 rfl rfl ?_
          obtain ⟨q19, kk⟩ := kk
          refine r_get dX10_agrees_103 fkX10_9 q19 rfl ?_
          refine r_p dX10_agrees_106 rfl rfl ?_
          obtain ⟨q20, kk⟩ := kk
          obtain ⟨q21, kk⟩ := kk
          refine r_ia dX10_agrees_108 q20 q21 ?_
          refine r_p dX10_agrees_109 rfl rfl ?_
          refine r_p dX10_agrees_111 rfl rfl ?_
          refine r_p dX10_agrees_113 rfl rfl ?_
          refine r_p dX10_agrees_114 rfl rfl ?_
          obtain ⟨q22, kk⟩ := kk
          refine r_get dX10_agrees_115 fkX10_9 q22 rfl ?_
          refine r_p dX10_agrees_118 rfl rfl ?_
          obtain ⟨q23, kk⟩ := kk
          obtain ⟨q24, kk⟩ := kk
          refine r_ia dX10_agrees_120 q23 q24 ?_
          obtain ⟨q25, kk⟩ := kk
          obtain ⟨q26, kk⟩ := kk
          refine r_cv (d1 := 1) dX10_agrees_121 cvX10_80 rfl rfl q26 rfl (Nat.le_of_ble_eq_true rfl) (Nat.le_of_ble_eq_true rfl) (Nat.le_of_ble_eq_true rfl) (c_bk_heatsAgree l1 (l3 + l5) (T.2.2.1 (l0 + 1) (l5 : Int32).toNatClampNeg) (l4 + v6) (T.2.2.1 (l2 + 1) (v6 : Int32).toNatClampNeg) q25) ?_
          refine r_ine dX10_agrees_124 rfl (fun c124_6 => ?_) (fun c124_6 => ?_)
          · have kk := kk c124_6
            refine r_inc (y := 1) dX10_agrees_129 rfl rfl rfl ?_
            refine r_go dX10_agrees_132 rfl ?_
            show tR _ _ _ _ [some (.ref l0), some (.ref l1), some (.ref l2), some (.int l3), some (.int l4), some (.int l5), some (.int (v6 + 1)), some (.int j1_s0)] _ _ _ _
            exact r_eIp (r' := x_wa_agrees_57 T l0 l1 l2 l3 l4 l5 K f (v6 + 1)) (by first | rw [if_neg c94_5, if_neg c124_6] | (dsimp only; rw [if_neg c94_5, if_neg c124_6])) (r_le (le_s (le_s (le_s (le_s (le_s (le_s (le_s (le_n (le_0))))))))) (ih (v6 + 1)  kk))
          · refine r_ci (x := 0) dX10_agrees_127 rfl ?_
            exact r_eIp (r' := 0) (by first | rw [if_neg c94_5, if_pos c124_6] | (dsimp only; rw [if_neg c94_5, if_pos c124_6])) (r_ri dX10_agrees_128 rfl rfl rfl rfl)
      refine r_eIp (r' := jn (fun (KJ1 : Int32 → Int32) => if (T.2.2.1 (l1 + 9) (l4 + v6 : Int32).toNatClampNeg) = 1 then (KJ1 1) else (KJ1 0)) KJ1) (by rw [hKJ1]; rw [x_wa_agrees_57]; rw [if_neg c68_3]) ?_
      refine r_cne dX10_agrees_82 rfl (fun c82_7 => ?_) (fun c82_7 => ?_)
      · have kk := kk.2 c82_7
        refine r_ci (x := 0) dX10_agrees_89 rfl ?_
        show tR _ _ _ _ [some (.ref l0), some (.ref l1), some (.ref l2), some (.int l3), some (.int l4), some (.int l5), some (.int v6), none] [.int 0] _ _ _
        exact r_eIp (r' := KJ1 0) (by simp only [jn]; rw [if_neg c82_7]) ((hJ1 0 kk))
      · have kk := kk.1 c82_7
        refine r_ci (x := 1) dX10_agrees_85 rfl ?_
        refine r_go dX10_agrees_86 rfl ?_
        show tR _ _ _ _ [some (.ref l0), some (.ref l1), some (.ref l2), some (.int l3), some (.int l4), some (.int l5), some (.int v6), none] [.int 1] _ _ _
        exact r_eIp (r' := KJ1 1) (by simp only [jn]; rw [if_pos c82_7]) ((hJ1 1 kk))
def x_wa_agrees_24 (T : St) (l0 : Nat) (l1 : Nat) (l2 : Nat) (l3 : Int32) (l4 : Int32) (K : Int32 → Int32) : Nat → Int32 → Int32
  | 0, _ => 0
  | f + 1, v5 => if (T.2.2.1 (l1 + 7) (T.1 l0 3 : Int32).toNatClampNeg) ≤ v5 then (K v5) else (if (T.2.2.1 (l1 + 9) (l3 + v5 : Int32).toNatClampNeg) = 1 then (x_wa_agrees_57 T l0 l1 l2 l3 l4 v5 (fun (w1_6 : Int32) => x_wa_agrees_24 T l0 l1 l2 l3 l4 K f (v5 + 1)) 1000 0) else (x_wa_agrees_24 T l0 l1 l2 l3 l4 K f (v5 + 1)))
def ok_wa_agrees_24 (T : St) (l0 : Nat) (l1 : Nat) (l2 : Nat) (l3 : Int32) (l4 : Int32) (Kk : Int32 → Prop) : Nat → Int32 → Prop
  | 0, _ => False
  | f + 1, v5 => (sh l1 = .inr 1) ∧ (sh l0 = .inr 10) ∧ (sh (l1 + 7) = .inl (0, 8)) ∧ (vp_in (T.1 l0 3) 8) ∧ (((T.2.2.1 (l1 + 7) (T.1 l0 3 : Int32).toNatClampNeg) ≤ v5 → Kk v5) ∧ (¬ (T.2.2.1 (l1 + 7) (T.1 l0 3 : Int32).toNatClampNeg) ≤ v5 → (sh (l1 + 9) = .inl (0, 24)) ∧ (vp_in (l3 + v5) 24) ∧ (((T.2.2.1 (l1 + 9) (l3 + v5 : Int32).toNatClampNeg) = 1 → ok_wa_agrees_57 T l0 l1 l2 l3 l4 v5 (fun (w1_6 : Int32) => ok_wa_agrees_24 T l0 l1 l2 l3 l4 Kk f (v5 + 1)) 1000 0) ∧ (¬ (T.2.2.1 (l1 + 9) (l3 + v5 : Int32).toNatClampNeg) = 1 → ok_wa_agrees_24 T l0 l1 l2 l3 l4 Kk f (v5 + 1)))))
theorem c_wa_agrees_24 {X : Nat × (Nat → Int32)} (T : St) (l0 : Nat) (l1 : Nat) (l2 : Nat) (l3 : Int32) (l4 : Int32) {K : Int32 → Int32} {Kk : Int32 → Prop} (hk : ∀ (v5 : Int32), Kk v5 → tR X 1 mX10_agrees 141 [some (.ref l0), some (.ref l1), some (.ref l2), some (.int l3), some (.int l4), some (.int v5), none, none] [] T (some (.int (K v5))) T) : ∀ (f : Nat) (v5 : Int32), ok_wa_agrees_24 T l0 l1 l2 l3 l4 Kk f v5 → tR X 1 mX10_agrees 24 [some (.ref l0), some (.ref l1), some (.ref l2), some (.int l3), some (.int l4), some (.int v5), none, none] [] T (some (.int (x_wa_agrees_24 T l0 l1 l2 l3 l4 K f v5))) T := by
  intro f
  induction f with
  | zero => intro v5 kk; exact kk.elim
  | succ f ih =>
    intro v5 kk
    rw [ok_wa_agrees_24] at kk
    refine r_p dX10_agrees_24 rfl rfl ?_
    refine r_p dX10_agrees_26 rfl rfl ?_
    obtain ⟨q7, kk⟩ := kk
    refine r_get dX10_agrees_27 fkX10_34 q7 rfl ?_
    refine r_p dX10_agrees_30 rfl rfl ?_
    obtain ⟨q8, kk⟩ := kk
    refine r_get dX10_agrees_31 fkX10_22 q8 rfl ?_
    obtain ⟨q9, kk⟩ := kk
    obtain ⟨q10, kk⟩ := kk
    refine r_ia dX10_agrees_34 q9 q10 ?_
    refine r_cge dX10_agrees_35 rfl (fun c35_1 => ?_) (fun c35_1 => ?_)
    · have kk := kk.1 c35_1
      show tR _ _ _ _ [some (.ref l0), some (.ref l1), some (.ref l2), some (.int l3), some (.int l4), some (.int v5), none, none] _ _ _ _
      exact r_eIp (r' := K v5) (by rw [x_wa_agrees_24]; rw [if_pos c35_1]) ((hk v5  kk))
    · have kk := kk.2 c35_1
      refine r_p dX10_agrees_38 rfl rfl ?_
      refine r_get dX10_agrees_39 fkX10_38 q7 rfl ?_
      refine r_p dX10_agrees_42 rfl rfl ?_
      refine r_p dX10_agrees_43 rfl rfl ?_
      refine r_p dX10_agrees_45 rfl rfl ?_
      obtain ⟨q11, kk⟩ := kk
      obtain ⟨q12, kk⟩ := kk
      refine r_ia dX10_agrees_46 q11 q12 ?_
      refine r_ci (x := 1) dX10_agrees_47 rfl ?_
      refine r_ceq dX10_agrees_48 rfl (fun c48_2 => ?_) (fun c48_2 => ?_)
      · have kk := kk.1 c48_2
        refine r_ci (x := 0) dX10_agrees_54 rfl ?_
        refine r_p dX10_agrees_55 rfl rfl ?_
        show tR _ _ _ _ [some (.ref l0), some (.ref l1), some (.ref l2), some (.int l3), some (.int l4), some (.int v5), some (.int 0), none] _ _ _ _
        refine r_eIp (r' := x_wa_agrees_57 T l0 l1 l2 l3 l4 v5 (fun (w1_6 : Int32) => x_wa_agrees_24 T l0 l1 l2 l3 l4 K f (v5 + 1)) 1000 0) (by rw [x_wa_agrees_24]; rw [if_neg c35_1, if_pos c48_2]) ((c_wa_agrees_57 T l0 l1 l2 l3 l4 v5 (fun w1_6 kk => ?_) 1000 0  kk))
        · try dsimp only at kk
          refine r_inc (y := 1) dX10_agrees_135 rfl rfl rfl ?_
          refine r_go dX10_agrees_138 rfl ?_
          show tR _ _ _ _ [some (.ref l0), some (.ref l1), some (.ref l2), some (.int l3), some (.int l4), some (.int (v5 + 1)), some (.int w1_6), none] _ _ _ _
          exact r_eIp (r' := x_wa_agrees_24 T l0 l1 l2 l3 l4 K f (v5 + 1)) rfl (r_le (le_s (le_s (le_s (le_s (le_s (le_s (le_n (le_s (le_0))))))))) (ih (v5 + 1)  kk))
      · have kk := kk.2 c48_2
        refine r_go dX10_agrees_51 rfl ?_
        refine r_inc (y := 1) dX10_agrees_135 rfl rfl rfl ?_
        refine r_go dX10_agrees_138 rfl ?_
        show tR _ _ _ _ [some (.ref l0), some (.ref l1), some (.ref l2), some (.int l3), some (.int l4), some (.int (v5 + 1)), none, none] _ _ _ _
        exact r_eIp (r' := x_wa_agrees_24 T l0 l1 l2 l3 l4 K f (v5 + 1)) (by rw [x_wa_agrees_24]; rw [if_neg c35_1, if_neg c48_2]) ((ih (v5 + 1)  kk))
def x_wa_agrees (T : St) (a : Nat) (p0 : Nat) (p1 : Nat) : Int32 := x_wa_agrees_24 T a p0 p1 (T.2.2.1 (p0 + 8) (T.1 a 3 : Int32).toNatClampNeg) (T.2.2.1 (p0 + 8) (T.1 p1 3 : Int32).toNatClampNeg) (fun (w2_5 : Int32) => 1) 1000 0
def ok_wa_agrees (T : St) (a : Nat) (p0 : Nat) (p1 : Nat) : Prop := (sh p0 = .inr 1) ∧ (sh a = .inr 10) ∧ (sh (p0 + 8) = .inl (0, 8)) ∧ (vp_in (T.1 a 3) 8) ∧ (sh p1 = .inr 10) ∧ (vp_in (T.1 p1 3) 8) ∧ ok_wa_agrees_24 T a p0 p1 (T.2.2.1 (p0 + 8) (T.1 a 3 : Int32).toNatClampNeg) (T.2.2.1 (p0 + 8) (T.1 p1 3 : Int32).toNatClampNeg) (fun (w2_5 : Int32) => True) 1000 0
theorem c_wa_agrees {X : Nat × (Nat → Int32)} {T : St} (a : Nat) (p0 : Nat) (p1 : Nat) (kk : ok_wa_agrees T a p0 p1) : tC X 2 mX10_agrees [.ref a, .ref p0, .ref p1] T (some (.int (x_wa_agrees T a p0 p1))) T := by
  unfold ok_wa_agrees at kk
  refine tC_of ?_
  refine r_p dX10_agrees_0 rfl rfl ?_
  obtain ⟨q1, kk⟩ := kk
  refine r_get dX10_agrees_1 fkX10_26 q1 rfl ?_
  refine r_p dX10_agrees_4 rfl rfl ?_
  obtain ⟨q2, kk⟩ := kk
  refine r_get dX10_agrees_5 fkX10_22 q2 rfl ?_
  obtain ⟨q3, kk⟩ := kk
  obtain ⟨q4, kk⟩ := kk
  refine r_ia dX10_agrees_8 q3 q4 ?_
  refine r_p dX10_agrees_9 rfl rfl ?_
  refine r_p dX10_agrees_10 rfl rfl ?_
  refine r_get dX10_agrees_11 fkX10_26 q1 rfl ?_
  refine r_p dX10_agrees_14 rfl rfl ?_
  obtain ⟨q5, kk⟩ := kk
  refine r_get dX10_agrees_15 fkX10_22 q5 rfl ?_
  obtain ⟨q6, kk⟩ := kk
  refine r_ia dX10_agrees_18 q3 q6 ?_
  refine r_p dX10_agrees_19 rfl rfl ?_
  refine r_ci (x := 0) dX10_agrees_21 rfl ?_
  refine r_p dX10_agrees_22 rfl rfl ?_
  show tR _ _ _ _ [some (.ref a), some (.ref p0), some (.ref p1), some (.int (T.2.2.1 (p0 + 8) (T.1 a 3 : Int32).toNatClampNeg)), some (.int (T.2.2.1 (p0 + 8) (T.1 p1 3 : Int32).toNatClampNeg)), some (.int 0), none, none] _ _ _ _
  refine r_eIp (r' := x_wa_agrees_24 T a p0 p1 (T.2.2.1 (p0 + 8) (T.1 a 3 : Int32).toNatClampNeg) (T.2.2.1 (p0 + 8) (T.1 p1 3 : Int32).toNatClampNeg) (fun (w2_5 : Int32) => 1) 1000 0) (by unfold x_wa_agrees; rfl) ((c_wa_agrees_24 T a p0 p1 (T.2.2.1 (p0 + 8) (T.1 a 3 : Int32).toNatClampNeg) (T.2.2.1 (p0 + 8) (T.1 p1 3 : Int32).toNatClampNeg) (fun w2_5 kk => ?_) 1000 0  kk))
  · refine r_ci (x := 1) dX10_agrees_141 rfl ?_
    exact r_eIp (r' := 1) rfl (r_ri dX10_agrees_142 rfl rfl rfl rfl)
def x_x_feed (T : St) (p0 : Int64) (p1 : Int32) : Int32 × St := if p1 < 1 then ((-1000001), T) else (if p1 ≤ 8 then (if (x_rd_hasRoom T p1) = 0 then ((-1000003), T) else ((x_rd_put T p0 p1).1 13 1, x_rd_put T p0 p1)) else ((-1000001), T))
def ok_x_feed (T : St) (p0 : Int64) (p1 : Int32) : Prop := (¬ p1 < 1 → (p1 ≤ 8 → (¬ (x_rd_hasRoom T p1) = 0 → (ok_rd_put T p0 p1) ∧ True)))
theorem c_x_feed {X : Nat × (Nat → Int32)} {T : St} (p0 : Int64) (p1 : Int32) (kk : ok_x_feed T p0 p1) : tC X 2 mX11_feed [.ref 0, .long p0, .int p1] T (some (.int (x_x_feed T p0 p1).1)) ((x_x_feed T p0 p1).2) := by
  unfold ok_x_feed at kk
  refine tC_of ?_
  refine r_p dX11_feed_0 rfl rfl ?_
  refine r_ci (x := 1) dX11_feed_1 rfl ?_
  refine r_clt dX11_feed_2 rfl (fun c2_1 => ?_) (fun c2_1 => ?_)
  · refine r_k dX11_feed_11 kkX11_82 ?_
    exact r_eI (r' := ((-1000001), T)) (by unfold x_x_feed; rw [if_pos c2_1]) (r_ri dX11_feed_13 rfl rfl rfl rfl)
  · have kk := kk c2_1
    refine r_p dX11_feed_5 rfl rfl ?_
    refine r_cb (x := 8) dX11_feed_6 rfl ?_
    refine r_cle dX11_feed_8 rfl (fun c8_2 => ?_) (fun c8_2 => ?_)
    · have kk := kk c8_2
      refine r_p dX11_feed_14 rfl rfl ?_
      refine r_get dX11_feed_15 fkX11_19 rfl rfl ?_
      refine r_p dX11_feed_18 rfl rfl ?_
      refine r_cv (d1 := 1) dX11_feed_19 cvX11_122 rfl rfl rfl rfl (Nat.le_of_ble_eq_true rfl) (Nat.le_of_ble_eq_true rfl) (Nat.le_of_ble_eq_true rfl) (c_rd_hasRoom p1) ?_
      refine r_ine dX11_feed_22 rfl (fun c22_3 => ?_) (fun c22_3 => ?_)
      · have kk := kk c22_3
        refine r_p dX11_feed_28 rfl rfl ?_
        refine r_get dX11_feed_29 fkX11_19 rfl rfl ?_
        refine r_p dX11_feed_32 rfl rfl ?_
        refine r_p dX11_feed_33 rfl rfl ?_
        obtain ⟨q1, kk⟩ := kk
        refine r_cv (d1 := 1) dX11_feed_34 cvX11_126 rfl rfl rfl rfl (Nat.le_of_ble_eq_true rfl) (Nat.le_of_ble_eq_true rfl) (Nat.le_of_ble_eq_true rfl) (c_rd_put p0 p1 q1) ?_
        refine r_p dX11_feed_37 rfl rfl ?_
        refine r_get dX11_feed_38 fkX11_19 rfl rfl ?_
        refine r_get dX11_feed_41 fkX11_130 rfl rfl ?_
        exact r_eI (r' := ((x_rd_put T p0 p1).1 13 1, x_rd_put T p0 p1)) (by unfold x_x_feed; rw [if_neg c2_1, if_pos c8_2, if_neg c22_3]) (r_ri dX11_feed_44 rfl rfl rfl rfl)
      · refine r_k dX11_feed_25 kkX11_125 ?_
        exact r_eI (r' := ((-1000003), T)) (by unfold x_x_feed; rw [if_neg c2_1, if_pos c8_2, if_pos c22_3]) (r_ri dX11_feed_27 rfl rfl rfl rfl)
    · refine r_k dX11_feed_11 kkX11_82 ?_
      exact r_eI (r' := ((-1000001), T)) (by unfold x_x_feed; rw [if_neg c2_1, if_neg c8_2]) (r_ri dX11_feed_13 rfl rfl rfl rfl)
def x_x_fault (T : St)  : Int32 := T.1 0 13
theorem c_x_fault {X : Nat × (Nat → Int32)} {T : St}  : tC X 1 mX11_fault [.ref 0] T (some (.int (x_x_fault T))) T := by
  refine tC_of ?_
  refine r_p dX11_fault_0 rfl rfl ?_
  refine r_get dX11_fault_1 fkX11_141 rfl rfl ?_
  exact r_eIp (r' := (T.1 0 13)) (by unfold x_x_fault; rfl) (r_ri dX11_fault_4 rfl rfl rfl rfl)
def x_x_dish (T : St) (p0 : Int32) (p1 : Int32) : Int32 := if p0 < 0 then (-1000001) else (if p0 < (T.1 (T.2.1 0) 4) then (if p1 = 0 then (T.2.2.1 ((T.2.1 0) + 4) (p0 : Int32).toNatClampNeg) else (if p1 = 1 then (T.2.2.1 ((T.2.1 0) + 5) (p0 : Int32).toNatClampNeg) else (if p1 = 2 then (T.2.2.1 ((T.2.1 0) + 6) (p0 : Int32).toNatClampNeg) else (if p1 = 3 then (T.2.2.1 ((T.2.1 0) + 7) (p0 : Int32).toNatClampNeg) else (if p1 = 4 then (T.2.2.1 ((T.2.1 0) + 8) (p0 : Int32).toNatClampNeg) else (if p1 = 5 then (((T.2.2.1 ((T.2.1 0) + 4) (p0 : Int32).toNatClampNeg) + 1) * ((x_bk_waitBehind T (T.2.1 0) p0 0) + 1)) * ((x_bk_waitBehind T (T.2.1 0) p0 1) + 1) else (-1000001))))))) else (-1000001))
def ok_x_dish (T : St) (p0 : Int32) (p1 : Int32) : Prop := (¬ p0 < 0 → (sh (T.2.1 0) = .inr 1) ∧ (p0 < (T.1 (T.2.1 0) 4) → ((p1 = 0 → (sh ((T.2.1 0) + 4) = .inl (0, 8)) ∧ (vp_in p0 8) ∧ True) ∧ (¬ p1 = 0 → ((p1 = 1 → (sh ((T.2.1 0) + 5) = .inl (0, 8)) ∧ (vp_in p0 8) ∧ True) ∧ (¬ p1 = 1 → ((p1 = 2 → (sh ((T.2.1 0) + 6) = .inl (0, 8)) ∧ (vp_in p0 8) ∧ True) ∧ (¬ p1 = 2 → ((p1 = 3 → (sh ((T.2.1 0) + 7) = .inl (0, 8)) ∧ (vp_in p0 8) ∧ True) ∧ (¬ p1 = 3 → ((p1 = 4 → (sh ((T.2.1 0) + 8) = .inl (0, 8)) ∧ (vp_in p0 8) ∧ True) ∧ (¬ p1 = 4 → (p1 = 5 → (sh ((T.2.1 0) + 4) = .inl (0, 8)) ∧ (vp_in p0 8) ∧ (ok_bk_waitBehind T (T.2.1 0) p0 0) ∧ (ok_bk_waitBehind T (T.2.1 0) p0 1) ∧ True)))))))))))))
theorem c_x_dish {X : Nat × (Nat → Int32)} {T : St} (p0 : Int32) (p1 : Int32) (kk : ok_x_dish T p0 p1) : tC X 2 mX11_dish [.ref 0, .int p0, .int p1] T (some (.int (x_x_dish T p0 p1))) T := by
  unfold ok_x_dish at kk
  refine tC_of ?_
  refine r_p dX11_dish_0 rfl rfl ?_
  refine r_ilt dX11_dish_1 rfl (fun c1_1 => ?_) (fun c1_1 => ?_)
  · refine r_k dX11_dish_15 kkX11_82 ?_
    exact r_eIp (r' := (-1000001)) (by unfold x_x_dish; rw [if_pos c1_1]) (r_ri dX11_dish_17 rfl rfl rfl rfl)
  · have kk := kk c1_1
    refine r_p dX11_dish_4 rfl rfl ?_
    refine r_p dX11_dish_5 rfl rfl ?_
    refine r_get dX11_dish_6 fkX11_30 rfl rfl ?_
    obtain ⟨q1, kk⟩ := kk
    refine r_get dX11_dish_9 fkX11_149 q1 rfl ?_
    refine r_clt dX11_dish_12 rfl (fun c12_2 => ?_) (fun c12_2 => ?_)
    · have kk := kk c12_2
      refine r_p dX11_dish_18 rfl rfl ?_
      by_cases s19_3_0 : p1 = 0
      · have kk := kk.1 s19_3_0
        refine r_tin dX11_dish_19 (by rw [s19_3_0]; decide) (by rw [s19_3_0]; decide) (off := 37) (by rw [s19_3_0]; rfl) rfl ?_
        refine r_p dX11_dish_56 rfl rfl ?_
        refine r_get dX11_dish_57 fkX11_30 rfl rfl ?_
        refine r_get dX11_dish_60 fkX11_152 q1 rfl ?_
        refine r_p dX11_dish_63 rfl rfl ?_
        obtain ⟨q2, kk⟩ := kk
        obtain ⟨q3, kk⟩ := kk
        refine r_ia dX11_dish_64 q2 q3 ?_
        exact r_eIp (r' := (T.2.2.1 ((T.2.1 0) + 4) (p0 : Int32).toNatClampNeg)) (by unfold x_x_dish; rw [if_neg c1_1, if_pos c12_2, if_pos s19_3_0]) (r_ri dX11_dish_65 rfl rfl rfl rfl)
      · have kk := kk.2 s19_3_0
        by_cases s19_3_1 : p1 = 1
        · have kk := kk.1 s19_3_1
          refine r_tin dX11_dish_19 (by rw [s19_3_1]; decide) (by rw [s19_3_1]; decide) (off := 47) (by rw [s19_3_1]; rfl) rfl ?_
          refine r_p dX11_dish_66 rfl rfl ?_
          refine r_get dX11_dish_67 fkX11_30 rfl rfl ?_
          refine r_get dX11_dish_70 fkX11_155 q1 rfl ?_
          refine r_p dX11_dish_73 rfl rfl ?_
          obtain ⟨q4, kk⟩ := kk
          obtain ⟨q5, kk⟩ := kk
          refine r_ia dX11_dish_74 q4 q5 ?_
          exact r_eIp (r' := (T.2.2.1 ((T.2.1 0) + 5) (p0 : Int32).toNatClampNeg)) (by unfold x_x_dish; rw [if_neg c1_1, if_pos c12_2, if_neg s19_3_0, if_pos s19_3_1]) (r_ri dX11_dish_75 rfl rfl rfl rfl)
        · have kk := kk.2 s19_3_1
          by_cases s19_3_2 : p1 = 2
          · have kk := kk.1 s19_3_2
            refine r_tin dX11_dish_19 (by rw [s19_3_2]; decide) (by rw [s19_3_2]; decide) (off := 57) (by rw [s19_3_2]; rfl) rfl ?_
            refine r_p dX11_dish_76 rfl rfl ?_
            refine r_get dX11_dish_77 fkX11_30 rfl rfl ?_
            refine r_get dX11_dish_80 fkX11_158 q1 rfl ?_
            refine r_p dX11_dish_83 rfl rfl ?_
            obtain ⟨q6, kk⟩ := kk
            obtain ⟨q7, kk⟩ := kk
            refine r_ia dX11_dish_84 q6 q7 ?_
            exact r_eIp (r' := (T.2.2.1 ((T.2.1 0) + 6) (p0 : Int32).toNatClampNeg)) (by unfold x_x_dish; rw [if_neg c1_1, if_pos c12_2, if_neg s19_3_0, if_neg s19_3_1, if_pos s19_3_2]) (r_ri dX11_dish_85 rfl rfl rfl rfl)
          · have kk := kk.2 s19_3_2
            by_cases s19_3_3 : p1 = 3
            · have kk := kk.1 s19_3_3
              refine r_tin dX11_dish_19 (by rw [s19_3_3]; decide) (by rw [s19_3_3]; decide) (off := 67) (by rw [s19_3_3]; rfl) rfl ?_
              refine r_p dX11_dish_86 rfl rfl ?_
              refine r_get dX11_dish_87 fkX11_30 rfl rfl ?_
              refine r_get dX11_dish_90 fkX11_161 q1 rfl ?_
              refine r_p dX11_dish_93 rfl rfl ?_
              obtain ⟨q8, kk⟩ := kk
              obtain ⟨q9, kk⟩ := kk
              refine r_ia dX11_dish_94 q8 q9 ?_
              exact r_eIp (r' := (T.2.2.1 ((T.2.1 0) + 7) (p0 : Int32).toNatClampNeg)) (by unfold x_x_dish; rw [if_neg c1_1, if_pos c12_2, if_neg s19_3_0, if_neg s19_3_1, if_neg s19_3_2, if_pos s19_3_3]) (r_ri dX11_dish_95 rfl rfl rfl rfl)
            · have kk := kk.2 s19_3_3
              by_cases s19_3_4 : p1 = 4
              · have kk := kk.1 s19_3_4
                refine r_tin dX11_dish_19 (by rw [s19_3_4]; decide) (by rw [s19_3_4]; decide) (off := 77) (by rw [s19_3_4]; rfl) rfl ?_
                refine r_p dX11_dish_96 rfl rfl ?_
                refine r_get dX11_dish_97 fkX11_30 rfl rfl ?_
                refine r_get dX11_dish_100 fkX11_164 q1 rfl ?_
                refine r_p dX11_dish_103 rfl rfl ?_
                obtain ⟨q10, kk⟩ := kk
                obtain ⟨q11, kk⟩ := kk
                refine r_ia dX11_dish_104 q10 q11 ?_
                exact r_eIp (r' := (T.2.2.1 ((T.2.1 0) + 8) (p0 : Int32).toNatClampNeg)) (by unfold x_x_dish; rw [if_neg c1_1, if_pos c12_2, if_neg s19_3_0, if_neg s19_3_1, if_neg s19_3_2, if_neg s19_3_3, if_pos s19_3_4]) (r_ri dX11_dish_105 rfl rfl rfl rfl)
              · have kk := kk.2 s19_3_4
                by_cases s19_3_5 : p1 = 5
                · have kk := kk s19_3_5
                  refine r_tin dX11_dish_19 (by rw [s19_3_5]; decide) (by rw [s19_3_5]; decide) (off := 87) (by rw [s19_3_5]; rfl) rfl ?_
                  refine r_p dX11_dish_106 rfl rfl ?_
                  refine r_get dX11_dish_107 fkX11_30 rfl rfl ?_
                  refine r_get dX11_dish_110 fkX11_152 q1 rfl ?_
                  refine r_p dX11_dish_113 rfl rfl ?_
                  obtain ⟨q12, kk⟩ := kk
                  obtain ⟨q13, kk⟩ := kk
                  refine r_ia dX11_dish_114 q12 q13 ?_
                  refine r_ci (x := 1) dX11_dish_115 rfl ?_
                  refine r_p dX11_dish_116 rfl rfl ?_
                  refine r_p dX11_dish_117 rfl rfl ?_
                  refine r_get dX11_dish_118 fkX11_30 rfl rfl ?_
                  refine r_p dX11_dish_121 rfl rfl ?_
                  refine r_ci (x := 0) dX11_dish_122 rfl ?_
                  obtain ⟨q14, kk⟩ := kk
                  refine r_cv (d1 := 1) dX11_dish_123 cvX11_167 rfl rfl q1 rfl (Nat.le_of_ble_eq_true rfl) (Nat.le_of_ble_eq_true rfl) (Nat.le_of_ble_eq_true rfl) (c_bk_waitBehind (T.2.1 0) p0 0 q14) ?_
                  refine r_ci (x := 1) dX11_dish_126 rfl ?_
                  refine r_p dX11_dish_127 rfl rfl ?_
                  refine r_p dX11_dish_128 rfl rfl ?_
                  refine r_p dX11_dish_129 rfl rfl ?_
                  refine r_get dX11_dish_130 fkX11_30 rfl rfl ?_
                  refine r_p dX11_dish_133 rfl rfl ?_
                  refine r_ci (x := 1) dX11_dish_134 rfl ?_
                  obtain ⟨q15, kk⟩ := kk
                  refine r_cv (d1 := 1) dX11_dish_135 cvX11_167 rfl rfl q1 rfl (Nat.le_of_ble_eq_true rfl) (Nat.le_of_ble_eq_true rfl) (Nat.le_of_ble_eq_true rfl) (c_bk_waitBehind (T.2.1 0) p0 1 q15) ?_
                  refine r_ci (x := 1) dX11_dish_138 rfl ?_
                  refine r_p dX11_dish_139 rfl rfl ?_
                  refine r_p dX11_dish_140 rfl rfl ?_
                  exact r_eIp (r' := ((((T.2.2.1 ((T.2.1 0) + 4) (p0 : Int32).toNatClampNeg) + 1) * ((x_bk_waitBehind T (T.2.1 0) p0 0) + 1)) * ((x_bk_waitBehind T (T.2.1 0) p0 1) + 1))) (by unfold x_x_dish; rw [if_neg c1_1, if_pos c12_2, if_neg s19_3_0, if_neg s19_3_1, if_neg s19_3_2, if_neg s19_3_3, if_neg s19_3_4, if_pos s19_3_5]) (r_ri dX11_dish_141 rfl rfl rfl rfl)
                · refine r_tout dX11_dish_19 (by have := i_rg (p1); simp only [i_eq, i_0, i_1, i_2, i_3, i_4, i_5] at s19_3_0 s19_3_1 s19_3_2 s19_3_3 s19_3_4 s19_3_5; omega) rfl ?_
                  refine r_k dX11_dish_142 kkX11_82 ?_
                  exact r_eIp (r' := (-1000001)) (by unfold x_x_dish; rw [if_neg c1_1, if_pos c12_2, if_neg s19_3_0, if_neg s19_3_1, if_neg s19_3_2, if_neg s19_3_3, if_neg s19_3_4, if_neg s19_3_5]) (r_ri dX11_dish_144 rfl rfl rfl rfl)
    · refine r_k dX11_dish_15 kkX11_82 ?_
      exact r_eIp (r' := (-1000001)) (by unfold x_x_dish; rw [if_neg c1_1, if_neg c12_2]) (r_ri dX11_dish_17 rfl rfl rfl rfl)
def x_x_step (T : St) (p0 : Int32) (p1 : Int32) : Int32 := if (x_bk_hasStep T (T.2.1 0) p0) = 0 then (-1000001) else (if p1 = 0 then (T.2.2.1 ((T.2.1 0) + 10) (p0 : Int32).toNatClampNeg) else (if p1 = 1 then (T.2.2.1 ((T.2.1 0) + 11) (p0 : Int32).toNatClampNeg) else (if p1 = 2 then (T.2.2.1 ((T.2.1 0) + 12) (p0 : Int32).toNatClampNeg) else (if p1 = 3 then (T.2.2.1 ((T.2.1 0) + 13) (p0 : Int32).toNatClampNeg) else (if p1 = 4 then (T.2.2.1 ((T.2.1 0) + 14) (p0 : Int32).toNatClampNeg) else (-1000001))))))
def ok_x_step (T : St) (p0 : Int32) (p1 : Int32) : Prop := (ok_bk_hasStep T (T.2.1 0) p0) ∧ (sh (T.2.1 0) = .inr 1) ∧ (¬ (x_bk_hasStep T (T.2.1 0) p0) = 0 → ((p1 = 0 → (sh ((T.2.1 0) + 10) = .inl (0, 24)) ∧ (vp_in p0 24) ∧ True) ∧ (¬ p1 = 0 → ((p1 = 1 → (sh ((T.2.1 0) + 11) = .inl (0, 24)) ∧ (vp_in p0 24) ∧ True) ∧ (¬ p1 = 1 → ((p1 = 2 → (sh ((T.2.1 0) + 12) = .inl (0, 24)) ∧ (vp_in p0 24) ∧ True) ∧ (¬ p1 = 2 → ((p1 = 3 → (sh ((T.2.1 0) + 13) = .inl (0, 24)) ∧ (vp_in p0 24) ∧ True) ∧ (¬ p1 = 3 → (p1 = 4 → (sh ((T.2.1 0) + 14) = .inl (0, 24)) ∧ (vp_in p0 24) ∧ True))))))))))
theorem c_x_step {X : Nat × (Nat → Int32)} {T : St} (p0 : Int32) (p1 : Int32) (kk : ok_x_step T p0 p1) : tC X 2 mX11_step [.ref 0, .int p0, .int p1] T (some (.int (x_x_step T p0 p1))) T := by
  unfold ok_x_step at kk
  refine tC_of ?_
  refine r_p dX11_step_0 rfl rfl ?_
  refine r_get dX11_step_1 fkX11_30 rfl rfl ?_
  refine r_p dX11_step_4 rfl rfl ?_
  obtain ⟨q1, kk⟩ := kk
  obtain ⟨q2, kk⟩ := kk
  refine r_cv (d1 := 1) dX11_step_5 cvX11_171 rfl rfl q2 rfl (Nat.le_of_ble_eq_true rfl) (Nat.le_of_ble_eq_true rfl) (Nat.le_of_ble_eq_true rfl) (c_bk_hasStep (T.2.1 0) p0 q1) ?_
  refine r_ine dX11_step_8 rfl (fun c8_1 => ?_) (fun c8_1 => ?_)
  · have kk := kk c8_1
    refine r_p dX11_step_14 rfl rfl ?_
    by_cases s15_2_0 : p1 = 0
    · have kk := kk.1 s15_2_0
      refine r_tin dX11_step_15 (by rw [s15_2_0]; decide) (by rw [s15_2_0]; decide) (off := 33) (by rw [s15_2_0]; rfl) rfl ?_
      refine r_p dX11_step_48 rfl rfl ?_
      refine r_get dX11_step_49 fkX11_30 rfl rfl ?_
      refine r_get dX11_step_52 fkX11_174 q2 rfl ?_
      refine r_p dX11_step_55 rfl rfl ?_
      obtain ⟨q3, kk⟩ := kk
      obtain ⟨q4, kk⟩ := kk
      refine r_ia dX11_step_56 q3 q4 ?_
      exact r_eIp (r' := (T.2.2.1 ((T.2.1 0) + 10) (p0 : Int32).toNatClampNeg)) (by unfold x_x_step; rw [if_neg c8_1, if_pos s15_2_0]) (r_ri dX11_step_57 rfl rfl rfl rfl)
    · have kk := kk.2 s15_2_0
      by_cases s15_2_1 : p1 = 1
      · have kk := kk.1 s15_2_1
        refine r_tin dX11_step_15 (by rw [s15_2_1]; decide) (by rw [s15_2_1]; decide) (off := 43) (by rw [s15_2_1]; rfl) rfl ?_
        refine r_p dX11_step_58 rfl rfl ?_
        refine r_get dX11_step_59 fkX11_30 rfl rfl ?_
        refine r_get dX11_step_62 fkX11_177 q2 rfl ?_
        refine r_p dX11_step_65 rfl rfl ?_
        obtain ⟨q5, kk⟩ := kk
        obtain ⟨q6, kk⟩ := kk
        refine r_ia dX11_step_66 q5 q6 ?_
        exact r_eIp (r' := (T.2.2.1 ((T.2.1 0) + 11) (p0 : Int32).toNatClampNeg)) (by unfold x_x_step; rw [if_neg c8_1, if_neg s15_2_0, if_pos s15_2_1]) (r_ri dX11_step_67 rfl rfl rfl rfl)
      · have kk := kk.2 s15_2_1
        by_cases s15_2_2 : p1 = 2
        · have kk := kk.1 s15_2_2
          refine r_tin dX11_step_15 (by rw [s15_2_2]; decide) (by rw [s15_2_2]; decide) (off := 53) (by rw [s15_2_2]; rfl) rfl ?_
          refine r_p dX11_step_68 rfl rfl ?_
          refine r_get dX11_step_69 fkX11_30 rfl rfl ?_
          refine r_get dX11_step_72 fkX11_180 q2 rfl ?_
          refine r_p dX11_step_75 rfl rfl ?_
          obtain ⟨q7, kk⟩ := kk
          obtain ⟨q8, kk⟩ := kk
          refine r_ia dX11_step_76 q7 q8 ?_
          exact r_eIp (r' := (T.2.2.1 ((T.2.1 0) + 12) (p0 : Int32).toNatClampNeg)) (by unfold x_x_step; rw [if_neg c8_1, if_neg s15_2_0, if_neg s15_2_1, if_pos s15_2_2]) (r_ri dX11_step_77 rfl rfl rfl rfl)
        · have kk := kk.2 s15_2_2
          by_cases s15_2_3 : p1 = 3
          · have kk := kk.1 s15_2_3
            refine r_tin dX11_step_15 (by rw [s15_2_3]; decide) (by rw [s15_2_3]; decide) (off := 63) (by rw [s15_2_3]; rfl) rfl ?_
            refine r_p dX11_step_78 rfl rfl ?_
            refine r_get dX11_step_79 fkX11_30 rfl rfl ?_
            refine r_get dX11_step_82 fkX11_183 q2 rfl ?_
            refine r_p dX11_step_85 rfl rfl ?_
            obtain ⟨q9, kk⟩ := kk
            obtain ⟨q10, kk⟩ := kk
            refine r_ia dX11_step_86 q9 q10 ?_
            exact r_eIp (r' := (T.2.2.1 ((T.2.1 0) + 13) (p0 : Int32).toNatClampNeg)) (by unfold x_x_step; rw [if_neg c8_1, if_neg s15_2_0, if_neg s15_2_1, if_neg s15_2_2, if_pos s15_2_3]) (r_ri dX11_step_87 rfl rfl rfl rfl)
          · have kk := kk.2 s15_2_3
            by_cases s15_2_4 : p1 = 4
            · have kk := kk s15_2_4
              refine r_tin dX11_step_15 (by rw [s15_2_4]; decide) (by rw [s15_2_4]; decide) (off := 73) (by rw [s15_2_4]; rfl) rfl ?_
              refine r_p dX11_step_88 rfl rfl ?_
              refine r_get dX11_step_89 fkX11_30 rfl rfl ?_
              refine r_get dX11_step_92 fkX11_186 q2 rfl ?_
              refine r_p dX11_step_95 rfl rfl ?_
              obtain ⟨q11, kk⟩ := kk
              obtain ⟨q12, kk⟩ := kk
              refine r_ia dX11_step_96 q11 q12 ?_
              exact r_eIp (r' := (T.2.2.1 ((T.2.1 0) + 14) (p0 : Int32).toNatClampNeg)) (by unfold x_x_step; rw [if_neg c8_1, if_neg s15_2_0, if_neg s15_2_1, if_neg s15_2_2, if_neg s15_2_3, if_pos s15_2_4]) (r_ri dX11_step_97 rfl rfl rfl rfl)
            · refine r_tout dX11_step_15 (by have := i_rg (p1); simp only [i_eq, i_0, i_1, i_2, i_3, i_4] at s15_2_0 s15_2_1 s15_2_2 s15_2_3 s15_2_4; omega) rfl ?_
              refine r_k dX11_step_98 kkX11_82 ?_
              exact r_eIp (r' := (-1000001)) (by unfold x_x_step; rw [if_neg c8_1, if_neg s15_2_0, if_neg s15_2_1, if_neg s15_2_2, if_neg s15_2_3, if_neg s15_2_4]) (r_ri dX11_step_100 rfl rfl rfl rfl)
  · refine r_k dX11_step_11 kkX11_82 ?_
    exact r_eIp (r' := (-1000001)) (by unfold x_x_step; rw [if_pos c8_1]) (r_ri dX11_step_13 rfl rfl rfl rfl)
def x_x_kind (T : St) (p0 : Int32) : Int32 := if (x_bk_hasStep T (T.2.1 0) p0) = 0 then (-1000001) else (x_bk_kindOf T (T.2.1 0) p0)
def ok_x_kind (T : St) (p0 : Int32) : Prop := (ok_bk_hasStep T (T.2.1 0) p0) ∧ (sh (T.2.1 0) = .inr 1) ∧ (¬ (x_bk_hasStep T (T.2.1 0) p0) = 0 → (ok_bk_kindOf T (T.2.1 0) p0) ∧ True)
theorem c_x_kind {X : Nat × (Nat → Int32)} {T : St} (p0 : Int32) (kk : ok_x_kind T p0) : tC X 2 mX11_kind [.ref 0, .int p0] T (some (.int (x_x_kind T p0))) T := by
  unfold ok_x_kind at kk
  refine tC_of ?_
  refine r_p dX11_kind_0 rfl rfl ?_
  refine r_get dX11_kind_1 fkX11_30 rfl rfl ?_
  refine r_p dX11_kind_4 rfl rfl ?_
  obtain ⟨q1, kk⟩ := kk
  obtain ⟨q2, kk⟩ := kk
  refine r_cv (d1 := 1) dX11_kind_5 cvX11_171 rfl rfl q2 rfl (Nat.le_of_ble_eq_true rfl) (Nat.le_of_ble_eq_true rfl) (Nat.le_of_ble_eq_true rfl) (c_bk_hasStep (T.2.1 0) p0 q1) ?_
  refine r_ieq dX11_kind_8 rfl (fun c8_1 => ?_) (fun c8_1 => ?_)
  · refine r_k dX11_kind_22 kkX11_82 ?_
    exact r_eIp (r' := (-1000001)) (by unfold x_x_kind; rw [if_pos c8_1]) (r_ri dX11_kind_24 rfl rfl rfl rfl)
  · have kk := kk c8_1
    refine r_p dX11_kind_11 rfl rfl ?_
    refine r_get dX11_kind_12 fkX11_30 rfl rfl ?_
    refine r_p dX11_kind_15 rfl rfl ?_
    obtain ⟨q3, kk⟩ := kk
    refine r_cv (d1 := 1) dX11_kind_16 cvX11_327 rfl rfl q2 rfl (Nat.le_of_ble_eq_true rfl) (Nat.le_of_ble_eq_true rfl) (Nat.le_of_ble_eq_true rfl) (c_bk_kindOf (T.2.1 0) p0 q3) ?_
    refine r_go dX11_kind_19 rfl ?_
    exact r_eIp (r' := (x_bk_kindOf T (T.2.1 0) p0)) (by unfold x_x_kind; rw [if_neg c8_1]) (r_ri dX11_kind_24 rfl rfl rfl rfl)
def x_x_trace (T : St) (p0 : Int32) : Int32 := if p0 < 0 then (-1000000) else (if (T.1 555 1) ≤ p0 then (-1000000) else (T.2.2.1 556 (p0 : Int32).toNatClampNeg))
def ok_x_trace (T : St) (p0 : Int32) : Prop := (¬ p0 < 0 → (¬ (T.1 555 1) ≤ p0 → (vp_in p0 16) ∧ True))
theorem c_x_trace {X : Nat × (Nat → Int32)} {T : St} (p0 : Int32) (kk : ok_x_trace T p0) : tC X 1 mX11_trace [.ref 0, .int p0] T (some (.int (x_x_trace T p0))) T := by
  unfold ok_x_trace at kk
  refine tC_of ?_
  refine r_p dX11_trace_0 rfl rfl ?_
  refine r_ilt dX11_trace_1 rfl (fun c1_1 => ?_) (fun c1_1 => ?_)
  · refine r_k dX11_trace_27 kkX11_241 ?_
    exact r_eIp (r' := (-1000000)) (by unfold x_x_trace; rw [if_pos c1_1]) (r_ri dX11_trace_29 rfl rfl rfl rfl)
  · have kk := kk c1_1
    refine r_p dX11_trace_4 rfl rfl ?_
    refine r_p dX11_trace_5 rfl rfl ?_
    refine r_get dX11_trace_6 fkX11_64 rfl rfl ?_
    refine r_get dX11_trace_9 fkX11_338 rfl rfl ?_
    refine r_cge dX11_trace_12 rfl (fun c12_2 => ?_) (fun c12_2 => ?_)
    · refine r_k dX11_trace_27 kkX11_241 ?_
      exact r_eIp (r' := (-1000000)) (by unfold x_x_trace; rw [if_neg c1_1, if_pos c12_2]) (r_ri dX11_trace_29 rfl rfl rfl rfl)
    · have kk := kk c12_2
      refine r_p dX11_trace_15 rfl rfl ?_
      refine r_get dX11_trace_16 fkX11_64 rfl rfl ?_
      refine r_get dX11_trace_19 fkX11_339 rfl rfl ?_
      refine r_p dX11_trace_22 rfl rfl ?_
      obtain ⟨q1, kk⟩ := kk
      refine r_ia dX11_trace_23 rfl q1 ?_
      refine r_go dX11_trace_24 rfl ?_
      exact r_eIp (r' := (T.2.2.1 556 (p0 : Int32).toNatClampNeg)) (by unfold x_x_trace; rw [if_neg c1_1, if_neg c12_2]) (r_ri dX11_trace_29 rfl rfl rfl rfl)
def x_x_status (T : St)  : Int32 := T.1 0 12
theorem c_x_status {X : Nat × (Nat → Int32)} {T : St}  : tC X 1 mX11_status [.ref 0] T (some (.int (x_x_status T))) T := by
  refine tC_of ?_
  refine r_p dX11_status_0 rfl rfl ?_
  refine r_get dX11_status_1 fkX11_354 rfl rfl ?_
  exact r_eIp (r' := (T.1 0 12)) (by unfold x_x_status; rfl) (r_ri dX11_status_4 rfl rfl rfl rfl)
def x_x_found (T : St) (p0 : Int32) : Int32 × St := ((-1000010) - p0, sF T 0 12 p0)
theorem c_x_found {X : Nat × (Nat → Int32)} {T : St} (p0 : Int32) : tC X 1 mX11_found [.ref 0, .int p0] T (some (.int (x_x_found T p0).1)) ((x_x_found T p0).2) := by
  refine tC_of ?_
  refine r_p dX11_found_0 rfl rfl ?_
  refine r_p dX11_found_1 rfl rfl ?_
  refine r_put dX11_found_2 fkX11_354 rfl rfl rfl (Nat.le_of_ble_eq_true rfl) rfl rfl ?_
  refine r_kw dX11_found_5 kkX11_357 ?_
  refine r_p dX11_found_8 rfl rfl ?_
  refine r_p dX11_found_9 rfl rfl ?_
  exact r_eI (r' := ((-1000010) - p0, sF T 0 12 p0)) (by unfold x_x_found; rfl) (r_ri dX11_found_10 rfl rfl rfl rfl)
def x_x_fine (T : St) (p0 : Int32) : Int32 × St := (p0, sF T 0 12 0)
theorem c_x_fine {X : Nat × (Nat → Int32)} {T : St} (p0 : Int32) : tC X 1 mX11_fine [.ref 0, .int p0] T (some (.int (x_x_fine T p0).1)) ((x_x_fine T p0).2) := by
  refine tC_of ?_
  refine r_p dX11_fine_0 rfl rfl ?_
  refine r_ci (x := 0) dX11_fine_1 rfl ?_
  refine r_put dX11_fine_2 fkX11_354 rfl rfl rfl (Nat.le_of_ble_eq_true rfl) rfl rfl ?_
  refine r_p dX11_fine_5 rfl rfl ?_
  exact r_eI (r' := (p0, sF T 0 12 0)) (by unfold x_x_fine; rfl) (r_ri dX11_fine_6 rfl rfl rfl rfl)
def x_x_refusal (T : St) (p0 : Int32) : Int32 := if p0 = 0 then (-1000001) else (if (x_bk_isRead T (T.2.1 0)) = 0 then (-1000002) else (0))
def ok_x_refusal (T : St) (p0 : Int32) : Prop := (¬ p0 = 0 → (ok_bk_isRead T (T.2.1 0)) ∧ (sh (T.2.1 0) = .inr 1) ∧ True)
theorem c_x_refusal {X : Nat × (Nat → Int32)} {T : St} (p0 : Int32) (kk : ok_x_refusal T p0) : tC X 2 mX11_refusal [.ref 0, .int p0] T (some (.int (x_x_refusal T p0))) T := by
  unfold ok_x_refusal at kk
  refine tC_of ?_
  refine r_p dX11_refusal_0 rfl rfl ?_
  refine r_ine dX11_refusal_1 rfl (fun c1_1 => ?_) (fun c1_1 => ?_)
  · have kk := kk c1_1
    refine r_p dX11_refusal_7 rfl rfl ?_
    refine r_get dX11_refusal_8 fkX11_30 rfl rfl ?_
    obtain ⟨q1, kk⟩ := kk
    obtain ⟨q2, kk⟩ := kk
    refine r_cv (d1 := 1) dX11_refusal_11 cvX11_189 rfl rfl q2 rfl (Nat.le_of_ble_eq_true rfl) (Nat.le_of_ble_eq_true rfl) (Nat.le_of_ble_eq_true rfl) (c_bk_isRead (T.2.1 0) q1) ?_
    refine r_ieq dX11_refusal_14 rfl (fun c14_2 => ?_) (fun c14_2 => ?_)
    · refine r_k dX11_refusal_21 kkX11_193 ?_
      exact r_eIp (r' := (-1000002)) (by unfold x_x_refusal; rw [if_neg c1_1, if_pos c14_2]) (r_ri dX11_refusal_23 rfl rfl rfl rfl)
    · refine r_ci (x := 0) dX11_refusal_17 rfl ?_
      refine r_go dX11_refusal_18 rfl ?_
      exact r_eIp (r' := 0) (by unfold x_x_refusal; rw [if_neg c1_1, if_neg c14_2]) (r_ri dX11_refusal_23 rfl rfl rfl rfl)
  · refine r_k dX11_refusal_4 kkX11_82 ?_
    exact r_eIp (r' := (-1000001)) (by unfold x_x_refusal; rw [if_pos c1_1]) (r_ri dX11_refusal_6 rfl rfl rfl rfl)
def x_x_isTime (T : St) (p0 : Int32) : Int32 := if p0 < 1 then (0) else (if 60 < p0 then (0) else (1))
theorem c_x_isTime {X : Nat × (Nat → Int32)} {T : St} (p0 : Int32) : tC X 1 mX11_isTime [.int p0] T (some (.int (x_x_isTime T p0))) T := by
  refine tC_of ?_
  refine r_p dX11_isTime_0 rfl rfl ?_
  refine r_ci (x := 1) dX11_isTime_1 rfl ?_
  refine r_clt dX11_isTime_2 rfl (fun c2_1 => ?_) (fun c2_1 => ?_)
  · refine r_ci (x := 0) dX11_isTime_15 rfl ?_
    exact r_eIp (r' := 0) (by unfold x_x_isTime; rw [if_pos c2_1]) (r_ri dX11_isTime_16 rfl rfl rfl rfl)
  · refine r_p dX11_isTime_5 rfl rfl ?_
    refine r_cb (x := 60) dX11_isTime_6 rfl ?_
    refine r_cgt dX11_isTime_8 rfl (fun c8_2 => ?_) (fun c8_2 => ?_)
    · refine r_ci (x := 0) dX11_isTime_15 rfl ?_
      exact r_eIp (r' := 0) (by unfold x_x_isTime; rw [if_neg c2_1, if_pos c8_2]) (r_ri dX11_isTime_16 rfl rfl rfl rfl)
    · refine r_ci (x := 1) dX11_isTime_11 rfl ?_
      refine r_go dX11_isTime_12 rfl ?_
      exact r_eIp (r' := 1) (by unfold x_x_isTime; rw [if_neg c2_1, if_neg c8_2]) (r_ri dX11_isTime_16 rfl rfl rfl rfl)
theorem b_x_isTime (T : St) (p0 : Int32) : x_x_isTime T p0 = 0 ∨ x_x_isTime T p0 = 1 := by
  unfold x_x_isTime
  repeat' split
  all_goals (first | exact Or.inl rfl | exact Or.inr rfl)
def x_x_isMinute (T : St) (p0 : Int32) : Int32 := if p0 < 0 then (0) else (if 60 ≤ p0 then (0) else (1))
theorem c_x_isMinute {X : Nat × (Nat → Int32)} {T : St} (p0 : Int32) : tC X 1 mX11_isMinute [.int p0] T (some (.int (x_x_isMinute T p0))) T := by
  refine tC_of ?_
  refine r_p dX11_isMinute_0 rfl rfl ?_
  refine r_ilt dX11_isMinute_1 rfl (fun c1_1 => ?_) (fun c1_1 => ?_)
  · refine r_ci (x := 0) dX11_isMinute_14 rfl ?_
    exact r_eIp (r' := 0) (by unfold x_x_isMinute; rw [if_pos c1_1]) (r_ri dX11_isMinute_15 rfl rfl rfl rfl)
  · refine r_p dX11_isMinute_4 rfl rfl ?_
    refine r_cb (x := 60) dX11_isMinute_5 rfl ?_
    refine r_cge dX11_isMinute_7 rfl (fun c7_2 => ?_) (fun c7_2 => ?_)
    · refine r_ci (x := 0) dX11_isMinute_14 rfl ?_
      exact r_eIp (r' := 0) (by unfold x_x_isMinute; rw [if_neg c1_1, if_pos c7_2]) (r_ri dX11_isMinute_15 rfl rfl rfl rfl)
    · refine r_ci (x := 1) dX11_isMinute_10 rfl ?_
      refine r_go dX11_isMinute_11 rfl ?_
      exact r_eIp (r' := 1) (by unfold x_x_isMinute; rw [if_neg c1_1, if_neg c7_2]) (r_ri dX11_isMinute_15 rfl rfl rfl rfl)
theorem b_x_isMinute (T : St) (p0 : Int32) : x_x_isMinute T p0 = 0 ∨ x_x_isMinute T p0 = 1 := by
  unfold x_x_isMinute
  repeat' split
  all_goals (first | exact Or.inl rfl | exact Or.inr rfl)
def x_x_span (T : St) (p0 : Int32) (p1 : Int32) : Int64 := if p0 < 0 then (0) else (if p1 ≤ 0 then (0) else (if (p0 + p1) ≤ 60 then ((1 <<< ((p1 : Int32).toInt64 &&& 63)) - 1) <<< ((p0 : Int32).toInt64 &&& 63) else (0)))
theorem c_x_span {X : Nat × (Nat → Int32)} {T : St} (p0 : Int32) (p1 : Int32) : tC X 1 mX11_span [.int p0, .int p1] T (some (.long (x_x_span T p0 p1))) T := by
  refine tC_of ?_
  refine r_p dX11_span_0 rfl rfl ?_
  refine r_ilt dX11_span_1 rfl (fun c1_1 => ?_) (fun c1_1 => ?_)
  · refine r_cl (x := 0) dX11_span_16 rfl ?_
    exact r_eJp (r' := 0) (by unfold x_x_span; rw [if_pos c1_1]) (r_rl dX11_span_17 rfl rfl rfl)
  · refine r_p dX11_span_4 rfl rfl ?_
    refine r_ile dX11_span_5 rfl (fun c5_2 => ?_) (fun c5_2 => ?_)
    · refine r_cl (x := 0) dX11_span_16 rfl ?_
      exact r_eJp (r' := 0) (by unfold x_x_span; rw [if_neg c1_1, if_pos c5_2]) (r_rl dX11_span_17 rfl rfl rfl)
    · refine r_p dX11_span_8 rfl rfl ?_
      refine r_p dX11_span_9 rfl rfl ?_
      refine r_p dX11_span_10 rfl rfl ?_
      refine r_cb (x := 60) dX11_span_11 rfl ?_
      refine r_cle dX11_span_13 rfl (fun c13_3 => ?_) (fun c13_3 => ?_)
      · refine r_cl (x := 1) dX11_span_18 rfl ?_
        refine r_p dX11_span_19 rfl rfl ?_
        refine r_p dX11_span_20 rfl rfl ?_
        refine r_cl (x := 1) dX11_span_21 rfl ?_
        refine r_p dX11_span_22 rfl rfl ?_
        refine r_p dX11_span_23 rfl rfl ?_
        refine r_p dX11_span_24 rfl rfl ?_
        exact r_eJp (r' := (((1 <<< ((p1 : Int32).toInt64 &&& 63)) - 1) <<< ((p0 : Int32).toInt64 &&& 63))) (by unfold x_x_span; rw [if_neg c1_1, if_neg c5_2, if_pos c13_3]) (r_rl dX11_span_25 rfl rfl rfl)
      · refine r_cl (x := 0) dX11_span_16 rfl ?_
        exact r_eJp (r' := 0) (by unfold x_x_span; rw [if_neg c1_1, if_neg c5_2, if_neg c13_3]) (r_rl dX11_span_17 rfl rfl rfl)
def x_m_in (T : St) (p0 : Int64) (p1 : Int64) (p2 : Int64) : Int32 := if (lg_cmp p0 p1) < 0 then (0) else (if 0 < (lg_cmp p0 p2) then (0) else (1))
theorem c_m_in {X : Nat × (Nat → Int32)} {T : St} (p0 : Int64) (p1 : Int64) (p2 : Int64) : tC X 1 mX12_in [.long p0, .long p1, .long p2] T (some (.int (x_m_in T p0 p1 p2))) T := by
  refine tC_of ?_
  refine r_p dX12_in_0 rfl rfl ?_
  refine r_p dX12_in_1 rfl rfl ?_
  refine r_p dX12_in_2 rfl rfl ?_
  refine r_ilt dX12_in_3 rfl (fun c3_1 => ?_) (fun c3_1 => ?_)
  · refine r_ci (x := 0) dX12_in_17 rfl ?_
    exact r_eIp (r' := 0) (by unfold x_m_in; rw [if_pos c3_1]) (r_ri dX12_in_18 rfl rfl rfl rfl)
  · refine r_p dX12_in_6 rfl rfl ?_
    refine r_p dX12_in_7 rfl rfl ?_
    refine r_p dX12_in_9 rfl rfl ?_
    refine r_igt dX12_in_10 rfl (fun c10_2 => ?_) (fun c10_2 => ?_)
    · refine r_ci (x := 0) dX12_in_17 rfl ?_
      exact r_eIp (r' := 0) (by unfold x_m_in; rw [if_neg c3_1, if_pos c10_2]) (r_ri dX12_in_18 rfl rfl rfl rfl)
    · refine r_ci (x := 1) dX12_in_13 rfl ?_
      refine r_go dX12_in_14 rfl ?_
      exact r_eIp (r' := 1) (by unfold x_m_in; rw [if_neg c3_1, if_neg c10_2]) (r_ri dX12_in_18 rfl rfl rfl rfl)
theorem b_m_in (T : St) (p0 : Int64) (p1 : Int64) (p2 : Int64) : x_m_in T p0 p1 p2 = 0 ∨ x_m_in T p0 p1 p2 = 1 := by
  unfold x_m_in
  repeat' split
  all_goals (first | exact Or.inl rfl | exact Or.inr rfl)
def x_m_finding (T : St) (p0 : Int32) : Int32 × St := ((-1000010) - p0, sF T 571 1 p0)
theorem c_m_finding {X : Nat × (Nat → Int32)} {T : St} (p0 : Int32) : tC X 1 mX12_finding [.ref 571, .int p0] T (some (.int (x_m_finding T p0).1)) ((x_m_finding T p0).2) := by
  refine tC_of ?_
  refine r_p dX12_finding_0 rfl rfl ?_
  refine r_p dX12_finding_1 rfl rfl ?_
  refine r_put dX12_finding_2 fkX12_105 rfl rfl rfl (Nat.le_of_ble_eq_true rfl) rfl rfl ?_
  refine r_k dX12_finding_5 kkX12_108 ?_
  refine r_p dX12_finding_7 rfl rfl ?_
  refine r_p dX12_finding_8 rfl rfl ?_
  exact r_eI (r' := ((-1000010) - p0, sF T 571 1 p0)) (by unfold x_m_finding; rfl) (r_ri dX12_finding_9 rfl rfl rfl rfl)
def x_m_isSheet (T : St) (p0 : Int32) : Int32 := x_m_in T ((p0 : Int32).toInt64) 0 7
theorem c_m_isSheet {X : Nat × (Nat → Int32)} {T : St} (p0 : Int32) : tC X 2 mX12_isSheet [.int p0] T (some (.int (x_m_isSheet T p0))) T := by
  refine tC_of ?_
  refine r_p dX12_isSheet_0 rfl rfl ?_
  refine r_p dX12_isSheet_1 rfl rfl ?_
  refine r_cl (x := 0) dX12_isSheet_2 rfl ?_
  refine r_kl dX12_isSheet_3 klX12_109 ?_
  refine r_cs (d1 := 1) dX12_isSheet_6 csX12_111 rfl rfl (Nat.le_of_ble_eq_true rfl) (Nat.le_of_ble_eq_true rfl) (Nat.le_of_ble_eq_true rfl) (c_m_in ((p0 : Int32).toInt64) 0 7) ?_
  exact r_eIp (r' := (x_m_in T ((p0 : Int32).toInt64) 0 7)) (by unfold x_m_isSheet; rfl) (r_ri dX12_isSheet_9 rfl (nar_b (b_m_in T ((p0 : Int32).toInt64) 0 7)) rfl rfl)
theorem b_m_isSheet (T : St) (p0 : Int32) : x_m_isSheet T p0 = 0 ∨ x_m_isSheet T p0 = 1 := by
  unfold x_m_isSheet
  repeat' split
  all_goals (first | exact Or.inl rfl | exact Or.inr rfl | apply b_m_in)
def x_m_sheet_65 (l1 : Int32) (l2 : Int32) (l3 : Int32) (K : Int32 → St → Int32 × St) : Nat → Int32 → St → Int32 × St
  | 0, _, T => (0, T)
  | f + 1, v4, T => if 40 ≤ v4 then (K v4 T) else (x_m_sheet_65 l1 l2 l3 K f (v4 + 1) (sA T 574 ((40 * l1) + v4 : Int32).toNatClampNeg 0))
def ok_m_sheet_65 (l1 : Int32) (l2 : Int32) (l3 : Int32) (Kk : Int32 → St → Prop) : Nat → Int32 → St → Prop
  | 0, _, _ => False
  | f + 1, v4, T => ((40 ≤ v4 → Kk v4 T) ∧ (¬ 40 ≤ v4 → (vp_in ((40 * l1) + v4) 320) ∧ ok_m_sheet_65 l1 l2 l3 Kk f (v4 + 1) (sA T 574 ((40 * l1) + v4 : Int32).toNatClampNeg 0)))
theorem c_m_sheet_65 {X : Nat × (Nat → Int32)} (l1 : Int32) (l2 : Int32) (l3 : Int32) {K : Int32 → St → Int32 × St} {Kk : Int32 → St → Prop} (hk : ∀ (v4 : Int32) (T : St), Kk v4 T → tR X 2 mX12_sheet 91 [some (.ref 571), some (.int l1), some (.int l2), some (.int l3), some (.int v4)] [] T (some (.int (K v4 T).1)) ((K v4 T).2)) : ∀ (f : Nat) (v4 : Int32) (T : St), ok_m_sheet_65 l1 l2 l3 Kk f v4 T → tR X 2 mX12_sheet 65 [some (.ref 571), some (.int l1), some (.int l2), some (.int l3), some (.int v4)] [] T (some (.int (x_m_sheet_65 l1 l2 l3 K f v4 T).1)) ((x_m_sheet_65 l1 l2 l3 K f v4 T).2) := by
  intro f
  induction f with
  | zero => intro v4 T kk; exact kk.elim
  | succ f ih =>
    intro v4 T kk
    rw [ok_m_sheet_65] at kk
    refine r_p dX12_sheet_65 rfl rfl ?_
    refine r_cb (x := 40) dX12_sheet_67 rfl ?_
    refine r_cge dX12_sheet_69 rfl (fun c69_5 => ?_) (fun c69_5 => ?_)
    · have kk := kk.1 c69_5
      show tR _ _ _ _ [some (.ref 571), some (.int l1), some (.int l2), some (.int l3), some (.int v4)] _ _ _ _
      exact r_eI (r' := K v4 T) (by rw [x_m_sheet_65]; rw [if_pos c69_5]) ((hk v4 T kk))
    · have kk := kk.2 c69_5
      refine r_p dX12_sheet_72 rfl rfl ?_
      refine r_get dX12_sheet_73 fkX12_16 rfl rfl ?_
      refine r_cb (x := 40) dX12_sheet_76 rfl ?_
      refine r_p dX12_sheet_78 rfl rfl ?_
      refine r_p dX12_sheet_79 rfl rfl ?_
      refine r_p dX12_sheet_80 rfl rfl ?_
      refine r_p dX12_sheet_82 rfl rfl ?_
      refine r_ci (x := 0) dX12_sheet_83 rfl ?_
      obtain ⟨q2, kk⟩ := kk
      refine r_ias dX12_sheet_84 rfl q2 ?_
      refine r_inc (y := 1) dX12_sheet_85 rfl rfl rfl ?_
      refine r_go dX12_sheet_88 rfl ?_
      show tR _ _ _ _ [some (.ref 571), some (.int l1), some (.int l2), some (.int l3), some (.int (v4 + 1))] _ _ _ _
      exact r_eI (r' := x_m_sheet_65 l1 l2 l3 K f (v4 + 1) (sA T 574 ((40 * l1) + v4 : Int32).toNatClampNeg 0)) (by rw [x_m_sheet_65]; rw [if_neg c69_5]) ((ih (v4 + 1) (sA T 574 ((40 * l1) + v4 : Int32).toNatClampNeg 0) kk))
def x_m_sheet (T : St) (p0 : Int32) (p1 : Int32) (p2 : Int32) : Int32 × St := if (x_m_isSheet (sF T 571 0 0) p0) = 0 then ((-1000001), sF T 571 0 0) else (if (x_m_in (sF T 571 0 0) ((p1 : Int32).toInt64) 0 2) = 0 then ((-1000001), sF T 571 0 0) else (if p2 ≤ 40 then (if 0 ≤ p2 then (fun (T1 : St) => x_m_sheet_65 p0 p1 p2 (fun (w1_4 : Int32) (T201 : St) => (p2, T201)) 1000 0 T1) (sA (sA (sF (sF T 571 0 0) 571 1 0) 572 (p0 : Int32).toNatClampNeg p1) 573 (p0 : Int32).toNatClampNeg p2) else ((x_m_finding (sF (sF T 571 0 0) 571 1 0) 4).1, (x_m_finding (sF (sF T 571 0 0) 571 1 0) 4).2)) else ((-1000001), sF T 571 0 0)))
def ok_m_sheet (T : St) (p0 : Int32) (p1 : Int32) (p2 : Int32) : Prop := (¬ (x_m_isSheet (sF T 571 0 0) p0) = 0 → (¬ (x_m_in (sF T 571 0 0) ((p1 : Int32).toInt64) 0 2) = 0 → (p2 ≤ 40 → (0 ≤ p2 → (vp_in p0 8) ∧ (fun (T1 : St) => ok_m_sheet_65 p0 p1 p2 (fun (w1_4 : Int32) (T201 : St) => True) 1000 0 T1) (sA (sA (sF (sF T 571 0 0) 571 1 0) 572 (p0 : Int32).toNatClampNeg p1) 573 (p0 : Int32).toNatClampNeg p2)))))
theorem c_m_sheet {X : Nat × (Nat → Int32)} {T : St} (p0 : Int32) (p1 : Int32) (p2 : Int32) (kk : ok_m_sheet T p0 p1 p2) : tC X 3 mX12_sheet [.ref 571, .int p0, .int p1, .int p2] T (some (.int (x_m_sheet T p0 p1 p2).1)) ((x_m_sheet T p0 p1 p2).2) := by
  unfold ok_m_sheet at kk
  refine tC_of ?_
  refine r_p dX12_sheet_0 rfl rfl ?_
  refine r_ci (x := 0) dX12_sheet_1 rfl ?_
  refine r_put dX12_sheet_2 fkX12_101 rfl rfl rfl (Nat.le_of_ble_eq_true rfl) rfl rfl ?_
  refine r_p dX12_sheet_5 rfl rfl ?_
  refine r_cs (d1 := 2) dX12_sheet_6 csX12_115 rfl rfl (Nat.le_of_ble_eq_true rfl) (Nat.le_of_ble_eq_true rfl) (Nat.le_of_ble_eq_true rfl) (c_m_isSheet p0) ?_
  refine r_ieq dX12_sheet_9 rfl (fun c9_1 => ?_) (fun c9_1 => ?_)
  · refine r_k dX12_sheet_30 kkX12_121 ?_
    exact r_eI (r' := ((-1000001), sF T 571 0 0)) (by unfold x_m_sheet; rw [if_pos c9_1]) (r_ri dX12_sheet_32 rfl rfl rfl rfl)
  · have kk := kk c9_1
    refine r_p dX12_sheet_12 rfl rfl ?_
    refine r_p dX12_sheet_13 rfl rfl ?_
    refine r_cl (x := 0) dX12_sheet_14 rfl ?_
    refine r_kl dX12_sheet_15 klX12_119 ?_
    refine r_cs (d1 := 1) dX12_sheet_18 csX12_111 rfl rfl (Nat.le_of_ble_eq_true rfl) (Nat.le_of_ble_eq_true rfl) (Nat.le_of_ble_eq_true rfl) (c_m_in ((p1 : Int32).toInt64) 0 2) ?_
    refine r_ieq dX12_sheet_21 rfl (fun c21_2 => ?_) (fun c21_2 => ?_)
    · refine r_k dX12_sheet_30 kkX12_121 ?_
      exact r_eI (r' := ((-1000001), sF T 571 0 0)) (by unfold x_m_sheet; rw [if_neg c9_1, if_pos c21_2]) (r_ri dX12_sheet_32 rfl rfl rfl rfl)
    · have kk := kk c21_2
      refine r_p dX12_sheet_24 rfl rfl ?_
      refine r_cb (x := 40) dX12_sheet_25 rfl ?_
      refine r_cle dX12_sheet_27 rfl (fun c27_3 => ?_) (fun c27_3 => ?_)
      · have kk := kk c27_3
        refine r_p dX12_sheet_33 rfl rfl ?_
        refine r_ci (x := 0) dX12_sheet_34 rfl ?_
        refine r_put dX12_sheet_35 fkX12_105 rfl rfl rfl (Nat.le_of_ble_eq_true rfl) rfl rfl ?_
        refine r_p dX12_sheet_38 rfl rfl ?_
        refine r_ige dX12_sheet_39 rfl (fun c39_4 => ?_) (fun c39_4 => ?_)
        · have kk := kk c39_4
          refine r_p dX12_sheet_48 rfl rfl ?_
          refine r_get dX12_sheet_49 fkX12_7 rfl rfl ?_
          refine r_p dX12_sheet_52 rfl rfl ?_
          refine r_p dX12_sheet_53 rfl rfl ?_
          obtain ⟨q1, kk⟩ := kk
          refine r_ias dX12_sheet_54 rfl q1 ?_
          refine r_p dX12_sheet_55 rfl rfl ?_
          refine r_get dX12_sheet_56 fkX12_13 rfl rfl ?_
          refine r_p dX12_sheet_59 rfl rfl ?_
          refine r_p dX12_sheet_60 rfl rfl ?_
          refine r_ias dX12_sheet_61 rfl q1 ?_
          refine r_eI (r' := (fun (T1 : St) => x_m_sheet_65 p0 p1 p2 (fun (w1_4 : Int32) (T201 : St) => (p2, T201)) 1000 0 T1) (sA (sA (sF (sF T 571 0 0) 571 1 0) 572 (p0 : Int32).toNatClampNeg p1) 573 (p0 : Int32).toNatClampNeg p2)) (by unfold x_m_sheet; rw [if_neg c9_1, if_neg c21_2, if_pos c27_3, if_pos c39_4]) ?_
          generalize sA (sA (sF (sF T 571 0 0) 571 1 0) 572 (p0 : Int32).toNatClampNeg p1) 573 (p0 : Int32).toNatClampNeg p2 = T1 at kk ⊢
          try dsimp only at kk
          refine r_ci (x := 0) dX12_sheet_62 rfl ?_
          refine r_p dX12_sheet_63 rfl rfl ?_
          show tR _ _ _ _ [some (.ref 571), some (.int p0), some (.int p1), some (.int p2), some (.int 0)] _ _ _ _
          refine r_eI (r' := x_m_sheet_65 p0 p1 p2 (fun (w1_4 : Int32) (T201 : St) => (p2, T201)) 1000 0 T1) rfl ((c_m_sheet_65 p0 p1 p2 (fun w1_4 T201 kk => ?_) 1000 0 T1 kk))
          · refine r_p dX12_sheet_91 rfl rfl ?_
            exact r_eI (r' := (p2, T201)) rfl (r_ri dX12_sheet_92 rfl rfl rfl rfl)
        · refine r_p dX12_sheet_42 rfl rfl ?_
          refine r_ci (x := 4) dX12_sheet_43 rfl ?_
          refine r_cv (d1 := 1) dX12_sheet_44 cvX12_122 rfl rfl rfl rfl (Nat.le_of_ble_eq_true rfl) (Nat.le_of_ble_eq_true rfl) (Nat.le_of_ble_eq_true rfl) (c_m_finding 4) ?_
          exact r_eI (r' := ((x_m_finding (sF (sF T 571 0 0) 571 1 0) 4).1, (x_m_finding (sF (sF T 571 0 0) 571 1 0) 4).2)) (by unfold x_m_sheet; rw [if_neg c9_1, if_neg c21_2, if_pos c27_3, if_neg c39_4]) (r_ri dX12_sheet_47 rfl rfl rfl rfl)
      · refine r_k dX12_sheet_30 kkX12_121 ?_
        exact r_eI (r' := ((-1000001), sF T 571 0 0)) (by unfold x_m_sheet; rw [if_neg c9_1, if_neg c21_2, if_neg c27_3]) (r_ri dX12_sheet_32 rfl rfl rfl rfl)
