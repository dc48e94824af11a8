def x_jd_lay_127 (l1 : Nat) (l2 : Nat) (l3 : Nat) (l4 : Int32) (l5 : Nat) (l6 : Int32) (K : Int32 → St → St) : Nat → Int32 → St → St
  | 0, _, T => T
  | f + 1, v7, T => if 5 ≤ v7 then (K v7 T) else (fun (T5 : St) => x_jd_lay_127 l1 l2 l3 l4 l5 l6 K f (v7 + 1) T5) (sL T 538 (v7 : Int32).toNatClampNeg ((T.2.2.2 538 (v7 : Int32).toNatClampNeg) ||| ((T.2.2.2 537 (v7 : Int32).toNatClampNeg) &&& (T.2.2.2 (l5 + 3) (v7 : Int32).toNatClampNeg))))
def ok_jd_lay_127 (l1 : Nat) (l2 : Nat) (l3 : Nat) (l4 : Int32) (l5 : Nat) (l6 : Int32) (Kk : Int32 → St → Prop) : Nat → Int32 → St → Prop
  | 0, _, _ => False
  | f + 1, v7, T => ((5 ≤ v7 → Kk v7 T) ∧ (¬ 5 ≤ v7 → (vp_in v7 5) ∧ (sh l5 = .inr 10) ∧ (sh (l5 + 3) = .inl (1, 5)) ∧ (fun (T5 : St) => ok_jd_lay_127 l1 l2 l3 l4 l5 l6 Kk f (v7 + 1) T5) (sL T 538 (v7 : Int32).toNatClampNeg ((T.2.2.2 538 (v7 : Int32).toNatClampNeg) ||| ((T.2.2.2 537 (v7 : Int32).toNatClampNeg) &&& (T.2.2.2 (l5 + 3) (v7 : Int32).toNatClampNeg))))))
theorem c_jd_lay_127 {X : Nat × (Nat → Int32)} (l1 : Nat) (l2 : Nat) (l3 : Nat) (l4 : Int32) (l5 : Nat) (l6 : Int32) {K : Int32 → St → St} {Kk : Int32 → St → Prop} (hk : ∀ (v7 : Int32) (T : St), Kk v7 T → tR X 2 mX2_lay 168 [some (.ref 527), some (.ref l1), some (.ref l2), some (.ref l3), some (.int l4), some (.ref l5), some (.int l6), some (.int v7)] [] T none (K v7 T)) : ∀ (f : Nat) (v7 : Int32) (T : St), ok_jd_lay_127 l1 l2 l3 l4 l5 l6 Kk f v7 T → tR X 2 mX2_lay 127 [some (.ref 527), some (.ref l1), some (.ref l2), some (.ref l3), some (.int l4), some (.ref l5), some (.int l6), some (.int v7)] [] T none (x_jd_lay_127 l1 l2 l3 l4 l5 l6 K f v7 T) := by
  intro f
  induction f with
  | zero => intro v7 T kk; exact kk.elim
  | succ f ih =>
    intro v7 T kk
    rw [ok_jd_lay_127] at kk
    refine r_p dX2_lay_127 rfl rfl ?_
    refine r_ci (x := 5) dX2_lay_129 rfl ?_
    refine r_cge dX2_lay_130 rfl (fun c130_3 => ?_) (fun c130_3 => ?_)
    · have kk := kk.1 c130_3
      show tR _ _ _ _ [some (.ref 527), some (.ref l1), some (.ref l2), some (.ref l3), some (.int l4), some (.ref l5), some (.int l6), some (.int v7)] _ _ _ _
      exact r_eV (r' := K v7 T) (by rw [x_jd_lay_127]; rw [if_pos c130_3]) ((hk v7 T kk))
    · have kk := kk.2 c130_3
      refine r_p dX2_lay_133 rfl rfl ?_
      refine r_get dX2_lay_134 fkX2_31 rfl rfl ?_
      refine r_p dX2_lay_137 rfl rfl ?_
      refine r_p dX2_lay_139 rfl rfl ?_
      obtain ⟨q29, kk⟩ := kk
      refine r_la dX2_lay_140 rfl q29 ?_
      refine r_p dX2_lay_141 rfl rfl ?_
      refine r_get dX2_lay_142 fkX2_27 rfl rfl ?_
      refine r_get dX2_lay_145 fkX2_119 rfl rfl ?_
      refine r_p dX2_lay_148 rfl rfl ?_
      refine r_la dX2_lay_150 rfl q29 ?_
      refine r_p dX2_lay_151 rfl rfl ?_
      obtain ⟨q30, kk⟩ := kk
      refine r_get dX2_lay_153 fkX2_122 q30 rfl ?_
      refine r_p dX2_lay_156 rfl rfl ?_
      obtain ⟨q31, kk⟩ := kk
      refine r_la dX2_lay_158 q31 q29 ?_
      refine r_p dX2_lay_159 rfl rfl ?_
      refine r_p dX2_lay_160 rfl rfl ?_
      refine r_las dX2_lay_161 rfl q29 ?_
      refine r_eV (r' := (fun (T5 : St) => x_jd_lay_127 l1 l2 l3 l4 l5 l6 K f (v7 + 1) T5) (sL T 538 (v7 : Int32).toNatClampNeg ((T.2.2.2 538 (v7 : Int32).toNatClampNeg) ||| ((T.2.2.2 537 (v7 : Int32).toNatClampNeg) &&& (T.2.2.2 (l5 + 3) (v7 : Int32).toNatClampNeg))))) (by rw [x_jd_lay_127]; rw [if_neg c130_3]) ?_
      generalize sL T 538 (v7 : Int32).toNatClampNeg ((T.2.2.2 538 (v7 : Int32).toNatClampNeg) ||| ((T.2.2.2 537 (v7 : Int32).toNatClampNeg) &&& (T.2.2.2 (l5 + 3) (v7 : Int32).toNatClampNeg))) = T5 at kk ⊢
      try dsimp only at kk
      refine r_inc (y := 1) dX2_lay_162 rfl rfl rfl ?_
      refine r_go dX2_lay_165 rfl ?_
      show tR _ _ _ _ [some (.ref 527), some (.ref l1), some (.ref l2), some (.ref l3), some (.int l4), some (.ref l5), some (.int l6), some (.int (v7 + 1))] _ _ _ _
      exact r_eV (r' := x_jd_lay_127 l1 l2 l3 l4 l5 l6 K f (v7 + 1) T5) rfl ((ih (v7 + 1) T5 kk))
def x_jd_lay_19 (l1 : Nat) (l2 : Nat) (l3 : Nat) (K : Int32 → St → St) : Nat → Int32 → St → St
  | 0, _, T => T
  | f + 1, v4, T => if (T.1 l3 1) ≤ v4 then (K v4 T) else (fun (T1 : St) => (fun (T2 : St) => (fun (T3 : St) => if (x_ro_isLast T3 l3 v4) = 0 then (x_jd_lay_19 l1 l2 l3 K f (v4 + 1) T3) else (fun (T4 : St) => x_jd_lay_127 l1 l2 l3 v4 (539 + 4 * (T.2.2.1 (l3 + 4) (v4 : Int32).toNatClampNeg : Int32).toNatClampNeg) ((T1.2.2.1 (l3 + 3) (v4 : Int32).toNatClampNeg) - (T1.2.2.1 (l1 + 8) (T1.1 (539 + 4 * (T.2.2.1 (l3 + 4) (v4 : Int32).toNatClampNeg : Int32).toNatClampNeg) 3 : Int32).toNatClampNeg)) (fun (w1_7 : Int32) (T201 : St) => (fun (T6 : St) => x_jd_lay_19 l1 l2 l3 K f (v4 + 1) T6) (x_ta_add T201 533 533 ((539 + 4 * (T.2.2.1 (l3 + 4) (v4 : Int32).toNatClampNeg : Int32).toNatClampNeg) + 3) l2)) 1000 0 T4) (x_wa_lay T3 (539 + 4 * (T.2.2.1 (l3 + 4) (v4 : Int32).toNatClampNeg : Int32).toNatClampNeg) l1)) (sA T2 ((539 + 4 * (T.2.2.1 (l3 + 4) (v4 : Int32).toNatClampNeg : Int32).toNatClampNeg) + 2) ((T1.2.2.1 (l3 + 3) (v4 : Int32).toNatClampNeg) - (T1.2.2.1 (l1 + 8) (T1.1 (539 + 4 * (T.2.2.1 (l3 + 4) (v4 : Int32).toNatClampNeg : Int32).toNatClampNeg) 3 : Int32).toNatClampNeg) : Int32).toNatClampNeg (T2.2.2.1 (l3 + 6) (v4 : Int32).toNatClampNeg))) (sA T1 ((539 + 4 * (T.2.2.1 (l3 + 4) (v4 : Int32).toNatClampNeg : Int32).toNatClampNeg) + 1) ((T1.2.2.1 (l3 + 3) (v4 : Int32).toNatClampNeg) - (T1.2.2.1 (l1 + 8) (T1.1 (539 + 4 * (T.2.2.1 (l3 + 4) (v4 : Int32).toNatClampNeg : Int32).toNatClampNeg) 3 : Int32).toNatClampNeg) : Int32).toNatClampNeg (T1.2.2.1 (l3 + 5) (v4 : Int32).toNatClampNeg))) (sF T (539 + 4 * (T.2.2.1 (l3 + 4) (v4 : Int32).toNatClampNeg : Int32).toNatClampNeg) 3 (T.2.2.1 (l3 + 1) (T.2.2.1 (l3 + 4) (v4 : Int32).toNatClampNeg : Int32).toNatClampNeg))
def ok_jd_lay_19 (l1 : Nat) (l2 : Nat) (l3 : Nat) (Kk : Int32 → St → Prop) : Nat → Int32 → St → Prop
  | 0, _, _ => False
  | f + 1, v4, T => (sh l3 = .inr 7) ∧ (((T.1 l3 1) ≤ v4 → Kk v4 T) ∧ (¬ (T.1 l3 1) ≤ v4 → (sh (l3 + 4) = .inl (0, 12)) ∧ (vp_in v4 12) ∧ (vp_in (T.2.2.1 (l3 + 4) (v4 : Int32).toNatClampNeg) 4) ∧ (sh (l3 + 1) = .inl (0, 4)) ∧ (sh (539 + 4 * (T.2.2.1 (l3 + 4) (v4 : Int32).toNatClampNeg : Int32).toNatClampNeg) = .inr 10) ∧ (fun (T1 : St) => (sh l3 = .inr 7) ∧ (sh (l3 + 3) = .inl (0, 12)) ∧ (vp_in v4 12) ∧ (sh l1 = .inr 1) ∧ (sh (539 + 4 * (T.2.2.1 (l3 + 4) (v4 : Int32).toNatClampNeg : Int32).toNatClampNeg) = .inr 10) ∧ (sh (l1 + 8) = .inl (0, 8)) ∧ (vp_in (T1.1 (539 + 4 * (T.2.2.1 (l3 + 4) (v4 : Int32).toNatClampNeg : Int32).toNatClampNeg) 3) 8) ∧ (sh (l3 + 5) = .inl (0, 12)) ∧ (sh ((539 + 4 * (T.2.2.1 (l3 + 4) (v4 : Int32).toNatClampNeg : Int32).toNatClampNeg) + 1) = .inl (0, 3)) ∧ (vp_in ((T1.2.2.1 (l3 + 3) (v4 : Int32).toNatClampNeg) - (T1.2.2.1 (l1 + 8) (T1.1 (539 + 4 * (T.2.2.1 (l3 + 4) (v4 : Int32).toNatClampNeg : Int32).toNatClampNeg) 3 : Int32).toNatClampNeg)) 3) ∧ (fun (T2 : St) => (sh (539 + 4 * (T.2.2.1 (l3 + 4) (v4 : Int32).toNatClampNeg : Int32).toNatClampNeg) = .inr 10) ∧ (sh l3 = .inr 7) ∧ (sh (l3 + 6) = .inl (0, 12)) ∧ (vp_in v4 12) ∧ (sh ((539 + 4 * (T.2.2.1 (l3 + 4) (v4 : Int32).toNatClampNeg : Int32).toNatClampNeg) + 2) = .inl (0, 3)) ∧ (vp_in ((T1.2.2.1 (l3 + 3) (v4 : Int32).toNatClampNeg) - (T1.2.2.1 (l1 + 8) (T1.1 (539 + 4 * (T.2.2.1 (l3 + 4) (v4 : Int32).toNatClampNeg : Int32).toNatClampNeg) 3 : Int32).toNatClampNeg)) 3) ∧ (fun (T3 : St) => (ok_ro_isLast T3 l3 v4) ∧ (sh l3 = .inr 7) ∧ (((x_ro_isLast T3 l3 v4) = 0 → ok_jd_lay_19 l1 l2 l3 Kk f (v4 + 1) T3) ∧ (¬ (x_ro_isLast T3 l3 v4) = 0 → (ok_wa_lay T3 (539 + 4 * (T.2.2.1 (l3 + 4) (v4 : Int32).toNatClampNeg : Int32).toNatClampNeg) l1) ∧ (sh (539 + 4 * (T.2.2.1 (l3 + 4) (v4 : Int32).toNatClampNeg : Int32).toNatClampNeg) = .inr 10) ∧ (fun (T4 : St) => ok_jd_lay_127 l1 l2 l3 v4 (539 + 4 * (T.2.2.1 (l3 + 4) (v4 : Int32).toNatClampNeg : Int32).toNatClampNeg) ((T1.2.2.1 (l3 + 3) (v4 : Int32).toNatClampNeg) - (T1.2.2.1 (l1 + 8) (T1.1 (539 + 4 * (T.2.2.1 (l3 + 4) (v4 : Int32).toNatClampNeg : Int32).toNatClampNeg) 3 : Int32).toNatClampNeg)) (fun (w1_7 : Int32) (T201 : St) => (sh (539 + 4 * (T.2.2.1 (l3 + 4) (v4 : Int32).toNatClampNeg : Int32).toNatClampNeg) = .inr 10) ∧ (ok_ta_add T201 533 533 ((539 + 4 * (T.2.2.1 (l3 + 4) (v4 : Int32).toNatClampNeg : Int32).toNatClampNeg) + 3) l2) ∧ (fun (T6 : St) => ok_jd_lay_19 l1 l2 l3 Kk f (v4 + 1) T6) (x_ta_add T201 533 533 ((539 + 4 * (T.2.2.1 (l3 + 4) (v4 : Int32).toNatClampNeg : Int32).toNatClampNeg) + 3) l2)) 1000 0 T4) (x_wa_lay T3 (539 + 4 * (T.2.2.1 (l3 + 4) (v4 : Int32).toNatClampNeg : Int32).toNatClampNeg) l1)))) (sA T2 ((539 + 4 * (T.2.2.1 (l3 + 4) (v4 : Int32).toNatClampNeg : Int32).toNatClampNeg) + 2) ((T1.2.2.1 (l3 + 3) (v4 : Int32).toNatClampNeg) - (T1.2.2.1 (l1 + 8) (T1.1 (539 + 4 * (T.2.2.1 (l3 + 4) (v4 : Int32).toNatClampNeg : Int32).toNatClampNeg) 3 : Int32).toNatClampNeg) : Int32).toNatClampNeg (T2.2.2.1 (l3 + 6) (v4 : Int32).toNatClampNeg))) (sA T1 ((539 + 4 * (T.2.2.1 (l3 + 4) (v4 : Int32).toNatClampNeg : Int32).toNatClampNeg) + 1) ((T1.2.2.1 (l3 + 3) (v4 : Int32).toNatClampNeg) - (T1.2.2.1 (l1 + 8) (T1.1 (539 + 4 * (T.2.2.1 (l3 + 4) (v4 : Int32).toNatClampNeg : Int32).toNatClampNeg) 3 : Int32).toNatClampNeg) : Int32).toNatClampNeg (T1.2.2.1 (l3 + 5) (v4 : Int32).toNatClampNeg))) (sF T (539 + 4 * (T.2.2.1 (l3 + 4) (v4 : Int32).toNatClampNeg : Int32).toNatClampNeg) 3 (T.2.2.1 (l3 + 1) (T.2.2.1 (l3 + 4) (v4 : Int32).toNatClampNeg : Int32).toNatClampNeg))))
theorem c_jd_lay_19 {X : Nat × (Nat → Int32)} (l1 : Nat) (l2 : Nat) (l3 : Nat) {K : Int32 → St → St} {Kk : Int32 → St → Prop} (hk : ∀ (v4 : Int32) (T : St), Kk v4 T → tR X 2 mX2_lay 191 [some (.ref 527), some (.ref l1), some (.ref l2), some (.ref l3), some (.int v4), none, none, none] [] T none (K v4 T)) : ∀ (f : Nat) (v4 : Int32) (T : St), ok_jd_lay_19 l1 l2 l3 Kk f v4 T → tR X 2 mX2_lay 19 [some (.ref 527), some (.ref l1), some (.ref l2), some (.ref l3), some (.int v4), none, none, none] [] T none (x_jd_lay_19 l1 l2 l3 K f v4 T) := by
  intro f
  induction f with
  | zero => intro v4 T kk; exact kk.elim
  | succ f ih =>
    intro v4 T kk
    rw [ok_jd_lay_19] at kk
    refine r_p dX2_lay_19 rfl rfl ?_
    refine r_p dX2_lay_21 rfl rfl ?_
    obtain ⟨q3, kk⟩ := kk
    refine r_get dX2_lay_22 fkX2_36 q3 rfl ?_
    refine r_cge dX2_lay_25 rfl (fun c25_1 => ?_) (fun c25_1 => ?_)
    · have kk := kk.1 c25_1
      show tR _ _ _ _ [some (.ref 527), some (.ref l1), some (.ref l2), some (.ref l3), some (.int v4), none, none, none] _ _ _ _
      exact r_eV (r' := K v4 T) (by rw [x_jd_lay_19]; rw [if_pos c25_1]) ((hk v4 T kk))
    · have kk := kk.2 c25_1
      refine r_p dX2_lay_28 rfl rfl ?_
      refine r_get dX2_lay_29 fkX2_20 rfl rfl ?_
      refine r_p dX2_lay_32 rfl rfl ?_
      refine r_get dX2_lay_33 fkX2_65 q3 rfl ?_
      refine r_p dX2_lay_36 rfl rfl ?_
      obtain ⟨q4, kk⟩ := kk
      obtain ⟨q5, kk⟩ := kk
      refine r_ia dX2_lay_38 q4 q5 ?_
      obtain ⟨q6, kk⟩ := kk
      refine r_aa dX2_lay_39 rfl (by decide) q6 (rf532 q6) ?_
      refine r_p dX2_lay_40 rfl rfl ?_
      refine r_p dX2_lay_42 rfl rfl ?_
      refine r_p dX2_lay_44 rfl rfl ?_
      refine r_get dX2_lay_45 fkX2_62 q3 rfl ?_
      refine r_p dX2_lay_48 rfl rfl ?_
      refine r_get dX2_lay_49 fkX2_65 q3 rfl ?_
      refine r_p dX2_lay_52 rfl rfl ?_
      refine r_ia dX2_lay_54 q4 q5 ?_
      obtain ⟨q7, kk⟩ := kk
      refine r_ia dX2_lay_55 q7 q6 ?_
      obtain ⟨q8, kk⟩ := kk
      refine r_put dX2_lay_56 fkX2_109 rfl q8 rfl (Nat.le_of_ble_eq_true rfl) rfl rfl ?_
      refine r_eV (r' := (fun (T1 : St) => (fun (T2 : St) => (fun (T3 : St) => if (x_ro_isLast T3 l3 v4) = 0 then (x_jd_lay_19 l1 l2 l3 K f (v4 + 1) T3) else (fun (T4 : St) => x_jd_lay_127 l1 l2 l3 v4 (539 + 4 * (T.2.2.1 (l3 + 4) (v4 : Int32).toNatClampNeg : Int32).toNatClampNeg) ((T1.2.2.1 (l3 + 3) (v4 : Int32).toNatClampNeg) - (T1.2.2.1 (l1 + 8) (T1.1 (539 + 4 * (T.2.2.1 (l3 + 4) (v4 : Int32).toNatClampNeg : Int32).toNatClampNeg) 3 : Int32).toNatClampNeg)) (fun (w1_7 : Int32) (T201 : St) => (fun (T6 : St) => x_jd_lay_19 l1 l2 l3 K f (v4 + 1) T6) (x_ta_add T201 533 533 ((539 + 4 * (T.2.2.1 (l3 + 4) (v4 : Int32).toNatClampNeg : Int32).toNatClampNeg) + 3) l2)) 1000 0 T4) (x_wa_lay T3 (539 + 4 * (T.2.2.1 (l3 + 4) (v4 : Int32).toNatClampNeg : Int32).toNatClampNeg) l1)) (sA T2 ((539 + 4 * (T.2.2.1 (l3 + 4) (v4 : Int32).toNatClampNeg : Int32).toNatClampNeg) + 2) ((T1.2.2.1 (l3 + 3) (v4 : Int32).toNatClampNeg) - (T1.2.2.1 (l1 + 8) (T1.1 (539 + 4 * (T.2.2.1 (l3 + 4) (v4 : Int32).toNatClampNeg : Int32).toNatClampNeg) 3 : Int32).toNatClampNeg) : Int32).toNatClampNeg (T2.2.2.1 (l3 + 6) (v4 : Int32).toNatClampNeg))) (sA T1 ((539 + 4 * (T.2.2.1 (l3 + 4) (v4 : Int32).toNatClampNeg : Int32).toNatClampNeg) + 1) ((T1.2.2.1 (l3 + 3) (v4 : Int32).toNatClampNeg) - (T1.2.2.1 (l1 + 8) (T1.1 (539 + 4 * (T.2.2.1 (l3 + 4) (v4 : Int32).toNatClampNeg : Int32).toNatClampNeg) 3 : Int32).toNatClampNeg) : Int32).toNatClampNeg (T1.2.2.1 (l3 + 5) (v4 : Int32).toNatClampNeg))) (sF T (539 + 4 * (T.2.2.1 (l3 + 4) (v4 : Int32).toNatClampNeg : Int32).toNatClampNeg) 3 (T.2.2.1 (l3 + 1) (T.2.2.1 (l3 + 4) (v4 : Int32).toNatClampNeg : Int32).toNatClampNeg))) (by rw [x_jd_lay_19]; rw [if_neg c25_1]) ?_
      generalize sF T (539 + 4 * (T.2.2.1 (l3 + 4) (v4 : Int32).toNatClampNeg : Int32).toNatClampNeg) 3 (T.2.2.1 (l3 + 1) (T.2.2.1 (l3 + 4) (v4 : Int32).toNatClampNeg : Int32).toNatClampNeg) = T1 at kk ⊢
      try dsimp only at kk
      refine r_p dX2_lay_59 rfl rfl ?_
      obtain ⟨q9, kk⟩ := kk
      refine r_get dX2_lay_60 fkX2_78 q9 rfl ?_
      refine r_p dX2_lay_63 rfl rfl ?_
      obtain ⟨q10, kk⟩ := kk
      obtain ⟨q11, kk⟩ := kk
      refine r_ia dX2_lay_65 q10 q11 ?_
      refine r_p dX2_lay_66 rfl rfl ?_
      obtain ⟨q12, kk⟩ := kk
      refine r_get dX2_lay_67 fkX2_111 q12 rfl ?_
      refine r_p dX2_lay_70 rfl rfl ?_
      obtain ⟨q13, kk⟩ := kk
      refine r_get dX2_lay_72 fkX2_109 q13 rfl ?_
      obtain ⟨q14, kk⟩ := kk
      obtain ⟨q15, kk⟩ := kk
      refine r_ia dX2_lay_75 q14 q15 ?_
      refine r_p dX2_lay_76 rfl rfl ?_
      refine r_p dX2_lay_77 rfl rfl ?_
      refine r_p dX2_lay_79 rfl rfl ?_
      refine r_get dX2_lay_81 fkX2_114 q13 rfl ?_
      refine r_p dX2_lay_84 rfl rfl ?_
      refine r_p dX2_lay_86 rfl rfl ?_
      refine r_get dX2_lay_87 fkX2_42 q9 rfl ?_
      refine r_p dX2_lay_90 rfl rfl ?_
      obtain ⟨q16, kk⟩ := kk
      refine r_ia dX2_lay_92 q16 q11 ?_
      obtain ⟨q17, kk⟩ := kk
      obtain ⟨q18, kk⟩ := kk
      refine r_ias dX2_lay_93 q17 q18 ?_
      refine r_eV (r' := (fun (T2 : St) => (fun (T3 : St) => if (x_ro_isLast T3 l3 v4) = 0 then (x_jd_lay_19 l1 l2 l3 K f (v4 + 1) T3) else (fun (T4 : St) => x_jd_lay_127 l1 l2 l3 v4 (539 + 4 * (T.2.2.1 (l3 + 4) (v4 : Int32).toNatClampNeg : Int32).toNatClampNeg) ((T1.2.2.1 (l3 + 3) (v4 : Int32).toNatClampNeg) - (T1.2.2.1 (l1 + 8) (T1.1 (539 + 4 * (T.2.2.1 (l3 + 4) (v4 : Int32).toNatClampNeg : Int32).toNatClampNeg) 3 : Int32).toNatClampNeg)) (fun (w1_7 : Int32) (T201 : St) => (fun (T6 : St) => x_jd_lay_19 l1 l2 l3 K f (v4 + 1) T6) (x_ta_add T201 533 533 ((539 + 4 * (T.2.2.1 (l3 + 4) (v4 : Int32).toNatClampNeg : Int32).toNatClampNeg) + 3) l2)) 1000 0 T4) (x_wa_lay T3 (539 + 4 * (T.2.2.1 (l3 + 4) (v4 : Int32).toNatClampNeg : Int32).toNatClampNeg) l1)) (sA T2 ((539 + 4 * (T.2.2.1 (l3 + 4) (v4 : Int32).toNatClampNeg : Int32).toNatClampNeg) + 2) ((T1.2.2.1 (l3 + 3) (v4 : Int32).toNatClampNeg) - (T1.2.2.1 (l1 + 8) (T1.1 (539 + 4 * (T.2.2.1 (l3 + 4) (v4 : Int32).toNatClampNeg : Int32).toNatClampNeg) 3 : Int32).toNatClampNeg) : Int32).toNatClampNeg (T2.2.2.1 (l3 + 6) (v4 : Int32).toNatClampNeg))) (sA T1 ((539 + 4 * (T.2.2.1 (l3 + 4) (v4 : Int32).toNatClampNeg : Int32).toNatClampNeg) + 1) ((T1.2.2.1 (l3 + 3) (v4 : Int32).toNatClampNeg) - (T1.2.2.1 (l1 + 8) (T1.1 (539 + 4 * (T.2.2.1 (l3 + 4) (v4 : Int32).toNatClampNeg : Int32).toNatClampNeg) 3 : Int32).toNatClampNeg) : Int32).toNatClampNeg (T1.2.2.1 (l3 + 5) (v4 : Int32).toNatClampNeg))) rfl ?_
      generalize sA T1 ((539 + 4 * (T.2.2.1 (l3 + 4) (v4 : Int32).toNatClampNeg : Int32).toNatClampNeg) + 1) ((T1.2.2.1 (l3 + 3) (v4 : Int32).toNatClampNeg) - (T1.2.2.1 (l1 + 8) (T1.1 (539 + 4 * (T.2.2.1 (l3 + 4) (v4 : Int32).toNatClampNeg : Int32).toNatClampNeg) 3 : Int32).toNatClampNeg) : Int32).toNatClampNeg (T1.2.2.1 (l3 + 5) (v4 : Int32).toNatClampNeg) = T2 at kk ⊢
      try dsimp only at kk
      refine r_p dX2_lay_94 rfl rfl ?_
      obtain ⟨q19, kk⟩ := kk
      refine r_get dX2_lay_96 fkX2_115 q19 rfl ?_
      refine r_p dX2_lay_99 rfl rfl ?_
      refine r_p dX2_lay_101 rfl rfl ?_
      obtain ⟨q20, kk⟩ := kk
      refine r_get dX2_lay_102 fkX2_46 q20 rfl ?_
      refine r_p dX2_lay_105 rfl rfl ?_
      obtain ⟨q21, kk⟩ := kk
      obtain ⟨q22, kk⟩ := kk
      refine r_ia dX2_lay_107 q21 q22 ?_
      obtain ⟨q23, kk⟩ := kk
      obtain ⟨q24, kk⟩ := kk
      refine r_ias dX2_lay_108 q23 q24 ?_
      refine r_eV (r' := (fun (T3 : St) => if (x_ro_isLast T3 l3 v4) = 0 then (x_jd_lay_19 l1 l2 l3 K f (v4 + 1) T3) else (fun (T4 : St) => x_jd_lay_127 l1 l2 l3 v4 (539 + 4 * (T.2.2.1 (l3 + 4) (v4 : Int32).toNatClampNeg : Int32).toNatClampNeg) ((T1.2.2.1 (l3 + 3) (v4 : Int32).toNatClampNeg) - (T1.2.2.1 (l1 + 8) (T1.1 (539 + 4 * (T.2.2.1 (l3 + 4) (v4 : Int32).toNatClampNeg : Int32).toNatClampNeg) 3 : Int32).toNatClampNeg)) (fun (w1_7 : Int32) (T201 : St) => (fun (T6 : St) => x_jd_lay_19 l1 l2 l3 K f (v4 + 1) T6) (x_ta_add T201 533 533 ((539 + 4 * (T.2.2.1 (l3 + 4) (v4 : Int32).toNatClampNeg : Int32).toNatClampNeg) + 3) l2)) 1000 0 T4) (x_wa_lay T3 (539 + 4 * (T.2.2.1 (l3 + 4) (v4 : Int32).toNatClampNeg : Int32).toNatClampNeg) l1)) (sA T2 ((539 + 4 * (T.2.2.1 (l3 + 4) (v4 : Int32).toNatClampNeg : Int32).toNatClampNeg) + 2) ((T1.2.2.1 (l3 + 3) (v4 : Int32).toNatClampNeg) - (T1.2.2.1 (l1 + 8) (T1.1 (539 + 4 * (T.2.2.1 (l3 + 4) (v4 : Int32).toNatClampNeg : Int32).toNatClampNeg) 3 : Int32).toNatClampNeg) : Int32).toNatClampNeg (T2.2.2.1 (l3 + 6) (v4 : Int32).toNatClampNeg))) rfl ?_
      generalize sA T2 ((539 + 4 * (T.2.2.1 (l3 + 4) (v4 : Int32).toNatClampNeg : Int32).toNatClampNeg) + 2) ((T1.2.2.1 (l3 + 3) (v4 : Int32).toNatClampNeg) - (T1.2.2.1 (l1 + 8) (T1.1 (539 + 4 * (T.2.2.1 (l3 + 4) (v4 : Int32).toNatClampNeg : Int32).toNatClampNeg) 3 : Int32).toNatClampNeg) : Int32).toNatClampNeg (T2.2.2.1 (l3 + 6) (v4 : Int32).toNatClampNeg) = T3 at kk ⊢
      try dsimp only at kk
      refine r_p dX2_lay_109 rfl rfl ?_
      refine r_p dX2_lay_110 rfl rfl ?_
      obtain ⟨q25, kk⟩ := kk
      obtain ⟨q26, kk⟩ := kk
      refine r_cv (d1 := 1) dX2_lay_112 cvX2_68 rfl rfl q26 rfl (Nat.le_of_ble_eq_true rfl) (Nat.le_of_ble_eq_true rfl) (Nat.le_of_ble_eq_true rfl) (c_ro_isLast l3 v4 q25) ?_
      refine r_ieq dX2_lay_115 rfl (fun c115_2 => ?_) (fun c115_2 => ?_)
      · have kk := kk.1 c115_2
        refine r_inc (y := 1) dX2_lay_185 rfl rfl rfl ?_
        refine r_go dX2_lay_188 rfl ?_
        show tR _ _ _ _ [some (.ref 527), some (.ref l1), some (.ref l2), some (.ref l3), some (.int (v4 + 1)), some (.ref (539 + 4 * (T.2.2.1 (l3 + 4) (v4 : Int32).toNatClampNeg : Int32).toNatClampNeg)), some (.int ((T1.2.2.1 (l3 + 3) (v4 : Int32).toNatClampNeg) - (T1.2.2.1 (l1 + 8) (T1.1 (539 + 4 * (T.2.2.1 (l3 + 4) (v4 : Int32).toNatClampNeg : Int32).toNatClampNeg) 3 : Int32).toNatClampNeg))), none] _ _ _ _
        exact r_eV (r' := x_jd_lay_19 l1 l2 l3 K f (v4 + 1) T3) (by first | rw [if_pos c115_2] | (dsimp only; rw [if_pos c115_2])) (r_le (le_s (le_s (le_s (le_s (le_s (le_n (le_n (le_s (le_0))))))))) (ih (v4 + 1) T3 kk))
      · have kk := kk.2 c115_2
        refine r_p dX2_lay_118 rfl rfl ?_
        refine r_p dX2_lay_120 rfl rfl ?_
        obtain ⟨q27, kk⟩ := kk
        obtain ⟨q28, kk⟩ := kk
        refine r_cv (d1 := 2) dX2_lay_121 cvX2_116 rfl rfl q28 rfl (Nat.le_of_ble_eq_true rfl) (Nat.le_of_ble_eq_true rfl) (Nat.le_of_ble_eq_true rfl) (c_wa_lay (539 + 4 * (T.2.2.1 (l3 + 4) (v4 : Int32).toNatClampNeg : Int32).toNatClampNeg) l1 q27) ?_
        refine r_eV (r' := (fun (T4 : St) => x_jd_lay_127 l1 l2 l3 v4 (539 + 4 * (T.2.2.1 (l3 + 4) (v4 : Int32).toNatClampNeg : Int32).toNatClampNeg) ((T1.2.2.1 (l3 + 3) (v4 : Int32).toNatClampNeg) - (T1.2.2.1 (l1 + 8) (T1.1 (539 + 4 * (T.2.2.1 (l3 + 4) (v4 : Int32).toNatClampNeg : Int32).toNatClampNeg) 3 : Int32).toNatClampNeg)) (fun (w1_7 : Int32) (T201 : St) => (fun (T6 : St) => x_jd_lay_19 l1 l2 l3 K f (v4 + 1) T6) (x_ta_add T201 533 533 ((539 + 4 * (T.2.2.1 (l3 + 4) (v4 : Int32).toNatClampNeg : Int32).toNatClampNeg) + 3) l2)) 1000 0 T4) (x_wa_lay T3 (539 + 4 * (T.2.2.1 (l3 + 4) (v4 : Int32).toNatClampNeg : Int32).toNatClampNeg) l1)) (by first | rw [if_neg c115_2] | (dsimp only; rw [if_neg c115_2])) ?_
        generalize x_wa_lay T3 (539 + 4 * (T.2.2.1 (l3 + 4) (v4 : Int32).toNatClampNeg : Int32).toNatClampNeg) l1 = T4 at kk ⊢
        try dsimp only at kk
        refine r_ci (x := 0) dX2_lay_124 rfl ?_
        refine r_p dX2_lay_125 rfl rfl ?_
        show tR _ _ _ _ [some (.ref 527), some (.ref l1), some (.ref l2), some (.ref l3), some (.int v4), some (.ref (539 + 4 * (T.2.2.1 (l3 + 4) (v4 : Int32).toNatClampNeg : Int32).toNatClampNeg)), some (.int ((T1.2.2.1 (l3 + 3) (v4 : Int32).toNatClampNeg) - (T1.2.2.1 (l1 + 8) (T1.1 (539 + 4 * (T.2.2.1 (l3 + 4) (v4 : Int32).toNatClampNeg : Int32).toNatClampNeg) 3 : Int32).toNatClampNeg))), some (.int 0)] _ _ _ _
        refine r_eV (r' := x_jd_lay_127 l1 l2 l3 v4 (539 + 4 * (T.2.2.1 (l3 + 4) (v4 : Int32).toNatClampNeg : Int32).toNatClampNeg) ((T1.2.2.1 (l3 + 3) (v4 : Int32).toNatClampNeg) - (T1.2.2.1 (l1 + 8) (T1.1 (539 + 4 * (T.2.2.1 (l3 + 4) (v4 : Int32).toNatClampNeg : Int32).toNatClampNeg) 3 : Int32).toNatClampNeg)) (fun (w1_7 : Int32) (T201 : St) => (fun (T6 : St) => x_jd_lay_19 l1 l2 l3 K f (v4 + 1) T6) (x_ta_add T201 533 533 ((539 + 4 * (T.2.2.1 (l3 + 4) (v4 : Int32).toNatClampNeg : Int32).toNatClampNeg) + 3) l2)) 1000 0 T4) rfl ((c_jd_lay_127 l1 l2 l3 v4 (539 + 4 * (T.2.2.1 (l3 + 4) (v4 : Int32).toNatClampNeg : Int32).toNatClampNeg) ((T1.2.2.1 (l3 + 3) (v4 : Int32).toNatClampNeg) - (T1.2.2.1 (l1 + 8) (T1.1 (539 + 4 * (T.2.2.1 (l3 + 4) (v4 : Int32).toNatClampNeg : Int32).toNatClampNeg) 3 : Int32).toNatClampNeg)) (fun w1_7 T201 kk => ?_) 1000 0 T4 kk))
        · try dsimp only at kk
          refine r_p dX2_lay_168 rfl rfl ?_
          refine r_get dX2_lay_169 fkX2_27 rfl rfl ?_
          refine r_p dX2_lay_172 rfl rfl ?_
          refine r_get dX2_lay_173 fkX2_27 rfl rfl ?_
          refine r_p dX2_lay_176 rfl rfl ?_
          obtain ⟨q32, kk⟩ := kk
          refine r_get dX2_lay_178 fkX2_122 q32 rfl ?_
          refine r_p dX2_lay_181 rfl rfl ?_
          obtain ⟨q33, kk⟩ := kk
          refine r_cv (d1 := 2) dX2_lay_182 cvX2_125 rfl rfl rfl rfl (Nat.le_of_ble_eq_true rfl) (Nat.le_of_ble_eq_true rfl) (Nat.le_of_ble_eq_true rfl) (c_ta_add 533 533 ((539 + 4 * (T.2.2.1 (l3 + 4) (v4 : Int32).toNatClampNeg : Int32).toNatClampNeg) + 3) l2 q33) ?_
          refine r_eV (r' := (fun (T6 : St) => x_jd_lay_19 l1 l2 l3 K f (v4 + 1) T6) (x_ta_add T201 533 533 ((539 + 4 * (T.2.2.1 (l3 + 4) (v4 : Int32).toNatClampNeg : Int32).toNatClampNeg) + 3) l2)) rfl ?_
          generalize x_ta_add T201 533 533 ((539 + 4 * (T.2.2.1 (l3 + 4) (v4 : Int32).toNatClampNeg : Int32).toNatClampNeg) + 3) l2 = T6 at kk ⊢
          try dsimp only at kk
          refine r_inc (y := 1) dX2_lay_185 rfl rfl rfl ?_
          refine r_go dX2_lay_188 rfl ?_
          show tR _ _ _ _ [some (.ref 527), some (.ref l1), some (.ref l2), some (.ref l3), some (.int (v4 + 1)), some (.ref (539 + 4 * (T.2.2.1 (l3 + 4) (v4 : Int32).toNatClampNeg : Int32).toNatClampNeg)), some (.int ((T1.2.2.1 (l3 + 3) (v4 : Int32).toNatClampNeg) - (T1.2.2.1 (l1 + 8) (T1.1 (539 + 4 * (T.2.2.1 (l3 + 4) (v4 : Int32).toNatClampNeg : Int32).toNatClampNeg) 3 : Int32).toNatClampNeg))), some (.int w1_7)] _ _ _ _
          exact r_eV (r' := x_jd_lay_19 l1 l2 l3 K f (v4 + 1) T6) rfl (r_le (le_s (le_s (le_s (le_s (le_s (le_n (le_n (le_n (le_0))))))))) (ih (v4 + 1) T6 kk))
def x_jd_lay (T : St) (p0 : Nat) (p1 : Nat) (p2 : Nat) : St := x_jd_lay_19 p0 p1 p2 (fun (w2_4 : Int32) (T202 : St) => T202) 1000 0 (x_ta_open (x_fillJ T 538 0) 533 p1)
def ok_jd_lay (T : St) (p0 : Nat) (p1 : Nat) (p2 : Nat) : Prop := (ok_fillJ T 538 0) ∧ (ok_ta_open (x_fillJ T 538 0) 533 p1) ∧ ok_jd_lay_19 p0 p1 p2 (fun (w2_4 : Int32) (T202 : St) => True) 1000 0 (x_ta_open (x_fillJ T 538 0) 533 p1)
theorem c_jd_lay {X : Nat × (Nat → Int32)} {T : St} (p0 : Nat) (p1 : Nat) (p2 : Nat) (kk : ok_jd_lay T p0 p1 p2) : tC X 3 mX2_lay [.ref 527, .ref p0, .ref p1, .ref p2] T none (x_jd_lay T p0 p1 p2) := by
  unfold ok_jd_lay at kk
  refine tC_of ?_
  refine r_p dX2_lay_0 rfl rfl ?_
  refine r_get dX2_lay_1 fkX2_31 rfl rfl ?_
  refine r_cl (x := 0) dX2_lay_4 rfl ?_
  obtain ⟨q1, kk⟩ := kk
  refine r_cs (d1 := 1) dX2_lay_5 csX2_99 rfl rfl (Nat.le_of_ble_eq_true rfl) (Nat.le_of_ble_eq_true rfl) (Nat.le_of_ble_eq_true rfl) (c_fillJ 538 0 q1) ?_
  refine r_p dX2_lay_8 rfl rfl ?_
  refine r_get dX2_lay_9 fkX2_27 rfl rfl ?_
  refine r_p dX2_lay_12 rfl rfl ?_
  obtain ⟨q2, kk⟩ := kk
  refine r_cv (d1 := 2) dX2_lay_13 cvX2_105 rfl rfl rfl rfl (Nat.le_of_ble_eq_true rfl) (Nat.le_of_ble_eq_true rfl) (Nat.le_of_ble_eq_true rfl) (c_ta_open 533 p1 q2) ?_
  refine r_ci (x := 0) dX2_lay_16 rfl ?_
  refine r_p dX2_lay_17 rfl rfl ?_
  show tR _ _ _ _ [some (.ref 527), some (.ref p0), some (.ref p1), some (.ref p2), some (.int 0), none, none, none] _ _ _ _
  refine r_eV (r' := x_jd_lay_19 p0 p1 p2 (fun (w2_4 : Int32) (T202 : St) => T202) 1000 0 (x_ta_open (x_fillJ T 538 0) 533 p1)) (by unfold x_jd_lay; rfl) ((c_jd_lay_19 p0 p1 p2 (fun w2_4 T202 kk => ?_) 1000 0 (x_ta_open (x_fillJ T 538 0) 533 p1) kk))
  · exact r_eV (r' := T202) rfl (r_rv dX2_lay_191 rfl rfl rfl)
def x_pl_leavesOpen_4 (l1 : Int32) (l2 : Int32) (K : Int32 → St → Int32 × St) : Nat → Int32 → St → Int32 × St
  | 0, _, T => (0, T)
  | f + 1, v3, T => if (T.1 80 12) ≤ v3 then (K v3 T) else (if ((T.2.2.1 (100 + (l1 : Int32).toNatClampNeg) (v3 : Int32).toNatClampNeg) &&& ((x_pl_agreeing T l2 (T.2.2.1 94 (v3 : Int32).toNatClampNeg)).1)) = 0 then (0, (x_pl_agreeing T l2 (T.2.2.1 94 (v3 : Int32).toNatClampNeg)).2) else (fun (T1 : St) => x_pl_leavesOpen_4 l1 l2 K f (v3 + 1) T1) (sA ((x_pl_agreeing T l2 (T.2.2.1 94 (v3 : Int32).toNatClampNeg)).2) (100 + (l1 + 1 : Int32).toNatClampNeg) (v3 : Int32).toNatClampNeg ((T.2.2.1 (100 + (l1 : Int32).toNatClampNeg) (v3 : Int32).toNatClampNeg) &&& ((x_pl_agreeing T l2 (T.2.2.1 94 (v3 : Int32).toNatClampNeg)).1))))
def ok_pl_leavesOpen_4 (l1 : Int32) (l2 : Int32) (Kk : Int32 → St → Prop) : Nat → Int32 → St → Prop
  | 0, _, _ => False
  | f + 1, v3, T => (((T.1 80 12) ≤ v3 → Kk v3 T) ∧ (¬ (T.1 80 12) ≤ v3 → (vp_in l1 5) ∧ (sh (100 + (l1 : Int32).toNatClampNeg) = .inl (0, 4)) ∧ (vp_in v3 4) ∧ (ok_pl_agreeing T l2 (T.2.2.1 94 (v3 : Int32).toNatClampNeg)) ∧ (¬ ((T.2.2.1 (100 + (l1 : Int32).toNatClampNeg) (v3 : Int32).toNatClampNeg) &&& ((x_pl_agreeing T l2 (T.2.2.1 94 (v3 : Int32).toNatClampNeg)).1)) = 0 → (vp_in (l1 + 1) 5) ∧ (sh (100 + (l1 + 1 : Int32).toNatClampNeg) = .inl (0, 4)) ∧ (fun (T1 : St) => ok_pl_leavesOpen_4 l1 l2 Kk f (v3 + 1) T1) (sA ((x_pl_agreeing T l2 (T.2.2.1 94 (v3 : Int32).toNatClampNeg)).2) (100 + (l1 + 1 : Int32).toNatClampNeg) (v3 : Int32).toNatClampNeg ((T.2.2.1 (100 + (l1 : Int32).toNatClampNeg) (v3 : Int32).toNatClampNeg) &&& ((x_pl_agreeing T l2 (T.2.2.1 94 (v3 : Int32).toNatClampNeg)).1))))))
theorem c_pl_leavesOpen_4 {X : Nat × (Nat → Int32)} (l1 : Int32) (l2 : Int32) {K : Int32 → St → Int32 × St} {Kk : Int32 → St → Prop} (hk : ∀ (v3 : Int32) (T : St), Kk v3 T → tR X 3 mX5_leavesOpen 59 [some (.ref 80), some (.int l1), some (.int l2), some (.int v3), none] [] T (some (.int (K v3 T).1)) ((K v3 T).2)) : ∀ (f : Nat) (v3 : Int32) (T : St), ok_pl_leavesOpen_4 l1 l2 Kk f v3 T → tR X 3 mX5_leavesOpen 4 [some (.ref 80), some (.int l1), some (.int l2), some (.int v3), none] [] T (some (.int (x_pl_leavesOpen_4 l1 l2 K f v3 T).1)) ((x_pl_leavesOpen_4 l1 l2 K f v3 T).2) := by
  intro f
  induction f with
  | zero => intro v3 T kk; exact kk.elim
  | succ f ih =>
    intro v3 T kk
    rw [ok_pl_leavesOpen_4] at kk
    refine r_p dX5_leavesOpen_4 rfl rfl ?_
    refine r_p dX5_leavesOpen_5 rfl rfl ?_
    refine r_get dX5_leavesOpen_6 fkX5_172 rfl rfl ?_
    refine r_cge dX5_leavesOpen_9 rfl (fun c9_1 => ?_) (fun c9_1 => ?_)
    · have kk := kk.1 c9_1
      show tR _ _ _ _ [some (.ref 80), some (.int l1), some (.int l2), some (.int v3), none] _ _ _ _
      exact r_eI (r' := K v3 T) (by rw [x_pl_leavesOpen_4]; rw [if_pos c9_1]) ((hk v3 T kk))
    · have kk := kk.2 c9_1
      refine r_p dX5_leavesOpen_12 rfl rfl ?_
      refine r_get dX5_leavesOpen_13 fkX5_52 rfl rfl ?_
      refine r_p dX5_leavesOpen_16 rfl rfl ?_
      obtain ⟨q1, kk⟩ := kk
      refine r_aa dX5_leavesOpen_17 rfl (by decide) q1 (rf99 q1) ?_
      refine r_p dX5_leavesOpen_18 rfl rfl ?_
      obtain ⟨q2, kk⟩ := kk
      obtain ⟨q3, kk⟩ := kk
      refine r_ia dX5_leavesOpen_19 q2 q3 ?_
      refine r_p dX5_leavesOpen_20 rfl rfl ?_
      refine r_p dX5_leavesOpen_21 rfl rfl ?_
      refine r_p dX5_leavesOpen_22 rfl rfl ?_
      refine r_get dX5_leavesOpen_23 fkX5_35 rfl rfl ?_
      refine r_p dX5_leavesOpen_26 rfl rfl ?_
      refine r_ia dX5_leavesOpen_27 rfl q3 ?_
      obtain ⟨q4, kk⟩ := kk
      refine r_cv (d1 := 3) dX5_leavesOpen_28 cvX5_190 rfl rfl rfl rfl (Nat.le_of_ble_eq_true rfl) (Nat.le_of_ble_eq_true rfl) (Nat.le_of_ble_eq_true rfl) (c_pl_agreeing l2 (T.2.2.1 94 (v3 : Int32).toNatClampNeg) q4) ?_
      refine r_p dX5_leavesOpen_31 rfl rfl ?_
      refine r_p dX5_leavesOpen_32 rfl rfl ?_
      refine r_p dX5_leavesOpen_34 rfl rfl ?_
      refine r_ine dX5_leavesOpen_36 rfl (fun c36_2 => ?_) (fun c36_2 => ?_)
      · have kk := kk c36_2
        refine r_p dX5_leavesOpen_41 rfl rfl ?_
        refine r_get dX5_leavesOpen_42 fkX5_52 rfl rfl ?_
        refine r_p dX5_leavesOpen_45 rfl rfl ?_
        refine r_ci (x := 1) dX5_leavesOpen_46 rfl ?_
        refine r_p dX5_leavesOpen_47 rfl rfl ?_
        obtain ⟨q5, kk⟩ := kk
        refine r_aa dX5_leavesOpen_48 rfl (by decide) q5 (rf99 q5) ?_
        refine r_p dX5_leavesOpen_49 rfl rfl ?_
        refine r_p dX5_leavesOpen_50 rfl rfl ?_
        obtain ⟨q6, kk⟩ := kk
        refine r_ias dX5_leavesOpen_52 q6 q3 ?_
        refine r_eI (r' := (fun (T1 : St) => x_pl_leavesOpen_4 l1 l2 K f (v3 + 1) T1) (sA ((x_pl_agreeing T l2 (T.2.2.1 94 (v3 : Int32).toNatClampNeg)).2) (100 + (l1 + 1 : Int32).toNatClampNeg) (v3 : Int32).toNatClampNeg ((T.2.2.1 (100 + (l1 : Int32).toNatClampNeg) (v3 : Int32).toNatClampNeg) &&& ((x_pl_agreeing T l2 (T.2.2.1 94 (v3 : Int32).toNatClampNeg)).1)))) (by rw [x_pl_leavesOpen_4]; rw [if_neg c9_1, if_neg c36_2]) ?_
        generalize sA ((x_pl_agreeing T l2 (T.2.2.1 94 (v3 : Int32).toNatClampNeg)).2) (100 + (l1 + 1 : Int32).toNatClampNeg) (v3 : Int32).toNatClampNeg ((T.2.2.1 (100 + (l1 : Int32).toNatClampNeg) (v3 : Int32).toNatClampNeg) &&& ((x_pl_agreeing T l2 (T.2.2.1 94 (v3 : Int32).toNatClampNeg)).1)) = T1 at kk ⊢
        try dsimp only at kk
        refine r_inc (y := 1) dX5_leavesOpen_53 rfl rfl rfl ?_
        refine r_go dX5_leavesOpen_56 rfl ?_
        show tR _ _ _ _ [some (.ref 80), some (.int l1), some (.int l2), some (.int (v3 + 1)), some (.int ((T.2.2.1 (100 + (l1 : Int32).toNatClampNeg) (v3 : Int32).toNatClampNeg) &&& ((x_pl_agreeing T l2 (T.2.2.1 94 (v3 : Int32).toNatClampNeg)).1)))] _ _ _ _
        exact r_eI (r' := x_pl_leavesOpen_4 l1 l2 K f (v3 + 1) T1) rfl (r_le (le_s (le_s (le_s (le_s (le_n (le_0)))))) (ih (v3 + 1) T1 kk))
      · refine r_ci (x := 0) dX5_leavesOpen_39 rfl ?_
        exact r_eI (r' := (0, (x_pl_agreeing T l2 (T.2.2.1 94 (v3 : Int32).toNatClampNeg)).2)) (by rw [x_pl_leavesOpen_4]; rw [if_neg c9_1, if_pos c36_2]) (r_ri dX5_leavesOpen_40 rfl rfl rfl rfl)
def x_pl_leavesOpen (T : St) (p0 : Int32) (p1 : Int32) : Int32 × St := x_pl_leavesOpen_4 p0 p1 (fun (w1_3 : Int32) (T201 : St) => (1, T201)) 1000 (p0 + 1) T
def ok_pl_leavesOpen (T : St) (p0 : Int32) (p1 : Int32) : Prop := ok_pl_leavesOpen_4 p0 p1 (fun (w1_3 : Int32) (T201 : St) => True) 1000 (p0 + 1) T
theorem c_pl_leavesOpen {X : Nat × (Nat → Int32)} {T : St} (p0 : Int32) (p1 : Int32) (kk : ok_pl_leavesOpen T p0 p1) : tC X 4 mX5_leavesOpen [.ref 80, .int p0, .int p1] T (some (.int (x_pl_leavesOpen T p0 p1).1)) ((x_pl_leavesOpen T p0 p1).2) := by
  unfold ok_pl_leavesOpen at kk
  refine tC_of ?_
  refine r_p dX5_leavesOpen_0 rfl rfl ?_
  refine r_ci (x := 1) dX5_leavesOpen_1 rfl ?_
  refine r_p dX5_leavesOpen_2 rfl rfl ?_
  refine r_p dX5_leavesOpen_3 rfl rfl ?_
  show tR _ _ _ _ [some (.ref 80), some (.int p0), some (.int p1), some (.int (p0 + 1)), none] _ _ _ _
  refine r_eI (r' := x_pl_leavesOpen_4 p0 p1 (fun (w1_3 : Int32) (T201 : St) => (1, T201)) 1000 (p0 + 1) T) (by unfold x_pl_leavesOpen; rfl) ((c_pl_leavesOpen_4 p0 p1 (fun w1_3 T201 kk => ?_) 1000 (p0 + 1) T kk))
  · refine r_ci (x := 1) dX5_leavesOpen_59 rfl ?_
    exact r_eI (r' := (1, T201)) rfl (r_ri dX5_leavesOpen_60 rfl rfl rfl rfl)
def x_rd_takeWord (T : St) (p0 : Nat) : St := if (T.1 13 2) = 0 then (if (x_rd_isWord T p0) = 0 then (sF T 13 2 1) else (x_rd_advance T)) else (T)
def ok_rd_takeWord (T : St) (p0 : Nat) : Prop := ((T.1 13 2) = 0 → (ok_rd_isWord T p0) ∧ (¬ (x_rd_isWord T p0) = 0 → (ok_rd_advance T) ∧ True))
theorem c_rd_takeWord {X : Nat × (Nat → Int32)} {T : St} (p0 : Nat) (kk : ok_rd_takeWord T p0) : tC X 6 mX6_takeWord [.ref 13, .ref (mx_B + (10 + p0))] T none (x_rd_takeWord T p0) := by
  unfold ok_rd_takeWord at kk
  refine tC_of ?_
  refine r_p dX6_takeWord_0 rfl rfl ?_
  refine r_get dX6_takeWord_1 fkX6_24 rfl rfl ?_
  refine r_ieq dX6_takeWord_4 rfl (fun c4_1 => ?_) (fun c4_1 => ?_)
  · have kk := kk c4_1
    refine r_p dX6_takeWord_8 rfl rfl ?_
    refine r_p dX6_takeWord_9 rfl rfl ?_
    obtain ⟨q1, kk⟩ := kk
    refine r_cv (d1 := 5) dX6_takeWord_10 cvX6_39 rfl rfl rfl rfl (Nat.le_of_ble_eq_true rfl) (Nat.le_of_ble_eq_true rfl) (Nat.le_of_ble_eq_true rfl) (c_rd_isWord p0 q1) ?_
    refine r_ieq dX6_takeWord_13 rfl (fun c13_2 => ?_) (fun c13_2 => ?_)
    · refine r_p dX6_takeWord_23 rfl rfl ?_
      refine r_ci (x := 1) dX6_takeWord_24 rfl ?_
      refine r_put dX6_takeWord_25 fkX6_24 rfl rfl rfl (Nat.le_of_ble_eq_true rfl) rfl rfl ?_
      exact r_eV (r' := (sF T 13 2 1)) (by unfold x_rd_takeWord; rw [if_pos c4_1, if_pos c13_2]) (r_rv dX6_takeWord_28 rfl rfl rfl)
    · have kk := kk c13_2
      refine r_p dX6_takeWord_16 rfl rfl ?_
      obtain ⟨q2, kk⟩ := kk
      refine r_cv (d1 := 2) dX6_takeWord_17 cvX6_30 rfl rfl rfl rfl (Nat.le_of_ble_eq_true rfl) (Nat.le_of_ble_eq_true rfl) (Nat.le_of_ble_eq_true rfl) (c_rd_advance  q2) ?_
      refine r_go dX6_takeWord_20 rfl ?_
      exact r_eV (r' := (x_rd_advance T)) (by unfold x_rd_takeWord; rw [if_pos c4_1, if_neg c13_2]) (r_rv dX6_takeWord_28 rfl rfl rfl)
  · exact r_eV (r' := T) (by unfold x_rd_takeWord; rw [if_neg c4_1]) (r_rv dX6_takeWord_7 rfl rfl rfl)
def x_rd_takeSign (T : St)  : St := if (T.1 13 2) = 0 then (if (T.1 13 5) = 3 then (x_rd_advance T) else (sF T 13 2 1)) else (T)
def ok_rd_takeSign (T : St)  : Prop := ((T.1 13 2) = 0 → ((T.1 13 5) = 3 → (ok_rd_advance T) ∧ True))
theorem c_rd_takeSign {X : Nat × (Nat → Int32)} {T : St}  (kk : ok_rd_takeSign T ) : tC X 3 mX6_takeSign [.ref 13] T none (x_rd_takeSign T) := by
  unfold ok_rd_takeSign at kk
  refine tC_of ?_
  refine r_p dX6_takeSign_0 rfl rfl ?_
  refine r_get dX6_takeSign_1 fkX6_24 rfl rfl ?_
  refine r_ieq dX6_takeSign_4 rfl (fun c4_1 => ?_) (fun c4_1 => ?_)
  · have kk := kk c4_1
    refine r_p dX6_takeSign_8 rfl rfl ?_
    refine r_get dX6_takeSign_9 fkX6_49 rfl rfl ?_
    refine r_ci (x := 3) dX6_takeSign_12 rfl ?_
    refine r_cne dX6_takeSign_13 rfl (fun c13_2 => ?_) (fun c13_2 => ?_)
    · refine r_p dX6_takeSign_23 rfl rfl ?_
      refine r_ci (x := 1) dX6_takeSign_24 rfl ?_
      refine r_put dX6_takeSign_25 fkX6_24 rfl rfl rfl (Nat.le_of_ble_eq_true rfl) rfl rfl ?_
      exact r_eV (r' := (sF T 13 2 1)) (by unfold x_rd_takeSign; rw [if_pos c4_1, if_neg c13_2]) (r_rv dX6_takeSign_28 rfl rfl rfl)
    · have kk := kk c13_2
      refine r_p dX6_takeSign_16 rfl rfl ?_
      obtain ⟨q1, kk⟩ := kk
      refine r_cv (d1 := 2) dX6_takeSign_17 cvX6_30 rfl rfl rfl rfl (Nat.le_of_ble_eq_true rfl) (Nat.le_of_ble_eq_true rfl) (Nat.le_of_ble_eq_true rfl) (c_rd_advance  q1) ?_
      refine r_go dX6_takeSign_20 rfl ?_
      exact r_eV (r' := (x_rd_advance T)) (by unfold x_rd_takeSign; rw [if_pos c4_1, if_pos c13_2]) (r_rv dX6_takeSign_28 rfl rfl rfl)
  · exact r_eV (r' := T) (by unfold x_rd_takeSign; rw [if_neg c4_1]) (r_rv dX6_takeSign_7 rfl rfl rfl)
def x_rd_takeNumber (T : St) (p0 : Int32) (p1 : Int32) : Int32 × St := if (T.1 13 2) = 0 then (if (T.1 13 5) = 2 then (jn (fun (KJ1 : Int32 × St) => if (T.1 13 6) < p0 then (KJ1) else (if (T.1 13 6) ≤ p1 then (T.1 13 6, x_rd_advance T) else (KJ1))) ((0, sF T 13 2 2))) else (0, sF T 13 2 1)) else (0, T)
def ok_rd_takeNumber (T : St) (p0 : Int32) (p1 : Int32) : Prop := ((T.1 13 2) = 0 → ((T.1 13 5) = 2 → (¬ (T.1 13 6) < p0 → ((T.1 13 6) ≤ p1 → (ok_rd_advance T) ∧ True))))
theorem c_rd_takeNumber {X : Nat × (Nat → Int32)} {T : St} (p0 : Int32) (p1 : Int32) (kk : ok_rd_takeNumber T p0 p1) : tC X 3 mX6_takeNumber [.ref 13, .int p0, .int p1] T (some (.int (x_rd_takeNumber T p0 p1).1)) ((x_rd_takeNumber T p0 p1).2) := by
  unfold ok_rd_takeNumber at kk
  refine tC_of ?_
  refine r_p dX6_takeNumber_0 rfl rfl ?_
  refine r_get dX6_takeNumber_1 fkX6_24 rfl rfl ?_
  refine r_ieq dX6_takeNumber_4 rfl (fun c4_1 => ?_) (fun c4_1 => ?_)
  · have kk := kk c4_1
    refine r_p dX6_takeNumber_9 rfl rfl ?_
    refine r_get dX6_takeNumber_10 fkX6_49 rfl rfl ?_
    refine r_ci (x := 2) dX6_takeNumber_13 rfl ?_
    refine r_ceq dX6_takeNumber_14 rfl (fun c14_2 => ?_) (fun c14_2 => ?_)
    · have kk := kk c14_2
      refine r_p dX6_takeNumber_24 rfl rfl ?_
      refine r_get dX6_takeNumber_25 fkX6_144 rfl rfl ?_
      refine r_p dX6_takeNumber_28 rfl rfl ?_
      obtain ⟨KJ1, hKJ1⟩ : ∃ q : Int32 × St, q = ((0, sF T 13 2 2)) := ⟨_, rfl⟩
      have hJ1 : tR X 2 mX6_takeNumber 40 [some (.ref 13), some (.int p0), some (.int p1), none] [] T (some (.int KJ1.1)) KJ1.2 := by
        rw [hKJ1]
        refine r_p dX6_takeNumber_40 rfl rfl ?_
        refine r_ci (x := 2) dX6_takeNumber_41 rfl ?_
        refine r_put dX6_takeNumber_42 fkX6_24 rfl rfl rfl (Nat.le_of_ble_eq_true rfl) rfl rfl ?_
        refine r_ci (x := 0) dX6_takeNumber_45 rfl ?_
        exact r_eI (r' := (0, sF T 13 2 2)) rfl (r_ri dX6_takeNumber_46 rfl rfl rfl rfl)
      refine r_eI (r' := jn (fun (KJ1 : Int32 × St) => if (T.1 13 6) < p0 then (KJ1) else (if (T.1 13 6) ≤ p1 then (T.1 13 6, x_rd_advance T) else (KJ1))) KJ1) (by rw [hKJ1]; unfold x_rd_takeNumber; rw [if_pos c4_1, if_pos c14_2]) ?_
      refine r_clt dX6_takeNumber_29 rfl (fun c29_5 => ?_) (fun c29_5 => ?_)
      · show tR _ _ _ _ [some (.ref 13), some (.int p0), some (.int p1), none] [] _ _ _
        exact r_eI (r' := KJ1) (by simp only [jn]; rw [if_pos c29_5]) ((hJ1 ))
      · have kk := kk c29_5
        refine r_p dX6_takeNumber_32 rfl rfl ?_
        refine r_get dX6_takeNumber_33 fkX6_144 rfl rfl ?_
        refine r_p dX6_takeNumber_36 rfl rfl ?_
        refine r_cle dX6_takeNumber_37 rfl (fun c37_6 => ?_) (fun c37_6 => ?_)
        · have kk := kk c37_6
          refine r_p dX6_takeNumber_47 rfl rfl ?_
          refine r_get dX6_takeNumber_48 fkX6_144 rfl rfl ?_
          refine r_p dX6_takeNumber_51 rfl rfl ?_
          refine r_p dX6_takeNumber_52 rfl rfl ?_
          obtain ⟨q2, kk⟩ := kk
          refine r_cv (d1 := 2) dX6_takeNumber_53 cvX6_30 rfl rfl rfl rfl (Nat.le_of_ble_eq_true rfl) (Nat.le_of_ble_eq_true rfl) (Nat.le_of_ble_eq_true rfl) (c_rd_advance  q2) ?_
          refine r_p dX6_takeNumber_56 rfl rfl ?_
          exact r_eI (r' := (T.1 13 6, x_rd_advance T)) (by simp only [jn]; rw [if_neg c29_5, if_pos c37_6]) (r_ri dX6_takeNumber_57 rfl rfl rfl rfl)
        · show tR _ _ _ _ [some (.ref 13), some (.int p0), some (.int p1), none] [] _ _ _
          exact r_eI (r' := KJ1) (by simp only [jn]; rw [if_neg c29_5, if_neg c37_6]) ((hJ1 ))
    · refine r_p dX6_takeNumber_17 rfl rfl ?_
      refine r_ci (x := 1) dX6_takeNumber_18 rfl ?_
      refine r_put dX6_takeNumber_19 fkX6_24 rfl rfl rfl (Nat.le_of_ble_eq_true rfl) rfl rfl ?_
      refine r_ci (x := 0) dX6_takeNumber_22 rfl ?_
      exact r_eI (r' := (0, sF T 13 2 1)) (by unfold x_rd_takeNumber; rw [if_pos c4_1, if_neg c14_2]) (r_ri dX6_takeNumber_23 rfl rfl rfl rfl)
  · refine r_ci (x := 0) dX6_takeNumber_7 rfl ?_
    exact r_eI (r' := (0, T)) (by unfold x_rd_takeNumber; rw [if_neg c4_1]) (r_ri dX6_takeNumber_8 rfl rfl rfl rfl)
def x_wa_choose_41 (l0 : Nat) (l1 : Nat) (l2 : Int32) (l3 : Int32) (l4 : Int32) (l5 : Int32) (l6 : Int32) (K : Int32 → Int32 → St → St) : Nat → Int32 → Int32 → St → St
  | 0, _, _, T => T
  | f + 1, v7, v8, T => if v8 < 0 then (K v7 v8 T) else (fun (T1 : St) => jn (fun (KJ1 : Int32 → St) => if v8 = 0 then (KJ1 l4) else (if v8 = 1 then (KJ1 l5) else (KJ1 0))) (fun (j1_s2 : Int32) => (fun (T2 : St) => if (T2.2.2.1 (l1 + 9) (l6 + v8 : Int32).toNatClampNeg) = 4 then (fun (T3 : St) => x_wa_choose_41 l0 l1 l2 l3 l4 l5 l6 K f (v7 - ((T1.2.2.1 (l0 + 2) (v8 : Int32).toNatClampNeg) + j1_s2)) (v8 + (-1)) T3) (sF T2 l0 5 ((T2.1 l0 5) + ((T2.2.2.1 (l1 + 13) (l6 + v8 : Int32).toNatClampNeg) * (T2.2.2.1 (l0 + 2) (v8 : Int32).toNatClampNeg)))) else (x_wa_choose_41 l0 l1 l2 l3 l4 l5 l6 K f (v7 - ((T1.2.2.1 (l0 + 2) (v8 : Int32).toNatClampNeg) + j1_s2)) (v8 + (-1)) T2)) (sA T1 (l0 + 1) (v8 : Int32).toNatClampNeg (v7 - ((T1.2.2.1 (l0 + 2) (v8 : Int32).toNatClampNeg) + j1_s2))))) (sA T (l0 + 2) (v8 : Int32).toNatClampNeg (T.2.2.1 (l1 + 10) (l6 + v8 : Int32).toNatClampNeg))
def ok_wa_choose_41 (l0 : Nat) (l1 : Nat) (l2 : Int32) (l3 : Int32) (l4 : Int32) (l5 : Int32) (l6 : Int32) (Kk : Int32 → Int32 → St → Prop) : Nat → Int32 → Int32 → St → Prop
  | 0, _, _, _ => False
  | f + 1, v7, v8, T => ((v8 < 0 → Kk v7 v8 T) ∧ (¬ v8 < 0 → (sh l0 = .inr 10) ∧ (sh l1 = .inr 1) ∧ (sh (l1 + 10) = .inl (0, 24)) ∧ (vp_in (l6 + v8) 24) ∧ (sh (l0 + 2) = .inl (0, 3)) ∧ (vp_in v8 3) ∧ (fun (T1 : St) => (sh l0 = .inr 10) ∧ (sh (l0 + 2) = .inl (0, 3)) ∧ (vp_in v8 3) ∧ jn (fun (OJ1 : Int32 → Prop) => ((v8 = 0 → OJ1 l4) ∧ (¬ v8 = 0 → ((v8 = 1 → OJ1 l5) ∧ (¬ v8 = 1 → OJ1 0))))) (fun (j1_s2 : Int32) => (sh l0 = .inr 10) ∧ (sh (l0 + 1) = .inl (0, 3)) ∧ (vp_in v8 3) ∧ (fun (T2 : St) => (sh l1 = .inr 1) ∧ (sh (l1 + 9) = .inl (0, 24)) ∧ (vp_in (l6 + v8) 24) ∧ (((T2.2.2.1 (l1 + 9) (l6 + v8 : Int32).toNatClampNeg) = 4 → (sh l0 = .inr 10) ∧ (sh (l1 + 13) = .inl (0, 24)) ∧ (sh (l0 + 2) = .inl (0, 3)) ∧ (vp_in v8 3) ∧ (fun (T3 : St) => ok_wa_choose_41 l0 l1 l2 l3 l4 l5 l6 Kk f (v7 - ((T1.2.2.1 (l0 + 2) (v8 : Int32).toNatClampNeg) + j1_s2)) (v8 + (-1)) T3) (sF T2 l0 5 ((T2.1 l0 5) + ((T2.2.2.1 (l1 + 13) (l6 + v8 : Int32).toNatClampNeg) * (T2.2.2.1 (l0 + 2) (v8 : Int32).toNatClampNeg))))) ∧ (¬ (T2.2.2.1 (l1 + 9) (l6 + v8 : Int32).toNatClampNeg) = 4 → ok_wa_choose_41 l0 l1 l2 l3 l4 l5 l6 Kk f (v7 - ((T1.2.2.1 (l0 + 2) (v8 : Int32).toNatClampNeg) + j1_s2)) (v8 + (-1)) T2))) (sA T1 (l0 + 1) (v8 : Int32).toNatClampNeg (v7 - ((T1.2.2.1 (l0 + 2) (v8 : Int32).toNatClampNeg) + j1_s2))))) (sA T (l0 + 2) (v8 : Int32).toNatClampNeg (T.2.2.1 (l1 + 10) (l6 + v8 : Int32).toNatClampNeg))))
theorem c_wa_choose_41 {X : Nat × (Nat → Int32)} (l0 : Nat) (l1 : Nat) (l2 : Int32) (l3 : Int32) (l4 : Int32) (l5 : Int32) (l6 : Int32) {K : Int32 → Int32 → St → St} {Kk : Int32 → Int32 → St → Prop} (hk : ∀ (v7 : Int32) (v8 : Int32) (T : St), Kk v7 v8 T → tR X 2 mX10_choose 154 [some (.ref l0), some (.ref l1), some (.int l2), some (.int l3), some (.int l4), some (.int l5), some (.int l6), some (.int v7), some (.int v8)] [] T none (K v7 v8 T)) : ∀ (f : Nat) (v7 : Int32) (v8 : Int32) (T : St), ok_wa_choose_41 l0 l1 l2 l3 l4 l5 l6 Kk f v7 v8 T → tR X 2 mX10_choose 41 [some (.ref l0), some (.ref l1), some (.int l2), some (.int l3), some (.int l4), some (.int l5), some (.int l6), some (.int v7), some (.int v8)] [] T none (x_wa_choose_41 l0 l1 l2 l3 l4 l5 l6 K f v7 v8 T) := by
  intro f
  induction f with
  | zero => intro v7 v8 T kk; exact kk.elim
  | succ f ih =>
    intro v7 v8 T kk
    rw [ok_wa_choose_41] at kk
    refine r_p dX10_choose_41 rfl rfl ?_
    refine r_ilt dX10_choose_43 rfl (fun c43_1 => ?_) (fun c43_1 => ?_)
    · have kk := kk.1 c43_1
      show tR _ _ _ _ [some (.ref l0), some (.ref l1), some (.int l2), some (.int l3), some (.int l4), some (.int l5), some (.int l6), some (.int v7), some (.int v8)] _ _ _ _
      exact r_eV (r' := K v7 v8 T) (by rw [x_wa_choose_41]; rw [if_pos c43_1]) ((hk v7 v8 T kk))
    · have kk := kk.2 c43_1
      refine r_p dX10_choose_46 rfl rfl ?_
      obtain ⟨q7, kk⟩ := kk
      refine r_get dX10_choose_47 fkX10_15 q7 rfl ?_
      refine r_p dX10_choose_50 rfl rfl ?_
      refine r_p dX10_choose_52 rfl rfl ?_
      obtain ⟨q8, kk⟩ := kk
      refine r_get dX10_choose_53 fkX10_37 q8 rfl ?_
      refine r_p dX10_choose_56 rfl rfl ?_
      refine r_p dX10_choose_58 rfl rfl ?_
      refine r_p dX10_choose_60 rfl rfl ?_
      obtain ⟨q9, kk⟩ := kk
      obtain ⟨q10, kk⟩ := kk
      refine r_ia dX10_choose_61 q9 q10 ?_
      obtain ⟨q11, kk⟩ := kk
      obtain ⟨q12, kk⟩ := kk
      refine r_ias dX10_choose_62 q11 q12 ?_
      refine r_eV (r' := (fun (T1 : St) => jn (fun (KJ1 : Int32 → St) => if v8 = 0 then (KJ1 l4) else (if v8 = 1 then (KJ1 l5) else (KJ1 0))) (fun (j1_s2 : Int32) => (fun (T2 : St) => if (T2.2.2.1 (l1 + 9) (l6 + v8 : Int32).toNatClampNeg) = 4 then (fun (T3 : St) => x_wa_choose_41 l0 l1 l2 l3 l4 l5 l6 K f (v7 - ((T1.2.2.1 (l0 + 2) (v8 : Int32).toNatClampNeg) + j1_s2)) (v8 + (-1)) T3) (sF T2 l0 5 ((T2.1 l0 5) + ((T2.2.2.1 (l1 + 13) (l6 + v8 : Int32).toNatClampNeg) * (T2.2.2.1 (l0 + 2) (v8 : Int32).toNatClampNeg)))) else (x_wa_choose_41 l0 l1 l2 l3 l4 l5 l6 K f (v7 - ((T1.2.2.1 (l0 + 2) (v8 : Int32).toNatClampNeg) + j1_s2)) (v8 + (-1)) T2)) (sA T1 (l0 + 1) (v8 : Int32).toNatClampNeg (v7 - ((T1.2.2.1 (l0 + 2) (v8 : Int32).toNatClampNeg) + j1_s2))))) (sA T (l0 + 2) (v8 : Int32).toNatClampNeg (T.2.2.1 (l1 + 10) (l6 + v8 : Int32).toNatClampNeg))) (by rw [x_wa_choose_41]; rw [if_neg c43_1]) ?_
      generalize sA T (l0 + 2) (v8 : Int32).toNatClampNeg (T.2.2.1 (l1 + 10) (l6 + v8 : Int32).toNatClampNeg) = T1 at kk ⊢
      try dsimp only at kk
      refine r_p dX10_choose_63 rfl rfl ?_
      refine r_p dX10_choose_65 rfl rfl ?_
      obtain ⟨q13, kk⟩ := kk
      refine r_get dX10_choose_66 fkX10_15 q13 rfl ?_
      refine r_p dX10_choose_69 rfl rfl ?_
      obtain ⟨q14, kk⟩ := kk
      obtain ⟨q15, kk⟩ := kk
      refine r_ia dX10_choose_71 q14 q15 ?_
      refine r_p dX10_choose_72 rfl rfl ?_
      obtain ⟨KJ1, hKJ1⟩ : ∃ q : Int32 → St, q = (fun (j1_s2 : Int32) => (fun (T2 : St) => if (T2.2.2.1 (l1 + 9) (l6 + v8 : Int32).toNatClampNeg) = 4 then (fun (T3 : St) => x_wa_choose_41 l0 l1 l2 l3 l4 l5 l6 K f (v7 - ((T1.2.2.1 (l0 + 2) (v8 : Int32).toNatClampNeg) + j1_s2)) (v8 + (-1)) T3) (sF T2 l0 5 ((T2.1 l0 5) + ((T2.2.2.1 (l1 + 13) (l6 + v8 : Int32).toNatClampNeg) * (T2.2.2.1 (l0 + 2) (v8 : Int32).toNatClampNeg)))) else (x_wa_choose_41 l0 l1 l2 l3 l4 l5 l6 K f (v7 - ((T1.2.2.1 (l0 + 2) (v8 : Int32).toNatClampNeg) + j1_s2)) (v8 + (-1)) T2)) (sA T1 (l0 + 1) (v8 : Int32).toNatClampNeg (v7 - ((T1.2.2.1 (l0 + 2) (v8 : Int32).toNatClampNeg) + j1_s2)))) := ⟨_, rfl⟩
      obtain ⟨OJ1, hOJ1⟩ : ∃ q : Int32 → Prop, q = (fun (j1_s2 : Int32) => (sh l0 = .inr 10) ∧ (sh (l0 + 1) = .inl (0, 3)) ∧ (vp_in v8 3) ∧ (fun (T2 : St) => (sh l1 = .inr 1) ∧ (sh (l1 + 9) = .inl (0, 24)) ∧ (vp_in (l6 + v8) 24) ∧ (((T2.2.2.1 (l1 + 9) (l6 + v8 : Int32).toNatClampNeg) = 4 → (sh l0 = .inr 10) ∧ (sh (l1 + 13) = .inl (0, 24)) ∧ (sh (l0 + 2) = .inl (0, 3)) ∧ (vp_in v8 3) ∧ (fun (T3 : St) => ok_wa_choose_41 l0 l1 l2 l3 l4 l5 l6 Kk f (v7 - ((T1.2.2.1 (l0 + 2) (v8 : Int32).toNatClampNeg) + j1_s2)) (v8 + (-1)) T3) (sF T2 l0 5 ((T2.1 l0 5) + ((T2.2.2.1 (l1 + 13) (l6 + v8 : Int32).toNatClampNeg) * (T2.2.2.1 (l0 + 2) (v8 : Int32).toNatClampNeg))))) ∧ (¬ (T2.2.2.1 (l1 + 9) (l6 + v8 : Int32).toNatClampNeg) = 4 → ok_wa_choose_41 l0 l1 l2 l3 l4 l5 l6 Kk f (v7 - ((T1.2.2.1 (l0 + 2) (v8 : Int32).toNatClampNeg) + j1_s2)) (v8 + (-1)) T2))) (sA T1 (l0 + 1) (v8 : Int32).toNatClampNeg (v7 - ((T1.2.2.1 (l0 + 2) (v8 : Int32).toNatClampNeg) + j1_s2)))) := ⟨_, rfl⟩
      rw [← hOJ1] at kk
      simp only [jn] at kk
      have hJ1 : ∀ (j1_s2 : Int32), OJ1 j1_s2 → tR X 2 mX10_choose 94 [some (.ref l0), some (.ref l1), some (.int l2), some (.int l3), some (.int l4), some (.int l5), some (.int l6), some (.int v7), some (.int v8)] [.int j1_s2, .int (T1.2.2.1 (l0 + 2) (v8 : Int32).toNatClampNeg), .int v7] T1 none (KJ1 j1_s2) := by
        intro j1_s2 kk
        rw [hOJ1] at kk
        try dsimp only at kk
        rw [hKJ1]
        refine r_p dX10_choose_94 rfl rfl ?_
        refine r_p dX10_choose_95 rfl rfl ?_
        refine r_p dX10_choose_96 rfl rfl ?_
        refine r_p dX10_choose_98 rfl rfl ?_
        obtain ⟨q16, kk⟩ := kk
        refine r_get dX10_choose_99 fkX10_9 q16 rfl ?_
        refine r_p dX10_choose_102 rfl rfl ?_
        refine r_p dX10_choose_104 rfl rfl ?_
        obtain ⟨q17, kk⟩ := kk
        obtain ⟨q18, kk⟩ := kk
        refine r_ias dX10_choose_106 q17 q18 ?_
        refine r_eV (r' := (fun (T2 : St) => if (T2.2.2.1 (l1 + 9) (l6 + v8 : Int32).toNatClampNeg) = 4 then (fun (T3 : St) => x_wa_choose_41 l0 l1 l2 l3 l4 l5 l6 K f (v7 - ((T1.2.2.1 (l0 + 2) (v8 : Int32).toNatClampNeg) + j1_s2)) (v8 + (-1)) T3) (sF T2 l0 5 ((T2.1 l0 5) + ((T2.2.2.1 (l1 + 13) (l6 + v8 : Int32).toNatClampNeg) * (T2.2.2.1 (l0 + 2) (v8 : Int32).toNatClampNeg)))) else (x_wa_choose_41 l0 l1 l2 l3 l4 l5 l6 K f (v7 - ((T1.2.2.1 (l0 + 2) (v8 : Int32).toNatClampNeg) + j1_s2)) (v8 + (-1)) T2)) (sA T1 (l0 + 1) (v8 : Int32).toNatClampNeg (v7 - ((T1.2.2.1 (l0 + 2) (v8 : Int32).toNatClampNeg) + j1_s2)))) rfl ?_
        generalize sA T1 (l0 + 1) (v8 : Int32).toNatClampNeg (v7 - ((T1.2.2.1 (l0 + 2) (v8 : Int32).toNatClampNeg) + j1_s2)) = T2 at kk ⊢
        try dsimp only at kk
        refine r_p dX10_choose_107 rfl rfl ?_
        obtain ⟨q19, kk⟩ := kk
        refine r_get dX10_choose_108 fkX10_38 q19 rfl ?_
        refine r_p dX10_choose_111 rfl rfl ?_
        refine r_p dX10_choose_113 rfl rfl ?_
        refine r_p dX10_choose_115 rfl rfl ?_
        obtain ⟨q20, kk⟩ := kk
        obtain ⟨q21, kk⟩ := kk
        refine r_ia dX10_choose_116 q20 q21 ?_
        refine r_ci (x := 4) dX10_choose_117 rfl ?_
        refine r_cne dX10_choose_118 rfl (fun c118_4 => ?_) (fun c118_4 => ?_)
        · have kk := kk.2 c118_4
          refine r_inc (y := -1) dX10_choose_148 rfl rfl rfl ?_
          refine r_go dX10_choose_151 rfl ?_
          show tR _ _ _ _ [some (.ref l0), some (.ref l1), some (.int l2), some (.int l3), some (.int l4), some (.int l5), some (.int l6), some (.int (v7 - ((T1.2.2.1 (l0 + 2) (v8 : Int32).toNatClampNeg) + j1_s2))), some (.int (v8 + (-1)))] _ _ _ _
          exact r_eV (r' := x_wa_choose_41 l0 l1 l2 l3 l4 l5 l6 K f (v7 - ((T1.2.2.1 (l0 + 2) (v8 : Int32).toNatClampNeg) + j1_s2)) (v8 + (-1)) T2) (by first | rw [if_neg c118_4] | (dsimp only; rw [if_neg c118_4])) ((ih (v7 - ((T1.2.2.1 (l0 + 2) (v8 : Int32).toNatClampNeg) + j1_s2)) (v8 + (-1)) T2 kk))
        · have kk := kk.1 c118_4
          refine r_p dX10_choose_121 rfl rfl ?_
          refine r_p dX10_choose_122 rfl rfl ?_
          obtain ⟨q22, kk⟩ := kk
          refine r_get dX10_choose_123 fkX10_31 q22 rfl ?_
          refine r_p dX10_choose_126 rfl rfl ?_
          refine r_get dX10_choose_127 fkX10_41 q19 rfl ?_
          refine r_p dX10_choose_130 rfl rfl ?_
          refine r_p dX10_choose_132 rfl rfl ?_
          refine r_p dX10_choose_134 rfl rfl ?_
          obtain ⟨q23, kk⟩ := kk
          refine r_ia dX10_choose_135 q23 q21 ?_
          refine r_p dX10_choose_136 rfl rfl ?_
          refine r_get dX10_choose_137 fkX10_15 q22 rfl ?_
          refine r_p dX10_choose_140 rfl rfl ?_
          obtain ⟨q24, kk⟩ := kk
          obtain ⟨q25, kk⟩ := kk
          refine r_ia dX10_choose_142 q24 q25 ?_
          refine r_p dX10_choose_143 rfl rfl ?_
          refine r_p dX10_choose_144 rfl rfl ?_
          refine r_put dX10_choose_145 fkX10_31 rfl q22 rfl (Nat.le_of_ble_eq_true rfl) rfl rfl ?_
          refine r_eV (r' := (fun (T3 : St) => x_wa_choose_41 l0 l1 l2 l3 l4 l5 l6 K f (v7 - ((T1.2.2.1 (l0 + 2) (v8 : Int32).toNatClampNeg) + j1_s2)) (v8 + (-1)) T3) (sF T2 l0 5 ((T2.1 l0 5) + ((T2.2.2.1 (l1 + 13) (l6 + v8 : Int32).toNatClampNeg) * (T2.2.2.1 (l0 + 2) (v8 : Int32).toNatClampNeg))))) (by first | rw [if_pos c118_4] | (dsimp only; rw [if_pos c118_4])) ?_
          generalize sF T2 l0 5 ((T2.1 l0 5) + ((T2.2.2.1 (l1 + 13) (l6 + v8 : Int32).toNatClampNeg) * (T2.2.2.1 (l0 + 2) (v8 : Int32).toNatClampNeg))) = T3 at kk ⊢
          try dsimp only at kk
          refine r_inc (y := -1) dX10_choose_148 rfl rfl rfl ?_
          refine r_go dX10_choose_151 rfl ?_
          show tR _ _ _ _ [some (.ref l0), some (.ref l1), some (.int l2), some (.int l3), some (.int l4), some (.int l5), some (.int l6), some (.int (v7 - ((T1.2.2.1 (l0 + 2) (v8 : Int32).toNatClampNeg) + j1_s2))), some (.int (v8 + (-1)))] _ _ _ _
          exact r_eV (r' := x_wa_choose_41 l0 l1 l2 l3 l4 l5 l6 K f (v7 - ((T1.2.2.1 (l0 + 2) (v8 : Int32).toNatClampNeg) + j1_s2)) (v8 + (-1)) T3) rfl ((ih (v7 - ((T1.2.2.1 (l0 + 2) (v8 : Int32).toNatClampNeg) + j1_s2)) (v8 + (-1)) T3 kk))
      refine r_eV (r' := jn (fun (KJ1 : Int32 → St) => if v8 = 0 then (KJ1 l4) else (if v8 = 1 then (KJ1 l5) else (KJ1 0))) KJ1) (by rw [hKJ1]) ?_
      refine r_ine dX10_choose_74 rfl (fun c74_5 => ?_) (fun c74_5 => ?_)
      · have kk := kk.2 c74_5
        refine r_p dX10_choose_82 rfl rfl ?_
        refine r_ci (x := 1) dX10_choose_84 rfl ?_
        refine r_cne dX10_choose_85 rfl (fun c85_6 => ?_) (fun c85_6 => ?_)
        · have kk := kk.2 c85_6
          refine r_ci (x := 0) dX10_choose_93 rfl ?_
          show tR _ _ _ _ [some (.ref l0), some (.ref l1), some (.int l2), some (.int l3), some (.int l4), some (.int l5), some (.int l6), some (.int v7), some (.int v8)] [.int 0, .int (T1.2.2.1 (l0 + 2) (v8 : Int32).toNatClampNeg), .int v7] _ _ _
          exact r_eV (r' := KJ1 0) (by simp only [jn]; rw [if_neg c74_5, if_neg c85_6]) ((hJ1 0 kk))
        · have kk := kk.1 c85_6
          refine r_p dX10_choose_88 rfl rfl ?_
          refine r_go dX10_choose_90 rfl ?_
          show tR _ _ _ _ [some (.ref l0), some (.ref l1), some (.int l2), some (.int l3), some (.int l4), some (.int l5), some (.int l6), some (.int v7), some (.int v8)] [.int l5, .int (T1.2.2.1 (l0 + 2) (v8 : Int32).toNatClampNeg), .int v7] _ _ _
          exact r_eV (r' := KJ1 l5) (by simp only [jn]; rw [if_neg c74_5, if_pos c85_6]) ((hJ1 l5 kk))
      · have kk := kk.1 c74_5
        refine r_p dX10_choose_77 rfl rfl ?_
        refine r_go dX10_choose_79 rfl ?_
        show tR _ _ _ _ [some (.ref l0), some (.ref l1), some (.int l2), some (.int l3), some (.int l4), some (.int l5), some (.int l6), some (.int v7), some (.int v8)] [.int l4, .int (T1.2.2.1 (l0 + 2) (v8 : Int32).toNatClampNeg), .int v7] _ _ _
        exact r_eV (r' := KJ1 l4) (by simp only [jn]; rw [if_pos c74_5]) ((hJ1 l4 kk))
def x_wa_choose (T : St) (a : Nat) (p0 : Nat) (p1 : Int32) (p2 : Int32) (p3 : Int32) (p4 : Int32) : St := x_wa_choose_41 a p0 p1 p2 p3 p4 ((sF T a 3 p1).2.2.1 (p0 + 8) ((sF T a 3 p1).1 a 3 : Int32).toNatClampNeg) (fun (w1_7 : Int32) (w1_8 : Int32) (T201 : St) => jn (fun (KJ2 : St) => if w1_7 < 0 then (KJ2) else (if (x_wa_isWarmed T201 a p0) = 0 then (KJ2) else (if (x_wa_agrees T201 a p0 a) = 0 then (KJ2) else (if ((sF T201 a 6 1).1 a 6) = 0 then (sF T201 a 6 1) else (x_wa_lay (sF T201 a 6 1) a p0))))) (if ((sF T201 a 6 0).1 a 6) = 0 then (sF T201 a 6 0) else (x_wa_lay (sF T201 a 6 0) a p0))) 1000 p2 (((sF (sF T a 3 p1) a 5 (p3 + p4)).2.2.1 (p0 + 7) ((sF (sF T a 3 p1) a 5 (p3 + p4)).1 a 3 : Int32).toNatClampNeg) - 1) (sF (sF T a 3 p1) a 5 (p3 + p4))
def ok_wa_choose (T : St) (a : Nat) (p0 : Nat) (p1 : Int32) (p2 : Int32) (p3 : Int32) (p4 : Int32) : Prop := (sh a = .inr 10) ∧ (sh p0 = .inr 1) ∧ (sh (p0 + 8) = .inl (0, 8)) ∧ (vp_in ((sF T a 3 p1).1 a 3) 8) ∧ (sh (p0 + 7) = .inl (0, 8)) ∧ (vp_in ((sF (sF T a 3 p1) a 5 (p3 + p4)).1 a 3) 8) ∧ ok_wa_choose_41 a p0 p1 p2 p3 p4 ((sF T a 3 p1).2.2.1 (p0 + 8) ((sF T a 3 p1).1 a 3 : Int32).toNatClampNeg) (fun (w1_7 : Int32) (w1_8 : Int32) (T201 : St) => jn (fun (OJ2 : Prop) => ((w1_7 < 0 → OJ2) ∧ (¬ w1_7 < 0 → (ok_wa_isWarmed T201 a p0) ∧ (sh a = .inr 10) ∧ (((x_wa_isWarmed T201 a p0) = 0 → OJ2) ∧ (¬ (x_wa_isWarmed T201 a p0) = 0 → (ok_wa_agrees T201 a p0 a) ∧ (((x_wa_agrees T201 a p0 a) = 0 → OJ2) ∧ (¬ (x_wa_agrees T201 a p0 a) = 0 → (¬ ((sF T201 a 6 1).1 a 6) = 0 → (ok_wa_lay (sF T201 a 6 1) a p0) ∧ True)))))))) ((sh a = .inr 10) ∧ (¬ ((sF T201 a 6 0).1 a 6) = 0 → (ok_wa_lay (sF T201 a 6 0) a p0) ∧ True))) 1000 p2 (((sF (sF T a 3 p1) a 5 (p3 + p4)).2.2.1 (p0 + 7) ((sF (sF T a 3 p1) a 5 (p3 + p4)).1 a 3 : Int32).toNatClampNeg) - 1) (sF (sF T a 3 p1) a 5 (p3 + p4))
theorem c_wa_choose {X : Nat × (Nat → Int32)} {T : St} (a : Nat) (p0 : Nat) (p1 : Int32) (p2 : Int32) (p3 : Int32) (p4 : Int32) (kk : ok_wa_choose T a p0 p1 p2 p3 p4) : tC X 3 mX10_choose [.ref a, .ref p0, .int p1, .int p2, .int p3, .int p4] T none (x_wa_choose T a p0 p1 p2 p3 p4) := by
  unfold ok_wa_choose at kk
  refine tC_of ?_
  refine r_p dX10_choose_0 rfl rfl ?_
  refine r_p dX10_choose_1 rfl rfl ?_
  obtain ⟨q1, kk⟩ := kk
  refine r_put dX10_choose_2 fkX10_22 rfl q1 rfl (Nat.le_of_ble_eq_true rfl) rfl rfl ?_
  refine r_p dX10_choose_5 rfl rfl ?_
  obtain ⟨q2, kk⟩ := kk
  refine r_get dX10_choose_6 fkX10_26 q2 rfl ?_
  refine r_p dX10_choose_9 rfl rfl ?_
  refine r_get dX10_choose_10 fkX10_22 q1 rfl ?_
  obtain ⟨q3, kk⟩ := kk
  obtain ⟨q4, kk⟩ := kk
  refine r_ia dX10_choose_13 q3 q4 ?_
  refine r_p dX10_choose_14 rfl rfl ?_
  refine r_p dX10_choose_16 rfl rfl ?_
  refine r_p dX10_choose_17 rfl rfl ?_
  refine r_p dX10_choose_19 rfl rfl ?_
  refine r_p dX10_choose_20 rfl rfl ?_
  refine r_p dX10_choose_22 rfl rfl ?_
  refine r_p dX10_choose_24 rfl rfl ?_
  refine r_put dX10_choose_25 fkX10_31 rfl q1 rfl (Nat.le_of_ble_eq_true rfl) rfl rfl ?_
  refine r_p dX10_choose_28 rfl rfl ?_
  refine r_get dX10_choose_29 fkX10_34 q2 rfl ?_
  refine r_p dX10_choose_32 rfl rfl ?_
  refine r_get dX10_choose_33 fkX10_22 q1 rfl ?_
  obtain ⟨q5, kk⟩ := kk
  obtain ⟨q6, kk⟩ := kk
  refine r_ia dX10_choose_36 q5 q6 ?_
  refine r_ci (x := 1) dX10_choose_37 rfl ?_
  refine r_p dX10_choose_38 rfl rfl ?_
  refine r_p dX10_choose_39 rfl rfl ?_
  show tR _ _ _ _ [some (.ref a), some (.ref p0), some (.int p1), some (.int p2), some (.int p3), some (.int p4), some (.int ((sF T a 3 p1).2.2.1 (p0 + 8) ((sF T a 3 p1).1 a 3 : Int32).toNatClampNeg)), some (.int p2), some (.int (((sF (sF T a 3 p1) a 5 (p3 + p4)).2.2.1 (p0 + 7) ((sF (sF T a 3 p1) a 5 (p3 + p4)).1 a 3 : Int32).toNatClampNeg) - 1))] _ _ _ _
  refine r_eV (r' := x_wa_choose_41 a p0 p1 p2 p3 p4 ((sF T a 3 p1).2.2.1 (p0 + 8) ((sF T a 3 p1).1 a 3 : Int32).toNatClampNeg) (fun (w1_7 : Int32) (w1_8 : Int32) (T201 : St) => jn (fun (KJ2 : St) => if w1_7 < 0 then (KJ2) else (if (x_wa_isWarmed T201 a p0) = 0 then (KJ2) else (if (x_wa_agrees T201 a p0 a) = 0 then (KJ2) else (if ((sF T201 a 6 1).1 a 6) = 0 then (sF T201 a 6 1) else (x_wa_lay (sF T201 a 6 1) a p0))))) (if ((sF T201 a 6 0).1 a 6) = 0 then (sF T201 a 6 0) else (x_wa_lay (sF T201 a 6 0) a p0))) 1000 p2 (((sF (sF T a 3 p1) a 5 (p3 + p4)).2.2.1 (p0 + 7) ((sF (sF T a 3 p1) a 5 (p3 + p4)).1 a 3 : Int32).toNatClampNeg) - 1) (sF (sF T a 3 p1) a 5 (p3 + p4))) (by unfold x_wa_choose; rfl) ((c_wa_choose_41 a p0 p1 p2 p3 p4 ((sF T a 3 p1).2.2.1 (p0 + 8) ((sF T a 3 p1).1 a 3 : Int32).toNatClampNeg) (fun w1_7 w1_8 T201 kk => ?_) 1000 p2 (((sF (sF T a 3 p1) a 5 (p3 + p4)).2.2.1 (p0 + 7) ((sF (sF T a 3 p1) a 5 (p3 + p4)).1 a 3 : Int32).toNatClampNeg) - 1) (sF (sF T a 3 p1) a 5 (p3 + p4)) kk))
  · try dsimp only at kk
    refine r_p dX10_choose_154 rfl rfl ?_
    refine r_p dX10_choose_155 rfl rfl ?_
    obtain ⟨KJ2, hKJ2⟩ : ∃ q : St, q = (if ((sF T201 a 6 0).1 a 6) = 0 then (sF T201 a 6 0) else (x_wa_lay (sF T201 a 6 0) a p0)) := ⟨_, rfl⟩
    obtain ⟨OJ2, hOJ2⟩ : ∃ q : Prop, q = ((sh a = .inr 10) ∧ (¬ ((sF T201 a 6 0).1 a 6) = 0 → (ok_wa_lay (sF T201 a 6 0) a p0) ∧ True)) := ⟨_, rfl⟩
    rw [← hOJ2] at kk
    simp only [jn] at kk
    have hJ2 : OJ2 → tR X 2 mX10_choose 181 [some (.ref a), some (.ref p0), some (.int p1), some (.int p2), some (.int p3), some (.int p4), some (.int ((sF T a 3 p1).2.2.1 (p0 + 8) ((sF T a 3 p1).1 a 3 : Int32).toNatClampNeg)), some (.int w1_7), some (.int w1_8)] [.ref a] T201 none KJ2 := by
      intro  kk
      rw [hOJ2] at kk
      try dsimp only at kk
      rw [hKJ2]
      refine r_ci (x := 0) dX10_choose_181 rfl ?_
      obtain ⟨q30, kk⟩ := kk
      refine r_put dX10_choose_182 fkX10_52 rfl q30 rfl (Nat.le_of_ble_eq_true rfl) rfl rfl ?_
      refine r_p dX10_choose_185 rfl rfl ?_
      refine r_get dX10_choose_186 fkX10_52 q30 rfl ?_
      refine r_ieq dX10_choose_189 rfl (fun c189_11 => ?_) (fun c189_11 => ?_)
      · exact r_eV (r' := (sF T201 a 6 0)) (by first | rw [if_pos c189_11] | (dsimp only; rw [if_pos c189_11])) (r_rv dX10_choose_197 rfl rfl rfl)
      · have kk := kk c189_11
        refine r_p dX10_choose_192 rfl rfl ?_
        refine r_p dX10_choose_193 rfl rfl ?_
        obtain ⟨q31, kk⟩ := kk
        refine r_cv (d1 := 2) dX10_choose_194 cvX10_56 rfl rfl q30 rfl (Nat.le_of_ble_eq_true rfl) (Nat.le_of_ble_eq_true rfl) (Nat.le_of_ble_eq_true rfl) (c_wa_lay a p0 q31) ?_
        exact r_eV (r' := (x_wa_lay (sF T201 a 6 0) a p0)) (by first | rw [if_neg c189_11] | (dsimp only; rw [if_neg c189_11])) (r_rv dX10_choose_197 rfl rfl rfl)
    refine r_eV (r' := jn (fun (KJ2 : St) => if w1_7 < 0 then (KJ2) else (if (x_wa_isWarmed T201 a p0) = 0 then (KJ2) else (if (x_wa_agrees T201 a p0 a) = 0 then (KJ2) else (if ((sF T201 a 6 1).1 a 6) = 0 then (sF T201 a 6 1) else (x_wa_lay (sF T201 a 6 1) a p0))))) KJ2) (by rw [hKJ2]) ?_
    refine r_ilt dX10_choose_157 rfl (fun c157_12 => ?_) (fun c157_12 => ?_)
    · have kk := kk.1 c157_12
      show tR _ _ _ _ [some (.ref a), some (.ref p0), some (.int p1), some (.int p2), some (.int p3), some (.int p4), some (.int ((sF T a 3 p1).2.2.1 (p0 + 8) ((sF T a 3 p1).1 a 3 : Int32).toNatClampNeg)), some (.int w1_7), some (.int w1_8)] [.ref a] _ _ _
      exact r_eV (r' := KJ2) (by simp only [jn]; rw [if_pos c157_12]) ((hJ2  kk))
    · have kk := kk.2 c157_12
      refine r_p dX10_choose_160 rfl rfl ?_
      refine r_p dX10_choose_161 rfl rfl ?_
      obtain ⟨q32, kk⟩ := kk
      obtain ⟨q33, kk⟩ := kk
      refine r_cv (d1 := 2) dX10_choose_162 cvX10_44 rfl rfl q33 rfl (Nat.le_of_ble_eq_true rfl) (Nat.le_of_ble_eq_true rfl) (Nat.le_of_ble_eq_true rfl) (c_wa_isWarmed a p0 q32) ?_
      refine r_ieq dX10_choose_165 rfl (fun c165_13 => ?_) (fun c165_13 => ?_)
      · have kk := kk.1 c165_13
        show tR _ _ _ _ [some (.ref a), some (.ref p0), some (.int p1), some (.int p2), some (.int p3), some (.int p4), some (.int ((sF T a 3 p1).2.2.1 (p0 + 8) ((sF T a 3 p1).1 a 3 : Int32).toNatClampNeg)), some (.int w1_7), some (.int w1_8)] [.ref a] _ _ _
        exact r_eV (r' := KJ2) (by simp only [jn]; rw [if_neg c157_12, if_pos c165_13]) ((hJ2  kk))
      · have kk := kk.2 c165_13
        refine r_p dX10_choose_168 rfl rfl ?_
        refine r_p dX10_choose_169 rfl rfl ?_
        refine r_p dX10_choose_170 rfl rfl ?_
        obtain ⟨q34, kk⟩ := kk
        refine r_cv (d1 := 2) dX10_choose_171 cvX10_48 rfl rfl q33 rfl (Nat.le_of_ble_eq_true rfl) (Nat.le_of_ble_eq_true rfl) (Nat.le_of_ble_eq_true rfl) (c_wa_agrees a p0 a q34) ?_
        refine r_ieq dX10_choose_174 rfl (fun c174_14 => ?_) (fun c174_14 => ?_)
        · have kk := kk.1 c174_14
          show tR _ _ _ _ [some (.ref a), some (.ref p0), some (.int p1), some (.int p2), some (.int p3), some (.int p4), some (.int ((sF T a 3 p1).2.2.1 (p0 + 8) ((sF T a 3 p1).1 a 3 : Int32).toNatClampNeg)), some (.int w1_7), some (.int w1_8)] [.ref a] _ _ _
          exact r_eV (r' := KJ2) (by simp only [jn]; rw [if_neg c157_12, if_neg c165_13, if_pos c174_14]) ((hJ2  kk))
        · have kk := kk.2 c174_14
          refine r_ci (x := 1) dX10_choose_177 rfl ?_
          refine r_go dX10_choose_178 rfl ?_
          refine r_put dX10_choose_182 fkX10_52 rfl q33 rfl (Nat.le_of_ble_eq_true rfl) rfl rfl ?_
          refine r_p dX10_choose_185 rfl rfl ?_
          refine r_get dX10_choose_186 fkX10_52 q33 rfl ?_
          refine r_ieq dX10_choose_189 rfl (fun c189_15 => ?_) (fun c189_15 => ?_)
          · exact r_eV (r' := (sF T201 a 6 1)) (by simp only [jn]; rw [if_neg c157_12, if_neg c165_13, if_neg c174_14, if_pos c189_15]) (r_rv dX10_choose_197 rfl rfl rfl)
          · have kk := kk c189_15
            refine r_p dX10_choose_192 rfl rfl ?_
            refine r_p dX10_choose_193 rfl rfl ?_
            obtain ⟨q35, kk⟩ := kk
            refine r_cv (d1 := 2) dX10_choose_194 cvX10_56 rfl rfl q33 rfl (Nat.le_of_ble_eq_true rfl) (Nat.le_of_ble_eq_true rfl) (Nat.le_of_ble_eq_true rfl) (c_wa_lay a p0 q35) ?_
            exact r_eV (r' := (x_wa_lay (sF T201 a 6 1) a p0)) (by simp only [jn]; rw [if_neg c157_12, if_neg c165_13, if_neg c174_14, if_neg c189_15]) (r_rv dX10_choose_197 rfl rfl rfl)
def x_x_dinner (T : St) (p0 : Int32) : Int32 × St := if (x_J_bitCount T p0) < 1 then ((-1000001), T) else (if 4 < (x_J_bitCount T p0) then ((-1000001), T) else (if (p0 &&& ((x_bk_allDishes T (T.2.1 0)) ^^^ (-1))) = 0 then (x_J_bitCount T p0, x_x_changed (sF T (T.2.1 0) 17 p0)) else ((-1000001), T)))
def ok_x_dinner (T : St) (p0 : Int32) : Prop := (¬ (x_J_bitCount T p0) < 1 → (¬ 4 < (x_J_bitCount T p0) → (ok_bk_allDishes T (T.2.1 0)) ∧ (sh (T.2.1 0) = .inr 1) ∧ ((p0 &&& ((x_bk_allDishes T (T.2.1 0)) ^^^ (-1))) = 0 → (ok_x_changed (sF T (T.2.1 0) 17 p0)) ∧ True)))
theorem c_x_dinner {X : Nat × (Nat → Int32)} {T : St} (p0 : Int32) (kk : ok_x_dinner T p0) : tC X 5 mX11_dinner [.ref 0, .int p0] T (some (.int (x_x_dinner T p0).1)) ((x_x_dinner T p0).2) := by
  unfold ok_x_dinner at kk
  refine tC_of ?_
  refine r_p dX11_dinner_0 rfl rfl ?_
  refine r_cs (d1 := 1) dX11_dinner_1 csX11_200 rfl rfl (Nat.le_of_ble_eq_true rfl) (Nat.le_of_ble_eq_true rfl) (Nat.le_of_ble_eq_true rfl) (c_J_bitCount p0) ?_
  refine r_p dX11_dinner_4 rfl rfl ?_
  refine r_p dX11_dinner_5 rfl rfl ?_
  refine r_ci (x := 1) dX11_dinner_6 rfl ?_
  refine r_clt dX11_dinner_7 rfl (fun c7_1 => ?_) (fun c7_1 => ?_)
  · refine r_k dX11_dinner_29 kkX11_82 ?_
    exact r_eI (r' := ((-1000001), T)) (by unfold x_x_dinner; rw [if_pos c7_1]) (r_ri dX11_dinner_31 rfl rfl rfl rfl)
  · have kk := kk c7_1
    refine r_p dX11_dinner_10 rfl rfl ?_
    refine r_ci (x := 4) dX11_dinner_11 rfl ?_
    refine r_cgt dX11_dinner_12 rfl (fun c12_2 => ?_) (fun c12_2 => ?_)
    · refine r_k dX11_dinner_29 kkX11_82 ?_
      exact r_eI (r' := ((-1000001), T)) (by unfold x_x_dinner; rw [if_neg c7_1, if_pos c12_2]) (r_ri dX11_dinner_31 rfl rfl rfl rfl)
    · have kk := kk c12_2
      refine r_p dX11_dinner_15 rfl rfl ?_
      refine r_p dX11_dinner_16 rfl rfl ?_
      refine r_get dX11_dinner_17 fkX11_30 rfl rfl ?_
      obtain ⟨q1, kk⟩ := kk
      obtain ⟨q2, kk⟩ := kk
      refine r_cv (d1 := 1) dX11_dinner_20 cvX11_205 rfl rfl q2 rfl (Nat.le_of_ble_eq_true rfl) (Nat.le_of_ble_eq_true rfl) (Nat.le_of_ble_eq_true rfl) (c_bk_allDishes (T.2.1 0) q1) ?_
      refine r_ci (x := -1) dX11_dinner_23 rfl ?_
      refine r_p dX11_dinner_24 rfl rfl ?_
      refine r_p dX11_dinner_25 rfl rfl ?_
      refine r_ieq dX11_dinner_26 rfl (fun c26_3 => ?_) (fun c26_3 => ?_)
      · have kk := kk c26_3
        refine r_p dX11_dinner_32 rfl rfl ?_
        refine r_get dX11_dinner_33 fkX11_30 rfl rfl ?_
        refine r_p dX11_dinner_36 rfl rfl ?_
        refine r_put dX11_dinner_37 fkX11_209 rfl q2 rfl (Nat.le_of_ble_eq_true rfl) rfl rfl ?_
        refine r_p dX11_dinner_40 rfl rfl ?_
        obtain ⟨q3, kk⟩ := kk
        refine r_cv (d1 := 4) dX11_dinner_41 cvX11_146 rfl rfl rfl rfl (Nat.le_of_ble_eq_true rfl) (Nat.le_of_ble_eq_true rfl) (Nat.le_of_ble_eq_true rfl) (c_x_changed  q3) ?_
        refine r_p dX11_dinner_44 rfl rfl ?_
        exact r_eI (r' := (x_J_bitCount T p0, x_x_changed (sF T (T.2.1 0) 17 p0))) (by unfold x_x_dinner; rw [if_neg c7_1, if_neg c12_2, if_pos c26_3]) (r_ri dX11_dinner_45 rfl rfl rfl rfl)
      · refine r_k dX11_dinner_29 kkX11_82 ?_
        exact r_eI (r' := ((-1000001), T)) (by unfold x_x_dinner; rw [if_neg c7_1, if_neg c12_2, if_neg c26_3]) (r_ri dX11_dinner_31 rfl rfl rfl rfl)
def x_x_out (T : St) (p0 : Int32) : Int32 × St := if p0 < 0 then ((-1000001), T) else (if p0 ≤ 60 then (if (x_bk_isRead T (T.2.1 0)) = 0 then ((-1000002), T) else (if (T.2.2.1 ((T.2.1 0) + 1) (1 : Int32).toNatClampNeg) = 0 then ((-1000002), T) else (1, x_x_changed (sF T (T.2.1 0) 18 p0)))) else ((-1000001), T))
def ok_x_out (T : St) (p0 : Int32) : Prop := (¬ p0 < 0 → (p0 ≤ 60 → (ok_bk_isRead T (T.2.1 0)) ∧ (sh (T.2.1 0) = .inr 1) ∧ (¬ (x_bk_isRead T (T.2.1 0)) = 0 → (sh ((T.2.1 0) + 1) = .inl (0, 7)) ∧ (vp_in 1 7) ∧ (¬ (T.2.2.1 ((T.2.1 0) + 1) (1 : Int32).toNatClampNeg) = 0 → (ok_x_changed (sF T (T.2.1 0) 18 p0)) ∧ True))))
theorem c_x_out {X : Nat × (Nat → Int32)} {T : St} (p0 : Int32) (kk : ok_x_out T p0) : tC X 5 mX11_out [.ref 0, .int p0] T (some (.int (x_x_out T p0).1)) ((x_x_out T p0).2) := by
  unfold ok_x_out at kk
  refine tC_of ?_
  refine r_p dX11_out_0 rfl rfl ?_
  refine r_ilt dX11_out_1 rfl (fun c1_1 => ?_) (fun c1_1 => ?_)
  · refine r_k dX11_out_10 kkX11_82 ?_
    exact r_eI (r' := ((-1000001), T)) (by unfold x_x_out; rw [if_pos c1_1]) (r_ri dX11_out_12 rfl rfl rfl rfl)
  · have kk := kk c1_1
    refine r_p dX11_out_4 rfl rfl ?_
    refine r_cb (x := 60) dX11_out_5 rfl ?_
    refine r_cle dX11_out_7 rfl (fun c7_2 => ?_) (fun c7_2 => ?_)
    · have kk := kk c7_2
      refine r_p dX11_out_13 rfl rfl ?_
      refine r_get dX11_out_14 fkX11_30 rfl rfl ?_
      obtain ⟨q1, kk⟩ := kk
      obtain ⟨q2, kk⟩ := kk
      refine r_cv (d1 := 1) dX11_out_17 cvX11_189 rfl rfl q2 rfl (Nat.le_of_ble_eq_true rfl) (Nat.le_of_ble_eq_true rfl) (Nat.le_of_ble_eq_true rfl) (c_bk_isRead (T.2.1 0) q1) ?_
      refine r_ieq dX11_out_20 rfl (fun c20_3 => ?_) (fun c20_3 => ?_)
      · refine r_k dX11_out_35 kkX11_193 ?_
        exact r_eI (r' := ((-1000002), T)) (by unfold x_x_out; rw [if_neg c1_1, if_pos c7_2, if_pos c20_3]) (r_ri dX11_out_37 rfl rfl rfl rfl)
      · have kk := kk c20_3
        refine r_p dX11_out_23 rfl rfl ?_
        refine r_get dX11_out_24 fkX11_30 rfl rfl ?_
        refine r_get dX11_out_27 fkX11_212 q2 rfl ?_
        refine r_ci (x := 1) dX11_out_30 rfl ?_
        obtain ⟨q3, kk⟩ := kk
        obtain ⟨q4, kk⟩ := kk
        refine r_ia dX11_out_31 q3 q4 ?_
        refine r_ine dX11_out_32 rfl (fun c32_4 => ?_) (fun c32_4 => ?_)
        · have kk := kk c32_4
          refine r_p dX11_out_38 rfl rfl ?_
          refine r_get dX11_out_39 fkX11_30 rfl rfl ?_
          refine r_p dX11_out_42 rfl rfl ?_
          refine r_put dX11_out_43 fkX11_215 rfl q2 rfl (Nat.le_of_ble_eq_true rfl) rfl rfl ?_
          refine r_p dX11_out_46 rfl rfl ?_
          obtain ⟨q5, kk⟩ := kk
          refine r_cv (d1 := 4) dX11_out_47 cvX11_146 rfl rfl rfl rfl (Nat.le_of_ble_eq_true rfl) (Nat.le_of_ble_eq_true rfl) (Nat.le_of_ble_eq_true rfl) (c_x_changed  q5) ?_
          refine r_ci (x := 1) dX11_out_50 rfl ?_
          exact r_eI (r' := (1, x_x_changed (sF T (T.2.1 0) 18 p0))) (by unfold x_x_out; rw [if_neg c1_1, if_pos c7_2, if_neg c20_3, if_neg c32_4]) (r_ri dX11_out_51 rfl rfl rfl rfl)
        · refine r_k dX11_out_35 kkX11_193 ?_
          exact r_eI (r' := ((-1000002), T)) (by unfold x_x_out; rw [if_neg c1_1, if_pos c7_2, if_neg c20_3, if_pos c32_4]) (r_ri dX11_out_37 rfl rfl rfl rfl)
    · refine r_k dX11_out_10 kkX11_82 ?_
      exact r_eI (r' := ((-1000001), T)) (by unfold x_x_out; rw [if_neg c1_1, if_neg c7_2]) (r_ri dX11_out_12 rfl rfl rfl rfl)
