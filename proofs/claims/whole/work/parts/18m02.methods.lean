def x_bk_heatsAgree (T : St) (a : Nat) (p0 : Int32) (p1 : Int32) (p2 : Int32) (p3 : Int32) : Int32 := jn (fun (KJ1 : Int32 → Int32 → Int32) => if (p3 - ((p1 + (T.2.2.1 (a + 10) (p0 : Int32).toNatClampNeg)) - 1)) ≤ 0 then (if (p1 - ((p3 + (T.2.2.1 (a + 10) (p2 : Int32).toNatClampNeg)) - 1)) ≤ 0 then (KJ1 0 0) else (KJ1 ((T.2.2.1 (a + 1) (4 : Int32).toNatClampNeg) * (p1 - ((p3 + (T.2.2.1 (a + 10) (p2 : Int32).toNatClampNeg)) - 1))) ((T.2.2.1 (a + 1) (3 : Int32).toNatClampNeg) * (p1 - ((p3 + (T.2.2.1 (a + 10) (p2 : Int32).toNatClampNeg)) - 1))))) else (KJ1 ((T.2.2.1 (a + 1) (3 : Int32).toNatClampNeg) * (p3 - ((p1 + (T.2.2.1 (a + 10) (p0 : Int32).toNatClampNeg)) - 1))) ((T.2.2.1 (a + 1) (4 : Int32).toNatClampNeg) * (p3 - ((p1 + (T.2.2.1 (a + 10) (p0 : Int32).toNatClampNeg)) - 1))))) (fun (j1_7 : Int32) (j1_8 : Int32) => if ((T.2.2.1 (a + 14) (p0 : Int32).toNatClampNeg) + j1_7) < (T.2.2.1 (a + 13) (p2 : Int32).toNatClampNeg) then (0) else (if ((T.2.2.1 (a + 14) (p2 : Int32).toNatClampNeg) + j1_8) < (T.2.2.1 (a + 13) (p0 : Int32).toNatClampNeg) then (0) else (1)))
def ok_bk_heatsAgree (T : St) (a : Nat) (p0 : Int32) (p1 : Int32) (p2 : Int32) (p3 : Int32) : Prop := (sh a = .inr 1) ∧ (sh (a + 10) = .inl (0, 24)) ∧ (vp_in p0 24) ∧ (vp_in p2 24) ∧ jn (fun (OJ1 : Int32 → Int32 → Prop) => (((p3 - ((p1 + (T.2.2.1 (a + 10) (p0 : Int32).toNatClampNeg)) - 1)) ≤ 0 → (((p1 - ((p3 + (T.2.2.1 (a + 10) (p2 : Int32).toNatClampNeg)) - 1)) ≤ 0 → OJ1 0 0) ∧ (¬ (p1 - ((p3 + (T.2.2.1 (a + 10) (p2 : Int32).toNatClampNeg)) - 1)) ≤ 0 → (sh (a + 1) = .inl (0, 7)) ∧ (vp_in 4 7) ∧ (vp_in 3 7) ∧ OJ1 ((T.2.2.1 (a + 1) (4 : Int32).toNatClampNeg) * (p1 - ((p3 + (T.2.2.1 (a + 10) (p2 : Int32).toNatClampNeg)) - 1))) ((T.2.2.1 (a + 1) (3 : Int32).toNatClampNeg) * (p1 - ((p3 + (T.2.2.1 (a + 10) (p2 : Int32).toNatClampNeg)) - 1)))))) ∧ (¬ (p3 - ((p1 + (T.2.2.1 (a + 10) (p0 : Int32).toNatClampNeg)) - 1)) ≤ 0 → (sh (a + 1) = .inl (0, 7)) ∧ (vp_in 3 7) ∧ (vp_in 4 7) ∧ OJ1 ((T.2.2.1 (a + 1) (3 : Int32).toNatClampNeg) * (p3 - ((p1 + (T.2.2.1 (a + 10) (p0 : Int32).toNatClampNeg)) - 1))) ((T.2.2.1 (a + 1) (4 : Int32).toNatClampNeg) * (p3 - ((p1 + (T.2.2.1 (a + 10) (p0 : Int32).toNatClampNeg)) - 1)))))) (fun (j1_7 : Int32) (j1_8 : Int32) => (sh a = .inr 1) ∧ (sh (a + 13) = .inl (0, 24)) ∧ (vp_in p2 24) ∧ (sh (a + 14) = .inl (0, 24)) ∧ (vp_in p0 24) ∧ True)
theorem c_bk_heatsAgree {X : Nat × (Nat → Int32)} {T : St} (a : Nat) (p0 : Int32) (p1 : Int32) (p2 : Int32) (p3 : Int32) (kk : ok_bk_heatsAgree T a p0 p1 p2 p3) : tC X 1 mX1_heatsAgree [.ref a, .int p0, .int p1, .int p2, .int p3] T (some (.int (x_bk_heatsAgree T a p0 p1 p2 p3))) T := by
  unfold ok_bk_heatsAgree at kk
  refine tC_of ?_
  refine r_p dX1_heatsAgree_0 rfl rfl ?_
  refine r_p dX1_heatsAgree_2 rfl rfl ?_
  refine r_p dX1_heatsAgree_3 rfl rfl ?_
  obtain ⟨q1, kk⟩ := kk
  refine r_get dX1_heatsAgree_4 fkX1_39 q1 rfl ?_
  refine r_p dX1_heatsAgree_7 rfl rfl ?_
  obtain ⟨q2, kk⟩ := kk
  obtain ⟨q3, kk⟩ := kk
  refine r_ia dX1_heatsAgree_8 q2 q3 ?_
  refine r_p dX1_heatsAgree_9 rfl rfl ?_
  refine r_ci (x := 1) dX1_heatsAgree_10 rfl ?_
  refine r_p dX1_heatsAgree_11 rfl rfl ?_
  refine r_p dX1_heatsAgree_12 rfl rfl ?_
  refine r_p dX1_heatsAgree_13 rfl rfl ?_
  refine r_p dX1_heatsAgree_15 rfl rfl ?_
  refine r_p dX1_heatsAgree_16 rfl rfl ?_
  refine r_p dX1_heatsAgree_18 rfl rfl ?_
  refine r_get dX1_heatsAgree_19 fkX1_39 q1 rfl ?_
  refine r_p dX1_heatsAgree_22 rfl rfl ?_
  obtain ⟨q4, kk⟩ := kk
  refine r_ia dX1_heatsAgree_23 q2 q4 ?_
  refine r_p dX1_heatsAgree_24 rfl rfl ?_
  refine r_ci (x := 1) dX1_heatsAgree_25 rfl ?_
  refine r_p dX1_heatsAgree_26 rfl rfl ?_
  refine r_p dX1_heatsAgree_27 rfl rfl ?_
  refine r_p dX1_heatsAgree_28 rfl rfl ?_
  refine r_ci (x := 0) dX1_heatsAgree_30 rfl ?_
  refine r_p dX1_heatsAgree_31 rfl rfl ?_
  refine r_ci (x := 0) dX1_heatsAgree_33 rfl ?_
  refine r_p dX1_heatsAgree_34 rfl rfl ?_
  refine r_p dX1_heatsAgree_36 rfl rfl ?_
  obtain ⟨KJ1, hKJ1⟩ : ∃ q : Int32 → Int32 → Int32, q = (fun (j1_7 : Int32) (j1_8 : Int32) => if ((T.2.2.1 (a + 14) (p0 : Int32).toNatClampNeg) + j1_7) < (T.2.2.1 (a + 13) (p2 : Int32).toNatClampNeg) then (0) else (if ((T.2.2.1 (a + 14) (p2 : Int32).toNatClampNeg) + j1_8) < (T.2.2.1 (a + 13) (p0 : Int32).toNatClampNeg) then (0) else (1))) := ⟨_, rfl⟩
  obtain ⟨OJ1, hOJ1⟩ : ∃ q : Int32 → Int32 → Prop, q = (fun (j1_7 : Int32) (j1_8 : Int32) => (sh a = .inr 1) ∧ (sh (a + 13) = .inl (0, 24)) ∧ (vp_in p2 24) ∧ (sh (a + 14) = .inl (0, 24)) ∧ (vp_in p0 24) ∧ True) := ⟨_, rfl⟩
  rw [← hOJ1] at kk
  simp only [jn] at kk
  have hJ1 : ∀ (j1_7 : Int32) (j1_8 : Int32), OJ1 j1_7 j1_8 → tR X 0 mX1_heatsAgree 93 [some (.ref a), some (.int p0), some (.int p1), some (.int p2), some (.int p3), some (.int (p3 - ((p1 + (T.2.2.1 (a + 10) (p0 : Int32).toNatClampNeg)) - 1))), some (.int (p1 - ((p3 + (T.2.2.1 (a + 10) (p2 : Int32).toNatClampNeg)) - 1))), some (.int j1_7), some (.int j1_8)] [] T (some (.int (KJ1 j1_7 j1_8))) T := by
    intro j1_7 j1_8 kk
    rw [hOJ1] at kk
    try dsimp only at kk
    rw [hKJ1]
    refine r_p dX1_heatsAgree_93 rfl rfl ?_
    obtain ⟨q11, kk⟩ := kk
    refine r_get dX1_heatsAgree_94 fkX1_48 q11 rfl ?_
    refine r_p dX1_heatsAgree_97 rfl rfl ?_
    obtain ⟨q12, kk⟩ := kk
    obtain ⟨q13, kk⟩ := kk
    refine r_ia dX1_heatsAgree_98 q12 q13 ?_
    refine r_p dX1_heatsAgree_99 rfl rfl ?_
    refine r_get dX1_heatsAgree_100 fkX1_51 q11 rfl ?_
    refine r_p dX1_heatsAgree_103 rfl rfl ?_
    obtain ⟨q14, kk⟩ := kk
    obtain ⟨q15, kk⟩ := kk
    refine r_ia dX1_heatsAgree_104 q14 q15 ?_
    refine r_p dX1_heatsAgree_105 rfl rfl ?_
    refine r_p dX1_heatsAgree_107 rfl rfl ?_
    refine r_cgt dX1_heatsAgree_108 rfl (fun c108_3 => ?_) (fun c108_3 => ?_)
    · refine r_ci (x := 0) dX1_heatsAgree_133 rfl ?_
      exact r_eIp (r' := 0) (by first | rw [if_pos c108_3] | (dsimp only; rw [if_pos c108_3])) (r_ri dX1_heatsAgree_134 rfl rfl rfl rfl)
    · refine r_p dX1_heatsAgree_111 rfl rfl ?_
      refine r_get dX1_heatsAgree_112 fkX1_48 q11 rfl ?_
      refine r_p dX1_heatsAgree_115 rfl rfl ?_
      refine r_ia dX1_heatsAgree_116 q12 q15 ?_
      refine r_p dX1_heatsAgree_117 rfl rfl ?_
      refine r_get dX1_heatsAgree_118 fkX1_51 q11 rfl ?_
      refine r_p dX1_heatsAgree_121 rfl rfl ?_
      refine r_ia dX1_heatsAgree_122 q14 q13 ?_
      refine r_p dX1_heatsAgree_123 rfl rfl ?_
      refine r_p dX1_heatsAgree_125 rfl rfl ?_
      refine r_cgt dX1_heatsAgree_126 rfl (fun c126_4 => ?_) (fun c126_4 => ?_)
      · refine r_ci (x := 0) dX1_heatsAgree_133 rfl ?_
        exact r_eIp (r' := 0) (by first | rw [if_neg c108_3, if_pos c126_4] | (dsimp only; rw [if_neg c108_3, if_pos c126_4])) (r_ri dX1_heatsAgree_134 rfl rfl rfl rfl)
      · refine r_ci (x := 1) dX1_heatsAgree_129 rfl ?_
        refine r_go dX1_heatsAgree_130 rfl ?_
        exact r_eIp (r' := 1) (by first | rw [if_neg c108_3, if_neg c126_4] | (dsimp only; rw [if_neg c108_3, if_neg c126_4])) (r_ri dX1_heatsAgree_134 rfl rfl rfl rfl)
  refine r_eIp (r' := jn (fun (KJ1 : Int32 → Int32 → Int32) => if (p3 - ((p1 + (T.2.2.1 (a + 10) (p0 : Int32).toNatClampNeg)) - 1)) ≤ 0 then (if (p1 - ((p3 + (T.2.2.1 (a + 10) (p2 : Int32).toNatClampNeg)) - 1)) ≤ 0 then (KJ1 0 0) else (KJ1 ((T.2.2.1 (a + 1) (4 : Int32).toNatClampNeg) * (p1 - ((p3 + (T.2.2.1 (a + 10) (p2 : Int32).toNatClampNeg)) - 1))) ((T.2.2.1 (a + 1) (3 : Int32).toNatClampNeg) * (p1 - ((p3 + (T.2.2.1 (a + 10) (p2 : Int32).toNatClampNeg)) - 1))))) else (KJ1 ((T.2.2.1 (a + 1) (3 : Int32).toNatClampNeg) * (p3 - ((p1 + (T.2.2.1 (a + 10) (p0 : Int32).toNatClampNeg)) - 1))) ((T.2.2.1 (a + 1) (4 : Int32).toNatClampNeg) * (p3 - ((p1 + (T.2.2.1 (a + 10) (p0 : Int32).toNatClampNeg)) - 1))))) KJ1) (by rw [hKJ1]; unfold x_bk_heatsAgree; rfl) ?_
  refine r_ile dX1_heatsAgree_38 rfl (fun c38_5 => ?_) (fun c38_5 => ?_)
  · have kk := kk.1 c38_5
    refine r_p dX1_heatsAgree_66 rfl rfl ?_
    refine r_ile dX1_heatsAgree_68 rfl (fun c68_6 => ?_) (fun c68_6 => ?_)
    · have kk := kk.1 c68_6
      show tR _ _ _ _ [some (.ref a), some (.int p0), some (.int p1), some (.int p2), some (.int p3), some (.int (p3 - ((p1 + (T.2.2.1 (a + 10) (p0 : Int32).toNatClampNeg)) - 1))), some (.int (p1 - ((p3 + (T.2.2.1 (a + 10) (p2 : Int32).toNatClampNeg)) - 1))), some (.int 0), some (.int 0)] [] _ _ _
      exact r_eIp (r' := KJ1 0 0) (by simp only [jn]; rw [if_pos c38_5, if_pos c68_6]) ((hJ1 0 0 kk))
    · have kk := kk.2 c68_6
      refine r_p dX1_heatsAgree_71 rfl rfl ?_
      refine r_get dX1_heatsAgree_72 fkX1_9 q1 rfl ?_
      refine r_ci (x := 4) dX1_heatsAgree_75 rfl ?_
      obtain ⟨q16, kk⟩ := kk
      obtain ⟨q17, kk⟩ := kk
      refine r_ia dX1_heatsAgree_76 q16 q17 ?_
      refine r_p dX1_heatsAgree_77 rfl rfl ?_
      refine r_p dX1_heatsAgree_79 rfl rfl ?_
      refine r_p dX1_heatsAgree_80 rfl rfl ?_
      refine r_p dX1_heatsAgree_82 rfl rfl ?_
      refine r_get dX1_heatsAgree_83 fkX1_9 q1 rfl ?_
      refine r_ci (x := 3) dX1_heatsAgree_86 rfl ?_
      obtain ⟨q18, kk⟩ := kk
      refine r_ia dX1_heatsAgree_87 q16 q18 ?_
      refine r_p dX1_heatsAgree_88 rfl rfl ?_
      refine r_p dX1_heatsAgree_90 rfl rfl ?_
      refine r_p dX1_heatsAgree_91 rfl rfl ?_
      show tR _ _ _ _ [some (.ref a), some (.int p0), some (.int p1), some (.int p2), some (.int p3), some (.int (p3 - ((p1 + (T.2.2.1 (a + 10) (p0 : Int32).toNatClampNeg)) - 1))), some (.int (p1 - ((p3 + (T.2.2.1 (a + 10) (p2 : Int32).toNatClampNeg)) - 1))), some (.int ((T.2.2.1 (a + 1) (4 : Int32).toNatClampNeg) * (p1 - ((p3 + (T.2.2.1 (a + 10) (p2 : Int32).toNatClampNeg)) - 1)))), some (.int ((T.2.2.1 (a + 1) (3 : Int32).toNatClampNeg) * (p1 - ((p3 + (T.2.2.1 (a + 10) (p2 : Int32).toNatClampNeg)) - 1))))] [] _ _ _
      exact r_eIp (r' := KJ1 ((T.2.2.1 (a + 1) (4 : Int32).toNatClampNeg) * (p1 - ((p3 + (T.2.2.1 (a + 10) (p2 : Int32).toNatClampNeg)) - 1))) ((T.2.2.1 (a + 1) (3 : Int32).toNatClampNeg) * (p1 - ((p3 + (T.2.2.1 (a + 10) (p2 : Int32).toNatClampNeg)) - 1)))) (by simp only [jn]; rw [if_pos c38_5, if_neg c68_6]) ((hJ1 ((T.2.2.1 (a + 1) (4 : Int32).toNatClampNeg) * (p1 - ((p3 + (T.2.2.1 (a + 10) (p2 : Int32).toNatClampNeg)) - 1))) ((T.2.2.1 (a + 1) (3 : Int32).toNatClampNeg) * (p1 - ((p3 + (T.2.2.1 (a + 10) (p2 : Int32).toNatClampNeg)) - 1))) kk))
  · have kk := kk.2 c38_5
    refine r_p dX1_heatsAgree_41 rfl rfl ?_
    refine r_get dX1_heatsAgree_42 fkX1_9 q1 rfl ?_
    refine r_ci (x := 3) dX1_heatsAgree_45 rfl ?_
    obtain ⟨q19, kk⟩ := kk
    obtain ⟨q20, kk⟩ := kk
    refine r_ia dX1_heatsAgree_46 q19 q20 ?_
    refine r_p dX1_heatsAgree_47 rfl rfl ?_
    refine r_p dX1_heatsAgree_49 rfl rfl ?_
    refine r_p dX1_heatsAgree_50 rfl rfl ?_
    refine r_p dX1_heatsAgree_52 rfl rfl ?_
    refine r_get dX1_heatsAgree_53 fkX1_9 q1 rfl ?_
    refine r_ci (x := 4) dX1_heatsAgree_56 rfl ?_
    obtain ⟨q21, kk⟩ := kk
    refine r_ia dX1_heatsAgree_57 q19 q21 ?_
    refine r_p dX1_heatsAgree_58 rfl rfl ?_
    refine r_p dX1_heatsAgree_60 rfl rfl ?_
    refine r_p dX1_heatsAgree_61 rfl rfl ?_
    refine r_go dX1_heatsAgree_63 rfl ?_
    show tR _ _ _ _ [some (.ref a), some (.int p0), some (.int p1), some (.int p2), some (.int p3), some (.int (p3 - ((p1 + (T.2.2.1 (a + 10) (p0 : Int32).toNatClampNeg)) - 1))), some (.int (p1 - ((p3 + (T.2.2.1 (a + 10) (p2 : Int32).toNatClampNeg)) - 1))), some (.int ((T.2.2.1 (a + 1) (3 : Int32).toNatClampNeg) * (p3 - ((p1 + (T.2.2.1 (a + 10) (p0 : Int32).toNatClampNeg)) - 1)))), some (.int ((T.2.2.1 (a + 1) (4 : Int32).toNatClampNeg) * (p3 - ((p1 + (T.2.2.1 (a + 10) (p0 : Int32).toNatClampNeg)) - 1))))] [] _ _ _
    exact r_eIp (r' := KJ1 ((T.2.2.1 (a + 1) (3 : Int32).toNatClampNeg) * (p3 - ((p1 + (T.2.2.1 (a + 10) (p0 : Int32).toNatClampNeg)) - 1))) ((T.2.2.1 (a + 1) (4 : Int32).toNatClampNeg) * (p3 - ((p1 + (T.2.2.1 (a + 10) (p0 : Int32).toNatClampNeg)) - 1)))) (by simp only [jn]; rw [if_neg c38_5]) ((hJ1 ((T.2.2.1 (a + 1) (3 : Int32).toNatClampNeg) * (p3 - ((p1 + (T.2.2.1 (a + 10) (p0 : Int32).toNatClampNeg)) - 1))) ((T.2.2.1 (a + 1) (4 : Int32).toNatClampNeg) * (p3 - ((p1 + (T.2.2.1 (a + 10) (p0 : Int32).toNatClampNeg)) - 1))) kk))
theorem b_bk_heatsAgree (T : St) (a : Nat) (p0 : Int32) (p1 : Int32) (p2 : Int32) (p3 : Int32) : x_bk_heatsAgree T a p0 p1 p2 p3 = 0 ∨ x_bk_heatsAgree T a p0 p1 p2 p3 = 1 := by
  unfold x_bk_heatsAgree
  repeat' split
  all_goals (first | exact Or.inl rfl | exact Or.inr rfl)
def x_jd_followsInTime (T : St) (p0 : Nat) (p1 : Nat) (p2 : Int32) : Int32 := if (((T.2.2.1 (p1 + 5) (p2 : Int32).toNatClampNeg) - (T.2.2.1 (p1 + 5) (p2 - 1 : Int32).toNatClampNeg)) - (T.2.2.1 (p1 + 6) (p2 - 1 : Int32).toNatClampNeg)) < 0 then (0) else (if (T.2.2.1 (p0 + 11) (T.2.2.1 (p1 + 3) (p2 - 1 : Int32).toNatClampNeg : Int32).toNatClampNeg) < (((T.2.2.1 (p1 + 5) (p2 : Int32).toNatClampNeg) - (T.2.2.1 (p1 + 5) (p2 - 1 : Int32).toNatClampNeg)) - (T.2.2.1 (p1 + 6) (p2 - 1 : Int32).toNatClampNeg)) then (0) else (1))
def ok_jd_followsInTime (T : St) (p0 : Nat) (p1 : Nat) (p2 : Int32) : Prop := (sh p1 = .inr 7) ∧ (sh (p1 + 5) = .inl (0, 12)) ∧ (vp_in p2 12) ∧ (vp_in (p2 - 1) 12) ∧ (sh (p1 + 6) = .inl (0, 12)) ∧ (¬ (((T.2.2.1 (p1 + 5) (p2 : Int32).toNatClampNeg) - (T.2.2.1 (p1 + 5) (p2 - 1 : Int32).toNatClampNeg)) - (T.2.2.1 (p1 + 6) (p2 - 1 : Int32).toNatClampNeg)) < 0 → (sh p0 = .inr 1) ∧ (sh (p1 + 3) = .inl (0, 12)) ∧ (sh (p0 + 11) = .inl (0, 24)) ∧ (vp_in (T.2.2.1 (p1 + 3) (p2 - 1 : Int32).toNatClampNeg) 24) ∧ True)
theorem c_jd_followsInTime {X : Nat × (Nat → Int32)} {T : St} (p0 : Nat) (p1 : Nat) (p2 : Int32) (kk : ok_jd_followsInTime T p0 p1 p2) : tC X 1 mX2_followsInTime [.ref 527, .ref p0, .ref p1, .int p2] T (some (.int (x_jd_followsInTime T p0 p1 p2))) T := by
  unfold ok_jd_followsInTime at kk
  refine tC_of ?_
  refine r_p dX2_followsInTime_0 rfl rfl ?_
  obtain ⟨q1, kk⟩ := kk
  refine r_get dX2_followsInTime_1 fkX2_42 q1 rfl ?_
  refine r_p dX2_followsInTime_4 rfl rfl ?_
  obtain ⟨q2, kk⟩ := kk
  obtain ⟨q3, kk⟩ := kk
  refine r_ia dX2_followsInTime_5 q2 q3 ?_
  refine r_p dX2_followsInTime_6 rfl rfl ?_
  refine r_get dX2_followsInTime_7 fkX2_42 q1 rfl ?_
  refine r_p dX2_followsInTime_10 rfl rfl ?_
  refine r_ci (x := 1) dX2_followsInTime_11 rfl ?_
  refine r_p dX2_followsInTime_12 rfl rfl ?_
  obtain ⟨q4, kk⟩ := kk
  refine r_ia dX2_followsInTime_13 q2 q4 ?_
  refine r_p dX2_followsInTime_14 rfl rfl ?_
  refine r_p dX2_followsInTime_15 rfl rfl ?_
  refine r_get dX2_followsInTime_16 fkX2_46 q1 rfl ?_
  refine r_p dX2_followsInTime_19 rfl rfl ?_
  refine r_ci (x := 1) dX2_followsInTime_20 rfl ?_
  refine r_p dX2_followsInTime_21 rfl rfl ?_
  obtain ⟨q5, kk⟩ := kk
  refine r_ia dX2_followsInTime_22 q5 q4 ?_
  refine r_p dX2_followsInTime_23 rfl rfl ?_
  refine r_p dX2_followsInTime_24 rfl rfl ?_
  refine r_p dX2_followsInTime_26 rfl rfl ?_
  refine r_ilt dX2_followsInTime_28 rfl (fun c28_1 => ?_) (fun c28_1 => ?_)
  · refine r_ci (x := 0) dX2_followsInTime_53 rfl ?_
    exact r_eIp (r' := 0) (by unfold x_jd_followsInTime; rw [if_pos c28_1]) (r_ri dX2_followsInTime_54 rfl rfl rfl rfl)
  · have kk := kk c28_1
    refine r_p dX2_followsInTime_31 rfl rfl ?_
    refine r_p dX2_followsInTime_33 rfl rfl ?_
    obtain ⟨q6, kk⟩ := kk
    refine r_get dX2_followsInTime_34 fkX2_75 q6 rfl ?_
    refine r_p dX2_followsInTime_37 rfl rfl ?_
    refine r_get dX2_followsInTime_38 fkX2_78 q1 rfl ?_
    refine r_p dX2_followsInTime_41 rfl rfl ?_
    refine r_ci (x := 1) dX2_followsInTime_42 rfl ?_
    refine r_p dX2_followsInTime_43 rfl rfl ?_
    obtain ⟨q7, kk⟩ := kk
    refine r_ia dX2_followsInTime_44 q7 q4 ?_
    obtain ⟨q8, kk⟩ := kk
    obtain ⟨q9, kk⟩ := kk
    refine r_ia dX2_followsInTime_45 q8 q9 ?_
    refine r_cgt dX2_followsInTime_46 rfl (fun c46_2 => ?_) (fun c46_2 => ?_)
    · refine r_ci (x := 0) dX2_followsInTime_53 rfl ?_
      exact r_eIp (r' := 0) (by unfold x_jd_followsInTime; rw [if_neg c28_1, if_pos c46_2]) (r_ri dX2_followsInTime_54 rfl rfl rfl rfl)
    · refine r_ci (x := 1) dX2_followsInTime_49 rfl ?_
      refine r_go dX2_followsInTime_50 rfl ?_
      exact r_eIp (r' := 1) (by unfold x_jd_followsInTime; rw [if_neg c28_1, if_neg c46_2]) (r_ri dX2_followsInTime_54 rfl rfl rfl rfl)
theorem b_jd_followsInTime (T : St) (p0 : Nat) (p1 : Nat) (p2 : Int32) : x_jd_followsInTime T p0 p1 p2 = 0 ∨ x_jd_followsInTime T p0 p1 p2 = 1 := by
  unfold x_jd_followsInTime
  repeat' split
  all_goals (first | exact Or.inl rfl | exact Or.inr rfl)
def x_jd_lackAt (T : St) (p0 : Int64) (p1 : Int32) : Int32 := if (lg_cmp ((T.2.2.2 538 (1 : Int32).toNatClampNeg) &&& p0) 0) = 0 then (if (lg_cmp ((T.2.2.2 538 (0 : Int32).toNatClampNeg) &&& p0) 0) = 0 then (if (lg_cmp ((T.2.2.2 538 (2 : Int32).toNatClampNeg) &&& p0) 0) = 0 then (if p1 = 0 then (if (lg_cmp ((T.2.2.2 538 (3 : Int32).toNatClampNeg) &&& p0) 0) = 0 then (if (lg_cmp ((T.2.2.2 538 (4 : Int32).toNatClampNeg) &&& p0) 0) = 0 then (0) else (6)) else (5)) else (4)) else (3)) else (2)) else (1)
def ok_jd_lackAt (T : St) (p0 : Int64) (p1 : Int32) : Prop := (vp_in 1 5) ∧ ((lg_cmp ((T.2.2.2 538 (1 : Int32).toNatClampNeg) &&& p0) 0) = 0 → (vp_in 0 5) ∧ ((lg_cmp ((T.2.2.2 538 (0 : Int32).toNatClampNeg) &&& p0) 0) = 0 → (vp_in 2 5) ∧ ((lg_cmp ((T.2.2.2 538 (2 : Int32).toNatClampNeg) &&& p0) 0) = 0 → (p1 = 0 → (vp_in 3 5) ∧ ((lg_cmp ((T.2.2.2 538 (3 : Int32).toNatClampNeg) &&& p0) 0) = 0 → (vp_in 4 5) ∧ True)))))
theorem c_jd_lackAt {X : Nat × (Nat → Int32)} {T : St} (p0 : Int64) (p1 : Int32) (kk : ok_jd_lackAt T p0 p1) : tC X 1 mX2_lackAt [.ref 527, .long p0, .int p1] T (some (.int (x_jd_lackAt T p0 p1))) T := by
  unfold ok_jd_lackAt at kk
  refine tC_of ?_
  refine r_p dX2_lackAt_0 rfl rfl ?_
  refine r_get dX2_lackAt_1 fkX2_31 rfl rfl ?_
  refine r_ci (x := 1) dX2_lackAt_4 rfl ?_
  obtain ⟨q1, kk⟩ := kk
  refine r_la dX2_lackAt_5 rfl q1 ?_
  refine r_p dX2_lackAt_6 rfl rfl ?_
  refine r_p dX2_lackAt_7 rfl rfl ?_
  refine r_cl (x := 0) dX2_lackAt_8 rfl ?_
  refine r_p dX2_lackAt_9 rfl rfl ?_
  refine r_ieq dX2_lackAt_10 rfl (fun c10_1 => ?_) (fun c10_1 => ?_)
  · have kk := kk c10_1
    refine r_p dX2_lackAt_15 rfl rfl ?_
    refine r_get dX2_lackAt_16 fkX2_31 rfl rfl ?_
    refine r_ci (x := 0) dX2_lackAt_19 rfl ?_
    obtain ⟨q2, kk⟩ := kk
    refine r_la dX2_lackAt_20 rfl q2 ?_
    refine r_p dX2_lackAt_21 rfl rfl ?_
    refine r_p dX2_lackAt_22 rfl rfl ?_
    refine r_cl (x := 0) dX2_lackAt_23 rfl ?_
    refine r_p dX2_lackAt_24 rfl rfl ?_
    refine r_ieq dX2_lackAt_25 rfl (fun c25_2 => ?_) (fun c25_2 => ?_)
    · have kk := kk c25_2
      refine r_p dX2_lackAt_30 rfl rfl ?_
      refine r_get dX2_lackAt_31 fkX2_31 rfl rfl ?_
      refine r_ci (x := 2) dX2_lackAt_34 rfl ?_
      obtain ⟨q3, kk⟩ := kk
      refine r_la dX2_lackAt_35 rfl q3 ?_
      refine r_p dX2_lackAt_36 rfl rfl ?_
      refine r_p dX2_lackAt_37 rfl rfl ?_
      refine r_cl (x := 0) dX2_lackAt_38 rfl ?_
      refine r_p dX2_lackAt_39 rfl rfl ?_
      refine r_ieq dX2_lackAt_40 rfl (fun c40_3 => ?_) (fun c40_3 => ?_)
      · have kk := kk c40_3
        refine r_p dX2_lackAt_45 rfl rfl ?_
        refine r_ieq dX2_lackAt_46 rfl (fun c46_4 => ?_) (fun c46_4 => ?_)
        · have kk := kk c46_4
          refine r_p dX2_lackAt_51 rfl rfl ?_
          refine r_get dX2_lackAt_52 fkX2_31 rfl rfl ?_
          refine r_ci (x := 3) dX2_lackAt_55 rfl ?_
          obtain ⟨q4, kk⟩ := kk
          refine r_la dX2_lackAt_56 rfl q4 ?_
          refine r_p dX2_lackAt_57 rfl rfl ?_
          refine r_p dX2_lackAt_58 rfl rfl ?_
          refine r_cl (x := 0) dX2_lackAt_59 rfl ?_
          refine r_p dX2_lackAt_60 rfl rfl ?_
          refine r_ieq dX2_lackAt_61 rfl (fun c61_5 => ?_) (fun c61_5 => ?_)
          · have kk := kk c61_5
            refine r_p dX2_lackAt_66 rfl rfl ?_
            refine r_get dX2_lackAt_67 fkX2_31 rfl rfl ?_
            refine r_ci (x := 4) dX2_lackAt_70 rfl ?_
            obtain ⟨q5, kk⟩ := kk
            refine r_la dX2_lackAt_71 rfl q5 ?_
            refine r_p dX2_lackAt_72 rfl rfl ?_
            refine r_p dX2_lackAt_73 rfl rfl ?_
            refine r_cl (x := 0) dX2_lackAt_74 rfl ?_
            refine r_p dX2_lackAt_75 rfl rfl ?_
            refine r_ieq dX2_lackAt_76 rfl (fun c76_6 => ?_) (fun c76_6 => ?_)
            · refine r_ci (x := 0) dX2_lackAt_84 rfl ?_
              exact r_eIp (r' := 0) (by unfold x_jd_lackAt; rw [if_pos c10_1, if_pos c25_2, if_pos c40_3, if_pos c46_4, if_pos c61_5, if_pos c76_6]) (r_ri dX2_lackAt_85 rfl rfl rfl rfl)
            · refine r_cb (x := 6) dX2_lackAt_79 rfl ?_
              refine r_go dX2_lackAt_81 rfl ?_
              exact r_eIp (r' := 6) (by unfold x_jd_lackAt; rw [if_pos c10_1, if_pos c25_2, if_pos c40_3, if_pos c46_4, if_pos c61_5, if_neg c76_6]) (r_ri dX2_lackAt_85 rfl rfl rfl rfl)
          · refine r_ci (x := 5) dX2_lackAt_64 rfl ?_
            exact r_eIp (r' := 5) (by unfold x_jd_lackAt; rw [if_pos c10_1, if_pos c25_2, if_pos c40_3, if_pos c46_4, if_neg c61_5]) (r_ri dX2_lackAt_65 rfl rfl rfl rfl)
        · refine r_ci (x := 4) dX2_lackAt_49 rfl ?_
          exact r_eIp (r' := 4) (by unfold x_jd_lackAt; rw [if_pos c10_1, if_pos c25_2, if_pos c40_3, if_neg c46_4]) (r_ri dX2_lackAt_50 rfl rfl rfl rfl)
      · refine r_ci (x := 3) dX2_lackAt_43 rfl ?_
        exact r_eIp (r' := 3) (by unfold x_jd_lackAt; rw [if_pos c10_1, if_pos c25_2, if_neg c40_3]) (r_ri dX2_lackAt_44 rfl rfl rfl rfl)
    · refine r_ci (x := 2) dX2_lackAt_28 rfl ?_
      exact r_eIp (r' := 2) (by unfold x_jd_lackAt; rw [if_pos c10_1, if_neg c25_2]) (r_ri dX2_lackAt_29 rfl rfl rfl rfl)
  · refine r_ci (x := 1) dX2_lackAt_13 rfl ?_
    exact r_eIp (r' := 1) (by unfold x_jd_lackAt; rw [if_neg c10_1]) (r_ri dX2_lackAt_14 rfl rfl rfl rfl)
def x_jd_wantedAt_6 (T : St) (l1 : Nat) (l2 : Int32) (l3 : Int32) (K : Int32 → Int32 → Int32) : Nat → Int32 → Int32 → Int32
  | 0, _, _ => 0
  | f + 1, v4, v5 => if (T.1 l1 0) ≤ v5 then (K v4 v5) else (if (lg_cmp (((T.2.2.2 ((539 + 4 * (v5 : Int32).toNatClampNeg) + 3) (l3 : Int32).toNatClampNeg) >>> ((l2 : Int32).toInt64 &&& 63)) &&& 1) 0) = 0 then (x_jd_wantedAt_6 T l1 l2 l3 K f v4 (v5 + 1)) else (x_jd_wantedAt_6 T l1 l2 l3 K f (v4 + 1) (v5 + 1)))
def ok_jd_wantedAt_6 (T : St) (l1 : Nat) (l2 : Int32) (l3 : Int32) (Kk : Int32 → Int32 → Prop) : Nat → Int32 → Int32 → Prop
  | 0, _, _ => False
  | f + 1, v4, v5 => (sh l1 = .inr 7) ∧ (((T.1 l1 0) ≤ v5 → Kk v4 v5) ∧ (¬ (T.1 l1 0) ≤ v5 → (vp_in v5 4) ∧ (sh (539 + 4 * (v5 : Int32).toNatClampNeg) = .inr 10) ∧ (sh ((539 + 4 * (v5 : Int32).toNatClampNeg) + 3) = .inl (1, 5)) ∧ (vp_in l3 5) ∧ (((lg_cmp (((T.2.2.2 ((539 + 4 * (v5 : Int32).toNatClampNeg) + 3) (l3 : Int32).toNatClampNeg) >>> ((l2 : Int32).toInt64 &&& 63)) &&& 1) 0) = 0 → ok_jd_wantedAt_6 T l1 l2 l3 Kk f v4 (v5 + 1)) ∧ (¬ (lg_cmp (((T.2.2.2 ((539 + 4 * (v5 : Int32).toNatClampNeg) + 3) (l3 : Int32).toNatClampNeg) >>> ((l2 : Int32).toInt64 &&& 63)) &&& 1) 0) = 0 → ok_jd_wantedAt_6 T l1 l2 l3 Kk f (v4 + 1) (v5 + 1)))))
theorem c_jd_wantedAt_6 {X : Nat × (Nat → Int32)} (T : St) (l1 : Nat) (l2 : Int32) (l3 : Int32) {K : Int32 → Int32 → Int32} {Kk : Int32 → Int32 → Prop} (hk : ∀ (v4 : Int32) (v5 : Int32), Kk v4 v5 → tR X 0 mX2_wantedAt 45 [some (.ref 527), some (.ref l1), some (.int l2), some (.int l3), some (.int v4), some (.int v5)] [] T (some (.int (K v4 v5))) T) : ∀ (f : Nat) (v4 : Int32) (v5 : Int32), ok_jd_wantedAt_6 T l1 l2 l3 Kk f v4 v5 → tR X 0 mX2_wantedAt 6 [some (.ref 527), some (.ref l1), some (.int l2), some (.int l3), some (.int v4), some (.int v5)] [] T (some (.int (x_jd_wantedAt_6 T l1 l2 l3 K f v4 v5))) T := by
  intro f
  induction f with
  | zero => intro v4 v5 kk; exact kk.elim
  | succ f ih =>
    intro v4 v5 kk
    rw [ok_jd_wantedAt_6] at kk
    refine r_p dX2_wantedAt_6 rfl rfl ?_
    refine r_p dX2_wantedAt_8 rfl rfl ?_
    obtain ⟨q1, kk⟩ := kk
    refine r_get dX2_wantedAt_9 fkX2_129 q1 rfl ?_
    refine r_cge dX2_wantedAt_12 rfl (fun c12_1 => ?_) (fun c12_1 => ?_)
    · have kk := kk.1 c12_1
      show tR _ _ _ _ [some (.ref 527), some (.ref l1), some (.int l2), some (.int l3), some (.int v4), some (.int v5)] _ _ _ _
      exact r_eIp (r' := K v4 v5) (by rw [x_jd_wantedAt_6]; rw [if_pos c12_1]) ((hk v4 v5  kk))
    · have kk := kk.2 c12_1
      refine r_p dX2_wantedAt_15 rfl rfl ?_
      refine r_get dX2_wantedAt_16 fkX2_20 rfl rfl ?_
      refine r_p dX2_wantedAt_19 rfl rfl ?_
      obtain ⟨q2, kk⟩ := kk
      refine r_aa dX2_wantedAt_21 rfl (by decide) q2 (rf532 q2) ?_
      obtain ⟨q3, kk⟩ := kk
      refine r_get dX2_wantedAt_22 fkX2_122 q3 rfl ?_
      refine r_p dX2_wantedAt_25 rfl rfl ?_
      obtain ⟨q4, kk⟩ := kk
      obtain ⟨q5, kk⟩ := kk
      refine r_la dX2_wantedAt_26 q4 q5 ?_
      refine r_p dX2_wantedAt_27 rfl rfl ?_
      refine r_p dX2_wantedAt_28 rfl rfl ?_
      refine r_cl (x := 1) dX2_wantedAt_29 rfl ?_
      refine r_p dX2_wantedAt_30 rfl rfl ?_
      refine r_cl (x := 0) dX2_wantedAt_31 rfl ?_
      refine r_p dX2_wantedAt_32 rfl rfl ?_
      refine r_ieq dX2_wantedAt_33 rfl (fun c33_2 => ?_) (fun c33_2 => ?_)
      · have kk := kk.1 c33_2
        refine r_inc (y := 1) dX2_wantedAt_39 rfl rfl rfl ?_
        refine r_go dX2_wantedAt_42 rfl ?_
        show tR _ _ _ _ [some (.ref 527), some (.ref l1), some (.int l2), some (.int l3), some (.int v4), some (.int (v5 + 1))] _ _ _ _
        exact r_eIp (r' := x_jd_wantedAt_6 T l1 l2 l3 K f v4 (v5 + 1)) (by rw [x_jd_wantedAt_6]; rw [if_neg c12_1, if_pos c33_2]) ((ih v4 (v5 + 1)  kk))
      · have kk := kk.2 c33_2
        refine r_inc (y := 1) dX2_wantedAt_36 rfl rfl rfl ?_
        refine r_inc (y := 1) dX2_wantedAt_39 rfl rfl rfl ?_
        refine r_go dX2_wantedAt_42 rfl ?_
        show tR _ _ _ _ [some (.ref 527), some (.ref l1), some (.int l2), some (.int l3), some (.int (v4 + 1)), some (.int (v5 + 1))] _ _ _ _
        exact r_eIp (r' := x_jd_wantedAt_6 T l1 l2 l3 K f (v4 + 1) (v5 + 1)) (by rw [x_jd_wantedAt_6]; rw [if_neg c12_1, if_neg c33_2]) ((ih (v4 + 1) (v5 + 1)  kk))
def x_jd_wantedAt (T : St) (p0 : Nat) (p1 : Int32) (p2 : Int32) : Int32 := x_jd_wantedAt_6 T p0 p1 p2 (fun (w1_4 : Int32) (w1_5 : Int32) => w1_4) 1000 0 0
def ok_jd_wantedAt (T : St) (p0 : Nat) (p1 : Int32) (p2 : Int32) : Prop := ok_jd_wantedAt_6 T p0 p1 p2 (fun (w1_4 : Int32) (w1_5 : Int32) => True) 1000 0 0
theorem c_jd_wantedAt {X : Nat × (Nat → Int32)} {T : St} (p0 : Nat) (p1 : Int32) (p2 : Int32) (kk : ok_jd_wantedAt T p0 p1 p2) : tC X 1 mX2_wantedAt [.ref 527, .ref p0, .int p1, .int p2] T (some (.int (x_jd_wantedAt T p0 p1 p2))) T := by
  unfold ok_jd_wantedAt at kk
  refine tC_of ?_
  refine r_ci (x := 0) dX2_wantedAt_0 rfl ?_
  refine r_p dX2_wantedAt_1 rfl rfl ?_
  refine r_ci (x := 0) dX2_wantedAt_3 rfl ?_
  refine r_p dX2_wantedAt_4 rfl rfl ?_
  show tR _ _ _ _ [some (.ref 527), some (.ref p0), some (.int p1), some (.int p2), some (.int 0), some (.int 0)] _ _ _ _
  refine r_eIp (r' := x_jd_wantedAt_6 T p0 p1 p2 (fun (w1_4 : Int32) (w1_5 : Int32) => w1_4) 1000 0 0) (by unfold x_jd_wantedAt; rfl) ((c_jd_wantedAt_6 T p0 p1 p2 (fun w1_4 w1_5 kk => ?_) 1000 0 0  kk))
  · refine r_p dX2_wantedAt_45 rfl rfl ?_
    exact r_eIp (r' := w1_4) rfl (r_ri dX2_wantedAt_47 rfl rfl rfl rfl)
def x_ki_fewerThan (T : St) (a : Nat) (p0 : Int32) (p1 : Int32) : Int64 := T.2.2.2 (a + 1) (((p0 * 5) + p1) - 1 : Int32).toNatClampNeg
def ok_ki_fewerThan (T : St) (a : Nat) (p0 : Int32) (p1 : Int32) : Prop := (sh a = .inr 3) ∧ (sh (a + 1) = .inl (1, 25)) ∧ (vp_in (((p0 * 5) + p1) - 1) 25) ∧ True
theorem c_ki_fewerThan {X : Nat × (Nat → Int32)} {T : St} (a : Nat) (p0 : Int32) (p1 : Int32) (kk : ok_ki_fewerThan T a p0 p1) : tC X 1 mX3_fewerThan [.ref a, .int p0, .int p1] T (some (.long (x_ki_fewerThan T a p0 p1))) T := by
  unfold ok_ki_fewerThan at kk
  refine tC_of ?_
  refine r_p dX3_fewerThan_0 rfl rfl ?_
  obtain ⟨q1, kk⟩ := kk
  refine r_get dX3_fewerThan_1 fkX3_11 q1 rfl ?_
  refine r_p dX3_fewerThan_4 rfl rfl ?_
  refine r_ci (x := 5) dX3_fewerThan_5 rfl ?_
  refine r_p dX3_fewerThan_6 rfl rfl ?_
  refine r_p dX3_fewerThan_7 rfl rfl ?_
  refine r_p dX3_fewerThan_8 rfl rfl ?_
  refine r_ci (x := 1) dX3_fewerThan_9 rfl ?_
  refine r_p dX3_fewerThan_10 rfl rfl ?_
  obtain ⟨q2, kk⟩ := kk
  obtain ⟨q3, kk⟩ := kk
  refine r_la dX3_fewerThan_11 q2 q3 ?_
  exact r_eJp (r' := (T.2.2.2 (a + 1) (((p0 * 5) + p1) - 1 : Int32).toNatClampNeg)) (by unfold x_ki_fewerThan; rfl) (r_rl dX3_fewerThan_12 rfl rfl rfl)
def x_ki_give_2 (l0 : Nat) (l1 : Int32) (l2 : Int32) (K : Int32 → St → St) : Nat → Int32 → St → St
  | 0, _, T => T
  | f + 1, v3, T => if 5 < v3 then (K v3 T) else (if v3 ≤ l2 then (x_ki_give_2 l0 l1 l2 K f (v3 + 1) (sL T (l0 + 1) (((l1 * 5) + v3) - 1 : Int32).toNatClampNeg 0)) else (x_ki_give_2 l0 l1 l2 K f (v3 + 1) (sL T (l0 + 1) (((l1 * 5) + v3) - 1 : Int32).toNatClampNeg (-1))))
def ok_ki_give_2 (l0 : Nat) (l1 : Int32) (l2 : Int32) (Kk : Int32 → St → Prop) : Nat → Int32 → St → Prop
  | 0, _, _ => False
  | f + 1, v3, T => ((5 < v3 → Kk v3 T) ∧ (¬ 5 < v3 → (sh l0 = .inr 3) ∧ ((v3 ≤ l2 → (sh (l0 + 1) = .inl (1, 25)) ∧ (vp_in (((l1 * 5) + v3) - 1) 25) ∧ ok_ki_give_2 l0 l1 l2 Kk f (v3 + 1) (sL T (l0 + 1) (((l1 * 5) + v3) - 1 : Int32).toNatClampNeg 0)) ∧ (¬ v3 ≤ l2 → (sh (l0 + 1) = .inl (1, 25)) ∧ (vp_in (((l1 * 5) + v3) - 1) 25) ∧ ok_ki_give_2 l0 l1 l2 Kk f (v3 + 1) (sL T (l0 + 1) (((l1 * 5) + v3) - 1 : Int32).toNatClampNeg (-1))))))
theorem c_ki_give_2 {X : Nat × (Nat → Int32)} (l0 : Nat) (l1 : Int32) (l2 : Int32) {K : Int32 → St → St} {Kk : Int32 → St → Prop} (hk : ∀ (v3 : Int32) (T : St), Kk v3 T → tR X 0 mX3_give 37 [some (.ref l0), some (.int l1), some (.int l2), some (.int v3)] [] T none (K v3 T)) : ∀ (f : Nat) (v3 : Int32) (T : St), ok_ki_give_2 l0 l1 l2 Kk f v3 T → tR X 0 mX3_give 2 [some (.ref l0), some (.int l1), some (.int l2), some (.int v3)] [] T none (x_ki_give_2 l0 l1 l2 K f v3 T) := by
  intro f
  induction f with
  | zero => intro v3 T kk; exact kk.elim
  | succ f ih =>
    intro v3 T kk
    rw [ok_ki_give_2] at kk
    refine r_p dX3_give_2 rfl rfl ?_
    refine r_ci (x := 5) dX3_give_3 rfl ?_
    refine r_cgt dX3_give_4 rfl (fun c4_1 => ?_) (fun c4_1 => ?_)
    · have kk := kk.1 c4_1
      show tR _ _ _ _ [some (.ref l0), some (.int l1), some (.int l2), some (.int v3)] _ _ _ _
      exact r_eV (r' := K v3 T) (by rw [x_ki_give_2]; rw [if_pos c4_1]) ((hk v3 T kk))
    · have kk := kk.2 c4_1
      refine r_p dX3_give_7 rfl rfl ?_
      obtain ⟨q1, kk⟩ := kk
      refine r_get dX3_give_8 fkX3_11 q1 rfl ?_
      refine r_p dX3_give_11 rfl rfl ?_
      refine r_ci (x := 5) dX3_give_12 rfl ?_
      refine r_p dX3_give_13 rfl rfl ?_
      refine r_p dX3_give_14 rfl rfl ?_
      refine r_p dX3_give_15 rfl rfl ?_
      refine r_ci (x := 1) dX3_give_16 rfl ?_
      refine r_p dX3_give_17 rfl rfl ?_
      refine r_p dX3_give_18 rfl rfl ?_
      refine r_p dX3_give_19 rfl rfl ?_
      refine r_cge dX3_give_20 rfl (fun c20_2 => ?_) (fun c20_2 => ?_)
      · have kk := kk.1 c20_2
        refine r_cl (x := 0) dX3_give_29 rfl ?_
        obtain ⟨q2, kk⟩ := kk
        obtain ⟨q3, kk⟩ := kk
        refine r_las dX3_give_30 q2 q3 ?_
        refine r_inc (y := 1) dX3_give_31 rfl rfl rfl ?_
        refine r_go dX3_give_34 rfl ?_
        show tR _ _ _ _ [some (.ref l0), some (.int l1), some (.int l2), some (.int (v3 + 1))] _ _ _ _
        exact r_eV (r' := x_ki_give_2 l0 l1 l2 K f (v3 + 1) (sL T (l0 + 1) (((l1 * 5) + v3) - 1 : Int32).toNatClampNeg 0)) (by rw [x_ki_give_2]; rw [if_neg c4_1, if_pos c20_2]) ((ih (v3 + 1) (sL T (l0 + 1) (((l1 * 5) + v3) - 1 : Int32).toNatClampNeg 0) kk))
      · have kk := kk.2 c20_2
        refine r_kl dX3_give_23 klX3_47 ?_
        refine r_go dX3_give_26 rfl ?_
        obtain ⟨q4, kk⟩ := kk
        obtain ⟨q5, kk⟩ := kk
        refine r_las dX3_give_30 q4 q5 ?_
        refine r_inc (y := 1) dX3_give_31 rfl rfl rfl ?_
        refine r_go dX3_give_34 rfl ?_
        show tR _ _ _ _ [some (.ref l0), some (.int l1), some (.int l2), some (.int (v3 + 1))] _ _ _ _
        exact r_eV (r' := x_ki_give_2 l0 l1 l2 K f (v3 + 1) (sL T (l0 + 1) (((l1 * 5) + v3) - 1 : Int32).toNatClampNeg (-1))) (by rw [x_ki_give_2]; rw [if_neg c4_1, if_neg c20_2]) ((ih (v3 + 1) (sL T (l0 + 1) (((l1 * 5) + v3) - 1 : Int32).toNatClampNeg (-1)) kk))
def x_ki_give (T : St) (a : Nat) (p0 : Int32) (p1 : Int32) : St := x_ki_give_2 a p0 p1 (fun (w1_3 : Int32) (T201 : St) => T201) 1000 1 T
def ok_ki_give (T : St) (a : Nat) (p0 : Int32) (p1 : Int32) : Prop := ok_ki_give_2 a p0 p1 (fun (w1_3 : Int32) (T201 : St) => True) 1000 1 T
theorem c_ki_give {X : Nat × (Nat → Int32)} {T : St} (a : Nat) (p0 : Int32) (p1 : Int32) (kk : ok_ki_give T a p0 p1) : tC X 1 mX3_give [.ref a, .int p0, .int p1] T none (x_ki_give T a p0 p1) := by
  unfold ok_ki_give at kk
  refine tC_of ?_
  refine r_ci (x := 1) dX3_give_0 rfl ?_
  refine r_p dX3_give_1 rfl rfl ?_
  show tR _ _ _ _ [some (.ref a), some (.int p0), some (.int p1), some (.int 1)] _ _ _ _
  refine r_eV (r' := x_ki_give_2 a p0 p1 (fun (w1_3 : Int32) (T201 : St) => T201) 1000 1 T) (by unfold x_ki_give; rfl) ((c_ki_give_2 a p0 p1 (fun w1_3 T201 kk => ?_) 1000 1 T kk))
  · exact r_eV (r' := T201) rfl (r_rv dX3_give_37 rfl rfl rfl)
def x_ki_giveOneLess_8 (l0 : Nat) (l1 : Int32) (l2 : Int64) (l4 : Int32) (K : Int32 → St → St) : Nat → Int32 → St → St
  | 0, _, T => T
  | f + 1, v5, T => if 5 ≤ v5 then (K v5 T) else (fun (T1 : St) => x_ki_giveOneLess_8 l0 l1 l2 l4 K f (v5 + 1) T1) (sL T (l0 + 1) ((l4 + v5) - 1 : Int32).toNatClampNeg ((T.2.2.2 (l0 + 1) ((l4 + v5) - 1 : Int32).toNatClampNeg) ||| (l2 &&& (T.2.2.2 (l0 + 1) (l4 + v5 : Int32).toNatClampNeg))))
def ok_ki_giveOneLess_8 (l0 : Nat) (l1 : Int32) (l2 : Int64) (l4 : Int32) (Kk : Int32 → St → Prop) : Nat → Int32 → St → Prop
  | 0, _, _ => False
  | f + 1, v5, T => ((5 ≤ v5 → Kk v5 T) ∧ (¬ 5 ≤ v5 → (sh l0 = .inr 3) ∧ (sh (l0 + 1) = .inl (1, 25)) ∧ (vp_in ((l4 + v5) - 1) 25) ∧ (vp_in (l4 + v5) 25) ∧ (fun (T1 : St) => ok_ki_giveOneLess_8 l0 l1 l2 l4 Kk f (v5 + 1) T1) (sL T (l0 + 1) ((l4 + v5) - 1 : Int32).toNatClampNeg ((T.2.2.2 (l0 + 1) ((l4 + v5) - 1 : Int32).toNatClampNeg) ||| (l2 &&& (T.2.2.2 (l0 + 1) (l4 + v5 : Int32).toNatClampNeg))))))
theorem c_ki_giveOneLess_8 {X : Nat × (Nat → Int32)} (l0 : Nat) (l1 : Int32) (l2 : Int64) (l4 : Int32) {K : Int32 → St → St} {Kk : Int32 → St → Prop} (hk : ∀ (v5 : Int32) (T : St), Kk v5 T → tR X 0 mX3_giveOneLess 47 [some (.ref l0), some (.int l1), some (.long l2), none, some (.int l4), some (.int v5)] [] T none (K v5 T)) : ∀ (f : Nat) (v5 : Int32) (T : St), ok_ki_giveOneLess_8 l0 l1 l2 l4 Kk f v5 T → tR X 0 mX3_giveOneLess 8 [some (.ref l0), some (.int l1), some (.long l2), none, some (.int l4), some (.int v5)] [] T none (x_ki_giveOneLess_8 l0 l1 l2 l4 K f v5 T) := by
  intro f
  induction f with
  | zero => intro v5 T kk; exact kk.elim
  | succ f ih =>
    intro v5 T kk
    rw [ok_ki_giveOneLess_8] at kk
    refine r_p dX3_giveOneLess_8 rfl rfl ?_
    refine r_ci (x := 5) dX3_giveOneLess_10 rfl ?_
    refine r_cge dX3_giveOneLess_11 rfl (fun c11_1 => ?_) (fun c11_1 => ?_)
    · have kk := kk.1 c11_1
      show tR _ _ _ _ [some (.ref l0), some (.int l1), some (.long l2), none, some (.int l4), some (.int v5)] _ _ _ _
      exact r_eV (r' := K v5 T) (by rw [x_ki_giveOneLess_8]; rw [if_pos c11_1]) ((hk v5 T kk))
    · have kk := kk.2 c11_1
      refine r_p dX3_giveOneLess_14 rfl rfl ?_
      obtain ⟨q1, kk⟩ := kk
      refine r_get dX3_giveOneLess_15 fkX3_11 q1 rfl ?_
      refine r_p dX3_giveOneLess_18 rfl rfl ?_
      refine r_p dX3_giveOneLess_20 rfl rfl ?_
      refine r_p dX3_giveOneLess_22 rfl rfl ?_
      refine r_ci (x := 1) dX3_giveOneLess_23 rfl ?_
      refine r_p dX3_giveOneLess_24 rfl rfl ?_
      refine r_p dX3_giveOneLess_25 rfl rfl ?_
      obtain ⟨q2, kk⟩ := kk
      obtain ⟨q3, kk⟩ := kk
      refine r_la dX3_giveOneLess_26 q2 q3 ?_
      refine r_p dX3_giveOneLess_27 rfl rfl ?_
      refine r_p dX3_giveOneLess_28 rfl rfl ?_
      refine r_get dX3_giveOneLess_29 fkX3_11 q1 rfl ?_
      refine r_p dX3_giveOneLess_32 rfl rfl ?_
      refine r_p dX3_giveOneLess_34 rfl rfl ?_
      refine r_p dX3_giveOneLess_36 rfl rfl ?_
      obtain ⟨q4, kk⟩ := kk
      refine r_la dX3_giveOneLess_37 q2 q4 ?_
      refine r_p dX3_giveOneLess_38 rfl rfl ?_
      refine r_p dX3_giveOneLess_39 rfl rfl ?_
      refine r_las dX3_giveOneLess_40 q2 q3 ?_
      refine r_eV (r' := (fun (T1 : St) => x_ki_giveOneLess_8 l0 l1 l2 l4 K f (v5 + 1) T1) (sL T (l0 + 1) ((l4 + v5) - 1 : Int32).toNatClampNeg ((T.2.2.2 (l0 + 1) ((l4 + v5) - 1 : Int32).toNatClampNeg) ||| (l2 &&& (T.2.2.2 (l0 + 1) (l4 + v5 : Int32).toNatClampNeg))))) (by rw [x_ki_giveOneLess_8]; rw [if_neg c11_1]) ?_
      generalize sL T (l0 + 1) ((l4 + v5) - 1 : Int32).toNatClampNeg ((T.2.2.2 (l0 + 1) ((l4 + v5) - 1 : Int32).toNatClampNeg) ||| (l2 &&& (T.2.2.2 (l0 + 1) (l4 + v5 : Int32).toNatClampNeg))) = T1 at kk ⊢
      try dsimp only at kk
      refine r_inc (y := 1) dX3_giveOneLess_41 rfl rfl rfl ?_
      refine r_go dX3_giveOneLess_44 rfl ?_
      show tR _ _ _ _ [some (.ref l0), some (.int l1), some (.long l2), none, some (.int l4), some (.int (v5 + 1))] _ _ _ _
      exact r_eV (r' := x_ki_giveOneLess_8 l0 l1 l2 l4 K f (v5 + 1) T1) rfl ((ih (v5 + 1) T1 kk))
def x_ki_giveOneLess (T : St) (a : Nat) (p0 : Int32) (p1 : Int64) : St := x_ki_giveOneLess_8 a p0 p1 (p0 * 5) (fun (w1_5 : Int32) (T201 : St) => T201) 1000 1 T
def ok_ki_giveOneLess (T : St) (a : Nat) (p0 : Int32) (p1 : Int64) : Prop := ok_ki_giveOneLess_8 a p0 p1 (p0 * 5) (fun (w1_5 : Int32) (T201 : St) => True) 1000 1 T
theorem c_ki_giveOneLess {X : Nat × (Nat → Int32)} {T : St} (a : Nat) (p0 : Int32) (p1 : Int64) (kk : ok_ki_giveOneLess T a p0 p1) : tC X 1 mX3_giveOneLess [.ref a, .int p0, .long p1] T none (x_ki_giveOneLess T a p0 p1) := by
  unfold ok_ki_giveOneLess at kk
  refine tC_of ?_
  refine r_p dX3_giveOneLess_0 rfl rfl ?_
  refine r_ci (x := 5) dX3_giveOneLess_1 rfl ?_
  refine r_p dX3_giveOneLess_2 rfl rfl ?_
  refine r_p dX3_giveOneLess_3 rfl rfl ?_
  refine r_ci (x := 1) dX3_giveOneLess_5 rfl ?_
  refine r_p dX3_giveOneLess_6 rfl rfl ?_
  show tR _ _ _ _ [some (.ref a), some (.int p0), some (.long p1), none, some (.int (p0 * 5)), some (.int 1)] _ _ _ _
  refine r_eV (r' := x_ki_giveOneLess_8 a p0 p1 (p0 * 5) (fun (w1_5 : Int32) (T201 : St) => T201) 1000 1 T) (by unfold x_ki_giveOneLess; rfl) ((c_ki_giveOneLess_8 a p0 p1 (p0 * 5) (fun w1_5 T201 kk => ?_) 1000 1 T kk))
  · exact r_eV (r' := T201) rfl (r_rv dX3_giveOneLess_47 rfl rfl rfl)
def x_ov_want_78 (l1 : Nat) (l2 : Nat) (l3 : Int32) (l4 : Int32) (l5 : Int32) (K : Int32 → St → St) : Nat → Int32 → St → St
  | 0, _, T => T
  | f + 1, v6, T => if l5 ≤ v6 then (K v6 T) else (fun (T1 : St) => (fun (T2 : St) => x_ov_want_78 l1 l2 l3 l4 l5 K f (v6 + 1) T2) (sA T1 530 (v6 : Int32).toNatClampNeg (if T1.2.2.1 (l1 + 14) (l4 : Int32).toNatClampNeg < T1.2.2.1 530 (v6 : Int32).toNatClampNeg then T1.2.2.1 (l1 + 14) (l4 : Int32).toNatClampNeg else T1.2.2.1 530 (v6 : Int32).toNatClampNeg : Int32))) (sA T 529 (v6 : Int32).toNatClampNeg (if T.2.2.1 529 (v6 : Int32).toNatClampNeg < T.2.2.1 (l1 + 13) (l4 : Int32).toNatClampNeg then T.2.2.1 (l1 + 13) (l4 : Int32).toNatClampNeg else T.2.2.1 529 (v6 : Int32).toNatClampNeg : Int32))
def ok_ov_want_78 (l1 : Nat) (l2 : Nat) (l3 : Int32) (l4 : Int32) (l5 : Int32) (Kk : Int32 → St → Prop) : Nat → Int32 → St → Prop
  | 0, _, _ => False
  | f + 1, v6, T => ((l5 ≤ v6 → Kk v6 T) ∧ (¬ l5 ≤ v6 → (vp_in v6 60) ∧ (sh l1 = .inr 1) ∧ (sh (l1 + 13) = .inl (0, 24)) ∧ (vp_in l4 24) ∧ (fun (T1 : St) => (vp_in v6 60) ∧ (sh l1 = .inr 1) ∧ (sh (l1 + 14) = .inl (0, 24)) ∧ (vp_in l4 24) ∧ (fun (T2 : St) => ok_ov_want_78 l1 l2 l3 l4 l5 Kk f (v6 + 1) T2) (sA T1 530 (v6 : Int32).toNatClampNeg (if T1.2.2.1 (l1 + 14) (l4 : Int32).toNatClampNeg < T1.2.2.1 530 (v6 : Int32).toNatClampNeg then T1.2.2.1 (l1 + 14) (l4 : Int32).toNatClampNeg else T1.2.2.1 530 (v6 : Int32).toNatClampNeg : Int32))) (sA T 529 (v6 : Int32).toNatClampNeg (if T.2.2.1 529 (v6 : Int32).toNatClampNeg < T.2.2.1 (l1 + 13) (l4 : Int32).toNatClampNeg then T.2.2.1 (l1 + 13) (l4 : Int32).toNatClampNeg else T.2.2.1 529 (v6 : Int32).toNatClampNeg : Int32))))
theorem c_ov_want_78 {X : Nat × (Nat → Int32)} (l1 : Nat) (l2 : Nat) (l3 : Int32) (l4 : Int32) (l5 : Int32) {K : Int32 → St → St} {Kk : Int32 → St → Prop} (hk : ∀ (v6 : Int32) (T : St), Kk v6 T → tR X 1 mX4_want 139 [some (.ref 528), some (.ref l1), some (.ref l2), some (.int l3), some (.int l4), some (.int l5), some (.int v6)] [] T none (K v6 T)) : ∀ (f : Nat) (v6 : Int32) (T : St), ok_ov_want_78 l1 l2 l3 l4 l5 Kk f v6 T → tR X 1 mX4_want 78 [some (.ref 528), some (.ref l1), some (.ref l2), some (.int l3), some (.int l4), some (.int l5), some (.int v6)] [] T none (x_ov_want_78 l1 l2 l3 l4 l5 K f v6 T) := by
  intro f
  induction f with
  | zero => intro v6 T kk; exact kk.elim
  | succ f ih =>
    intro v6 T kk
    rw [ok_ov_want_78] at kk
    refine r_p dX4_want_78 rfl rfl ?_
    refine r_p dX4_want_80 rfl rfl ?_
    refine r_cge dX4_want_82 rfl (fun c82_3 => ?_) (fun c82_3 => ?_)
    · have kk := kk.1 c82_3
      show tR _ _ _ _ [some (.ref 528), some (.ref l1), some (.ref l2), some (.int l3), some (.int l4), some (.int l5), some (.int v6)] _ _ _ _
      exact r_eV (r' := K v6 T) (by rw [x_ov_want_78]; rw [if_pos c82_3]) ((hk v6 T kk))
    · have kk := kk.2 c82_3
      refine r_p dX4_want_85 rfl rfl ?_
      refine r_get dX4_want_86 fkX4_9 rfl rfl ?_
      refine r_p dX4_want_89 rfl rfl ?_
      refine r_p dX4_want_91 rfl rfl ?_
      refine r_get dX4_want_92 fkX4_9 rfl rfl ?_
      refine r_p dX4_want_95 rfl rfl ?_
      obtain ⟨q11, kk⟩ := kk
      refine r_ia dX4_want_97 rfl q11 ?_
      refine r_p dX4_want_98 rfl rfl ?_
      obtain ⟨q12, kk⟩ := kk
      refine r_get dX4_want_99 fkX4_56 q12 rfl ?_
      refine r_p dX4_want_102 rfl rfl ?_
      obtain ⟨q13, kk⟩ := kk
      obtain ⟨q14, kk⟩ := kk
      refine r_ia dX4_want_104 q13 q14 ?_
      refine r_max dX4_want_105 cmxX4_53 (Nat.le_of_ble_eq_true rfl) ?_
      refine r_ias dX4_want_108 rfl q11 ?_
      refine r_eV (r' := (fun (T1 : St) => (fun (T2 : St) => x_ov_want_78 l1 l2 l3 l4 l5 K f (v6 + 1) T2) (sA T1 530 (v6 : Int32).toNatClampNeg (if T1.2.2.1 (l1 + 14) (l4 : Int32).toNatClampNeg < T1.2.2.1 530 (v6 : Int32).toNatClampNeg then T1.2.2.1 (l1 + 14) (l4 : Int32).toNatClampNeg else T1.2.2.1 530 (v6 : Int32).toNatClampNeg : Int32))) (sA T 529 (v6 : Int32).toNatClampNeg (if T.2.2.1 529 (v6 : Int32).toNatClampNeg < T.2.2.1 (l1 + 13) (l4 : Int32).toNatClampNeg then T.2.2.1 (l1 + 13) (l4 : Int32).toNatClampNeg else T.2.2.1 529 (v6 : Int32).toNatClampNeg : Int32))) (by rw [x_ov_want_78]; rw [if_neg c82_3]) ?_
      generalize sA T 529 (v6 : Int32).toNatClampNeg (if T.2.2.1 529 (v6 : Int32).toNatClampNeg < T.2.2.1 (l1 + 13) (l4 : Int32).toNatClampNeg then T.2.2.1 (l1 + 13) (l4 : Int32).toNatClampNeg else T.2.2.1 529 (v6 : Int32).toNatClampNeg : Int32) = T1 at kk ⊢
      try dsimp only at kk
      refine r_p dX4_want_109 rfl rfl ?_
      refine r_get dX4_want_110 fkX4_15 rfl rfl ?_
      refine r_p dX4_want_113 rfl rfl ?_
      refine r_p dX4_want_115 rfl rfl ?_
      refine r_get dX4_want_116 fkX4_15 rfl rfl ?_
      refine r_p dX4_want_119 rfl rfl ?_
      obtain ⟨q15, kk⟩ := kk
      refine r_ia dX4_want_121 rfl q15 ?_
      refine r_p dX4_want_122 rfl rfl ?_
      obtain ⟨q16, kk⟩ := kk
      refine r_get dX4_want_123 fkX4_57 q16 rfl ?_
      refine r_p dX4_want_126 rfl rfl ?_
      obtain ⟨q17, kk⟩ := kk
      obtain ⟨q18, kk⟩ := kk
      refine r_ia dX4_want_128 q17 q18 ?_
      refine r_min dX4_want_129 cmnX4_47 (Nat.le_of_ble_eq_true rfl) ?_
      refine r_ias dX4_want_132 rfl q15 ?_
      refine r_eV (r' := (fun (T2 : St) => x_ov_want_78 l1 l2 l3 l4 l5 K f (v6 + 1) T2) (sA T1 530 (v6 : Int32).toNatClampNeg (if T1.2.2.1 (l1 + 14) (l4 : Int32).toNatClampNeg < T1.2.2.1 530 (v6 : Int32).toNatClampNeg then T1.2.2.1 (l1 + 14) (l4 : Int32).toNatClampNeg else T1.2.2.1 530 (v6 : Int32).toNatClampNeg : Int32))) rfl ?_
      generalize sA T1 530 (v6 : Int32).toNatClampNeg (if T1.2.2.1 (l1 + 14) (l4 : Int32).toNatClampNeg < T1.2.2.1 530 (v6 : Int32).toNatClampNeg then T1.2.2.1 (l1 + 14) (l4 : Int32).toNatClampNeg else T1.2.2.1 530 (v6 : Int32).toNatClampNeg : Int32) = T2 at kk ⊢
      try dsimp only at kk
      refine r_inc (y := 1) dX4_want_133 rfl rfl rfl ?_
      refine r_go dX4_want_136 rfl ?_
      show tR _ _ _ _ [some (.ref 528), some (.ref l1), some (.ref l2), some (.int l3), some (.int l4), some (.int l5), some (.int (v6 + 1))] _ _ _ _
      exact r_eV (r' := x_ov_want_78 l1 l2 l3 l4 l5 K f (v6 + 1) T2) rfl ((ih (v6 + 1) T2 kk))
def x_ov_want_19 (l1 : Nat) (l2 : Nat) (K : Int32 → St → St) : Nat → Int32 → St → St
  | 0, _, T => T
  | f + 1, v3, T => if (T.1 l2 1) ≤ v3 then (K v3 T) else (if (T.2.2.1 (l1 + 9) (T.2.2.1 (l2 + 3) (v3 : Int32).toNatClampNeg : Int32).toNatClampNeg) = 1 then (x_ov_want_78 l1 l2 v3 (T.2.2.1 (l2 + 3) (v3 : Int32).toNatClampNeg) (if (T.2.2.1 (l2 + 5) (v3 : Int32).toNatClampNeg) + (T.2.2.1 (l2 + 6) (v3 : Int32).toNatClampNeg) < 60 then (T.2.2.1 (l2 + 5) (v3 : Int32).toNatClampNeg) + (T.2.2.1 (l2 + 6) (v3 : Int32).toNatClampNeg) else 60 : Int32) (fun (w1_6 : Int32) (T201 : St) => x_ov_want_19 l1 l2 K f (v3 + 1) T201) 1000 (if 0 < T.2.2.1 (l2 + 5) (v3 : Int32).toNatClampNeg then T.2.2.1 (l2 + 5) (v3 : Int32).toNatClampNeg else 0 : Int32) T) else (x_ov_want_19 l1 l2 K f (v3 + 1) T))
def ok_ov_want_19 (l1 : Nat) (l2 : Nat) (Kk : Int32 → St → Prop) : Nat → Int32 → St → Prop
  | 0, _, _ => False
  | f + 1, v3, T => (sh l2 = .inr 7) ∧ (((T.1 l2 1) ≤ v3 → Kk v3 T) ∧ (¬ (T.1 l2 1) ≤ v3 → (sh (l2 + 3) = .inl (0, 12)) ∧ (vp_in v3 12) ∧ (sh l1 = .inr 1) ∧ (sh (l1 + 9) = .inl (0, 24)) ∧ (vp_in (T.2.2.1 (l2 + 3) (v3 : Int32).toNatClampNeg) 24) ∧ (((T.2.2.1 (l1 + 9) (T.2.2.1 (l2 + 3) (v3 : Int32).toNatClampNeg : Int32).toNatClampNeg) = 1 → (sh (l2 + 5) = .inl (0, 12)) ∧ (sh (l2 + 6) = .inl (0, 12)) ∧ ok_ov_want_78 l1 l2 v3 (T.2.2.1 (l2 + 3) (v3 : Int32).toNatClampNeg) (if (T.2.2.1 (l2 + 5) (v3 : Int32).toNatClampNeg) + (T.2.2.1 (l2 + 6) (v3 : Int32).toNatClampNeg) < 60 then (T.2.2.1 (l2 + 5) (v3 : Int32).toNatClampNeg) + (T.2.2.1 (l2 + 6) (v3 : Int32).toNatClampNeg) else 60 : Int32) (fun (w1_6 : Int32) (T201 : St) => ok_ov_want_19 l1 l2 Kk f (v3 + 1) T201) 1000 (if 0 < T.2.2.1 (l2 + 5) (v3 : Int32).toNatClampNeg then T.2.2.1 (l2 + 5) (v3 : Int32).toNatClampNeg else 0 : Int32) T) ∧ (¬ (T.2.2.1 (l1 + 9) (T.2.2.1 (l2 + 3) (v3 : Int32).toNatClampNeg : Int32).toNatClampNeg) = 1 → ok_ov_want_19 l1 l2 Kk f (v3 + 1) T))))
theorem c_ov_want_19 {X : Nat × (Nat → Int32)} (l1 : Nat) (l2 : Nat) {K : Int32 → St → St} {Kk : Int32 → St → Prop} (hk : ∀ (v3 : Int32) (T : St), Kk v3 T → tR X 1 mX4_want 145 [some (.ref 528), some (.ref l1), some (.ref l2), some (.int v3), none, none, none] [] T none (K v3 T)) : ∀ (f : Nat) (v3 : Int32) (T : St), ok_ov_want_19 l1 l2 Kk f v3 T → tR X 1 mX4_want 19 [some (.ref 528), some (.ref l1), some (.ref l2), some (.int v3), none, none, none] [] T none (x_ov_want_19 l1 l2 K f v3 T) := by
  intro f
  induction f with
  | zero => intro v3 T kk; exact kk.elim
  | succ f ih =>
    intro v3 T kk
    rw [ok_ov_want_19] at kk
    refine r_p dX4_want_19 rfl rfl ?_
    refine r_p dX4_want_20 rfl rfl ?_
    obtain ⟨q3, kk⟩ := kk
    refine r_get dX4_want_21 fkX4_27 q3 rfl ?_
    refine r_cge dX4_want_24 rfl (fun c24_1 => ?_) (fun c24_1 => ?_)
    · have kk := kk.1 c24_1
      show tR _ _ _ _ [some (.ref 528), some (.ref l1), some (.ref l2), some (.int v3), none, none, none] _ _ _ _
      exact r_eV (r' := K v3 T) (by rw [x_ov_want_19]; rw [if_pos c24_1]) ((hk v3 T kk))
    · have kk := kk.2 c24_1
      refine r_p dX4_want_27 rfl rfl ?_
      refine r_get dX4_want_28 fkX4_33 q3 rfl ?_
      refine r_p dX4_want_31 rfl rfl ?_
      obtain ⟨q4, kk⟩ := kk
      obtain ⟨q5, kk⟩ := kk
      refine r_ia dX4_want_32 q4 q5 ?_
      refine r_p dX4_want_33 rfl rfl ?_
      refine r_p dX4_want_35 rfl rfl ?_
      obtain ⟨q6, kk⟩ := kk
      refine r_get dX4_want_36 fkX4_36 q6 rfl ?_
      refine r_p dX4_want_39 rfl rfl ?_
      obtain ⟨q7, kk⟩ := kk
      obtain ⟨q8, kk⟩ := kk
      refine r_ia dX4_want_41 q7 q8 ?_
      refine r_ci (x := 1) dX4_want_42 rfl ?_
      refine r_cne dX4_want_43 rfl (fun c43_2 => ?_) (fun c43_2 => ?_)
      · have kk := kk.2 c43_2
        refine r_inc (y := 1) dX4_want_139 rfl rfl rfl ?_
        refine r_go dX4_want_142 rfl ?_
        show tR _ _ _ _ [some (.ref 528), some (.ref l1), some (.ref l2), some (.int (v3 + 1)), some (.int (T.2.2.1 (l2 + 3) (v3 : Int32).toNatClampNeg)), none, none] _ _ _ _
        exact r_eV (r' := x_ov_want_19 l1 l2 K f (v3 + 1) T) (by rw [x_ov_want_19]; rw [if_neg c24_1, if_neg c43_2]) (r_le (le_s (le_s (le_s (le_s (le_n (le_s (le_s (le_0)))))))) (ih (v3 + 1) T kk))
      · have kk := kk.1 c43_2
        refine r_cb (x := 60) dX4_want_46 rfl ?_
        refine r_p dX4_want_48 rfl rfl ?_
        refine r_get dX4_want_49 fkX4_41 q3 rfl ?_
        refine r_p dX4_want_52 rfl rfl ?_
        obtain ⟨q9, kk⟩ := kk
        refine r_ia dX4_want_53 q9 q5 ?_
        refine r_p dX4_want_54 rfl rfl ?_
        refine r_get dX4_want_55 fkX4_44 q3 rfl ?_
        refine r_p dX4_want_58 rfl rfl ?_
        obtain ⟨q10, kk⟩ := kk
        refine r_ia dX4_want_59 q10 q5 ?_
        refine r_p dX4_want_60 rfl rfl ?_
        refine r_min dX4_want_61 cmnX4_47 (Nat.le_of_ble_eq_true rfl) ?_
        refine r_p dX4_want_64 rfl rfl ?_
        refine r_ci (x := 0) dX4_want_66 rfl ?_
        refine r_p dX4_want_67 rfl rfl ?_
        refine r_get dX4_want_68 fkX4_41 q3 rfl ?_
        refine r_p dX4_want_71 rfl rfl ?_
        refine r_ia dX4_want_72 q9 q5 ?_
        refine r_max dX4_want_73 cmxX4_53 (Nat.le_of_ble_eq_true rfl) ?_
        refine r_p dX4_want_76 rfl rfl ?_
        show tR _ _ _ _ [some (.ref 528), some (.ref l1), some (.ref l2), some (.int v3), some (.int (T.2.2.1 (l2 + 3) (v3 : Int32).toNatClampNeg)), some (.int (if (T.2.2.1 (l2 + 5) (v3 : Int32).toNatClampNeg) + (T.2.2.1 (l2 + 6) (v3 : Int32).toNatClampNeg) < 60 then (T.2.2.1 (l2 + 5) (v3 : Int32).toNatClampNeg) + (T.2.2.1 (l2 + 6) (v3 : Int32).toNatClampNeg) else 60 : Int32)), some (.int (if 0 < T.2.2.1 (l2 + 5) (v3 : Int32).toNatClampNeg then T.2.2.1 (l2 + 5) (v3 : Int32).toNatClampNeg else 0 : Int32))] _ _ _ _
        refine r_eV (r' := x_ov_want_78 l1 l2 v3 (T.2.2.1 (l2 + 3) (v3 : Int32).toNatClampNeg) (if (T.2.2.1 (l2 + 5) (v3 : Int32).toNatClampNeg) + (T.2.2.1 (l2 + 6) (v3 : Int32).toNatClampNeg) < 60 then (T.2.2.1 (l2 + 5) (v3 : Int32).toNatClampNeg) + (T.2.2.1 (l2 + 6) (v3 : Int32).toNatClampNeg) else 60 : Int32) (fun (w1_6 : Int32) (T201 : St) => x_ov_want_19 l1 l2 K f (v3 + 1) T201) 1000 (if 0 < T.2.2.1 (l2 + 5) (v3 : Int32).toNatClampNeg then T.2.2.1 (l2 + 5) (v3 : Int32).toNatClampNeg else 0 : Int32) T) (by rw [x_ov_want_19]; rw [if_neg c24_1, if_pos c43_2]) ((c_ov_want_78 l1 l2 v3 (T.2.2.1 (l2 + 3) (v3 : Int32).toNatClampNeg) (if (T.2.2.1 (l2 + 5) (v3 : Int32).toNatClampNeg) + (T.2.2.1 (l2 + 6) (v3 : Int32).toNatClampNeg) < 60 then (T.2.2.1 (l2 + 5) (v3 : Int32).toNatClampNeg) + (T.2.2.1 (l2 + 6) (v3 : Int32).toNatClampNeg) else 60 : Int32) (fun w1_6 T201 kk => ?_) 1000 (if 0 < T.2.2.1 (l2 + 5) (v3 : Int32).toNatClampNeg then T.2.2.1 (l2 + 5) (v3 : Int32).toNatClampNeg else 0 : Int32) T kk))
        · try dsimp only at kk
          refine r_inc (y := 1) dX4_want_139 rfl rfl rfl ?_
          refine r_go dX4_want_142 rfl ?_
          show tR _ _ _ _ [some (.ref 528), some (.ref l1), some (.ref l2), some (.int (v3 + 1)), some (.int (T.2.2.1 (l2 + 3) (v3 : Int32).toNatClampNeg)), some (.int (if (T.2.2.1 (l2 + 5) (v3 : Int32).toNatClampNeg) + (T.2.2.1 (l2 + 6) (v3 : Int32).toNatClampNeg) < 60 then (T.2.2.1 (l2 + 5) (v3 : Int32).toNatClampNeg) + (T.2.2.1 (l2 + 6) (v3 : Int32).toNatClampNeg) else 60 : Int32)), some (.int w1_6)] _ _ _ _
          exact r_eV (r' := x_ov_want_19 l1 l2 K f (v3 + 1) T201) rfl (r_le (le_s (le_s (le_s (le_s (le_n (le_n (le_n (le_0)))))))) (ih (v3 + 1) T201 kk))
def x_ov_want (T : St) (p0 : Nat) (p1 : Nat) : St := x_ov_want_19 p0 p1 (fun (w2_3 : Int32) (T202 : St) => T202) 1000 0 (x_fillI (x_fillI T 529 0) 530 9)
def ok_ov_want (T : St) (p0 : Nat) (p1 : Nat) : Prop := (ok_fillI T 529 0) ∧ (ok_fillI (x_fillI T 529 0) 530 9) ∧ ok_ov_want_19 p0 p1 (fun (w2_3 : Int32) (T202 : St) => True) 1000 0 (x_fillI (x_fillI T 529 0) 530 9)
theorem c_ov_want {X : Nat × (Nat → Int32)} {T : St} (p0 : Nat) (p1 : Nat) (kk : ok_ov_want T p0 p1) : tC X 2 mX4_want [.ref 528, .ref p0, .ref p1] T none (x_ov_want T p0 p1) := by
  unfold ok_ov_want at kk
  refine tC_of ?_
  refine r_p dX4_want_0 rfl rfl ?_
  refine r_get dX4_want_1 fkX4_9 rfl rfl ?_
  refine r_ci (x := 0) dX4_want_4 rfl ?_
  obtain ⟨q1, kk⟩ := kk
  refine r_cs (d1 := 1) dX4_want_5 csX4_21 rfl rfl (Nat.le_of_ble_eq_true rfl) (Nat.le_of_ble_eq_true rfl) (Nat.le_of_ble_eq_true rfl) (c_fillI 529 0 q1) ?_
  refine r_p dX4_want_8 rfl rfl ?_
  refine r_get dX4_want_9 fkX4_15 rfl rfl ?_
  refine r_cb (x := 9) dX4_want_12 rfl ?_
  obtain ⟨q2, kk⟩ := kk
  refine r_cs (d1 := 1) dX4_want_14 csX4_21 rfl rfl (Nat.le_of_ble_eq_true rfl) (Nat.le_of_ble_eq_true rfl) (Nat.le_of_ble_eq_true rfl) (c_fillI 530 9 q2) ?_
  refine r_ci (x := 0) dX4_want_17 rfl ?_
  refine r_p dX4_want_18 rfl rfl ?_
  show tR _ _ _ _ [some (.ref 528), some (.ref p0), some (.ref p1), some (.int 0), none, none, none] _ _ _ _
  refine r_eV (r' := x_ov_want_19 p0 p1 (fun (w2_3 : Int32) (T202 : St) => T202) 1000 0 (x_fillI (x_fillI T 529 0) 530 9)) (by unfold x_ov_want; rfl) ((c_ov_want_19 p0 p1 (fun w2_3 T202 kk => ?_) 1000 0 (x_fillI (x_fillI T 529 0) 530 9) kk))
  · exact r_eV (r' := T202) rfl (r_rv dX4_want_145 rfl rfl rfl)
def x_ov_firstLack_8 (T : St) (l1 : Int32) (l2 : Int32) (K : Int32 → Int32 → Int32 → Int32) : Nat → Int32 → Int32 → Int32 → Int32
  | 0, _, _, _ => 0
  | f + 1, v3, v4, v5 => if 60 ≤ v5 then (K v3 v4 v5) else (if (if T.2.2.1 529 (v5 : Int32).toNatClampNeg < v3 - l2 then v3 - l2 else T.2.2.1 529 (v5 : Int32).toNatClampNeg : Int32) ≤ (if v4 + l1 < T.2.2.1 530 (v5 : Int32).toNatClampNeg then v4 + l1 else T.2.2.1 530 (v5 : Int32).toNatClampNeg : Int32) then (x_ov_firstLack_8 T l1 l2 K f (if T.2.2.1 529 (v5 : Int32).toNatClampNeg < v3 - l2 then v3 - l2 else T.2.2.1 529 (v5 : Int32).toNatClampNeg : Int32) (if v4 + l1 < T.2.2.1 530 (v5 : Int32).toNatClampNeg then v4 + l1 else T.2.2.1 530 (v5 : Int32).toNatClampNeg : Int32) (v5 + 1)) else (v5))
def ok_ov_firstLack_8 (T : St) (l1 : Int32) (l2 : Int32) (Kk : Int32 → Int32 → Int32 → Prop) : Nat → Int32 → Int32 → Int32 → Prop
  | 0, _, _, _ => False
  | f + 1, v3, v4, v5 => ((60 ≤ v5 → Kk v3 v4 v5) ∧ (¬ 60 ≤ v5 → (vp_in v5 60) ∧ ((if T.2.2.1 529 (v5 : Int32).toNatClampNeg < v3 - l2 then v3 - l2 else T.2.2.1 529 (v5 : Int32).toNatClampNeg : Int32) ≤ (if v4 + l1 < T.2.2.1 530 (v5 : Int32).toNatClampNeg then v4 + l1 else T.2.2.1 530 (v5 : Int32).toNatClampNeg : Int32) → ok_ov_firstLack_8 T l1 l2 Kk f (if T.2.2.1 529 (v5 : Int32).toNatClampNeg < v3 - l2 then v3 - l2 else T.2.2.1 529 (v5 : Int32).toNatClampNeg : Int32) (if v4 + l1 < T.2.2.1 530 (v5 : Int32).toNatClampNeg then v4 + l1 else T.2.2.1 530 (v5 : Int32).toNatClampNeg : Int32) (v5 + 1))))
theorem c_ov_firstLack_8 {X : Nat × (Nat → Int32)} (T : St) (l1 : Int32) (l2 : Int32) {K : Int32 → Int32 → Int32 → Int32} {Kk : Int32 → Int32 → Int32 → Prop} (hk : ∀ (v3 : Int32) (v4 : Int32) (v5 : Int32), Kk v3 v4 v5 → tR X 0 mX4_firstLack 60 [some (.ref 528), some (.int l1), some (.int l2), some (.int v3), some (.int v4), some (.int v5)] [] T (some (.int (K v3 v4 v5))) T) : ∀ (f : Nat) (v3 : Int32) (v4 : Int32) (v5 : Int32), ok_ov_firstLack_8 T l1 l2 Kk f v3 v4 v5 → tR X 0 mX4_firstLack 8 [some (.ref 528), some (.int l1), some (.int l2), some (.int v3), some (.int v4), some (.int v5)] [] T (some (.int (x_ov_firstLack_8 T l1 l2 K f v3 v4 v5))) T := by
  intro f
  induction f with
  | zero => intro v3 v4 v5 kk; exact kk.elim
  | succ f ih =>
    intro v3 v4 v5 kk
    rw [ok_ov_firstLack_8] at kk
    refine r_p dX4_firstLack_8 rfl rfl ?_
    refine r_cb (x := 60) dX4_firstLack_10 rfl ?_
    refine r_cge dX4_firstLack_12 rfl (fun c12_1 => ?_) (fun c12_1 => ?_)
    · have kk := kk.1 c12_1
      show tR _ _ _ _ [some (.ref 528), some (.int l1), some (.int l2), some (.int v3), some (.int v4), some (.int v5)] _ _ _ _
      exact r_eIp (r' := K v3 v4 v5) (by rw [x_ov_firstLack_8]; rw [if_pos c12_1]) ((hk v3 v4 v5  kk))
    · have kk := kk.2 c12_1
      refine r_p dX4_firstLack_15 rfl rfl ?_
      refine r_get dX4_firstLack_16 fkX4_9 rfl rfl ?_
      refine r_p dX4_firstLack_19 rfl rfl ?_
      obtain ⟨q1, kk⟩ := kk
      refine r_ia dX4_firstLack_21 rfl q1 ?_
      refine r_p dX4_firstLack_22 rfl rfl ?_
      refine r_p dX4_firstLack_23 rfl rfl ?_
      refine r_p dX4_firstLack_24 rfl rfl ?_
      refine r_max dX4_firstLack_25 cmxX4_53 (Nat.le_of_ble_eq_true rfl) ?_
      refine r_p dX4_firstLack_28 rfl rfl ?_
      refine r_p dX4_firstLack_29 rfl rfl ?_
      refine r_get dX4_firstLack_30 fkX4_15 rfl rfl ?_
      refine r_p dX4_firstLack_33 rfl rfl ?_
      refine r_ia dX4_firstLack_35 rfl q1 ?_
      refine r_p dX4_firstLack_36 rfl rfl ?_
      refine r_p dX4_firstLack_38 rfl rfl ?_
      refine r_p dX4_firstLack_39 rfl rfl ?_
      refine r_min dX4_firstLack_40 cmnX4_47 (Nat.le_of_ble_eq_true rfl) ?_
      refine r_p dX4_firstLack_43 rfl rfl ?_
      refine r_p dX4_firstLack_45 rfl rfl ?_
      refine r_p dX4_firstLack_46 rfl rfl ?_
      refine r_cle dX4_firstLack_48 rfl (fun c48_2 => ?_) (fun c48_2 => ?_)
      · have kk := kk c48_2
        refine r_inc (y := 1) dX4_firstLack_54 rfl rfl rfl ?_
        refine r_go dX4_firstLack_57 rfl ?_
        show tR _ _ _ _ [some (.ref 528), some (.int l1), some (.int l2), some (.int (if T.2.2.1 529 (v5 : Int32).toNatClampNeg < v3 - l2 then v3 - l2 else T.2.2.1 529 (v5 : Int32).toNatClampNeg : Int32)), some (.int (if v4 + l1 < T.2.2.1 530 (v5 : Int32).toNatClampNeg then v4 + l1 else T.2.2.1 530 (v5 : Int32).toNatClampNeg : Int32)), some (.int (v5 + 1))] _ _ _ _
        exact r_eIp (r' := x_ov_firstLack_8 T l1 l2 K f (if T.2.2.1 529 (v5 : Int32).toNatClampNeg < v3 - l2 then v3 - l2 else T.2.2.1 529 (v5 : Int32).toNatClampNeg : Int32) (if v4 + l1 < T.2.2.1 530 (v5 : Int32).toNatClampNeg then v4 + l1 else T.2.2.1 530 (v5 : Int32).toNatClampNeg : Int32) (v5 + 1)) (by rw [x_ov_firstLack_8]; rw [if_neg c12_1, if_pos c48_2]) ((ih (if T.2.2.1 529 (v5 : Int32).toNatClampNeg < v3 - l2 then v3 - l2 else T.2.2.1 529 (v5 : Int32).toNatClampNeg : Int32) (if v4 + l1 < T.2.2.1 530 (v5 : Int32).toNatClampNeg then v4 + l1 else T.2.2.1 530 (v5 : Int32).toNatClampNeg : Int32) (v5 + 1)  kk))
      · refine r_p dX4_firstLack_51 rfl rfl ?_
        exact r_eIp (r' := v5) (by rw [x_ov_firstLack_8]; rw [if_neg c12_1, if_neg c48_2]) (r_ri dX4_firstLack_53 rfl rfl rfl rfl)
def x_ov_firstLack (T : St) (p0 : Int32) (p1 : Int32) : Int32 := x_ov_firstLack_8 T p0 p1 (fun (w1_3 : Int32) (w1_4 : Int32) (w1_5 : Int32) => 60) 1000 0 0 0
def ok_ov_firstLack (T : St) (p0 : Int32) (p1 : Int32) : Prop := ok_ov_firstLack_8 T p0 p1 (fun (w1_3 : Int32) (w1_4 : Int32) (w1_5 : Int32) => True) 1000 0 0 0
theorem c_ov_firstLack {X : Nat × (Nat → Int32)} {T : St} (p0 : Int32) (p1 : Int32) (kk : ok_ov_firstLack T p0 p1) : tC X 1 mX4_firstLack [.ref 528, .int p0, .int p1] T (some (.int (x_ov_firstLack T p0 p1))) T := by
  unfold ok_ov_firstLack at kk
  refine tC_of ?_
  refine r_ci (x := 0) dX4_firstLack_0 rfl ?_
  refine r_p dX4_firstLack_1 rfl rfl ?_
  refine r_ci (x := 0) dX4_firstLack_2 rfl ?_
  refine r_p dX4_firstLack_3 rfl rfl ?_
  refine r_ci (x := 0) dX4_firstLack_5 rfl ?_
  refine r_p dX4_firstLack_6 rfl rfl ?_
  show tR _ _ _ _ [some (.ref 528), some (.int p0), some (.int p1), some (.int 0), some (.int 0), some (.int 0)] _ _ _ _
  refine r_eIp (r' := x_ov_firstLack_8 T p0 p1 (fun (w1_3 : Int32) (w1_4 : Int32) (w1_5 : Int32) => 60) 1000 0 0 0) (by unfold x_ov_firstLack; rfl) ((c_ov_firstLack_8 T p0 p1 (fun w1_3 w1_4 w1_5 kk => ?_) 1000 0 0 0  kk))
  · refine r_cb (x := 60) dX4_firstLack_60 rfl ?_
    exact r_eIp (r' := 60) rfl (r_ri dX4_firstLack_62 rfl rfl rfl rfl)
def x_ov_settle_3 (l1 : Int32) (l2 : Int32) (K : Int32 → St → St) : Nat → Int32 → St → St
  | 0, _, T => T
  | f + 1, v3, T => if v3 < 0 then (K v3 T) else (fun (T1 : St) => x_ov_settle_3 l1 l2 K f (v3 + (-1)) T1) (sA T 529 (v3 : Int32).toNatClampNeg (if T.2.2.1 529 (v3 : Int32).toNatClampNeg < (T.2.2.1 529 (v3 + 1 : Int32).toNatClampNeg) - l1 then (T.2.2.1 529 (v3 + 1 : Int32).toNatClampNeg) - l1 else T.2.2.1 529 (v3 : Int32).toNatClampNeg : Int32))
def ok_ov_settle_3 (l1 : Int32) (l2 : Int32) (Kk : Int32 → St → Prop) : Nat → Int32 → St → Prop
  | 0, _, _ => False
  | f + 1, v3, T => ((v3 < 0 → Kk v3 T) ∧ (¬ v3 < 0 → (vp_in v3 60) ∧ (vp_in (v3 + 1) 60) ∧ (fun (T1 : St) => ok_ov_settle_3 l1 l2 Kk f (v3 + (-1)) T1) (sA T 529 (v3 : Int32).toNatClampNeg (if T.2.2.1 529 (v3 : Int32).toNatClampNeg < (T.2.2.1 529 (v3 + 1 : Int32).toNatClampNeg) - l1 then (T.2.2.1 529 (v3 + 1 : Int32).toNatClampNeg) - l1 else T.2.2.1 529 (v3 : Int32).toNatClampNeg : Int32))))
theorem c_ov_settle_3 {X : Nat × (Nat → Int32)} (l1 : Int32) (l2 : Int32) {K : Int32 → St → St} {Kk : Int32 → St → Prop} (hk : ∀ (v3 : Int32) (T : St), Kk v3 T → tR X 0 mX4_settle 38 [some (.ref 528), some (.int l1), some (.int l2), some (.int v3), none] [] T none (K v3 T)) : ∀ (f : Nat) (v3 : Int32) (T : St), ok_ov_settle_3 l1 l2 Kk f v3 T → tR X 0 mX4_settle 3 [some (.ref 528), some (.int l1), some (.int l2), some (.int v3), none] [] T none (x_ov_settle_3 l1 l2 K f v3 T) := by
  intro f
  induction f with
  | zero => intro v3 T kk; exact kk.elim
  | succ f ih =>
    intro v3 T kk
    rw [ok_ov_settle_3] at kk
    refine r_p dX4_settle_3 rfl rfl ?_
    refine r_ilt dX4_settle_4 rfl (fun c4_1 => ?_) (fun c4_1 => ?_)
    · have kk := kk.1 c4_1
      show tR _ _ _ _ [some (.ref 528), some (.int l1), some (.int l2), some (.int v3), none] _ _ _ _
      exact r_eV (r' := K v3 T) (by rw [x_ov_settle_3]; rw [if_pos c4_1]) ((hk v3 T kk))
    · have kk := kk.2 c4_1
      refine r_p dX4_settle_7 rfl rfl ?_
      refine r_get dX4_settle_8 fkX4_9 rfl rfl ?_
      refine r_p dX4_settle_11 rfl rfl ?_
      refine r_p dX4_settle_12 rfl rfl ?_
      refine r_get dX4_settle_13 fkX4_9 rfl rfl ?_
      refine r_p dX4_settle_16 rfl rfl ?_
      obtain ⟨q1, kk⟩ := kk
      refine r_ia dX4_settle_17 rfl q1 ?_
      refine r_p dX4_settle_18 rfl rfl ?_
      refine r_get dX4_settle_19 fkX4_9 rfl rfl ?_
      refine r_p dX4_settle_22 rfl rfl ?_
      refine r_ci (x := 1) dX4_settle_23 rfl ?_
      refine r_p dX4_settle_24 rfl rfl ?_
      obtain ⟨q2, kk⟩ := kk
      refine r_ia dX4_settle_25 rfl q2 ?_
      refine r_p dX4_settle_26 rfl rfl ?_
      refine r_p dX4_settle_27 rfl rfl ?_
      refine r_max dX4_settle_28 cmxX4_53 (Nat.le_of_ble_eq_true rfl) ?_
      refine r_ias dX4_settle_31 rfl q1 ?_
      refine r_eV (r' := (fun (T1 : St) => x_ov_settle_3 l1 l2 K f (v3 + (-1)) T1) (sA T 529 (v3 : Int32).toNatClampNeg (if T.2.2.1 529 (v3 : Int32).toNatClampNeg < (T.2.2.1 529 (v3 + 1 : Int32).toNatClampNeg) - l1 then (T.2.2.1 529 (v3 + 1 : Int32).toNatClampNeg) - l1 else T.2.2.1 529 (v3 : Int32).toNatClampNeg : Int32))) (by rw [x_ov_settle_3]; rw [if_neg c4_1]) ?_
      generalize sA T 529 (v3 : Int32).toNatClampNeg (if T.2.2.1 529 (v3 : Int32).toNatClampNeg < (T.2.2.1 529 (v3 + 1 : Int32).toNatClampNeg) - l1 then (T.2.2.1 529 (v3 + 1 : Int32).toNatClampNeg) - l1 else T.2.2.1 529 (v3 : Int32).toNatClampNeg : Int32) = T1 at kk ⊢
      try dsimp only at kk
      refine r_inc (y := -1) dX4_settle_32 rfl rfl rfl ?_
      refine r_go dX4_settle_35 rfl ?_
      show tR _ _ _ _ [some (.ref 528), some (.int l1), some (.int l2), some (.int (v3 + (-1))), none] _ _ _ _
      exact r_eV (r' := x_ov_settle_3 l1 l2 K f (v3 + (-1)) T1) rfl ((ih (v3 + (-1)) T1 kk))
def x_ov_settle_43 (l1 : Int32) (l2 : Int32) (K : Int32 → Int32 → St → St) : Nat → Int32 → Int32 → St → St
  | 0, _, _, T => T
  | f + 1, v3, v4, T => if 60 ≤ v4 then (K v3 v4 T) else (fun (T2 : St) => x_ov_settle_43 l1 l2 K f (if T.2.2.1 529 (v4 : Int32).toNatClampNeg < v3 - l2 then v3 - l2 else T.2.2.1 529 (v4 : Int32).toNatClampNeg : Int32) (v4 + 1) T2) (sA T 531 (v4 : Int32).toNatClampNeg (if T.2.2.1 529 (v4 : Int32).toNatClampNeg < v3 - l2 then v3 - l2 else T.2.2.1 529 (v4 : Int32).toNatClampNeg : Int32))
def ok_ov_settle_43 (l1 : Int32) (l2 : Int32) (Kk : Int32 → Int32 → St → Prop) : Nat → Int32 → Int32 → St → Prop
  | 0, _, _, _ => False
  | f + 1, v3, v4, T => ((60 ≤ v4 → Kk v3 v4 T) ∧ (¬ 60 ≤ v4 → (vp_in v4 60) ∧ (fun (T2 : St) => ok_ov_settle_43 l1 l2 Kk f (if T.2.2.1 529 (v4 : Int32).toNatClampNeg < v3 - l2 then v3 - l2 else T.2.2.1 529 (v4 : Int32).toNatClampNeg : Int32) (v4 + 1) T2) (sA T 531 (v4 : Int32).toNatClampNeg (if T.2.2.1 529 (v4 : Int32).toNatClampNeg < v3 - l2 then v3 - l2 else T.2.2.1 529 (v4 : Int32).toNatClampNeg : Int32))))
theorem c_ov_settle_43 {X : Nat × (Nat → Int32)} (l1 : Int32) (l2 : Int32) {K : Int32 → Int32 → St → St} {Kk : Int32 → Int32 → St → Prop} (hk : ∀ (v3 : Int32) (v4 : Int32) (T : St), Kk v3 v4 T → tR X 0 mX4_settle 78 [some (.ref 528), some (.int l1), some (.int l2), some (.int v3), some (.int v4)] [] T none (K v3 v4 T)) : ∀ (f : Nat) (v3 : Int32) (v4 : Int32) (T : St), ok_ov_settle_43 l1 l2 Kk f v3 v4 T → tR X 0 mX4_settle 43 [some (.ref 528), some (.int l1), some (.int l2), some (.int v3), some (.int v4)] [] T none (x_ov_settle_43 l1 l2 K f v3 v4 T) := by
  intro f
  induction f with
  | zero => intro v3 v4 T kk; exact kk.elim
  | succ f ih =>
    intro v3 v4 T kk
    rw [ok_ov_settle_43] at kk
    refine r_p dX4_settle_43 rfl rfl ?_
    refine r_cb (x := 60) dX4_settle_45 rfl ?_
    refine r_cge dX4_settle_47 rfl (fun c47_2 => ?_) (fun c47_2 => ?_)
    · have kk := kk.1 c47_2
      show tR _ _ _ _ [some (.ref 528), some (.int l1), some (.int l2), some (.int v3), some (.int v4)] _ _ _ _
      exact r_eV (r' := K v3 v4 T) (by rw [x_ov_settle_43]; rw [if_pos c47_2]) ((hk v3 v4 T kk))
    · have kk := kk.2 c47_2
      refine r_p dX4_settle_50 rfl rfl ?_
      refine r_get dX4_settle_51 fkX4_9 rfl rfl ?_
      refine r_p dX4_settle_54 rfl rfl ?_
      obtain ⟨q3, kk⟩ := kk
      refine r_ia dX4_settle_56 rfl q3 ?_
      refine r_p dX4_settle_57 rfl rfl ?_
      refine r_p dX4_settle_58 rfl rfl ?_
      refine r_p dX4_settle_59 rfl rfl ?_
      refine r_max dX4_settle_60 cmxX4_53 (Nat.le_of_ble_eq_true rfl) ?_
      refine r_p dX4_settle_63 rfl rfl ?_
      refine r_p dX4_settle_64 rfl rfl ?_
      refine r_get dX4_settle_65 fkX4_18 rfl rfl ?_
      refine r_p dX4_settle_68 rfl rfl ?_
      refine r_p dX4_settle_70 rfl rfl ?_
      refine r_ias dX4_settle_71 rfl q3 ?_
      refine r_eV (r' := (fun (T2 : St) => x_ov_settle_43 l1 l2 K f (if T.2.2.1 529 (v4 : Int32).toNatClampNeg < v3 - l2 then v3 - l2 else T.2.2.1 529 (v4 : Int32).toNatClampNeg : Int32) (v4 + 1) T2) (sA T 531 (v4 : Int32).toNatClampNeg (if T.2.2.1 529 (v4 : Int32).toNatClampNeg < v3 - l2 then v3 - l2 else T.2.2.1 529 (v4 : Int32).toNatClampNeg : Int32))) (by rw [x_ov_settle_43]; rw [if_neg c47_2]) ?_
      generalize sA T 531 (v4 : Int32).toNatClampNeg (if T.2.2.1 529 (v4 : Int32).toNatClampNeg < v3 - l2 then v3 - l2 else T.2.2.1 529 (v4 : Int32).toNatClampNeg : Int32) = T2 at kk ⊢
      try dsimp only at kk
      refine r_inc (y := 1) dX4_settle_72 rfl rfl rfl ?_
      refine r_go dX4_settle_75 rfl ?_
      show tR _ _ _ _ [some (.ref 528), some (.int l1), some (.int l2), some (.int (if T.2.2.1 529 (v4 : Int32).toNatClampNeg < v3 - l2 then v3 - l2 else T.2.2.1 529 (v4 : Int32).toNatClampNeg : Int32)), some (.int (v4 + 1))] _ _ _ _
      exact r_eV (r' := x_ov_settle_43 l1 l2 K f (if T.2.2.1 529 (v4 : Int32).toNatClampNeg < v3 - l2 then v3 - l2 else T.2.2.1 529 (v4 : Int32).toNatClampNeg : Int32) (v4 + 1) T2) rfl ((ih (if T.2.2.1 529 (v4 : Int32).toNatClampNeg < v3 - l2 then v3 - l2 else T.2.2.1 529 (v4 : Int32).toNatClampNeg : Int32) (v4 + 1) T2 kk))
def x_ov_settle (T : St) (p0 : Int32) (p1 : Int32) : St := x_ov_settle_3 p0 p1 (fun (w1_3 : Int32) (T201 : St) => x_ov_settle_43 p0 p1 (fun (w2_3 : Int32) (w2_4 : Int32) (T202 : St) => T202) 1000 0 0 T201) 1000 58 T
def ok_ov_settle (T : St) (p0 : Int32) (p1 : Int32) : Prop := ok_ov_settle_3 p0 p1 (fun (w1_3 : Int32) (T201 : St) => ok_ov_settle_43 p0 p1 (fun (w2_3 : Int32) (w2_4 : Int32) (T202 : St) => True) 1000 0 0 T201) 1000 58 T
theorem c_ov_settle {X : Nat × (Nat → Int32)} {T : St} (p0 : Int32) (p1 : Int32) (kk : ok_ov_settle T p0 p1) : tC X 1 mX4_settle [.ref 528, .int p0, .int p1] T none (x_ov_settle T p0 p1) := by
  unfold ok_ov_settle at kk
  refine tC_of ?_
  refine r_cb (x := 58) dX4_settle_0 rfl ?_
  refine r_p dX4_settle_2 rfl rfl ?_
  show tR _ _ _ _ [some (.ref 528), some (.int p0), some (.int p1), some (.int 58), none] _ _ _ _
  refine r_eV (r' := x_ov_settle_3 p0 p1 (fun (w1_3 : Int32) (T201 : St) => x_ov_settle_43 p0 p1 (fun (w2_3 : Int32) (w2_4 : Int32) (T202 : St) => T202) 1000 0 0 T201) 1000 58 T) (by unfold x_ov_settle; rfl) ((c_ov_settle_3 p0 p1 (fun w1_3 T201 kk => ?_) 1000 58 T kk))
  · try dsimp only at kk
    refine r_ci (x := 0) dX4_settle_38 rfl ?_
    refine r_p dX4_settle_39 rfl rfl ?_
    refine r_ci (x := 0) dX4_settle_40 rfl ?_
    refine r_p dX4_settle_41 rfl rfl ?_
    show tR _ _ _ _ [some (.ref 528), some (.int p0), some (.int p1), some (.int 0), some (.int 0)] _ _ _ _
    refine r_eV (r' := x_ov_settle_43 p0 p1 (fun (w2_3 : Int32) (w2_4 : Int32) (T202 : St) => T202) 1000 0 0 T201) rfl ((c_ov_settle_43 p0 p1 (fun w2_3 w2_4 T202 kk => ?_) 1000 0 0 T201 kk))
    · exact r_eV (r' := T202) rfl (r_rv dX4_settle_78 rfl rfl rfl)
def x_pl_strikeEarly_2  (K : Int32 → St → St) : Nat → Int32 → St → St
  | 0, _, T => T
  | f + 1, v1, T => if (Int32.ofNat 96) ≤ v1 then (K v1 T) else (if (T.1 (123 + 4 * (v1 : Int32).toNatClampNeg) 4) ≤ 0 then (x_pl_strikeEarly_2 K f (v1 + 1) T) else (x_pl_strikeEarly_2 K f (v1 + 1) (sF T (123 + 4 * (v1 : Int32).toNatClampNeg) 6 0)))
def ok_pl_strikeEarly_2  (Kk : Int32 → St → Prop) : Nat → Int32 → St → Prop
  | 0, _, _ => False
  | f + 1, v1, T => (((Int32.ofNat 96) ≤ v1 → Kk v1 T) ∧ (¬ (Int32.ofNat 96) ≤ v1 → (vp_in v1 96) ∧ (sh (123 + 4 * (v1 : Int32).toNatClampNeg) = .inr 10) ∧ (((T.1 (123 + 4 * (v1 : Int32).toNatClampNeg) 4) ≤ 0 → ok_pl_strikeEarly_2 Kk f (v1 + 1) T) ∧ (¬ (T.1 (123 + 4 * (v1 : Int32).toNatClampNeg) 4) ≤ 0 → ok_pl_strikeEarly_2 Kk f (v1 + 1) (sF T (123 + 4 * (v1 : Int32).toNatClampNeg) 6 0)))))
theorem c_pl_strikeEarly_2 {X : Nat × (Nat → Int32)}  {K : Int32 → St → St} {Kk : Int32 → St → Prop} (hk : ∀ (v1 : Int32) (T : St), Kk v1 T → tR X 0 mX5_strikeEarly 39 [some (.ref 80), some (.int v1)] [] T none (K v1 T)) : ∀ (f : Nat) (v1 : Int32) (T : St), ok_pl_strikeEarly_2  Kk f v1 T → tR X 0 mX5_strikeEarly 2 [some (.ref 80), some (.int v1)] [] T none (x_pl_strikeEarly_2 K f v1 T) := by
  intro f
  induction f with
  | zero => intro v1 T kk; exact kk.elim
  | succ f ih =>
    intro v1 T kk
    rw [ok_pl_strikeEarly_2] at kk
    refine r_p dX5_strikeEarly_2 rfl rfl ?_
    refine r_p dX5_strikeEarly_3 rfl rfl ?_
    refine r_get dX5_strikeEarly_4 fkX5_11 rfl rfl ?_
    refine r_al dX5_strikeEarly_7 rfl (by decide) ?_
    refine r_cge dX5_strikeEarly_8 rfl (fun c8_1 => ?_) (fun c8_1 => ?_)
    · have kk := kk.1 c8_1
      show tR _ _ _ _ [some (.ref 80), some (.int v1)] _ _ _ _
      exact r_eV (r' := K v1 T) (by rw [x_pl_strikeEarly_2]; rw [if_pos c8_1]) ((hk v1 T kk))
    · have kk := kk.2 c8_1
      refine r_p dX5_strikeEarly_11 rfl rfl ?_
      refine r_get dX5_strikeEarly_12 fkX5_11 rfl rfl ?_
      refine r_p dX5_strikeEarly_15 rfl rfl ?_
      obtain ⟨q1, kk⟩ := kk
      refine r_aa dX5_strikeEarly_16 rfl (by decide) q1 (rf81 q1) ?_
      obtain ⟨q2, kk⟩ := kk
      refine r_get dX5_strikeEarly_17 fkX5_97 q2 rfl ?_
      refine r_ile dX5_strikeEarly_20 rfl (fun c20_2 => ?_) (fun c20_2 => ?_)
      · have kk := kk.1 c20_2
        refine r_inc (y := 1) dX5_strikeEarly_33 rfl rfl rfl ?_
        refine r_go dX5_strikeEarly_36 rfl ?_
        show tR _ _ _ _ [some (.ref 80), some (.int (v1 + 1))] _ _ _ _
        exact r_eV (r' := x_pl_strikeEarly_2 K f (v1 + 1) T) (by rw [x_pl_strikeEarly_2]; rw [if_neg c8_1, if_pos c20_2]) ((ih (v1 + 1) T kk))
      · have kk := kk.2 c20_2
        refine r_p dX5_strikeEarly_23 rfl rfl ?_
        refine r_get dX5_strikeEarly_24 fkX5_11 rfl rfl ?_
        refine r_p dX5_strikeEarly_27 rfl rfl ?_
        refine r_aa dX5_strikeEarly_28 rfl (by decide) q1 (rf81 q1) ?_
        refine r_ci (x := 0) dX5_strikeEarly_29 rfl ?_
        refine r_put dX5_strikeEarly_30 fkX5_106 rfl q2 rfl (Nat.le_of_ble_eq_true rfl) rfl rfl ?_
        refine r_inc (y := 1) dX5_strikeEarly_33 rfl rfl rfl ?_
        refine r_go dX5_strikeEarly_36 rfl ?_
        show tR _ _ _ _ [some (.ref 80), some (.int (v1 + 1))] _ _ _ _
        exact r_eV (r' := x_pl_strikeEarly_2 K f (v1 + 1) (sF T (123 + 4 * (v1 : Int32).toNatClampNeg) 6 0)) (by rw [x_pl_strikeEarly_2]; rw [if_neg c8_1, if_neg c20_2]) ((ih (v1 + 1) (sF T (123 + 4 * (v1 : Int32).toNatClampNeg) 6 0) kk))
def x_pl_strikeEarly (T : St)  : St := x_pl_strikeEarly_2  (fun (w1_1 : Int32) (T201 : St) => T201) 1000 0 T
def ok_pl_strikeEarly (T : St)  : Prop := ok_pl_strikeEarly_2  (fun (w1_1 : Int32) (T201 : St) => True) 1000 0 T
theorem c_pl_strikeEarly {X : Nat × (Nat → Int32)} {T : St}  (kk : ok_pl_strikeEarly T ) : tC X 1 mX5_strikeEarly [.ref 80] T none (x_pl_strikeEarly T) := by
  unfold ok_pl_strikeEarly at kk
  refine tC_of ?_
  refine r_ci (x := 0) dX5_strikeEarly_0 rfl ?_
  refine r_p dX5_strikeEarly_1 rfl rfl ?_
  show tR _ _ _ _ [some (.ref 80), some (.int 0)] _ _ _ _
  refine r_eV (r' := x_pl_strikeEarly_2  (fun (w1_1 : Int32) (T201 : St) => T201) 1000 0 T) (by unfold x_pl_strikeEarly; rfl) ((c_pl_strikeEarly_2  (fun w1_1 T201 kk => ?_) 1000 0 T kk))
  · exact r_eV (r' := T201) rfl (r_rv dX5_strikeEarly_39 rfl rfl rfl)
