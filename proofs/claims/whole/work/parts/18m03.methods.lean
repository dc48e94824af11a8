def x_pl_strikeUnlike_45 (l1 : Nat) (l2 : Int32) (l3 : Int32) (l4 : Int32) (l5 : Int32) (K : Int32 → St → St) : Nat → Int32 → St → St
  | 0, _, T => T
  | f + 1, v6, T => if (T.2.2.1 82 (l4 : Int32).toNatClampNeg) ≤ v6 then (K v6 T) else (jn (fun (KJ1 : Int32 → St) => if l2 ≤ (T.2.2.1 (l1 + 5) (l3 : Int32).toNatClampNeg) then (if (T.2.2.1 ((123 + 4 * ((l4 * 12) + v6 : Int32).toNatClampNeg) + 1) (l5 : Int32).toNatClampNeg) < l2 then (KJ1 0) else (KJ1 1)) else (if (T.2.2.1 ((123 + 4 * ((l4 * 12) + v6 : Int32).toNatClampNeg) + 1) (l5 : Int32).toNatClampNeg) = (T.2.2.1 (l1 + 5) (l3 : Int32).toNatClampNeg) then (KJ1 1) else (KJ1 0))) (fun (j1_s0 : Int32) => if j1_s0 = 0 then (x_pl_strikeUnlike_45 l1 l2 l3 l4 l5 K f (v6 + 1) (sF T (123 + 4 * ((l4 * 12) + v6 : Int32).toNatClampNeg) 6 0)) else (x_pl_strikeUnlike_45 l1 l2 l3 l4 l5 K f (v6 + 1) T)))
def ok_pl_strikeUnlike_45 (l1 : Nat) (l2 : Int32) (l3 : Int32) (l4 : Int32) (l5 : Int32) (Kk : Int32 → St → Prop) : Nat → Int32 → St → Prop
  | 0, _, _ => False
  | f + 1, v6, T => (vp_in l4 8) ∧ (((T.2.2.1 82 (l4 : Int32).toNatClampNeg) ≤ v6 → Kk v6 T) ∧ (¬ (T.2.2.1 82 (l4 : Int32).toNatClampNeg) ≤ v6 → (vp_in ((l4 * 12) + v6) 96) ∧ (sh (123 + 4 * ((l4 * 12) + v6 : Int32).toNatClampNeg) = .inr 10) ∧ (sh ((123 + 4 * ((l4 * 12) + v6 : Int32).toNatClampNeg) + 1) = .inl (0, 3)) ∧ (vp_in l5 3) ∧ (sh l1 = .inr 7) ∧ (sh (l1 + 5) = .inl (0, 12)) ∧ (vp_in l3 12) ∧ jn (fun (OJ1 : Int32 → Prop) => ((l2 ≤ (T.2.2.1 (l1 + 5) (l3 : Int32).toNatClampNeg) → (((T.2.2.1 ((123 + 4 * ((l4 * 12) + v6 : Int32).toNatClampNeg) + 1) (l5 : Int32).toNatClampNeg) < l2 → OJ1 0) ∧ (¬ (T.2.2.1 ((123 + 4 * ((l4 * 12) + v6 : Int32).toNatClampNeg) + 1) (l5 : Int32).toNatClampNeg) < l2 → OJ1 1))) ∧ (¬ l2 ≤ (T.2.2.1 (l1 + 5) (l3 : Int32).toNatClampNeg) → (((T.2.2.1 ((123 + 4 * ((l4 * 12) + v6 : Int32).toNatClampNeg) + 1) (l5 : Int32).toNatClampNeg) = (T.2.2.1 (l1 + 5) (l3 : Int32).toNatClampNeg) → OJ1 1) ∧ (¬ (T.2.2.1 ((123 + 4 * ((l4 * 12) + v6 : Int32).toNatClampNeg) + 1) (l5 : Int32).toNatClampNeg) = (T.2.2.1 (l1 + 5) (l3 : Int32).toNatClampNeg) → OJ1 0))))) (fun (j1_s0 : Int32) => ((j1_s0 = 0 → (sh (123 + 4 * ((l4 * 12) + v6 : Int32).toNatClampNeg) = .inr 10) ∧ ok_pl_strikeUnlike_45 l1 l2 l3 l4 l5 Kk f (v6 + 1) (sF T (123 + 4 * ((l4 * 12) + v6 : Int32).toNatClampNeg) 6 0)) ∧ (¬ j1_s0 = 0 → ok_pl_strikeUnlike_45 l1 l2 l3 l4 l5 Kk f (v6 + 1) T)))))
theorem c_pl_strikeUnlike_45 {X : Nat × (Nat → Int32)} (l1 : Nat) (l2 : Int32) (l3 : Int32) (l4 : Int32) (l5 : Int32) {K : Int32 → St → St} {Kk : Int32 → St → Prop} (hk : ∀ (v6 : Int32) (T : St), Kk v6 T → tR X 0 mX5_strikeUnlike 141 [some (.ref 80), some (.ref l1), some (.int l2), some (.int l3), some (.int l4), some (.int l5), some (.int v6), none, none, none] [] T none (K v6 T)) : ∀ (f : Nat) (v6 : Int32) (T : St), ok_pl_strikeUnlike_45 l1 l2 l3 l4 l5 Kk f v6 T → tR X 0 mX5_strikeUnlike 45 [some (.ref 80), some (.ref l1), some (.int l2), some (.int l3), some (.int l4), some (.int l5), some (.int v6), none, none, none] [] T none (x_pl_strikeUnlike_45 l1 l2 l3 l4 l5 K f v6 T) := by
  intro f
  induction f with
  | zero => intro v6 T kk; exact kk.elim
  | succ f ih =>
    intro v6 T kk
    rw [ok_pl_strikeUnlike_45] at kk
    refine r_p dX5_strikeUnlike_45 rfl rfl ?_
    refine r_p dX5_strikeUnlike_47 rfl rfl ?_
    refine r_get dX5_strikeUnlike_48 fkX5_17 rfl rfl ?_
    refine r_p dX5_strikeUnlike_51 rfl rfl ?_
    obtain ⟨q10, kk⟩ := kk
    refine r_ia dX5_strikeUnlike_53 rfl q10 ?_
    refine r_cge dX5_strikeUnlike_54 rfl (fun c54_2 => ?_) (fun c54_2 => ?_)
    · have kk := kk.1 c54_2
      show tR _ _ _ _ [some (.ref 80), some (.ref l1), some (.int l2), some (.int l3), some (.int l4), some (.int l5), some (.int v6), none, none, none] _ _ _ _
      exact r_eV (r' := K v6 T) (by rw [x_pl_strikeUnlike_45]; rw [if_pos c54_2]) ((hk v6 T kk))
    · have kk := kk.2 c54_2
      refine r_p dX5_strikeUnlike_57 rfl rfl ?_
      refine r_get dX5_strikeUnlike_58 fkX5_11 rfl rfl ?_
      refine r_p dX5_strikeUnlike_61 rfl rfl ?_
      refine r_cb (x := 12) dX5_strikeUnlike_63 rfl ?_
      refine r_p dX5_strikeUnlike_65 rfl rfl ?_
      refine r_p dX5_strikeUnlike_66 rfl rfl ?_
      refine r_p dX5_strikeUnlike_68 rfl rfl ?_
      obtain ⟨q11, kk⟩ := kk
      refine r_aa dX5_strikeUnlike_69 rfl (by decide) q11 (rf81 q11) ?_
      refine r_p dX5_strikeUnlike_70 rfl rfl ?_
      refine r_p dX5_strikeUnlike_72 rfl rfl ?_
      obtain ⟨q12, kk⟩ := kk
      refine r_get dX5_strikeUnlike_74 fkX5_135 q12 rfl ?_
      refine r_p dX5_strikeUnlike_77 rfl rfl ?_
      obtain ⟨q13, kk⟩ := kk
      obtain ⟨q14, kk⟩ := kk
      refine r_ia dX5_strikeUnlike_79 q13 q14 ?_
      refine r_p dX5_strikeUnlike_80 rfl rfl ?_
      refine r_p dX5_strikeUnlike_82 rfl rfl ?_
      obtain ⟨q15, kk⟩ := kk
      refine r_get dX5_strikeUnlike_83 fkX5_138 q15 rfl ?_
      refine r_p dX5_strikeUnlike_86 rfl rfl ?_
      obtain ⟨q16, kk⟩ := kk
      obtain ⟨q17, kk⟩ := kk
      refine r_ia dX5_strikeUnlike_87 q16 q17 ?_
      refine r_p dX5_strikeUnlike_88 rfl rfl ?_
      obtain ⟨KJ1, hKJ1⟩ : ∃ q : Int32 → St, q = (fun (j1_s0 : Int32) => if j1_s0 = 0 then (x_pl_strikeUnlike_45 l1 l2 l3 l4 l5 K f (v6 + 1) (sF T (123 + 4 * ((l4 * 12) + v6 : Int32).toNatClampNeg) 6 0)) else (x_pl_strikeUnlike_45 l1 l2 l3 l4 l5 K f (v6 + 1) T)) := ⟨_, rfl⟩
      obtain ⟨OJ1, hOJ1⟩ : ∃ q : Int32 → Prop, q = (fun (j1_s0 : Int32) => ((j1_s0 = 0 → (sh (123 + 4 * ((l4 * 12) + v6 : Int32).toNatClampNeg) = .inr 10) ∧ ok_pl_strikeUnlike_45 l1 l2 l3 l4 l5 Kk f (v6 + 1) (sF T (123 + 4 * ((l4 * 12) + v6 : Int32).toNatClampNeg) 6 0)) ∧ (¬ j1_s0 = 0 → ok_pl_strikeUnlike_45 l1 l2 l3 l4 l5 Kk f (v6 + 1) T))) := ⟨_, rfl⟩
      rw [← hOJ1] at kk
      simp only [jn] at kk
      have hJ1 : ∀ (j1_s0 : Int32), OJ1 j1_s0 → tR X 0 mX5_strikeUnlike 122 [some (.ref 80), some (.ref l1), some (.int l2), some (.int l3), some (.int l4), some (.int l5), some (.int v6), some (.ref (123 + 4 * ((l4 * 12) + v6 : Int32).toNatClampNeg)), some (.int (T.2.2.1 ((123 + 4 * ((l4 * 12) + v6 : Int32).toNatClampNeg) + 1) (l5 : Int32).toNatClampNeg)), none] [.int j1_s0] T none (KJ1 j1_s0) := by
        intro j1_s0 kk
        rw [hOJ1] at kk
        try dsimp only at kk
        rw [hKJ1]
        refine r_p dX5_strikeUnlike_122 rfl rfl ?_
        refine r_p dX5_strikeUnlike_124 rfl rfl ?_
        refine r_ine dX5_strikeUnlike_126 rfl (fun c126_6 => ?_) (fun c126_6 => ?_)
        · have kk := kk.2 c126_6
          refine r_inc (y := 1) dX5_strikeUnlike_135 rfl rfl rfl ?_
          refine r_go dX5_strikeUnlike_138 rfl ?_
          show tR _ _ _ _ [some (.ref 80), some (.ref l1), some (.int l2), some (.int l3), some (.int l4), some (.int l5), some (.int (v6 + 1)), some (.ref (123 + 4 * ((l4 * 12) + v6 : Int32).toNatClampNeg)), some (.int (T.2.2.1 ((123 + 4 * ((l4 * 12) + v6 : Int32).toNatClampNeg) + 1) (l5 : Int32).toNatClampNeg)), some (.int j1_s0)] _ _ _ _
          exact r_eV (r' := x_pl_strikeUnlike_45 l1 l2 l3 l4 l5 K f (v6 + 1) T) (by first | rw [if_neg c126_6] | (dsimp only; rw [if_neg c126_6])) (r_le (le_s (le_s (le_s (le_s (le_s (le_s (le_s (le_n (le_n (le_n (le_0))))))))))) (ih (v6 + 1) T kk))
        · have kk := kk.1 c126_6
          refine r_p dX5_strikeUnlike_129 rfl rfl ?_
          refine r_ci (x := 0) dX5_strikeUnlike_131 rfl ?_
          obtain ⟨q18, kk⟩ := kk
          refine r_put dX5_strikeUnlike_132 fkX5_106 rfl q18 rfl (Nat.le_of_ble_eq_true rfl) rfl rfl ?_
          refine r_inc (y := 1) dX5_strikeUnlike_135 rfl rfl rfl ?_
          refine r_go dX5_strikeUnlike_138 rfl ?_
          show tR _ _ _ _ [some (.ref 80), some (.ref l1), some (.int l2), some (.int l3), some (.int l4), some (.int l5), some (.int (v6 + 1)), some (.ref (123 + 4 * ((l4 * 12) + v6 : Int32).toNatClampNeg)), some (.int (T.2.2.1 ((123 + 4 * ((l4 * 12) + v6 : Int32).toNatClampNeg) + 1) (l5 : Int32).toNatClampNeg)), some (.int j1_s0)] _ _ _ _
          exact r_eV (r' := x_pl_strikeUnlike_45 l1 l2 l3 l4 l5 K f (v6 + 1) (sF T (123 + 4 * ((l4 * 12) + v6 : Int32).toNatClampNeg) 6 0)) (by first | rw [if_pos c126_6] | (dsimp only; rw [if_pos c126_6])) (r_le (le_s (le_s (le_s (le_s (le_s (le_s (le_s (le_n (le_n (le_n (le_0))))))))))) (ih (v6 + 1) (sF T (123 + 4 * ((l4 * 12) + v6 : Int32).toNatClampNeg) 6 0) kk))
      refine r_eV (r' := jn (fun (KJ1 : Int32 → St) => if l2 ≤ (T.2.2.1 (l1 + 5) (l3 : Int32).toNatClampNeg) then (if (T.2.2.1 ((123 + 4 * ((l4 * 12) + v6 : Int32).toNatClampNeg) + 1) (l5 : Int32).toNatClampNeg) < l2 then (KJ1 0) else (KJ1 1)) else (if (T.2.2.1 ((123 + 4 * ((l4 * 12) + v6 : Int32).toNatClampNeg) + 1) (l5 : Int32).toNatClampNeg) = (T.2.2.1 (l1 + 5) (l3 : Int32).toNatClampNeg) then (KJ1 1) else (KJ1 0))) KJ1) (by rw [hKJ1]; rw [x_pl_strikeUnlike_45]; rw [if_neg c54_2]) ?_
      refine r_cge dX5_strikeUnlike_89 rfl (fun c89_7 => ?_) (fun c89_7 => ?_)
      · have kk := kk.1 c89_7
        refine r_p dX5_strikeUnlike_111 rfl rfl ?_
        refine r_p dX5_strikeUnlike_113 rfl rfl ?_
        refine r_clt dX5_strikeUnlike_114 rfl (fun c114_8 => ?_) (fun c114_8 => ?_)
        · have kk := kk.1 c114_8
          refine r_ci (x := 0) dX5_strikeUnlike_121 rfl ?_
          show tR _ _ _ _ [some (.ref 80), some (.ref l1), some (.int l2), some (.int l3), some (.int l4), some (.int l5), some (.int v6), some (.ref (123 + 4 * ((l4 * 12) + v6 : Int32).toNatClampNeg)), some (.int (T.2.2.1 ((123 + 4 * ((l4 * 12) + v6 : Int32).toNatClampNeg) + 1) (l5 : Int32).toNatClampNeg)), none] [.int 0] _ _ _
          exact r_eV (r' := KJ1 0) (by simp only [jn]; rw [if_pos c89_7, if_pos c114_8]) ((hJ1 0 kk))
        · have kk := kk.2 c114_8
          refine r_ci (x := 1) dX5_strikeUnlike_117 rfl ?_
          refine r_go dX5_strikeUnlike_118 rfl ?_
          show tR _ _ _ _ [some (.ref 80), some (.ref l1), some (.int l2), some (.int l3), some (.int l4), some (.int l5), some (.int v6), some (.ref (123 + 4 * ((l4 * 12) + v6 : Int32).toNatClampNeg)), some (.int (T.2.2.1 ((123 + 4 * ((l4 * 12) + v6 : Int32).toNatClampNeg) + 1) (l5 : Int32).toNatClampNeg)), none] [.int 1] _ _ _
          exact r_eV (r' := KJ1 1) (by simp only [jn]; rw [if_pos c89_7, if_neg c114_8]) ((hJ1 1 kk))
      · have kk := kk.2 c89_7
        refine r_p dX5_strikeUnlike_92 rfl rfl ?_
        refine r_p dX5_strikeUnlike_94 rfl rfl ?_
        refine r_get dX5_strikeUnlike_95 fkX5_138 q15 rfl ?_
        refine r_p dX5_strikeUnlike_98 rfl rfl ?_
        refine r_ia dX5_strikeUnlike_99 q16 q17 ?_
        refine r_cne dX5_strikeUnlike_100 rfl (fun c100_9 => ?_) (fun c100_9 => ?_)
        · have kk := kk.2 c100_9
          refine r_ci (x := 0) dX5_strikeUnlike_107 rfl ?_
          refine r_go dX5_strikeUnlike_108 rfl ?_
          show tR _ _ _ _ [some (.ref 80), some (.ref l1), some (.int l2), some (.int l3), some (.int l4), some (.int l5), some (.int v6), some (.ref (123 + 4 * ((l4 * 12) + v6 : Int32).toNatClampNeg)), some (.int (T.2.2.1 ((123 + 4 * ((l4 * 12) + v6 : Int32).toNatClampNeg) + 1) (l5 : Int32).toNatClampNeg)), none] [.int 0] _ _ _
          exact r_eV (r' := KJ1 0) (by simp only [jn]; rw [if_neg c89_7, if_neg c100_9]) ((hJ1 0 kk))
        · have kk := kk.1 c100_9
          refine r_ci (x := 1) dX5_strikeUnlike_103 rfl ?_
          refine r_go dX5_strikeUnlike_104 rfl ?_
          show tR _ _ _ _ [some (.ref 80), some (.ref l1), some (.int l2), some (.int l3), some (.int l4), some (.int l5), some (.int v6), some (.ref (123 + 4 * ((l4 * 12) + v6 : Int32).toNatClampNeg)), some (.int (T.2.2.1 ((123 + 4 * ((l4 * 12) + v6 : Int32).toNatClampNeg) + 1) (l5 : Int32).toNatClampNeg)), none] [.int 1] _ _ _
          exact r_eV (r' := KJ1 1) (by simp only [jn]; rw [if_neg c89_7, if_pos c100_9]) ((hJ1 1 kk))
def x_pl_strikeUnlike_2 (l1 : Nat) (l2 : Int32) (K : Int32 → St → St) : Nat → Int32 → St → St
  | 0, _, T => T
  | f + 1, v3, T => if (T.1 l1 1) ≤ v3 then (K v3 T) else (x_pl_strikeUnlike_45 l1 l2 v3 (T.2.2.1 (l1 + 1) (T.2.2.1 (l1 + 4) (v3 : Int32).toNatClampNeg : Int32).toNatClampNeg) ((T.2.2.1 (l1 + 3) (v3 : Int32).toNatClampNeg) - (T.2.2.1 ((T.2.1 2) + 8) (T.2.2.1 (l1 + 1) (T.2.2.1 (l1 + 4) (v3 : Int32).toNatClampNeg : Int32).toNatClampNeg : Int32).toNatClampNeg)) (fun (w1_6 : Int32) (T201 : St) => x_pl_strikeUnlike_2 l1 l2 K f (v3 + 1) T201) 1000 0 T)
def ok_pl_strikeUnlike_2 (l1 : Nat) (l2 : Int32) (Kk : Int32 → St → Prop) : Nat → Int32 → St → Prop
  | 0, _, _ => False
  | f + 1, v3, T => (sh l1 = .inr 7) ∧ (((T.1 l1 1) ≤ v3 → Kk v3 T) ∧ (¬ (T.1 l1 1) ≤ v3 → (sh (l1 + 4) = .inl (0, 12)) ∧ (vp_in v3 12) ∧ (sh (l1 + 1) = .inl (0, 4)) ∧ (vp_in (T.2.2.1 (l1 + 4) (v3 : Int32).toNatClampNeg) 4) ∧ (sh (l1 + 3) = .inl (0, 12)) ∧ (sh (T.2.1 2) = .inr 1) ∧ (sh ((T.2.1 2) + 8) = .inl (0, 8)) ∧ (vp_in (T.2.2.1 (l1 + 1) (T.2.2.1 (l1 + 4) (v3 : Int32).toNatClampNeg : Int32).toNatClampNeg) 8) ∧ ok_pl_strikeUnlike_45 l1 l2 v3 (T.2.2.1 (l1 + 1) (T.2.2.1 (l1 + 4) (v3 : Int32).toNatClampNeg : Int32).toNatClampNeg) ((T.2.2.1 (l1 + 3) (v3 : Int32).toNatClampNeg) - (T.2.2.1 ((T.2.1 2) + 8) (T.2.2.1 (l1 + 1) (T.2.2.1 (l1 + 4) (v3 : Int32).toNatClampNeg : Int32).toNatClampNeg : Int32).toNatClampNeg)) (fun (w1_6 : Int32) (T201 : St) => ok_pl_strikeUnlike_2 l1 l2 Kk f (v3 + 1) T201) 1000 0 T))
theorem c_pl_strikeUnlike_2 {X : Nat × (Nat → Int32)} (l1 : Nat) (l2 : Int32) {K : Int32 → St → St} {Kk : Int32 → St → Prop} (hk : ∀ (v3 : Int32) (T : St), Kk v3 T → tR X 0 mX5_strikeUnlike 147 [some (.ref 80), some (.ref l1), some (.int l2), some (.int v3), none, none, none, none, none, none] [] T none (K v3 T)) : ∀ (f : Nat) (v3 : Int32) (T : St), ok_pl_strikeUnlike_2 l1 l2 Kk f v3 T → tR X 0 mX5_strikeUnlike 2 [some (.ref 80), some (.ref l1), some (.int l2), some (.int v3), none, none, none, none, none, none] [] T none (x_pl_strikeUnlike_2 l1 l2 K f v3 T) := by
  intro f
  induction f with
  | zero => intro v3 T kk; exact kk.elim
  | succ f ih =>
    intro v3 T kk
    rw [ok_pl_strikeUnlike_2] at kk
    refine r_p dX5_strikeUnlike_2 rfl rfl ?_
    refine r_p dX5_strikeUnlike_3 rfl rfl ?_
    obtain ⟨q1, kk⟩ := kk
    refine r_get dX5_strikeUnlike_4 fkX5_118 q1 rfl ?_
    refine r_cge dX5_strikeUnlike_7 rfl (fun c7_1 => ?_) (fun c7_1 => ?_)
    · have kk := kk.1 c7_1
      show tR _ _ _ _ [some (.ref 80), some (.ref l1), some (.int l2), some (.int v3), none, none, none, none, none, none] _ _ _ _
      exact r_eV (r' := K v3 T) (by rw [x_pl_strikeUnlike_2]; rw [if_pos c7_1]) ((hk v3 T kk))
    · have kk := kk.2 c7_1
      refine r_p dX5_strikeUnlike_10 rfl rfl ?_
      refine r_get dX5_strikeUnlike_11 fkX5_123 q1 rfl ?_
      refine r_p dX5_strikeUnlike_14 rfl rfl ?_
      refine r_get dX5_strikeUnlike_15 fkX5_126 q1 rfl ?_
      refine r_p dX5_strikeUnlike_18 rfl rfl ?_
      obtain ⟨q2, kk⟩ := kk
      obtain ⟨q3, kk⟩ := kk
      refine r_ia dX5_strikeUnlike_19 q2 q3 ?_
      obtain ⟨q4, kk⟩ := kk
      obtain ⟨q5, kk⟩ := kk
      refine r_ia dX5_strikeUnlike_20 q4 q5 ?_
      refine r_p dX5_strikeUnlike_21 rfl rfl ?_
      refine r_p dX5_strikeUnlike_23 rfl rfl ?_
      refine r_get dX5_strikeUnlike_24 fkX5_129 q1 rfl ?_
      refine r_p dX5_strikeUnlike_27 rfl rfl ?_
      obtain ⟨q6, kk⟩ := kk
      refine r_ia dX5_strikeUnlike_28 q6 q3 ?_
      refine r_p dX5_strikeUnlike_29 rfl rfl ?_
      refine r_get dX5_strikeUnlike_30 fkX5_62 rfl rfl ?_
      obtain ⟨q7, kk⟩ := kk
      refine r_get dX5_strikeUnlike_33 fkX5_132 q7 rfl ?_
      refine r_p dX5_strikeUnlike_36 rfl rfl ?_
      obtain ⟨q8, kk⟩ := kk
      obtain ⟨q9, kk⟩ := kk
      refine r_ia dX5_strikeUnlike_38 q8 q9 ?_
      refine r_p dX5_strikeUnlike_39 rfl rfl ?_
      refine r_p dX5_strikeUnlike_40 rfl rfl ?_
      refine r_ci (x := 0) dX5_strikeUnlike_42 rfl ?_
      refine r_p dX5_strikeUnlike_43 rfl rfl ?_
      show tR _ _ _ _ [some (.ref 80), some (.ref l1), some (.int l2), some (.int v3), some (.int (T.2.2.1 (l1 + 1) (T.2.2.1 (l1 + 4) (v3 : Int32).toNatClampNeg : Int32).toNatClampNeg)), some (.int ((T.2.2.1 (l1 + 3) (v3 : Int32).toNatClampNeg) - (T.2.2.1 ((T.2.1 2) + 8) (T.2.2.1 (l1 + 1) (T.2.2.1 (l1 + 4) (v3 : Int32).toNatClampNeg : Int32).toNatClampNeg : Int32).toNatClampNeg))), some (.int 0), none, none, none] _ _ _ _
      refine r_eV (r' := x_pl_strikeUnlike_45 l1 l2 v3 (T.2.2.1 (l1 + 1) (T.2.2.1 (l1 + 4) (v3 : Int32).toNatClampNeg : Int32).toNatClampNeg) ((T.2.2.1 (l1 + 3) (v3 : Int32).toNatClampNeg) - (T.2.2.1 ((T.2.1 2) + 8) (T.2.2.1 (l1 + 1) (T.2.2.1 (l1 + 4) (v3 : Int32).toNatClampNeg : Int32).toNatClampNeg : Int32).toNatClampNeg)) (fun (w1_6 : Int32) (T201 : St) => x_pl_strikeUnlike_2 l1 l2 K f (v3 + 1) T201) 1000 0 T) (by rw [x_pl_strikeUnlike_2]; rw [if_neg c7_1]) ((c_pl_strikeUnlike_45 l1 l2 v3 (T.2.2.1 (l1 + 1) (T.2.2.1 (l1 + 4) (v3 : Int32).toNatClampNeg : Int32).toNatClampNeg) ((T.2.2.1 (l1 + 3) (v3 : Int32).toNatClampNeg) - (T.2.2.1 ((T.2.1 2) + 8) (T.2.2.1 (l1 + 1) (T.2.2.1 (l1 + 4) (v3 : Int32).toNatClampNeg : Int32).toNatClampNeg : Int32).toNatClampNeg)) (fun w1_6 T201 kk => ?_) 1000 0 T kk))
      · try dsimp only at kk
        refine r_inc (y := 1) dX5_strikeUnlike_141 rfl rfl rfl ?_
        refine r_go dX5_strikeUnlike_144 rfl ?_
        show tR _ _ _ _ [some (.ref 80), some (.ref l1), some (.int l2), some (.int (v3 + 1)), some (.int (T.2.2.1 (l1 + 1) (T.2.2.1 (l1 + 4) (v3 : Int32).toNatClampNeg : Int32).toNatClampNeg)), some (.int ((T.2.2.1 (l1 + 3) (v3 : Int32).toNatClampNeg) - (T.2.2.1 ((T.2.1 2) + 8) (T.2.2.1 (l1 + 1) (T.2.2.1 (l1 + 4) (v3 : Int32).toNatClampNeg : Int32).toNatClampNeg : Int32).toNatClampNeg))), some (.int w1_6), none, none, none] _ _ _ _
        exact r_eV (r' := x_pl_strikeUnlike_2 l1 l2 K f (v3 + 1) T201) rfl (r_le (le_s (le_s (le_s (le_s (le_n (le_n (le_n (le_s (le_s (le_s (le_0))))))))))) (ih (v3 + 1) T201 kk))
def x_pl_strikeUnlike (T : St) (p0 : Nat) (p1 : Int32) : St := x_pl_strikeUnlike_2 p0 p1 (fun (w2_3 : Int32) (T202 : St) => T202) 1000 0 T
def ok_pl_strikeUnlike (T : St) (p0 : Nat) (p1 : Int32) : Prop := ok_pl_strikeUnlike_2 p0 p1 (fun (w2_3 : Int32) (T202 : St) => True) 1000 0 T
theorem c_pl_strikeUnlike {X : Nat × (Nat → Int32)} {T : St} (p0 : Nat) (p1 : Int32) (kk : ok_pl_strikeUnlike T p0 p1) : tC X 1 mX5_strikeUnlike [.ref 80, .ref p0, .int p1] T none (x_pl_strikeUnlike T p0 p1) := by
  unfold ok_pl_strikeUnlike at kk
  refine tC_of ?_
  refine r_ci (x := 0) dX5_strikeUnlike_0 rfl ?_
  refine r_p dX5_strikeUnlike_1 rfl rfl ?_
  show tR _ _ _ _ [some (.ref 80), some (.ref p0), some (.int p1), some (.int 0), none, none, none, none, none, none] _ _ _ _
  refine r_eV (r' := x_pl_strikeUnlike_2 p0 p1 (fun (w2_3 : Int32) (T202 : St) => T202) 1000 0 T) (by unfold x_pl_strikeUnlike; rfl) ((c_pl_strikeUnlike_2 p0 p1 (fun w2_3 T202 kk => ?_) 1000 0 T kk))
  · exact r_eV (r' := T202) rfl (r_rv dX5_strikeUnlike_147 rfl rfl rfl)
def x_pl_settleDish_84 (l1 : Int32) (l2 : Nat) (l3 : Int32) (l4 : Int32) (K : Int32 → St → St) : Nat → Int32 → St → St
  | 0, _, T => T
  | f + 1, v5, T => if 5 ≤ v5 then (K v5 T) else (fun (T3 : St) => x_pl_settleDish_84 l1 l2 l3 l4 K f (v5 + 1) T3) (sL T l2 (v5 : Int32).toNatClampNeg ((T.2.2.2 l2 (v5 : Int32).toNatClampNeg) &&& (T.2.2.2 ((123 + 4 * (l4 : Int32).toNatClampNeg) + 3) (v5 : Int32).toNatClampNeg)))
def ok_pl_settleDish_84 (l1 : Int32) (l2 : Nat) (l3 : Int32) (l4 : Int32) (Kk : Int32 → St → Prop) : Nat → Int32 → St → Prop
  | 0, _, _ => False
  | f + 1, v5, T => ((5 ≤ v5 → Kk v5 T) ∧ (¬ 5 ≤ v5 → (sh l2 = .inl (1, 5)) ∧ (vp_in v5 5) ∧ (vp_in l4 96) ∧ (sh (123 + 4 * (l4 : Int32).toNatClampNeg) = .inr 10) ∧ (sh ((123 + 4 * (l4 : Int32).toNatClampNeg) + 3) = .inl (1, 5)) ∧ (fun (T3 : St) => ok_pl_settleDish_84 l1 l2 l3 l4 Kk f (v5 + 1) T3) (sL T l2 (v5 : Int32).toNatClampNeg ((T.2.2.2 l2 (v5 : Int32).toNatClampNeg) &&& (T.2.2.2 ((123 + 4 * (l4 : Int32).toNatClampNeg) + 3) (v5 : Int32).toNatClampNeg)))))
theorem c_pl_settleDish_84 {X : Nat × (Nat → Int32)} (l1 : Int32) (l2 : Nat) (l3 : Int32) (l4 : Int32) {K : Int32 → St → St} {Kk : Int32 → St → Prop} (hk : ∀ (v5 : Int32) (T : St), Kk v5 T → tR X 1 mX5_settleDish 116 [some (.ref 80), some (.int l1), some (.ref l2), some (.int l3), some (.int l4), some (.int v5)] [] T none (K v5 T)) : ∀ (f : Nat) (v5 : Int32) (T : St), ok_pl_settleDish_84 l1 l2 l3 l4 Kk f v5 T → tR X 1 mX5_settleDish 84 [some (.ref 80), some (.int l1), some (.ref l2), some (.int l3), some (.int l4), some (.int v5)] [] T none (x_pl_settleDish_84 l1 l2 l3 l4 K f v5 T) := by
  intro f
  induction f with
  | zero => intro v5 T kk; exact kk.elim
  | succ f ih =>
    intro v5 T kk
    rw [ok_pl_settleDish_84] at kk
    refine r_p dX5_settleDish_84 rfl rfl ?_
    refine r_ci (x := 5) dX5_settleDish_86 rfl ?_
    refine r_cge dX5_settleDish_87 rfl (fun c87_3 => ?_) (fun c87_3 => ?_)
    · have kk := kk.1 c87_3
      show tR _ _ _ _ [some (.ref 80), some (.int l1), some (.ref l2), some (.int l3), some (.int l4), some (.int v5)] _ _ _ _
      exact r_eV (r' := K v5 T) (by rw [x_pl_settleDish_84]; rw [if_pos c87_3]) ((hk v5 T kk))
    · have kk := kk.2 c87_3
      refine r_p dX5_settleDish_90 rfl rfl ?_
      refine r_p dX5_settleDish_91 rfl rfl ?_
      refine r_p dX5_settleDish_93 rfl rfl ?_
      obtain ⟨q6, kk⟩ := kk
      obtain ⟨q7, kk⟩ := kk
      refine r_la dX5_settleDish_94 q6 q7 ?_
      refine r_p dX5_settleDish_95 rfl rfl ?_
      refine r_get dX5_settleDish_96 fkX5_11 rfl rfl ?_
      refine r_p dX5_settleDish_99 rfl rfl ?_
      obtain ⟨q8, kk⟩ := kk
      refine r_aa dX5_settleDish_101 rfl (by decide) q8 (rf81 q8) ?_
      obtain ⟨q9, kk⟩ := kk
      refine r_get dX5_settleDish_102 fkX5_110 q9 rfl ?_
      refine r_p dX5_settleDish_105 rfl rfl ?_
      obtain ⟨q10, kk⟩ := kk
      refine r_la dX5_settleDish_107 q10 q7 ?_
      refine r_p dX5_settleDish_108 rfl rfl ?_
      refine r_las dX5_settleDish_109 q6 q7 ?_
      refine r_eV (r' := (fun (T3 : St) => x_pl_settleDish_84 l1 l2 l3 l4 K f (v5 + 1) T3) (sL T l2 (v5 : Int32).toNatClampNeg ((T.2.2.2 l2 (v5 : Int32).toNatClampNeg) &&& (T.2.2.2 ((123 + 4 * (l4 : Int32).toNatClampNeg) + 3) (v5 : Int32).toNatClampNeg)))) (by rw [x_pl_settleDish_84]; rw [if_neg c87_3]) ?_
      generalize sL T l2 (v5 : Int32).toNatClampNeg ((T.2.2.2 l2 (v5 : Int32).toNatClampNeg) &&& (T.2.2.2 ((123 + 4 * (l4 : Int32).toNatClampNeg) + 3) (v5 : Int32).toNatClampNeg)) = T3 at kk ⊢
      try dsimp only at kk
      refine r_inc (y := 1) dX5_settleDish_110 rfl rfl rfl ?_
      refine r_go dX5_settleDish_113 rfl ?_
      show tR _ _ _ _ [some (.ref 80), some (.int l1), some (.ref l2), some (.int l3), some (.int l4), some (.int (v5 + 1))] _ _ _ _
      exact r_eV (r' := x_pl_settleDish_84 l1 l2 l3 l4 K f (v5 + 1) T3) rfl ((ih (v5 + 1) T3 kk))
def x_pl_settleDish_30 (l1 : Int32) (l2 : Nat) (l3 : Int32) (K : Int32 → St → St) : Nat → Int32 → St → St
  | 0, _, T => T
  | f + 1, v4, T => if (l3 + (T.2.2.1 82 (l1 : Int32).toNatClampNeg)) ≤ v4 then (K v4 T) else (if (T.1 (123 + 4 * (v4 : Int32).toNatClampNeg) 6) = 0 then (x_pl_settleDish_30 l1 l2 l3 K f (v4 + 1) T) else (fun (T2 : St) => x_pl_settleDish_84 l1 l2 l3 v4 (fun (w1_5 : Int32) (T201 : St) => x_pl_settleDish_30 l1 l2 l3 K f (v4 + 1) T201) 1000 0 T2) (sA T 83 (l1 : Int32).toNatClampNeg (if T.1 (123 + 4 * (v4 : Int32).toNatClampNeg) 5 < T.2.2.1 83 (l1 : Int32).toNatClampNeg then T.1 (123 + 4 * (v4 : Int32).toNatClampNeg) 5 else T.2.2.1 83 (l1 : Int32).toNatClampNeg : Int32)))
def ok_pl_settleDish_30 (l1 : Int32) (l2 : Nat) (l3 : Int32) (Kk : Int32 → St → Prop) : Nat → Int32 → St → Prop
  | 0, _, _ => False
  | f + 1, v4, T => (vp_in l1 8) ∧ (((l3 + (T.2.2.1 82 (l1 : Int32).toNatClampNeg)) ≤ v4 → Kk v4 T) ∧ (¬ (l3 + (T.2.2.1 82 (l1 : Int32).toNatClampNeg)) ≤ v4 → (vp_in v4 96) ∧ (sh (123 + 4 * (v4 : Int32).toNatClampNeg) = .inr 10) ∧ (((T.1 (123 + 4 * (v4 : Int32).toNatClampNeg) 6) = 0 → ok_pl_settleDish_30 l1 l2 l3 Kk f (v4 + 1) T) ∧ (¬ (T.1 (123 + 4 * (v4 : Int32).toNatClampNeg) 6) = 0 → (fun (T2 : St) => ok_pl_settleDish_84 l1 l2 l3 v4 (fun (w1_5 : Int32) (T201 : St) => ok_pl_settleDish_30 l1 l2 l3 Kk f (v4 + 1) T201) 1000 0 T2) (sA T 83 (l1 : Int32).toNatClampNeg (if T.1 (123 + 4 * (v4 : Int32).toNatClampNeg) 5 < T.2.2.1 83 (l1 : Int32).toNatClampNeg then T.1 (123 + 4 * (v4 : Int32).toNatClampNeg) 5 else T.2.2.1 83 (l1 : Int32).toNatClampNeg : Int32))))))
theorem c_pl_settleDish_30 {X : Nat × (Nat → Int32)} (l1 : Int32) (l2 : Nat) (l3 : Int32) {K : Int32 → St → St} {Kk : Int32 → St → Prop} (hk : ∀ (v4 : Int32) (T : St), Kk v4 T → tR X 1 mX5_settleDish 122 [some (.ref 80), some (.int l1), some (.ref l2), some (.int l3), some (.int v4), none] [] T none (K v4 T)) : ∀ (f : Nat) (v4 : Int32) (T : St), ok_pl_settleDish_30 l1 l2 l3 Kk f v4 T → tR X 1 mX5_settleDish 30 [some (.ref 80), some (.int l1), some (.ref l2), some (.int l3), some (.int v4), none] [] T none (x_pl_settleDish_30 l1 l2 l3 K f v4 T) := by
  intro f
  induction f with
  | zero => intro v4 T kk; exact kk.elim
  | succ f ih =>
    intro v4 T kk
    rw [ok_pl_settleDish_30] at kk
    refine r_p dX5_settleDish_30 rfl rfl ?_
    refine r_p dX5_settleDish_32 rfl rfl ?_
    refine r_p dX5_settleDish_33 rfl rfl ?_
    refine r_get dX5_settleDish_34 fkX5_17 rfl rfl ?_
    refine r_p dX5_settleDish_37 rfl rfl ?_
    obtain ⟨q3, kk⟩ := kk
    refine r_ia dX5_settleDish_38 rfl q3 ?_
    refine r_p dX5_settleDish_39 rfl rfl ?_
    refine r_cge dX5_settleDish_40 rfl (fun c40_1 => ?_) (fun c40_1 => ?_)
    · have kk := kk.1 c40_1
      show tR _ _ _ _ [some (.ref 80), some (.int l1), some (.ref l2), some (.int l3), some (.int v4), none] _ _ _ _
      exact r_eV (r' := K v4 T) (by rw [x_pl_settleDish_30]; rw [if_pos c40_1]) ((hk v4 T kk))
    · have kk := kk.2 c40_1
      refine r_p dX5_settleDish_43 rfl rfl ?_
      refine r_get dX5_settleDish_44 fkX5_11 rfl rfl ?_
      refine r_p dX5_settleDish_47 rfl rfl ?_
      obtain ⟨q4, kk⟩ := kk
      refine r_aa dX5_settleDish_49 rfl (by decide) q4 (rf81 q4) ?_
      obtain ⟨q5, kk⟩ := kk
      refine r_get dX5_settleDish_50 fkX5_106 q5 rfl ?_
      refine r_ieq dX5_settleDish_53 rfl (fun c53_2 => ?_) (fun c53_2 => ?_)
      · have kk := kk.1 c53_2
        refine r_inc (y := 1) dX5_settleDish_116 rfl rfl rfl ?_
        refine r_go dX5_settleDish_119 rfl ?_
        show tR _ _ _ _ [some (.ref 80), some (.int l1), some (.ref l2), some (.int l3), some (.int (v4 + 1)), none] _ _ _ _
        exact r_eV (r' := x_pl_settleDish_30 l1 l2 l3 K f (v4 + 1) T) (by rw [x_pl_settleDish_30]; rw [if_neg c40_1, if_pos c53_2]) ((ih (v4 + 1) T kk))
      · have kk := kk.2 c53_2
        refine r_p dX5_settleDish_56 rfl rfl ?_
        refine r_get dX5_settleDish_57 fkX5_21 rfl rfl ?_
        refine r_p dX5_settleDish_60 rfl rfl ?_
        refine r_p dX5_settleDish_61 rfl rfl ?_
        refine r_get dX5_settleDish_62 fkX5_21 rfl rfl ?_
        refine r_p dX5_settleDish_65 rfl rfl ?_
        refine r_ia dX5_settleDish_66 rfl q3 ?_
        refine r_p dX5_settleDish_67 rfl rfl ?_
        refine r_get dX5_settleDish_68 fkX5_11 rfl rfl ?_
        refine r_p dX5_settleDish_71 rfl rfl ?_
        refine r_aa dX5_settleDish_73 rfl (by decide) q4 (rf81 q4) ?_
        refine r_get dX5_settleDish_74 fkX5_100 q5 rfl ?_
        refine r_min dX5_settleDish_77 cmnX5_152 (Nat.le_of_ble_eq_true rfl) ?_
        refine r_ias dX5_settleDish_80 rfl q3 ?_
        refine r_eV (r' := (fun (T2 : St) => x_pl_settleDish_84 l1 l2 l3 v4 (fun (w1_5 : Int32) (T201 : St) => x_pl_settleDish_30 l1 l2 l3 K f (v4 + 1) T201) 1000 0 T2) (sA T 83 (l1 : Int32).toNatClampNeg (if T.1 (123 + 4 * (v4 : Int32).toNatClampNeg) 5 < T.2.2.1 83 (l1 : Int32).toNatClampNeg then T.1 (123 + 4 * (v4 : Int32).toNatClampNeg) 5 else T.2.2.1 83 (l1 : Int32).toNatClampNeg : Int32))) (by rw [x_pl_settleDish_30]; rw [if_neg c40_1, if_neg c53_2]) ?_
        generalize sA T 83 (l1 : Int32).toNatClampNeg (if T.1 (123 + 4 * (v4 : Int32).toNatClampNeg) 5 < T.2.2.1 83 (l1 : Int32).toNatClampNeg then T.1 (123 + 4 * (v4 : Int32).toNatClampNeg) 5 else T.2.2.1 83 (l1 : Int32).toNatClampNeg : Int32) = T2 at kk ⊢
        try dsimp only at kk
        refine r_ci (x := 0) dX5_settleDish_81 rfl ?_
        refine r_p dX5_settleDish_82 rfl rfl ?_
        show tR _ _ _ _ [some (.ref 80), some (.int l1), some (.ref l2), some (.int l3), some (.int v4), some (.int 0)] _ _ _ _
        refine r_eV (r' := x_pl_settleDish_84 l1 l2 l3 v4 (fun (w1_5 : Int32) (T201 : St) => x_pl_settleDish_30 l1 l2 l3 K f (v4 + 1) T201) 1000 0 T2) rfl ((c_pl_settleDish_84 l1 l2 l3 v4 (fun w1_5 T201 kk => ?_) 1000 0 T2 kk))
        · try dsimp only at kk
          refine r_inc (y := 1) dX5_settleDish_116 rfl rfl rfl ?_
          refine r_go dX5_settleDish_119 rfl ?_
          show tR _ _ _ _ [some (.ref 80), some (.int l1), some (.ref l2), some (.int l3), some (.int (v4 + 1)), some (.int w1_5)] _ _ _ _
          exact r_eV (r' := x_pl_settleDish_30 l1 l2 l3 K f (v4 + 1) T201) rfl (r_le (le_s (le_s (le_s (le_s (le_s (le_n (le_0))))))) (ih (v4 + 1) T201 kk))
def x_pl_settleDish_154 (l1 : Int32) (l2 : Nat) (l3 : Int32) (l4 : Int32) (K : Int32 → St → St) : Nat → Int32 → St → St
  | 0, _, T => T
  | f + 1, v5, T => if 5 ≤ v5 then (K v5 T) else (fun (T4 : St) => x_pl_settleDish_154 l1 l2 l3 l4 K f (v5 + 1) T4) (sL T ((123 + 4 * (l4 : Int32).toNatClampNeg) + 3) (v5 : Int32).toNatClampNeg ((T.2.2.2 ((123 + 4 * (l4 : Int32).toNatClampNeg) + 3) (v5 : Int32).toNatClampNeg) &&& ((T.2.2.2 l2 (v5 : Int32).toNatClampNeg) ^^^ (-1))))
def ok_pl_settleDish_154 (l1 : Int32) (l2 : Nat) (l3 : Int32) (l4 : Int32) (Kk : Int32 → St → Prop) : Nat → Int32 → St → Prop
  | 0, _, _ => False
  | f + 1, v5, T => ((5 ≤ v5 → Kk v5 T) ∧ (¬ 5 ≤ v5 → (vp_in l4 96) ∧ (sh (123 + 4 * (l4 : Int32).toNatClampNeg) = .inr 10) ∧ (sh ((123 + 4 * (l4 : Int32).toNatClampNeg) + 3) = .inl (1, 5)) ∧ (vp_in v5 5) ∧ (sh l2 = .inl (1, 5)) ∧ (fun (T4 : St) => ok_pl_settleDish_154 l1 l2 l3 l4 Kk f (v5 + 1) T4) (sL T ((123 + 4 * (l4 : Int32).toNatClampNeg) + 3) (v5 : Int32).toNatClampNeg ((T.2.2.2 ((123 + 4 * (l4 : Int32).toNatClampNeg) + 3) (v5 : Int32).toNatClampNeg) &&& ((T.2.2.2 l2 (v5 : Int32).toNatClampNeg) ^^^ (-1))))))
theorem c_pl_settleDish_154 {X : Nat × (Nat → Int32)} (l1 : Int32) (l2 : Nat) (l3 : Int32) (l4 : Int32) {K : Int32 → St → St} {Kk : Int32 → St → Prop} (hk : ∀ (v5 : Int32) (T : St), Kk v5 T → tR X 1 mX5_settleDish 190 [some (.ref 80), some (.int l1), some (.ref l2), some (.int l3), some (.int l4), some (.int v5)] [] T none (K v5 T)) : ∀ (f : Nat) (v5 : Int32) (T : St), ok_pl_settleDish_154 l1 l2 l3 l4 Kk f v5 T → tR X 1 mX5_settleDish 154 [some (.ref 80), some (.int l1), some (.ref l2), some (.int l3), some (.int l4), some (.int v5)] [] T none (x_pl_settleDish_154 l1 l2 l3 l4 K f v5 T) := by
  intro f
  induction f with
  | zero => intro v5 T kk; exact kk.elim
  | succ f ih =>
    intro v5 T kk
    rw [ok_pl_settleDish_154] at kk
    refine r_p dX5_settleDish_154 rfl rfl ?_
    refine r_ci (x := 5) dX5_settleDish_156 rfl ?_
    refine r_cge dX5_settleDish_157 rfl (fun c157_6 => ?_) (fun c157_6 => ?_)
    · have kk := kk.1 c157_6
      show tR _ _ _ _ [some (.ref 80), some (.int l1), some (.ref l2), some (.int l3), some (.int l4), some (.int v5)] _ _ _ _
      exact r_eV (r' := K v5 T) (by rw [x_pl_settleDish_154]; rw [if_pos c157_6]) ((hk v5 T kk))
    · have kk := kk.2 c157_6
      refine r_p dX5_settleDish_160 rfl rfl ?_
      refine r_get dX5_settleDish_161 fkX5_11 rfl rfl ?_
      refine r_p dX5_settleDish_164 rfl rfl ?_
      obtain ⟨q14, kk⟩ := kk
      refine r_aa dX5_settleDish_166 rfl (by decide) q14 (rf81 q14) ?_
      obtain ⟨q15, kk⟩ := kk
      refine r_get dX5_settleDish_167 fkX5_110 q15 rfl ?_
      refine r_p dX5_settleDish_170 rfl rfl ?_
      refine r_p dX5_settleDish_172 rfl rfl ?_
      obtain ⟨q16, kk⟩ := kk
      obtain ⟨q17, kk⟩ := kk
      refine r_la dX5_settleDish_173 q16 q17 ?_
      refine r_p dX5_settleDish_174 rfl rfl ?_
      refine r_p dX5_settleDish_175 rfl rfl ?_
      obtain ⟨q18, kk⟩ := kk
      refine r_la dX5_settleDish_177 q18 q17 ?_
      refine r_kl dX5_settleDish_178 klX5_143 ?_
      refine r_p dX5_settleDish_181 rfl rfl ?_
      refine r_p dX5_settleDish_182 rfl rfl ?_
      refine r_las dX5_settleDish_183 q16 q17 ?_
      refine r_eV (r' := (fun (T4 : St) => x_pl_settleDish_154 l1 l2 l3 l4 K f (v5 + 1) T4) (sL T ((123 + 4 * (l4 : Int32).toNatClampNeg) + 3) (v5 : Int32).toNatClampNeg ((T.2.2.2 ((123 + 4 * (l4 : Int32).toNatClampNeg) + 3) (v5 : Int32).toNatClampNeg) &&& ((T.2.2.2 l2 (v5 : Int32).toNatClampNeg) ^^^ (-1))))) (by rw [x_pl_settleDish_154]; rw [if_neg c157_6]) ?_
      generalize sL T ((123 + 4 * (l4 : Int32).toNatClampNeg) + 3) (v5 : Int32).toNatClampNeg ((T.2.2.2 ((123 + 4 * (l4 : Int32).toNatClampNeg) + 3) (v5 : Int32).toNatClampNeg) &&& ((T.2.2.2 l2 (v5 : Int32).toNatClampNeg) ^^^ (-1))) = T4 at kk ⊢
      try dsimp only at kk
      refine r_inc (y := 1) dX5_settleDish_184 rfl rfl rfl ?_
      refine r_go dX5_settleDish_187 rfl ?_
      show tR _ _ _ _ [some (.ref 80), some (.int l1), some (.ref l2), some (.int l3), some (.int l4), some (.int (v5 + 1))] _ _ _ _
      exact r_eV (r' := x_pl_settleDish_154 l1 l2 l3 l4 K f (v5 + 1) T4) rfl ((ih (v5 + 1) T4 kk))
def x_pl_settleDish_125 (l1 : Int32) (l2 : Nat) (l3 : Int32) (K : Int32 → St → St) : Nat → Int32 → St → St
  | 0, _, T => T
  | f + 1, v4, T => if (l3 + (T.2.2.1 82 (l1 : Int32).toNatClampNeg)) ≤ v4 then (K v4 T) else (if (T.1 (123 + 4 * (v4 : Int32).toNatClampNeg) 6) = 0 then (x_pl_settleDish_125 l1 l2 l3 K f (v4 + 1) T) else (x_pl_settleDish_154 l1 l2 l3 v4 (fun (w3_5 : Int32) (T203 : St) => x_pl_settleDish_125 l1 l2 l3 K f (v4 + 1) T203) 1000 0 T))
def ok_pl_settleDish_125 (l1 : Int32) (l2 : Nat) (l3 : Int32) (Kk : Int32 → St → Prop) : Nat → Int32 → St → Prop
  | 0, _, _ => False
  | f + 1, v4, T => (vp_in l1 8) ∧ (((l3 + (T.2.2.1 82 (l1 : Int32).toNatClampNeg)) ≤ v4 → Kk v4 T) ∧ (¬ (l3 + (T.2.2.1 82 (l1 : Int32).toNatClampNeg)) ≤ v4 → (vp_in v4 96) ∧ (sh (123 + 4 * (v4 : Int32).toNatClampNeg) = .inr 10) ∧ (((T.1 (123 + 4 * (v4 : Int32).toNatClampNeg) 6) = 0 → ok_pl_settleDish_125 l1 l2 l3 Kk f (v4 + 1) T) ∧ (¬ (T.1 (123 + 4 * (v4 : Int32).toNatClampNeg) 6) = 0 → ok_pl_settleDish_154 l1 l2 l3 v4 (fun (w3_5 : Int32) (T203 : St) => ok_pl_settleDish_125 l1 l2 l3 Kk f (v4 + 1) T203) 1000 0 T))))
theorem c_pl_settleDish_125 {X : Nat × (Nat → Int32)} (l1 : Int32) (l2 : Nat) (l3 : Int32) {K : Int32 → St → St} {Kk : Int32 → St → Prop} (hk : ∀ (v4 : Int32) (T : St), Kk v4 T → tR X 1 mX5_settleDish 196 [some (.ref 80), some (.int l1), some (.ref l2), some (.int l3), some (.int v4), none] [] T none (K v4 T)) : ∀ (f : Nat) (v4 : Int32) (T : St), ok_pl_settleDish_125 l1 l2 l3 Kk f v4 T → tR X 1 mX5_settleDish 125 [some (.ref 80), some (.int l1), some (.ref l2), some (.int l3), some (.int v4), none] [] T none (x_pl_settleDish_125 l1 l2 l3 K f v4 T) := by
  intro f
  induction f with
  | zero => intro v4 T kk; exact kk.elim
  | succ f ih =>
    intro v4 T kk
    rw [ok_pl_settleDish_125] at kk
    refine r_p dX5_settleDish_125 rfl rfl ?_
    refine r_p dX5_settleDish_127 rfl rfl ?_
    refine r_p dX5_settleDish_128 rfl rfl ?_
    refine r_get dX5_settleDish_129 fkX5_17 rfl rfl ?_
    refine r_p dX5_settleDish_132 rfl rfl ?_
    obtain ⟨q11, kk⟩ := kk
    refine r_ia dX5_settleDish_133 rfl q11 ?_
    refine r_p dX5_settleDish_134 rfl rfl ?_
    refine r_cge dX5_settleDish_135 rfl (fun c135_4 => ?_) (fun c135_4 => ?_)
    · have kk := kk.1 c135_4
      show tR _ _ _ _ [some (.ref 80), some (.int l1), some (.ref l2), some (.int l3), some (.int v4), none] _ _ _ _
      exact r_eV (r' := K v4 T) (by rw [x_pl_settleDish_125]; rw [if_pos c135_4]) ((hk v4 T kk))
    · have kk := kk.2 c135_4
      refine r_p dX5_settleDish_138 rfl rfl ?_
      refine r_get dX5_settleDish_139 fkX5_11 rfl rfl ?_
      refine r_p dX5_settleDish_142 rfl rfl ?_
      obtain ⟨q12, kk⟩ := kk
      refine r_aa dX5_settleDish_144 rfl (by decide) q12 (rf81 q12) ?_
      obtain ⟨q13, kk⟩ := kk
      refine r_get dX5_settleDish_145 fkX5_106 q13 rfl ?_
      refine r_ieq dX5_settleDish_148 rfl (fun c148_5 => ?_) (fun c148_5 => ?_)
      · have kk := kk.1 c148_5
        refine r_inc (y := 1) dX5_settleDish_190 rfl rfl rfl ?_
        refine r_go dX5_settleDish_193 rfl ?_
        show tR _ _ _ _ [some (.ref 80), some (.int l1), some (.ref l2), some (.int l3), some (.int (v4 + 1)), none] _ _ _ _
        exact r_eV (r' := x_pl_settleDish_125 l1 l2 l3 K f (v4 + 1) T) (by rw [x_pl_settleDish_125]; rw [if_neg c135_4, if_pos c148_5]) ((ih (v4 + 1) T kk))
      · have kk := kk.2 c148_5
        refine r_ci (x := 0) dX5_settleDish_151 rfl ?_
        refine r_p dX5_settleDish_152 rfl rfl ?_
        show tR _ _ _ _ [some (.ref 80), some (.int l1), some (.ref l2), some (.int l3), some (.int v4), some (.int 0)] _ _ _ _
        refine r_eV (r' := x_pl_settleDish_154 l1 l2 l3 v4 (fun (w3_5 : Int32) (T203 : St) => x_pl_settleDish_125 l1 l2 l3 K f (v4 + 1) T203) 1000 0 T) (by rw [x_pl_settleDish_125]; rw [if_neg c135_4, if_neg c148_5]) ((c_pl_settleDish_154 l1 l2 l3 v4 (fun w3_5 T203 kk => ?_) 1000 0 T kk))
        · try dsimp only at kk
          refine r_inc (y := 1) dX5_settleDish_190 rfl rfl rfl ?_
          refine r_go dX5_settleDish_193 rfl ?_
          show tR _ _ _ _ [some (.ref 80), some (.int l1), some (.ref l2), some (.int l3), some (.int (v4 + 1)), some (.int w3_5)] _ _ _ _
          exact r_eV (r' := x_pl_settleDish_125 l1 l2 l3 K f (v4 + 1) T203) rfl (r_le (le_s (le_s (le_s (le_s (le_s (le_n (le_0))))))) (ih (v4 + 1) T203 kk))
def x_pl_settleDish_202 (l1 : Int32) (l2 : Nat) (l3 : Int32) (K : Int32 → St → St) : Nat → Int32 → St → St
  | 0, _, T => T
  | f + 1, v4, T => if ((l3 + 12) * 8) ≤ v4 then (K v4 T) else (x_pl_settleDish_202 l1 l2 l3 K f (v4 + 1) (sA T 98 (v4 : Int32).toNatClampNeg (-1)))
def ok_pl_settleDish_202 (l1 : Int32) (l2 : Nat) (l3 : Int32) (Kk : Int32 → St → Prop) : Nat → Int32 → St → Prop
  | 0, _, _ => False
  | f + 1, v4, T => ((((l3 + 12) * 8) ≤ v4 → Kk v4 T) ∧ (¬ ((l3 + 12) * 8) ≤ v4 → (vp_in v4 768) ∧ ok_pl_settleDish_202 l1 l2 l3 Kk f (v4 + 1) (sA T 98 (v4 : Int32).toNatClampNeg (-1))))
theorem c_pl_settleDish_202 {X : Nat × (Nat → Int32)} (l1 : Int32) (l2 : Nat) (l3 : Int32) {K : Int32 → St → St} {Kk : Int32 → St → Prop} (hk : ∀ (v4 : Int32) (T : St), Kk v4 T → tR X 1 mX5_settleDish 228 [some (.ref 80), some (.int l1), some (.ref l2), some (.int l3), some (.int v4), none] [] T none (K v4 T)) : ∀ (f : Nat) (v4 : Int32) (T : St), ok_pl_settleDish_202 l1 l2 l3 Kk f v4 T → tR X 1 mX5_settleDish 202 [some (.ref 80), some (.int l1), some (.ref l2), some (.int l3), some (.int v4), none] [] T none (x_pl_settleDish_202 l1 l2 l3 K f v4 T) := by
  intro f
  induction f with
  | zero => intro v4 T kk; exact kk.elim
  | succ f ih =>
    intro v4 T kk
    rw [ok_pl_settleDish_202] at kk
    refine r_p dX5_settleDish_202 rfl rfl ?_
    refine r_p dX5_settleDish_204 rfl rfl ?_
    refine r_cb (x := 12) dX5_settleDish_205 rfl ?_
    refine r_p dX5_settleDish_207 rfl rfl ?_
    refine r_cb (x := 8) dX5_settleDish_208 rfl ?_
    refine r_p dX5_settleDish_210 rfl rfl ?_
    refine r_cge dX5_settleDish_211 rfl (fun c211_7 => ?_) (fun c211_7 => ?_)
    · have kk := kk.1 c211_7
      show tR _ _ _ _ [some (.ref 80), some (.int l1), some (.ref l2), some (.int l3), some (.int v4), none] _ _ _ _
      exact r_eV (r' := K v4 T) (by rw [x_pl_settleDish_202]; rw [if_pos c211_7]) ((hk v4 T kk))
    · have kk := kk.2 c211_7
      refine r_p dX5_settleDish_214 rfl rfl ?_
      refine r_get dX5_settleDish_215 fkX5_47 rfl rfl ?_
      refine r_p dX5_settleDish_218 rfl rfl ?_
      refine r_ci (x := -1) dX5_settleDish_220 rfl ?_
      obtain ⟨q19, kk⟩ := kk
      refine r_ias dX5_settleDish_221 rfl q19 ?_
      refine r_inc (y := 1) dX5_settleDish_222 rfl rfl rfl ?_
      refine r_go dX5_settleDish_225 rfl ?_
      show tR _ _ _ _ [some (.ref 80), some (.int l1), some (.ref l2), some (.int l3), some (.int (v4 + 1)), none] _ _ _ _
      exact r_eV (r' := x_pl_settleDish_202 l1 l2 l3 K f (v4 + 1) (sA T 98 (v4 : Int32).toNatClampNeg (-1))) (by rw [x_pl_settleDish_202]; rw [if_neg c211_7]) ((ih (v4 + 1) (sA T 98 (v4 : Int32).toNatClampNeg (-1)) kk))
def x_pl_settleDish (T : St) (p0 : Int32) : St := (fun (T1 : St) => x_pl_settleDish_30 p0 (85 + (p0 : Int32).toNatClampNeg) (p0 * 12) (fun (w2_4 : Int32) (T202 : St) => x_pl_settleDish_125 p0 (85 + (p0 : Int32).toNatClampNeg) (p0 * 12) (fun (w4_4 : Int32) (T204 : St) => x_pl_settleDish_202 p0 (85 + (p0 : Int32).toNatClampNeg) (p0 * 12) (fun (w5_4 : Int32) (T205 : St) => T205) 1000 ((p0 * 12) * 8) T204) 1000 (p0 * 12) T202) 1000 (p0 * 12) T1) (sA (x_fillJ T (85 + (p0 : Int32).toNatClampNeg) (-1)) 83 (p0 : Int32).toNatClampNeg 1000000)
def ok_pl_settleDish (T : St) (p0 : Int32) : Prop := (vp_in p0 8) ∧ (ok_fillJ T (85 + (p0 : Int32).toNatClampNeg) (-1)) ∧ (fun (T1 : St) => ok_pl_settleDish_30 p0 (85 + (p0 : Int32).toNatClampNeg) (p0 * 12) (fun (w2_4 : Int32) (T202 : St) => ok_pl_settleDish_125 p0 (85 + (p0 : Int32).toNatClampNeg) (p0 * 12) (fun (w4_4 : Int32) (T204 : St) => ok_pl_settleDish_202 p0 (85 + (p0 : Int32).toNatClampNeg) (p0 * 12) (fun (w5_4 : Int32) (T205 : St) => True) 1000 ((p0 * 12) * 8) T204) 1000 (p0 * 12) T202) 1000 (p0 * 12) T1) (sA (x_fillJ T (85 + (p0 : Int32).toNatClampNeg) (-1)) 83 (p0 : Int32).toNatClampNeg 1000000)
theorem c_pl_settleDish {X : Nat × (Nat → Int32)} {T : St} (p0 : Int32) (kk : ok_pl_settleDish T p0) : tC X 2 mX5_settleDish [.ref 80, .int p0] T none (x_pl_settleDish T p0) := by
  unfold ok_pl_settleDish at kk
  refine tC_of ?_
  refine r_p dX5_settleDish_0 rfl rfl ?_
  refine r_get dX5_settleDish_1 fkX5_26 rfl rfl ?_
  refine r_p dX5_settleDish_4 rfl rfl ?_
  obtain ⟨q1, kk⟩ := kk
  refine r_aa dX5_settleDish_5 rfl (by decide) q1 (rf84 q1) ?_
  refine r_p dX5_settleDish_6 rfl rfl ?_
  refine r_p dX5_settleDish_7 rfl rfl ?_
  refine r_kl dX5_settleDish_8 klX5_143 ?_
  obtain ⟨q2, kk⟩ := kk
  refine r_cs (d1 := 1) dX5_settleDish_11 csX5_145 rfl rfl (Nat.le_of_ble_eq_true rfl) (Nat.le_of_ble_eq_true rfl) (Nat.le_of_ble_eq_true rfl) (c_fillJ (85 + (p0 : Int32).toNatClampNeg) (-1) q2) ?_
  refine r_p dX5_settleDish_14 rfl rfl ?_
  refine r_get dX5_settleDish_15 fkX5_21 rfl rfl ?_
  refine r_p dX5_settleDish_18 rfl rfl ?_
  refine r_k dX5_settleDish_19 kkX5_151 ?_
  refine r_ias dX5_settleDish_21 rfl q1 ?_
  refine r_eV (r' := (fun (T1 : St) => x_pl_settleDish_30 p0 (85 + (p0 : Int32).toNatClampNeg) (p0 * 12) (fun (w2_4 : Int32) (T202 : St) => x_pl_settleDish_125 p0 (85 + (p0 : Int32).toNatClampNeg) (p0 * 12) (fun (w4_4 : Int32) (T204 : St) => x_pl_settleDish_202 p0 (85 + (p0 : Int32).toNatClampNeg) (p0 * 12) (fun (w5_4 : Int32) (T205 : St) => T205) 1000 ((p0 * 12) * 8) T204) 1000 (p0 * 12) T202) 1000 (p0 * 12) T1) (sA (x_fillJ T (85 + (p0 : Int32).toNatClampNeg) (-1)) 83 (p0 : Int32).toNatClampNeg 1000000)) (by unfold x_pl_settleDish; rfl) ?_
  generalize sA (x_fillJ T (85 + (p0 : Int32).toNatClampNeg) (-1)) 83 (p0 : Int32).toNatClampNeg 1000000 = T1 at kk ⊢
  try dsimp only at kk
  refine r_p dX5_settleDish_22 rfl rfl ?_
  refine r_cb (x := 12) dX5_settleDish_23 rfl ?_
  refine r_p dX5_settleDish_25 rfl rfl ?_
  refine r_p dX5_settleDish_26 rfl rfl ?_
  refine r_p dX5_settleDish_27 rfl rfl ?_
  refine r_p dX5_settleDish_28 rfl rfl ?_
  show tR _ _ _ _ [some (.ref 80), some (.int p0), some (.ref (85 + (p0 : Int32).toNatClampNeg)), some (.int (p0 * 12)), some (.int (p0 * 12)), none] _ _ _ _
  refine r_eV (r' := x_pl_settleDish_30 p0 (85 + (p0 : Int32).toNatClampNeg) (p0 * 12) (fun (w2_4 : Int32) (T202 : St) => x_pl_settleDish_125 p0 (85 + (p0 : Int32).toNatClampNeg) (p0 * 12) (fun (w4_4 : Int32) (T204 : St) => x_pl_settleDish_202 p0 (85 + (p0 : Int32).toNatClampNeg) (p0 * 12) (fun (w5_4 : Int32) (T205 : St) => T205) 1000 ((p0 * 12) * 8) T204) 1000 (p0 * 12) T202) 1000 (p0 * 12) T1) rfl ((c_pl_settleDish_30 p0 (85 + (p0 : Int32).toNatClampNeg) (p0 * 12) (fun w2_4 T202 kk => ?_) 1000 (p0 * 12) T1 kk))
  · try dsimp only at kk
    refine r_p dX5_settleDish_122 rfl rfl ?_
    refine r_p dX5_settleDish_123 rfl rfl ?_
    show tR _ _ _ _ [some (.ref 80), some (.int p0), some (.ref (85 + (p0 : Int32).toNatClampNeg)), some (.int (p0 * 12)), some (.int (p0 * 12)), none] _ _ _ _
    refine r_eV (r' := x_pl_settleDish_125 p0 (85 + (p0 : Int32).toNatClampNeg) (p0 * 12) (fun (w4_4 : Int32) (T204 : St) => x_pl_settleDish_202 p0 (85 + (p0 : Int32).toNatClampNeg) (p0 * 12) (fun (w5_4 : Int32) (T205 : St) => T205) 1000 ((p0 * 12) * 8) T204) 1000 (p0 * 12) T202) rfl ((c_pl_settleDish_125 p0 (85 + (p0 : Int32).toNatClampNeg) (p0 * 12) (fun w4_4 T204 kk => ?_) 1000 (p0 * 12) T202 kk))
    · try dsimp only at kk
      refine r_p dX5_settleDish_196 rfl rfl ?_
      refine r_cb (x := 8) dX5_settleDish_197 rfl ?_
      refine r_p dX5_settleDish_199 rfl rfl ?_
      refine r_p dX5_settleDish_200 rfl rfl ?_
      show tR _ _ _ _ [some (.ref 80), some (.int p0), some (.ref (85 + (p0 : Int32).toNatClampNeg)), some (.int (p0 * 12)), some (.int ((p0 * 12) * 8)), none] _ _ _ _
      refine r_eV (r' := x_pl_settleDish_202 p0 (85 + (p0 : Int32).toNatClampNeg) (p0 * 12) (fun (w5_4 : Int32) (T205 : St) => T205) 1000 ((p0 * 12) * 8) T204) rfl ((c_pl_settleDish_202 p0 (85 + (p0 : Int32).toNatClampNeg) (p0 * 12) (fun w5_4 T205 kk => ?_) 1000 ((p0 * 12) * 8) T204 kk))
      · exact r_eV (r' := T205) rfl (r_rv dX5_settleDish_228 rfl rfl rfl)
def x_pl_choicesThatCan_4 (T : St) (l1 : Int32) (K : Int32 → Int32 → Int32) : Nat → Int32 → Int32 → Int32
  | 0, _, _ => 0
  | f + 1, v2, v3 => if (T.2.2.1 82 (l1 : Int32).toNatClampNeg) ≤ v3 then (K v2 v3) else (if (T.1 (123 + 4 * ((l1 * 12) + v3 : Int32).toNatClampNeg) 6) = 0 then (x_pl_choicesThatCan_4 T l1 K f v2 (v3 + 1)) else (x_pl_choicesThatCan_4 T l1 K f (v2 ||| (1 <<< (v3 &&& 31))) (v3 + 1)))
def ok_pl_choicesThatCan_4 (T : St) (l1 : Int32) (Kk : Int32 → Int32 → Prop) : Nat → Int32 → Int32 → Prop
  | 0, _, _ => False
  | f + 1, v2, v3 => (vp_in l1 8) ∧ (((T.2.2.1 82 (l1 : Int32).toNatClampNeg) ≤ v3 → Kk v2 v3) ∧ (¬ (T.2.2.1 82 (l1 : Int32).toNatClampNeg) ≤ v3 → (vp_in ((l1 * 12) + v3) 96) ∧ (sh (123 + 4 * ((l1 * 12) + v3 : Int32).toNatClampNeg) = .inr 10) ∧ (((T.1 (123 + 4 * ((l1 * 12) + v3 : Int32).toNatClampNeg) 6) = 0 → ok_pl_choicesThatCan_4 T l1 Kk f v2 (v3 + 1)) ∧ (¬ (T.1 (123 + 4 * ((l1 * 12) + v3 : Int32).toNatClampNeg) 6) = 0 → ok_pl_choicesThatCan_4 T l1 Kk f (v2 ||| (1 <<< (v3 &&& 31))) (v3 + 1)))))
theorem c_pl_choicesThatCan_4 {X : Nat × (Nat → Int32)} (T : St) (l1 : Int32) {K : Int32 → Int32 → Int32} {Kk : Int32 → Int32 → Prop} (hk : ∀ (v2 : Int32) (v3 : Int32), Kk v2 v3 → tR X 0 mX5_choicesThatCan 43 [some (.ref 80), some (.int l1), some (.int v2), some (.int v3)] [] T (some (.int (K v2 v3))) T) : ∀ (f : Nat) (v2 : Int32) (v3 : Int32), ok_pl_choicesThatCan_4 T l1 Kk f v2 v3 → tR X 0 mX5_choicesThatCan 4 [some (.ref 80), some (.int l1), some (.int v2), some (.int v3)] [] T (some (.int (x_pl_choicesThatCan_4 T l1 K f v2 v3))) T := by
  intro f
  induction f with
  | zero => intro v2 v3 kk; exact kk.elim
  | succ f ih =>
    intro v2 v3 kk
    rw [ok_pl_choicesThatCan_4] at kk
    refine r_p dX5_choicesThatCan_4 rfl rfl ?_
    refine r_p dX5_choicesThatCan_5 rfl rfl ?_
    refine r_get dX5_choicesThatCan_6 fkX5_17 rfl rfl ?_
    refine r_p dX5_choicesThatCan_9 rfl rfl ?_
    obtain ⟨q1, kk⟩ := kk
    refine r_ia dX5_choicesThatCan_10 rfl q1 ?_
    refine r_cge dX5_choicesThatCan_11 rfl (fun c11_1 => ?_) (fun c11_1 => ?_)
    · have kk := kk.1 c11_1
      show tR _ _ _ _ [some (.ref 80), some (.int l1), some (.int v2), some (.int v3)] _ _ _ _
      exact r_eIp (r' := K v2 v3) (by rw [x_pl_choicesThatCan_4]; rw [if_pos c11_1]) ((hk v2 v3  kk))
    · have kk := kk.2 c11_1
      refine r_p dX5_choicesThatCan_14 rfl rfl ?_
      refine r_get dX5_choicesThatCan_15 fkX5_11 rfl rfl ?_
      refine r_p dX5_choicesThatCan_18 rfl rfl ?_
      refine r_cb (x := 12) dX5_choicesThatCan_19 rfl ?_
      refine r_p dX5_choicesThatCan_21 rfl rfl ?_
      refine r_p dX5_choicesThatCan_22 rfl rfl ?_
      refine r_p dX5_choicesThatCan_23 rfl rfl ?_
      obtain ⟨q2, kk⟩ := kk
      refine r_aa dX5_choicesThatCan_24 rfl (by decide) q2 (rf81 q2) ?_
      obtain ⟨q3, kk⟩ := kk
      refine r_get dX5_choicesThatCan_25 fkX5_106 q3 rfl ?_
      refine r_ieq dX5_choicesThatCan_28 rfl (fun c28_2 => ?_) (fun c28_2 => ?_)
      · have kk := kk.1 c28_2
        refine r_inc (y := 1) dX5_choicesThatCan_37 rfl rfl rfl ?_
        refine r_go dX5_choicesThatCan_40 rfl ?_
        show tR _ _ _ _ [some (.ref 80), some (.int l1), some (.int v2), some (.int (v3 + 1))] _ _ _ _
        exact r_eIp (r' := x_pl_choicesThatCan_4 T l1 K f v2 (v3 + 1)) (by rw [x_pl_choicesThatCan_4]; rw [if_neg c11_1, if_pos c28_2]) ((ih v2 (v3 + 1)  kk))
      · have kk := kk.2 c28_2
        refine r_p dX5_choicesThatCan_31 rfl rfl ?_
        refine r_ci (x := 1) dX5_choicesThatCan_32 rfl ?_
        refine r_p dX5_choicesThatCan_33 rfl rfl ?_
        refine r_p dX5_choicesThatCan_34 rfl rfl ?_
        refine r_p dX5_choicesThatCan_35 rfl rfl ?_
        refine r_p dX5_choicesThatCan_36 rfl rfl ?_
        refine r_inc (y := 1) dX5_choicesThatCan_37 rfl rfl rfl ?_
        refine r_go dX5_choicesThatCan_40 rfl ?_
        show tR _ _ _ _ [some (.ref 80), some (.int l1), some (.int (v2 ||| (1 <<< (v3 &&& 31)))), some (.int (v3 + 1))] _ _ _ _
        exact r_eIp (r' := x_pl_choicesThatCan_4 T l1 K f (v2 ||| (1 <<< (v3 &&& 31))) (v3 + 1)) (by rw [x_pl_choicesThatCan_4]; rw [if_neg c11_1, if_neg c28_2]) ((ih (v2 ||| (1 <<< (v3 &&& 31))) (v3 + 1)  kk))
def x_pl_choicesThatCan (T : St) (p0 : Int32) : Int32 := x_pl_choicesThatCan_4 T p0 (fun (w1_2 : Int32) (w1_3 : Int32) => w1_2) 1000 0 0
def ok_pl_choicesThatCan (T : St) (p0 : Int32) : Prop := ok_pl_choicesThatCan_4 T p0 (fun (w1_2 : Int32) (w1_3 : Int32) => True) 1000 0 0
theorem c_pl_choicesThatCan {X : Nat × (Nat → Int32)} {T : St} (p0 : Int32) (kk : ok_pl_choicesThatCan T p0) : tC X 1 mX5_choicesThatCan [.ref 80, .int p0] T (some (.int (x_pl_choicesThatCan T p0))) T := by
  unfold ok_pl_choicesThatCan at kk
  refine tC_of ?_
  refine r_ci (x := 0) dX5_choicesThatCan_0 rfl ?_
  refine r_p dX5_choicesThatCan_1 rfl rfl ?_
  refine r_ci (x := 0) dX5_choicesThatCan_2 rfl ?_
  refine r_p dX5_choicesThatCan_3 rfl rfl ?_
  show tR _ _ _ _ [some (.ref 80), some (.int p0), some (.int 0), some (.int 0)] _ _ _ _
  refine r_eIp (r' := x_pl_choicesThatCan_4 T p0 (fun (w1_2 : Int32) (w1_3 : Int32) => w1_2) 1000 0 0) (by unfold x_pl_choicesThatCan; rfl) ((c_pl_choicesThatCan_4 T p0 (fun w1_2 w1_3 kk => ?_) 1000 0 0  kk))
  · refine r_p dX5_choicesThatCan_43 rfl rfl ?_
    exact r_eIp (r' := w1_2) rfl (r_ri dX5_choicesThatCan_44 rfl rfl rfl rfl)
def x_pl_collide_2 (T : St) (l1 : Nat) (l2 : Nat) (K : Int32 → Int32) : Nat → Int32 → Int32
  | 0, _ => 0
  | f + 1, v3 => if 5 ≤ v3 then (K v3) else (if (lg_cmp (((T.2.2.2 l1 (v3 : Int32).toNatClampNeg) &&& (T.2.2.2 l2 (v3 : Int32).toNatClampNeg)) &&& (x_ki_fewerThan T (T.2.1 3) v3 2)) 0) = 0 then (x_pl_collide_2 T l1 l2 K f (v3 + 1)) else (1))
def ok_pl_collide_2 (T : St) (l1 : Nat) (l2 : Nat) (Kk : Int32 → Prop) : Nat → Int32 → Prop
  | 0, _ => False
  | f + 1, v3 => ((5 ≤ v3 → Kk v3) ∧ (¬ 5 ≤ v3 → (sh l1 = .inl (1, 5)) ∧ (vp_in v3 5) ∧ (sh l2 = .inl (1, 5)) ∧ (ok_ki_fewerThan T (T.2.1 3) v3 2) ∧ (sh (T.2.1 3) = .inr 3) ∧ ((lg_cmp (((T.2.2.2 l1 (v3 : Int32).toNatClampNeg) &&& (T.2.2.2 l2 (v3 : Int32).toNatClampNeg)) &&& (x_ki_fewerThan T (T.2.1 3) v3 2)) 0) = 0 → ok_pl_collide_2 T l1 l2 Kk f (v3 + 1))))
theorem c_pl_collide_2 {X : Nat × (Nat → Int32)} (T : St) (l1 : Nat) (l2 : Nat) {K : Int32 → Int32} {Kk : Int32 → Prop} (hk : ∀ (v3 : Int32), Kk v3 → tR X 1 mX5_collide 37 [some (.ref 80), some (.ref l1), some (.ref l2), some (.int v3)] [] T (some (.int (K v3))) T) : ∀ (f : Nat) (v3 : Int32), ok_pl_collide_2 T l1 l2 Kk f v3 → tR X 1 mX5_collide 2 [some (.ref 80), some (.ref l1), some (.ref l2), some (.int v3)] [] T (some (.int (x_pl_collide_2 T l1 l2 K f v3))) T := by
  intro f
  induction f with
  | zero => intro v3 kk; exact kk.elim
  | succ f ih =>
    intro v3 kk
    rw [ok_pl_collide_2] at kk
    refine r_p dX5_collide_2 rfl rfl ?_
    refine r_ci (x := 5) dX5_collide_3 rfl ?_
    refine r_cge dX5_collide_4 rfl (fun c4_1 => ?_) (fun c4_1 => ?_)
    · have kk := kk.1 c4_1
      show tR _ _ _ _ [some (.ref 80), some (.ref l1), some (.ref l2), some (.int v3)] _ _ _ _
      exact r_eIp (r' := K v3) (by rw [x_pl_collide_2]; rw [if_pos c4_1]) ((hk v3  kk))
    · have kk := kk.2 c4_1
      refine r_p dX5_collide_7 rfl rfl ?_
      refine r_p dX5_collide_8 rfl rfl ?_
      obtain ⟨q1, kk⟩ := kk
      obtain ⟨q2, kk⟩ := kk
      refine r_la dX5_collide_9 q1 q2 ?_
      refine r_p dX5_collide_10 rfl rfl ?_
      refine r_p dX5_collide_11 rfl rfl ?_
      obtain ⟨q3, kk⟩ := kk
      refine r_la dX5_collide_12 q3 q2 ?_
      refine r_p dX5_collide_13 rfl rfl ?_
      refine r_p dX5_collide_14 rfl rfl ?_
      refine r_get dX5_collide_15 fkX5_69 rfl rfl ?_
      refine r_p dX5_collide_18 rfl rfl ?_
      refine r_ci (x := 2) dX5_collide_19 rfl ?_
      obtain ⟨q4, kk⟩ := kk
      obtain ⟨q5, kk⟩ := kk
      refine r_cv (d1 := 1) dX5_collide_20 cvX5_201 rfl rfl q5 rfl (Nat.le_of_ble_eq_true rfl) (Nat.le_of_ble_eq_true rfl) (Nat.le_of_ble_eq_true rfl) (c_ki_fewerThan (T.2.1 3) v3 2 q4) ?_
      refine r_p dX5_collide_23 rfl rfl ?_
      refine r_cl (x := 0) dX5_collide_24 rfl ?_
      refine r_p dX5_collide_25 rfl rfl ?_
      refine r_ieq dX5_collide_26 rfl (fun c26_2 => ?_) (fun c26_2 => ?_)
      · have kk := kk c26_2
        refine r_inc (y := 1) dX5_collide_31 rfl rfl rfl ?_
        refine r_go dX5_collide_34 rfl ?_
        show tR _ _ _ _ [some (.ref 80), some (.ref l1), some (.ref l2), some (.int (v3 + 1))] _ _ _ _
        exact r_eIp (r' := x_pl_collide_2 T l1 l2 K f (v3 + 1)) (by rw [x_pl_collide_2]; rw [if_neg c4_1, if_pos c26_2]) ((ih (v3 + 1)  kk))
      · refine r_ci (x := 1) dX5_collide_29 rfl ?_
        exact r_eIp (r' := 1) (by rw [x_pl_collide_2]; rw [if_neg c4_1, if_neg c26_2]) (r_ri dX5_collide_30 rfl rfl rfl rfl)
def x_pl_collide (T : St) (p0 : Nat) (p1 : Nat) : Int32 := x_pl_collide_2 T p0 p1 (fun (w1_3 : Int32) => 0) 1000 0
def ok_pl_collide (T : St) (p0 : Nat) (p1 : Nat) : Prop := ok_pl_collide_2 T p0 p1 (fun (w1_3 : Int32) => True) 1000 0
theorem c_pl_collide {X : Nat × (Nat → Int32)} {T : St} (p0 : Nat) (p1 : Nat) (kk : ok_pl_collide T p0 p1) : tC X 2 mX5_collide [.ref 80, .ref p0, .ref p1] T (some (.int (x_pl_collide T p0 p1))) T := by
  unfold ok_pl_collide at kk
  refine tC_of ?_
  refine r_ci (x := 0) dX5_collide_0 rfl ?_
  refine r_p dX5_collide_1 rfl rfl ?_
  show tR _ _ _ _ [some (.ref 80), some (.ref p0), some (.ref p1), some (.int 0)] _ _ _ _
  refine r_eIp (r' := x_pl_collide_2 T p0 p1 (fun (w1_3 : Int32) => 0) 1000 0) (by unfold x_pl_collide; rfl) ((c_pl_collide_2 T p0 p1 (fun w1_3 kk => ?_) 1000 0  kk))
  · refine r_ci (x := 0) dX5_collide_37 rfl ?_
    exact r_eIp (r' := 0) rfl (r_ri dX5_collide_38 rfl rfl rfl rfl)
def x_pl_keepPicked (T : St) (p0 : Int32) : St := jn (fun (KJ1 : Int32 → St) => if ((sF T 80 17 p0).1 80 14) = 0 then (KJ1 p0) else (KJ1 0)) (fun (j1_s1 : Int32) => sAr (sF (sF T 80 17 p0) 80 13 j1_s1) 96 (va_cpy ((sF (sF T 80 17 p0) 80 13 j1_s1).2.2.1 95) ((sF (sF T 80 17 p0) 80 13 j1_s1).2.2.1 96) (0 : Int32).toNatClampNeg (0 : Int32).toNatClampNeg ((sF (sF T 80 17 p0) 80 13 j1_s1).1 80 12 : Int32).toNatClampNeg))
def ok_pl_keepPicked (T : St) (p0 : Int32) : Prop := jn (fun (OJ1 : Int32 → Prop) => ((((sF T 80 17 p0).1 80 14) = 0 → OJ1 p0) ∧ (¬ ((sF T 80 17 p0).1 80 14) = 0 → OJ1 0))) (fun (j1_s1 : Int32) => (cpok 0 0 ((sF (sF T 80 17 p0) 80 13 j1_s1).1 80 12) 4 4) ∧ True)
theorem c_pl_keepPicked {X : Nat × (Nat → Int32)} {T : St} (p0 : Int32) (kk : ok_pl_keepPicked T p0) : tC X 1 mX5_keepPicked [.ref 80, .int p0] T none (x_pl_keepPicked T p0) := by
  unfold ok_pl_keepPicked at kk
  refine tC_of ?_
  refine r_p dX5_keepPicked_0 rfl rfl ?_
  refine r_p dX5_keepPicked_1 rfl rfl ?_
  refine r_put dX5_keepPicked_2 fkX5_164 rfl rfl rfl (Nat.le_of_ble_eq_true rfl) rfl rfl ?_
  refine r_p dX5_keepPicked_5 rfl rfl ?_
  refine r_p dX5_keepPicked_6 rfl rfl ?_
  refine r_get dX5_keepPicked_7 fkX5_157 rfl rfl ?_
  obtain ⟨KJ1, hKJ1⟩ : ∃ q : Int32 → St, q = (fun (j1_s1 : Int32) => sAr (sF (sF T 80 17 p0) 80 13 j1_s1) 96 (va_cpy ((sF (sF T 80 17 p0) 80 13 j1_s1).2.2.1 95) ((sF (sF T 80 17 p0) 80 13 j1_s1).2.2.1 96) (0 : Int32).toNatClampNeg (0 : Int32).toNatClampNeg ((sF (sF T 80 17 p0) 80 13 j1_s1).1 80 12 : Int32).toNatClampNeg)) := ⟨_, rfl⟩
  obtain ⟨OJ1, hOJ1⟩ : ∃ q : Int32 → Prop, q = (fun (j1_s1 : Int32) => (cpok 0 0 ((sF (sF T 80 17 p0) 80 13 j1_s1).1 80 12) 4 4) ∧ True) := ⟨_, rfl⟩
  rw [← hOJ1] at kk
  simp only [jn] at kk
  have hJ1 : ∀ (j1_s1 : Int32), OJ1 j1_s1 → tR X 0 mX5_keepPicked 18 [some (.ref 80), some (.int p0)] [.int j1_s1, .ref 80] (sF T 80 17 p0) none (KJ1 j1_s1) := by
    intro j1_s1 kk
    rw [hOJ1] at kk
    try dsimp only at kk
    rw [hKJ1]
    refine r_put dX5_keepPicked_18 fkX5_160 rfl rfl rfl (Nat.le_of_ble_eq_true rfl) rfl rfl ?_
    refine r_p dX5_keepPicked_21 rfl rfl ?_
    refine r_get dX5_keepPicked_22 fkX5_38 rfl rfl ?_
    refine r_ci (x := 0) dX5_keepPicked_25 rfl ?_
    refine r_p dX5_keepPicked_26 rfl rfl ?_
    refine r_get dX5_keepPicked_27 fkX5_41 rfl rfl ?_
    refine r_ci (x := 0) dX5_keepPicked_30 rfl ?_
    refine r_p dX5_keepPicked_31 rfl rfl ?_
    refine r_get dX5_keepPicked_32 fkX5_172 rfl rfl ?_
    obtain ⟨q1, kk⟩ := kk
    refine r_cpy dX5_keepPicked_35 cpX5_205 rfl rfl q1.1 q1.2.1 q1.2.2.1 q1.2.2.2.1 q1.2.2.2.2 (Nat.le_of_ble_eq_true rfl) ?_
    exact r_eV (r' := (sAr (sF (sF T 80 17 p0) 80 13 j1_s1) 96 (va_cpy ((sF (sF T 80 17 p0) 80 13 j1_s1).2.2.1 95) ((sF (sF T 80 17 p0) 80 13 j1_s1).2.2.1 96) (0 : Int32).toNatClampNeg (0 : Int32).toNatClampNeg ((sF (sF T 80 17 p0) 80 13 j1_s1).1 80 12 : Int32).toNatClampNeg))) rfl (r_rv dX5_keepPicked_38 rfl rfl rfl)
  refine r_eV (r' := jn (fun (KJ1 : Int32 → St) => if ((sF T 80 17 p0).1 80 14) = 0 then (KJ1 p0) else (KJ1 0)) KJ1) (by rw [hKJ1]; unfold x_pl_keepPicked; rfl) ?_
  refine r_ieq dX5_keepPicked_10 rfl (fun c10_2 => ?_) (fun c10_2 => ?_)
  · have kk := kk.1 c10_2
    refine r_p dX5_keepPicked_17 rfl rfl ?_
    show tR _ _ _ _ [some (.ref 80), some (.int p0)] [.int p0, .ref 80] _ _ _
    exact r_eV (r' := KJ1 p0) (by simp only [jn]; rw [if_pos c10_2]) ((hJ1 p0 kk))
  · have kk := kk.2 c10_2
    refine r_ci (x := 0) dX5_keepPicked_13 rfl ?_
    refine r_go dX5_keepPicked_14 rfl ?_
    show tR _ _ _ _ [some (.ref 80), some (.int p0)] [.int 0, .ref 80] _ _ _
    exact r_eV (r' := KJ1 0) (by simp only [jn]; rw [if_neg c10_2]) ((hJ1 0 kk))
def x_pl_tell_2 (l1 : Nat) (K : Int32 → St → St) : Nat → Int32 → St → St
  | 0, _, T => T
  | f + 1, v2, T => if (T.1 l1 0) ≤ v2 then (K v2 T) else (if (T.1 80 12) ≤ v2 then (K v2 T) else (fun (T1 : St) => x_pl_tell_2 l1 K f (v2 + 1) T1) (sA T (l1 + 2) (v2 : Int32).toNatClampNeg ((T.2.2.1 96 (v2 : Int32).toNatClampNeg) - ((T.2.2.1 94 (v2 : Int32).toNatClampNeg) * 12))))
def ok_pl_tell_2 (l1 : Nat) (Kk : Int32 → St → Prop) : Nat → Int32 → St → Prop
  | 0, _, _ => False
  | f + 1, v2, T => (sh l1 = .inr 7) ∧ (((T.1 l1 0) ≤ v2 → Kk v2 T) ∧ (¬ (T.1 l1 0) ≤ v2 → (((T.1 80 12) ≤ v2 → Kk v2 T) ∧ (¬ (T.1 80 12) ≤ v2 → (vp_in v2 4) ∧ (sh (l1 + 2) = .inl (0, 4)) ∧ (fun (T1 : St) => ok_pl_tell_2 l1 Kk f (v2 + 1) T1) (sA T (l1 + 2) (v2 : Int32).toNatClampNeg ((T.2.2.1 96 (v2 : Int32).toNatClampNeg) - ((T.2.2.1 94 (v2 : Int32).toNatClampNeg) * 12)))))))
theorem c_pl_tell_2 {X : Nat × (Nat → Int32)} (l1 : Nat) {K : Int32 → St → St} {Kk : Int32 → St → Prop} (hk : ∀ (v2 : Int32) (T : St), Kk v2 T → tR X 0 mX5_tell 46 [some (.ref 80), some (.ref l1), some (.int v2), none] [] T none (K v2 T)) : ∀ (f : Nat) (v2 : Int32) (T : St), ok_pl_tell_2 l1 Kk f v2 T → tR X 0 mX5_tell 2 [some (.ref 80), some (.ref l1), some (.int v2), none] [] T none (x_pl_tell_2 l1 K f v2 T) := by
  intro f
  induction f with
  | zero => intro v2 T kk; exact kk.elim
  | succ f ih =>
    intro v2 T kk
    rw [ok_pl_tell_2] at kk
    refine r_p dX5_tell_2 rfl rfl ?_
    refine r_p dX5_tell_3 rfl rfl ?_
    obtain ⟨q1, kk⟩ := kk
    refine r_get dX5_tell_4 fkX5_211 q1 rfl ?_
    refine r_cge dX5_tell_7 rfl (fun c7_1 => ?_) (fun c7_1 => ?_)
    · have kk := kk.1 c7_1
      show tR _ _ _ _ [some (.ref 80), some (.ref l1), some (.int v2), none] _ _ _ _
      exact r_eV (r' := K v2 T) (by rw [x_pl_tell_2]; rw [if_pos c7_1]) ((hk v2 T kk))
    · have kk := kk.2 c7_1
      refine r_p dX5_tell_10 rfl rfl ?_
      refine r_p dX5_tell_11 rfl rfl ?_
      refine r_get dX5_tell_12 fkX5_172 rfl rfl ?_
      refine r_cge dX5_tell_15 rfl (fun c15_2 => ?_) (fun c15_2 => ?_)
      · have kk := kk.1 c15_2
        show tR _ _ _ _ [some (.ref 80), some (.ref l1), some (.int v2), none] _ _ _ _
        exact r_eV (r' := K v2 T) (by rw [x_pl_tell_2]; rw [if_neg c7_1, if_pos c15_2]) ((hk v2 T kk))
      · have kk := kk.2 c15_2
        refine r_p dX5_tell_18 rfl rfl ?_
        refine r_get dX5_tell_19 fkX5_212 q1 rfl ?_
        refine r_p dX5_tell_22 rfl rfl ?_
        refine r_p dX5_tell_23 rfl rfl ?_
        refine r_get dX5_tell_24 fkX5_41 rfl rfl ?_
        refine r_p dX5_tell_27 rfl rfl ?_
        obtain ⟨q2, kk⟩ := kk
        refine r_ia dX5_tell_28 rfl q2 ?_
        refine r_p dX5_tell_29 rfl rfl ?_
        refine r_get dX5_tell_30 fkX5_35 rfl rfl ?_
        refine r_p dX5_tell_33 rfl rfl ?_
        refine r_ia dX5_tell_34 rfl q2 ?_
        refine r_cb (x := 12) dX5_tell_35 rfl ?_
        refine r_p dX5_tell_37 rfl rfl ?_
        refine r_p dX5_tell_38 rfl rfl ?_
        obtain ⟨q3, kk⟩ := kk
        refine r_ias dX5_tell_39 q3 q2 ?_
        refine r_eV (r' := (fun (T1 : St) => x_pl_tell_2 l1 K f (v2 + 1) T1) (sA T (l1 + 2) (v2 : Int32).toNatClampNeg ((T.2.2.1 96 (v2 : Int32).toNatClampNeg) - ((T.2.2.1 94 (v2 : Int32).toNatClampNeg) * 12)))) (by rw [x_pl_tell_2]; rw [if_neg c7_1, if_neg c15_2]) ?_
        generalize sA T (l1 + 2) (v2 : Int32).toNatClampNeg ((T.2.2.1 96 (v2 : Int32).toNatClampNeg) - ((T.2.2.1 94 (v2 : Int32).toNatClampNeg) * 12)) = T1 at kk ⊢
        try dsimp only at kk
        refine r_inc (y := 1) dX5_tell_40 rfl rfl rfl ?_
        refine r_go dX5_tell_43 rfl ?_
        show tR _ _ _ _ [some (.ref 80), some (.ref l1), some (.int (v2 + 1)), none] _ _ _ _
        exact r_eV (r' := x_pl_tell_2 l1 K f (v2 + 1) T1) rfl ((ih (v2 + 1) T1 kk))
def x_pl_tell_48 (l1 : Nat) (K : Int32 → St → St) : Nat → Int32 → St → St
  | 0, _, T => T
  | f + 1, v2, T => if (T.1 l1 1) ≤ v2 then (K v2 T) else (fun (T2 : St) => x_pl_tell_48 l1 K f (v2 + 1) T2) (sA T (l1 + 5) (v2 : Int32).toNatClampNeg (T.2.2.1 ((123 + 4 * (T.2.2.1 96 (T.2.2.1 (l1 + 4) (v2 : Int32).toNatClampNeg : Int32).toNatClampNeg : Int32).toNatClampNeg) + 1) ((T.2.2.1 (l1 + 3) (v2 : Int32).toNatClampNeg) - (T.2.2.1 ((T.2.1 2) + 8) (T.2.2.1 94 (T.2.2.1 (l1 + 4) (v2 : Int32).toNatClampNeg : Int32).toNatClampNeg : Int32).toNatClampNeg) : Int32).toNatClampNeg))
def ok_pl_tell_48 (l1 : Nat) (Kk : Int32 → St → Prop) : Nat → Int32 → St → Prop
  | 0, _, _ => False
  | f + 1, v2, T => (sh l1 = .inr 7) ∧ (((T.1 l1 1) ≤ v2 → Kk v2 T) ∧ (¬ (T.1 l1 1) ≤ v2 → (sh (l1 + 4) = .inl (0, 12)) ∧ (vp_in v2 12) ∧ (vp_in (T.2.2.1 (l1 + 4) (v2 : Int32).toNatClampNeg) 4) ∧ (vp_in (T.2.2.1 96 (T.2.2.1 (l1 + 4) (v2 : Int32).toNatClampNeg : Int32).toNatClampNeg) 96) ∧ (sh (123 + 4 * (T.2.2.1 96 (T.2.2.1 (l1 + 4) (v2 : Int32).toNatClampNeg : Int32).toNatClampNeg : Int32).toNatClampNeg) = .inr 10) ∧ (sh (l1 + 3) = .inl (0, 12)) ∧ (sh (T.2.1 2) = .inr 1) ∧ (sh ((T.2.1 2) + 8) = .inl (0, 8)) ∧ (vp_in (T.2.2.1 94 (T.2.2.1 (l1 + 4) (v2 : Int32).toNatClampNeg : Int32).toNatClampNeg) 8) ∧ (sh ((123 + 4 * (T.2.2.1 96 (T.2.2.1 (l1 + 4) (v2 : Int32).toNatClampNeg : Int32).toNatClampNeg : Int32).toNatClampNeg) + 1) = .inl (0, 3)) ∧ (vp_in ((T.2.2.1 (l1 + 3) (v2 : Int32).toNatClampNeg) - (T.2.2.1 ((T.2.1 2) + 8) (T.2.2.1 94 (T.2.2.1 (l1 + 4) (v2 : Int32).toNatClampNeg : Int32).toNatClampNeg : Int32).toNatClampNeg)) 3) ∧ (sh (l1 + 5) = .inl (0, 12)) ∧ (fun (T2 : St) => ok_pl_tell_48 l1 Kk f (v2 + 1) T2) (sA T (l1 + 5) (v2 : Int32).toNatClampNeg (T.2.2.1 ((123 + 4 * (T.2.2.1 96 (T.2.2.1 (l1 + 4) (v2 : Int32).toNatClampNeg : Int32).toNatClampNeg : Int32).toNatClampNeg) + 1) ((T.2.2.1 (l1 + 3) (v2 : Int32).toNatClampNeg) - (T.2.2.1 ((T.2.1 2) + 8) (T.2.2.1 94 (T.2.2.1 (l1 + 4) (v2 : Int32).toNatClampNeg : Int32).toNatClampNeg : Int32).toNatClampNeg) : Int32).toNatClampNeg))))
theorem c_pl_tell_48 {X : Nat × (Nat → Int32)} (l1 : Nat) {K : Int32 → St → St} {Kk : Int32 → St → Prop} (hk : ∀ (v2 : Int32) (T : St), Kk v2 T → tR X 0 mX5_tell 111 [some (.ref 80), some (.ref l1), some (.int v2), none] [] T none (K v2 T)) : ∀ (f : Nat) (v2 : Int32) (T : St), ok_pl_tell_48 l1 Kk f v2 T → tR X 0 mX5_tell 48 [some (.ref 80), some (.ref l1), some (.int v2), none] [] T none (x_pl_tell_48 l1 K f v2 T) := by
  intro f
  induction f with
  | zero => intro v2 T kk; exact kk.elim
  | succ f ih =>
    intro v2 T kk
    rw [ok_pl_tell_48] at kk
    refine r_p dX5_tell_48 rfl rfl ?_
    refine r_p dX5_tell_49 rfl rfl ?_
    obtain ⟨q4, kk⟩ := kk
    refine r_get dX5_tell_50 fkX5_118 q4 rfl ?_
    refine r_cge dX5_tell_53 rfl (fun c53_3 => ?_) (fun c53_3 => ?_)
    · have kk := kk.1 c53_3
      show tR _ _ _ _ [some (.ref 80), some (.ref l1), some (.int v2), none] _ _ _ _
      exact r_eV (r' := K v2 T) (by rw [x_pl_tell_48]; rw [if_pos c53_3]) ((hk v2 T kk))
    · have kk := kk.2 c53_3
      refine r_p dX5_tell_56 rfl rfl ?_
      refine r_get dX5_tell_57 fkX5_126 q4 rfl ?_
      refine r_p dX5_tell_60 rfl rfl ?_
      obtain ⟨q5, kk⟩ := kk
      obtain ⟨q6, kk⟩ := kk
      refine r_ia dX5_tell_61 q5 q6 ?_
      refine r_p dX5_tell_62 rfl rfl ?_
      refine r_p dX5_tell_63 rfl rfl ?_
      refine r_get dX5_tell_64 fkX5_138 q4 rfl ?_
      refine r_p dX5_tell_67 rfl rfl ?_
      refine r_p dX5_tell_68 rfl rfl ?_
      refine r_get dX5_tell_69 fkX5_11 rfl rfl ?_
      refine r_p dX5_tell_72 rfl rfl ?_
      refine r_get dX5_tell_73 fkX5_41 rfl rfl ?_
      refine r_p dX5_tell_76 rfl rfl ?_
      obtain ⟨q7, kk⟩ := kk
      refine r_ia dX5_tell_77 rfl q7 ?_
      obtain ⟨q8, kk⟩ := kk
      refine r_aa dX5_tell_78 rfl (by decide) q8 (rf81 q8) ?_
      obtain ⟨q9, kk⟩ := kk
      refine r_get dX5_tell_79 fkX5_135 q9 rfl ?_
      refine r_p dX5_tell_82 rfl rfl ?_
      refine r_get dX5_tell_83 fkX5_129 q4 rfl ?_
      refine r_p dX5_tell_86 rfl rfl ?_
      obtain ⟨q10, kk⟩ := kk
      refine r_ia dX5_tell_87 q10 q6 ?_
      refine r_p dX5_tell_88 rfl rfl ?_
      refine r_get dX5_tell_89 fkX5_62 rfl rfl ?_
      obtain ⟨q11, kk⟩ := kk
      refine r_get dX5_tell_92 fkX5_132 q11 rfl ?_
      refine r_p dX5_tell_95 rfl rfl ?_
      refine r_get dX5_tell_96 fkX5_35 rfl rfl ?_
      refine r_p dX5_tell_99 rfl rfl ?_
      refine r_ia dX5_tell_100 rfl q7 ?_
      obtain ⟨q12, kk⟩ := kk
      obtain ⟨q13, kk⟩ := kk
      refine r_ia dX5_tell_101 q12 q13 ?_
      refine r_p dX5_tell_102 rfl rfl ?_
      obtain ⟨q14, kk⟩ := kk
      obtain ⟨q15, kk⟩ := kk
      refine r_ia dX5_tell_103 q14 q15 ?_
      obtain ⟨q16, kk⟩ := kk
      refine r_ias dX5_tell_104 q16 q6 ?_
      refine r_eV (r' := (fun (T2 : St) => x_pl_tell_48 l1 K f (v2 + 1) T2) (sA T (l1 + 5) (v2 : Int32).toNatClampNeg (T.2.2.1 ((123 + 4 * (T.2.2.1 96 (T.2.2.1 (l1 + 4) (v2 : Int32).toNatClampNeg : Int32).toNatClampNeg : Int32).toNatClampNeg) + 1) ((T.2.2.1 (l1 + 3) (v2 : Int32).toNatClampNeg) - (T.2.2.1 ((T.2.1 2) + 8) (T.2.2.1 94 (T.2.2.1 (l1 + 4) (v2 : Int32).toNatClampNeg : Int32).toNatClampNeg : Int32).toNatClampNeg) : Int32).toNatClampNeg))) (by rw [x_pl_tell_48]; rw [if_neg c53_3]) ?_
      generalize sA T (l1 + 5) (v2 : Int32).toNatClampNeg (T.2.2.1 ((123 + 4 * (T.2.2.1 96 (T.2.2.1 (l1 + 4) (v2 : Int32).toNatClampNeg : Int32).toNatClampNeg : Int32).toNatClampNeg) + 1) ((T.2.2.1 (l1 + 3) (v2 : Int32).toNatClampNeg) - (T.2.2.1 ((T.2.1 2) + 8) (T.2.2.1 94 (T.2.2.1 (l1 + 4) (v2 : Int32).toNatClampNeg : Int32).toNatClampNeg : Int32).toNatClampNeg) : Int32).toNatClampNeg) = T2 at kk ⊢
      try dsimp only at kk
      refine r_inc (y := 1) dX5_tell_105 rfl rfl rfl ?_
      refine r_go dX5_tell_108 rfl ?_
      show tR _ _ _ _ [some (.ref 80), some (.ref l1), some (.int (v2 + 1)), some (.int (T.2.2.1 (l1 + 4) (v2 : Int32).toNatClampNeg))] _ _ _ _
      exact r_eV (r' := x_pl_tell_48 l1 K f (v2 + 1) T2) rfl (r_le (le_s (le_s (le_s (le_n (le_0))))) (ih (v2 + 1) T2 kk))
def x_pl_tell (T : St) (p0 : Nat) : St := x_pl_tell_2 p0 (fun (w1_2 : Int32) (T201 : St) => x_pl_tell_48 p0 (fun (w2_2 : Int32) (T202 : St) => T202) 1000 0 T201) 1000 0 T
def ok_pl_tell (T : St) (p0 : Nat) : Prop := ok_pl_tell_2 p0 (fun (w1_2 : Int32) (T201 : St) => ok_pl_tell_48 p0 (fun (w2_2 : Int32) (T202 : St) => True) 1000 0 T201) 1000 0 T
theorem c_pl_tell {X : Nat × (Nat → Int32)} {T : St} (p0 : Nat) (kk : ok_pl_tell T p0) : tC X 1 mX5_tell [.ref 80, .ref p0] T none (x_pl_tell T p0) := by
  unfold ok_pl_tell at kk
  refine tC_of ?_
  refine r_ci (x := 0) dX5_tell_0 rfl ?_
  refine r_p dX5_tell_1 rfl rfl ?_
  show tR _ _ _ _ [some (.ref 80), some (.ref p0), some (.int 0), none] _ _ _ _
  refine r_eV (r' := x_pl_tell_2 p0 (fun (w1_2 : Int32) (T201 : St) => x_pl_tell_48 p0 (fun (w2_2 : Int32) (T202 : St) => T202) 1000 0 T201) 1000 0 T) (by unfold x_pl_tell; rfl) ((c_pl_tell_2 p0 (fun w1_2 T201 kk => ?_) 1000 0 T kk))
  · try dsimp only at kk
    refine r_ci (x := 0) dX5_tell_46 rfl ?_
    refine r_p dX5_tell_47 rfl rfl ?_
    show tR _ _ _ _ [some (.ref 80), some (.ref p0), some (.int 0), none] _ _ _ _
    refine r_eV (r' := x_pl_tell_48 p0 (fun (w2_2 : Int32) (T202 : St) => T202) 1000 0 T201) rfl ((c_pl_tell_48 p0 (fun w2_2 T202 kk => ?_) 1000 0 T201 kk))
    · exact r_eV (r' := T202) rfl (r_rv dX5_tell_111 rfl rfl rfl)
def x_pl_isBuilt_2 (T : St) (l1 : Int32) (K : Int32 → Int32) : Nat → Int32 → Int32
  | 0, _ => 0
  | f + 1, v2 => if (T.1 (T.2.1 2) 4) ≤ v2 then (K v2) else (if (l1 &&& ((1 <<< (v2 &&& 31)) ^^^ (-1))) = l1 then (x_pl_isBuilt_2 T l1 K f (v2 + 1)) else (if (l1 &&& ((1 <<< (v2 &&& 31)) ^^^ (-1))) = 0 then (x_pl_isBuilt_2 T l1 K f (v2 + 1)) else (if (T.2.2.1 105 (l1 &&& ((1 <<< (v2 &&& 31)) ^^^ (-1)) : Int32).toNatClampNeg) = 0 then (0) else (x_pl_isBuilt_2 T l1 K f (v2 + 1)))))
def ok_pl_isBuilt_2 (T : St) (l1 : Int32) (Kk : Int32 → Prop) : Nat → Int32 → Prop
  | 0, _ => False
  | f + 1, v2 => (sh (T.2.1 2) = .inr 1) ∧ (((T.1 (T.2.1 2) 4) ≤ v2 → Kk v2) ∧ (¬ (T.1 (T.2.1 2) 4) ≤ v2 → (((l1 &&& ((1 <<< (v2 &&& 31)) ^^^ (-1))) = l1 → ok_pl_isBuilt_2 T l1 Kk f (v2 + 1)) ∧ (¬ (l1 &&& ((1 <<< (v2 &&& 31)) ^^^ (-1))) = l1 → (((l1 &&& ((1 <<< (v2 &&& 31)) ^^^ (-1))) = 0 → ok_pl_isBuilt_2 T l1 Kk f (v2 + 1)) ∧ (¬ (l1 &&& ((1 <<< (v2 &&& 31)) ^^^ (-1))) = 0 → (vp_in (l1 &&& ((1 <<< (v2 &&& 31)) ^^^ (-1))) 256) ∧ (¬ (T.2.2.1 105 (l1 &&& ((1 <<< (v2 &&& 31)) ^^^ (-1)) : Int32).toNatClampNeg) = 0 → ok_pl_isBuilt_2 T l1 Kk f (v2 + 1))))))))
theorem c_pl_isBuilt_2 {X : Nat × (Nat → Int32)} (T : St) (l1 : Int32) {K : Int32 → Int32} {Kk : Int32 → Prop} (hk : ∀ (v2 : Int32), Kk v2 → tR X 0 mX5_isBuilt 47 [some (.ref 80), some (.int l1), some (.int v2), none] [] T (some (.int (K v2))) T) : ∀ (f : Nat) (v2 : Int32), ok_pl_isBuilt_2 T l1 Kk f v2 → tR X 0 mX5_isBuilt 2 [some (.ref 80), some (.int l1), some (.int v2), none] [] T (some (.int (x_pl_isBuilt_2 T l1 K f v2))) T := by
  intro f
  induction f with
  | zero => intro v2 kk; exact kk.elim
  | succ f ih =>
    intro v2 kk
    rw [ok_pl_isBuilt_2] at kk
    refine r_p dX5_isBuilt_2 rfl rfl ?_
    refine r_p dX5_isBuilt_3 rfl rfl ?_
    refine r_get dX5_isBuilt_4 fkX5_62 rfl rfl ?_
    obtain ⟨q1, kk⟩ := kk
    refine r_get dX5_isBuilt_7 fkX5_78 q1 rfl ?_
    refine r_cge dX5_isBuilt_10 rfl (fun c10_1 => ?_) (fun c10_1 => ?_)
    · have kk := kk.1 c10_1
      show tR _ _ _ _ [some (.ref 80), some (.int l1), some (.int v2), none] _ _ _ _
      exact r_eIp (r' := K v2) (by rw [x_pl_isBuilt_2]; rw [if_pos c10_1]) ((hk v2  kk))
    · have kk := kk.2 c10_1
      refine r_p dX5_isBuilt_13 rfl rfl ?_
      refine r_ci (x := 1) dX5_isBuilt_14 rfl ?_
      refine r_p dX5_isBuilt_15 rfl rfl ?_
      refine r_p dX5_isBuilt_16 rfl rfl ?_
      refine r_ci (x := -1) dX5_isBuilt_17 rfl ?_
      refine r_p dX5_isBuilt_18 rfl rfl ?_
      refine r_p dX5_isBuilt_19 rfl rfl ?_
      refine r_p dX5_isBuilt_20 rfl rfl ?_
      refine r_p dX5_isBuilt_21 rfl rfl ?_
      refine r_p dX5_isBuilt_22 rfl rfl ?_
      refine r_ceq dX5_isBuilt_23 rfl (fun c23_2 => ?_) (fun c23_2 => ?_)
      · have kk := kk.1 c23_2
        refine r_inc (y := 1) dX5_isBuilt_41 rfl rfl rfl ?_
        refine r_go dX5_isBuilt_44 rfl ?_
        show tR _ _ _ _ [some (.ref 80), some (.int l1), some (.int (v2 + 1)), some (.int (l1 &&& ((1 <<< (v2 &&& 31)) ^^^ (-1))))] _ _ _ _
        exact r_eIp (r' := x_pl_isBuilt_2 T l1 K f (v2 + 1)) (by rw [x_pl_isBuilt_2]; rw [if_neg c10_1, if_pos c23_2]) (r_le (le_s (le_s (le_s (le_n (le_0))))) (ih (v2 + 1)  kk))
      · have kk := kk.2 c23_2
        refine r_p dX5_isBuilt_26 rfl rfl ?_
        refine r_ieq dX5_isBuilt_27 rfl (fun c27_3 => ?_) (fun c27_3 => ?_)
        · have kk := kk.1 c27_3
          refine r_inc (y := 1) dX5_isBuilt_41 rfl rfl rfl ?_
          refine r_go dX5_isBuilt_44 rfl ?_
          show tR _ _ _ _ [some (.ref 80), some (.int l1), some (.int (v2 + 1)), some (.int (l1 &&& ((1 <<< (v2 &&& 31)) ^^^ (-1))))] _ _ _ _
          exact r_eIp (r' := x_pl_isBuilt_2 T l1 K f (v2 + 1)) (by rw [x_pl_isBuilt_2]; rw [if_neg c10_1, if_neg c23_2, if_pos c27_3]) (r_le (le_s (le_s (le_s (le_n (le_0))))) (ih (v2 + 1)  kk))
        · have kk := kk.2 c27_3
          refine r_p dX5_isBuilt_30 rfl rfl ?_
          refine r_get dX5_isBuilt_31 fkX5_55 rfl rfl ?_
          refine r_p dX5_isBuilt_34 rfl rfl ?_
          obtain ⟨q2, kk⟩ := kk
          refine r_za dX5_isBuilt_35 rfl q2 ?_
          refine r_ine dX5_isBuilt_36 rfl (fun c36_4 => ?_) (fun c36_4 => ?_)
          · have kk := kk c36_4
            refine r_inc (y := 1) dX5_isBuilt_41 rfl rfl rfl ?_
            refine r_go dX5_isBuilt_44 rfl ?_
            show tR _ _ _ _ [some (.ref 80), some (.int l1), some (.int (v2 + 1)), some (.int (l1 &&& ((1 <<< (v2 &&& 31)) ^^^ (-1))))] _ _ _ _
            exact r_eIp (r' := x_pl_isBuilt_2 T l1 K f (v2 + 1)) (by rw [x_pl_isBuilt_2]; rw [if_neg c10_1, if_neg c23_2, if_neg c27_3, if_neg c36_4]) (r_le (le_s (le_s (le_s (le_n (le_0))))) (ih (v2 + 1)  kk))
          · refine r_ci (x := 0) dX5_isBuilt_39 rfl ?_
            exact r_eIp (r' := 0) (by rw [x_pl_isBuilt_2]; rw [if_neg c10_1, if_neg c23_2, if_neg c27_3, if_pos c36_4]) (r_ri dX5_isBuilt_40 rfl rfl rfl rfl)
def x_pl_isBuilt (T : St) (p0 : Int32) : Int32 := x_pl_isBuilt_2 T p0 (fun (w1_2 : Int32) => 1) 1000 0
def ok_pl_isBuilt (T : St) (p0 : Int32) : Prop := ok_pl_isBuilt_2 T p0 (fun (w1_2 : Int32) => True) 1000 0
theorem c_pl_isBuilt {X : Nat × (Nat → Int32)} {T : St} (p0 : Int32) (kk : ok_pl_isBuilt T p0) : tC X 1 mX5_isBuilt [.ref 80, .int p0] T (some (.int (x_pl_isBuilt T p0))) T := by
  unfold ok_pl_isBuilt at kk
  refine tC_of ?_
  refine r_ci (x := 0) dX5_isBuilt_0 rfl ?_
  refine r_p dX5_isBuilt_1 rfl rfl ?_
  show tR _ _ _ _ [some (.ref 80), some (.int p0), some (.int 0), none] _ _ _ _
  refine r_eIp (r' := x_pl_isBuilt_2 T p0 (fun (w1_2 : Int32) => 1) 1000 0) (by unfold x_pl_isBuilt; rfl) ((c_pl_isBuilt_2 T p0 (fun w1_2 kk => ?_) 1000 0  kk))
  · refine r_ci (x := 1) dX5_isBuilt_47 rfl ?_
    exact r_eIp (r' := 1) rfl (r_ri dX5_isBuilt_48 rfl rfl rfl rfl)
