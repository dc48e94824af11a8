def x_jd_judged_3 (l1 : Nat) (l2 : Nat) (l3 : Nat) (l4 : Int32) (K : Int32 → St → Int32 × St) : Nat → Int32 → St → Int32 × St
  | 0, _, T => (0, T)
  | f + 1, v5, T => if (T.1 l3 1) ≤ v5 then (K v5 T) else (jn (fun (KJ1 : Int32 × St) => if (T.2.2.1 (l3 + 5) (v5 : Int32).toNatClampNeg) < 0 then (KJ1) else (if (T.2.2.1 (l3 + 5) (v5 : Int32).toNatClampNeg) ≤ (60 - (T.2.2.1 (l3 + 6) (v5 : Int32).toNatClampNeg)) then (x_jd_judged_3 l1 l2 l3 l4 K f (v5 + 1) T) else (KJ1))) ((1 + (10 * v5), T)))
def ok_jd_judged_3 (l1 : Nat) (l2 : Nat) (l3 : Nat) (l4 : Int32) (Kk : Int32 → St → Prop) : Nat → Int32 → St → Prop
  | 0, _, _ => False
  | f + 1, v5, T => (sh l3 = .inr 7) ∧ (((T.1 l3 1) ≤ v5 → Kk v5 T) ∧ (¬ (T.1 l3 1) ≤ v5 → (sh (l3 + 5) = .inl (0, 12)) ∧ (vp_in v5 12) ∧ (¬ (T.2.2.1 (l3 + 5) (v5 : Int32).toNatClampNeg) < 0 → (sh (l3 + 6) = .inl (0, 12)) ∧ ((T.2.2.1 (l3 + 5) (v5 : Int32).toNatClampNeg) ≤ (60 - (T.2.2.1 (l3 + 6) (v5 : Int32).toNatClampNeg)) → ok_jd_judged_3 l1 l2 l3 l4 Kk f (v5 + 1) T))))
theorem c_jd_judged_3 {X : Nat × (Nat → Int32)} (l1 : Nat) (l2 : Nat) (l3 : Nat) (l4 : Int32) {K : Int32 → St → Int32 × St} {Kk : Int32 → St → Prop} (hk : ∀ (v5 : Int32) (T : St), Kk v5 T → tR X 4 mX2_judged 56 [some (.ref 527), some (.ref l1), some (.ref l2), some (.ref l3), some (.int l4), some (.int v5), none, none] [] T (some (.int (K v5 T).1)) ((K v5 T).2)) : ∀ (f : Nat) (v5 : Int32) (T : St), ok_jd_judged_3 l1 l2 l3 l4 Kk f v5 T → tR X 4 mX2_judged 3 [some (.ref 527), some (.ref l1), some (.ref l2), some (.ref l3), some (.int l4), some (.int v5), none, none] [] T (some (.int (x_jd_judged_3 l1 l2 l3 l4 K f v5 T).1)) ((x_jd_judged_3 l1 l2 l3 l4 K f v5 T).2) := by
  intro f
  induction f with
  | zero => intro v5 T kk; exact kk.elim
  | succ f ih =>
    intro v5 T kk
    rw [ok_jd_judged_3] at kk
    refine r_p dX2_judged_3 rfl rfl ?_
    refine r_p dX2_judged_5 rfl rfl ?_
    obtain ⟨q1, kk⟩ := kk
    refine r_get dX2_judged_6 fkX2_36 q1 rfl ?_
    refine r_cge dX2_judged_9 rfl (fun c9_1 => ?_) (fun c9_1 => ?_)
    · have kk := kk.1 c9_1
      show tR _ _ _ _ [some (.ref 527), some (.ref l1), some (.ref l2), some (.ref l3), some (.int l4), some (.int v5), none, none] _ _ _ _
      exact r_eI (r' := K v5 T) (by rw [x_jd_judged_3]; rw [if_pos c9_1]) ((hk v5 T kk))
    · have kk := kk.2 c9_1
      refine r_p dX2_judged_12 rfl rfl ?_
      refine r_get dX2_judged_13 fkX2_42 q1 rfl ?_
      refine r_p dX2_judged_16 rfl rfl ?_
      obtain ⟨q2, kk⟩ := kk
      obtain ⟨q3, kk⟩ := kk
      refine r_ia dX2_judged_18 q2 q3 ?_
      obtain ⟨KJ1, hKJ1⟩ : ∃ q : Int32 × St, q = ((1 + (10 * v5), T)) := ⟨_, rfl⟩
      have hJ1 : tR X 4 mX2_judged 42 [some (.ref 527), some (.ref l1), some (.ref l2), some (.ref l3), some (.int l4), some (.int v5), none, none] [] T (some (.int KJ1.1)) KJ1.2 := by
        rw [hKJ1]
        refine r_ci (x := 1) dX2_judged_42 rfl ?_
        refine r_cb (x := 10) dX2_judged_43 rfl ?_
        refine r_p dX2_judged_45 rfl rfl ?_
        refine r_p dX2_judged_47 rfl rfl ?_
        refine r_p dX2_judged_48 rfl rfl ?_
        exact r_eI (r' := (1 + (10 * v5), T)) rfl (r_ri dX2_judged_49 rfl rfl rfl rfl)
      refine r_eI (r' := jn (fun (KJ1 : Int32 × St) => if (T.2.2.1 (l3 + 5) (v5 : Int32).toNatClampNeg) < 0 then (KJ1) else (if (T.2.2.1 (l3 + 5) (v5 : Int32).toNatClampNeg) ≤ (60 - (T.2.2.1 (l3 + 6) (v5 : Int32).toNatClampNeg)) then (x_jd_judged_3 l1 l2 l3 l4 K f (v5 + 1) T) else (KJ1))) KJ1) (by rw [hKJ1]; rw [x_jd_judged_3]; rw [if_neg c9_1]) ?_
      refine r_ilt dX2_judged_19 rfl (fun c19_4 => ?_) (fun c19_4 => ?_)
      · show tR _ _ _ _ [some (.ref 527), some (.ref l1), some (.ref l2), some (.ref l3), some (.int l4), some (.int v5), none, none] [] _ _ _
        exact r_eI (r' := KJ1) (by simp only [jn]; rw [if_pos c19_4]) ((hJ1 ))
      · have kk := kk c19_4
        refine r_p dX2_judged_22 rfl rfl ?_
        refine r_get dX2_judged_23 fkX2_42 q1 rfl ?_
        refine r_p dX2_judged_26 rfl rfl ?_
        refine r_ia dX2_judged_28 q2 q3 ?_
        refine r_cb (x := 60) dX2_judged_29 rfl ?_
        refine r_p dX2_judged_31 rfl rfl ?_
        refine r_get dX2_judged_32 fkX2_46 q1 rfl ?_
        refine r_p dX2_judged_35 rfl rfl ?_
        obtain ⟨q5, kk⟩ := kk
        refine r_ia dX2_judged_37 q5 q3 ?_
        refine r_p dX2_judged_38 rfl rfl ?_
        refine r_cle dX2_judged_39 rfl (fun c39_5 => ?_) (fun c39_5 => ?_)
        · have kk := kk c39_5
          refine r_inc (y := 1) dX2_judged_50 rfl rfl rfl ?_
          refine r_go dX2_judged_53 rfl ?_
          show tR _ _ _ _ [some (.ref 527), some (.ref l1), some (.ref l2), some (.ref l3), some (.int l4), some (.int (v5 + 1)), none, none] _ _ _ _
          exact r_eI (r' := x_jd_judged_3 l1 l2 l3 l4 K f (v5 + 1) T) (by simp only [jn]; rw [if_neg c19_4, if_pos c39_5]) ((ih (v5 + 1) T kk))
        · show tR _ _ _ _ [some (.ref 527), some (.ref l1), some (.ref l2), some (.ref l3), some (.int l4), some (.int v5), none, none] [] _ _ _
          exact r_eI (r' := KJ1) (by simp only [jn]; rw [if_neg c19_4, if_neg c39_5]) ((hJ1 ))
def x_jd_judged_59 (l1 : Nat) (l2 : Nat) (l3 : Nat) (l4 : Int32) (K : Int32 → St → Int32 × St) : Nat → Int32 → St → Int32 × St
  | 0, _, T => (0, T)
  | f + 1, v5, T => if (T.1 l3 1) ≤ v5 then (K v5 T) else (if (x_ro_isFirst T l3 v5) = 0 then (if (x_jd_followsInTime T l1 l3 v5) = 0 then (2 + (10 * v5), T) else (x_jd_judged_59 l1 l2 l3 l4 K f (v5 + 1) T)) else (x_jd_judged_59 l1 l2 l3 l4 K f (v5 + 1) T))
def ok_jd_judged_59 (l1 : Nat) (l2 : Nat) (l3 : Nat) (l4 : Int32) (Kk : Int32 → St → Prop) : Nat → Int32 → St → Prop
  | 0, _, _ => False
  | f + 1, v5, T => (sh l3 = .inr 7) ∧ (((T.1 l3 1) ≤ v5 → Kk v5 T) ∧ (¬ (T.1 l3 1) ≤ v5 → (ok_ro_isFirst T l3 v5) ∧ (((x_ro_isFirst T l3 v5) = 0 → (ok_jd_followsInTime T l1 l3 v5) ∧ (¬ (x_jd_followsInTime T l1 l3 v5) = 0 → ok_jd_judged_59 l1 l2 l3 l4 Kk f (v5 + 1) T)) ∧ (¬ (x_ro_isFirst T l3 v5) = 0 → ok_jd_judged_59 l1 l2 l3 l4 Kk f (v5 + 1) T))))
theorem c_jd_judged_59 {X : Nat × (Nat → Int32)} (l1 : Nat) (l2 : Nat) (l3 : Nat) (l4 : Int32) {K : Int32 → St → Int32 × St} {Kk : Int32 → St → Prop} (hk : ∀ (v5 : Int32) (T : St), Kk v5 T → tR X 4 mX2_judged 102 [some (.ref 527), some (.ref l1), some (.ref l2), some (.ref l3), some (.int l4), some (.int v5), none, none] [] T (some (.int (K v5 T).1)) ((K v5 T).2)) : ∀ (f : Nat) (v5 : Int32) (T : St), ok_jd_judged_59 l1 l2 l3 l4 Kk f v5 T → tR X 4 mX2_judged 59 [some (.ref 527), some (.ref l1), some (.ref l2), some (.ref l3), some (.int l4), some (.int v5), none, none] [] T (some (.int (x_jd_judged_59 l1 l2 l3 l4 K f v5 T).1)) ((x_jd_judged_59 l1 l2 l3 l4 K f v5 T).2) := by
  intro f
  induction f with
  | zero => intro v5 T kk; exact kk.elim
  | succ f ih =>
    intro v5 T kk
    rw [ok_jd_judged_59] at kk
    refine r_p dX2_judged_59 rfl rfl ?_
    refine r_p dX2_judged_61 rfl rfl ?_
    obtain ⟨q6, kk⟩ := kk
    refine r_get dX2_judged_62 fkX2_36 q6 rfl ?_
    refine r_cge dX2_judged_65 rfl (fun c65_6 => ?_) (fun c65_6 => ?_)
    · have kk := kk.1 c65_6
      show tR _ _ _ _ [some (.ref 527), some (.ref l1), some (.ref l2), some (.ref l3), some (.int l4), some (.int v5), none, none] _ _ _ _
      exact r_eI (r' := K v5 T) (by rw [x_jd_judged_59]; rw [if_pos c65_6]) ((hk v5 T kk))
    · have kk := kk.2 c65_6
      refine r_p dX2_judged_68 rfl rfl ?_
      refine r_p dX2_judged_69 rfl rfl ?_
      obtain ⟨q7, kk⟩ := kk
      refine r_cv (d1 := 1) dX2_judged_71 cvX2_49 rfl rfl q6 rfl (Nat.le_of_ble_eq_true rfl) (Nat.le_of_ble_eq_true rfl) (Nat.le_of_ble_eq_true rfl) (c_ro_isFirst l3 v5 q7) ?_
      refine r_ine dX2_judged_74 rfl (fun c74_7 => ?_) (fun c74_7 => ?_)
      · have kk := kk.2 c74_7
        refine r_inc (y := 1) dX2_judged_96 rfl rfl rfl ?_
        refine r_go dX2_judged_99 rfl ?_
        show tR _ _ _ _ [some (.ref 527), some (.ref l1), some (.ref l2), some (.ref l3), some (.int l4), some (.int (v5 + 1)), none, none] _ _ _ _
        exact r_eI (r' := x_jd_judged_59 l1 l2 l3 l4 K f (v5 + 1) T) (by rw [x_jd_judged_59]; rw [if_neg c65_6, if_neg c74_7]) ((ih (v5 + 1) T kk))
      · have kk := kk.1 c74_7
        refine r_p dX2_judged_77 rfl rfl ?_
        refine r_p dX2_judged_78 rfl rfl ?_
        refine r_p dX2_judged_79 rfl rfl ?_
        refine r_p dX2_judged_80 rfl rfl ?_
        obtain ⟨q8, kk⟩ := kk
        refine r_cv (d1 := 1) dX2_judged_82 cvX2_53 rfl rfl rfl rfl (Nat.le_of_ble_eq_true rfl) (Nat.le_of_ble_eq_true rfl) (Nat.le_of_ble_eq_true rfl) (c_jd_followsInTime l1 l3 v5 q8) ?_
        refine r_ine dX2_judged_85 rfl (fun c85_8 => ?_) (fun c85_8 => ?_)
        · have kk := kk c85_8
          refine r_inc (y := 1) dX2_judged_96 rfl rfl rfl ?_
          refine r_go dX2_judged_99 rfl ?_
          show tR _ _ _ _ [some (.ref 527), some (.ref l1), some (.ref l2), some (.ref l3), some (.int l4), some (.int (v5 + 1)), none, none] _ _ _ _
          exact r_eI (r' := x_jd_judged_59 l1 l2 l3 l4 K f (v5 + 1) T) (by rw [x_jd_judged_59]; rw [if_neg c65_6, if_pos c74_7, if_neg c85_8]) ((ih (v5 + 1) T kk))
        · refine r_ci (x := 2) dX2_judged_88 rfl ?_
          refine r_cb (x := 10) dX2_judged_89 rfl ?_
          refine r_p dX2_judged_91 rfl rfl ?_
          refine r_p dX2_judged_93 rfl rfl ?_
          refine r_p dX2_judged_94 rfl rfl ?_
          exact r_eI (r' := (2 + (10 * v5), T)) (by rw [x_jd_judged_59]; rw [if_neg c65_6, if_pos c74_7, if_pos c85_8]) (r_ri dX2_judged_95 rfl rfl rfl rfl)
def x_jd_judged_105 (l1 : Nat) (l2 : Nat) (l3 : Nat) (l4 : Int32) (K : Int32 → St → Int32 × St) : Nat → Int32 → St → Int32 × St
  | 0, _, T => (0, T)
  | f + 1, v5, T => if (T.1 l3 1) ≤ v5 then (K v5 T) else (jn (fun (KJ2 : Int32 × St) => if ((l4 - (T.2.2.1 (l3 + 5) (v5 : Int32).toNatClampNeg)) - (T.2.2.1 (l3 + 6) (v5 : Int32).toNatClampNeg)) < 0 then (KJ2) else (if (T.2.2.1 (l1 + 4) (T.2.2.1 (l3 + 1) (T.2.2.1 (l3 + 4) (v5 : Int32).toNatClampNeg : Int32).toNatClampNeg : Int32).toNatClampNeg) < ((l4 - (T.2.2.1 (l3 + 5) (v5 : Int32).toNatClampNeg)) - (T.2.2.1 (l3 + 6) (v5 : Int32).toNatClampNeg)) then (KJ2) else (if (x_ro_isLast T l3 v5) = 0 then (x_jd_judged_105 l1 l2 l3 l4 K f (v5 + 1) T) else (if 1 = 0 then (3 + (10 * v5), T) else (x_jd_judged_105 l1 l2 l3 l4 K f (v5 + 1) T))))) (if (x_ro_isLast T l3 v5) = 0 then (x_jd_judged_105 l1 l2 l3 l4 K f (v5 + 1) T) else (if 0 = 0 then (3 + (10 * v5), T) else (x_jd_judged_105 l1 l2 l3 l4 K f (v5 + 1) T))))
def ok_jd_judged_105 (l1 : Nat) (l2 : Nat) (l3 : Nat) (l4 : Int32) (Kk : Int32 → St → Prop) : Nat → Int32 → St → Prop
  | 0, _, _ => False
  | f + 1, v5, T => (sh l3 = .inr 7) ∧ (((T.1 l3 1) ≤ v5 → Kk v5 T) ∧ (¬ (T.1 l3 1) ≤ v5 → (sh (l3 + 5) = .inl (0, 12)) ∧ (vp_in v5 12) ∧ (sh (l3 + 6) = .inl (0, 12)) ∧ jn (fun (OJ2 : Prop) => ((((l4 - (T.2.2.1 (l3 + 5) (v5 : Int32).toNatClampNeg)) - (T.2.2.1 (l3 + 6) (v5 : Int32).toNatClampNeg)) < 0 → OJ2) ∧ (¬ ((l4 - (T.2.2.1 (l3 + 5) (v5 : Int32).toNatClampNeg)) - (T.2.2.1 (l3 + 6) (v5 : Int32).toNatClampNeg)) < 0 → (sh l1 = .inr 1) ∧ (sh (l3 + 4) = .inl (0, 12)) ∧ (sh (l3 + 1) = .inl (0, 4)) ∧ (vp_in (T.2.2.1 (l3 + 4) (v5 : Int32).toNatClampNeg) 4) ∧ (sh (l1 + 4) = .inl (0, 8)) ∧ (vp_in (T.2.2.1 (l3 + 1) (T.2.2.1 (l3 + 4) (v5 : Int32).toNatClampNeg : Int32).toNatClampNeg) 8) ∧ (((T.2.2.1 (l1 + 4) (T.2.2.1 (l3 + 1) (T.2.2.1 (l3 + 4) (v5 : Int32).toNatClampNeg : Int32).toNatClampNeg : Int32).toNatClampNeg) < ((l4 - (T.2.2.1 (l3 + 5) (v5 : Int32).toNatClampNeg)) - (T.2.2.1 (l3 + 6) (v5 : Int32).toNatClampNeg)) → OJ2) ∧ (¬ (T.2.2.1 (l1 + 4) (T.2.2.1 (l3 + 1) (T.2.2.1 (l3 + 4) (v5 : Int32).toNatClampNeg : Int32).toNatClampNeg : Int32).toNatClampNeg) < ((l4 - (T.2.2.1 (l3 + 5) (v5 : Int32).toNatClampNeg)) - (T.2.2.1 (l3 + 6) (v5 : Int32).toNatClampNeg)) → (ok_ro_isLast T l3 v5) ∧ (((x_ro_isLast T l3 v5) = 0 → ok_jd_judged_105 l1 l2 l3 l4 Kk f (v5 + 1) T) ∧ (¬ (x_ro_isLast T l3 v5) = 0 → (¬ 1 = 0 → ok_jd_judged_105 l1 l2 l3 l4 Kk f (v5 + 1) T)))))))) ((ok_ro_isLast T l3 v5) ∧ (sh l3 = .inr 7) ∧ (((x_ro_isLast T l3 v5) = 0 → ok_jd_judged_105 l1 l2 l3 l4 Kk f (v5 + 1) T) ∧ (¬ (x_ro_isLast T l3 v5) = 0 → (¬ 0 = 0 → ok_jd_judged_105 l1 l2 l3 l4 Kk f (v5 + 1) T))))))
theorem c_jd_judged_105 {X : Nat × (Nat → Int32)} (l1 : Nat) (l2 : Nat) (l3 : Nat) (l4 : Int32) {K : Int32 → St → Int32 × St} {Kk : Int32 → St → Prop} (hk : ∀ (v5 : Int32) (T : St), Kk v5 T → tR X 4 mX2_judged 196 [some (.ref 527), some (.ref l1), some (.ref l2), some (.ref l3), some (.int l4), some (.int v5), none, none] [] T (some (.int (K v5 T).1)) ((K v5 T).2)) : ∀ (f : Nat) (v5 : Int32) (T : St), ok_jd_judged_105 l1 l2 l3 l4 Kk f v5 T → tR X 4 mX2_judged 105 [some (.ref 527), some (.ref l1), some (.ref l2), some (.ref l3), some (.int l4), some (.int v5), none, none] [] T (some (.int (x_jd_judged_105 l1 l2 l3 l4 K f v5 T).1)) ((x_jd_judged_105 l1 l2 l3 l4 K f v5 T).2) := by
  intro f
  induction f with
  | zero => intro v5 T kk; exact kk.elim
  | succ f ih =>
    intro v5 T kk
    rw [ok_jd_judged_105] at kk
    refine r_p dX2_judged_105 rfl rfl ?_
    refine r_p dX2_judged_107 rfl rfl ?_
    obtain ⟨q9, kk⟩ := kk
    refine r_get dX2_judged_108 fkX2_36 q9 rfl ?_
    refine r_cge dX2_judged_111 rfl (fun c111_9 => ?_) (fun c111_9 => ?_)
    · have kk := kk.1 c111_9
      show tR _ _ _ _ [some (.ref 527), some (.ref l1), some (.ref l2), some (.ref l3), some (.int l4), some (.int v5), none, none] _ _ _ _
      exact r_eI (r' := K v5 T) (by rw [x_jd_judged_105]; rw [if_pos c111_9]) ((hk v5 T kk))
    · have kk := kk.2 c111_9
      refine r_p dX2_judged_114 rfl rfl ?_
      refine r_p dX2_judged_116 rfl rfl ?_
      refine r_get dX2_judged_117 fkX2_42 q9 rfl ?_
      refine r_p dX2_judged_120 rfl rfl ?_
      obtain ⟨q10, kk⟩ := kk
      obtain ⟨q11, kk⟩ := kk
      refine r_ia dX2_judged_122 q10 q11 ?_
      refine r_p dX2_judged_123 rfl rfl ?_
      refine r_p dX2_judged_124 rfl rfl ?_
      refine r_get dX2_judged_125 fkX2_46 q9 rfl ?_
      refine r_p dX2_judged_128 rfl rfl ?_
      obtain ⟨q12, kk⟩ := kk
      refine r_ia dX2_judged_130 q12 q11 ?_
      refine r_p dX2_judged_131 rfl rfl ?_
      refine r_p dX2_judged_132 rfl rfl ?_
      refine r_p dX2_judged_134 rfl rfl ?_
      obtain ⟨KJ2, hKJ2⟩ : ∃ q : Int32 × St, q = (if (x_ro_isLast T l3 v5) = 0 then (x_jd_judged_105 l1 l2 l3 l4 K f (v5 + 1) T) else (if 0 = 0 then (3 + (10 * v5), T) else (x_jd_judged_105 l1 l2 l3 l4 K f (v5 + 1) T))) := ⟨_, rfl⟩
      obtain ⟨OJ2, hOJ2⟩ : ∃ q : Prop, q = ((ok_ro_isLast T l3 v5) ∧ (sh l3 = .inr 7) ∧ (((x_ro_isLast T l3 v5) = 0 → ok_jd_judged_105 l1 l2 l3 l4 Kk f (v5 + 1) T) ∧ (¬ (x_ro_isLast T l3 v5) = 0 → (¬ 0 = 0 → ok_jd_judged_105 l1 l2 l3 l4 Kk f (v5 + 1) T)))) := ⟨_, rfl⟩
      rw [← hOJ2] at kk
      simp only [jn] at kk
      have hJ2 : OJ2 → tR X 4 mX2_judged 165 [some (.ref 527), some (.ref l1), some (.ref l2), some (.ref l3), some (.int l4), some (.int v5), some (.int ((l4 - (T.2.2.1 (l3 + 5) (v5 : Int32).toNatClampNeg)) - (T.2.2.1 (l3 + 6) (v5 : Int32).toNatClampNeg))), none] [] T (some (.int KJ2.1)) KJ2.2 := by
        intro  kk
        rw [hOJ2] at kk
        try dsimp only at kk
        rw [hKJ2]
        refine r_ci (x := 0) dX2_judged_165 rfl ?_
        refine r_p dX2_judged_166 rfl rfl ?_
        refine r_p dX2_judged_168 rfl rfl ?_
        refine r_p dX2_judged_169 rfl rfl ?_
        obtain ⟨q20, kk⟩ := kk
        obtain ⟨q21, kk⟩ := kk
        refine r_cv (d1 := 1) dX2_judged_171 cvX2_68 rfl rfl q21 rfl (Nat.le_of_ble_eq_true rfl) (Nat.le_of_ble_eq_true rfl) (Nat.le_of_ble_eq_true rfl) (c_ro_isLast l3 v5 q20) ?_
        refine r_ieq dX2_judged_174 rfl (fun c174_14 => ?_) (fun c174_14 => ?_)
        · have kk := kk.1 c174_14
          refine r_inc (y := 1) dX2_judged_190 rfl rfl rfl ?_
          refine r_go dX2_judged_193 rfl ?_
          show tR _ _ _ _ [some (.ref 527), some (.ref l1), some (.ref l2), some (.ref l3), some (.int l4), some (.int (v5 + 1)), some (.int ((l4 - (T.2.2.1 (l3 + 5) (v5 : Int32).toNatClampNeg)) - (T.2.2.1 (l3 + 6) (v5 : Int32).toNatClampNeg))), some (.int 0)] _ _ _ _
          exact r_eI (r' := x_jd_judged_105 l1 l2 l3 l4 K f (v5 + 1) T) (by first | rw [if_pos c174_14] | (dsimp only; rw [if_pos c174_14])) (r_le (le_s (le_s (le_s (le_s (le_s (le_s (le_n (le_n (le_0))))))))) (ih (v5 + 1) T kk))
        · have kk := kk.2 c174_14
          refine r_p dX2_judged_177 rfl rfl ?_
          refine r_ine dX2_judged_179 rfl (fun c179_15 => ?_) (fun c179_15 => ?_)
          · have kk := kk c179_15
            refine r_inc (y := 1) dX2_judged_190 rfl rfl rfl ?_
            refine r_go dX2_judged_193 rfl ?_
            show tR _ _ _ _ [some (.ref 527), some (.ref l1), some (.ref l2), some (.ref l3), some (.int l4), some (.int (v5 + 1)), some (.int ((l4 - (T.2.2.1 (l3 + 5) (v5 : Int32).toNatClampNeg)) - (T.2.2.1 (l3 + 6) (v5 : Int32).toNatClampNeg))), some (.int 0)] _ _ _ _
            exact r_eI (r' := x_jd_judged_105 l1 l2 l3 l4 K f (v5 + 1) T) (by first | rw [if_neg c174_14, if_neg c179_15] | (dsimp only; rw [if_neg c174_14, if_neg c179_15])) (r_le (le_s (le_s (le_s (le_s (le_s (le_s (le_n (le_n (le_0))))))))) (ih (v5 + 1) T kk))
          · refine r_ci (x := 3) dX2_judged_182 rfl ?_
            refine r_cb (x := 10) dX2_judged_183 rfl ?_
            refine r_p dX2_judged_185 rfl rfl ?_
            refine r_p dX2_judged_187 rfl rfl ?_
            refine r_p dX2_judged_188 rfl rfl ?_
            exact r_eI (r' := (3 + (10 * v5), T)) (by first | rw [if_neg c174_14, if_pos c179_15] | (dsimp only; rw [if_neg c174_14, if_pos c179_15])) (r_ri dX2_judged_189 rfl rfl rfl rfl)
      refine r_eI (r' := jn (fun (KJ2 : Int32 × St) => if ((l4 - (T.2.2.1 (l3 + 5) (v5 : Int32).toNatClampNeg)) - (T.2.2.1 (l3 + 6) (v5 : Int32).toNatClampNeg)) < 0 then (KJ2) else (if (T.2.2.1 (l1 + 4) (T.2.2.1 (l3 + 1) (T.2.2.1 (l3 + 4) (v5 : Int32).toNatClampNeg : Int32).toNatClampNeg : Int32).toNatClampNeg) < ((l4 - (T.2.2.1 (l3 + 5) (v5 : Int32).toNatClampNeg)) - (T.2.2.1 (l3 + 6) (v5 : Int32).toNatClampNeg)) then (KJ2) else (if (x_ro_isLast T l3 v5) = 0 then (x_jd_judged_105 l1 l2 l3 l4 K f (v5 + 1) T) else (if 1 = 0 then (3 + (10 * v5), T) else (x_jd_judged_105 l1 l2 l3 l4 K f (v5 + 1) T))))) KJ2) (by rw [hKJ2]; rw [x_jd_judged_105]; rw [if_neg c111_9]) ?_
      refine r_ilt dX2_judged_136 rfl (fun c136_16 => ?_) (fun c136_16 => ?_)
      · have kk := kk.1 c136_16
        show tR _ _ _ _ [some (.ref 527), some (.ref l1), some (.ref l2), some (.ref l3), some (.int l4), some (.int v5), some (.int ((l4 - (T.2.2.1 (l3 + 5) (v5 : Int32).toNatClampNeg)) - (T.2.2.1 (l3 + 6) (v5 : Int32).toNatClampNeg))), none] [] _ _ _
        exact r_eI (r' := KJ2) (by simp only [jn]; rw [if_pos c136_16]) ((hJ2  kk))
      · have kk := kk.2 c136_16
        refine r_p dX2_judged_139 rfl rfl ?_
        refine r_p dX2_judged_141 rfl rfl ?_
        obtain ⟨q22, kk⟩ := kk
        refine r_get dX2_judged_142 fkX2_57 q22 rfl ?_
        refine r_p dX2_judged_145 rfl rfl ?_
        refine r_get dX2_judged_146 fkX2_62 q9 rfl ?_
        refine r_p dX2_judged_149 rfl rfl ?_
        refine r_get dX2_judged_150 fkX2_65 q9 rfl ?_
        refine r_p dX2_judged_153 rfl rfl ?_
        obtain ⟨q23, kk⟩ := kk
        refine r_ia dX2_judged_155 q23 q11 ?_
        obtain ⟨q24, kk⟩ := kk
        obtain ⟨q25, kk⟩ := kk
        refine r_ia dX2_judged_156 q24 q25 ?_
        obtain ⟨q26, kk⟩ := kk
        obtain ⟨q27, kk⟩ := kk
        refine r_ia dX2_judged_157 q26 q27 ?_
        refine r_cgt dX2_judged_158 rfl (fun c158_17 => ?_) (fun c158_17 => ?_)
        · have kk := kk.1 c158_17
          show tR _ _ _ _ [some (.ref 527), some (.ref l1), some (.ref l2), some (.ref l3), some (.int l4), some (.int v5), some (.int ((l4 - (T.2.2.1 (l3 + 5) (v5 : Int32).toNatClampNeg)) - (T.2.2.1 (l3 + 6) (v5 : Int32).toNatClampNeg))), none] [] _ _ _
          exact r_eI (r' := KJ2) (by simp only [jn]; rw [if_neg c136_16, if_pos c158_17]) ((hJ2  kk))
        · have kk := kk.2 c158_17
          refine r_ci (x := 1) dX2_judged_161 rfl ?_
          refine r_go dX2_judged_162 rfl ?_
          refine r_p dX2_judged_166 rfl rfl ?_
          refine r_p dX2_judged_168 rfl rfl ?_
          refine r_p dX2_judged_169 rfl rfl ?_
          obtain ⟨q28, kk⟩ := kk
          refine r_cv (d1 := 1) dX2_judged_171 cvX2_68 rfl rfl q9 rfl (Nat.le_of_ble_eq_true rfl) (Nat.le_of_ble_eq_true rfl) (Nat.le_of_ble_eq_true rfl) (c_ro_isLast l3 v5 q28) ?_
          refine r_ieq dX2_judged_174 rfl (fun c174_18 => ?_) (fun c174_18 => ?_)
          · have kk := kk.1 c174_18
            refine r_inc (y := 1) dX2_judged_190 rfl rfl rfl ?_
            refine r_go dX2_judged_193 rfl ?_
            show tR _ _ _ _ [some (.ref 527), some (.ref l1), some (.ref l2), some (.ref l3), some (.int l4), some (.int (v5 + 1)), some (.int ((l4 - (T.2.2.1 (l3 + 5) (v5 : Int32).toNatClampNeg)) - (T.2.2.1 (l3 + 6) (v5 : Int32).toNatClampNeg))), some (.int 1)] _ _ _ _
            exact r_eI (r' := x_jd_judged_105 l1 l2 l3 l4 K f (v5 + 1) T) (by simp only [jn]; rw [if_neg c136_16, if_neg c158_17, if_pos c174_18]) (r_le (le_s (le_s (le_s (le_s (le_s (le_s (le_n (le_n (le_0))))))))) (ih (v5 + 1) T kk))
          · have kk := kk.2 c174_18
            refine r_p dX2_judged_177 rfl rfl ?_
            refine r_ine dX2_judged_179 rfl (fun c179_19 => ?_) (fun c179_19 => ?_)
            · have kk := kk c179_19
              refine r_inc (y := 1) dX2_judged_190 rfl rfl rfl ?_
              refine r_go dX2_judged_193 rfl ?_
              show tR _ _ _ _ [some (.ref 527), some (.ref l1), some (.ref l2), some (.ref l3), some (.int l4), some (.int (v5 + 1)), some (.int ((l4 - (T.2.2.1 (l3 + 5) (v5 : Int32).toNatClampNeg)) - (T.2.2.1 (l3 + 6) (v5 : Int32).toNatClampNeg))), some (.int 1)] _ _ _ _
              exact r_eI (r' := x_jd_judged_105 l1 l2 l3 l4 K f (v5 + 1) T) (by simp only [jn]; rw [if_neg c136_16, if_neg c158_17, if_neg c174_18, if_neg c179_19]) (r_le (le_s (le_s (le_s (le_s (le_s (le_s (le_n (le_n (le_0))))))))) (ih (v5 + 1) T kk))
            · refine r_ci (x := 3) dX2_judged_182 rfl ?_
              refine r_cb (x := 10) dX2_judged_183 rfl ?_
              refine r_p dX2_judged_185 rfl rfl ?_
              refine r_p dX2_judged_187 rfl rfl ?_
              refine r_p dX2_judged_188 rfl rfl ?_
              exact r_eI (r' := (3 + (10 * v5), T)) (by simp only [jn]; rw [if_neg c136_16, if_neg c158_17, if_neg c174_18, if_pos c179_19]) (r_ri dX2_judged_189 rfl rfl rfl rfl)
def x_jd_judged (T : St) (p0 : Nat) (p1 : Nat) (p2 : Nat) (p3 : Int32) : Int32 × St := x_jd_judged_3 p0 p1 p2 p3 (fun (w1_5 : Int32) (T201 : St) => x_jd_judged_59 p0 p1 p2 p3 (fun (w2_5 : Int32) (T202 : St) => x_jd_judged_105 p0 p1 p2 p3 (fun (w3_5 : Int32) (T203 : St) => ((x_jd_firstLack T203 p0 p1 p2).1, (x_jd_firstLack T203 p0 p1 p2).2)) 1000 0 T202) 1000 0 T201) 1000 0 T
def ok_jd_judged (T : St) (p0 : Nat) (p1 : Nat) (p2 : Nat) (p3 : Int32) : Prop := ok_jd_judged_3 p0 p1 p2 p3 (fun (w1_5 : Int32) (T201 : St) => ok_jd_judged_59 p0 p1 p2 p3 (fun (w2_5 : Int32) (T202 : St) => ok_jd_judged_105 p0 p1 p2 p3 (fun (w3_5 : Int32) (T203 : St) => (ok_jd_firstLack T203 p0 p1 p2) ∧ True) 1000 0 T202) 1000 0 T201) 1000 0 T
theorem c_jd_judged {X : Nat × (Nat → Int32)} {T : St} (p0 : Nat) (p1 : Nat) (p2 : Nat) (p3 : Int32) (kk : ok_jd_judged T p0 p1 p2 p3) : tC X 5 mX2_judged [.ref 527, .ref p0, .ref p1, .ref p2, .int p3] T (some (.int (x_jd_judged T p0 p1 p2 p3).1)) ((x_jd_judged T p0 p1 p2 p3).2) := by
  unfold ok_jd_judged at kk
  refine tC_of ?_
  refine r_ci (x := 0) dX2_judged_0 rfl ?_
  refine r_p dX2_judged_1 rfl rfl ?_
  show tR _ _ _ _ [some (.ref 527), some (.ref p0), some (.ref p1), some (.ref p2), some (.int p3), some (.int 0), none, none] _ _ _ _
  refine r_eI (r' := x_jd_judged_3 p0 p1 p2 p3 (fun (w1_5 : Int32) (T201 : St) => x_jd_judged_59 p0 p1 p2 p3 (fun (w2_5 : Int32) (T202 : St) => x_jd_judged_105 p0 p1 p2 p3 (fun (w3_5 : Int32) (T203 : St) => ((x_jd_firstLack T203 p0 p1 p2).1, (x_jd_firstLack T203 p0 p1 p2).2)) 1000 0 T202) 1000 0 T201) 1000 0 T) (by unfold x_jd_judged; rfl) ((c_jd_judged_3 p0 p1 p2 p3 (fun w1_5 T201 kk => ?_) 1000 0 T kk))
  · try dsimp only at kk
    refine r_ci (x := 0) dX2_judged_56 rfl ?_
    refine r_p dX2_judged_57 rfl rfl ?_
    show tR _ _ _ _ [some (.ref 527), some (.ref p0), some (.ref p1), some (.ref p2), some (.int p3), some (.int 0), none, none] _ _ _ _
    refine r_eI (r' := x_jd_judged_59 p0 p1 p2 p3 (fun (w2_5 : Int32) (T202 : St) => x_jd_judged_105 p0 p1 p2 p3 (fun (w3_5 : Int32) (T203 : St) => ((x_jd_firstLack T203 p0 p1 p2).1, (x_jd_firstLack T203 p0 p1 p2).2)) 1000 0 T202) 1000 0 T201) rfl ((c_jd_judged_59 p0 p1 p2 p3 (fun w2_5 T202 kk => ?_) 1000 0 T201 kk))
    · try dsimp only at kk
      refine r_ci (x := 0) dX2_judged_102 rfl ?_
      refine r_p dX2_judged_103 rfl rfl ?_
      show tR _ _ _ _ [some (.ref 527), some (.ref p0), some (.ref p1), some (.ref p2), some (.int p3), some (.int 0), none, none] _ _ _ _
      refine r_eI (r' := x_jd_judged_105 p0 p1 p2 p3 (fun (w3_5 : Int32) (T203 : St) => ((x_jd_firstLack T203 p0 p1 p2).1, (x_jd_firstLack T203 p0 p1 p2).2)) 1000 0 T202) rfl ((c_jd_judged_105 p0 p1 p2 p3 (fun w3_5 T203 kk => ?_) 1000 0 T202 kk))
      · try dsimp only at kk
        refine r_p dX2_judged_196 rfl rfl ?_
        refine r_p dX2_judged_197 rfl rfl ?_
        refine r_p dX2_judged_198 rfl rfl ?_
        refine r_p dX2_judged_199 rfl rfl ?_
        obtain ⟨q29, kk⟩ := kk
        refine r_cv (d1 := 4) dX2_judged_200 cvX2_71 rfl rfl rfl rfl (Nat.le_of_ble_eq_true rfl) (Nat.le_of_ble_eq_true rfl) (Nat.le_of_ble_eq_true rfl) (c_jd_firstLack p0 p1 p2 q29) ?_
        exact r_eI (r' := ((x_jd_firstLack T203 p0 p1 p2).1, (x_jd_firstLack T203 p0 p1 p2).2)) rfl (r_ri dX2_judged_203 rfl rfl rfl rfl)
def x_pl_lay_26 (l1 : Nat) (l2 : Nat) (l3 : Int32) (l4 : Int32) (K : Int32 → St → St) : Nat → Int32 → St → St
  | 0, _, T => T
  | f + 1, v5, T => if (T.1 (T.2.1 2) 4) ≤ v5 then (K v5 T) else (if ((l3 >>> (v5 &&& 31)) &&& 1) = 0 then (x_pl_lay_26 l1 l2 l3 l4 K f (v5 + 1) T) else (x_pl_lay_26 l1 l2 l3 l4 K f (v5 + 1) (x_pl_layDish T v5 l4)))
def ok_pl_lay_26 (l1 : Nat) (l2 : Nat) (l3 : Int32) (l4 : Int32) (Kk : Int32 → St → Prop) : Nat → Int32 → St → Prop
  | 0, _, _ => False
  | f + 1, v5, T => (sh (T.2.1 2) = .inr 1) ∧ (((T.1 (T.2.1 2) 4) ≤ v5 → Kk v5 T) ∧ (¬ (T.1 (T.2.1 2) 4) ≤ v5 → ((((l3 >>> (v5 &&& 31)) &&& 1) = 0 → ok_pl_lay_26 l1 l2 l3 l4 Kk f (v5 + 1) T) ∧ (¬ ((l3 >>> (v5 &&& 31)) &&& 1) = 0 → (ok_pl_layDish T v5 l4) ∧ ok_pl_lay_26 l1 l2 l3 l4 Kk f (v5 + 1) (x_pl_layDish T v5 l4)))))
theorem c_pl_lay_26 {X : Nat × (Nat → Int32)} (l1 : Nat) (l2 : Nat) (l3 : Int32) (l4 : Int32) {K : Int32 → St → St} {Kk : Int32 → St → Prop} (hk : ∀ (v5 : Int32) (T : St), Kk v5 T → tR X 4 mX5_lay 61 [some (.ref 80), some (.ref l1), some (.ref l2), some (.int l3), some (.int l4), some (.int v5)] [] T none (K v5 T)) : ∀ (f : Nat) (v5 : Int32) (T : St), ok_pl_lay_26 l1 l2 l3 l4 Kk f v5 T → tR X 4 mX5_lay 26 [some (.ref 80), some (.ref l1), some (.ref l2), some (.int l3), some (.int l4), some (.int v5)] [] T none (x_pl_lay_26 l1 l2 l3 l4 K f v5 T) := by
  intro f
  induction f with
  | zero => intro v5 T kk; exact kk.elim
  | succ f ih =>
    intro v5 T kk
    rw [ok_pl_lay_26] at kk
    refine r_p dX5_lay_26 rfl rfl ?_
    refine r_p dX5_lay_28 rfl rfl ?_
    refine r_get dX5_lay_29 fkX5_62 rfl rfl ?_
    obtain ⟨q4, kk⟩ := kk
    refine r_get dX5_lay_32 fkX5_78 q4 rfl ?_
    refine r_cge dX5_lay_35 rfl (fun c35_1 => ?_) (fun c35_1 => ?_)
    · have kk := kk.1 c35_1
      show tR _ _ _ _ [some (.ref 80), some (.ref l1), some (.ref l2), some (.int l3), some (.int l4), some (.int v5)] _ _ _ _
      exact r_eV (r' := K v5 T) (by rw [x_pl_lay_26]; rw [if_pos c35_1]) ((hk v5 T kk))
    · have kk := kk.2 c35_1
      refine r_p dX5_lay_38 rfl rfl ?_
      refine r_p dX5_lay_39 rfl rfl ?_
      refine r_p dX5_lay_41 rfl rfl ?_
      refine r_ci (x := 1) dX5_lay_42 rfl ?_
      refine r_p dX5_lay_43 rfl rfl ?_
      refine r_ieq dX5_lay_44 rfl (fun c44_2 => ?_) (fun c44_2 => ?_)
      · have kk := kk.1 c44_2
        refine r_inc (y := 1) dX5_lay_55 rfl rfl rfl ?_
        refine r_go dX5_lay_58 rfl ?_
        show tR _ _ _ _ [some (.ref 80), some (.ref l1), some (.ref l2), some (.int l3), some (.int l4), some (.int (v5 + 1))] _ _ _ _
        exact r_eV (r' := x_pl_lay_26 l1 l2 l3 l4 K f (v5 + 1) T) (by rw [x_pl_lay_26]; rw [if_neg c35_1, if_pos c44_2]) ((ih (v5 + 1) T kk))
      · have kk := kk.2 c44_2
        refine r_p dX5_lay_47 rfl rfl ?_
        refine r_p dX5_lay_48 rfl rfl ?_
        refine r_p dX5_lay_50 rfl rfl ?_
        obtain ⟨q5, kk⟩ := kk
        refine r_cv (d1 := 4) dX5_lay_52 cvX5_82 rfl rfl rfl rfl (Nat.le_of_ble_eq_true rfl) (Nat.le_of_ble_eq_true rfl) (Nat.le_of_ble_eq_true rfl) (c_pl_layDish v5 l4 q5) ?_
        refine r_inc (y := 1) dX5_lay_55 rfl rfl rfl ?_
        refine r_go dX5_lay_58 rfl ?_
        show tR _ _ _ _ [some (.ref 80), some (.ref l1), some (.ref l2), some (.int l3), some (.int l4), some (.int (v5 + 1))] _ _ _ _
        exact r_eV (r' := x_pl_lay_26 l1 l2 l3 l4 K f (v5 + 1) (x_pl_layDish T v5 l4)) (by rw [x_pl_lay_26]; rw [if_neg c35_1, if_neg c44_2]) ((ih (v5 + 1) (x_pl_layDish T v5 l4) kk))
def x_pl_lay (T : St) (p0 : Nat) (p1 : Nat) (p2 : Int32) (p3 : Int32) : St := (fun (T1 : St) => x_pl_lay_26 p0 p1 p2 p3 (fun (w1_5 : Int32) (T201 : St) => T201) 1000 0 T1) (x_ta_open (sR (sR T 2 p0) 3 p1) (507 + 5 * (0 : Int32).toNatClampNeg) ((sR (sR T 2 p0) 3 p1).2.1 3))
def ok_pl_lay (T : St) (p0 : Nat) (p1 : Nat) (p2 : Int32) (p3 : Int32) : Prop := (vp_in 0 4) ∧ (ok_ta_open (sR (sR T 2 p0) 3 p1) (507 + 5 * (0 : Int32).toNatClampNeg) ((sR (sR T 2 p0) 3 p1).2.1 3)) ∧ (sh (507 + 5 * (0 : Int32).toNatClampNeg) = .inr 9) ∧ (fun (T1 : St) => ok_pl_lay_26 p0 p1 p2 p3 (fun (w1_5 : Int32) (T201 : St) => True) 1000 0 T1) (x_ta_open (sR (sR T 2 p0) 3 p1) (507 + 5 * (0 : Int32).toNatClampNeg) ((sR (sR T 2 p0) 3 p1).2.1 3))
theorem c_pl_lay {X : Nat × (Nat → Int32)} {T : St} (p0 : Nat) (p1 : Nat) (p2 : Int32) (p3 : Int32) (kk : ok_pl_lay T p0 p1 p2 p3) : tC X 5 mX5_lay [.ref 80, .ref p0, .ref p1, .int p2, .int p3] T none (x_pl_lay T p0 p1 p2 p3) := by
  unfold ok_pl_lay at kk
  refine tC_of ?_
  refine r_p dX5_lay_0 rfl rfl ?_
  refine r_p dX5_lay_1 rfl rfl ?_
  refine r_putr dX5_lay_2 fkX5_62 rfl rfl rfl (Nat.le_of_ble_eq_true rfl) rfl rfl ?_
  refine r_p dX5_lay_5 rfl rfl ?_
  refine r_p dX5_lay_6 rfl rfl ?_
  refine r_putr dX5_lay_7 fkX5_69 rfl rfl rfl (Nat.le_of_ble_eq_true rfl) rfl rfl ?_
  refine r_p dX5_lay_10 rfl rfl ?_
  refine r_get dX5_lay_11 fkX5_31 rfl rfl ?_
  refine r_ci (x := 0) dX5_lay_14 rfl ?_
  obtain ⟨q1, kk⟩ := kk
  refine r_aa dX5_lay_15 rfl (by decide) q1 (rf93 q1) ?_
  refine r_p dX5_lay_16 rfl rfl ?_
  refine r_get dX5_lay_17 fkX5_69 rfl rfl ?_
  obtain ⟨q2, kk⟩ := kk
  obtain ⟨q3, kk⟩ := kk
  refine r_cv (d1 := 2) dX5_lay_20 cvX5_75 rfl rfl q3 rfl (Nat.le_of_ble_eq_true rfl) (Nat.le_of_ble_eq_true rfl) (Nat.le_of_ble_eq_true rfl) (c_ta_open (507 + 5 * (0 : Int32).toNatClampNeg) ((sR (sR T 2 p0) 3 p1).2.1 3) q2) ?_
  refine r_eV (r' := (fun (T1 : St) => x_pl_lay_26 p0 p1 p2 p3 (fun (w1_5 : Int32) (T201 : St) => T201) 1000 0 T1) (x_ta_open (sR (sR T 2 p0) 3 p1) (507 + 5 * (0 : Int32).toNatClampNeg) ((sR (sR T 2 p0) 3 p1).2.1 3))) (by unfold x_pl_lay; rfl) ?_
  generalize x_ta_open (sR (sR T 2 p0) 3 p1) (507 + 5 * (0 : Int32).toNatClampNeg) ((sR (sR T 2 p0) 3 p1).2.1 3) = T1 at kk ⊢
  try dsimp only at kk
  refine r_ci (x := 0) dX5_lay_23 rfl ?_
  refine r_p dX5_lay_24 rfl rfl ?_
  show tR _ _ _ _ [some (.ref 80), some (.ref p0), some (.ref p1), some (.int p2), some (.int p3), some (.int 0)] _ _ _ _
  refine r_eV (r' := x_pl_lay_26 p0 p1 p2 p3 (fun (w1_5 : Int32) (T201 : St) => T201) 1000 0 T1) rfl ((c_pl_lay_26 p0 p1 p2 p3 (fun w1_5 T201 kk => ?_) 1000 0 T1 kk))
  · exact r_eV (r' := T201) rfl (r_rv dX5_lay_61 rfl rfl rfl)
def x_rd_readSteps_2 (l1 : Nat) (K : Int32 → St → St) : Nat → Int32 → St → St
  | 0, _, T => T
  | f + 1, v2, T => if 3 < v2 then (K v2 T) else (if (T.1 13 2) = 0 then (if (x_rd_stepWord T) = (-1) then (if v2 = 0 then (sF T 13 2 1) else (T)) else (if v2 = 3 then (sF T 13 2 3) else (if (T.1 l1 10) < 24 then (fun (T1 : St) => x_rd_readSteps_2 l1 K f (v2 + 1) T1) (sF (x_rd_readStep (x_rd_advance T) l1 ((x_rd_advance T).1 l1 10) (x_rd_stepWord T)) l1 10 (((x_rd_readStep (x_rd_advance T) l1 ((x_rd_advance T).1 l1 10) (x_rd_stepWord T)).1 l1 10) + 1)) else (sF T 13 2 3)))) else (K v2 T))
def ok_rd_readSteps_2 (l1 : Nat) (Kk : Int32 → St → Prop) : Nat → Int32 → St → Prop
  | 0, _, _ => False
  | f + 1, v2, T => ((3 < v2 → Kk v2 T) ∧ (¬ 3 < v2 → (((T.1 13 2) = 0 → (ok_rd_stepWord T) ∧ (¬ (x_rd_stepWord T) = (-1) → (¬ v2 = 3 → (sh l1 = .inr 1) ∧ ((T.1 l1 10) < 24 → (ok_rd_advance T) ∧ (ok_rd_readStep (x_rd_advance T) l1 ((x_rd_advance T).1 l1 10) (x_rd_stepWord T)) ∧ (fun (T1 : St) => ok_rd_readSteps_2 l1 Kk f (v2 + 1) T1) (sF (x_rd_readStep (x_rd_advance T) l1 ((x_rd_advance T).1 l1 10) (x_rd_stepWord T)) l1 10 (((x_rd_readStep (x_rd_advance T) l1 ((x_rd_advance T).1 l1 10) (x_rd_stepWord T)).1 l1 10) + 1)))))) ∧ (¬ (T.1 13 2) = 0 → Kk v2 T))))
theorem c_rd_readSteps_2 {X : Nat × (Nat → Int32)} (l1 : Nat) {K : Int32 → St → St} {Kk : Int32 → St → Prop} (hk : ∀ (v2 : Int32) (T : St), Kk v2 T → tR X 6 mX6_readSteps 84 [some (.ref 13), some (.ref l1), some (.int v2), none] [] T none (K v2 T)) : ∀ (f : Nat) (v2 : Int32) (T : St), ok_rd_readSteps_2 l1 Kk f v2 T → tR X 6 mX6_readSteps 2 [some (.ref 13), some (.ref l1), some (.int v2), none] [] T none (x_rd_readSteps_2 l1 K f v2 T) := by
  intro f
  induction f with
  | zero => intro v2 T kk; exact kk.elim
  | succ f ih =>
    intro v2 T kk
    rw [ok_rd_readSteps_2] at kk
    refine r_p dX6_readSteps_2 rfl rfl ?_
    refine r_ci (x := 3) dX6_readSteps_3 rfl ?_
    refine r_cgt dX6_readSteps_4 rfl (fun c4_1 => ?_) (fun c4_1 => ?_)
    · have kk := kk.1 c4_1
      show tR _ _ _ _ [some (.ref 13), some (.ref l1), some (.int v2), none] _ _ _ _
      exact r_eV (r' := K v2 T) (by rw [x_rd_readSteps_2]; rw [if_pos c4_1]) ((hk v2 T kk))
    · have kk := kk.2 c4_1
      refine r_p dX6_readSteps_7 rfl rfl ?_
      refine r_get dX6_readSteps_8 fkX6_24 rfl rfl ?_
      refine r_ine dX6_readSteps_11 rfl (fun c11_2 => ?_) (fun c11_2 => ?_)
      · have kk := kk.2 c11_2
        show tR _ _ _ _ [some (.ref 13), some (.ref l1), some (.int v2), none] _ _ _ _
        exact r_eV (r' := K v2 T) (by rw [x_rd_readSteps_2]; rw [if_neg c4_1, if_neg c11_2]) ((hk v2 T kk))
      · have kk := kk.1 c11_2
        refine r_p dX6_readSteps_14 rfl rfl ?_
        obtain ⟨q1, kk⟩ := kk
        refine r_cv (d1 := 6) dX6_readSteps_15 cvX6_108 rfl rfl rfl rfl (Nat.le_of_ble_eq_true rfl) (Nat.le_of_ble_eq_true rfl) (Nat.le_of_ble_eq_true rfl) (c_rd_stepWord  q1) ?_
        refine r_p dX6_readSteps_18 rfl rfl ?_
        refine r_p dX6_readSteps_19 rfl rfl ?_
        refine r_ci (x := -1) dX6_readSteps_20 rfl ?_
        refine r_cne dX6_readSteps_21 rfl (fun c21_3 => ?_) (fun c21_3 => ?_)
        · have kk := kk c21_3
          refine r_p dX6_readSteps_34 rfl rfl ?_
          refine r_ci (x := 3) dX6_readSteps_35 rfl ?_
          refine r_ceq dX6_readSteps_36 rfl (fun c36_4 => ?_) (fun c36_4 => ?_)
          · refine r_p dX6_readSteps_48 rfl rfl ?_
            refine r_ci (x := 3) dX6_readSteps_49 rfl ?_
            refine r_put dX6_readSteps_50 fkX6_24 rfl rfl rfl (Nat.le_of_ble_eq_true rfl) rfl rfl ?_
            exact r_eV (r' := (sF T 13 2 3)) (by rw [x_rd_readSteps_2]; rw [if_neg c4_1, if_pos c11_2, if_neg c21_3, if_pos c36_4]) (r_rv dX6_readSteps_53 rfl rfl rfl)
          · have kk := kk c36_4
            refine r_p dX6_readSteps_39 rfl rfl ?_
            obtain ⟨q2, kk⟩ := kk
            refine r_get dX6_readSteps_40 fkX6_99 q2 rfl ?_
            refine r_cb (x := 24) dX6_readSteps_43 rfl ?_
            refine r_clt dX6_readSteps_45 rfl (fun c45_5 => ?_) (fun c45_5 => ?_)
            · have kk := kk c45_5
              refine r_p dX6_readSteps_54 rfl rfl ?_
              obtain ⟨q3, kk⟩ := kk
              refine r_cv (d1 := 2) dX6_readSteps_55 cvX6_30 rfl rfl rfl rfl (Nat.le_of_ble_eq_true rfl) (Nat.le_of_ble_eq_true rfl) (Nat.le_of_ble_eq_true rfl) (c_rd_advance  q3) ?_
              refine r_p dX6_readSteps_58 rfl rfl ?_
              refine r_p dX6_readSteps_59 rfl rfl ?_
              refine r_p dX6_readSteps_60 rfl rfl ?_
              refine r_get dX6_readSteps_61 fkX6_99 q2 rfl ?_
              refine r_p dX6_readSteps_64 rfl rfl ?_
              obtain ⟨q4, kk⟩ := kk
              refine r_cv (d1 := 4) dX6_readSteps_65 cvX6_112 rfl rfl rfl rfl (Nat.le_of_ble_eq_true rfl) (Nat.le_of_ble_eq_true rfl) (Nat.le_of_ble_eq_true rfl) (c_rd_readStep l1 ((x_rd_advance T).1 l1 10) (x_rd_stepWord T) q4) ?_
              refine r_p dX6_readSteps_68 rfl rfl ?_
              refine r_p dX6_readSteps_69 rfl rfl ?_
              refine r_get dX6_readSteps_70 fkX6_99 q2 rfl ?_
              refine r_ci (x := 1) dX6_readSteps_73 rfl ?_
              refine r_p dX6_readSteps_74 rfl rfl ?_
              refine r_put dX6_readSteps_75 fkX6_99 rfl q2 rfl (Nat.le_of_ble_eq_true rfl) rfl rfl ?_
              refine r_eV (r' := (fun (T1 : St) => x_rd_readSteps_2 l1 K f (v2 + 1) T1) (sF (x_rd_readStep (x_rd_advance T) l1 ((x_rd_advance T).1 l1 10) (x_rd_stepWord T)) l1 10 (((x_rd_readStep (x_rd_advance T) l1 ((x_rd_advance T).1 l1 10) (x_rd_stepWord T)).1 l1 10) + 1))) (by rw [x_rd_readSteps_2]; rw [if_neg c4_1, if_pos c11_2, if_neg c21_3, if_neg c36_4, if_pos c45_5]) ?_
              generalize sF (x_rd_readStep (x_rd_advance T) l1 ((x_rd_advance T).1 l1 10) (x_rd_stepWord T)) l1 10 (((x_rd_readStep (x_rd_advance T) l1 ((x_rd_advance T).1 l1 10) (x_rd_stepWord T)).1 l1 10) + 1) = T1 at kk ⊢
              try dsimp only at kk
              refine r_inc (y := 1) dX6_readSteps_78 rfl rfl rfl ?_
              refine r_go dX6_readSteps_81 rfl ?_
              show tR _ _ _ _ [some (.ref 13), some (.ref l1), some (.int (v2 + 1)), some (.int (x_rd_stepWord T))] _ _ _ _
              exact r_eV (r' := x_rd_readSteps_2 l1 K f (v2 + 1) T1) rfl (r_le (le_s (le_s (le_s (le_n (le_0))))) (ih (v2 + 1) T1 kk))
            · refine r_p dX6_readSteps_48 rfl rfl ?_
              refine r_ci (x := 3) dX6_readSteps_49 rfl ?_
              refine r_put dX6_readSteps_50 fkX6_24 rfl rfl rfl (Nat.le_of_ble_eq_true rfl) rfl rfl ?_
              exact r_eV (r' := (sF T 13 2 3)) (by rw [x_rd_readSteps_2]; rw [if_neg c4_1, if_pos c11_2, if_neg c21_3, if_neg c36_4, if_neg c45_5]) (r_rv dX6_readSteps_53 rfl rfl rfl)
        · refine r_p dX6_readSteps_24 rfl rfl ?_
          refine r_ine dX6_readSteps_25 rfl (fun c25_6 => ?_) (fun c25_6 => ?_)
          · exact r_eV (r' := T) (by rw [x_rd_readSteps_2]; rw [if_neg c4_1, if_pos c11_2, if_pos c21_3, if_neg c25_6]) (r_rv dX6_readSteps_33 rfl rfl rfl)
          · refine r_p dX6_readSteps_28 rfl rfl ?_
            refine r_ci (x := 1) dX6_readSteps_29 rfl ?_
            refine r_put dX6_readSteps_30 fkX6_24 rfl rfl rfl (Nat.le_of_ble_eq_true rfl) rfl rfl ?_
            exact r_eV (r' := (sF T 13 2 1)) (by rw [x_rd_readSteps_2]; rw [if_neg c4_1, if_pos c11_2, if_pos c21_3, if_pos c25_6]) (r_rv dX6_readSteps_33 rfl rfl rfl)
def x_rd_readSteps (T : St) (p0 : Nat) : St := x_rd_readSteps_2 p0 (fun (w1_2 : Int32) (T201 : St) => T201) 1000 0 T
def ok_rd_readSteps (T : St) (p0 : Nat) : Prop := ok_rd_readSteps_2 p0 (fun (w1_2 : Int32) (T201 : St) => True) 1000 0 T
theorem c_rd_readSteps {X : Nat × (Nat → Int32)} {T : St} (p0 : Nat) (kk : ok_rd_readSteps T p0) : tC X 7 mX6_readSteps [.ref 13, .ref p0] T none (x_rd_readSteps T p0) := by
  unfold ok_rd_readSteps at kk
  refine tC_of ?_
  refine r_ci (x := 0) dX6_readSteps_0 rfl ?_
  refine r_p dX6_readSteps_1 rfl rfl ?_
  show tR _ _ _ _ [some (.ref 13), some (.ref p0), some (.int 0), none] _ _ _ _
  refine r_eV (r' := x_rd_readSteps_2 p0 (fun (w1_2 : Int32) (T201 : St) => T201) 1000 0 T) (by unfold x_rd_readSteps; rfl) ((c_rd_readSteps_2 p0 (fun w1_2 T201 kk => ?_) 1000 0 T kk))
  · exact r_eV (r' := T201) rfl (r_rv dX6_readSteps_84 rfl rfl rfl)
def x_x_judge (T : St) (p0 : Int32) (p1 : Int32) (p2 : Int32) : Int32 × St := jn (fun (KJ1 : Int32 × St) => if (x_sh_isOne T p0) = 0 then (KJ1) else (if (x_x_isTime T p2) = 0 then (KJ1) else (if (x_x_refusal T 1) = 0 then (if (x_sh_isMissing T p0) = 0 then (if (x_sh_reaches (x_ro_fill T 564 (T.2.1 0)) p0 p1 ((x_ro_fill T 564 (T.2.1 0)).1 564 1)) = 0 then ((x_x_found (x_ro_fill T 564 (T.2.1 0)) 2).1, (x_x_found (x_ro_fill T 564 (T.2.1 0)) 2).2) else (fun (T3 : St) => ((x_x_fine ((x_jd_judged T3 (T3.2.1 0) 76 564 p2).2) ((x_jd_judged T3 (T3.2.1 0) 76 564 p2).1)).1, (x_x_fine ((x_jd_judged T3 (T3.2.1 0) 76 564 p2).2) ((x_jd_judged T3 (T3.2.1 0) 76 564 p2).1)).2)) (sAr (x_ro_fill T 564 (T.2.1 0)) 569 (va_cpy ((x_ro_fill T 564 (T.2.1 0)).2.2.1 (5 + (p0 : Int32).toNatClampNeg)) ((x_ro_fill T 564 (T.2.1 0)).2.2.1 569) (p1 : Int32).toNatClampNeg (0 : Int32).toNatClampNeg ((x_ro_fill T 564 (T.2.1 0)).1 564 1 : Int32).toNatClampNeg))) else ((x_x_found T 1).1, (x_x_found T 1).2)) else (x_x_refusal T 1, T)))) (if (x_x_refusal T 0) = 0 then (if (x_sh_isMissing T p0) = 0 then (if (x_sh_reaches (x_ro_fill T 564 (T.2.1 0)) p0 p1 ((x_ro_fill T 564 (T.2.1 0)).1 564 1)) = 0 then ((x_x_found (x_ro_fill T 564 (T.2.1 0)) 2).1, (x_x_found (x_ro_fill T 564 (T.2.1 0)) 2).2) else (fun (T2 : St) => ((x_x_fine ((x_jd_judged T2 (T2.2.1 0) 76 564 p2).2) ((x_jd_judged T2 (T2.2.1 0) 76 564 p2).1)).1, (x_x_fine ((x_jd_judged T2 (T2.2.1 0) 76 564 p2).2) ((x_jd_judged T2 (T2.2.1 0) 76 564 p2).1)).2)) (sAr (x_ro_fill T 564 (T.2.1 0)) 569 (va_cpy ((x_ro_fill T 564 (T.2.1 0)).2.2.1 (5 + (p0 : Int32).toNatClampNeg)) ((x_ro_fill T 564 (T.2.1 0)).2.2.1 569) (p1 : Int32).toNatClampNeg (0 : Int32).toNatClampNeg ((x_ro_fill T 564 (T.2.1 0)).1 564 1 : Int32).toNatClampNeg))) else ((x_x_found T 1).1, (x_x_found T 1).2)) else (x_x_refusal T 0, T))
def ok_x_judge (T : St) (p0 : Int32) (p1 : Int32) (p2 : Int32) : Prop := jn (fun (OJ1 : Prop) => (((x_sh_isOne T p0) = 0 → OJ1) ∧ (¬ (x_sh_isOne T p0) = 0 → (((x_x_isTime T p2) = 0 → OJ1) ∧ (¬ (x_x_isTime T p2) = 0 → (ok_x_refusal T 1) ∧ ((x_x_refusal T 1) = 0 → (ok_sh_isMissing T p0) ∧ ((x_sh_isMissing T p0) = 0 → (ok_ro_fill T 564 (T.2.1 0)) ∧ (ok_sh_reaches (x_ro_fill T 564 (T.2.1 0)) p0 p1 ((x_ro_fill T 564 (T.2.1 0)).1 564 1)) ∧ (¬ (x_sh_reaches (x_ro_fill T 564 (T.2.1 0)) p0 p1 ((x_ro_fill T 564 (T.2.1 0)).1 564 1)) = 0 → (vp_in p0 8) ∧ (cpok p1 0 ((x_ro_fill T 564 (T.2.1 0)).1 564 1) 40 12) ∧ (sh (5 + (p0 : Int32).toNatClampNeg) = .inl (0, 40)) ∧ (fun (T3 : St) => (ok_jd_judged T3 (T3.2.1 0) 76 564 p2) ∧ True) (sAr (x_ro_fill T 564 (T.2.1 0)) 569 (va_cpy ((x_ro_fill T 564 (T.2.1 0)).2.2.1 (5 + (p0 : Int32).toNatClampNeg)) ((x_ro_fill T 564 (T.2.1 0)).2.2.1 569) (p1 : Int32).toNatClampNeg (0 : Int32).toNatClampNeg ((x_ro_fill T 564 (T.2.1 0)).1 564 1 : Int32).toNatClampNeg)))))))))) ((ok_x_refusal T 0) ∧ ((x_x_refusal T 0) = 0 → (ok_sh_isMissing T p0) ∧ ((x_sh_isMissing T p0) = 0 → (ok_ro_fill T 564 (T.2.1 0)) ∧ (ok_sh_reaches (x_ro_fill T 564 (T.2.1 0)) p0 p1 ((x_ro_fill T 564 (T.2.1 0)).1 564 1)) ∧ (¬ (x_sh_reaches (x_ro_fill T 564 (T.2.1 0)) p0 p1 ((x_ro_fill T 564 (T.2.1 0)).1 564 1)) = 0 → (vp_in p0 8) ∧ (cpok p1 0 ((x_ro_fill T 564 (T.2.1 0)).1 564 1) 40 12) ∧ (sh (5 + (p0 : Int32).toNatClampNeg) = .inl (0, 40)) ∧ (fun (T2 : St) => (ok_jd_judged T2 (T2.2.1 0) 76 564 p2) ∧ True) (sAr (x_ro_fill T 564 (T.2.1 0)) 569 (va_cpy ((x_ro_fill T 564 (T.2.1 0)).2.2.1 (5 + (p0 : Int32).toNatClampNeg)) ((x_ro_fill T 564 (T.2.1 0)).2.2.1 569) (p1 : Int32).toNatClampNeg (0 : Int32).toNatClampNeg ((x_ro_fill T 564 (T.2.1 0)).1 564 1 : Int32).toNatClampNeg))))))
theorem c_x_judge {X : Nat × (Nat → Int32)} {T : St} (p0 : Int32) (p1 : Int32) (p2 : Int32) (kk : ok_x_judge T p0 p1 p2) : tC X 6 mX11_judge [.ref 0, .int p0, .int p1, .int p2] T (some (.int (x_x_judge T p0 p1 p2).1)) ((x_x_judge T p0 p1 p2).2) := by
  unfold ok_x_judge at kk
  refine tC_of ?_
  refine r_p dX11_judge_0 rfl rfl ?_
  refine r_p dX11_judge_1 rfl rfl ?_
  refine r_get dX11_judge_2 fkX11_10 rfl rfl ?_
  refine r_p dX11_judge_5 rfl rfl ?_
  refine r_cv (d1 := 1) dX11_judge_6 cvX11_78 rfl rfl rfl rfl (Nat.le_of_ble_eq_true rfl) (Nat.le_of_ble_eq_true rfl) (Nat.le_of_ble_eq_true rfl) (c_sh_isOne p0) ?_
  obtain ⟨KJ1, hKJ1⟩ : ∃ q : Int32 × St, q = (if (x_x_refusal T 0) = 0 then (if (x_sh_isMissing T p0) = 0 then (if (x_sh_reaches (x_ro_fill T 564 (T.2.1 0)) p0 p1 ((x_ro_fill T 564 (T.2.1 0)).1 564 1)) = 0 then ((x_x_found (x_ro_fill T 564 (T.2.1 0)) 2).1, (x_x_found (x_ro_fill T 564 (T.2.1 0)) 2).2) else (fun (T2 : St) => ((x_x_fine ((x_jd_judged T2 (T2.2.1 0) 76 564 p2).2) ((x_jd_judged T2 (T2.2.1 0) 76 564 p2).1)).1, (x_x_fine ((x_jd_judged T2 (T2.2.1 0) 76 564 p2).2) ((x_jd_judged T2 (T2.2.1 0) 76 564 p2).1)).2)) (sAr (x_ro_fill T 564 (T.2.1 0)) 569 (va_cpy ((x_ro_fill T 564 (T.2.1 0)).2.2.1 (5 + (p0 : Int32).toNatClampNeg)) ((x_ro_fill T 564 (T.2.1 0)).2.2.1 569) (p1 : Int32).toNatClampNeg (0 : Int32).toNatClampNeg ((x_ro_fill T 564 (T.2.1 0)).1 564 1 : Int32).toNatClampNeg))) else ((x_x_found T 1).1, (x_x_found T 1).2)) else (x_x_refusal T 0, T)) := ⟨_, rfl⟩
  obtain ⟨OJ1, hOJ1⟩ : ∃ q : Prop, q = ((ok_x_refusal T 0) ∧ ((x_x_refusal T 0) = 0 → (ok_sh_isMissing T p0) ∧ ((x_sh_isMissing T p0) = 0 → (ok_ro_fill T 564 (T.2.1 0)) ∧ (ok_sh_reaches (x_ro_fill T 564 (T.2.1 0)) p0 p1 ((x_ro_fill T 564 (T.2.1 0)).1 564 1)) ∧ (¬ (x_sh_reaches (x_ro_fill T 564 (T.2.1 0)) p0 p1 ((x_ro_fill T 564 (T.2.1 0)).1 564 1)) = 0 → (vp_in p0 8) ∧ (cpok p1 0 ((x_ro_fill T 564 (T.2.1 0)).1 564 1) 40 12) ∧ (sh (5 + (p0 : Int32).toNatClampNeg) = .inl (0, 40)) ∧ (fun (T2 : St) => (ok_jd_judged T2 (T2.2.1 0) 76 564 p2) ∧ True) (sAr (x_ro_fill T 564 (T.2.1 0)) 569 (va_cpy ((x_ro_fill T 564 (T.2.1 0)).2.2.1 (5 + (p0 : Int32).toNatClampNeg)) ((x_ro_fill T 564 (T.2.1 0)).2.2.1 569) (p1 : Int32).toNatClampNeg (0 : Int32).toNatClampNeg ((x_ro_fill T 564 (T.2.1 0)).1 564 1 : Int32).toNatClampNeg)))))) := ⟨_, rfl⟩
  rw [← hOJ1] at kk
  simp only [jn] at kk
  have hJ1 : OJ1 → tR X 5 mX11_judge 23 [some (.ref 0), some (.int p0), some (.int p1), some (.int p2), none] [.ref 0] T (some (.int KJ1.1)) KJ1.2 := by
    intro  kk
    rw [hOJ1] at kk
    try dsimp only at kk
    rw [hKJ1]
    refine r_ci (x := 0) dX11_judge_23 rfl ?_
    obtain ⟨q9, kk⟩ := kk
    refine r_cv (d1 := 2) dX11_judge_24 cvX11_221 rfl rfl rfl rfl (Nat.le_of_ble_eq_true rfl) (Nat.le_of_ble_eq_true rfl) (Nat.le_of_ble_eq_true rfl) (c_x_refusal 0 q9) ?_
    refine r_p dX11_judge_27 rfl rfl ?_
    refine r_p dX11_judge_29 rfl rfl ?_
    refine r_ieq dX11_judge_31 rfl (fun c31_6 => ?_) (fun c31_6 => ?_)
    · have kk := kk c31_6
      refine r_p dX11_judge_37 rfl rfl ?_
      refine r_get dX11_judge_38 fkX11_10 rfl rfl ?_
      refine r_p dX11_judge_41 rfl rfl ?_
      obtain ⟨q10, kk⟩ := kk
      refine r_cv (d1 := 1) dX11_judge_42 cvX11_94 rfl rfl rfl rfl (Nat.le_of_ble_eq_true rfl) (Nat.le_of_ble_eq_true rfl) (Nat.le_of_ble_eq_true rfl) (c_sh_isMissing p0 q10) ?_
      refine r_ieq dX11_judge_45 rfl (fun c45_7 => ?_) (fun c45_7 => ?_)
      · have kk := kk c45_7
        refine r_p dX11_judge_54 rfl rfl ?_
        refine r_get dX11_judge_55 fkX11_75 rfl rfl ?_
        refine r_p dX11_judge_58 rfl rfl ?_
        refine r_get dX11_judge_59 fkX11_30 rfl rfl ?_
        obtain ⟨q11, kk⟩ := kk
        refine r_cv (d1 := 2) dX11_judge_62 cvX11_225 rfl rfl rfl rfl (Nat.le_of_ble_eq_true rfl) (Nat.le_of_ble_eq_true rfl) (Nat.le_of_ble_eq_true rfl) (c_ro_fill 564 (T.2.1 0) q11) ?_
        refine r_p dX11_judge_65 rfl rfl ?_
        refine r_get dX11_judge_66 fkX11_10 rfl rfl ?_
        refine r_p dX11_judge_69 rfl rfl ?_
        refine r_p dX11_judge_70 rfl rfl ?_
        refine r_p dX11_judge_71 rfl rfl ?_
        refine r_get dX11_judge_72 fkX11_75 rfl rfl ?_
        refine r_get dX11_judge_75 fkX11_228 rfl rfl ?_
        obtain ⟨q12, kk⟩ := kk
        refine r_cv (d1 := 1) dX11_judge_78 cvX11_97 rfl rfl rfl rfl (Nat.le_of_ble_eq_true rfl) (Nat.le_of_ble_eq_true rfl) (Nat.le_of_ble_eq_true rfl) (c_sh_reaches p0 p1 ((x_ro_fill T 564 (T.2.1 0)).1 564 1) q12) ?_
        refine r_ine dX11_judge_81 rfl (fun c81_8 => ?_) (fun c81_8 => ?_)
        · have kk := kk c81_8
          refine r_p dX11_judge_90 rfl rfl ?_
          refine r_get dX11_judge_91 fkX11_10 rfl rfl ?_
          refine r_get dX11_judge_94 fkX11_109 rfl rfl ?_
          refine r_p dX11_judge_97 rfl rfl ?_
          obtain ⟨q13, kk⟩ := kk
          refine r_aa dX11_judge_98 rfl (by decide) q13 (rf4 q13) ?_
          refine r_p dX11_judge_99 rfl rfl ?_
          refine r_p dX11_judge_100 rfl rfl ?_
          refine r_get dX11_judge_101 fkX11_75 rfl rfl ?_
          refine r_get dX11_judge_104 fkX11_231 rfl rfl ?_
          refine r_ci (x := 0) dX11_judge_107 rfl ?_
          refine r_p dX11_judge_108 rfl rfl ?_
          refine r_get dX11_judge_109 fkX11_75 rfl rfl ?_
          refine r_get dX11_judge_112 fkX11_228 rfl rfl ?_
          obtain ⟨q14, kk⟩ := kk
          obtain ⟨q15, kk⟩ := kk
          refine r_cpy dX11_judge_115 cpX11_113 rfl q15 q14.1 q14.2.1 q14.2.2.1 q14.2.2.2.1 q14.2.2.2.2 (Nat.le_of_ble_eq_true rfl) ?_
          refine r_eI (r' := (fun (T2 : St) => ((x_x_fine ((x_jd_judged T2 (T2.2.1 0) 76 564 p2).2) ((x_jd_judged T2 (T2.2.1 0) 76 564 p2).1)).1, (x_x_fine ((x_jd_judged T2 (T2.2.1 0) 76 564 p2).2) ((x_jd_judged T2 (T2.2.1 0) 76 564 p2).1)).2)) (sAr (x_ro_fill T 564 (T.2.1 0)) 569 (va_cpy ((x_ro_fill T 564 (T.2.1 0)).2.2.1 (5 + (p0 : Int32).toNatClampNeg)) ((x_ro_fill T 564 (T.2.1 0)).2.2.1 569) (p1 : Int32).toNatClampNeg (0 : Int32).toNatClampNeg ((x_ro_fill T 564 (T.2.1 0)).1 564 1 : Int32).toNatClampNeg))) (by first | rw [if_pos c31_6, if_pos c45_7, if_neg c81_8] | (dsimp only; rw [if_pos c31_6, if_pos c45_7, if_neg c81_8])) ?_
          generalize sAr (x_ro_fill T 564 (T.2.1 0)) 569 (va_cpy ((x_ro_fill T 564 (T.2.1 0)).2.2.1 (5 + (p0 : Int32).toNatClampNeg)) ((x_ro_fill T 564 (T.2.1 0)).2.2.1 569) (p1 : Int32).toNatClampNeg (0 : Int32).toNatClampNeg ((x_ro_fill T 564 (T.2.1 0)).1 564 1 : Int32).toNatClampNeg) = T2 at kk ⊢
          try dsimp only at kk
          refine r_p dX11_judge_118 rfl rfl ?_
          refine r_p dX11_judge_119 rfl rfl ?_
          refine r_get dX11_judge_120 fkX11_57 rfl rfl ?_
          refine r_p dX11_judge_123 rfl rfl ?_
          refine r_get dX11_judge_124 fkX11_30 rfl rfl ?_
          refine r_p dX11_judge_127 rfl rfl ?_
          refine r_get dX11_judge_128 fkX11_40 rfl rfl ?_
          refine r_p dX11_judge_131 rfl rfl ?_
          refine r_get dX11_judge_132 fkX11_75 rfl rfl ?_
          refine r_p dX11_judge_135 rfl rfl ?_
          obtain ⟨q16, kk⟩ := kk
          refine r_cv (d1 := 5) dX11_judge_136 cvX11_234 rfl rfl rfl rfl (Nat.le_of_ble_eq_true rfl) (Nat.le_of_ble_eq_true rfl) (Nat.le_of_ble_eq_true rfl) (c_jd_judged (T2.2.1 0) 76 564 p2 q16) ?_
          refine r_cv (d1 := 1) dX11_judge_139 cvX11_91 rfl rfl rfl rfl (Nat.le_of_ble_eq_true rfl) (Nat.le_of_ble_eq_true rfl) (Nat.le_of_ble_eq_true rfl) (c_x_fine ((x_jd_judged T2 (T2.2.1 0) 76 564 p2).1)) ?_
          exact r_eI (r' := ((x_x_fine ((x_jd_judged T2 (T2.2.1 0) 76 564 p2).2) ((x_jd_judged T2 (T2.2.1 0) 76 564 p2).1)).1, (x_x_fine ((x_jd_judged T2 (T2.2.1 0) 76 564 p2).2) ((x_jd_judged T2 (T2.2.1 0) 76 564 p2).1)).2)) rfl (r_ri dX11_judge_142 rfl rfl rfl rfl)
        · refine r_p dX11_judge_84 rfl rfl ?_
          refine r_ci (x := 2) dX11_judge_85 rfl ?_
          refine r_cv (d1 := 1) dX11_judge_86 cvX11_83 rfl rfl rfl rfl (Nat.le_of_ble_eq_true rfl) (Nat.le_of_ble_eq_true rfl) (Nat.le_of_ble_eq_true rfl) (c_x_found 2) ?_
          exact r_eI (r' := ((x_x_found (x_ro_fill T 564 (T.2.1 0)) 2).1, (x_x_found (x_ro_fill T 564 (T.2.1 0)) 2).2)) (by first | rw [if_pos c31_6, if_pos c45_7, if_pos c81_8] | (dsimp only; rw [if_pos c31_6, if_pos c45_7, if_pos c81_8])) (r_ri dX11_judge_89 rfl rfl rfl rfl)
      · refine r_p dX11_judge_48 rfl rfl ?_
        refine r_ci (x := 1) dX11_judge_49 rfl ?_
        refine r_cv (d1 := 1) dX11_judge_50 cvX11_83 rfl rfl rfl rfl (Nat.le_of_ble_eq_true rfl) (Nat.le_of_ble_eq_true rfl) (Nat.le_of_ble_eq_true rfl) (c_x_found 1) ?_
        exact r_eI (r' := ((x_x_found T 1).1, (x_x_found T 1).2)) (by first | rw [if_pos c31_6, if_neg c45_7] | (dsimp only; rw [if_pos c31_6, if_neg c45_7])) (r_ri dX11_judge_53 rfl rfl rfl rfl)
    · refine r_p dX11_judge_34 rfl rfl ?_
      exact r_eI (r' := (x_x_refusal T 0, T)) (by first | rw [if_neg c31_6] | (dsimp only; rw [if_neg c31_6])) (r_ri dX11_judge_36 rfl rfl rfl rfl)
  refine r_eI (r' := jn (fun (KJ1 : Int32 × St) => if (x_sh_isOne T p0) = 0 then (KJ1) else (if (x_x_isTime T p2) = 0 then (KJ1) else (if (x_x_refusal T 1) = 0 then (if (x_sh_isMissing T p0) = 0 then (if (x_sh_reaches (x_ro_fill T 564 (T.2.1 0)) p0 p1 ((x_ro_fill T 564 (T.2.1 0)).1 564 1)) = 0 then ((x_x_found (x_ro_fill T 564 (T.2.1 0)) 2).1, (x_x_found (x_ro_fill T 564 (T.2.1 0)) 2).2) else (fun (T3 : St) => ((x_x_fine ((x_jd_judged T3 (T3.2.1 0) 76 564 p2).2) ((x_jd_judged T3 (T3.2.1 0) 76 564 p2).1)).1, (x_x_fine ((x_jd_judged T3 (T3.2.1 0) 76 564 p2).2) ((x_jd_judged T3 (T3.2.1 0) 76 564 p2).1)).2)) (sAr (x_ro_fill T 564 (T.2.1 0)) 569 (va_cpy ((x_ro_fill T 564 (T.2.1 0)).2.2.1 (5 + (p0 : Int32).toNatClampNeg)) ((x_ro_fill T 564 (T.2.1 0)).2.2.1 569) (p1 : Int32).toNatClampNeg (0 : Int32).toNatClampNeg ((x_ro_fill T 564 (T.2.1 0)).1 564 1 : Int32).toNatClampNeg))) else ((x_x_found T 1).1, (x_x_found T 1).2)) else (x_x_refusal T 1, T)))) KJ1) (by rw [hKJ1]; unfold x_x_judge; rfl) ?_
  refine r_ieq dX11_judge_9 rfl (fun c9_9 => ?_) (fun c9_9 => ?_)
  · have kk := kk.1 c9_9
    show tR _ _ _ _ [some (.ref 0), some (.int p0), some (.int p1), some (.int p2), none] [.ref 0] _ _ _
    exact r_eI (r' := KJ1) (by simp only [jn]; rw [if_pos c9_9]) ((hJ1  kk))
  · have kk := kk.2 c9_9
    refine r_p dX11_judge_12 rfl rfl ?_
    refine r_cs (d1 := 1) dX11_judge_13 csX11_218 rfl rfl (Nat.le_of_ble_eq_true rfl) (Nat.le_of_ble_eq_true rfl) (Nat.le_of_ble_eq_true rfl) (c_x_isTime p2) ?_
    refine r_ieq dX11_judge_16 rfl (fun c16_10 => ?_) (fun c16_10 => ?_)
    · have kk := kk.1 c16_10
      show tR _ _ _ _ [some (.ref 0), some (.int p0), some (.int p1), some (.int p2), none] [.ref 0] _ _ _
      exact r_eI (r' := KJ1) (by simp only [jn]; rw [if_neg c9_9, if_pos c16_10]) ((hJ1  kk))
    · have kk := kk.2 c16_10
      refine r_ci (x := 1) dX11_judge_19 rfl ?_
      refine r_go dX11_judge_20 rfl ?_
      obtain ⟨q17, kk⟩ := kk
      refine r_cv (d1 := 2) dX11_judge_24 cvX11_221 rfl rfl rfl rfl (Nat.le_of_ble_eq_true rfl) (Nat.le_of_ble_eq_true rfl) (Nat.le_of_ble_eq_true rfl) (c_x_refusal 1 q17) ?_
      refine r_p dX11_judge_27 rfl rfl ?_
      refine r_p dX11_judge_29 rfl rfl ?_
      refine r_ieq dX11_judge_31 rfl (fun c31_11 => ?_) (fun c31_11 => ?_)
      · have kk := kk c31_11
        refine r_p dX11_judge_37 rfl rfl ?_
        refine r_get dX11_judge_38 fkX11_10 rfl rfl ?_
        refine r_p dX11_judge_41 rfl rfl ?_
        obtain ⟨q18, kk⟩ := kk
        refine r_cv (d1 := 1) dX11_judge_42 cvX11_94 rfl rfl rfl rfl (Nat.le_of_ble_eq_true rfl) (Nat.le_of_ble_eq_true rfl) (Nat.le_of_ble_eq_true rfl) (c_sh_isMissing p0 q18) ?_
        refine r_ieq dX11_judge_45 rfl (fun c45_12 => ?_) (fun c45_12 => ?_)
        · have kk := kk c45_12
          refine r_p dX11_judge_54 rfl rfl ?_
          refine r_get dX11_judge_55 fkX11_75 rfl rfl ?_
          refine r_p dX11_judge_58 rfl rfl ?_
          refine r_get dX11_judge_59 fkX11_30 rfl rfl ?_
          obtain ⟨q19, kk⟩ := kk
          refine r_cv (d1 := 2) dX11_judge_62 cvX11_225 rfl rfl rfl rfl (Nat.le_of_ble_eq_true rfl) (Nat.le_of_ble_eq_true rfl) (Nat.le_of_ble_eq_true rfl) (c_ro_fill 564 (T.2.1 0) q19) ?_
          refine r_p dX11_judge_65 rfl rfl ?_
          refine r_get dX11_judge_66 fkX11_10 rfl rfl ?_
          refine r_p dX11_judge_69 rfl rfl ?_
          refine r_p dX11_judge_70 rfl rfl ?_
          refine r_p dX11_judge_71 rfl rfl ?_
          refine r_get dX11_judge_72 fkX11_75 rfl rfl ?_
          refine r_get dX11_judge_75 fkX11_228 rfl rfl ?_
          obtain ⟨q20, kk⟩ := kk
          refine r_cv (d1 := 1) dX11_judge_78 cvX11_97 rfl rfl rfl rfl (Nat.le_of_ble_eq_true rfl) (Nat.le_of_ble_eq_true rfl) (Nat.le_of_ble_eq_true rfl) (c_sh_reaches p0 p1 ((x_ro_fill T 564 (T.2.1 0)).1 564 1) q20) ?_
          refine r_ine dX11_judge_81 rfl (fun c81_13 => ?_) (fun c81_13 => ?_)
          · have kk := kk c81_13
            refine r_p dX11_judge_90 rfl rfl ?_
            refine r_get dX11_judge_91 fkX11_10 rfl rfl ?_
            refine r_get dX11_judge_94 fkX11_109 rfl rfl ?_
            refine r_p dX11_judge_97 rfl rfl ?_
            obtain ⟨q21, kk⟩ := kk
            refine r_aa dX11_judge_98 rfl (by decide) q21 (rf4 q21) ?_
            refine r_p dX11_judge_99 rfl rfl ?_
            refine r_p dX11_judge_100 rfl rfl ?_
            refine r_get dX11_judge_101 fkX11_75 rfl rfl ?_
            refine r_get dX11_judge_104 fkX11_231 rfl rfl ?_
            refine r_ci (x := 0) dX11_judge_107 rfl ?_
            refine r_p dX11_judge_108 rfl rfl ?_
            refine r_get dX11_judge_109 fkX11_75 rfl rfl ?_
            refine r_get dX11_judge_112 fkX11_228 rfl rfl ?_
            obtain ⟨q22, kk⟩ := kk
            obtain ⟨q23, kk⟩ := kk
            refine r_cpy dX11_judge_115 cpX11_113 rfl q23 q22.1 q22.2.1 q22.2.2.1 q22.2.2.2.1 q22.2.2.2.2 (Nat.le_of_ble_eq_true rfl) ?_
            refine r_eI (r' := (fun (T3 : St) => ((x_x_fine ((x_jd_judged T3 (T3.2.1 0) 76 564 p2).2) ((x_jd_judged T3 (T3.2.1 0) 76 564 p2).1)).1, (x_x_fine ((x_jd_judged T3 (T3.2.1 0) 76 564 p2).2) ((x_jd_judged T3 (T3.2.1 0) 76 564 p2).1)).2)) (sAr (x_ro_fill T 564 (T.2.1 0)) 569 (va_cpy ((x_ro_fill T 564 (T.2.1 0)).2.2.1 (5 + (p0 : Int32).toNatClampNeg)) ((x_ro_fill T 564 (T.2.1 0)).2.2.1 569) (p1 : Int32).toNatClampNeg (0 : Int32).toNatClampNeg ((x_ro_fill T 564 (T.2.1 0)).1 564 1 : Int32).toNatClampNeg))) (by simp only [jn]; rw [if_neg c9_9, if_neg c16_10, if_pos c31_11, if_pos c45_12, if_neg c81_13]) ?_
            generalize sAr (x_ro_fill T 564 (T.2.1 0)) 569 (va_cpy ((x_ro_fill T 564 (T.2.1 0)).2.2.1 (5 + (p0 : Int32).toNatClampNeg)) ((x_ro_fill T 564 (T.2.1 0)).2.2.1 569) (p1 : Int32).toNatClampNeg (0 : Int32).toNatClampNeg ((x_ro_fill T 564 (T.2.1 0)).1 564 1 : Int32).toNatClampNeg) = T3 at kk ⊢
            try dsimp only at kk
            refine r_p dX11_judge_118 rfl rfl ?_
            refine r_p dX11_judge_119 rfl rfl ?_
            refine r_get dX11_judge_120 fkX11_57 rfl rfl ?_
            refine r_p dX11_judge_123 rfl rfl ?_
            refine r_get dX11_judge_124 fkX11_30 rfl rfl ?_
            refine r_p dX11_judge_127 rfl rfl ?_
            refine r_get dX11_judge_128 fkX11_40 rfl rfl ?_
            refine r_p dX11_judge_131 rfl rfl ?_
            refine r_get dX11_judge_132 fkX11_75 rfl rfl ?_
            refine r_p dX11_judge_135 rfl rfl ?_
            obtain ⟨q24, kk⟩ := kk
            refine r_cv (d1 := 5) dX11_judge_136 cvX11_234 rfl rfl rfl rfl (Nat.le_of_ble_eq_true rfl) (Nat.le_of_ble_eq_true rfl) (Nat.le_of_ble_eq_true rfl) (c_jd_judged (T3.2.1 0) 76 564 p2 q24) ?_
            refine r_cv (d1 := 1) dX11_judge_139 cvX11_91 rfl rfl rfl rfl (Nat.le_of_ble_eq_true rfl) (Nat.le_of_ble_eq_true rfl) (Nat.le_of_ble_eq_true rfl) (c_x_fine ((x_jd_judged T3 (T3.2.1 0) 76 564 p2).1)) ?_
            exact r_eI (r' := ((x_x_fine ((x_jd_judged T3 (T3.2.1 0) 76 564 p2).2) ((x_jd_judged T3 (T3.2.1 0) 76 564 p2).1)).1, (x_x_fine ((x_jd_judged T3 (T3.2.1 0) 76 564 p2).2) ((x_jd_judged T3 (T3.2.1 0) 76 564 p2).1)).2)) rfl (r_ri dX11_judge_142 rfl rfl rfl rfl)
          · refine r_p dX11_judge_84 rfl rfl ?_
            refine r_ci (x := 2) dX11_judge_85 rfl ?_
            refine r_cv (d1 := 1) dX11_judge_86 cvX11_83 rfl rfl rfl rfl (Nat.le_of_ble_eq_true rfl) (Nat.le_of_ble_eq_true rfl) (Nat.le_of_ble_eq_true rfl) (c_x_found 2) ?_
            exact r_eI (r' := ((x_x_found (x_ro_fill T 564 (T.2.1 0)) 2).1, (x_x_found (x_ro_fill T 564 (T.2.1 0)) 2).2)) (by simp only [jn]; rw [if_neg c9_9, if_neg c16_10, if_pos c31_11, if_pos c45_12, if_pos c81_13]) (r_ri dX11_judge_89 rfl rfl rfl rfl)
        · refine r_p dX11_judge_48 rfl rfl ?_
          refine r_ci (x := 1) dX11_judge_49 rfl ?_
          refine r_cv (d1 := 1) dX11_judge_50 cvX11_83 rfl rfl rfl rfl (Nat.le_of_ble_eq_true rfl) (Nat.le_of_ble_eq_true rfl) (Nat.le_of_ble_eq_true rfl) (c_x_found 1) ?_
          exact r_eI (r' := ((x_x_found T 1).1, (x_x_found T 1).2)) (by simp only [jn]; rw [if_neg c9_9, if_neg c16_10, if_pos c31_11, if_neg c45_12]) (r_ri dX11_judge_53 rfl rfl rfl rfl)
      · refine r_p dX11_judge_34 rfl rfl ?_
        exact r_eI (r' := (x_x_refusal T 1, T)) (by simp only [jn]; rw [if_neg c9_9, if_neg c16_10, if_neg c31_11]) (r_ri dX11_judge_36 rfl rfl rfl rfl)
def x_rd_readDish (T : St) (p0 : Nat) : St := jn (fun (KJ1 : St → St) => if (T.1 13 2) = 0 then (if (x_rd_isWord T 2) = 0 then (KJ1 T) else (if (T.1 p0 4) < 8 then (KJ1 T) else (KJ1 (sF T 13 2 3)))) else (KJ1 T)) (fun (T301 : St) => if ((x_rd_takeWord T301 2).1 13 2) = 0 then (fun (T1 : St) => (fun (T2 : St) => (fun (T3 : St) => (fun (T4 : St) => (fun (T5 : St) => sF T5 p0 4 ((T5.1 p0 4) + 1)) (sA (x_rd_readSteps T4 p0) (p0 + 7) ((x_rd_takeWord T301 2).1 p0 4 : Int32).toNatClampNeg (((x_rd_readSteps T4 p0).1 p0 10) - ((x_rd_readSteps T4 p0).2.2.1 (p0 + 8) ((x_rd_takeWord T301 2).1 p0 4 : Int32).toNatClampNeg)))) (sA (x_rd_takeSign T3) (p0 + 8) ((x_rd_takeWord T301 2).1 p0 4 : Int32).toNatClampNeg ((x_rd_takeSign T3).1 p0 10))) (sA ((x_rd_takeNumber T2 0 1).2) (p0 + 6) ((x_rd_takeWord T301 2).1 p0 4 : Int32).toNatClampNeg ((x_rd_takeNumber T2 0 1).1))) (sA ((x_rd_takeNumber T1 0 9).2) (p0 + 5) ((x_rd_takeWord T301 2).1 p0 4 : Int32).toNatClampNeg ((x_rd_takeNumber T1 0 9).1))) (sA ((x_rd_takeNumber (x_rd_takeWord T301 2) 0 2).2) (p0 + 4) ((x_rd_takeWord T301 2).1 p0 4 : Int32).toNatClampNeg ((x_rd_takeNumber (x_rd_takeWord T301 2) 0 2).1)) else (x_rd_takeWord T301 2))
def ok_rd_readDish (T : St) (p0 : Nat) : Prop := jn (fun (OJ1 : St → Prop) => (((T.1 13 2) = 0 → (ok_rd_isWord T 2) ∧ (((x_rd_isWord T 2) = 0 → OJ1 T) ∧ (¬ (x_rd_isWord T 2) = 0 → (sh p0 = .inr 1) ∧ (((T.1 p0 4) < 8 → OJ1 T) ∧ (¬ (T.1 p0 4) < 8 → OJ1 (sF T 13 2 3)))))) ∧ (¬ (T.1 13 2) = 0 → OJ1 T))) (fun (T301 : St) => (ok_rd_takeWord T301 2) ∧ (((x_rd_takeWord T301 2).1 13 2) = 0 → (sh p0 = .inr 1) ∧ (ok_rd_takeNumber (x_rd_takeWord T301 2) 0 2) ∧ (sh (p0 + 4) = .inl (0, 8)) ∧ (vp_in ((x_rd_takeWord T301 2).1 p0 4) 8) ∧ (fun (T1 : St) => (sh p0 = .inr 1) ∧ (ok_rd_takeNumber T1 0 9) ∧ (sh (p0 + 5) = .inl (0, 8)) ∧ (vp_in ((x_rd_takeWord T301 2).1 p0 4) 8) ∧ (fun (T2 : St) => (sh p0 = .inr 1) ∧ (ok_rd_takeNumber T2 0 1) ∧ (sh (p0 + 6) = .inl (0, 8)) ∧ (vp_in ((x_rd_takeWord T301 2).1 p0 4) 8) ∧ (fun (T3 : St) => (ok_rd_takeSign T3) ∧ (sh p0 = .inr 1) ∧ (sh (p0 + 8) = .inl (0, 8)) ∧ (vp_in ((x_rd_takeWord T301 2).1 p0 4) 8) ∧ (fun (T4 : St) => (ok_rd_readSteps T4 p0) ∧ (sh p0 = .inr 1) ∧ (sh (p0 + 8) = .inl (0, 8)) ∧ (vp_in ((x_rd_takeWord T301 2).1 p0 4) 8) ∧ (sh (p0 + 7) = .inl (0, 8)) ∧ (fun (T5 : St) => (sh p0 = .inr 1) ∧ True) (sA (x_rd_readSteps T4 p0) (p0 + 7) ((x_rd_takeWord T301 2).1 p0 4 : Int32).toNatClampNeg (((x_rd_readSteps T4 p0).1 p0 10) - ((x_rd_readSteps T4 p0).2.2.1 (p0 + 8) ((x_rd_takeWord T301 2).1 p0 4 : Int32).toNatClampNeg)))) (sA (x_rd_takeSign T3) (p0 + 8) ((x_rd_takeWord T301 2).1 p0 4 : Int32).toNatClampNeg ((x_rd_takeSign T3).1 p0 10))) (sA ((x_rd_takeNumber T2 0 1).2) (p0 + 6) ((x_rd_takeWord T301 2).1 p0 4 : Int32).toNatClampNeg ((x_rd_takeNumber T2 0 1).1))) (sA ((x_rd_takeNumber T1 0 9).2) (p0 + 5) ((x_rd_takeWord T301 2).1 p0 4 : Int32).toNatClampNeg ((x_rd_takeNumber T1 0 9).1))) (sA ((x_rd_takeNumber (x_rd_takeWord T301 2) 0 2).2) (p0 + 4) ((x_rd_takeWord T301 2).1 p0 4 : Int32).toNatClampNeg ((x_rd_takeNumber (x_rd_takeWord T301 2) 0 2).1))))
theorem c_rd_readDish {X : Nat × (Nat → Int32)} {T : St} (p0 : Nat) (kk : ok_rd_readDish T p0) : tC X 8 mX6_readDish [.ref 13, .ref p0] T none (x_rd_readDish T p0) := by
  unfold ok_rd_readDish at kk
  refine tC_of ?_
  refine r_p dX6_readDish_0 rfl rfl ?_
  refine r_get dX6_readDish_1 fkX6_24 rfl rfl ?_
  obtain ⟨KJ1, hKJ1⟩ : ∃ q : St → St, q = (fun (T301 : St) => if ((x_rd_takeWord T301 2).1 13 2) = 0 then (fun (T1 : St) => (fun (T2 : St) => (fun (T3 : St) => (fun (T4 : St) => (fun (T5 : St) => sF T5 p0 4 ((T5.1 p0 4) + 1)) (sA (x_rd_readSteps T4 p0) (p0 + 7) ((x_rd_takeWord T301 2).1 p0 4 : Int32).toNatClampNeg (((x_rd_readSteps T4 p0).1 p0 10) - ((x_rd_readSteps T4 p0).2.2.1 (p0 + 8) ((x_rd_takeWord T301 2).1 p0 4 : Int32).toNatClampNeg)))) (sA (x_rd_takeSign T3) (p0 + 8) ((x_rd_takeWord T301 2).1 p0 4 : Int32).toNatClampNeg ((x_rd_takeSign T3).1 p0 10))) (sA ((x_rd_takeNumber T2 0 1).2) (p0 + 6) ((x_rd_takeWord T301 2).1 p0 4 : Int32).toNatClampNeg ((x_rd_takeNumber T2 0 1).1))) (sA ((x_rd_takeNumber T1 0 9).2) (p0 + 5) ((x_rd_takeWord T301 2).1 p0 4 : Int32).toNatClampNeg ((x_rd_takeNumber T1 0 9).1))) (sA ((x_rd_takeNumber (x_rd_takeWord T301 2) 0 2).2) (p0 + 4) ((x_rd_takeWord T301 2).1 p0 4 : Int32).toNatClampNeg ((x_rd_takeNumber (x_rd_takeWord T301 2) 0 2).1)) else (x_rd_takeWord T301 2)) := ⟨_, rfl⟩
  obtain ⟨OJ1, hOJ1⟩ : ∃ q : St → Prop, q = (fun (T301 : St) => (ok_rd_takeWord T301 2) ∧ (((x_rd_takeWord T301 2).1 13 2) = 0 → (sh p0 = .inr 1) ∧ (ok_rd_takeNumber (x_rd_takeWord T301 2) 0 2) ∧ (sh (p0 + 4) = .inl (0, 8)) ∧ (vp_in ((x_rd_takeWord T301 2).1 p0 4) 8) ∧ (fun (T1 : St) => (sh p0 = .inr 1) ∧ (ok_rd_takeNumber T1 0 9) ∧ (sh (p0 + 5) = .inl (0, 8)) ∧ (vp_in ((x_rd_takeWord T301 2).1 p0 4) 8) ∧ (fun (T2 : St) => (sh p0 = .inr 1) ∧ (ok_rd_takeNumber T2 0 1) ∧ (sh (p0 + 6) = .inl (0, 8)) ∧ (vp_in ((x_rd_takeWord T301 2).1 p0 4) 8) ∧ (fun (T3 : St) => (ok_rd_takeSign T3) ∧ (sh p0 = .inr 1) ∧ (sh (p0 + 8) = .inl (0, 8)) ∧ (vp_in ((x_rd_takeWord T301 2).1 p0 4) 8) ∧ (fun (T4 : St) => (ok_rd_readSteps T4 p0) ∧ (sh p0 = .inr 1) ∧ (sh (p0 + 8) = .inl (0, 8)) ∧ (vp_in ((x_rd_takeWord T301 2).1 p0 4) 8) ∧ (sh (p0 + 7) = .inl (0, 8)) ∧ (fun (T5 : St) => (sh p0 = .inr 1) ∧ True) (sA (x_rd_readSteps T4 p0) (p0 + 7) ((x_rd_takeWord T301 2).1 p0 4 : Int32).toNatClampNeg (((x_rd_readSteps T4 p0).1 p0 10) - ((x_rd_readSteps T4 p0).2.2.1 (p0 + 8) ((x_rd_takeWord T301 2).1 p0 4 : Int32).toNatClampNeg)))) (sA (x_rd_takeSign T3) (p0 + 8) ((x_rd_takeWord T301 2).1 p0 4 : Int32).toNatClampNeg ((x_rd_takeSign T3).1 p0 10))) (sA ((x_rd_takeNumber T2 0 1).2) (p0 + 6) ((x_rd_takeWord T301 2).1 p0 4 : Int32).toNatClampNeg ((x_rd_takeNumber T2 0 1).1))) (sA ((x_rd_takeNumber T1 0 9).2) (p0 + 5) ((x_rd_takeWord T301 2).1 p0 4 : Int32).toNatClampNeg ((x_rd_takeNumber T1 0 9).1))) (sA ((x_rd_takeNumber (x_rd_takeWord T301 2) 0 2).2) (p0 + 4) ((x_rd_takeWord T301 2).1 p0 4 : Int32).toNatClampNeg ((x_rd_takeNumber (x_rd_takeWord T301 2) 0 2).1)))) := ⟨_, rfl⟩
  rw [← hOJ1] at kk
  simp only [jn] at kk
  have hJ1 : ∀ (T301 : St), OJ1 T301 → tR X 7 mX6_readDish 30 [some (.ref 13), some (.ref p0), none] [] T301 none (KJ1 T301) := by
    intro T301 kk
    rw [hOJ1] at kk
    try dsimp only at kk
    rw [hKJ1]
    refine r_p dX6_readDish_30 rfl rfl ?_
    refine r_ks 2 rfl dX6_readDish_31 rfl ?_
    obtain ⟨q3, kk⟩ := kk
    refine r_cv (d1 := 6) dX6_readDish_33 cvX6_54 rfl rfl rfl rfl (Nat.le_of_ble_eq_true rfl) (Nat.le_of_ble_eq_true rfl) (Nat.le_of_ble_eq_true rfl) (c_rd_takeWord 2 q3) ?_
    refine r_p dX6_readDish_36 rfl rfl ?_
    refine r_get dX6_readDish_37 fkX6_24 rfl rfl ?_
    refine r_ieq dX6_readDish_40 rfl (fun c40_4 => ?_) (fun c40_4 => ?_)
    · have kk := kk c40_4
      refine r_p dX6_readDish_44 rfl rfl ?_
      obtain ⟨q4, kk⟩ := kk
      refine r_get dX6_readDish_45 fkX6_84 q4 rfl ?_
      refine r_p dX6_readDish_48 rfl rfl ?_
      refine r_p dX6_readDish_49 rfl rfl ?_
      refine r_get dX6_readDish_50 fkX6_87 q4 rfl ?_
      refine r_p dX6_readDish_53 rfl rfl ?_
      refine r_p dX6_readDish_54 rfl rfl ?_
      refine r_ci (x := 0) dX6_readDish_55 rfl ?_
      refine r_ci (x := 2) dX6_readDish_56 rfl ?_
      obtain ⟨q5, kk⟩ := kk
      refine r_cv (d1 := 3) dX6_readDish_57 cvX6_66 rfl rfl rfl rfl (Nat.le_of_ble_eq_true rfl) (Nat.le_of_ble_eq_true rfl) (Nat.le_of_ble_eq_true rfl) (c_rd_takeNumber 0 2 q5) ?_
      obtain ⟨q6, kk⟩ := kk
      obtain ⟨q7, kk⟩ := kk
      refine r_ias dX6_readDish_60 q6 q7 ?_
      refine r_eV (r' := (fun (T1 : St) => (fun (T2 : St) => (fun (T3 : St) => (fun (T4 : St) => (fun (T5 : St) => sF T5 p0 4 ((T5.1 p0 4) + 1)) (sA (x_rd_readSteps T4 p0) (p0 + 7) ((x_rd_takeWord T301 2).1 p0 4 : Int32).toNatClampNeg (((x_rd_readSteps T4 p0).1 p0 10) - ((x_rd_readSteps T4 p0).2.2.1 (p0 + 8) ((x_rd_takeWord T301 2).1 p0 4 : Int32).toNatClampNeg)))) (sA (x_rd_takeSign T3) (p0 + 8) ((x_rd_takeWord T301 2).1 p0 4 : Int32).toNatClampNeg ((x_rd_takeSign T3).1 p0 10))) (sA ((x_rd_takeNumber T2 0 1).2) (p0 + 6) ((x_rd_takeWord T301 2).1 p0 4 : Int32).toNatClampNeg ((x_rd_takeNumber T2 0 1).1))) (sA ((x_rd_takeNumber T1 0 9).2) (p0 + 5) ((x_rd_takeWord T301 2).1 p0 4 : Int32).toNatClampNeg ((x_rd_takeNumber T1 0 9).1))) (sA ((x_rd_takeNumber (x_rd_takeWord T301 2) 0 2).2) (p0 + 4) ((x_rd_takeWord T301 2).1 p0 4 : Int32).toNatClampNeg ((x_rd_takeNumber (x_rd_takeWord T301 2) 0 2).1))) (by first | rw [if_pos c40_4] | (dsimp only; rw [if_pos c40_4])) ?_
      generalize sA ((x_rd_takeNumber (x_rd_takeWord T301 2) 0 2).2) (p0 + 4) ((x_rd_takeWord T301 2).1 p0 4 : Int32).toNatClampNeg ((x_rd_takeNumber (x_rd_takeWord T301 2) 0 2).1) = T1 at kk ⊢
      try dsimp only at kk
      refine r_p dX6_readDish_61 rfl rfl ?_
      obtain ⟨q8, kk⟩ := kk
      refine r_get dX6_readDish_62 fkX6_90 q8 rfl ?_
      refine r_p dX6_readDish_65 rfl rfl ?_
      refine r_p dX6_readDish_66 rfl rfl ?_
      refine r_ci (x := 0) dX6_readDish_67 rfl ?_
      refine r_cb (x := 9) dX6_readDish_68 rfl ?_
      obtain ⟨q9, kk⟩ := kk
      refine r_cv (d1 := 3) dX6_readDish_70 cvX6_66 rfl rfl rfl rfl (Nat.le_of_ble_eq_true rfl) (Nat.le_of_ble_eq_true rfl) (Nat.le_of_ble_eq_true rfl) (c_rd_takeNumber 0 9 q9) ?_
      obtain ⟨q10, kk⟩ := kk
      obtain ⟨q11, kk⟩ := kk
      refine r_ias dX6_readDish_73 q10 q11 ?_
      refine r_eV (r' := (fun (T2 : St) => (fun (T3 : St) => (fun (T4 : St) => (fun (T5 : St) => sF T5 p0 4 ((T5.1 p0 4) + 1)) (sA (x_rd_readSteps T4 p0) (p0 + 7) ((x_rd_takeWord T301 2).1 p0 4 : Int32).toNatClampNeg (((x_rd_readSteps T4 p0).1 p0 10) - ((x_rd_readSteps T4 p0).2.2.1 (p0 + 8) ((x_rd_takeWord T301 2).1 p0 4 : Int32).toNatClampNeg)))) (sA (x_rd_takeSign T3) (p0 + 8) ((x_rd_takeWord T301 2).1 p0 4 : Int32).toNatClampNeg ((x_rd_takeSign T3).1 p0 10))) (sA ((x_rd_takeNumber T2 0 1).2) (p0 + 6) ((x_rd_takeWord T301 2).1 p0 4 : Int32).toNatClampNeg ((x_rd_takeNumber T2 0 1).1))) (sA ((x_rd_takeNumber T1 0 9).2) (p0 + 5) ((x_rd_takeWord T301 2).1 p0 4 : Int32).toNatClampNeg ((x_rd_takeNumber T1 0 9).1))) rfl ?_
      generalize sA ((x_rd_takeNumber T1 0 9).2) (p0 + 5) ((x_rd_takeWord T301 2).1 p0 4 : Int32).toNatClampNeg ((x_rd_takeNumber T1 0 9).1) = T2 at kk ⊢
      try dsimp only at kk
      refine r_p dX6_readDish_74 rfl rfl ?_
      obtain ⟨q12, kk⟩ := kk
      refine r_get dX6_readDish_75 fkX6_93 q12 rfl ?_
      refine r_p dX6_readDish_78 rfl rfl ?_
      refine r_p dX6_readDish_79 rfl rfl ?_
      refine r_ci (x := 0) dX6_readDish_80 rfl ?_
      refine r_ci (x := 1) dX6_readDish_81 rfl ?_
      obtain ⟨q13, kk⟩ := kk
      refine r_cv (d1 := 3) dX6_readDish_82 cvX6_66 rfl rfl rfl rfl (Nat.le_of_ble_eq_true rfl) (Nat.le_of_ble_eq_true rfl) (Nat.le_of_ble_eq_true rfl) (c_rd_takeNumber 0 1 q13) ?_
      obtain ⟨q14, kk⟩ := kk
      obtain ⟨q15, kk⟩ := kk
      refine r_ias dX6_readDish_85 q14 q15 ?_
      refine r_eV (r' := (fun (T3 : St) => (fun (T4 : St) => (fun (T5 : St) => sF T5 p0 4 ((T5.1 p0 4) + 1)) (sA (x_rd_readSteps T4 p0) (p0 + 7) ((x_rd_takeWord T301 2).1 p0 4 : Int32).toNatClampNeg (((x_rd_readSteps T4 p0).1 p0 10) - ((x_rd_readSteps T4 p0).2.2.1 (p0 + 8) ((x_rd_takeWord T301 2).1 p0 4 : Int32).toNatClampNeg)))) (sA (x_rd_takeSign T3) (p0 + 8) ((x_rd_takeWord T301 2).1 p0 4 : Int32).toNatClampNeg ((x_rd_takeSign T3).1 p0 10))) (sA ((x_rd_takeNumber T2 0 1).2) (p0 + 6) ((x_rd_takeWord T301 2).1 p0 4 : Int32).toNatClampNeg ((x_rd_takeNumber T2 0 1).1))) rfl ?_
      generalize sA ((x_rd_takeNumber T2 0 1).2) (p0 + 6) ((x_rd_takeWord T301 2).1 p0 4 : Int32).toNatClampNeg ((x_rd_takeNumber T2 0 1).1) = T3 at kk ⊢
      try dsimp only at kk
      refine r_p dX6_readDish_86 rfl rfl ?_
      obtain ⟨q16, kk⟩ := kk
      refine r_cv (d1 := 3) dX6_readDish_87 cvX6_70 rfl rfl rfl rfl (Nat.le_of_ble_eq_true rfl) (Nat.le_of_ble_eq_true rfl) (Nat.le_of_ble_eq_true rfl) (c_rd_takeSign  q16) ?_
      refine r_p dX6_readDish_90 rfl rfl ?_
      obtain ⟨q17, kk⟩ := kk
      refine r_get dX6_readDish_91 fkX6_96 q17 rfl ?_
      refine r_p dX6_readDish_94 rfl rfl ?_
      refine r_p dX6_readDish_95 rfl rfl ?_
      refine r_get dX6_readDish_96 fkX6_99 q17 rfl ?_
      obtain ⟨q18, kk⟩ := kk
      obtain ⟨q19, kk⟩ := kk
      refine r_ias dX6_readDish_99 q18 q19 ?_
      refine r_eV (r' := (fun (T4 : St) => (fun (T5 : St) => sF T5 p0 4 ((T5.1 p0 4) + 1)) (sA (x_rd_readSteps T4 p0) (p0 + 7) ((x_rd_takeWord T301 2).1 p0 4 : Int32).toNatClampNeg (((x_rd_readSteps T4 p0).1 p0 10) - ((x_rd_readSteps T4 p0).2.2.1 (p0 + 8) ((x_rd_takeWord T301 2).1 p0 4 : Int32).toNatClampNeg)))) (sA (x_rd_takeSign T3) (p0 + 8) ((x_rd_takeWord T301 2).1 p0 4 : Int32).toNatClampNeg ((x_rd_takeSign T3).1 p0 10))) rfl ?_
      generalize sA (x_rd_takeSign T3) (p0 + 8) ((x_rd_takeWord T301 2).1 p0 4 : Int32).toNatClampNeg ((x_rd_takeSign T3).1 p0 10) = T4 at kk ⊢
      try dsimp only at kk
      refine r_p dX6_readDish_100 rfl rfl ?_
      refine r_p dX6_readDish_101 rfl rfl ?_
      obtain ⟨q20, kk⟩ := kk
      refine r_cv (d1 := 7) dX6_readDish_102 cvX6_102 rfl rfl rfl rfl (Nat.le_of_ble_eq_true rfl) (Nat.le_of_ble_eq_true rfl) (Nat.le_of_ble_eq_true rfl) (c_rd_readSteps p0 q20) ?_
      refine r_p dX6_readDish_105 rfl rfl ?_
      obtain ⟨q21, kk⟩ := kk
      refine r_get dX6_readDish_106 fkX6_105 q21 rfl ?_
      refine r_p dX6_readDish_109 rfl rfl ?_
      refine r_p dX6_readDish_110 rfl rfl ?_
      refine r_get dX6_readDish_111 fkX6_99 q21 rfl ?_
      refine r_p dX6_readDish_114 rfl rfl ?_
      refine r_get dX6_readDish_115 fkX6_96 q21 rfl ?_
      refine r_p dX6_readDish_118 rfl rfl ?_
      obtain ⟨q22, kk⟩ := kk
      obtain ⟨q23, kk⟩ := kk
      refine r_ia dX6_readDish_119 q22 q23 ?_
      refine r_p dX6_readDish_120 rfl rfl ?_
      obtain ⟨q24, kk⟩ := kk
      refine r_ias dX6_readDish_121 q24 q23 ?_
      refine r_eV (r' := (fun (T5 : St) => sF T5 p0 4 ((T5.1 p0 4) + 1)) (sA (x_rd_readSteps T4 p0) (p0 + 7) ((x_rd_takeWord T301 2).1 p0 4 : Int32).toNatClampNeg (((x_rd_readSteps T4 p0).1 p0 10) - ((x_rd_readSteps T4 p0).2.2.1 (p0 + 8) ((x_rd_takeWord T301 2).1 p0 4 : Int32).toNatClampNeg)))) rfl ?_
      generalize sA (x_rd_readSteps T4 p0) (p0 + 7) ((x_rd_takeWord T301 2).1 p0 4 : Int32).toNatClampNeg (((x_rd_readSteps T4 p0).1 p0 10) - ((x_rd_readSteps T4 p0).2.2.1 (p0 + 8) ((x_rd_takeWord T301 2).1 p0 4 : Int32).toNatClampNeg)) = T5 at kk ⊢
      try dsimp only at kk
      refine r_p dX6_readDish_122 rfl rfl ?_
      refine r_p dX6_readDish_123 rfl rfl ?_
      obtain ⟨q25, kk⟩ := kk
      refine r_get dX6_readDish_124 fkX6_84 q25 rfl ?_
      refine r_ci (x := 1) dX6_readDish_127 rfl ?_
      refine r_p dX6_readDish_128 rfl rfl ?_
      refine r_put dX6_readDish_129 fkX6_84 rfl q25 rfl (Nat.le_of_ble_eq_true rfl) rfl rfl ?_
      exact r_eV (r' := (sF T5 p0 4 ((T5.1 p0 4) + 1))) rfl (r_rv dX6_readDish_132 rfl rfl rfl)
    · exact r_eV (r' := (x_rd_takeWord T301 2)) (by first | rw [if_neg c40_4] | (dsimp only; rw [if_neg c40_4])) (r_rv dX6_readDish_43 rfl rfl rfl)
  refine r_eV (r' := jn (fun (KJ1 : St → St) => if (T.1 13 2) = 0 then (if (x_rd_isWord T 2) = 0 then (KJ1 T) else (if (T.1 p0 4) < 8 then (KJ1 T) else (KJ1 (sF T 13 2 3)))) else (KJ1 T)) KJ1) (by rw [hKJ1]; unfold x_rd_readDish; rfl) ?_
  refine r_ine dX6_readDish_4 rfl (fun c4_5 => ?_) (fun c4_5 => ?_)
  · have kk := kk.2 c4_5
    show tR _ _ _ _ [some (.ref 13), some (.ref p0), none] [] _ _ _
    exact r_eV (r' := KJ1 T) (by simp only [jn]; rw [if_neg c4_5]) ((hJ1 T kk))
  · have kk := kk.1 c4_5
    refine r_p dX6_readDish_7 rfl rfl ?_
    refine r_ks 2 rfl dX6_readDish_8 rfl ?_
    obtain ⟨q26, kk⟩ := kk
    refine r_cv (d1 := 5) dX6_readDish_10 cvX6_39 rfl rfl rfl rfl (Nat.le_of_ble_eq_true rfl) (Nat.le_of_ble_eq_true rfl) (Nat.le_of_ble_eq_true rfl) (c_rd_isWord 2 q26) ?_
    refine r_ieq dX6_readDish_13 rfl (fun c13_6 => ?_) (fun c13_6 => ?_)
    · have kk := kk.1 c13_6
      show tR _ _ _ _ [some (.ref 13), some (.ref p0), none] [] _ _ _
      exact r_eV (r' := KJ1 T) (by simp only [jn]; rw [if_pos c4_5, if_pos c13_6]) ((hJ1 T kk))
    · have kk := kk.2 c13_6
      refine r_p dX6_readDish_16 rfl rfl ?_
      obtain ⟨q27, kk⟩ := kk
      refine r_get dX6_readDish_17 fkX6_84 q27 rfl ?_
      refine r_cb (x := 8) dX6_readDish_20 rfl ?_
      refine r_clt dX6_readDish_22 rfl (fun c22_7 => ?_) (fun c22_7 => ?_)
      · have kk := kk.1 c22_7
        show tR _ _ _ _ [some (.ref 13), some (.ref p0), none] [] _ _ _
        exact r_eV (r' := KJ1 T) (by simp only [jn]; rw [if_pos c4_5, if_neg c13_6, if_pos c22_7]) ((hJ1 T kk))
      · have kk := kk.2 c22_7
        refine r_p dX6_readDish_25 rfl rfl ?_
        refine r_ci (x := 3) dX6_readDish_26 rfl ?_
        refine r_put dX6_readDish_27 fkX6_24 rfl rfl rfl (Nat.le_of_ble_eq_true rfl) rfl rfl ?_
        show tR _ _ _ _ [some (.ref 13), some (.ref p0), none] [] _ _ _
        exact r_eV (r' := KJ1 (sF T 13 2 3)) (by simp only [jn]; rw [if_pos c4_5, if_neg c13_6, if_neg c22_7]) ((hJ1 (sF T 13 2 3) kk))
