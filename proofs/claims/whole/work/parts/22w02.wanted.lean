def bd_pl_settleDish_84 (l1 : Int32) (l2 : Nat) (l3 : Int32) (l4 : Int32) (Kk : Int32 → St → Prop) (Q : St → Prop) (N : Int32 → St → Prop) (v5 : Int32) (T : St) : Prop := (((5 ≤ v5) → Kk v5 T) ∧ (¬ (5 ≤ v5) → (sh l2 = .inl (1, 5)) ∧ (vp_in v5 5) ∧ (vp_in l4 96) ∧ (sh ((123 + 4 * (l4 : Int32).toNatClampNeg) + 3) = .inl (1, 5)) ∧ jn (fun (T3 : St) => N (v5 + 1) T3) (sL T l2 (v5 : Int32).toNatClampNeg ((T.2.2.2 l2 (v5 : Int32).toNatClampNeg) &&& (T.2.2.2 ((123 + 4 * (l4 : Int32).toNatClampNeg) + 3) (v5 : Int32).toNatClampNeg)))))
def wp_pl_settleDish_84 (l1 : Int32) (l2 : Nat) (l3 : Int32) (l4 : Int32) (Kk : Int32 → St → Prop) (Q : St → Prop) : Nat → Int32 → St → Prop
  | 0, _, _ => False
  | f + 1, v5, T => bd_pl_settleDish_84 l1 l2 l3 l4 Kk Q (wp_pl_settleDish_84 l1 l2 l3 l4 Kk Q f) v5 T
theorem mb_pl_settleDish_84 (l1 : Int32) (l2 : Nat) (l3 : Int32) (l4 : Int32) {Kk Kk2 : Int32 → St → Prop} {Q Q2 : St → Prop} {N N2 : Int32 → St → Prop} (hK : ∀ (v5 : Int32) (T : St), Kk v5 T → Kk2 v5 T) (hQ : ∀ r, Q r → Q2 r) (hN : ∀ (v5 : Int32) (T : St), N v5 T → N2 v5 T) (v5 : Int32) (T : St) (w : bd_pl_settleDish_84 l1 l2 l3 l4 Kk Q N v5 T) : bd_pl_settleDish_84 l1 l2 l3 l4 Kk2 Q2 N2 v5 T := by
  unfold bd_pl_settleDish_84 at w ⊢
  refine mo_if w (fun c87_3 w => ?_) (fun c87_3 w => ?_)
  · exact hK v5 T w
  · obtain ⟨q5, w⟩ := w
    refine ⟨q5, ?_⟩
    obtain ⟨q6, w⟩ := w
    refine ⟨q6, ?_⟩
    obtain ⟨q7, w⟩ := w
    refine ⟨q7, ?_⟩
    obtain ⟨q8, w⟩ := w
    refine ⟨q8, ?_⟩
    refine mo_n w (fun T3 w => ?_)
    exact hN (v5 + 1) T3 w
theorem mo_pl_settleDish_84 (l1 : Int32) (l2 : Nat) (l3 : Int32) (l4 : Int32) {Kk Kk2 : Int32 → St → Prop} {Q Q2 : St → Prop} (hK : ∀ (v5 : Int32) (T : St), Kk v5 T → Kk2 v5 T) (hQ : ∀ r, Q r → Q2 r) : ∀ (f : Nat) (v5 : Int32) (T : St), wp_pl_settleDish_84 l1 l2 l3 l4 Kk Q f v5 T → wp_pl_settleDish_84 l1 l2 l3 l4 Kk2 Q2 f v5 T := by
  intro f
  induction f with
  | zero => intro v5 T w; exact w.elim
  | succ f ih => intro v5 T w; exact mb_pl_settleDish_84 l1 l2 l3 l4 hK hQ ih v5 T w
theorem wr_pl_settleDish_84 (l1 : Int32) (l2 : Nat) (l3 : Int32) (l4 : Int32) {Kk : Int32 → St → Prop} {Q : St → Prop} (I : Int32 → St → Prop) (m : Int32 → St → Nat) (hv : ∀ (v5 : Int32) (T : St), I v5 T → bd_pl_settleDish_84 l1 l2 l3 l4 Kk Q (fun uv5 uT => I uv5 uT ∧ m uv5 uT < m v5 T) v5 T) : ∀ (f : Nat) (v5 : Int32) (T : St), m v5 T < f → I v5 T → wp_pl_settleDish_84 l1 l2 l3 l4 Kk Q f v5 T := by
  intro f
  induction f with
  | zero => intro v5 T h; exact absurd h (Nat.not_lt_zero _)
  | succ f ih => intro v5 T h hi; exact mb_pl_settleDish_84 l1 l2 l3 l4 (fun _ _ h => h) (fun _ h => h) (fun uv5 uT g => ih uv5 uT (by omega) g.1) v5 T (hv v5 T hi)
theorem so_pl_settleDish_84 (l1 : Int32) (l2 : Nat) (l3 : Int32) (l4 : Int32) {K : Int32 → St → St} {Kk Kk2 : Int32 → St → Prop} {Q : St → Prop} (hk : ∀ (v5 : Int32) (T : St), Kk v5 T → Kk2 v5 T ∧ Q (K v5 T)) : ∀ (f : Nat) (v5 : Int32) (T : St), wp_pl_settleDish_84 l1 l2 l3 l4 Kk Q f v5 T → ok_pl_settleDish_84 l1 l2 l3 l4 Kk2 f v5 T ∧ Q (x_pl_settleDish_84 l1 l2 l3 l4 K f v5 T) := by
  intro f
  induction f with
  | zero => intro v5 T w; exact w.elim
  | succ f ih =>
    intro v5 T w
    rw [wp_pl_settleDish_84, bd_pl_settleDish_84] at w
    rw [ok_pl_settleDish_84, x_pl_settleDish_84]
    refine so_if2 (Q := Q) w (fun c87_3 w => ?_) (fun c87_3 w => ?_)
    · exact hk v5 T w
    · obtain ⟨q5, w⟩ := w
      refine so_rq q5 ?_
      obtain ⟨q6, w⟩ := w
      refine so_rq q6 ?_
      obtain ⟨q7, w⟩ := w
      refine so_rq q7 ?_
      obtain ⟨q8, w⟩ := w
      refine so_rq q8 ?_
      refine so_n (Q := Q) w (fun T3 w => ?_)
      exact ih (v5 + 1) T3 w
def bd_pl_settleDish_30 (l1 : Int32) (l2 : Nat) (l3 : Int32) (Kk : Int32 → St → Prop) (Q : St → Prop) (N : Int32 → St → Prop) (v4 : Int32) (T : St) : Prop := (vp_in l1 8) ∧ ((((l3 + (T.2.2.1 82 (l1 : Int32).toNatClampNeg)) ≤ v4) → Kk v4 T) ∧ (¬ ((l3 + (T.2.2.1 82 (l1 : Int32).toNatClampNeg)) ≤ v4) → (vp_in v4 96) ∧ ((((T.1 (123 + 4 * (v4 : Int32).toNatClampNeg) 6) = 0) → N (v4 + 1) T) ∧ (¬ ((T.1 (123 + 4 * (v4 : Int32).toNatClampNeg) 6) = 0) → jn (fun (T2 : St) => wp_pl_settleDish_84 l1 l2 l3 v4 (fun w1_5 T201 => N (v4 + 1) T201) Q 1000 0 T2) (sA T 83 (l1 : Int32).toNatClampNeg (if T.1 (123 + 4 * (v4 : Int32).toNatClampNeg) 5 < T.2.2.1 83 (l1 : Int32).toNatClampNeg then T.1 (123 + 4 * (v4 : Int32).toNatClampNeg) 5 else T.2.2.1 83 (l1 : Int32).toNatClampNeg : Int32))))))
def wp_pl_settleDish_30 (l1 : Int32) (l2 : Nat) (l3 : Int32) (Kk : Int32 → St → Prop) (Q : St → Prop) : Nat → Int32 → St → Prop
  | 0, _, _ => False
  | f + 1, v4, T => bd_pl_settleDish_30 l1 l2 l3 Kk Q (wp_pl_settleDish_30 l1 l2 l3 Kk Q f) v4 T
theorem mb_pl_settleDish_30 (l1 : Int32) (l2 : Nat) (l3 : Int32) {Kk Kk2 : Int32 → St → Prop} {Q Q2 : St → Prop} {N N2 : Int32 → St → Prop} (hK : ∀ (v4 : Int32) (T : St), Kk v4 T → Kk2 v4 T) (hQ : ∀ r, Q r → Q2 r) (hN : ∀ (v4 : Int32) (T : St), N v4 T → N2 v4 T) (v4 : Int32) (T : St) (w : bd_pl_settleDish_30 l1 l2 l3 Kk Q N v4 T) : bd_pl_settleDish_30 l1 l2 l3 Kk2 Q2 N2 v4 T := by
  unfold bd_pl_settleDish_30 at w ⊢
  obtain ⟨q3, w⟩ := w
  refine ⟨q3, ?_⟩
  refine mo_if w (fun c40_1 w => ?_) (fun c40_1 w => ?_)
  · exact hK v4 T w
  · obtain ⟨q4, w⟩ := w
    refine ⟨q4, ?_⟩
    refine mo_if w (fun c53_2 w => ?_) (fun c53_2 w => ?_)
    · exact hN (v4 + 1) T w
    · refine mo_n w (fun T2 w => ?_)
      refine mo_pl_settleDish_84 l1 l2 l3 v4 (fun w1_5 T201 w => ?_) hQ 1000 0 T2 w
      exact hN (v4 + 1) T201 w
theorem mo_pl_settleDish_30 (l1 : Int32) (l2 : Nat) (l3 : Int32) {Kk Kk2 : Int32 → St → Prop} {Q Q2 : St → Prop} (hK : ∀ (v4 : Int32) (T : St), Kk v4 T → Kk2 v4 T) (hQ : ∀ r, Q r → Q2 r) : ∀ (f : Nat) (v4 : Int32) (T : St), wp_pl_settleDish_30 l1 l2 l3 Kk Q f v4 T → wp_pl_settleDish_30 l1 l2 l3 Kk2 Q2 f v4 T := by
  intro f
  induction f with
  | zero => intro v4 T w; exact w.elim
  | succ f ih => intro v4 T w; exact mb_pl_settleDish_30 l1 l2 l3 hK hQ ih v4 T w
theorem wr_pl_settleDish_30 (l1 : Int32) (l2 : Nat) (l3 : Int32) {Kk : Int32 → St → Prop} {Q : St → Prop} (I : Int32 → St → Prop) (m : Int32 → St → Nat) (hv : ∀ (v4 : Int32) (T : St), I v4 T → bd_pl_settleDish_30 l1 l2 l3 Kk Q (fun uv4 uT => I uv4 uT ∧ m uv4 uT < m v4 T) v4 T) : ∀ (f : Nat) (v4 : Int32) (T : St), m v4 T < f → I v4 T → wp_pl_settleDish_30 l1 l2 l3 Kk Q f v4 T := by
  intro f
  induction f with
  | zero => intro v4 T h; exact absurd h (Nat.not_lt_zero _)
  | succ f ih => intro v4 T h hi; exact mb_pl_settleDish_30 l1 l2 l3 (fun _ _ h => h) (fun _ h => h) (fun uv4 uT g => ih uv4 uT (by omega) g.1) v4 T (hv v4 T hi)
theorem so_pl_settleDish_30 (l1 : Int32) (l2 : Nat) (l3 : Int32) {K : Int32 → St → St} {Kk Kk2 : Int32 → St → Prop} {Q : St → Prop} (hk : ∀ (v4 : Int32) (T : St), Kk v4 T → Kk2 v4 T ∧ Q (K v4 T)) : ∀ (f : Nat) (v4 : Int32) (T : St), wp_pl_settleDish_30 l1 l2 l3 Kk Q f v4 T → ok_pl_settleDish_30 l1 l2 l3 Kk2 f v4 T ∧ Q (x_pl_settleDish_30 l1 l2 l3 K f v4 T) := by
  intro f
  induction f with
  | zero => intro v4 T w; exact w.elim
  | succ f ih =>
    intro v4 T w
    rw [wp_pl_settleDish_30, bd_pl_settleDish_30] at w
    rw [ok_pl_settleDish_30, x_pl_settleDish_30]
    obtain ⟨q3, w⟩ := w
    refine so_rq q3 ?_
    refine so_if2 (Q := Q) w (fun c40_1 w => ?_) (fun c40_1 w => ?_)
    · exact hk v4 T w
    · obtain ⟨q4, w⟩ := w
      refine so_rq q4 ?_
      refine so_if2 (Q := Q) w (fun c53_2 w => ?_) (fun c53_2 w => ?_)
      · exact ih (v4 + 1) T w
      · refine so_n (Q := Q) w (fun T2 w => ?_)
        refine so_pl_settleDish_84 l1 l2 l3 v4 (fun w1_5 T201 w => ?_) 1000 0 T2 w
        exact ih (v4 + 1) T201 w
def bd_pl_settleDish_154 (l1 : Int32) (l2 : Nat) (l3 : Int32) (l4 : Int32) (Kk : Int32 → St → Prop) (Q : St → Prop) (N : Int32 → St → Prop) (v5 : Int32) (T : St) : Prop := (((5 ≤ v5) → Kk v5 T) ∧ (¬ (5 ≤ v5) → (vp_in l4 96) ∧ (sh ((123 + 4 * (l4 : Int32).toNatClampNeg) + 3) = .inl (1, 5)) ∧ (vp_in v5 5) ∧ (sh l2 = .inl (1, 5)) ∧ jn (fun (T4 : St) => N (v5 + 1) T4) (sL T ((123 + 4 * (l4 : Int32).toNatClampNeg) + 3) (v5 : Int32).toNatClampNeg ((T.2.2.2 ((123 + 4 * (l4 : Int32).toNatClampNeg) + 3) (v5 : Int32).toNatClampNeg) &&& ((T.2.2.2 l2 (v5 : Int32).toNatClampNeg) ^^^ (-1))))))
def wp_pl_settleDish_154 (l1 : Int32) (l2 : Nat) (l3 : Int32) (l4 : Int32) (Kk : Int32 → St → Prop) (Q : St → Prop) : Nat → Int32 → St → Prop
  | 0, _, _ => False
  | f + 1, v5, T => bd_pl_settleDish_154 l1 l2 l3 l4 Kk Q (wp_pl_settleDish_154 l1 l2 l3 l4 Kk Q f) v5 T
theorem mb_pl_settleDish_154 (l1 : Int32) (l2 : Nat) (l3 : Int32) (l4 : Int32) {Kk Kk2 : Int32 → St → Prop} {Q Q2 : St → Prop} {N N2 : Int32 → St → Prop} (hK : ∀ (v5 : Int32) (T : St), Kk v5 T → Kk2 v5 T) (hQ : ∀ r, Q r → Q2 r) (hN : ∀ (v5 : Int32) (T : St), N v5 T → N2 v5 T) (v5 : Int32) (T : St) (w : bd_pl_settleDish_154 l1 l2 l3 l4 Kk Q N v5 T) : bd_pl_settleDish_154 l1 l2 l3 l4 Kk2 Q2 N2 v5 T := by
  unfold bd_pl_settleDish_154 at w ⊢
  refine mo_if w (fun c157_6 w => ?_) (fun c157_6 w => ?_)
  · exact hK v5 T w
  · obtain ⟨q11, w⟩ := w
    refine ⟨q11, ?_⟩
    obtain ⟨q12, w⟩ := w
    refine ⟨q12, ?_⟩
    obtain ⟨q13, w⟩ := w
    refine ⟨q13, ?_⟩
    obtain ⟨q14, w⟩ := w
    refine ⟨q14, ?_⟩
    refine mo_n w (fun T4 w => ?_)
    exact hN (v5 + 1) T4 w
theorem mo_pl_settleDish_154 (l1 : Int32) (l2 : Nat) (l3 : Int32) (l4 : Int32) {Kk Kk2 : Int32 → St → Prop} {Q Q2 : St → Prop} (hK : ∀ (v5 : Int32) (T : St), Kk v5 T → Kk2 v5 T) (hQ : ∀ r, Q r → Q2 r) : ∀ (f : Nat) (v5 : Int32) (T : St), wp_pl_settleDish_154 l1 l2 l3 l4 Kk Q f v5 T → wp_pl_settleDish_154 l1 l2 l3 l4 Kk2 Q2 f v5 T := by
  intro f
  induction f with
  | zero => intro v5 T w; exact w.elim
  | succ f ih => intro v5 T w; exact mb_pl_settleDish_154 l1 l2 l3 l4 hK hQ ih v5 T w
theorem wr_pl_settleDish_154 (l1 : Int32) (l2 : Nat) (l3 : Int32) (l4 : Int32) {Kk : Int32 → St → Prop} {Q : St → Prop} (I : Int32 → St → Prop) (m : Int32 → St → Nat) (hv : ∀ (v5 : Int32) (T : St), I v5 T → bd_pl_settleDish_154 l1 l2 l3 l4 Kk Q (fun uv5 uT => I uv5 uT ∧ m uv5 uT < m v5 T) v5 T) : ∀ (f : Nat) (v5 : Int32) (T : St), m v5 T < f → I v5 T → wp_pl_settleDish_154 l1 l2 l3 l4 Kk Q f v5 T := by
  intro f
  induction f with
  | zero => intro v5 T h; exact absurd h (Nat.not_lt_zero _)
  | succ f ih => intro v5 T h hi; exact mb_pl_settleDish_154 l1 l2 l3 l4 (fun _ _ h => h) (fun _ h => h) (fun uv5 uT g => ih uv5 uT (by omega) g.1) v5 T (hv v5 T hi)
theorem so_pl_settleDish_154 (l1 : Int32) (l2 : Nat) (l3 : Int32) (l4 : Int32) {K : Int32 → St → St} {Kk Kk2 : Int32 → St → Prop} {Q : St → Prop} (hk : ∀ (v5 : Int32) (T : St), Kk v5 T → Kk2 v5 T ∧ Q (K v5 T)) : ∀ (f : Nat) (v5 : Int32) (T : St), wp_pl_settleDish_154 l1 l2 l3 l4 Kk Q f v5 T → ok_pl_settleDish_154 l1 l2 l3 l4 Kk2 f v5 T ∧ Q (x_pl_settleDish_154 l1 l2 l3 l4 K f v5 T) := by
  intro f
  induction f with
  | zero => intro v5 T w; exact w.elim
  | succ f ih =>
    intro v5 T w
    rw [wp_pl_settleDish_154, bd_pl_settleDish_154] at w
    rw [ok_pl_settleDish_154, x_pl_settleDish_154]
    refine so_if2 (Q := Q) w (fun c157_6 w => ?_) (fun c157_6 w => ?_)
    · exact hk v5 T w
    · obtain ⟨q11, w⟩ := w
      refine so_rq q11 ?_
      obtain ⟨q12, w⟩ := w
      refine so_rq q12 ?_
      obtain ⟨q13, w⟩ := w
      refine so_rq q13 ?_
      obtain ⟨q14, w⟩ := w
      refine so_rq q14 ?_
      refine so_n (Q := Q) w (fun T4 w => ?_)
      exact ih (v5 + 1) T4 w
def bd_pl_settleDish_125 (l1 : Int32) (l2 : Nat) (l3 : Int32) (Kk : Int32 → St → Prop) (Q : St → Prop) (N : Int32 → St → Prop) (v4 : Int32) (T : St) : Prop := (vp_in l1 8) ∧ ((((l3 + (T.2.2.1 82 (l1 : Int32).toNatClampNeg)) ≤ v4) → Kk v4 T) ∧ (¬ ((l3 + (T.2.2.1 82 (l1 : Int32).toNatClampNeg)) ≤ v4) → (vp_in v4 96) ∧ ((((T.1 (123 + 4 * (v4 : Int32).toNatClampNeg) 6) = 0) → N (v4 + 1) T) ∧ (¬ ((T.1 (123 + 4 * (v4 : Int32).toNatClampNeg) 6) = 0) → wp_pl_settleDish_154 l1 l2 l3 v4 (fun w3_5 T203 => N (v4 + 1) T203) Q 1000 0 T))))
def wp_pl_settleDish_125 (l1 : Int32) (l2 : Nat) (l3 : Int32) (Kk : Int32 → St → Prop) (Q : St → Prop) : Nat → Int32 → St → Prop
  | 0, _, _ => False
  | f + 1, v4, T => bd_pl_settleDish_125 l1 l2 l3 Kk Q (wp_pl_settleDish_125 l1 l2 l3 Kk Q f) v4 T
theorem mb_pl_settleDish_125 (l1 : Int32) (l2 : Nat) (l3 : Int32) {Kk Kk2 : Int32 → St → Prop} {Q Q2 : St → Prop} {N N2 : Int32 → St → Prop} (hK : ∀ (v4 : Int32) (T : St), Kk v4 T → Kk2 v4 T) (hQ : ∀ r, Q r → Q2 r) (hN : ∀ (v4 : Int32) (T : St), N v4 T → N2 v4 T) (v4 : Int32) (T : St) (w : bd_pl_settleDish_125 l1 l2 l3 Kk Q N v4 T) : bd_pl_settleDish_125 l1 l2 l3 Kk2 Q2 N2 v4 T := by
  unfold bd_pl_settleDish_125 at w ⊢
  obtain ⟨q9, w⟩ := w
  refine ⟨q9, ?_⟩
  refine mo_if w (fun c135_4 w => ?_) (fun c135_4 w => ?_)
  · exact hK v4 T w
  · obtain ⟨q10, w⟩ := w
    refine ⟨q10, ?_⟩
    refine mo_if w (fun c148_5 w => ?_) (fun c148_5 w => ?_)
    · exact hN (v4 + 1) T w
    · refine mo_pl_settleDish_154 l1 l2 l3 v4 (fun w3_5 T203 w => ?_) hQ 1000 0 T w
      exact hN (v4 + 1) T203 w
theorem mo_pl_settleDish_125 (l1 : Int32) (l2 : Nat) (l3 : Int32) {Kk Kk2 : Int32 → St → Prop} {Q Q2 : St → Prop} (hK : ∀ (v4 : Int32) (T : St), Kk v4 T → Kk2 v4 T) (hQ : ∀ r, Q r → Q2 r) : ∀ (f : Nat) (v4 : Int32) (T : St), wp_pl_settleDish_125 l1 l2 l3 Kk Q f v4 T → wp_pl_settleDish_125 l1 l2 l3 Kk2 Q2 f v4 T := by
  intro f
  induction f with
  | zero => intro v4 T w; exact w.elim
  | succ f ih => intro v4 T w; exact mb_pl_settleDish_125 l1 l2 l3 hK hQ ih v4 T w
theorem wr_pl_settleDish_125 (l1 : Int32) (l2 : Nat) (l3 : Int32) {Kk : Int32 → St → Prop} {Q : St → Prop} (I : Int32 → St → Prop) (m : Int32 → St → Nat) (hv : ∀ (v4 : Int32) (T : St), I v4 T → bd_pl_settleDish_125 l1 l2 l3 Kk Q (fun uv4 uT => I uv4 uT ∧ m uv4 uT < m v4 T) v4 T) : ∀ (f : Nat) (v4 : Int32) (T : St), m v4 T < f → I v4 T → wp_pl_settleDish_125 l1 l2 l3 Kk Q f v4 T := by
  intro f
  induction f with
  | zero => intro v4 T h; exact absurd h (Nat.not_lt_zero _)
  | succ f ih => intro v4 T h hi; exact mb_pl_settleDish_125 l1 l2 l3 (fun _ _ h => h) (fun _ h => h) (fun uv4 uT g => ih uv4 uT (by omega) g.1) v4 T (hv v4 T hi)
theorem so_pl_settleDish_125 (l1 : Int32) (l2 : Nat) (l3 : Int32) {K : Int32 → St → St} {Kk Kk2 : Int32 → St → Prop} {Q : St → Prop} (hk : ∀ (v4 : Int32) (T : St), Kk v4 T → Kk2 v4 T ∧ Q (K v4 T)) : ∀ (f : Nat) (v4 : Int32) (T : St), wp_pl_settleDish_125 l1 l2 l3 Kk Q f v4 T → ok_pl_settleDish_125 l1 l2 l3 Kk2 f v4 T ∧ Q (x_pl_settleDish_125 l1 l2 l3 K f v4 T) := by
  intro f
  induction f with
  | zero => intro v4 T w; exact w.elim
  | succ f ih =>
    intro v4 T w
    rw [wp_pl_settleDish_125, bd_pl_settleDish_125] at w
    rw [ok_pl_settleDish_125, x_pl_settleDish_125]
    obtain ⟨q9, w⟩ := w
    refine so_rq q9 ?_
    refine so_if2 (Q := Q) w (fun c135_4 w => ?_) (fun c135_4 w => ?_)
    · exact hk v4 T w
    · obtain ⟨q10, w⟩ := w
      refine so_rq q10 ?_
      refine so_if2 (Q := Q) w (fun c148_5 w => ?_) (fun c148_5 w => ?_)
      · exact ih (v4 + 1) T w
      · refine so_pl_settleDish_154 l1 l2 l3 v4 (fun w3_5 T203 w => ?_) 1000 0 T w
        exact ih (v4 + 1) T203 w
def bd_pl_settleDish_202 (l1 : Int32) (l2 : Nat) (l3 : Int32) (Kk : Int32 → St → Prop) (Q : St → Prop) (N : Int32 → St → Prop) (v4 : Int32) (T : St) : Prop := (((((l3 + 12) * 8) ≤ v4) → Kk v4 T) ∧ (¬ (((l3 + 12) * 8) ≤ v4) → (vp_in v4 768) ∧ N (v4 + 1) (sA T 98 (v4 : Int32).toNatClampNeg (-1))))
def wp_pl_settleDish_202 (l1 : Int32) (l2 : Nat) (l3 : Int32) (Kk : Int32 → St → Prop) (Q : St → Prop) : Nat → Int32 → St → Prop
  | 0, _, _ => False
  | f + 1, v4, T => bd_pl_settleDish_202 l1 l2 l3 Kk Q (wp_pl_settleDish_202 l1 l2 l3 Kk Q f) v4 T
theorem mb_pl_settleDish_202 (l1 : Int32) (l2 : Nat) (l3 : Int32) {Kk Kk2 : Int32 → St → Prop} {Q Q2 : St → Prop} {N N2 : Int32 → St → Prop} (hK : ∀ (v4 : Int32) (T : St), Kk v4 T → Kk2 v4 T) (hQ : ∀ r, Q r → Q2 r) (hN : ∀ (v4 : Int32) (T : St), N v4 T → N2 v4 T) (v4 : Int32) (T : St) (w : bd_pl_settleDish_202 l1 l2 l3 Kk Q N v4 T) : bd_pl_settleDish_202 l1 l2 l3 Kk2 Q2 N2 v4 T := by
  unfold bd_pl_settleDish_202 at w ⊢
  refine mo_if w (fun c211_7 w => ?_) (fun c211_7 w => ?_)
  · exact hK v4 T w
  · obtain ⟨q15, w⟩ := w
    refine ⟨q15, ?_⟩
    exact hN (v4 + 1) (sA T 98 (v4 : Int32).toNatClampNeg (-1)) w
theorem mo_pl_settleDish_202 (l1 : Int32) (l2 : Nat) (l3 : Int32) {Kk Kk2 : Int32 → St → Prop} {Q Q2 : St → Prop} (hK : ∀ (v4 : Int32) (T : St), Kk v4 T → Kk2 v4 T) (hQ : ∀ r, Q r → Q2 r) : ∀ (f : Nat) (v4 : Int32) (T : St), wp_pl_settleDish_202 l1 l2 l3 Kk Q f v4 T → wp_pl_settleDish_202 l1 l2 l3 Kk2 Q2 f v4 T := by
  intro f
  induction f with
  | zero => intro v4 T w; exact w.elim
  | succ f ih => intro v4 T w; exact mb_pl_settleDish_202 l1 l2 l3 hK hQ ih v4 T w
theorem wr_pl_settleDish_202 (l1 : Int32) (l2 : Nat) (l3 : Int32) {Kk : Int32 → St → Prop} {Q : St → Prop} (I : Int32 → St → Prop) (m : Int32 → St → Nat) (hv : ∀ (v4 : Int32) (T : St), I v4 T → bd_pl_settleDish_202 l1 l2 l3 Kk Q (fun uv4 uT => I uv4 uT ∧ m uv4 uT < m v4 T) v4 T) : ∀ (f : Nat) (v4 : Int32) (T : St), m v4 T < f → I v4 T → wp_pl_settleDish_202 l1 l2 l3 Kk Q f v4 T := by
  intro f
  induction f with
  | zero => intro v4 T h; exact absurd h (Nat.not_lt_zero _)
  | succ f ih => intro v4 T h hi; exact mb_pl_settleDish_202 l1 l2 l3 (fun _ _ h => h) (fun _ h => h) (fun uv4 uT g => ih uv4 uT (by omega) g.1) v4 T (hv v4 T hi)
theorem so_pl_settleDish_202 (l1 : Int32) (l2 : Nat) (l3 : Int32) {K : Int32 → St → St} {Kk Kk2 : Int32 → St → Prop} {Q : St → Prop} (hk : ∀ (v4 : Int32) (T : St), Kk v4 T → Kk2 v4 T ∧ Q (K v4 T)) : ∀ (f : Nat) (v4 : Int32) (T : St), wp_pl_settleDish_202 l1 l2 l3 Kk Q f v4 T → ok_pl_settleDish_202 l1 l2 l3 Kk2 f v4 T ∧ Q (x_pl_settleDish_202 l1 l2 l3 K f v4 T) := by
  intro f
  induction f with
  | zero => intro v4 T w; exact w.elim
  | succ f ih =>
    intro v4 T w
    rw [wp_pl_settleDish_202, bd_pl_settleDish_202] at w
    rw [ok_pl_settleDish_202, x_pl_settleDish_202]
    refine so_if2 (Q := Q) w (fun c211_7 w => ?_) (fun c211_7 w => ?_)
    · exact hk v4 T w
    · obtain ⟨q15, w⟩ := w
      refine so_rq q15 ?_
      exact ih (v4 + 1) (sA T 98 (v4 : Int32).toNatClampNeg (-1)) w
def wp_pl_settleDish (T : St) (p0 : Int32) (Q : St → Prop) : Prop := (vp_in p0 8) ∧ jn (fun (r1 : Nat) => (ok_fillJ T r1 (-1)) ∧ wp_pl_settleDish_30 p0 r1 (p0 * 12) (fun w2_4 T202 => wp_pl_settleDish_125 p0 r1 (p0 * 12) (fun w4_4 T204 => wp_pl_settleDish_202 p0 r1 (p0 * 12) (fun w5_4 T205 => Q T205) Q 1000 ((p0 * 12) * 8) T204) Q 1000 (p0 * 12) T202) Q 1000 (p0 * 12) (sA (x_fillJ T r1 (-1)) 83 (p0 : Int32).toNatClampNeg 1000000)) (85 + (p0 : Int32).toNatClampNeg)
theorem so_pl_settleDish {T : St} (p0 : Int32) {Q : St → Prop} (w : wp_pl_settleDish T p0 Q) : ok_pl_settleDish T p0 ∧ Q (x_pl_settleDish T p0) := by
  unfold wp_pl_settleDish at w
  unfold ok_pl_settleDish x_pl_settleDish
  obtain ⟨q1, w⟩ := w
  refine so_rq q1 ?_
  refine so_n (Q := Q) w (fun r1 w => ?_)
  obtain ⟨q2, w⟩ := w
  refine so_rq q2 ?_
  refine so_pl_settleDish_30 p0 r1 (p0 * 12) (fun w2_4 T202 w => ?_) 1000 (p0 * 12) (sA (x_fillJ T r1 (-1)) 83 (p0 : Int32).toNatClampNeg 1000000) w
  refine so_pl_settleDish_125 p0 r1 (p0 * 12) (fun w4_4 T204 w => ?_) 1000 (p0 * 12) T202 w
  refine so_pl_settleDish_202 p0 r1 (p0 * 12) (fun w5_4 T205 w => ?_) 1000 ((p0 * 12) * 8) T204 w
  refine ⟨trivial, ?_⟩
  exact w
def bd_pl_choicesThatCan_4 (T : St) (l1 : Int32) (Kk : Int32 → Int32 → Prop) (Q : Int32 → Prop) (N : Int32 → Int32 → Prop) (v2 : Int32) (v3 : Int32) : Prop := (vp_in l1 8) ∧ ((((T.2.2.1 82 (l1 : Int32).toNatClampNeg) ≤ v3) → Kk v2 v3) ∧ (¬ ((T.2.2.1 82 (l1 : Int32).toNatClampNeg) ≤ v3) → (vp_in ((l1 * 12) + v3) 96) ∧ ((((T.1 (123 + 4 * ((l1 * 12) + v3 : Int32).toNatClampNeg) 6) = 0) → N v2 (v3 + 1)) ∧ (¬ ((T.1 (123 + 4 * ((l1 * 12) + v3 : Int32).toNatClampNeg) 6) = 0) → jn (fun (i1 : Int32) => N i1 (v3 + 1)) (v2 ||| (1 <<< (v3 &&& 31)))))))
def wp_pl_choicesThatCan_4 (T : St) (l1 : Int32) (Kk : Int32 → Int32 → Prop) (Q : Int32 → Prop) : Nat → Int32 → Int32 → Prop
  | 0, _, _ => False
  | f + 1, v2, v3 => bd_pl_choicesThatCan_4 T l1 Kk Q (wp_pl_choicesThatCan_4 T l1 Kk Q f) v2 v3
theorem mb_pl_choicesThatCan_4 (T : St) (l1 : Int32) {Kk Kk2 : Int32 → Int32 → Prop} {Q Q2 : Int32 → Prop} {N N2 : Int32 → Int32 → Prop} (hK : ∀ (v2 : Int32) (v3 : Int32), Kk v2 v3 → Kk2 v2 v3) (hQ : ∀ r, Q r → Q2 r) (hN : ∀ (v2 : Int32) (v3 : Int32), N v2 v3 → N2 v2 v3) (v2 : Int32) (v3 : Int32) (w : bd_pl_choicesThatCan_4 T l1 Kk Q N v2 v3) : bd_pl_choicesThatCan_4 T l1 Kk2 Q2 N2 v2 v3 := by
  unfold bd_pl_choicesThatCan_4 at w ⊢
  obtain ⟨q1, w⟩ := w
  refine ⟨q1, ?_⟩
  refine mo_if w (fun c11_1 w => ?_) (fun c11_1 w => ?_)
  · exact hK v2 v3 w
  · obtain ⟨q2, w⟩ := w
    refine ⟨q2, ?_⟩
    refine mo_if w (fun c28_2 w => ?_) (fun c28_2 w => ?_)
    · exact hN v2 (v3 + 1) w
    · refine mo_n w (fun i1 w => ?_)
      exact hN i1 (v3 + 1) w
theorem mo_pl_choicesThatCan_4 (T : St) (l1 : Int32) {Kk Kk2 : Int32 → Int32 → Prop} {Q Q2 : Int32 → Prop} (hK : ∀ (v2 : Int32) (v3 : Int32), Kk v2 v3 → Kk2 v2 v3) (hQ : ∀ r, Q r → Q2 r) : ∀ (f : Nat) (v2 : Int32) (v3 : Int32), wp_pl_choicesThatCan_4 T l1 Kk Q f v2 v3 → wp_pl_choicesThatCan_4 T l1 Kk2 Q2 f v2 v3 := by
  intro f
  induction f with
  | zero => intro v2 v3 w; exact w.elim
  | succ f ih => intro v2 v3 w; exact mb_pl_choicesThatCan_4 T l1 hK hQ ih v2 v3 w
theorem wr_pl_choicesThatCan_4 (T : St) (l1 : Int32) {Kk : Int32 → Int32 → Prop} {Q : Int32 → Prop} (I : Int32 → Int32 → Prop) (m : Int32 → Int32 → Nat) (hv : ∀ (v2 : Int32) (v3 : Int32), I v2 v3 → bd_pl_choicesThatCan_4 T l1 Kk Q (fun uv2 uv3 => I uv2 uv3 ∧ m uv2 uv3 < m v2 v3) v2 v3) : ∀ (f : Nat) (v2 : Int32) (v3 : Int32), m v2 v3 < f → I v2 v3 → wp_pl_choicesThatCan_4 T l1 Kk Q f v2 v3 := by
  intro f
  induction f with
  | zero => intro v2 v3 h; exact absurd h (Nat.not_lt_zero _)
  | succ f ih => intro v2 v3 h hi; exact mb_pl_choicesThatCan_4 T l1 (fun _ _ h => h) (fun _ h => h) (fun uv2 uv3 g => ih uv2 uv3 (by omega) g.1) v2 v3 (hv v2 v3 hi)
theorem so_pl_choicesThatCan_4 (T : St) (l1 : Int32) {K : Int32 → Int32 → Int32} {Kk Kk2 : Int32 → Int32 → Prop} {Q : Int32 → Prop} (hk : ∀ (v2 : Int32) (v3 : Int32), Kk v2 v3 → Kk2 v2 v3 ∧ Q (K v2 v3)) : ∀ (f : Nat) (v2 : Int32) (v3 : Int32), wp_pl_choicesThatCan_4 T l1 Kk Q f v2 v3 → ok_pl_choicesThatCan_4 T l1 Kk2 f v2 v3 ∧ Q (x_pl_choicesThatCan_4 T l1 K f v2 v3) := by
  intro f
  induction f with
  | zero => intro v2 v3 w; exact w.elim
  | succ f ih =>
    intro v2 v3 w
    rw [wp_pl_choicesThatCan_4, bd_pl_choicesThatCan_4] at w
    rw [ok_pl_choicesThatCan_4, x_pl_choicesThatCan_4]
    obtain ⟨q1, w⟩ := w
    refine so_rq q1 ?_
    refine so_if2 (Q := Q) w (fun c11_1 w => ?_) (fun c11_1 w => ?_)
    · exact hk v2 v3 w
    · obtain ⟨q2, w⟩ := w
      refine so_rq q2 ?_
      refine so_if2 (Q := Q) w (fun c28_2 w => ?_) (fun c28_2 w => ?_)
      · exact ih v2 (v3 + 1) w
      · refine so_n (Q := Q) w (fun i1 w => ?_)
        exact ih i1 (v3 + 1) w
def wp_pl_choicesThatCan (T : St) (p0 : Int32) (Q : Int32 → Prop) : Prop := wp_pl_choicesThatCan_4 T p0 (fun w1_2 w1_3 => Q w1_2) Q 1000 0 0
theorem so_pl_choicesThatCan {T : St} (p0 : Int32) {Q : Int32 → Prop} (w : wp_pl_choicesThatCan T p0 Q) : ok_pl_choicesThatCan T p0 ∧ Q (x_pl_choicesThatCan T p0) := by
  unfold wp_pl_choicesThatCan at w
  unfold ok_pl_choicesThatCan x_pl_choicesThatCan
  refine so_pl_choicesThatCan_4 T p0 (fun w1_2 w1_3  w => ?_) 1000 0 0 w
  refine ⟨trivial, ?_⟩
  exact w
def bd_pl_collide_2 (T : St) (l1 : Nat) (l2 : Nat) (Kk : Int32 → Prop) (Q : Int32 → Prop) (N : Int32 → Prop) (v3 : Int32) : Prop := (((5 ≤ v3) → Kk v3) ∧ (¬ (5 ≤ v3) → (sh l1 = .inl (1, 5)) ∧ (vp_in v3 5) ∧ (sh l2 = .inl (1, 5)) ∧ (ok_ki_fewerThan T (T.2.1 3) v3 2) ∧ (sh (T.2.1 3) = .inr 3) ∧ ((((lg_cmp (((T.2.2.2 l1 (v3 : Int32).toNatClampNeg) &&& (T.2.2.2 l2 (v3 : Int32).toNatClampNeg)) &&& (x_ki_fewerThan T (T.2.1 3) v3 2)) 0) = 0) → N (v3 + 1)) ∧ (¬ ((lg_cmp (((T.2.2.2 l1 (v3 : Int32).toNatClampNeg) &&& (T.2.2.2 l2 (v3 : Int32).toNatClampNeg)) &&& (x_ki_fewerThan T (T.2.1 3) v3 2)) 0) = 0) → Q 1))))
def wp_pl_collide_2 (T : St) (l1 : Nat) (l2 : Nat) (Kk : Int32 → Prop) (Q : Int32 → Prop) : Nat → Int32 → Prop
  | 0, _ => False
  | f + 1, v3 => bd_pl_collide_2 T l1 l2 Kk Q (wp_pl_collide_2 T l1 l2 Kk Q f) v3
theorem mb_pl_collide_2 (T : St) (l1 : Nat) (l2 : Nat) {Kk Kk2 : Int32 → Prop} {Q Q2 : Int32 → Prop} {N N2 : Int32 → Prop} (hK : ∀ (v3 : Int32), Kk v3 → Kk2 v3) (hQ : ∀ r, Q r → Q2 r) (hN : ∀ (v3 : Int32), N v3 → N2 v3) (v3 : Int32) (w : bd_pl_collide_2 T l1 l2 Kk Q N v3) : bd_pl_collide_2 T l1 l2 Kk2 Q2 N2 v3 := by
  unfold bd_pl_collide_2 at w ⊢
  refine mo_if w (fun c4_1 w => ?_) (fun c4_1 w => ?_)
  · exact hK v3 w
  · obtain ⟨q1, w⟩ := w
    refine ⟨q1, ?_⟩
    obtain ⟨q2, w⟩ := w
    refine ⟨q2, ?_⟩
    obtain ⟨q3, w⟩ := w
    refine ⟨q3, ?_⟩
    obtain ⟨q4, w⟩ := w
    refine ⟨q4, ?_⟩
    obtain ⟨q5, w⟩ := w
    refine ⟨q5, ?_⟩
    refine mo_if w (fun c26_2 w => ?_) (fun c26_2 w => ?_)
    · exact hN (v3 + 1) w
    · exact hQ _ w
theorem mo_pl_collide_2 (T : St) (l1 : Nat) (l2 : Nat) {Kk Kk2 : Int32 → Prop} {Q Q2 : Int32 → Prop} (hK : ∀ (v3 : Int32), Kk v3 → Kk2 v3) (hQ : ∀ r, Q r → Q2 r) : ∀ (f : Nat) (v3 : Int32), wp_pl_collide_2 T l1 l2 Kk Q f v3 → wp_pl_collide_2 T l1 l2 Kk2 Q2 f v3 := by
  intro f
  induction f with
  | zero => intro v3 w; exact w.elim
  | succ f ih => intro v3 w; exact mb_pl_collide_2 T l1 l2 hK hQ ih v3 w
theorem wr_pl_collide_2 (T : St) (l1 : Nat) (l2 : Nat) {Kk : Int32 → Prop} {Q : Int32 → Prop} (I : Int32 → Prop) (m : Int32 → Nat) (hv : ∀ (v3 : Int32), I v3 → bd_pl_collide_2 T l1 l2 Kk Q (fun uv3 => I uv3 ∧ m uv3 < m v3) v3) : ∀ (f : Nat) (v3 : Int32), m v3 < f → I v3 → wp_pl_collide_2 T l1 l2 Kk Q f v3 := by
  intro f
  induction f with
  | zero => intro v3 h; exact absurd h (Nat.not_lt_zero _)
  | succ f ih => intro v3 h hi; exact mb_pl_collide_2 T l1 l2 (fun _ h => h) (fun _ h => h) (fun uv3 g => ih uv3 (by omega) g.1) v3 (hv v3 hi)
theorem so_pl_collide_2 (T : St) (l1 : Nat) (l2 : Nat) {K : Int32 → Int32} {Kk Kk2 : Int32 → Prop} {Q : Int32 → Prop} (hk : ∀ (v3 : Int32), Kk v3 → Kk2 v3 ∧ Q (K v3)) : ∀ (f : Nat) (v3 : Int32), wp_pl_collide_2 T l1 l2 Kk Q f v3 → ok_pl_collide_2 T l1 l2 Kk2 f v3 ∧ Q (x_pl_collide_2 T l1 l2 K f v3) := by
  intro f
  induction f with
  | zero => intro v3 w; exact w.elim
  | succ f ih =>
    intro v3 w
    rw [wp_pl_collide_2, bd_pl_collide_2] at w
    rw [ok_pl_collide_2, x_pl_collide_2]
    refine so_if2 (Q := Q) w (fun c4_1 w => ?_) (fun c4_1 w => ?_)
    · exact hk v3 w
    · obtain ⟨q1, w⟩ := w
      refine so_rq q1 ?_
      obtain ⟨q2, w⟩ := w
      refine so_rq q2 ?_
      obtain ⟨q3, w⟩ := w
      refine so_rq q3 ?_
      obtain ⟨q4, w⟩ := w
      refine so_rq q4 ?_
      obtain ⟨q5, w⟩ := w
      refine so_rq q5 ?_
      refine so_ifT (Q := Q) w (fun c26_2 w => ?_) (fun c26_2 w => ?_)
      · exact ih (v3 + 1) w
      · exact w
def wp_pl_collide (T : St) (p0 : Nat) (p1 : Nat) (Q : Int32 → Prop) : Prop := wp_pl_collide_2 T p0 p1 (fun w1_3 => Q 0) Q 1000 0
theorem so_pl_collide {T : St} (p0 : Nat) (p1 : Nat) {Q : Int32 → Prop} (w : wp_pl_collide T p0 p1 Q) : ok_pl_collide T p0 p1 ∧ Q (x_pl_collide T p0 p1) := by
  unfold wp_pl_collide at w
  unfold ok_pl_collide x_pl_collide
  refine so_pl_collide_2 T p0 p1 (fun w1_3  w => ?_) 1000 0 w
  refine ⟨trivial, ?_⟩
  exact w
def wp_pl_keepPicked (T : St) (p0 : Int32) (Q : St → Prop) : Prop := jn (fun (KJ1 : Int32 → Prop) => (((((sF T 80 17 p0).1 80 14) = 0) → KJ1 p0) ∧ (¬ (((sF T 80 17 p0).1 80 14) = 0) → KJ1 0))) (fun (j1_s1 : Int32) => (cpok 0 0 ((sF (sF T 80 17 p0) 80 13 j1_s1).1 80 12) 4 4) ∧ Q (sAr (sF (sF T 80 17 p0) 80 13 j1_s1) 96 (va_cpy ((sF (sF T 80 17 p0) 80 13 j1_s1).2.2.1 95) ((sF (sF T 80 17 p0) 80 13 j1_s1).2.2.1 96) (0 : Int32).toNatClampNeg (0 : Int32).toNatClampNeg ((sF (sF T 80 17 p0) 80 13 j1_s1).1 80 12 : Int32).toNatClampNeg)))
theorem so_pl_keepPicked {T : St} (p0 : Int32) {Q : St → Prop} (w : wp_pl_keepPicked T p0 Q) : ok_pl_keepPicked T p0 ∧ Q (x_pl_keepPicked T p0) := by
  unfold wp_pl_keepPicked at w
  unfold ok_pl_keepPicked x_pl_keepPicked
  refine so_jn (Q := Q) (J := fun (KJ1 : Int32 → St) (OJ1 : Int32 → Prop) (WKJ1 : Int32 → Prop) => ∀ (j1_s1 : Int32), WKJ1 j1_s1 → OJ1 j1_s1 ∧ Q (KJ1 j1_s1)) w (fun j1_s1 w => ?_) (fun KJ1 OJ1 WKJ1 hJ1 w => ?_)
  · skip
    obtain ⟨q1, w⟩ := w
    refine so_rq q1 ?_
    refine ⟨trivial, ?_⟩
    exact w
  · skip
    refine so_if2 (Q := Q) w (fun c10_2 w => ?_) (fun c10_2 w => ?_)
    · exact hJ1 p0 w
    · exact hJ1 0 w
def bd_pl_tell_2 (l1 : Nat) (Kk : Int32 → St → Prop) (Q : St → Prop) (N : Int32 → St → Prop) (v2 : Int32) (T : St) : Prop := (sh l1 = .inr 7) ∧ ((((T.1 l1 0) ≤ v2) → Kk v2 T) ∧ (¬ ((T.1 l1 0) ≤ v2) → ((((T.1 80 12) ≤ v2) → Kk v2 T) ∧ (¬ ((T.1 80 12) ≤ v2) → (vp_in v2 4) ∧ jn (fun (T1 : St) => N (v2 + 1) T1) (sA T (l1 + 2) (v2 : Int32).toNatClampNeg ((T.2.2.1 96 (v2 : Int32).toNatClampNeg) - ((T.2.2.1 94 (v2 : Int32).toNatClampNeg) * 12)))))))
def wp_pl_tell_2 (l1 : Nat) (Kk : Int32 → St → Prop) (Q : St → Prop) : Nat → Int32 → St → Prop
  | 0, _, _ => False
  | f + 1, v2, T => bd_pl_tell_2 l1 Kk Q (wp_pl_tell_2 l1 Kk Q f) v2 T
theorem mb_pl_tell_2 (l1 : Nat) {Kk Kk2 : Int32 → St → Prop} {Q Q2 : St → Prop} {N N2 : Int32 → St → Prop} (hK : ∀ (v2 : Int32) (T : St), Kk v2 T → Kk2 v2 T) (hQ : ∀ r, Q r → Q2 r) (hN : ∀ (v2 : Int32) (T : St), N v2 T → N2 v2 T) (v2 : Int32) (T : St) (w : bd_pl_tell_2 l1 Kk Q N v2 T) : bd_pl_tell_2 l1 Kk2 Q2 N2 v2 T := by
  unfold bd_pl_tell_2 at w ⊢
  obtain ⟨q1, w⟩ := w
  refine ⟨q1, ?_⟩
  refine mo_if w (fun c7_1 w => ?_) (fun c7_1 w => ?_)
  · exact hK v2 T w
  · refine mo_if w (fun c15_2 w => ?_) (fun c15_2 w => ?_)
    · exact hK v2 T w
    · obtain ⟨q2, w⟩ := w
      refine ⟨q2, ?_⟩
      refine mo_n w (fun T1 w => ?_)
      exact hN (v2 + 1) T1 w
theorem mo_pl_tell_2 (l1 : Nat) {Kk Kk2 : Int32 → St → Prop} {Q Q2 : St → Prop} (hK : ∀ (v2 : Int32) (T : St), Kk v2 T → Kk2 v2 T) (hQ : ∀ r, Q r → Q2 r) : ∀ (f : Nat) (v2 : Int32) (T : St), wp_pl_tell_2 l1 Kk Q f v2 T → wp_pl_tell_2 l1 Kk2 Q2 f v2 T := by
  intro f
  induction f with
  | zero => intro v2 T w; exact w.elim
  | succ f ih => intro v2 T w; exact mb_pl_tell_2 l1 hK hQ ih v2 T w
theorem wr_pl_tell_2 (l1 : Nat) {Kk : Int32 → St → Prop} {Q : St → Prop} (I : Int32 → St → Prop) (m : Int32 → St → Nat) (hv : ∀ (v2 : Int32) (T : St), I v2 T → bd_pl_tell_2 l1 Kk Q (fun uv2 uT => I uv2 uT ∧ m uv2 uT < m v2 T) v2 T) : ∀ (f : Nat) (v2 : Int32) (T : St), m v2 T < f → I v2 T → wp_pl_tell_2 l1 Kk Q f v2 T := by
  intro f
  induction f with
  | zero => intro v2 T h; exact absurd h (Nat.not_lt_zero _)
  | succ f ih => intro v2 T h hi; exact mb_pl_tell_2 l1 (fun _ _ h => h) (fun _ h => h) (fun uv2 uT g => ih uv2 uT (by omega) g.1) v2 T (hv v2 T hi)
theorem so_pl_tell_2 (l1 : Nat) {K : Int32 → St → St} {Kk Kk2 : Int32 → St → Prop} {Q : St → Prop} (hk : ∀ (v2 : Int32) (T : St), Kk v2 T → Kk2 v2 T ∧ Q (K v2 T)) : ∀ (f : Nat) (v2 : Int32) (T : St), wp_pl_tell_2 l1 Kk Q f v2 T → ok_pl_tell_2 l1 Kk2 f v2 T ∧ Q (x_pl_tell_2 l1 K f v2 T) := by
  intro f
  induction f with
  | zero => intro v2 T w; exact w.elim
  | succ f ih =>
    intro v2 T w
    rw [wp_pl_tell_2, bd_pl_tell_2] at w
    rw [ok_pl_tell_2, x_pl_tell_2]
    obtain ⟨q1, w⟩ := w
    refine so_rq q1 ?_
    refine so_if2 (Q := Q) w (fun c7_1 w => ?_) (fun c7_1 w => ?_)
    · exact hk v2 T w
    · refine so_if2 (Q := Q) w (fun c15_2 w => ?_) (fun c15_2 w => ?_)
      · exact hk v2 T w
      · obtain ⟨q2, w⟩ := w
        refine so_rq q2 ?_
        refine so_n (Q := Q) w (fun T1 w => ?_)
        exact ih (v2 + 1) T1 w
def bd_pl_tell_48 (l1 : Nat) (Kk : Int32 → St → Prop) (Q : St → Prop) (N : Int32 → St → Prop) (v2 : Int32) (T : St) : Prop := (sh l1 = .inr 7) ∧ ((((T.1 l1 1) ≤ v2) → Kk v2 T) ∧ (¬ ((T.1 l1 1) ≤ v2) → (vp_in v2 12) ∧ jn (fun (i2 : Int32) => (vp_in i2 4) ∧ (vp_in (T.2.2.1 96 (i2 : Int32).toNatClampNeg) 96) ∧ (sh (T.2.1 2) = .inr 1) ∧ (vp_in (T.2.2.1 94 (i2 : Int32).toNatClampNeg) 8) ∧ (sh ((123 + 4 * (T.2.2.1 96 (i2 : Int32).toNatClampNeg : Int32).toNatClampNeg) + 1) = .inl (0, 3)) ∧ (vp_in ((T.2.2.1 (l1 + 3) (v2 : Int32).toNatClampNeg) - (T.2.2.1 ((T.2.1 2) + 8) (T.2.2.1 94 (i2 : Int32).toNatClampNeg : Int32).toNatClampNeg)) 3) ∧ jn (fun (T3 : St) => N (v2 + 1) T3) (sA T (l1 + 5) (v2 : Int32).toNatClampNeg (T.2.2.1 ((123 + 4 * (T.2.2.1 96 (i2 : Int32).toNatClampNeg : Int32).toNatClampNeg) + 1) ((T.2.2.1 (l1 + 3) (v2 : Int32).toNatClampNeg) - (T.2.2.1 ((T.2.1 2) + 8) (T.2.2.1 94 (i2 : Int32).toNatClampNeg : Int32).toNatClampNeg) : Int32).toNatClampNeg))) (T.2.2.1 (l1 + 4) (v2 : Int32).toNatClampNeg)))
def wp_pl_tell_48 (l1 : Nat) (Kk : Int32 → St → Prop) (Q : St → Prop) : Nat → Int32 → St → Prop
  | 0, _, _ => False
  | f + 1, v2, T => bd_pl_tell_48 l1 Kk Q (wp_pl_tell_48 l1 Kk Q f) v2 T
theorem mb_pl_tell_48 (l1 : Nat) {Kk Kk2 : Int32 → St → Prop} {Q Q2 : St → Prop} {N N2 : Int32 → St → Prop} (hK : ∀ (v2 : Int32) (T : St), Kk v2 T → Kk2 v2 T) (hQ : ∀ r, Q r → Q2 r) (hN : ∀ (v2 : Int32) (T : St), N v2 T → N2 v2 T) (v2 : Int32) (T : St) (w : bd_pl_tell_48 l1 Kk Q N v2 T) : bd_pl_tell_48 l1 Kk2 Q2 N2 v2 T := by
  unfold bd_pl_tell_48 at w ⊢
  obtain ⟨q3, w⟩ := w
  refine ⟨q3, ?_⟩
  refine mo_if w (fun c53_3 w => ?_) (fun c53_3 w => ?_)
  · exact hK v2 T w
  · obtain ⟨q4, w⟩ := w
    refine ⟨q4, ?_⟩
    refine mo_n w (fun i2 w => ?_)
    obtain ⟨q5, w⟩ := w
    refine ⟨q5, ?_⟩
    obtain ⟨q6, w⟩ := w
    refine ⟨q6, ?_⟩
    obtain ⟨q7, w⟩ := w
    refine ⟨q7, ?_⟩
    obtain ⟨q8, w⟩ := w
    refine ⟨q8, ?_⟩
    obtain ⟨q9, w⟩ := w
    refine ⟨q9, ?_⟩
    obtain ⟨q10, w⟩ := w
    refine ⟨q10, ?_⟩
    refine mo_n w (fun T3 w => ?_)
    exact hN (v2 + 1) T3 w
theorem mo_pl_tell_48 (l1 : Nat) {Kk Kk2 : Int32 → St → Prop} {Q Q2 : St → Prop} (hK : ∀ (v2 : Int32) (T : St), Kk v2 T → Kk2 v2 T) (hQ : ∀ r, Q r → Q2 r) : ∀ (f : Nat) (v2 : Int32) (T : St), wp_pl_tell_48 l1 Kk Q f v2 T → wp_pl_tell_48 l1 Kk2 Q2 f v2 T := by
  intro f
  induction f with
  | zero => intro v2 T w; exact w.elim
  | succ f ih => intro v2 T w; exact mb_pl_tell_48 l1 hK hQ ih v2 T w
theorem wr_pl_tell_48 (l1 : Nat) {Kk : Int32 → St → Prop} {Q : St → Prop} (I : Int32 → St → Prop) (m : Int32 → St → Nat) (hv : ∀ (v2 : Int32) (T : St), I v2 T → bd_pl_tell_48 l1 Kk Q (fun uv2 uT => I uv2 uT ∧ m uv2 uT < m v2 T) v2 T) : ∀ (f : Nat) (v2 : Int32) (T : St), m v2 T < f → I v2 T → wp_pl_tell_48 l1 Kk Q f v2 T := by
  intro f
  induction f with
  | zero => intro v2 T h; exact absurd h (Nat.not_lt_zero _)
  | succ f ih => intro v2 T h hi; exact mb_pl_tell_48 l1 (fun _ _ h => h) (fun _ h => h) (fun uv2 uT g => ih uv2 uT (by omega) g.1) v2 T (hv v2 T hi)
theorem so_pl_tell_48 (l1 : Nat) {K : Int32 → St → St} {Kk Kk2 : Int32 → St → Prop} {Q : St → Prop} (hk : ∀ (v2 : Int32) (T : St), Kk v2 T → Kk2 v2 T ∧ Q (K v2 T)) : ∀ (f : Nat) (v2 : Int32) (T : St), wp_pl_tell_48 l1 Kk Q f v2 T → ok_pl_tell_48 l1 Kk2 f v2 T ∧ Q (x_pl_tell_48 l1 K f v2 T) := by
  intro f
  induction f with
  | zero => intro v2 T w; exact w.elim
  | succ f ih =>
    intro v2 T w
    rw [wp_pl_tell_48, bd_pl_tell_48] at w
    rw [ok_pl_tell_48, x_pl_tell_48]
    obtain ⟨q3, w⟩ := w
    refine so_rq q3 ?_
    refine so_if2 (Q := Q) w (fun c53_3 w => ?_) (fun c53_3 w => ?_)
    · exact hk v2 T w
    · obtain ⟨q4, w⟩ := w
      refine so_rq q4 ?_
      refine so_n (Q := Q) w (fun i2 w => ?_)
      obtain ⟨q5, w⟩ := w
      refine so_rq q5 ?_
      obtain ⟨q6, w⟩ := w
      refine so_rq q6 ?_
      obtain ⟨q7, w⟩ := w
      refine so_rq q7 ?_
      obtain ⟨q8, w⟩ := w
      refine so_rq q8 ?_
      obtain ⟨q9, w⟩ := w
      refine so_rq q9 ?_
      obtain ⟨q10, w⟩ := w
      refine so_rq q10 ?_
      refine so_n (Q := Q) w (fun T3 w => ?_)
      exact ih (v2 + 1) T3 w
def wp_pl_tell (T : St) (p0 : Nat) (Q : St → Prop) : Prop := wp_pl_tell_2 p0 (fun w1_2 T201 => wp_pl_tell_48 p0 (fun w2_2 T202 => Q T202) Q 1000 0 T201) Q 1000 0 T
theorem so_pl_tell {T : St} (p0 : Nat) {Q : St → Prop} (w : wp_pl_tell T p0 Q) : ok_pl_tell T p0 ∧ Q (x_pl_tell T p0) := by
  unfold wp_pl_tell at w
  unfold ok_pl_tell x_pl_tell
  refine so_pl_tell_2 p0 (fun w1_2 T201 w => ?_) 1000 0 T w
  refine so_pl_tell_48 p0 (fun w2_2 T202 w => ?_) 1000 0 T201 w
  refine ⟨trivial, ?_⟩
  exact w
def bd_pl_isBuilt_2 (T : St) (l1 : Int32) (Kk : Int32 → Prop) (Q : Int32 → Prop) (N : Int32 → Prop) (v2 : Int32) : Prop := (sh (T.2.1 2) = .inr 1) ∧ ((((T.1 (T.2.1 2) 4) ≤ v2) → Kk v2) ∧ (¬ ((T.1 (T.2.1 2) 4) ≤ v2) → jn (fun (i1 : Int32) => (((i1 = l1) → N (v2 + 1)) ∧ (¬ (i1 = l1) → (((i1 = 0) → N (v2 + 1)) ∧ (¬ (i1 = 0) → (vp_in i1 256) ∧ ((((T.2.2.1 105 (i1 : Int32).toNatClampNeg) = 0) → Q 0) ∧ (¬ ((T.2.2.1 105 (i1 : Int32).toNatClampNeg) = 0) → N (v2 + 1)))))))) (l1 &&& ((1 <<< (v2 &&& 31)) ^^^ (-1)))))
def wp_pl_isBuilt_2 (T : St) (l1 : Int32) (Kk : Int32 → Prop) (Q : Int32 → Prop) : Nat → Int32 → Prop
  | 0, _ => False
  | f + 1, v2 => bd_pl_isBuilt_2 T l1 Kk Q (wp_pl_isBuilt_2 T l1 Kk Q f) v2
theorem mb_pl_isBuilt_2 (T : St) (l1 : Int32) {Kk Kk2 : Int32 → Prop} {Q Q2 : Int32 → Prop} {N N2 : Int32 → Prop} (hK : ∀ (v2 : Int32), Kk v2 → Kk2 v2) (hQ : ∀ r, Q r → Q2 r) (hN : ∀ (v2 : Int32), N v2 → N2 v2) (v2 : Int32) (w : bd_pl_isBuilt_2 T l1 Kk Q N v2) : bd_pl_isBuilt_2 T l1 Kk2 Q2 N2 v2 := by
  unfold bd_pl_isBuilt_2 at w ⊢
  obtain ⟨q1, w⟩ := w
  refine ⟨q1, ?_⟩
  refine mo_if w (fun c10_1 w => ?_) (fun c10_1 w => ?_)
  · exact hK v2 w
  · refine mo_n w (fun i1 w => ?_)
    refine mo_if w (fun c23_2 w => ?_) (fun c23_2 w => ?_)
    · exact hN (v2 + 1) w
    · refine mo_if w (fun c27_3 w => ?_) (fun c27_3 w => ?_)
      · exact hN (v2 + 1) w
      · obtain ⟨q2, w⟩ := w
        refine ⟨q2, ?_⟩
        refine mo_if w (fun c36_4 w => ?_) (fun c36_4 w => ?_)
        · exact hQ _ w
        · exact hN (v2 + 1) w
theorem mo_pl_isBuilt_2 (T : St) (l1 : Int32) {Kk Kk2 : Int32 → Prop} {Q Q2 : Int32 → Prop} (hK : ∀ (v2 : Int32), Kk v2 → Kk2 v2) (hQ : ∀ r, Q r → Q2 r) : ∀ (f : Nat) (v2 : Int32), wp_pl_isBuilt_2 T l1 Kk Q f v2 → wp_pl_isBuilt_2 T l1 Kk2 Q2 f v2 := by
  intro f
  induction f with
  | zero => intro v2 w; exact w.elim
  | succ f ih => intro v2 w; exact mb_pl_isBuilt_2 T l1 hK hQ ih v2 w
theorem wr_pl_isBuilt_2 (T : St) (l1 : Int32) {Kk : Int32 → Prop} {Q : Int32 → Prop} (I : Int32 → Prop) (m : Int32 → Nat) (hv : ∀ (v2 : Int32), I v2 → bd_pl_isBuilt_2 T l1 Kk Q (fun uv2 => I uv2 ∧ m uv2 < m v2) v2) : ∀ (f : Nat) (v2 : Int32), m v2 < f → I v2 → wp_pl_isBuilt_2 T l1 Kk Q f v2 := by
  intro f
  induction f with
  | zero => intro v2 h; exact absurd h (Nat.not_lt_zero _)
  | succ f ih => intro v2 h hi; exact mb_pl_isBuilt_2 T l1 (fun _ h => h) (fun _ h => h) (fun uv2 g => ih uv2 (by omega) g.1) v2 (hv v2 hi)
theorem so_pl_isBuilt_2 (T : St) (l1 : Int32) {K : Int32 → Int32} {Kk Kk2 : Int32 → Prop} {Q : Int32 → Prop} (hk : ∀ (v2 : Int32), Kk v2 → Kk2 v2 ∧ Q (K v2)) : ∀ (f : Nat) (v2 : Int32), wp_pl_isBuilt_2 T l1 Kk Q f v2 → ok_pl_isBuilt_2 T l1 Kk2 f v2 ∧ Q (x_pl_isBuilt_2 T l1 K f v2) := by
  intro f
  induction f with
  | zero => intro v2 w; exact w.elim
  | succ f ih =>
    intro v2 w
    rw [wp_pl_isBuilt_2, bd_pl_isBuilt_2] at w
    rw [ok_pl_isBuilt_2, x_pl_isBuilt_2]
    obtain ⟨q1, w⟩ := w
    refine so_rq q1 ?_
    refine so_if2 (Q := Q) w (fun c10_1 w => ?_) (fun c10_1 w => ?_)
    · exact hk v2 w
    · refine so_n (Q := Q) w (fun i1 w => ?_)
      refine so_if2 (Q := Q) w (fun c23_2 w => ?_) (fun c23_2 w => ?_)
      · exact ih (v2 + 1) w
      · refine so_if2 (Q := Q) w (fun c27_3 w => ?_) (fun c27_3 w => ?_)
        · exact ih (v2 + 1) w
        · obtain ⟨q2, w⟩ := w
          refine so_rq q2 ?_
          refine so_ifF (Q := Q) w (fun c36_4 w => ?_) (fun c36_4 w => ?_)
          · exact w
          · exact ih (v2 + 1) w
def wp_pl_isBuilt (T : St) (p0 : Int32) (Q : Int32 → Prop) : Prop := wp_pl_isBuilt_2 T p0 (fun w1_2 => Q 1) Q 1000 0
theorem so_pl_isBuilt {T : St} (p0 : Int32) {Q : Int32 → Prop} (w : wp_pl_isBuilt T p0 Q) : ok_pl_isBuilt T p0 ∧ Q (x_pl_isBuilt T p0) := by
  unfold wp_pl_isBuilt at w
  unfold ok_pl_isBuilt x_pl_isBuilt
  refine so_pl_isBuilt_2 T p0 (fun w1_2  w => ?_) 1000 0 w
  refine ⟨trivial, ?_⟩
  exact w
def wp_rd_hasRoom (T : St) (p0 : Int32) (Q : Int32 → Prop) : Prop := (((600 < ((T.1 13 1) + p0)) → Q 0) ∧ (¬ (600 < ((T.1 13 1) + p0)) → Q 1))
theorem so_rd_hasRoom {T : St} (p0 : Int32) {Q : Int32 → Prop} (w : wp_rd_hasRoom T p0 Q) : Q (x_rd_hasRoom T p0) := by
  unfold wp_rd_hasRoom at w
  unfold x_rd_hasRoom
  refine so_if0 (Q := Q) w (fun c9_1 w => ?_) (fun c9_1 w => ?_)
  · exact w
  · exact w
def bd_rd_put_5 (l1 : Int64) (l3 : Int32) (Kk : Int32 → St → Prop) (Q : St → Prop) (N : Int32 → St → Prop) (v4 : Int32) (T : St) : Prop := (((v4 < 0) → Kk v4 T) ∧ (¬ (v4 < 0) → (((600 ≤ (T.1 13 1)) → Kk v4 T) ∧ (¬ (600 ≤ (T.1 13 1)) → (vp_in (T.1 13 1) 600) ∧ jn (fun (T1 : St) => N (v4 + (-1)) (sF T1 13 1 ((T1.1 13 1) + 1))) (sA T 14 (T.1 13 1 : Int32).toNatClampNeg (((l1 >>> (((8 * v4) : Int32).toInt64 &&& 63) : Int64).toInt32) &&& 255))))))
def wp_rd_put_5 (l1 : Int64) (l3 : Int32) (Kk : Int32 → St → Prop) (Q : St → Prop) : Nat → Int32 → St → Prop
  | 0, _, _ => False
  | f + 1, v4, T => bd_rd_put_5 l1 l3 Kk Q (wp_rd_put_5 l1 l3 Kk Q f) v4 T
theorem mb_rd_put_5 (l1 : Int64) (l3 : Int32) {Kk Kk2 : Int32 → St → Prop} {Q Q2 : St → Prop} {N N2 : Int32 → St → Prop} (hK : ∀ (v4 : Int32) (T : St), Kk v4 T → Kk2 v4 T) (hQ : ∀ r, Q r → Q2 r) (hN : ∀ (v4 : Int32) (T : St), N v4 T → N2 v4 T) (v4 : Int32) (T : St) (w : bd_rd_put_5 l1 l3 Kk Q N v4 T) : bd_rd_put_5 l1 l3 Kk2 Q2 N2 v4 T := by
  unfold bd_rd_put_5 at w ⊢
  refine mo_if w (fun c7_1 w => ?_) (fun c7_1 w => ?_)
  · exact hK v4 T w
  · refine mo_if w (fun c17_2 w => ?_) (fun c17_2 w => ?_)
    · exact hK v4 T w
    · obtain ⟨q1, w⟩ := w
      refine ⟨q1, ?_⟩
      refine mo_n w (fun T1 w => ?_)
      exact hN (v4 + (-1)) (sF T1 13 1 ((T1.1 13 1) + 1)) w
theorem mo_rd_put_5 (l1 : Int64) (l3 : Int32) {Kk Kk2 : Int32 → St → Prop} {Q Q2 : St → Prop} (hK : ∀ (v4 : Int32) (T : St), Kk v4 T → Kk2 v4 T) (hQ : ∀ r, Q r → Q2 r) : ∀ (f : Nat) (v4 : Int32) (T : St), wp_rd_put_5 l1 l3 Kk Q f v4 T → wp_rd_put_5 l1 l3 Kk2 Q2 f v4 T := by
  intro f
  induction f with
  | zero => intro v4 T w; exact w.elim
  | succ f ih => intro v4 T w; exact mb_rd_put_5 l1 l3 hK hQ ih v4 T w
theorem wr_rd_put_5 (l1 : Int64) (l3 : Int32) {Kk : Int32 → St → Prop} {Q : St → Prop} (I : Int32 → St → Prop) (m : Int32 → St → Nat) (hv : ∀ (v4 : Int32) (T : St), I v4 T → bd_rd_put_5 l1 l3 Kk Q (fun uv4 uT => I uv4 uT ∧ m uv4 uT < m v4 T) v4 T) : ∀ (f : Nat) (v4 : Int32) (T : St), m v4 T < f → I v4 T → wp_rd_put_5 l1 l3 Kk Q f v4 T := by
  intro f
  induction f with
  | zero => intro v4 T h; exact absurd h (Nat.not_lt_zero _)
  | succ f ih => intro v4 T h hi; exact mb_rd_put_5 l1 l3 (fun _ _ h => h) (fun _ h => h) (fun uv4 uT g => ih uv4 uT (by omega) g.1) v4 T (hv v4 T hi)
theorem so_rd_put_5 (l1 : Int64) (l3 : Int32) {K : Int32 → St → St} {Kk Kk2 : Int32 → St → Prop} {Q : St → Prop} (hk : ∀ (v4 : Int32) (T : St), Kk v4 T → Kk2 v4 T ∧ Q (K v4 T)) : ∀ (f : Nat) (v4 : Int32) (T : St), wp_rd_put_5 l1 l3 Kk Q f v4 T → ok_rd_put_5 l1 l3 Kk2 f v4 T ∧ Q (x_rd_put_5 l1 l3 K f v4 T) := by
  intro f
  induction f with
  | zero => intro v4 T w; exact w.elim
  | succ f ih =>
    intro v4 T w
    rw [wp_rd_put_5, bd_rd_put_5] at w
    rw [ok_rd_put_5, x_rd_put_5]
    refine so_if2 (Q := Q) w (fun c7_1 w => ?_) (fun c7_1 w => ?_)
    · exact hk v4 T w
    · refine so_if2 (Q := Q) w (fun c17_2 w => ?_) (fun c17_2 w => ?_)
      · exact hk v4 T w
      · obtain ⟨q1, w⟩ := w
        refine so_rq q1 ?_
        refine so_n (Q := Q) w (fun T1 w => ?_)
        exact ih (v4 + (-1)) (sF T1 13 1 ((T1.1 13 1) + 1)) w
def wp_rd_put (T : St) (p0 : Int64) (p1 : Int32) (Q : St → Prop) : Prop := wp_rd_put_5 p0 p1 (fun w1_4 T201 => Q T201) Q 1000 (p1 - 1) T
theorem so_rd_put {T : St} (p0 : Int64) (p1 : Int32) {Q : St → Prop} (w : wp_rd_put T p0 p1 Q) : ok_rd_put T p0 p1 ∧ Q (x_rd_put T p0 p1) := by
  unfold wp_rd_put at w
  unfold ok_rd_put x_rd_put
  refine so_rd_put_5 p0 p1 (fun w1_4 T201 w => ?_) 1000 (p1 - 1) T w
  refine ⟨trivial, ?_⟩
  exact w
def bd_rd_isWord_28 (T : St) (l1 : Nat) (Kk : Int32 → Prop) (Q : Int32 → Prop) (N : Int32 → Prop) (v2 : Int32) : Prop := (ok_slen T l1) ∧ (l1 < 8) ∧ ((((x_slen T l1) ≤ v2) → Kk v2) ∧ (¬ ((x_slen T l1) ≤ v2) → (vp_in ((T.1 13 3) + v2) 600) ∧ (ok_sch T l1 v2) ∧ ((((T.2.2.1 14 ((T.1 13 3) + v2 : Int32).toNatClampNeg) = (x_sch T l1 v2)) → N (v2 + 1)) ∧ (¬ ((T.2.2.1 14 ((T.1 13 3) + v2 : Int32).toNatClampNeg) = (x_sch T l1 v2)) → Q 0))))
def wp_rd_isWord_28 (T : St) (l1 : Nat) (Kk : Int32 → Prop) (Q : Int32 → Prop) : Nat → Int32 → Prop
  | 0, _ => False
  | f + 1, v2 => bd_rd_isWord_28 T l1 Kk Q (wp_rd_isWord_28 T l1 Kk Q f) v2
theorem mb_rd_isWord_28 (T : St) (l1 : Nat) {Kk Kk2 : Int32 → Prop} {Q Q2 : Int32 → Prop} {N N2 : Int32 → Prop} (hK : ∀ (v2 : Int32), Kk v2 → Kk2 v2) (hQ : ∀ r, Q r → Q2 r) (hN : ∀ (v2 : Int32), N v2 → N2 v2) (v2 : Int32) (w : bd_rd_isWord_28 T l1 Kk Q N v2) : bd_rd_isWord_28 T l1 Kk2 Q2 N2 v2 := by
  unfold bd_rd_isWord_28 at w ⊢
  obtain ⟨q3, w⟩ := w
  refine ⟨q3, ?_⟩
  obtain ⟨q4, w⟩ := w
  refine ⟨q4, ?_⟩
  refine mo_if w (fun c33_3 w => ?_) (fun c33_3 w => ?_)
  · exact hK v2 w
  · obtain ⟨q5, w⟩ := w
    refine ⟨q5, ?_⟩
    obtain ⟨q6, w⟩ := w
    refine ⟨q6, ?_⟩
    refine mo_if w (fun c52_4 w => ?_) (fun c52_4 w => ?_)
    · exact hN (v2 + 1) w
    · exact hQ _ w
theorem mo_rd_isWord_28 (T : St) (l1 : Nat) {Kk Kk2 : Int32 → Prop} {Q Q2 : Int32 → Prop} (hK : ∀ (v2 : Int32), Kk v2 → Kk2 v2) (hQ : ∀ r, Q r → Q2 r) : ∀ (f : Nat) (v2 : Int32), wp_rd_isWord_28 T l1 Kk Q f v2 → wp_rd_isWord_28 T l1 Kk2 Q2 f v2 := by
  intro f
  induction f with
  | zero => intro v2 w; exact w.elim
  | succ f ih => intro v2 w; exact mb_rd_isWord_28 T l1 hK hQ ih v2 w
theorem wr_rd_isWord_28 (T : St) (l1 : Nat) {Kk : Int32 → Prop} {Q : Int32 → Prop} (I : Int32 → Prop) (m : Int32 → Nat) (hv : ∀ (v2 : Int32), I v2 → bd_rd_isWord_28 T l1 Kk Q (fun uv2 => I uv2 ∧ m uv2 < m v2) v2) : ∀ (f : Nat) (v2 : Int32), m v2 < f → I v2 → wp_rd_isWord_28 T l1 Kk Q f v2 := by
  intro f
  induction f with
  | zero => intro v2 h; exact absurd h (Nat.not_lt_zero _)
  | succ f ih => intro v2 h hi; exact mb_rd_isWord_28 T l1 (fun _ h => h) (fun _ h => h) (fun uv2 g => ih uv2 (by omega) g.1) v2 (hv v2 hi)
theorem so_rd_isWord_28 (T : St) (l1 : Nat) {K : Int32 → Int32} {Kk Kk2 : Int32 → Prop} {Q : Int32 → Prop} (hk : ∀ (v2 : Int32), Kk v2 → Kk2 v2 ∧ Q (K v2)) : ∀ (f : Nat) (v2 : Int32), wp_rd_isWord_28 T l1 Kk Q f v2 → ok_rd_isWord_28 T l1 Kk2 f v2 ∧ Q (x_rd_isWord_28 T l1 K f v2) := by
  intro f
  induction f with
  | zero => intro v2 w; exact w.elim
  | succ f ih =>
    intro v2 w
    rw [wp_rd_isWord_28, bd_rd_isWord_28] at w
    rw [ok_rd_isWord_28, x_rd_isWord_28]
    obtain ⟨q3, w⟩ := w
    refine so_rq q3 ?_
    obtain ⟨q4, w⟩ := w
    refine so_rq q4 ?_
    refine so_if2 (Q := Q) w (fun c33_3 w => ?_) (fun c33_3 w => ?_)
    · exact hk v2 w
    · obtain ⟨q5, w⟩ := w
      refine so_rq q5 ?_
      obtain ⟨q6, w⟩ := w
      refine so_rq q6 ?_
      refine so_ifT (Q := Q) w (fun c52_4 w => ?_) (fun c52_4 w => ?_)
      · exact ih (v2 + 1) w
      · exact w
def wp_rd_isWord (T : St) (p0 : Nat) (Q : Int32 → Prop) : Prop := ((((T.1 13 5) = 1) → (ok_slen T p0) ∧ (p0 < 8) ∧ (((((T.1 13 4) - (T.1 13 3)) = (x_slen T p0)) → wp_rd_isWord_28 T p0 (fun w1_2 => Q 1) Q 1000 0) ∧ (¬ (((T.1 13 4) - (T.1 13 3)) = (x_slen T p0)) → Q 0))) ∧ (¬ ((T.1 13 5) = 1) → Q 0))
theorem so_rd_isWord {T : St} (p0 : Nat) {Q : Int32 → Prop} (w : wp_rd_isWord T p0 Q) : ok_rd_isWord T p0 ∧ Q (x_rd_isWord T p0) := by
  unfold wp_rd_isWord at w
  unfold ok_rd_isWord x_rd_isWord
  refine so_ifT (Q := Q) w (fun c5_1 w => ?_) (fun c5_1 w => ?_)
  · obtain ⟨q1, w⟩ := w
    refine so_rq q1 ?_
    obtain ⟨q2, w⟩ := w
    refine so_rq q2 ?_
    refine so_ifT (Q := Q) w (fun c21_2 w => ?_) (fun c21_2 w => ?_)
    · refine so_rd_isWord_28 T p0 (fun w1_2  w => ?_) 1000 0 w
      refine ⟨trivial, ?_⟩
      exact w
    · exact w
  · exact w
def bd_rd_takeFigures_5  (Kk : St → Prop) (Q : St → Prop) (N : St → Prop)  (T : St) : Prop := ((((T.1 13 1) ≤ (T.1 13 4)) → Kk  T) ∧ (¬ ((T.1 13 1) ≤ (T.1 13 4)) → (vp_in (T.1 13 4) 600) ∧ ((((T.2.2.1 14 (T.1 13 4 : Int32).toNatClampNeg) < 48) → Kk  T) ∧ (¬ ((T.2.2.1 14 (T.1 13 4 : Int32).toNatClampNeg) < 48) → (((57 < (T.2.2.1 14 (T.1 13 4 : Int32).toNatClampNeg)) → Kk  T) ∧ (¬ (57 < (T.2.2.1 14 (T.1 13 4 : Int32).toNatClampNeg)) → jn (fun (T1 : St) => N  T1) (sF (sF T 13 6 ((((T.1 13 6) * 10) + (T.2.2.1 14 (T.1 13 4 : Int32).toNatClampNeg)) - 48)) 13 4 (((sF T 13 6 ((((T.1 13 6) * 10) + (T.2.2.1 14 (T.1 13 4 : Int32).toNatClampNeg)) - 48)).1 13 4) + 1))))))))
def wp_rd_takeFigures_5  (Kk : St → Prop) (Q : St → Prop) : Nat → St → Prop
  | 0, _ => False
  | f + 1, T => bd_rd_takeFigures_5  Kk Q (wp_rd_takeFigures_5  Kk Q f)  T
theorem mb_rd_takeFigures_5  {Kk Kk2 : St → Prop} {Q Q2 : St → Prop} {N N2 : St → Prop} (hK : ∀  (T : St), Kk  T → Kk2  T) (hQ : ∀ r, Q r → Q2 r) (hN : ∀  (T : St), N  T → N2  T)  (T : St) (w : bd_rd_takeFigures_5  Kk Q N  T) : bd_rd_takeFigures_5  Kk2 Q2 N2  T := by
  unfold bd_rd_takeFigures_5 at w ⊢
  refine mo_if w (fun c13_1 w => ?_) (fun c13_1 w => ?_)
  · exact hK  T w
  · obtain ⟨q1, w⟩ := w
    refine ⟨q1, ?_⟩
    refine mo_if w (fun c27_2 w => ?_) (fun c27_2 w => ?_)
    · exact hK  T w
    · refine mo_if w (fun c41_3 w => ?_) (fun c41_3 w => ?_)
      · exact hK  T w
      · refine mo_n w (fun T1 w => ?_)
        exact hN  T1 w
theorem mo_rd_takeFigures_5  {Kk Kk2 : St → Prop} {Q Q2 : St → Prop} (hK : ∀  (T : St), Kk  T → Kk2  T) (hQ : ∀ r, Q r → Q2 r) : ∀ (f : Nat)  (T : St), wp_rd_takeFigures_5  Kk Q f  T → wp_rd_takeFigures_5  Kk2 Q2 f  T := by
  intro f
  induction f with
  | zero => intro  T w; exact w.elim
  | succ f ih => intro  T w; exact mb_rd_takeFigures_5  hK hQ ih  T w
theorem wr_rd_takeFigures_5  {Kk : St → Prop} {Q : St → Prop} (I : St → Prop) (m : St → Nat) (hv : ∀  (T : St), I  T → bd_rd_takeFigures_5  Kk Q (fun  uT => I  uT ∧ m  uT < m  T)  T) : ∀ (f : Nat)  (T : St), m  T < f → I  T → wp_rd_takeFigures_5  Kk Q f  T := by
  intro f
  induction f with
  | zero => intro  T h; exact absurd h (Nat.not_lt_zero _)
  | succ f ih => intro  T h hi; exact mb_rd_takeFigures_5  (fun _ h => h) (fun _ h => h) (fun  uT g => ih  uT (by omega) g.1)  T (hv  T hi)
theorem so_rd_takeFigures_5  {K : St → St} {Kk Kk2 : St → Prop} {Q : St → Prop} (hk : ∀  (T : St), Kk  T → Kk2  T ∧ Q (K  T)) : ∀ (f : Nat)  (T : St), wp_rd_takeFigures_5  Kk Q f  T → ok_rd_takeFigures_5  Kk2 f  T ∧ Q (x_rd_takeFigures_5  K f  T) := by
  intro f
  induction f with
  | zero => intro  T w; exact w.elim
  | succ f ih =>
    intro  T w
    rw [wp_rd_takeFigures_5, bd_rd_takeFigures_5] at w
    rw [ok_rd_takeFigures_5, x_rd_takeFigures_5]
    refine so_if2 (Q := Q) w (fun c13_1 w => ?_) (fun c13_1 w => ?_)
    · exact hk  T w
    · obtain ⟨q1, w⟩ := w
      refine so_rq q1 ?_
      refine so_if2 (Q := Q) w (fun c27_2 w => ?_) (fun c27_2 w => ?_)
      · exact hk  T w
      · refine so_if2 (Q := Q) w (fun c41_3 w => ?_) (fun c41_3 w => ?_)
        · exact hk  T w
        · refine so_n (Q := Q) w (fun T1 w => ?_)
          exact ih  T1 w
def wp_rd_takeFigures (T : St)  (Q : St → Prop) : Prop := wp_rd_takeFigures_5  (fun  T201 => (((2 < ((T201.1 13 4) - (T201.1 13 3))) → Q (sF T201 13 5 4)) ∧ (¬ (2 < ((T201.1 13 4) - (T201.1 13 3))) → Q (sF T201 13 5 2)))) Q 1000  (sF T 13 6 0)
theorem so_rd_takeFigures {T : St}  {Q : St → Prop} (w : wp_rd_takeFigures T  Q) : ok_rd_takeFigures T  ∧ Q (x_rd_takeFigures T ) := by
  unfold wp_rd_takeFigures at w
  unfold ok_rd_takeFigures x_rd_takeFigures
  refine so_rd_takeFigures_5  (fun  T201 w => ?_) 1000  (sF T 13 6 0) w
  refine ⟨trivial, ?_⟩
  refine so_if0 (Q := Q) w (fun c92_4 w => ?_) (fun c92_4 w => ?_)
  · exact w
  · exact w
def bd_ro_fillDish_2 (l0 : Nat) (l1 : Nat) (l2 : Int32) (Kk : Int32 → St → Prop) (Q : St → Prop) (N : Int32 → St → Prop) (v3 : Int32) (T : St) : Prop := (sh l1 = .inr 1) ∧ (vp_in l2 8) ∧ ((((T.2.2.1 (l1 + 7) (l2 : Int32).toNatClampNeg) ≤ v3) → Kk v3 T) ∧ (¬ ((T.2.2.1 (l1 + 7) (l2 : Int32).toNatClampNeg) ≤ v3) → (sh l0 = .inr 7) ∧ (((12 ≤ (T.1 l0 1)) → Kk v3 T) ∧ (¬ (12 ≤ (T.1 l0 1)) → jn (fun (i1 : Int32) => (vp_in (T.1 l0 1) 12) ∧ (vp_in ((sA T (l0 + 3) (T.1 l0 1 : Int32).toNatClampNeg i1).1 l0 1) 12) ∧ jn (fun (T2 : St) => (vp_in i1 24) ∧ (vp_in (T2.1 l0 1) 12) ∧ jn (fun (T3 : St) => N (v3 + 1) (sF T3 l0 1 ((T3.1 l0 1) + 1))) (sA T2 (l0 + 6) (T2.1 l0 1 : Int32).toNatClampNeg (T2.2.2.1 (l1 + 10) (i1 : Int32).toNatClampNeg))) (sA (sA T (l0 + 3) (T.1 l0 1 : Int32).toNatClampNeg i1) (l0 + 4) ((sA T (l0 + 3) (T.1 l0 1 : Int32).toNatClampNeg i1).1 l0 1 : Int32).toNatClampNeg ((sA T (l0 + 3) (T.1 l0 1 : Int32).toNatClampNeg i1).1 l0 0))) ((T.2.2.1 (l1 + 8) (l2 : Int32).toNatClampNeg) + v3)))))
def wp_ro_fillDish_2 (l0 : Nat) (l1 : Nat) (l2 : Int32) (Kk : Int32 → St → Prop) (Q : St → Prop) : Nat → Int32 → St → Prop
  | 0, _, _ => False
  | f + 1, v3, T => bd_ro_fillDish_2 l0 l1 l2 Kk Q (wp_ro_fillDish_2 l0 l1 l2 Kk Q f) v3 T
theorem mb_ro_fillDish_2 (l0 : Nat) (l1 : Nat) (l2 : Int32) {Kk Kk2 : Int32 → St → Prop} {Q Q2 : St → Prop} {N N2 : Int32 → St → Prop} (hK : ∀ (v3 : Int32) (T : St), Kk v3 T → Kk2 v3 T) (hQ : ∀ r, Q r → Q2 r) (hN : ∀ (v3 : Int32) (T : St), N v3 T → N2 v3 T) (v3 : Int32) (T : St) (w : bd_ro_fillDish_2 l0 l1 l2 Kk Q N v3 T) : bd_ro_fillDish_2 l0 l1 l2 Kk2 Q2 N2 v3 T := by
  unfold bd_ro_fillDish_2 at w ⊢
  obtain ⟨q1, w⟩ := w
  refine ⟨q1, ?_⟩
  obtain ⟨q2, w⟩ := w
  refine ⟨q2, ?_⟩
  refine mo_if w (fun c9_1 w => ?_) (fun c9_1 w => ?_)
  · exact hK v3 T w
  · obtain ⟨q3, w⟩ := w
    refine ⟨q3, ?_⟩
    refine mo_if w (fun c18_2 w => ?_) (fun c18_2 w => ?_)
    · exact hK v3 T w
    · refine mo_n w (fun i1 w => ?_)
      obtain ⟨q4, w⟩ := w
      refine ⟨q4, ?_⟩
      obtain ⟨q5, w⟩ := w
      refine ⟨q5, ?_⟩
      refine mo_n w (fun T2 w => ?_)
      obtain ⟨q6, w⟩ := w
      refine ⟨q6, ?_⟩
      obtain ⟨q7, w⟩ := w
      refine ⟨q7, ?_⟩
      refine mo_n w (fun T3 w => ?_)
      exact hN (v3 + 1) (sF T3 l0 1 ((T3.1 l0 1) + 1)) w
theorem mo_ro_fillDish_2 (l0 : Nat) (l1 : Nat) (l2 : Int32) {Kk Kk2 : Int32 → St → Prop} {Q Q2 : St → Prop} (hK : ∀ (v3 : Int32) (T : St), Kk v3 T → Kk2 v3 T) (hQ : ∀ r, Q r → Q2 r) : ∀ (f : Nat) (v3 : Int32) (T : St), wp_ro_fillDish_2 l0 l1 l2 Kk Q f v3 T → wp_ro_fillDish_2 l0 l1 l2 Kk2 Q2 f v3 T := by
  intro f
  induction f with
  | zero => intro v3 T w; exact w.elim
  | succ f ih => intro v3 T w; exact mb_ro_fillDish_2 l0 l1 l2 hK hQ ih v3 T w
theorem wr_ro_fillDish_2 (l0 : Nat) (l1 : Nat) (l2 : Int32) {Kk : Int32 → St → Prop} {Q : St → Prop} (I : Int32 → St → Prop) (m : Int32 → St → Nat) (hv : ∀ (v3 : Int32) (T : St), I v3 T → bd_ro_fillDish_2 l0 l1 l2 Kk Q (fun uv3 uT => I uv3 uT ∧ m uv3 uT < m v3 T) v3 T) : ∀ (f : Nat) (v3 : Int32) (T : St), m v3 T < f → I v3 T → wp_ro_fillDish_2 l0 l1 l2 Kk Q f v3 T := by
  intro f
  induction f with
  | zero => intro v3 T h; exact absurd h (Nat.not_lt_zero _)
  | succ f ih => intro v3 T h hi; exact mb_ro_fillDish_2 l0 l1 l2 (fun _ _ h => h) (fun _ h => h) (fun uv3 uT g => ih uv3 uT (by omega) g.1) v3 T (hv v3 T hi)
theorem so_ro_fillDish_2 (l0 : Nat) (l1 : Nat) (l2 : Int32) {K : Int32 → St → St} {Kk Kk2 : Int32 → St → Prop} {Q : St → Prop} (hk : ∀ (v3 : Int32) (T : St), Kk v3 T → Kk2 v3 T ∧ Q (K v3 T)) : ∀ (f : Nat) (v3 : Int32) (T : St), wp_ro_fillDish_2 l0 l1 l2 Kk Q f v3 T → ok_ro_fillDish_2 l0 l1 l2 Kk2 f v3 T ∧ Q (x_ro_fillDish_2 l0 l1 l2 K f v3 T) := by
  intro f
  induction f with
  | zero => intro v3 T w; exact w.elim
  | succ f ih =>
    intro v3 T w
    rw [wp_ro_fillDish_2, bd_ro_fillDish_2] at w
    rw [ok_ro_fillDish_2, x_ro_fillDish_2]
    obtain ⟨q1, w⟩ := w
    refine so_rq q1 ?_
    obtain ⟨q2, w⟩ := w
    refine so_rq q2 ?_
    refine so_if2 (Q := Q) w (fun c9_1 w => ?_) (fun c9_1 w => ?_)
    · exact hk v3 T w
    · obtain ⟨q3, w⟩ := w
      refine so_rq q3 ?_
      refine so_if2 (Q := Q) w (fun c18_2 w => ?_) (fun c18_2 w => ?_)
      · exact hk v3 T w
      · refine so_n (Q := Q) w (fun i1 w => ?_)
        obtain ⟨q4, w⟩ := w
        refine so_rq q4 ?_
        obtain ⟨q5, w⟩ := w
        refine so_rq q5 ?_
        refine so_n (Q := Q) w (fun T2 w => ?_)
        obtain ⟨q6, w⟩ := w
        refine so_rq q6 ?_
        obtain ⟨q7, w⟩ := w
        refine so_rq q7 ?_
        refine so_n (Q := Q) w (fun T3 w => ?_)
        exact ih (v3 + 1) (sF T3 l0 1 ((T3.1 l0 1) + 1)) w
def wp_ro_fillDish (T : St) (a : Nat) (p0 : Nat) (p1 : Int32) (Q : St → Prop) : Prop := wp_ro_fillDish_2 a p0 p1 (fun w1_3 T201 => Q T201) Q 1000 0 T
theorem so_ro_fillDish {T : St} (a : Nat) (p0 : Nat) (p1 : Int32) {Q : St → Prop} (w : wp_ro_fillDish T a p0 p1 Q) : ok_ro_fillDish T a p0 p1 ∧ Q (x_ro_fillDish T a p0 p1) := by
  unfold wp_ro_fillDish at w
  unfold ok_ro_fillDish x_ro_fillDish
  refine so_ro_fillDish_2 a p0 p1 (fun w1_3 T201 w => ?_) 1000 0 T w
  refine ⟨trivial, ?_⟩
  exact w
def wp_ro_take (T : St) (a : Nat) (p0 : Nat) (Q : St → Prop) : Prop := (sh p0 = .inr 7) ∧ (sh a = .inr 7) ∧ (cpok 0 0 4 4 4) ∧ jn (fun (T1 : St) => jn (fun (T2 : St) => (cpok 0 0 12 12 12) ∧ jn (fun (T3 : St) => jn (fun (T4 : St) => jn (fun (T5 : St) => Q (sAr T5 (a + 6) (va_cpy (T5.2.2.1 (p0 + 6)) (T5.2.2.1 (a + 6)) (0 : Int32).toNatClampNeg (0 : Int32).toNatClampNeg (12 : Int32).toNatClampNeg))) (sAr T4 (a + 5) (va_cpy (T4.2.2.1 (p0 + 5)) (T4.2.2.1 (a + 5)) (0 : Int32).toNatClampNeg (0 : Int32).toNatClampNeg (12 : Int32).toNatClampNeg))) (sAr T3 (a + 4) (va_cpy (T3.2.2.1 (p0 + 4)) (T3.2.2.1 (a + 4)) (0 : Int32).toNatClampNeg (0 : Int32).toNatClampNeg (12 : Int32).toNatClampNeg))) (sAr T2 (a + 3) (va_cpy (T2.2.2.1 (p0 + 3)) (T2.2.2.1 (a + 3)) (0 : Int32).toNatClampNeg (0 : Int32).toNatClampNeg (12 : Int32).toNatClampNeg))) (sAr T1 (a + 2) (va_cpy (T1.2.2.1 (p0 + 2)) (T1.2.2.1 (a + 2)) (0 : Int32).toNatClampNeg (0 : Int32).toNatClampNeg (4 : Int32).toNatClampNeg))) (sAr (sF (sF T a 0 (T.1 p0 0)) a 1 ((sF T a 0 (T.1 p0 0)).1 p0 1)) (a + 1) (va_cpy ((sF (sF T a 0 (T.1 p0 0)) a 1 ((sF T a 0 (T.1 p0 0)).1 p0 1)).2.2.1 (p0 + 1)) ((sF (sF T a 0 (T.1 p0 0)) a 1 ((sF T a 0 (T.1 p0 0)).1 p0 1)).2.2.1 (a + 1)) (0 : Int32).toNatClampNeg (0 : Int32).toNatClampNeg (4 : Int32).toNatClampNeg))
theorem so_ro_take {T : St} (a : Nat) (p0 : Nat) {Q : St → Prop} (w : wp_ro_take T a p0 Q) : ok_ro_take T a p0 ∧ Q (x_ro_take T a p0) := by
  unfold wp_ro_take at w
  unfold ok_ro_take x_ro_take
  obtain ⟨q1, w⟩ := w
  refine so_rq q1 ?_
  obtain ⟨q2, w⟩ := w
  refine so_rq q2 ?_
  obtain ⟨q3, w⟩ := w
  refine so_rq q3 ?_
  refine so_n (Q := Q) w (fun T1 w => ?_)
  refine so_n (Q := Q) w (fun T2 w => ?_)
  obtain ⟨q4, w⟩ := w
  refine so_rq q4 ?_
  refine ⟨trivial, ?_⟩
  refine so_n0 (Q := Q) w (fun T3 w => ?_)
  refine so_n0 (Q := Q) w (fun T4 w => ?_)
  refine so_n0 (Q := Q) w (fun T5 w => ?_)
  exact w
def wp_ro_isFirst (T : St) (a : Nat) (p0 : Int32) (Q : Int32 → Prop) : Prop := (((p0 = 0) → Q 1) ∧ (¬ (p0 = 0) → (sh a = .inr 7) ∧ (vp_in (p0 - 1) 12) ∧ (vp_in p0 12) ∧ ((((T.2.2.1 (a + 4) (p0 - 1 : Int32).toNatClampNeg) = (T.2.2.1 (a + 4) (p0 : Int32).toNatClampNeg)) → Q 0) ∧ (¬ ((T.2.2.1 (a + 4) (p0 - 1 : Int32).toNatClampNeg) = (T.2.2.1 (a + 4) (p0 : Int32).toNatClampNeg)) → Q 1))))
theorem so_ro_isFirst {T : St} (a : Nat) (p0 : Int32) {Q : Int32 → Prop} (w : wp_ro_isFirst T a p0 Q) : ok_ro_isFirst T a p0 ∧ Q (x_ro_isFirst T a p0) := by
  unfold wp_ro_isFirst at w
  unfold ok_ro_isFirst x_ro_isFirst
  refine so_ifF (Q := Q) w (fun c1_1 w => ?_) (fun c1_1 w => ?_)
  · exact w
  · obtain ⟨q1, w⟩ := w
    refine so_rq q1 ?_
    obtain ⟨q2, w⟩ := w
    refine so_rq q2 ?_
    obtain ⟨q3, w⟩ := w
    refine so_rq q3 ?_
    refine ⟨trivial, ?_⟩
    refine so_if0 (Q := Q) w (fun c18_2 w => ?_) (fun c18_2 w => ?_)
    · exact w
    · exact w
def wp_ro_isLast (T : St) (a : Nat) (p0 : Int32) (Q : Int32 → Prop) : Prop := (sh a = .inr 7) ∧ (((p0 = ((T.1 a 1) - 1)) → Q 1) ∧ (¬ (p0 = ((T.1 a 1) - 1)) → (vp_in (p0 + 1) 12) ∧ (vp_in p0 12) ∧ ((((T.2.2.1 (a + 4) (p0 + 1 : Int32).toNatClampNeg) = (T.2.2.1 (a + 4) (p0 : Int32).toNatClampNeg)) → Q 0) ∧ (¬ ((T.2.2.1 (a + 4) (p0 + 1 : Int32).toNatClampNeg) = (T.2.2.1 (a + 4) (p0 : Int32).toNatClampNeg)) → Q 1))))
theorem so_ro_isLast {T : St} (a : Nat) (p0 : Int32) {Q : Int32 → Prop} (w : wp_ro_isLast T a p0 Q) : ok_ro_isLast T a p0 ∧ Q (x_ro_isLast T a p0) := by
  unfold wp_ro_isLast at w
  unfold ok_ro_isLast x_ro_isLast
  obtain ⟨q1, w⟩ := w
  refine so_rq q1 ?_
  refine so_ifF (Q := Q) w (fun c7_1 w => ?_) (fun c7_1 w => ?_)
  · exact w
  · obtain ⟨q2, w⟩ := w
    refine so_rq q2 ?_
    obtain ⟨q3, w⟩ := w
    refine so_rq q3 ?_
    refine ⟨trivial, ?_⟩
    refine so_if0 (Q := Q) w (fun c24_2 w => ?_) (fun c24_2 w => ?_)
    · exact w
    · exact w
def wp_sh_isOne (T : St) (p0 : Int32) (Q : Int32 → Prop) : Prop := (((p0 < 0) → Q 0) ∧ (¬ (p0 < 0) → (((8 ≤ p0) → Q 0) ∧ (¬ (8 ≤ p0) → Q 1))))
theorem so_sh_isOne {T : St} (p0 : Int32) {Q : Int32 → Prop} (w : wp_sh_isOne T p0 Q) : Q (x_sh_isOne T p0) := by
  unfold wp_sh_isOne at w
  unfold x_sh_isOne
  refine so_if0 (Q := Q) w (fun c1_1 w => ?_) (fun c1_1 w => ?_)
  · exact w
  · refine so_if0 (Q := Q) w (fun c7_2 w => ?_) (fun c7_2 w => ?_)
    · exact w
    · exact w
def wp_sh_isMissing (T : St) (p0 : Int32) (Q : Int32 → Prop) : Prop := (vp_in p0 8) ∧ ((((T.2.2.1 2 (p0 : Int32).toNatClampNeg) = (-1)) → Q 1) ∧ (¬ ((T.2.2.1 2 (p0 : Int32).toNatClampNeg) = (-1)) → Q 0))
theorem so_sh_isMissing {T : St} (p0 : Int32) {Q : Int32 → Prop} (w : wp_sh_isMissing T p0 Q) : ok_sh_isMissing T p0 ∧ Q (x_sh_isMissing T p0) := by
  unfold wp_sh_isMissing at w
  unfold ok_sh_isMissing x_sh_isMissing
  obtain ⟨q1, w⟩ := w
  refine so_rq q1 ?_
  refine ⟨trivial, ?_⟩
  refine so_if0 (Q := Q) w (fun c7_1 w => ?_) (fun c7_1 w => ?_)
  · exact w
  · exact w
def wp_sh_reaches (T : St) (p0 : Int32) (p1 : Int32) (p2 : Int32) (Q : Int32 → Prop) : Prop := (((p1 < 0) → Q 0) ∧ (¬ (p1 < 0) → (((p2 < 0) → Q 0) ∧ (¬ (p2 < 0) → (vp_in p0 8) ∧ ((((T.2.2.1 3 (p0 : Int32).toNatClampNeg) < p2) → Q 0) ∧ (¬ ((T.2.2.1 3 (p0 : Int32).toNatClampNeg) < p2) → (((((T.2.2.1 3 (p0 : Int32).toNatClampNeg) - p2) < p1) → Q 0) ∧ (¬ (((T.2.2.1 3 (p0 : Int32).toNatClampNeg) - p2) < p1) → Q 1))))))))
theorem so_sh_reaches {T : St} (p0 : Int32) (p1 : Int32) (p2 : Int32) {Q : Int32 → Prop} (w : wp_sh_reaches T p0 p1 p2 Q) : ok_sh_reaches T p0 p1 p2 ∧ Q (x_sh_reaches T p0 p1 p2) := by
  unfold wp_sh_reaches at w
  unfold ok_sh_reaches x_sh_reaches
  refine so_ifF (Q := Q) w (fun c1_1 w => ?_) (fun c1_1 w => ?_)
  · exact w
  · refine so_ifF (Q := Q) w (fun c5_2 w => ?_) (fun c5_2 w => ?_)
    · exact w
    · obtain ⟨q1, w⟩ := w
      refine so_rq q1 ?_
      refine ⟨trivial, ?_⟩
      refine so_if0 (Q := Q) w (fun c15_3 w => ?_) (fun c15_3 w => ?_)
      · exact w
      · refine so_if0 (Q := Q) w (fun c27_4 w => ?_) (fun c27_4 w => ?_)
        · exact w
        · exact w
def wp_sh_lay (T : St) (p0 : Int32) (p1 : Int32) (p2 : Int32) (Q : St → Prop) : Prop := (vp_in p0 8) ∧ (ok_fillI (sA (sA T 2 (p0 : Int32).toNatClampNeg p1) 3 (p0 : Int32).toNatClampNeg p2) (5 + (p0 : Int32).toNatClampNeg) 0) ∧ Q (x_fillI (sA (sA T 2 (p0 : Int32).toNatClampNeg p1) 3 (p0 : Int32).toNatClampNeg p2) (5 + (p0 : Int32).toNatClampNeg) 0)
theorem so_sh_lay {T : St} (p0 : Int32) (p1 : Int32) (p2 : Int32) {Q : St → Prop} (w : wp_sh_lay T p0 p1 p2 Q) : ok_sh_lay T p0 p1 p2 ∧ Q (x_sh_lay T p0 p1 p2) := by
  unfold wp_sh_lay at w
  unfold ok_sh_lay x_sh_lay
  obtain ⟨q1, w⟩ := w
  refine so_rq q1 ?_
  obtain ⟨q2, w⟩ := w
  refine so_rq q2 ?_
  refine ⟨trivial, ?_⟩
  exact w
def wp_sh_write (T : St) (p0 : Int32) (p1 : Int32) (p2 : Int32) (Q : Int32 × St → Prop) : Prop := (vp_in p0 8) ∧ jn (fun (KJ1 : Int32 → Prop) => ((((T.2.2.1 2 (p0 : Int32).toNatClampNeg) = 0) → KJ1 ((p2 : Int32).toInt8.toInt32)) ∧ (¬ ((T.2.2.1 2 (p0 : Int32).toNatClampNeg) = 0) → ((((T.2.2.1 2 (p0 : Int32).toNatClampNeg) = 1) → KJ1 ((p2 : Int32).toInt16.toInt32)) ∧ (¬ ((T.2.2.1 2 (p0 : Int32).toNatClampNeg) = 1) → KJ1 p2))))) (fun (j1_s0 : Int32) => (vp_in p1 40) ∧ Q (j1_s0, sA T (5 + (p0 : Int32).toNatClampNeg) (p1 : Int32).toNatClampNeg j1_s0))
theorem so_sh_write {T : St} (p0 : Int32) (p1 : Int32) (p2 : Int32) {Q : Int32 × St → Prop} (w : wp_sh_write T p0 p1 p2 Q) : ok_sh_write T p0 p1 p2 ∧ Q (x_sh_write T p0 p1 p2) := by
  unfold wp_sh_write at w
  unfold ok_sh_write x_sh_write
  obtain ⟨q1, w⟩ := w
  refine so_rq q1 ?_
  refine so_jn (Q := Q) (J := fun (KJ1 : Int32 → Int32 × St) (OJ1 : Int32 → Prop) (WKJ1 : Int32 → Prop) => ∀ (j1_s0 : Int32), WKJ1 j1_s0 → OJ1 j1_s0 ∧ Q (KJ1 j1_s0)) w (fun j1_s0 w => ?_) (fun KJ1 OJ1 WKJ1 hJ1 w => ?_)
  · skip
    obtain ⟨q2, w⟩ := w
    refine so_rq q2 ?_
    refine ⟨trivial, ?_⟩
    exact w
  · skip
    refine so_if2 (Q := Q) w (fun c6_3 w => ?_) (fun c6_3 w => ?_)
    · exact hJ1 ((p2 : Int32).toInt8.toInt32) w
    · refine so_if2 (Q := Q) w (fun c21_4 w => ?_) (fun c21_4 w => ?_)
      · exact hJ1 ((p2 : Int32).toInt16.toInt32) w
      · exact hJ1 p2 w
def wp_sh_lose (T : St) (p0 : Int32) (Q : Int32 × St → Prop) : Prop := (vp_in p0 8) ∧ Q ((sA T 2 (p0 : Int32).toNatClampNeg (-1)).2.2.1 3 (p0 : Int32).toNatClampNeg, sA T 2 (p0 : Int32).toNatClampNeg (-1))
theorem so_sh_lose {T : St} (p0 : Int32) {Q : Int32 × St → Prop} (w : wp_sh_lose T p0 Q) : ok_sh_lose T p0 ∧ Q (x_sh_lose T p0) := by
  unfold wp_sh_lose at w
  unfold ok_sh_lose x_sh_lose
  obtain ⟨q1, w⟩ := w
  refine so_rq q1 ?_
  refine ⟨trivial, ?_⟩
  exact w
def bd_sh_present_4 (T : St)  (Kk : Int32 → Int32 → Prop) (Q : Int32 → Prop) (N : Int32 → Int32 → Prop) (v1 : Int32) (v2 : Int32) : Prop := (((8 ≤ v2) → Kk v1 v2) ∧ (¬ (8 ≤ v2) → (vp_in v2 8) ∧ ((((T.2.2.1 2 (v2 : Int32).toNatClampNeg) = (-1)) → N v1 (v2 + 1)) ∧ (¬ ((T.2.2.1 2 (v2 : Int32).toNatClampNeg) = (-1)) → N (v1 + 1) (v2 + 1)))))
def wp_sh_present_4 (T : St)  (Kk : Int32 → Int32 → Prop) (Q : Int32 → Prop) : Nat → Int32 → Int32 → Prop
  | 0, _, _ => False
  | f + 1, v1, v2 => bd_sh_present_4 T  Kk Q (wp_sh_present_4 T  Kk Q f) v1 v2
theorem mb_sh_present_4 (T : St)  {Kk Kk2 : Int32 → Int32 → Prop} {Q Q2 : Int32 → Prop} {N N2 : Int32 → Int32 → Prop} (hK : ∀ (v1 : Int32) (v2 : Int32), Kk v1 v2 → Kk2 v1 v2) (hQ : ∀ r, Q r → Q2 r) (hN : ∀ (v1 : Int32) (v2 : Int32), N v1 v2 → N2 v1 v2) (v1 : Int32) (v2 : Int32) (w : bd_sh_present_4 T  Kk Q N v1 v2) : bd_sh_present_4 T  Kk2 Q2 N2 v1 v2 := by
  unfold bd_sh_present_4 at w ⊢
  refine mo_if w (fun c7_1 w => ?_) (fun c7_1 w => ?_)
  · exact hK v1 v2 w
  · obtain ⟨q1, w⟩ := w
    refine ⟨q1, ?_⟩
    refine mo_if w (fun c17_2 w => ?_) (fun c17_2 w => ?_)
    · exact hN v1 (v2 + 1) w
    · exact hN (v1 + 1) (v2 + 1) w
theorem mo_sh_present_4 (T : St)  {Kk Kk2 : Int32 → Int32 → Prop} {Q Q2 : Int32 → Prop} (hK : ∀ (v1 : Int32) (v2 : Int32), Kk v1 v2 → Kk2 v1 v2) (hQ : ∀ r, Q r → Q2 r) : ∀ (f : Nat) (v1 : Int32) (v2 : Int32), wp_sh_present_4 T  Kk Q f v1 v2 → wp_sh_present_4 T  Kk2 Q2 f v1 v2 := by
  intro f
  induction f with
  | zero => intro v1 v2 w; exact w.elim
  | succ f ih => intro v1 v2 w; exact mb_sh_present_4 T  hK hQ ih v1 v2 w
theorem wr_sh_present_4 (T : St)  {Kk : Int32 → Int32 → Prop} {Q : Int32 → Prop} (I : Int32 → Int32 → Prop) (m : Int32 → Int32 → Nat) (hv : ∀ (v1 : Int32) (v2 : Int32), I v1 v2 → bd_sh_present_4 T  Kk Q (fun uv1 uv2 => I uv1 uv2 ∧ m uv1 uv2 < m v1 v2) v1 v2) : ∀ (f : Nat) (v1 : Int32) (v2 : Int32), m v1 v2 < f → I v1 v2 → wp_sh_present_4 T  Kk Q f v1 v2 := by
  intro f
  induction f with
  | zero => intro v1 v2 h; exact absurd h (Nat.not_lt_zero _)
  | succ f ih => intro v1 v2 h hi; exact mb_sh_present_4 T  (fun _ _ h => h) (fun _ h => h) (fun uv1 uv2 g => ih uv1 uv2 (by omega) g.1) v1 v2 (hv v1 v2 hi)
theorem so_sh_present_4 (T : St)  {K : Int32 → Int32 → Int32} {Kk Kk2 : Int32 → Int32 → Prop} {Q : Int32 → Prop} (hk : ∀ (v1 : Int32) (v2 : Int32), Kk v1 v2 → Kk2 v1 v2 ∧ Q (K v1 v2)) : ∀ (f : Nat) (v1 : Int32) (v2 : Int32), wp_sh_present_4 T  Kk Q f v1 v2 → ok_sh_present_4 T  Kk2 f v1 v2 ∧ Q (x_sh_present_4 T  K f v1 v2) := by
  intro f
  induction f with
  | zero => intro v1 v2 w; exact w.elim
  | succ f ih =>
    intro v1 v2 w
    rw [wp_sh_present_4, bd_sh_present_4] at w
    rw [ok_sh_present_4, x_sh_present_4]
    refine so_if2 (Q := Q) w (fun c7_1 w => ?_) (fun c7_1 w => ?_)
    · exact hk v1 v2 w
    · obtain ⟨q1, w⟩ := w
      refine so_rq q1 ?_
      refine so_if2 (Q := Q) w (fun c17_2 w => ?_) (fun c17_2 w => ?_)
      · exact ih v1 (v2 + 1) w
      · exact ih (v1 + 1) (v2 + 1) w
def wp_sh_present (T : St)  (Q : Int32 → Prop) : Prop := wp_sh_present_4 T  (fun w1_1 w1_2 => Q w1_1) Q 1000 0 0
theorem so_sh_present {T : St}  {Q : Int32 → Prop} (w : wp_sh_present T  Q) : ok_sh_present T  ∧ Q (x_sh_present T ) := by
  unfold wp_sh_present at w
  unfold ok_sh_present x_sh_present
  refine so_sh_present_4 T  (fun w1_1 w1_2  w => ?_) 1000 0 0 w
  refine ⟨trivial, ?_⟩
  exact w
def bd_ta_open_2 (l0 : Nat) (l1 : Nat) (Kk : Int32 → St → Prop) (Q : St → Prop) (N : Int32 → St → Prop) (v2 : Int32) (T : St) : Prop := (((5 ≤ v2) → Kk v2 T) ∧ (¬ (5 ≤ v2) → (sh l0 = .inr 9) ∧ (vp_in v2 5) ∧ jn (fun (T1 : St) => (ok_ki_fewerThan T1 l1 v2 1) ∧ (sh l1 = .inr 3) ∧ N (v2 + 1) (sL T1 (l0 + 4) (v2 : Int32).toNatClampNeg (x_ki_fewerThan T1 l1 v2 1))) (sL (sL (sL T (l0 + 1) (v2 : Int32).toNatClampNeg 0) (l0 + 2) (v2 : Int32).toNatClampNeg 0) (l0 + 3) (v2 : Int32).toNatClampNeg 0)))
def wp_ta_open_2 (l0 : Nat) (l1 : Nat) (Kk : Int32 → St → Prop) (Q : St → Prop) : Nat → Int32 → St → Prop
  | 0, _, _ => False
  | f + 1, v2, T => bd_ta_open_2 l0 l1 Kk Q (wp_ta_open_2 l0 l1 Kk Q f) v2 T
theorem mb_ta_open_2 (l0 : Nat) (l1 : Nat) {Kk Kk2 : Int32 → St → Prop} {Q Q2 : St → Prop} {N N2 : Int32 → St → Prop} (hK : ∀ (v2 : Int32) (T : St), Kk v2 T → Kk2 v2 T) (hQ : ∀ r, Q r → Q2 r) (hN : ∀ (v2 : Int32) (T : St), N v2 T → N2 v2 T) (v2 : Int32) (T : St) (w : bd_ta_open_2 l0 l1 Kk Q N v2 T) : bd_ta_open_2 l0 l1 Kk2 Q2 N2 v2 T := by
  unfold bd_ta_open_2 at w ⊢
  refine mo_if w (fun c4_1 w => ?_) (fun c4_1 w => ?_)
  · exact hK v2 T w
  · obtain ⟨q1, w⟩ := w
    refine ⟨q1, ?_⟩
    obtain ⟨q2, w⟩ := w
    refine ⟨q2, ?_⟩
    refine mo_n w (fun T1 w => ?_)
    obtain ⟨q3, w⟩ := w
    refine ⟨q3, ?_⟩
    obtain ⟨q4, w⟩ := w
    refine ⟨q4, ?_⟩
    exact hN (v2 + 1) (sL T1 (l0 + 4) (v2 : Int32).toNatClampNeg (x_ki_fewerThan T1 l1 v2 1)) w
theorem mo_ta_open_2 (l0 : Nat) (l1 : Nat) {Kk Kk2 : Int32 → St → Prop} {Q Q2 : St → Prop} (hK : ∀ (v2 : Int32) (T : St), Kk v2 T → Kk2 v2 T) (hQ : ∀ r, Q r → Q2 r) : ∀ (f : Nat) (v2 : Int32) (T : St), wp_ta_open_2 l0 l1 Kk Q f v2 T → wp_ta_open_2 l0 l1 Kk2 Q2 f v2 T := by
  intro f
  induction f with
  | zero => intro v2 T w; exact w.elim
  | succ f ih => intro v2 T w; exact mb_ta_open_2 l0 l1 hK hQ ih v2 T w
theorem wr_ta_open_2 (l0 : Nat) (l1 : Nat) {Kk : Int32 → St → Prop} {Q : St → Prop} (I : Int32 → St → Prop) (m : Int32 → St → Nat) (hv : ∀ (v2 : Int32) (T : St), I v2 T → bd_ta_open_2 l0 l1 Kk Q (fun uv2 uT => I uv2 uT ∧ m uv2 uT < m v2 T) v2 T) : ∀ (f : Nat) (v2 : Int32) (T : St), m v2 T < f → I v2 T → wp_ta_open_2 l0 l1 Kk Q f v2 T := by
  intro f
  induction f with
  | zero => intro v2 T h; exact absurd h (Nat.not_lt_zero _)
  | succ f ih => intro v2 T h hi; exact mb_ta_open_2 l0 l1 (fun _ _ h => h) (fun _ h => h) (fun uv2 uT g => ih uv2 uT (by omega) g.1) v2 T (hv v2 T hi)
theorem so_ta_open_2 (l0 : Nat) (l1 : Nat) {K : Int32 → St → St} {Kk Kk2 : Int32 → St → Prop} {Q : St → Prop} (hk : ∀ (v2 : Int32) (T : St), Kk v2 T → Kk2 v2 T ∧ Q (K v2 T)) : ∀ (f : Nat) (v2 : Int32) (T : St), wp_ta_open_2 l0 l1 Kk Q f v2 T → ok_ta_open_2 l0 l1 Kk2 f v2 T ∧ Q (x_ta_open_2 l0 l1 K f v2 T) := by
  intro f
  induction f with
  | zero => intro v2 T w; exact w.elim
  | succ f ih =>
    intro v2 T w
    rw [wp_ta_open_2, bd_ta_open_2] at w
    rw [ok_ta_open_2, x_ta_open_2]
    refine so_if2 (Q := Q) w (fun c4_1 w => ?_) (fun c4_1 w => ?_)
    · exact hk v2 T w
    · obtain ⟨q1, w⟩ := w
      refine so_rq q1 ?_
      obtain ⟨q2, w⟩ := w
      refine so_rq q2 ?_
      refine so_n (Q := Q) w (fun T1 w => ?_)
      obtain ⟨q3, w⟩ := w
      refine so_rq q3 ?_
      obtain ⟨q4, w⟩ := w
      refine so_rq q4 ?_
      exact ih (v2 + 1) (sL T1 (l0 + 4) (v2 : Int32).toNatClampNeg (x_ki_fewerThan T1 l1 v2 1)) w
def wp_ta_open (T : St) (a : Nat) (p0 : Nat) (Q : St → Prop) : Prop := wp_ta_open_2 a p0 (fun w1_2 T201 => Q T201) Q 1000 0 T
theorem so_ta_open {T : St} (a : Nat) (p0 : Nat) {Q : St → Prop} (w : wp_ta_open T a p0 Q) : ok_ta_open T a p0 ∧ Q (x_ta_open T a p0) := by
  unfold wp_ta_open at w
  unfold ok_ta_open x_ta_open
  refine so_ta_open_2 a p0 (fun w1_2 T201 w => ?_) 1000 0 T w
  refine ⟨trivial, ?_⟩
  exact w
