def wp_ta_hasRoom (T : St) (a : Nat) (p0 : Nat) (Q : Int32 → Prop) : Prop := (sh a = .inr 9) ∧ (sh p0 = .inl (1, 5)) ∧ ((((lg_cmp ((T.2.2.2 (a + 4) (0 : Int32).toNatClampNeg) &&& (T.2.2.2 p0 (0 : Int32).toNatClampNeg)) 0) = 0) → ((((lg_cmp ((T.2.2.2 (a + 4) (1 : Int32).toNatClampNeg) &&& (T.2.2.2 p0 (1 : Int32).toNatClampNeg)) 0) = 0) → ((((lg_cmp ((T.2.2.2 (a + 4) (2 : Int32).toNatClampNeg) &&& (T.2.2.2 p0 (2 : Int32).toNatClampNeg)) 0) = 0) → ((((lg_cmp ((T.2.2.2 (a + 4) (3 : Int32).toNatClampNeg) &&& (T.2.2.2 p0 (3 : Int32).toNatClampNeg)) 0) = 0) → ((((lg_cmp ((T.2.2.2 (a + 4) (4 : Int32).toNatClampNeg) &&& (T.2.2.2 p0 (4 : Int32).toNatClampNeg)) 0) = 0) → Q 1) ∧ (¬ ((lg_cmp ((T.2.2.2 (a + 4) (4 : Int32).toNatClampNeg) &&& (T.2.2.2 p0 (4 : Int32).toNatClampNeg)) 0) = 0) → Q 0))) ∧ (¬ ((lg_cmp ((T.2.2.2 (a + 4) (3 : Int32).toNatClampNeg) &&& (T.2.2.2 p0 (3 : Int32).toNatClampNeg)) 0) = 0) → Q 0))) ∧ (¬ ((lg_cmp ((T.2.2.2 (a + 4) (2 : Int32).toNatClampNeg) &&& (T.2.2.2 p0 (2 : Int32).toNatClampNeg)) 0) = 0) → Q 0))) ∧ (¬ ((lg_cmp ((T.2.2.2 (a + 4) (1 : Int32).toNatClampNeg) &&& (T.2.2.2 p0 (1 : Int32).toNatClampNeg)) 0) = 0) → Q 0))) ∧ (¬ ((lg_cmp ((T.2.2.2 (a + 4) (0 : Int32).toNatClampNeg) &&& (T.2.2.2 p0 (0 : Int32).toNatClampNeg)) 0) = 0) → Q 0))
theorem so_ta_hasRoom {T : St} (a : Nat) (p0 : Nat) {Q : Int32 → Prop} (w : wp_ta_hasRoom T a p0 Q) : ok_ta_hasRoom T a p0 ∧ Q (x_ta_hasRoom T a p0) := by
  unfold wp_ta_hasRoom at w
  unfold ok_ta_hasRoom x_ta_hasRoom
  obtain ⟨q1, w⟩ := w
  refine so_rq q1 ?_
  obtain ⟨q2, w⟩ := w
  refine so_rq q2 ?_
  refine ⟨trivial, ?_⟩
  refine so_if0 (Q := Q) w (fun c12_1 w => ?_) (fun c12_1 w => ?_)
  · refine so_if0 (Q := Q) w (fun c27_2 w => ?_) (fun c27_2 w => ?_)
    · refine so_if0 (Q := Q) w (fun c42_3 w => ?_) (fun c42_3 w => ?_)
      · refine so_if0 (Q := Q) w (fun c57_4 w => ?_) (fun c57_4 w => ?_)
        · refine so_if0 (Q := Q) w (fun c72_5 w => ?_) (fun c72_5 w => ?_)
          · exact w
          · exact w
        · exact w
      · exact w
    · exact w
  · exact w
def bd_ta_add_3 (l0 : Nat) (l1 : Nat) (l2 : Nat) (l3 : Nat) (Kk : Int32 → St → Prop) (Q : St → Prop) (N : Int32 → St → Prop) (v4 : Int32) (T : St) : Prop := (((5 ≤ v4) → Kk v4 T) ∧ (¬ (5 ≤ v4) → (sh l2 = .inl (1, 5)) ∧ (vp_in v4 5) ∧ jn (fun (k1 : Int64) => (sh l0 = .inr 9) ∧ (sh l1 = .inr 9) ∧ jn (fun (T2 : St) => jn (fun (T3 : St) => jn (fun (T4 : St) => (ok_ki_fewerThan T4 l3 v4 1) ∧ (sh l3 = .inr 3) ∧ (ok_ki_fewerThan T4 l3 v4 2) ∧ (ok_ki_fewerThan T4 l3 v4 3) ∧ (ok_ki_fewerThan T4 l3 v4 4) ∧ jn (fun (T5 : St) => N (v4 + 1) T5) (sL T4 (l0 + 4) (v4 : Int32).toNatClampNeg ((((x_ki_fewerThan T4 l3 v4 1) ||| ((x_ki_fewerThan T4 l3 v4 2) &&& (T4.2.2.2 (l0 + 1) (v4 : Int32).toNatClampNeg))) ||| ((x_ki_fewerThan T4 l3 v4 3) &&& (T4.2.2.2 (l0 + 2) (v4 : Int32).toNatClampNeg))) ||| ((x_ki_fewerThan T4 l3 v4 4) &&& (T4.2.2.2 (l0 + 3) (v4 : Int32).toNatClampNeg))))) (sL T3 (l0 + 1) (v4 : Int32).toNatClampNeg ((T3.2.2.2 (l1 + 1) (v4 : Int32).toNatClampNeg) ||| k1))) (sL T2 (l0 + 2) (v4 : Int32).toNatClampNeg ((T2.2.2.2 (l1 + 2) (v4 : Int32).toNatClampNeg) ||| ((T2.2.2.2 (l1 + 1) (v4 : Int32).toNatClampNeg) &&& k1)))) (sL T (l0 + 3) (v4 : Int32).toNatClampNeg ((T.2.2.2 (l1 + 3) (v4 : Int32).toNatClampNeg) ||| ((T.2.2.2 (l1 + 2) (v4 : Int32).toNatClampNeg) &&& k1)))) (T.2.2.2 l2 (v4 : Int32).toNatClampNeg)))
def wp_ta_add_3 (l0 : Nat) (l1 : Nat) (l2 : Nat) (l3 : Nat) (Kk : Int32 → St → Prop) (Q : St → Prop) : Nat → Int32 → St → Prop
  | 0, _, _ => False
  | f + 1, v4, T => bd_ta_add_3 l0 l1 l2 l3 Kk Q (wp_ta_add_3 l0 l1 l2 l3 Kk Q f) v4 T
theorem mb_ta_add_3 (l0 : Nat) (l1 : Nat) (l2 : Nat) (l3 : Nat) {Kk Kk2 : Int32 → St → Prop} {Q Q2 : St → Prop} {N N2 : Int32 → St → Prop} (hK : ∀ (v4 : Int32) (T : St), Kk v4 T → Kk2 v4 T) (hQ : ∀ r, Q r → Q2 r) (hN : ∀ (v4 : Int32) (T : St), N v4 T → N2 v4 T) (v4 : Int32) (T : St) (w : bd_ta_add_3 l0 l1 l2 l3 Kk Q N v4 T) : bd_ta_add_3 l0 l1 l2 l3 Kk2 Q2 N2 v4 T := by
  unfold bd_ta_add_3 at w ⊢
  refine mo_if w (fun c6_1 w => ?_) (fun c6_1 w => ?_)
  · exact hK v4 T w
  · obtain ⟨q1, w⟩ := w
    refine ⟨q1, ?_⟩
    obtain ⟨q2, w⟩ := w
    refine ⟨q2, ?_⟩
    refine mo_n w (fun k1 w => ?_)
    obtain ⟨q3, w⟩ := w
    refine ⟨q3, ?_⟩
    obtain ⟨q4, w⟩ := w
    refine ⟨q4, ?_⟩
    refine mo_n w (fun T2 w => ?_)
    refine mo_n w (fun T3 w => ?_)
    refine mo_n w (fun T4 w => ?_)
    obtain ⟨q5, w⟩ := w
    refine ⟨q5, ?_⟩
    obtain ⟨q6, w⟩ := w
    refine ⟨q6, ?_⟩
    obtain ⟨q7, w⟩ := w
    refine ⟨q7, ?_⟩
    obtain ⟨q8, w⟩ := w
    refine ⟨q8, ?_⟩
    obtain ⟨q9, w⟩ := w
    refine ⟨q9, ?_⟩
    refine mo_n w (fun T5 w => ?_)
    exact hN (v4 + 1) T5 w
theorem mo_ta_add_3 (l0 : Nat) (l1 : Nat) (l2 : Nat) (l3 : Nat) {Kk Kk2 : Int32 → St → Prop} {Q Q2 : St → Prop} (hK : ∀ (v4 : Int32) (T : St), Kk v4 T → Kk2 v4 T) (hQ : ∀ r, Q r → Q2 r) : ∀ (f : Nat) (v4 : Int32) (T : St), wp_ta_add_3 l0 l1 l2 l3 Kk Q f v4 T → wp_ta_add_3 l0 l1 l2 l3 Kk2 Q2 f v4 T := by
  intro f
  induction f with
  | zero => intro v4 T w; exact w.elim
  | succ f ih => intro v4 T w; exact mb_ta_add_3 l0 l1 l2 l3 hK hQ ih v4 T w
theorem wr_ta_add_3 (l0 : Nat) (l1 : Nat) (l2 : Nat) (l3 : Nat) {Kk : Int32 → St → Prop} {Q : St → Prop} (I : Int32 → St → Prop) (m : Int32 → St → Nat) (hv : ∀ (v4 : Int32) (T : St), I v4 T → bd_ta_add_3 l0 l1 l2 l3 Kk Q (fun uv4 uT => I uv4 uT ∧ m uv4 uT < m v4 T) v4 T) : ∀ (f : Nat) (v4 : Int32) (T : St), m v4 T < f → I v4 T → wp_ta_add_3 l0 l1 l2 l3 Kk Q f v4 T := by
  intro f
  induction f with
  | zero => intro v4 T h; exact absurd h (Nat.not_lt_zero _)
  | succ f ih => intro v4 T h hi; exact mb_ta_add_3 l0 l1 l2 l3 (fun _ _ h => h) (fun _ h => h) (fun uv4 uT g => ih uv4 uT (by omega) g.1) v4 T (hv v4 T hi)
theorem so_ta_add_3 (l0 : Nat) (l1 : Nat) (l2 : Nat) (l3 : Nat) {K : Int32 → St → St} {Kk Kk2 : Int32 → St → Prop} {Q : St → Prop} (hk : ∀ (v4 : Int32) (T : St), Kk v4 T → Kk2 v4 T ∧ Q (K v4 T)) : ∀ (f : Nat) (v4 : Int32) (T : St), wp_ta_add_3 l0 l1 l2 l3 Kk Q f v4 T → ok_ta_add_3 l0 l1 l2 l3 Kk2 f v4 T ∧ Q (x_ta_add_3 l0 l1 l2 l3 K f v4 T) := by
  intro f
  induction f with
  | zero => intro v4 T w; exact w.elim
  | succ f ih =>
    intro v4 T w
    rw [wp_ta_add_3, bd_ta_add_3] at w
    rw [ok_ta_add_3, x_ta_add_3]
    refine so_if2 (Q := Q) w (fun c6_1 w => ?_) (fun c6_1 w => ?_)
    · exact hk v4 T w
    · obtain ⟨q1, w⟩ := w
      refine so_rq q1 ?_
      obtain ⟨q2, w⟩ := w
      refine so_rq q2 ?_
      refine so_n (Q := Q) w (fun k1 w => ?_)
      obtain ⟨q3, w⟩ := w
      refine so_rq q3 ?_
      obtain ⟨q4, w⟩ := w
      refine so_rq q4 ?_
      refine so_n (Q := Q) w (fun T2 w => ?_)
      refine so_n (Q := Q) w (fun T3 w => ?_)
      refine so_n (Q := Q) w (fun T4 w => ?_)
      obtain ⟨q5, w⟩ := w
      refine so_rq q5 ?_
      obtain ⟨q6, w⟩ := w
      refine so_rq q6 ?_
      obtain ⟨q7, w⟩ := w
      refine so_rq q7 ?_
      obtain ⟨q8, w⟩ := w
      refine so_rq q8 ?_
      obtain ⟨q9, w⟩ := w
      refine so_rq q9 ?_
      refine so_n (Q := Q) w (fun T5 w => ?_)
      exact ih (v4 + 1) T5 w
def wp_ta_add (T : St) (a : Nat) (p0 : Nat) (p1 : Nat) (p2 : Nat) (Q : St → Prop) : Prop := wp_ta_add_3 a p0 p1 p2 (fun w1_4 T201 => Q T201) Q 1000 0 T
theorem so_ta_add {T : St} (a : Nat) (p0 : Nat) (p1 : Nat) (p2 : Nat) {Q : St → Prop} (w : wp_ta_add T a p0 p1 p2 Q) : ok_ta_add T a p0 p1 p2 ∧ Q (x_ta_add T a p0 p1 p2) := by
  unfold wp_ta_add at w
  unfold ok_ta_add x_ta_add
  refine so_ta_add_3 a p0 p1 p2 (fun w1_4 T201 w => ?_) 1000 0 T w
  refine ⟨trivial, ?_⟩
  exact w
def bd_wa_isWarmed_12 (T : St) (l0 : Nat) (l1 : Nat) (l2 : Int32) (Kk : Int32 → Prop) (Q : Int32 → Prop) (N : Int32 → Prop) (v3 : Int32) : Prop := (sh l1 = .inr 1) ∧ (sh l0 = .inr 10) ∧ (vp_in (T.1 l0 3) 8) ∧ ((((T.2.2.1 (l1 + 7) (T.1 l0 3 : Int32).toNatClampNeg) ≤ v3) → Kk v3) ∧ (¬ ((T.2.2.1 (l1 + 7) (T.1 l0 3 : Int32).toNatClampNeg) ≤ v3) → (vp_in (l2 + v3) 24) ∧ ((((T.2.2.1 (l1 + 9) (l2 + v3 : Int32).toNatClampNeg) = 1) → (vp_in v3 3) ∧ (ok_bk_warmsBy T l1 (l2 + v3) (T.2.2.1 (l0 + 1) (v3 : Int32).toNatClampNeg)) ∧ ((((x_bk_warmsBy T l1 (l2 + v3) (T.2.2.1 (l0 + 1) (v3 : Int32).toNatClampNeg)) = 0) → Q 0) ∧ (¬ ((x_bk_warmsBy T l1 (l2 + v3) (T.2.2.1 (l0 + 1) (v3 : Int32).toNatClampNeg)) = 0) → N (v3 + 1)))) ∧ (¬ ((T.2.2.1 (l1 + 9) (l2 + v3 : Int32).toNatClampNeg) = 1) → N (v3 + 1)))))
def wp_wa_isWarmed_12 (T : St) (l0 : Nat) (l1 : Nat) (l2 : Int32) (Kk : Int32 → Prop) (Q : Int32 → Prop) : Nat → Int32 → Prop
  | 0, _ => False
  | f + 1, v3 => bd_wa_isWarmed_12 T l0 l1 l2 Kk Q (wp_wa_isWarmed_12 T l0 l1 l2 Kk Q f) v3
theorem mb_wa_isWarmed_12 (T : St) (l0 : Nat) (l1 : Nat) (l2 : Int32) {Kk Kk2 : Int32 → Prop} {Q Q2 : Int32 → Prop} {N N2 : Int32 → Prop} (hK : ∀ (v3 : Int32), Kk v3 → Kk2 v3) (hQ : ∀ r, Q r → Q2 r) (hN : ∀ (v3 : Int32), N v3 → N2 v3) (v3 : Int32) (w : bd_wa_isWarmed_12 T l0 l1 l2 Kk Q N v3) : bd_wa_isWarmed_12 T l0 l1 l2 Kk2 Q2 N2 v3 := by
  unfold bd_wa_isWarmed_12 at w ⊢
  obtain ⟨q4, w⟩ := w
  refine ⟨q4, ?_⟩
  obtain ⟨q5, w⟩ := w
  refine ⟨q5, ?_⟩
  obtain ⟨q6, w⟩ := w
  refine ⟨q6, ?_⟩
  refine mo_if w (fun c22_1 w => ?_) (fun c22_1 w => ?_)
  · exact hK v3 w
  · obtain ⟨q7, w⟩ := w
    refine ⟨q7, ?_⟩
    refine mo_if w (fun c34_2 w => ?_) (fun c34_2 w => ?_)
    · obtain ⟨q8, w⟩ := w
      refine ⟨q8, ?_⟩
      obtain ⟨q9, w⟩ := w
      refine ⟨q9, ?_⟩
      refine mo_if w (fun c50_3 w => ?_) (fun c50_3 w => ?_)
      · exact hQ _ w
      · exact hN (v3 + 1) w
    · exact hN (v3 + 1) w
theorem mo_wa_isWarmed_12 (T : St) (l0 : Nat) (l1 : Nat) (l2 : Int32) {Kk Kk2 : Int32 → Prop} {Q Q2 : Int32 → Prop} (hK : ∀ (v3 : Int32), Kk v3 → Kk2 v3) (hQ : ∀ r, Q r → Q2 r) : ∀ (f : Nat) (v3 : Int32), wp_wa_isWarmed_12 T l0 l1 l2 Kk Q f v3 → wp_wa_isWarmed_12 T l0 l1 l2 Kk2 Q2 f v3 := by
  intro f
  induction f with
  | zero => intro v3 w; exact w.elim
  | succ f ih => intro v3 w; exact mb_wa_isWarmed_12 T l0 l1 l2 hK hQ ih v3 w
theorem wr_wa_isWarmed_12 (T : St) (l0 : Nat) (l1 : Nat) (l2 : Int32) {Kk : Int32 → Prop} {Q : Int32 → Prop} (I : Int32 → Prop) (m : Int32 → Nat) (hv : ∀ (v3 : Int32), I v3 → bd_wa_isWarmed_12 T l0 l1 l2 Kk Q (fun uv3 => I uv3 ∧ m uv3 < m v3) v3) : ∀ (f : Nat) (v3 : Int32), m v3 < f → I v3 → wp_wa_isWarmed_12 T l0 l1 l2 Kk Q f v3 := by
  intro f
  induction f with
  | zero => intro v3 h; exact absurd h (Nat.not_lt_zero _)
  | succ f ih => intro v3 h hi; exact mb_wa_isWarmed_12 T l0 l1 l2 (fun _ h => h) (fun _ h => h) (fun uv3 g => ih uv3 (by omega) g.1) v3 (hv v3 hi)
theorem so_wa_isWarmed_12 (T : St) (l0 : Nat) (l1 : Nat) (l2 : Int32) {K : Int32 → Int32} {Kk Kk2 : Int32 → Prop} {Q : Int32 → Prop} (hk : ∀ (v3 : Int32), Kk v3 → Kk2 v3 ∧ Q (K v3)) : ∀ (f : Nat) (v3 : Int32), wp_wa_isWarmed_12 T l0 l1 l2 Kk Q f v3 → ok_wa_isWarmed_12 T l0 l1 l2 Kk2 f v3 ∧ Q (x_wa_isWarmed_12 T l0 l1 l2 K f v3) := by
  intro f
  induction f with
  | zero => intro v3 w; exact w.elim
  | succ f ih =>
    intro v3 w
    rw [wp_wa_isWarmed_12, bd_wa_isWarmed_12] at w
    rw [ok_wa_isWarmed_12, x_wa_isWarmed_12]
    obtain ⟨q4, w⟩ := w
    refine so_rq q4 ?_
    obtain ⟨q5, w⟩ := w
    refine so_rq q5 ?_
    obtain ⟨q6, w⟩ := w
    refine so_rq q6 ?_
    refine so_if2 (Q := Q) w (fun c22_1 w => ?_) (fun c22_1 w => ?_)
    · exact hk v3 w
    · obtain ⟨q7, w⟩ := w
      refine so_rq q7 ?_
      refine so_if2 (Q := Q) w (fun c34_2 w => ?_) (fun c34_2 w => ?_)
      · obtain ⟨q8, w⟩ := w
        refine so_rq q8 ?_
        obtain ⟨q9, w⟩ := w
        refine so_rq q9 ?_
        refine so_ifF (Q := Q) w (fun c50_3 w => ?_) (fun c50_3 w => ?_)
        · exact w
        · exact ih (v3 + 1) w
      · exact ih (v3 + 1) w
def wp_wa_isWarmed (T : St) (a : Nat) (p0 : Nat) (Q : Int32 → Prop) : Prop := (sh p0 = .inr 1) ∧ (sh a = .inr 10) ∧ (vp_in (T.1 a 3) 8) ∧ jn (fun (i1 : Int32) => wp_wa_isWarmed_12 T a p0 i1 (fun w1_3 => Q 1) Q 1000 0) (T.2.2.1 (p0 + 8) (T.1 a 3 : Int32).toNatClampNeg)
theorem so_wa_isWarmed {T : St} (a : Nat) (p0 : Nat) {Q : Int32 → Prop} (w : wp_wa_isWarmed T a p0 Q) : ok_wa_isWarmed T a p0 ∧ Q (x_wa_isWarmed T a p0) := by
  unfold wp_wa_isWarmed at w
  unfold ok_wa_isWarmed x_wa_isWarmed
  obtain ⟨q1, w⟩ := w
  refine so_rq q1 ?_
  obtain ⟨q2, w⟩ := w
  refine so_rq q2 ?_
  obtain ⟨q3, w⟩ := w
  refine so_rq q3 ?_
  refine so_n (Q := Q) w (fun i1 w => ?_)
  refine so_wa_isWarmed_12 T a p0 i1 (fun w1_3  w => ?_) 1000 0 w
  refine ⟨trivial, ?_⟩
  exact w
def bd_wa_agrees_57 (T : St) (l0 : Nat) (l1 : Nat) (l2 : Nat) (l3 : Int32) (l4 : Int32) (l5 : Int32) (Kk : Int32 → Prop) (Q : Int32 → Prop) (N : Int32 → Prop) (v6 : Int32) : Prop := (sh l1 = .inr 1) ∧ (sh l2 = .inr 10) ∧ (vp_in (T.1 l2 3) 8) ∧ ((((T.2.2.1 (l1 + 7) (T.1 l2 3 : Int32).toNatClampNeg) ≤ v6) → Kk v6) ∧ (¬ ((T.2.2.1 (l1 + 7) (T.1 l2 3 : Int32).toNatClampNeg) ≤ v6) → (vp_in (l4 + v6) 24) ∧ jn (fun (KJ1 : Int32 → Prop) => ((((T.2.2.1 (l1 + 9) (l4 + v6 : Int32).toNatClampNeg) = 1) → KJ1 1) ∧ (¬ ((T.2.2.1 (l1 + 9) (l4 + v6 : Int32).toNatClampNeg) = 1) → KJ1 0))) (fun (j1_s0 : Int32) => (((j1_s0 = 0) → N (v6 + 1)) ∧ (¬ (j1_s0 = 0) → (sh l0 = .inr 10) ∧ (vp_in l5 3) ∧ (vp_in v6 3) ∧ (ok_bk_heatsAgree T l1 (l3 + l5) (T.2.2.1 (l0 + 1) (l5 : Int32).toNatClampNeg) (l4 + v6) (T.2.2.1 (l2 + 1) (v6 : Int32).toNatClampNeg)) ∧ ((((x_bk_heatsAgree T l1 (l3 + l5) (T.2.2.1 (l0 + 1) (l5 : Int32).toNatClampNeg) (l4 + v6) (T.2.2.1 (l2 + 1) (v6 : Int32).toNatClampNeg)) = 0) → Q 0) ∧ (¬ ((x_bk_heatsAgree T l1 (l3 + l5) (T.2.2.1 (l0 + 1) (l5 : Int32).toNatClampNeg) (l4 + v6) (T.2.2.1 (l2 + 1) (v6 : Int32).toNatClampNeg)) = 0) → N (v6 + 1))))))))
def wp_wa_agrees_57 (T : St) (l0 : Nat) (l1 : Nat) (l2 : Nat) (l3 : Int32) (l4 : Int32) (l5 : Int32) (Kk : Int32 → Prop) (Q : Int32 → Prop) : Nat → Int32 → Prop
  | 0, _ => False
  | f + 1, v6 => bd_wa_agrees_57 T l0 l1 l2 l3 l4 l5 Kk Q (wp_wa_agrees_57 T l0 l1 l2 l3 l4 l5 Kk Q f) v6
theorem mb_wa_agrees_57 (T : St) (l0 : Nat) (l1 : Nat) (l2 : Nat) (l3 : Int32) (l4 : Int32) (l5 : Int32) {Kk Kk2 : Int32 → Prop} {Q Q2 : Int32 → Prop} {N N2 : Int32 → Prop} (hK : ∀ (v6 : Int32), Kk v6 → Kk2 v6) (hQ : ∀ r, Q r → Q2 r) (hN : ∀ (v6 : Int32), N v6 → N2 v6) (v6 : Int32) (w : bd_wa_agrees_57 T l0 l1 l2 l3 l4 l5 Kk Q N v6) : bd_wa_agrees_57 T l0 l1 l2 l3 l4 l5 Kk2 Q2 N2 v6 := by
  unfold bd_wa_agrees_57 at w ⊢
  obtain ⟨q10, w⟩ := w
  refine ⟨q10, ?_⟩
  obtain ⟨q11, w⟩ := w
  refine ⟨q11, ?_⟩
  obtain ⟨q12, w⟩ := w
  refine ⟨q12, ?_⟩
  refine mo_if w (fun c68_3 w => ?_) (fun c68_3 w => ?_)
  · exact hK v6 w
  · obtain ⟨q13, w⟩ := w
    refine ⟨q13, ?_⟩
    refine mo_jn (J := fun (KJ1 : Int32 → Prop) (WKJ1 : Int32 → Prop) => ∀ (j1_s0 : Int32), KJ1 j1_s0 → WKJ1 j1_s0) w (fun j1_s0 w => ?_) (fun KJ1 WKJ1 hJ1 w => ?_)
    · skip
      refine mo_if w (fun c94_5 w => ?_) (fun c94_5 w => ?_)
      · exact hN (v6 + 1) w
      · obtain ⟨q14, w⟩ := w
        refine ⟨q14, ?_⟩
        obtain ⟨q15, w⟩ := w
        refine ⟨q15, ?_⟩
        obtain ⟨q16, w⟩ := w
        refine ⟨q16, ?_⟩
        obtain ⟨q17, w⟩ := w
        refine ⟨q17, ?_⟩
        refine mo_if w (fun c124_6 w => ?_) (fun c124_6 w => ?_)
        · exact hQ _ w
        · exact hN (v6 + 1) w
    · skip
      refine mo_if w (fun c82_7 w => ?_) (fun c82_7 w => ?_)
      · exact hJ1 1 w
      · exact hJ1 0 w
theorem mo_wa_agrees_57 (T : St) (l0 : Nat) (l1 : Nat) (l2 : Nat) (l3 : Int32) (l4 : Int32) (l5 : Int32) {Kk Kk2 : Int32 → Prop} {Q Q2 : Int32 → Prop} (hK : ∀ (v6 : Int32), Kk v6 → Kk2 v6) (hQ : ∀ r, Q r → Q2 r) : ∀ (f : Nat) (v6 : Int32), wp_wa_agrees_57 T l0 l1 l2 l3 l4 l5 Kk Q f v6 → wp_wa_agrees_57 T l0 l1 l2 l3 l4 l5 Kk2 Q2 f v6 := by
  intro f
  induction f with
  | zero => intro v6 w; exact w.elim
  | succ f ih => intro v6 w; exact mb_wa_agrees_57 T l0 l1 l2 l3 l4 l5 hK hQ ih v6 w
theorem wr_wa_agrees_57 (T : St) (l0 : Nat) (l1 : Nat) (l2 : Nat) (l3 : Int32) (l4 : Int32) (l5 : Int32) {Kk : Int32 → Prop} {Q : Int32 → Prop} (I : Int32 → Prop) (m : Int32 → Nat) (hv : ∀ (v6 : Int32), I v6 → bd_wa_agrees_57 T l0 l1 l2 l3 l4 l5 Kk Q (fun uv6 => I uv6 ∧ m uv6 < m v6) v6) : ∀ (f : Nat) (v6 : Int32), m v6 < f → I v6 → wp_wa_agrees_57 T l0 l1 l2 l3 l4 l5 Kk Q f v6 := by
  intro f
  induction f with
  | zero => intro v6 h; exact absurd h (Nat.not_lt_zero _)
  | succ f ih => intro v6 h hi; exact mb_wa_agrees_57 T l0 l1 l2 l3 l4 l5 (fun _ h => h) (fun _ h => h) (fun uv6 g => ih uv6 (by omega) g.1) v6 (hv v6 hi)
theorem so_wa_agrees_57 (T : St) (l0 : Nat) (l1 : Nat) (l2 : Nat) (l3 : Int32) (l4 : Int32) (l5 : Int32) {K : Int32 → Int32} {Kk Kk2 : Int32 → Prop} {Q : Int32 → Prop} (hk : ∀ (v6 : Int32), Kk v6 → Kk2 v6 ∧ Q (K v6)) : ∀ (f : Nat) (v6 : Int32), wp_wa_agrees_57 T l0 l1 l2 l3 l4 l5 Kk Q f v6 → ok_wa_agrees_57 T l0 l1 l2 l3 l4 l5 Kk2 f v6 ∧ Q (x_wa_agrees_57 T l0 l1 l2 l3 l4 l5 K f v6) := by
  intro f
  induction f with
  | zero => intro v6 w; exact w.elim
  | succ f ih =>
    intro v6 w
    rw [wp_wa_agrees_57, bd_wa_agrees_57] at w
    rw [ok_wa_agrees_57, x_wa_agrees_57]
    obtain ⟨q10, w⟩ := w
    refine so_rq q10 ?_
    obtain ⟨q11, w⟩ := w
    refine so_rq q11 ?_
    obtain ⟨q12, w⟩ := w
    refine so_rq q12 ?_
    refine so_if2 (Q := Q) w (fun c68_3 w => ?_) (fun c68_3 w => ?_)
    · exact hk v6 w
    · obtain ⟨q13, w⟩ := w
      refine so_rq q13 ?_
      refine so_jn (Q := Q) (J := fun (KJ1 : Int32 → Int32) (OJ1 : Int32 → Prop) (WKJ1 : Int32 → Prop) => ∀ (j1_s0 : Int32), WKJ1 j1_s0 → OJ1 j1_s0 ∧ Q (KJ1 j1_s0)) w (fun j1_s0 w => ?_) (fun KJ1 OJ1 WKJ1 hJ1 w => ?_)
      · skip
        refine so_if2 (Q := Q) w (fun c94_5 w => ?_) (fun c94_5 w => ?_)
        · exact ih (v6 + 1) w
        · obtain ⟨q14, w⟩ := w
          refine so_rq q14 ?_
          obtain ⟨q15, w⟩ := w
          refine so_rq q15 ?_
          obtain ⟨q16, w⟩ := w
          refine so_rq q16 ?_
          obtain ⟨q17, w⟩ := w
          refine so_rq q17 ?_
          refine so_ifF (Q := Q) w (fun c124_6 w => ?_) (fun c124_6 w => ?_)
          · exact w
          · exact ih (v6 + 1) w
      · skip
        refine so_if2 (Q := Q) w (fun c82_7 w => ?_) (fun c82_7 w => ?_)
        · exact hJ1 1 w
        · exact hJ1 0 w
def bd_wa_agrees_24 (T : St) (l0 : Nat) (l1 : Nat) (l2 : Nat) (l3 : Int32) (l4 : Int32) (Kk : Int32 → Prop) (Q : Int32 → Prop) (N : Int32 → Prop) (v5 : Int32) : Prop := (sh l1 = .inr 1) ∧ (sh l0 = .inr 10) ∧ (vp_in (T.1 l0 3) 8) ∧ ((((T.2.2.1 (l1 + 7) (T.1 l0 3 : Int32).toNatClampNeg) ≤ v5) → Kk v5) ∧ (¬ ((T.2.2.1 (l1 + 7) (T.1 l0 3 : Int32).toNatClampNeg) ≤ v5) → (vp_in (l3 + v5) 24) ∧ ((((T.2.2.1 (l1 + 9) (l3 + v5 : Int32).toNatClampNeg) = 1) → wp_wa_agrees_57 T l0 l1 l2 l3 l4 v5 (fun w1_6 => N (v5 + 1)) Q 1000 0) ∧ (¬ ((T.2.2.1 (l1 + 9) (l3 + v5 : Int32).toNatClampNeg) = 1) → N (v5 + 1)))))
def wp_wa_agrees_24 (T : St) (l0 : Nat) (l1 : Nat) (l2 : Nat) (l3 : Int32) (l4 : Int32) (Kk : Int32 → Prop) (Q : Int32 → Prop) : Nat → Int32 → Prop
  | 0, _ => False
  | f + 1, v5 => bd_wa_agrees_24 T l0 l1 l2 l3 l4 Kk Q (wp_wa_agrees_24 T l0 l1 l2 l3 l4 Kk Q f) v5
theorem mb_wa_agrees_24 (T : St) (l0 : Nat) (l1 : Nat) (l2 : Nat) (l3 : Int32) (l4 : Int32) {Kk Kk2 : Int32 → Prop} {Q Q2 : Int32 → Prop} {N N2 : Int32 → Prop} (hK : ∀ (v5 : Int32), Kk v5 → Kk2 v5) (hQ : ∀ r, Q r → Q2 r) (hN : ∀ (v5 : Int32), N v5 → N2 v5) (v5 : Int32) (w : bd_wa_agrees_24 T l0 l1 l2 l3 l4 Kk Q N v5) : bd_wa_agrees_24 T l0 l1 l2 l3 l4 Kk2 Q2 N2 v5 := by
  unfold bd_wa_agrees_24 at w ⊢
  obtain ⟨q6, w⟩ := w
  refine ⟨q6, ?_⟩
  obtain ⟨q7, w⟩ := w
  refine ⟨q7, ?_⟩
  obtain ⟨q8, w⟩ := w
  refine ⟨q8, ?_⟩
  refine mo_if w (fun c35_1 w => ?_) (fun c35_1 w => ?_)
  · exact hK v5 w
  · obtain ⟨q9, w⟩ := w
    refine ⟨q9, ?_⟩
    refine mo_if w (fun c48_2 w => ?_) (fun c48_2 w => ?_)
    · refine mo_wa_agrees_57 T l0 l1 l2 l3 l4 v5 (fun w1_6  w => ?_) hQ 1000 0 w
      exact hN (v5 + 1) w
    · exact hN (v5 + 1) w
theorem mo_wa_agrees_24 (T : St) (l0 : Nat) (l1 : Nat) (l2 : Nat) (l3 : Int32) (l4 : Int32) {Kk Kk2 : Int32 → Prop} {Q Q2 : Int32 → Prop} (hK : ∀ (v5 : Int32), Kk v5 → Kk2 v5) (hQ : ∀ r, Q r → Q2 r) : ∀ (f : Nat) (v5 : Int32), wp_wa_agrees_24 T l0 l1 l2 l3 l4 Kk Q f v5 → wp_wa_agrees_24 T l0 l1 l2 l3 l4 Kk2 Q2 f v5 := by
  intro f
  induction f with
  | zero => intro v5 w; exact w.elim
  | succ f ih => intro v5 w; exact mb_wa_agrees_24 T l0 l1 l2 l3 l4 hK hQ ih v5 w
theorem wr_wa_agrees_24 (T : St) (l0 : Nat) (l1 : Nat) (l2 : Nat) (l3 : Int32) (l4 : Int32) {Kk : Int32 → Prop} {Q : Int32 → Prop} (I : Int32 → Prop) (m : Int32 → Nat) (hv : ∀ (v5 : Int32), I v5 → bd_wa_agrees_24 T l0 l1 l2 l3 l4 Kk Q (fun uv5 => I uv5 ∧ m uv5 < m v5) v5) : ∀ (f : Nat) (v5 : Int32), m v5 < f → I v5 → wp_wa_agrees_24 T l0 l1 l2 l3 l4 Kk Q f v5 := by
  intro f
  induction f with
  | zero => intro v5 h; exact absurd h (Nat.not_lt_zero _)
  | succ f ih => intro v5 h hi; exact mb_wa_agrees_24 T l0 l1 l2 l3 l4 (fun _ h => h) (fun _ h => h) (fun uv5 g => ih uv5 (by omega) g.1) v5 (hv v5 hi)
theorem so_wa_agrees_24 (T : St) (l0 : Nat) (l1 : Nat) (l2 : Nat) (l3 : Int32) (l4 : Int32) {K : Int32 → Int32} {Kk Kk2 : Int32 → Prop} {Q : Int32 → Prop} (hk : ∀ (v5 : Int32), Kk v5 → Kk2 v5 ∧ Q (K v5)) : ∀ (f : Nat) (v5 : Int32), wp_wa_agrees_24 T l0 l1 l2 l3 l4 Kk Q f v5 → ok_wa_agrees_24 T l0 l1 l2 l3 l4 Kk2 f v5 ∧ Q (x_wa_agrees_24 T l0 l1 l2 l3 l4 K f v5) := by
  intro f
  induction f with
  | zero => intro v5 w; exact w.elim
  | succ f ih =>
    intro v5 w
    rw [wp_wa_agrees_24, bd_wa_agrees_24] at w
    rw [ok_wa_agrees_24, x_wa_agrees_24]
    obtain ⟨q6, w⟩ := w
    refine so_rq q6 ?_
    obtain ⟨q7, w⟩ := w
    refine so_rq q7 ?_
    obtain ⟨q8, w⟩ := w
    refine so_rq q8 ?_
    refine so_if2 (Q := Q) w (fun c35_1 w => ?_) (fun c35_1 w => ?_)
    · exact hk v5 w
    · obtain ⟨q9, w⟩ := w
      refine so_rq q9 ?_
      refine so_if2 (Q := Q) w (fun c48_2 w => ?_) (fun c48_2 w => ?_)
      · refine so_wa_agrees_57 T l0 l1 l2 l3 l4 v5 (fun w1_6  w => ?_) 1000 0 w
        exact ih (v5 + 1) w
      · exact ih (v5 + 1) w
def wp_wa_agrees (T : St) (a : Nat) (p0 : Nat) (p1 : Nat) (Q : Int32 → Prop) : Prop := (sh p0 = .inr 1) ∧ (sh a = .inr 10) ∧ (vp_in (T.1 a 3) 8) ∧ jn (fun (i1 : Int32) => (sh p1 = .inr 10) ∧ (vp_in (T.1 p1 3) 8) ∧ jn (fun (i2 : Int32) => wp_wa_agrees_24 T a p0 p1 i1 i2 (fun w2_5 => Q 1) Q 1000 0) (T.2.2.1 (p0 + 8) (T.1 p1 3 : Int32).toNatClampNeg)) (T.2.2.1 (p0 + 8) (T.1 a 3 : Int32).toNatClampNeg)
theorem so_wa_agrees {T : St} (a : Nat) (p0 : Nat) (p1 : Nat) {Q : Int32 → Prop} (w : wp_wa_agrees T a p0 p1 Q) : ok_wa_agrees T a p0 p1 ∧ Q (x_wa_agrees T a p0 p1) := by
  unfold wp_wa_agrees at w
  unfold ok_wa_agrees x_wa_agrees
  obtain ⟨q1, w⟩ := w
  refine so_rq q1 ?_
  obtain ⟨q2, w⟩ := w
  refine so_rq q2 ?_
  obtain ⟨q3, w⟩ := w
  refine so_rq q3 ?_
  refine so_n (Q := Q) w (fun i1 w => ?_)
  obtain ⟨q4, w⟩ := w
  refine so_rq q4 ?_
  obtain ⟨q5, w⟩ := w
  refine so_rq q5 ?_
  refine so_n (Q := Q) w (fun i2 w => ?_)
  refine so_wa_agrees_24 T a p0 p1 i1 i2 (fun w2_5  w => ?_) 1000 0 w
  refine ⟨trivial, ?_⟩
  exact w
def wp_x_feed (T : St) (p0 : Int64) (p1 : Int32) (Q : Int32 × St → Prop) : Prop := (((p1 < 1) → Q ((-1000001), T)) ∧ (¬ (p1 < 1) → (((p1 ≤ 8) → ((((x_rd_hasRoom T p1) = 0) → Q ((-1000003), T)) ∧ (¬ ((x_rd_hasRoom T p1) = 0) → (ok_rd_put T p0 p1) ∧ Q ((x_rd_put T p0 p1).1 13 1, x_rd_put T p0 p1)))) ∧ (¬ (p1 ≤ 8) → Q ((-1000001), T)))))
theorem so_x_feed {T : St} (p0 : Int64) (p1 : Int32) {Q : Int32 × St → Prop} (w : wp_x_feed T p0 p1 Q) : ok_x_feed T p0 p1 ∧ Q (x_x_feed T p0 p1) := by
  unfold wp_x_feed at w
  unfold ok_x_feed x_x_feed
  refine so_ifF (Q := Q) w (fun c2_1 w => ?_) (fun c2_1 w => ?_)
  · exact w
  · refine so_ifT (Q := Q) w (fun c8_2 w => ?_) (fun c8_2 w => ?_)
    · refine so_ifF (Q := Q) w (fun c22_3 w => ?_) (fun c22_3 w => ?_)
      · exact w
      · obtain ⟨q1, w⟩ := w
        refine so_rq q1 ?_
        refine ⟨trivial, ?_⟩
        exact w
    · exact w
def wp_x_fault (T : St)  (Q : Int32 → Prop) : Prop := Q (T.1 0 13)
theorem so_x_fault {T : St}  {Q : Int32 → Prop} (w : wp_x_fault T  Q) : Q (x_x_fault T ) := by
  unfold wp_x_fault at w
  unfold x_x_fault
  exact w
def wp_x_dish (T : St) (p0 : Int32) (p1 : Int32) (Q : Int32 → Prop) : Prop := (((p0 < 0) → Q (-1000001)) ∧ (¬ (p0 < 0) → (sh (T.2.1 0) = .inr 1) ∧ (((p0 < (T.1 (T.2.1 0) 4)) → (((p1 = 0) → (vp_in p0 8) ∧ Q (T.2.2.1 ((T.2.1 0) + 4) (p0 : Int32).toNatClampNeg)) ∧ (¬ (p1 = 0) → (((p1 = 1) → (vp_in p0 8) ∧ Q (T.2.2.1 ((T.2.1 0) + 5) (p0 : Int32).toNatClampNeg)) ∧ (¬ (p1 = 1) → (((p1 = 2) → (vp_in p0 8) ∧ Q (T.2.2.1 ((T.2.1 0) + 6) (p0 : Int32).toNatClampNeg)) ∧ (¬ (p1 = 2) → (((p1 = 3) → (vp_in p0 8) ∧ Q (T.2.2.1 ((T.2.1 0) + 7) (p0 : Int32).toNatClampNeg)) ∧ (¬ (p1 = 3) → (((p1 = 4) → (vp_in p0 8) ∧ Q (T.2.2.1 ((T.2.1 0) + 8) (p0 : Int32).toNatClampNeg)) ∧ (¬ (p1 = 4) → (((p1 = 5) → (vp_in p0 8) ∧ (ok_bk_waitBehind T (T.2.1 0) p0 0) ∧ (ok_bk_waitBehind T (T.2.1 0) p0 1) ∧ Q ((((T.2.2.1 ((T.2.1 0) + 4) (p0 : Int32).toNatClampNeg) + 1) * ((x_bk_waitBehind T (T.2.1 0) p0 0) + 1)) * ((x_bk_waitBehind T (T.2.1 0) p0 1) + 1))) ∧ (¬ (p1 = 5) → Q (-1000001)))))))))))))) ∧ (¬ (p0 < (T.1 (T.2.1 0) 4)) → Q (-1000001)))))
theorem so_x_dish {T : St} (p0 : Int32) (p1 : Int32) {Q : Int32 → Prop} (w : wp_x_dish T p0 p1 Q) : ok_x_dish T p0 p1 ∧ Q (x_x_dish T p0 p1) := by
  unfold wp_x_dish at w
  unfold ok_x_dish x_x_dish
  refine so_ifF (Q := Q) w (fun c1_1 w => ?_) (fun c1_1 w => ?_)
  · exact w
  · obtain ⟨q1, w⟩ := w
    refine so_rq q1 ?_
    refine so_ifT (Q := Q) w (fun c12_2 w => ?_) (fun c12_2 w => ?_)
    · refine so_if2 (Q := Q) w (fun s19_3_0 w => ?_) (fun s19_3_0 w => ?_)
      · obtain ⟨q2, w⟩ := w
        refine so_rq q2 ?_
        refine ⟨trivial, ?_⟩
        exact w
      · refine so_if2 (Q := Q) w (fun s19_3_1 w => ?_) (fun s19_3_1 w => ?_)
        · obtain ⟨q3, w⟩ := w
          refine so_rq q3 ?_
          refine ⟨trivial, ?_⟩
          exact w
        · refine so_if2 (Q := Q) w (fun s19_3_2 w => ?_) (fun s19_3_2 w => ?_)
          · obtain ⟨q4, w⟩ := w
            refine so_rq q4 ?_
            refine ⟨trivial, ?_⟩
            exact w
          · refine so_if2 (Q := Q) w (fun s19_3_3 w => ?_) (fun s19_3_3 w => ?_)
            · obtain ⟨q5, w⟩ := w
              refine so_rq q5 ?_
              refine ⟨trivial, ?_⟩
              exact w
            · refine so_if2 (Q := Q) w (fun s19_3_4 w => ?_) (fun s19_3_4 w => ?_)
              · obtain ⟨q6, w⟩ := w
                refine so_rq q6 ?_
                refine ⟨trivial, ?_⟩
                exact w
              · refine so_ifT (Q := Q) w (fun s19_3_5 w => ?_) (fun s19_3_5 w => ?_)
                · obtain ⟨q7, w⟩ := w
                  refine so_rq q7 ?_
                  obtain ⟨q8, w⟩ := w
                  refine so_rq q8 ?_
                  obtain ⟨q9, w⟩ := w
                  refine so_rq q9 ?_
                  refine ⟨trivial, ?_⟩
                  exact w
                · exact w
    · exact w
def wp_x_step (T : St) (p0 : Int32) (p1 : Int32) (Q : Int32 → Prop) : Prop := (ok_bk_hasStep T (T.2.1 0) p0) ∧ (sh (T.2.1 0) = .inr 1) ∧ ((((x_bk_hasStep T (T.2.1 0) p0) = 0) → Q (-1000001)) ∧ (¬ ((x_bk_hasStep T (T.2.1 0) p0) = 0) → (((p1 = 0) → (vp_in p0 24) ∧ Q (T.2.2.1 ((T.2.1 0) + 10) (p0 : Int32).toNatClampNeg)) ∧ (¬ (p1 = 0) → (((p1 = 1) → (vp_in p0 24) ∧ Q (T.2.2.1 ((T.2.1 0) + 11) (p0 : Int32).toNatClampNeg)) ∧ (¬ (p1 = 1) → (((p1 = 2) → (vp_in p0 24) ∧ Q (T.2.2.1 ((T.2.1 0) + 12) (p0 : Int32).toNatClampNeg)) ∧ (¬ (p1 = 2) → (((p1 = 3) → (vp_in p0 24) ∧ Q (T.2.2.1 ((T.2.1 0) + 13) (p0 : Int32).toNatClampNeg)) ∧ (¬ (p1 = 3) → (((p1 = 4) → (vp_in p0 24) ∧ Q (T.2.2.1 ((T.2.1 0) + 14) (p0 : Int32).toNatClampNeg)) ∧ (¬ (p1 = 4) → Q (-1000001)))))))))))))
theorem so_x_step {T : St} (p0 : Int32) (p1 : Int32) {Q : Int32 → Prop} (w : wp_x_step T p0 p1 Q) : ok_x_step T p0 p1 ∧ Q (x_x_step T p0 p1) := by
  unfold wp_x_step at w
  unfold ok_x_step x_x_step
  obtain ⟨q1, w⟩ := w
  refine so_rq q1 ?_
  obtain ⟨q2, w⟩ := w
  refine so_rq q2 ?_
  refine so_ifF (Q := Q) w (fun c8_1 w => ?_) (fun c8_1 w => ?_)
  · exact w
  · refine so_if2 (Q := Q) w (fun s15_2_0 w => ?_) (fun s15_2_0 w => ?_)
    · obtain ⟨q3, w⟩ := w
      refine so_rq q3 ?_
      refine ⟨trivial, ?_⟩
      exact w
    · refine so_if2 (Q := Q) w (fun s15_2_1 w => ?_) (fun s15_2_1 w => ?_)
      · obtain ⟨q4, w⟩ := w
        refine so_rq q4 ?_
        refine ⟨trivial, ?_⟩
        exact w
      · refine so_if2 (Q := Q) w (fun s15_2_2 w => ?_) (fun s15_2_2 w => ?_)
        · obtain ⟨q5, w⟩ := w
          refine so_rq q5 ?_
          refine ⟨trivial, ?_⟩
          exact w
        · refine so_if2 (Q := Q) w (fun s15_2_3 w => ?_) (fun s15_2_3 w => ?_)
          · obtain ⟨q6, w⟩ := w
            refine so_rq q6 ?_
            refine ⟨trivial, ?_⟩
            exact w
          · refine so_ifT (Q := Q) w (fun s15_2_4 w => ?_) (fun s15_2_4 w => ?_)
            · obtain ⟨q7, w⟩ := w
              refine so_rq q7 ?_
              refine ⟨trivial, ?_⟩
              exact w
            · exact w
def wp_x_kind (T : St) (p0 : Int32) (Q : Int32 → Prop) : Prop := (ok_bk_hasStep T (T.2.1 0) p0) ∧ (sh (T.2.1 0) = .inr 1) ∧ ((((x_bk_hasStep T (T.2.1 0) p0) = 0) → Q (-1000001)) ∧ (¬ ((x_bk_hasStep T (T.2.1 0) p0) = 0) → (ok_bk_kindOf T (T.2.1 0) p0) ∧ Q (x_bk_kindOf T (T.2.1 0) p0)))
theorem so_x_kind {T : St} (p0 : Int32) {Q : Int32 → Prop} (w : wp_x_kind T p0 Q) : ok_x_kind T p0 ∧ Q (x_x_kind T p0) := by
  unfold wp_x_kind at w
  unfold ok_x_kind x_x_kind
  obtain ⟨q1, w⟩ := w
  refine so_rq q1 ?_
  obtain ⟨q2, w⟩ := w
  refine so_rq q2 ?_
  refine so_ifF (Q := Q) w (fun c8_1 w => ?_) (fun c8_1 w => ?_)
  · exact w
  · obtain ⟨q3, w⟩ := w
    refine so_rq q3 ?_
    refine ⟨trivial, ?_⟩
    exact w
def wp_x_trace (T : St) (p0 : Int32) (Q : Int32 → Prop) : Prop := (((p0 < 0) → Q (-1000000)) ∧ (¬ (p0 < 0) → ((((T.1 555 1) ≤ p0) → Q (-1000000)) ∧ (¬ ((T.1 555 1) ≤ p0) → (vp_in p0 16) ∧ Q (T.2.2.1 556 (p0 : Int32).toNatClampNeg)))))
theorem so_x_trace {T : St} (p0 : Int32) {Q : Int32 → Prop} (w : wp_x_trace T p0 Q) : ok_x_trace T p0 ∧ Q (x_x_trace T p0) := by
  unfold wp_x_trace at w
  unfold ok_x_trace x_x_trace
  refine so_ifF (Q := Q) w (fun c1_1 w => ?_) (fun c1_1 w => ?_)
  · exact w
  · refine so_ifF (Q := Q) w (fun c12_2 w => ?_) (fun c12_2 w => ?_)
    · exact w
    · obtain ⟨q1, w⟩ := w
      refine so_rq q1 ?_
      refine ⟨trivial, ?_⟩
      exact w
def wp_x_status (T : St)  (Q : Int32 → Prop) : Prop := Q (T.1 0 12)
theorem so_x_status {T : St}  {Q : Int32 → Prop} (w : wp_x_status T  Q) : Q (x_x_status T ) := by
  unfold wp_x_status at w
  unfold x_x_status
  exact w
def wp_x_found (T : St) (p0 : Int32) (Q : Int32 × St → Prop) : Prop := Q ((-1000010) - p0, sF T 0 12 p0)
theorem so_x_found {T : St} (p0 : Int32) {Q : Int32 × St → Prop} (w : wp_x_found T p0 Q) : Q (x_x_found T p0) := by
  unfold wp_x_found at w
  unfold x_x_found
  exact w
def wp_x_fine (T : St) (p0 : Int32) (Q : Int32 × St → Prop) : Prop := Q (p0, sF T 0 12 0)
theorem so_x_fine {T : St} (p0 : Int32) {Q : Int32 × St → Prop} (w : wp_x_fine T p0 Q) : Q (x_x_fine T p0) := by
  unfold wp_x_fine at w
  unfold x_x_fine
  exact w
def wp_x_refusal (T : St) (p0 : Int32) (Q : Int32 → Prop) : Prop := (((p0 = 0) → Q (-1000001)) ∧ (¬ (p0 = 0) → (ok_bk_isRead T (T.2.1 0)) ∧ (sh (T.2.1 0) = .inr 1) ∧ ((((x_bk_isRead T (T.2.1 0)) = 0) → Q (-1000002)) ∧ (¬ ((x_bk_isRead T (T.2.1 0)) = 0) → Q 0))))
theorem so_x_refusal {T : St} (p0 : Int32) {Q : Int32 → Prop} (w : wp_x_refusal T p0 Q) : ok_x_refusal T p0 ∧ Q (x_x_refusal T p0) := by
  unfold wp_x_refusal at w
  unfold ok_x_refusal x_x_refusal
  refine so_ifF (Q := Q) w (fun c1_1 w => ?_) (fun c1_1 w => ?_)
  · exact w
  · obtain ⟨q1, w⟩ := w
    refine so_rq q1 ?_
    obtain ⟨q2, w⟩ := w
    refine so_rq q2 ?_
    refine ⟨trivial, ?_⟩
    refine so_if0 (Q := Q) w (fun c14_2 w => ?_) (fun c14_2 w => ?_)
    · exact w
    · exact w
def wp_x_isTime (T : St) (p0 : Int32) (Q : Int32 → Prop) : Prop := (((p0 < 1) → Q 0) ∧ (¬ (p0 < 1) → (((60 < p0) → Q 0) ∧ (¬ (60 < p0) → Q 1))))
theorem so_x_isTime {T : St} (p0 : Int32) {Q : Int32 → Prop} (w : wp_x_isTime T p0 Q) : Q (x_x_isTime T p0) := by
  unfold wp_x_isTime at w
  unfold x_x_isTime
  refine so_if0 (Q := Q) w (fun c2_1 w => ?_) (fun c2_1 w => ?_)
  · exact w
  · refine so_if0 (Q := Q) w (fun c8_2 w => ?_) (fun c8_2 w => ?_)
    · exact w
    · exact w
def wp_x_isMinute (T : St) (p0 : Int32) (Q : Int32 → Prop) : Prop := (((p0 < 0) → Q 0) ∧ (¬ (p0 < 0) → (((60 ≤ p0) → Q 0) ∧ (¬ (60 ≤ p0) → Q 1))))
theorem so_x_isMinute {T : St} (p0 : Int32) {Q : Int32 → Prop} (w : wp_x_isMinute T p0 Q) : Q (x_x_isMinute T p0) := by
  unfold wp_x_isMinute at w
  unfold x_x_isMinute
  refine so_if0 (Q := Q) w (fun c1_1 w => ?_) (fun c1_1 w => ?_)
  · exact w
  · refine so_if0 (Q := Q) w (fun c7_2 w => ?_) (fun c7_2 w => ?_)
    · exact w
    · exact w
def wp_x_span (T : St) (p0 : Int32) (p1 : Int32) (Q : Int64 → Prop) : Prop := (((p0 < 0) → Q 0) ∧ (¬ (p0 < 0) → (((p1 ≤ 0) → Q 0) ∧ (¬ (p1 ≤ 0) → ((((p0 + p1) ≤ 60) → Q (((1 <<< ((p1 : Int32).toInt64 &&& 63)) - 1) <<< ((p0 : Int32).toInt64 &&& 63))) ∧ (¬ ((p0 + p1) ≤ 60) → Q 0))))))
theorem so_x_span {T : St} (p0 : Int32) (p1 : Int32) {Q : Int64 → Prop} (w : wp_x_span T p0 p1 Q) : Q (x_x_span T p0 p1) := by
  unfold wp_x_span at w
  unfold x_x_span
  refine so_if0 (Q := Q) w (fun c1_1 w => ?_) (fun c1_1 w => ?_)
  · exact w
  · refine so_if0 (Q := Q) w (fun c5_2 w => ?_) (fun c5_2 w => ?_)
    · exact w
    · refine so_if0 (Q := Q) w (fun c13_3 w => ?_) (fun c13_3 w => ?_)
      · exact w
      · exact w
def wp_m_in (T : St) (p0 : Int64) (p1 : Int64) (p2 : Int64) (Q : Int32 → Prop) : Prop := ((((lg_cmp p0 p1) < 0) → Q 0) ∧ (¬ ((lg_cmp p0 p1) < 0) → (((0 < (lg_cmp p0 p2)) → Q 0) ∧ (¬ (0 < (lg_cmp p0 p2)) → Q 1))))
theorem so_m_in {T : St} (p0 : Int64) (p1 : Int64) (p2 : Int64) {Q : Int32 → Prop} (w : wp_m_in T p0 p1 p2 Q) : Q (x_m_in T p0 p1 p2) := by
  unfold wp_m_in at w
  unfold x_m_in
  refine so_if0 (Q := Q) w (fun c3_1 w => ?_) (fun c3_1 w => ?_)
  · exact w
  · refine so_if0 (Q := Q) w (fun c10_2 w => ?_) (fun c10_2 w => ?_)
    · exact w
    · exact w
def wp_m_finding (T : St) (p0 : Int32) (Q : Int32 × St → Prop) : Prop := Q ((-1000010) - p0, sF T 571 1 p0)
theorem so_m_finding {T : St} (p0 : Int32) {Q : Int32 × St → Prop} (w : wp_m_finding T p0 Q) : Q (x_m_finding T p0) := by
  unfold wp_m_finding at w
  unfold x_m_finding
  exact w
def wp_m_isSheet (T : St) (p0 : Int32) (Q : Int32 → Prop) : Prop := Q (x_m_in T ((p0 : Int32).toInt64) 0 7)
theorem so_m_isSheet {T : St} (p0 : Int32) {Q : Int32 → Prop} (w : wp_m_isSheet T p0 Q) : Q (x_m_isSheet T p0) := by
  unfold wp_m_isSheet at w
  unfold x_m_isSheet
  exact w
def bd_m_sheet_65 (l1 : Int32) (l2 : Int32) (l3 : Int32) (Kk : Int32 → St → Prop) (Q : Int32 × St → Prop) (N : Int32 → St → Prop) (v4 : Int32) (T : St) : Prop := (((40 ≤ v4) → Kk v4 T) ∧ (¬ (40 ≤ v4) → (vp_in ((40 * l1) + v4) 320) ∧ N (v4 + 1) (sA T 574 ((40 * l1) + v4 : Int32).toNatClampNeg 0)))
def wp_m_sheet_65 (l1 : Int32) (l2 : Int32) (l3 : Int32) (Kk : Int32 → St → Prop) (Q : Int32 × St → Prop) : Nat → Int32 → St → Prop
  | 0, _, _ => False
  | f + 1, v4, T => bd_m_sheet_65 l1 l2 l3 Kk Q (wp_m_sheet_65 l1 l2 l3 Kk Q f) v4 T
theorem mb_m_sheet_65 (l1 : Int32) (l2 : Int32) (l3 : Int32) {Kk Kk2 : Int32 → St → Prop} {Q Q2 : Int32 × St → Prop} {N N2 : Int32 → St → Prop} (hK : ∀ (v4 : Int32) (T : St), Kk v4 T → Kk2 v4 T) (hQ : ∀ r, Q r → Q2 r) (hN : ∀ (v4 : Int32) (T : St), N v4 T → N2 v4 T) (v4 : Int32) (T : St) (w : bd_m_sheet_65 l1 l2 l3 Kk Q N v4 T) : bd_m_sheet_65 l1 l2 l3 Kk2 Q2 N2 v4 T := by
  unfold bd_m_sheet_65 at w ⊢
  refine mo_if w (fun c69_5 w => ?_) (fun c69_5 w => ?_)
  · exact hK v4 T w
  · obtain ⟨q2, w⟩ := w
    refine ⟨q2, ?_⟩
    exact hN (v4 + 1) (sA T 574 ((40 * l1) + v4 : Int32).toNatClampNeg 0) w
theorem mo_m_sheet_65 (l1 : Int32) (l2 : Int32) (l3 : Int32) {Kk Kk2 : Int32 → St → Prop} {Q Q2 : Int32 × St → Prop} (hK : ∀ (v4 : Int32) (T : St), Kk v4 T → Kk2 v4 T) (hQ : ∀ r, Q r → Q2 r) : ∀ (f : Nat) (v4 : Int32) (T : St), wp_m_sheet_65 l1 l2 l3 Kk Q f v4 T → wp_m_sheet_65 l1 l2 l3 Kk2 Q2 f v4 T := by
  intro f
  induction f with
  | zero => intro v4 T w; exact w.elim
  | succ f ih => intro v4 T w; exact mb_m_sheet_65 l1 l2 l3 hK hQ ih v4 T w
theorem wr_m_sheet_65 (l1 : Int32) (l2 : Int32) (l3 : Int32) {Kk : Int32 → St → Prop} {Q : Int32 × St → Prop} (I : Int32 → St → Prop) (m : Int32 → St → Nat) (hv : ∀ (v4 : Int32) (T : St), I v4 T → bd_m_sheet_65 l1 l2 l3 Kk Q (fun uv4 uT => I uv4 uT ∧ m uv4 uT < m v4 T) v4 T) : ∀ (f : Nat) (v4 : Int32) (T : St), m v4 T < f → I v4 T → wp_m_sheet_65 l1 l2 l3 Kk Q f v4 T := by
  intro f
  induction f with
  | zero => intro v4 T h; exact absurd h (Nat.not_lt_zero _)
  | succ f ih => intro v4 T h hi; exact mb_m_sheet_65 l1 l2 l3 (fun _ _ h => h) (fun _ h => h) (fun uv4 uT g => ih uv4 uT (by omega) g.1) v4 T (hv v4 T hi)
theorem so_m_sheet_65 (l1 : Int32) (l2 : Int32) (l3 : Int32) {K : Int32 → St → Int32 × St} {Kk Kk2 : Int32 → St → Prop} {Q : Int32 × St → Prop} (hk : ∀ (v4 : Int32) (T : St), Kk v4 T → Kk2 v4 T ∧ Q (K v4 T)) : ∀ (f : Nat) (v4 : Int32) (T : St), wp_m_sheet_65 l1 l2 l3 Kk Q f v4 T → ok_m_sheet_65 l1 l2 l3 Kk2 f v4 T ∧ Q (x_m_sheet_65 l1 l2 l3 K f v4 T) := by
  intro f
  induction f with
  | zero => intro v4 T w; exact w.elim
  | succ f ih =>
    intro v4 T w
    rw [wp_m_sheet_65, bd_m_sheet_65] at w
    rw [ok_m_sheet_65, x_m_sheet_65]
    refine so_if2 (Q := Q) w (fun c69_5 w => ?_) (fun c69_5 w => ?_)
    · exact hk v4 T w
    · obtain ⟨q2, w⟩ := w
      refine so_rq q2 ?_
      exact ih (v4 + 1) (sA T 574 ((40 * l1) + v4 : Int32).toNatClampNeg 0) w
def wp_m_sheet (T : St) (p0 : Int32) (p1 : Int32) (p2 : Int32) (Q : Int32 × St → Prop) : Prop := ((((x_m_isSheet (sF T 571 0 0) p0) = 0) → Q ((-1000001), sF T 571 0 0)) ∧ (¬ ((x_m_isSheet (sF T 571 0 0) p0) = 0) → ((((x_m_in (sF T 571 0 0) ((p1 : Int32).toInt64) 0 2) = 0) → Q ((-1000001), sF T 571 0 0)) ∧ (¬ ((x_m_in (sF T 571 0 0) ((p1 : Int32).toInt64) 0 2) = 0) → (((p2 ≤ 40) → (((0 ≤ p2) → (vp_in p0 8) ∧ jn (fun (T1 : St) => wp_m_sheet_65 p0 p1 p2 (fun w1_4 T201 => Q (p2, T201)) Q 1000 0 T1) (sA (sA (sF (sF T 571 0 0) 571 1 0) 572 (p0 : Int32).toNatClampNeg p1) 573 (p0 : Int32).toNatClampNeg p2)) ∧ (¬ (0 ≤ p2) → Q ((x_m_finding (sF (sF T 571 0 0) 571 1 0) 4).1, (x_m_finding (sF (sF T 571 0 0) 571 1 0) 4).2)))) ∧ (¬ (p2 ≤ 40) → Q ((-1000001), sF T 571 0 0)))))))
theorem so_m_sheet {T : St} (p0 : Int32) (p1 : Int32) (p2 : Int32) {Q : Int32 × St → Prop} (w : wp_m_sheet T p0 p1 p2 Q) : ok_m_sheet T p0 p1 p2 ∧ Q (x_m_sheet T p0 p1 p2) := by
  unfold wp_m_sheet at w
  unfold ok_m_sheet x_m_sheet
  refine so_ifF (Q := Q) w (fun c9_1 w => ?_) (fun c9_1 w => ?_)
  · exact w
  · refine so_ifF (Q := Q) w (fun c21_2 w => ?_) (fun c21_2 w => ?_)
    · exact w
    · refine so_ifT (Q := Q) w (fun c27_3 w => ?_) (fun c27_3 w => ?_)
      · refine so_ifT (Q := Q) w (fun c39_4 w => ?_) (fun c39_4 w => ?_)
        · obtain ⟨q1, w⟩ := w
          refine so_rq q1 ?_
          refine so_n (Q := Q) w (fun T1 w => ?_)
          refine so_m_sheet_65 p0 p1 p2 (fun w1_4 T201 w => ?_) 1000 0 T1 w
          refine ⟨trivial, ?_⟩
          exact w
        · exact w
      · exact w
def wp_m_set (T : St) (p0 : Int32) (p1 : Int32) (p2 : Int32) (Q : Int32 × St → Prop) : Prop := ((((x_m_isSheet (sF T 571 0 0) p0) = 0) → Q ((-1000001), sF T 571 0 0)) ∧ (¬ ((x_m_isSheet (sF T 571 0 0) p0) = 0) → (vp_in p0 8) ∧ (((0 ≤ ((sF (sF T 571 0 0) 571 1 0).2.2.1 572 (p0 : Int32).toNatClampNeg)) → ((((x_m_in (sF (sF T 571 0 0) 571 1 0) ((p1 : Int32).toInt64) 0 ((((sF (sF T 571 0 0) 571 1 0).2.2.1 573 (p0 : Int32).toNatClampNeg) - 1 : Int32).toInt64)) = 0) → Q ((x_m_finding (sF (sF T 571 0 0) 571 1 0) 2).1, (x_m_finding (sF (sF T 571 0 0) 571 1 0) 2).2)) ∧ (¬ ((x_m_in (sF (sF T 571 0 0) 571 1 0) ((p1 : Int32).toInt64) 0 ((((sF (sF T 571 0 0) 571 1 0).2.2.1 573 (p0 : Int32).toNatClampNeg) - 1 : Int32).toInt64)) = 0) → jn (fun (KJ1 : Int32 → Prop) => (((((sF (sF T 571 0 0) 571 1 0).2.2.1 572 (p0 : Int32).toNatClampNeg) = 0) → KJ1 ((p2 : Int32).toInt8.toInt32)) ∧ (¬ (((sF (sF T 571 0 0) 571 1 0).2.2.1 572 (p0 : Int32).toNatClampNeg) = 0) → (((((sF (sF T 571 0 0) 571 1 0).2.2.1 572 (p0 : Int32).toNatClampNeg) = 1) → KJ1 ((p2 : Int32).toInt16.toInt32)) ∧ (¬ (((sF (sF T 571 0 0) 571 1 0).2.2.1 572 (p0 : Int32).toNatClampNeg) = 1) → KJ1 p2))))) (fun (j1_s2 : Int32) => (vp_in ((40 * p0) + p1) 320) ∧ Q ((sA (sF (sF T 571 0 0) 571 1 0) 574 ((40 * p0) + p1 : Int32).toNatClampNeg j1_s2).2.2.1 574 ((40 * p0) + p1 : Int32).toNatClampNeg, sA (sF (sF T 571 0 0) 571 1 0) 574 ((40 * p0) + p1 : Int32).toNatClampNeg j1_s2))))) ∧ (¬ (0 ≤ ((sF (sF T 571 0 0) 571 1 0).2.2.1 572 (p0 : Int32).toNatClampNeg)) → Q ((x_m_finding (sF (sF T 571 0 0) 571 1 0) 1).1, (x_m_finding (sF (sF T 571 0 0) 571 1 0) 1).2)))))
theorem so_m_set {T : St} (p0 : Int32) (p1 : Int32) (p2 : Int32) {Q : Int32 × St → Prop} (w : wp_m_set T p0 p1 p2 Q) : ok_m_set T p0 p1 p2 ∧ Q (x_m_set T p0 p1 p2) := by
  unfold wp_m_set at w
  unfold ok_m_set x_m_set
  refine so_ifF (Q := Q) w (fun c9_1 w => ?_) (fun c9_1 w => ?_)
  · exact w
  · obtain ⟨q1, w⟩ := w
    refine so_rq q1 ?_
    refine so_ifT (Q := Q) w (fun c26_2 w => ?_) (fun c26_2 w => ?_)
    · refine so_ifF (Q := Q) w (fun c50_3 w => ?_) (fun c50_3 w => ?_)
      · exact w
      · refine so_jn (Q := Q) (J := fun (KJ1 : Int32 → Int32 × St) (OJ1 : Int32 → Prop) (WKJ1 : Int32 → Prop) => ∀ (j1_s2 : Int32), WKJ1 j1_s2 → OJ1 j1_s2 ∧ Q (KJ1 j1_s2)) w (fun j1_s2 w => ?_) (fun KJ1 OJ1 WKJ1 hJ1 w => ?_)
        · skip
          obtain ⟨q2, w⟩ := w
          refine so_rq q2 ?_
          refine ⟨trivial, ?_⟩
          exact w
        · skip
          refine so_if2 (Q := Q) w (fun c75_6 w => ?_) (fun c75_6 w => ?_)
          · exact hJ1 ((p2 : Int32).toInt8.toInt32) w
          · refine so_if2 (Q := Q) w (fun c90_7 w => ?_) (fun c90_7 w => ?_)
            · exact hJ1 ((p2 : Int32).toInt16.toInt32) w
            · exact hJ1 p2 w
    · exact w
def bd_m_copy_143 (l1 : Int32) (l2 : Int32) (l3 : Int32) (l4 : Int32) (l5 : Int32) (l6 : Int32) (Kk : Int32 → St → Prop) (Q : Int32 × St → Prop) (N : Int32 → St → Prop) (v7 : Int32) (T : St) : Prop := (((l5 ≤ v7) → Kk v7 T) ∧ (¬ (l5 ≤ v7) → jn (fun (KJ2 : Int32 → Prop) => (((l6 = 0) → KJ2 ((l5 - 1) - v7)) ∧ (¬ (l6 = 0) → KJ2 v7))) (fun (j2_s0 : Int32) => (vp_in (((40 * l1) + l2) + j2_s0) 320) ∧ (vp_in (((40 * l3) + l4) + j2_s0) 320) ∧ jn (fun (T1 : St) => N (v7 + 1) T1) (sA T 574 (((40 * l3) + l4) + j2_s0 : Int32).toNatClampNeg (T.2.2.1 574 (((40 * l1) + l2) + j2_s0 : Int32).toNatClampNeg)))))
def wp_m_copy_143 (l1 : Int32) (l2 : Int32) (l3 : Int32) (l4 : Int32) (l5 : Int32) (l6 : Int32) (Kk : Int32 → St → Prop) (Q : Int32 × St → Prop) : Nat → Int32 → St → Prop
  | 0, _, _ => False
  | f + 1, v7, T => bd_m_copy_143 l1 l2 l3 l4 l5 l6 Kk Q (wp_m_copy_143 l1 l2 l3 l4 l5 l6 Kk Q f) v7 T
theorem mb_m_copy_143 (l1 : Int32) (l2 : Int32) (l3 : Int32) (l4 : Int32) (l5 : Int32) (l6 : Int32) {Kk Kk2 : Int32 → St → Prop} {Q Q2 : Int32 × St → Prop} {N N2 : Int32 → St → Prop} (hK : ∀ (v7 : Int32) (T : St), Kk v7 T → Kk2 v7 T) (hQ : ∀ r, Q r → Q2 r) (hN : ∀ (v7 : Int32) (T : St), N v7 T → N2 v7 T) (v7 : Int32) (T : St) (w : bd_m_copy_143 l1 l2 l3 l4 l5 l6 Kk Q N v7 T) : bd_m_copy_143 l1 l2 l3 l4 l5 l6 Kk2 Q2 N2 v7 T := by
  unfold bd_m_copy_143 at w ⊢
  refine mo_if w (fun c147_12 w => ?_) (fun c147_12 w => ?_)
  · exact hK v7 T w
  · refine mo_jn (J := fun (KJ2 : Int32 → Prop) (WKJ2 : Int32 → Prop) => ∀ (j2_s0 : Int32), KJ2 j2_s0 → WKJ2 j2_s0) w (fun j2_s0 w => ?_) (fun KJ2 WKJ2 hJ2 w => ?_)
    · skip
      obtain ⟨q3, w⟩ := w
      refine ⟨q3, ?_⟩
      obtain ⟨q4, w⟩ := w
      refine ⟨q4, ?_⟩
      refine mo_n w (fun T1 w => ?_)
      exact hN (v7 + 1) T1 w
    · skip
      refine mo_if w (fun c152_14 w => ?_) (fun c152_14 w => ?_)
      · exact hJ2 ((l5 - 1) - v7) w
      · exact hJ2 v7 w
theorem mo_m_copy_143 (l1 : Int32) (l2 : Int32) (l3 : Int32) (l4 : Int32) (l5 : Int32) (l6 : Int32) {Kk Kk2 : Int32 → St → Prop} {Q Q2 : Int32 × St → Prop} (hK : ∀ (v7 : Int32) (T : St), Kk v7 T → Kk2 v7 T) (hQ : ∀ r, Q r → Q2 r) : ∀ (f : Nat) (v7 : Int32) (T : St), wp_m_copy_143 l1 l2 l3 l4 l5 l6 Kk Q f v7 T → wp_m_copy_143 l1 l2 l3 l4 l5 l6 Kk2 Q2 f v7 T := by
  intro f
  induction f with
  | zero => intro v7 T w; exact w.elim
  | succ f ih => intro v7 T w; exact mb_m_copy_143 l1 l2 l3 l4 l5 l6 hK hQ ih v7 T w
theorem wr_m_copy_143 (l1 : Int32) (l2 : Int32) (l3 : Int32) (l4 : Int32) (l5 : Int32) (l6 : Int32) {Kk : Int32 → St → Prop} {Q : Int32 × St → Prop} (I : Int32 → St → Prop) (m : Int32 → St → Nat) (hv : ∀ (v7 : Int32) (T : St), I v7 T → bd_m_copy_143 l1 l2 l3 l4 l5 l6 Kk Q (fun uv7 uT => I uv7 uT ∧ m uv7 uT < m v7 T) v7 T) : ∀ (f : Nat) (v7 : Int32) (T : St), m v7 T < f → I v7 T → wp_m_copy_143 l1 l2 l3 l4 l5 l6 Kk Q f v7 T := by
  intro f
  induction f with
  | zero => intro v7 T h; exact absurd h (Nat.not_lt_zero _)
  | succ f ih => intro v7 T h hi; exact mb_m_copy_143 l1 l2 l3 l4 l5 l6 (fun _ _ h => h) (fun _ h => h) (fun uv7 uT g => ih uv7 uT (by omega) g.1) v7 T (hv v7 T hi)
theorem so_m_copy_143 (l1 : Int32) (l2 : Int32) (l3 : Int32) (l4 : Int32) (l5 : Int32) (l6 : Int32) {K : Int32 → St → Int32 × St} {Kk Kk2 : Int32 → St → Prop} {Q : Int32 × St → Prop} (hk : ∀ (v7 : Int32) (T : St), Kk v7 T → Kk2 v7 T ∧ Q (K v7 T)) : ∀ (f : Nat) (v7 : Int32) (T : St), wp_m_copy_143 l1 l2 l3 l4 l5 l6 Kk Q f v7 T → ok_m_copy_143 l1 l2 l3 l4 l5 l6 Kk2 f v7 T ∧ Q (x_m_copy_143 l1 l2 l3 l4 l5 l6 K f v7 T) := by
  intro f
  induction f with
  | zero => intro v7 T w; exact w.elim
  | succ f ih =>
    intro v7 T w
    rw [wp_m_copy_143, bd_m_copy_143] at w
    rw [ok_m_copy_143, x_m_copy_143]
    refine so_if2 (Q := Q) w (fun c147_12 w => ?_) (fun c147_12 w => ?_)
    · exact hk v7 T w
    · refine so_jn (Q := Q) (J := fun (KJ2 : Int32 → Int32 × St) (OJ2 : Int32 → Prop) (WKJ2 : Int32 → Prop) => ∀ (j2_s0 : Int32), WKJ2 j2_s0 → OJ2 j2_s0 ∧ Q (KJ2 j2_s0)) w (fun j2_s0 w => ?_) (fun KJ2 OJ2 WKJ2 hJ2 w => ?_)
      · skip
        obtain ⟨q3, w⟩ := w
        refine so_rq q3 ?_
        obtain ⟨q4, w⟩ := w
        refine so_rq q4 ?_
        refine so_n (Q := Q) w (fun T1 w => ?_)
        exact ih (v7 + 1) T1 w
      · skip
        refine so_if2 (Q := Q) w (fun c152_14 w => ?_) (fun c152_14 w => ?_)
        · exact hJ2 ((l5 - 1) - v7) w
        · exact hJ2 v7 w
def wp_m_copy (T : St) (p0 : Int32) (p1 : Int32) (p2 : Int32) (p3 : Int32) (p4 : Int32) (Q : Int32 × St → Prop) : Prop := ((((x_m_isSheet (sF T 571 0 0) p0) = 0) → Q ((-1000001), sF T 571 0 0)) ∧ (¬ ((x_m_isSheet (sF T 571 0 0) p0) = 0) → ((((x_m_isSheet (sF T 571 0 0) p2) = 0) → Q ((-1000001), sF T 571 0 0)) ∧ (¬ ((x_m_isSheet (sF T 571 0 0) p2) = 0) → (vp_in p0 8) ∧ (((((sF (sF T 571 0 0) 571 1 0).2.2.1 572 (p0 : Int32).toNatClampNeg) < 0) → Q ((x_m_finding (sF (sF T 571 0 0) 571 1 0) 1).1, (x_m_finding (sF (sF T 571 0 0) 571 1 0) 1).2)) ∧ (¬ (((sF (sF T 571 0 0) 571 1 0).2.2.1 572 (p0 : Int32).toNatClampNeg) < 0) → (vp_in p2 8) ∧ (((0 ≤ ((sF (sF T 571 0 0) 571 1 0).2.2.1 572 (p2 : Int32).toNatClampNeg)) → (((((sF (sF T 571 0 0) 571 1 0).2.2.1 572 (p0 : Int32).toNatClampNeg) = ((sF (sF T 571 0 0) 571 1 0).2.2.1 572 (p2 : Int32).toNatClampNeg)) → (((p1 < 0) → Q ((x_m_finding (sF (sF T 571 0 0) 571 1 0) 2).1, (x_m_finding (sF (sF T 571 0 0) 571 1 0) 2).2)) ∧ (¬ (p1 < 0) → (((p3 < 0) → Q ((x_m_finding (sF (sF T 571 0 0) 571 1 0) 2).1, (x_m_finding (sF (sF T 571 0 0) 571 1 0) 2).2)) ∧ (¬ (p3 < 0) → (((p4 < 0) → Q ((x_m_finding (sF (sF T 571 0 0) 571 1 0) 2).1, (x_m_finding (sF (sF T 571 0 0) 571 1 0) 2).2)) ∧ (¬ (p4 < 0) → (((0 < (lg_cmp (((p1 : Int32).toInt64) + ((p4 : Int32).toInt64)) (((sF (sF T 571 0 0) 571 1 0).2.2.1 573 (p0 : Int32).toNatClampNeg : Int32).toInt64))) → Q ((x_m_finding (sF (sF T 571 0 0) 571 1 0) 2).1, (x_m_finding (sF (sF T 571 0 0) 571 1 0) 2).2)) ∧ (¬ (0 < (lg_cmp (((p1 : Int32).toInt64) + ((p4 : Int32).toInt64)) (((sF (sF T 571 0 0) 571 1 0).2.2.1 573 (p0 : Int32).toNatClampNeg : Int32).toInt64))) → ((((lg_cmp (((p3 : Int32).toInt64) + ((p4 : Int32).toInt64)) (((sF (sF T 571 0 0) 571 1 0).2.2.1 573 (p2 : Int32).toNatClampNeg : Int32).toInt64)) ≤ 0) → jn (fun (KJ1 : Int32 → Prop) => (((p1 < p3) → KJ1 0) ∧ (¬ (p1 < p3) → KJ1 1))) (fun (j1_s0 : Int32) => wp_m_copy_143 p0 p1 p2 p3 p4 j1_s0 (fun w1_7 T201 => Q (p4, T201)) Q 1000 0 (sF (sF T 571 0 0) 571 1 0))) ∧ (¬ ((lg_cmp (((p3 : Int32).toInt64) + ((p4 : Int32).toInt64)) (((sF (sF T 571 0 0) 571 1 0).2.2.1 573 (p2 : Int32).toNatClampNeg : Int32).toInt64)) ≤ 0) → Q ((x_m_finding (sF (sF T 571 0 0) 571 1 0) 2).1, (x_m_finding (sF (sF T 571 0 0) 571 1 0) 2).2)))))))))))) ∧ (¬ (((sF (sF T 571 0 0) 571 1 0).2.2.1 572 (p0 : Int32).toNatClampNeg) = ((sF (sF T 571 0 0) 571 1 0).2.2.1 572 (p2 : Int32).toNatClampNeg)) → Q ((x_m_finding (sF (sF T 571 0 0) 571 1 0) 5).1, (x_m_finding (sF (sF T 571 0 0) 571 1 0) 5).2)))) ∧ (¬ (0 ≤ ((sF (sF T 571 0 0) 571 1 0).2.2.1 572 (p2 : Int32).toNatClampNeg)) → Q ((x_m_finding (sF (sF T 571 0 0) 571 1 0) 1).1, (x_m_finding (sF (sF T 571 0 0) 571 1 0) 1).2)))))))))
theorem so_m_copy {T : St} (p0 : Int32) (p1 : Int32) (p2 : Int32) (p3 : Int32) (p4 : Int32) {Q : Int32 × St → Prop} (w : wp_m_copy T p0 p1 p2 p3 p4 Q) : ok_m_copy T p0 p1 p2 p3 p4 ∧ Q (x_m_copy T p0 p1 p2 p3 p4) := by
  unfold wp_m_copy at w
  unfold ok_m_copy x_m_copy
  refine so_ifF (Q := Q) w (fun c9_1 w => ?_) (fun c9_1 w => ?_)
  · exact w
  · refine so_ifF (Q := Q) w (fun c16_2 w => ?_) (fun c16_2 w => ?_)
    · exact w
    · obtain ⟨q1, w⟩ := w
      refine so_rq q1 ?_
      refine so_ifF (Q := Q) w (fun c33_3 w => ?_) (fun c33_3 w => ?_)
      · exact w
      · obtain ⟨q2, w⟩ := w
        refine so_rq q2 ?_
        refine so_ifT (Q := Q) w (fun c42_4 w => ?_) (fun c42_4 w => ?_)
        · refine so_ifT (Q := Q) w (fun c63_5 w => ?_) (fun c63_5 w => ?_)
          · refine so_ifF (Q := Q) w (fun c73_6 w => ?_) (fun c73_6 w => ?_)
            · exact w
            · refine so_ifF (Q := Q) w (fun c78_7 w => ?_) (fun c78_7 w => ?_)
              · exact w
              · refine so_ifF (Q := Q) w (fun c83_8 w => ?_) (fun c83_8 w => ?_)
                · exact w
                · refine so_ifF (Q := Q) w (fun c100_9 w => ?_) (fun c100_9 w => ?_)
                  · exact w
                  · refine so_ifT (Q := Q) w (fun c118_10 w => ?_) (fun c118_10 w => ?_)
                    · refine so_jn (Q := Q) (J := fun (KJ1 : Int32 → Int32 × St) (OJ1 : Int32 → Prop) (WKJ1 : Int32 → Prop) => ∀ (j1_s0 : Int32), WKJ1 j1_s0 → OJ1 j1_s0 ∧ Q (KJ1 j1_s0)) w (fun j1_s0 w => ?_) (fun KJ1 OJ1 WKJ1 hJ1 w => ?_)
                      · skip
                        refine so_m_copy_143 p0 p1 p2 p3 p4 j1_s0 (fun w1_7 T201 w => ?_) 1000 0 (sF (sF T 571 0 0) 571 1 0) w
                        refine ⟨trivial, ?_⟩
                        exact w
                      · skip
                        refine so_if2 (Q := Q) w (fun c130_15 w => ?_) (fun c130_15 w => ?_)
                        · exact hJ1 0 w
                        · exact hJ1 1 w
                    · exact w
          · exact w
        · exact w
def wp_m_drop (T : St) (p0 : Int32) (Q : Int32 × St → Prop) : Prop := ((((x_m_isSheet (sF T 571 0 0) p0) = 0) → Q ((-1000001), sF T 571 0 0)) ∧ (¬ ((x_m_isSheet (sF T 571 0 0) p0) = 0) → (vp_in p0 8) ∧ (((0 ≤ ((sF (sF T 571 0 0) 571 1 0).2.2.1 572 (p0 : Int32).toNatClampNeg)) → Q ((sA (sF (sF T 571 0 0) 571 1 0) 572 (p0 : Int32).toNatClampNeg (-1)).2.2.1 573 (p0 : Int32).toNatClampNeg, sA (sF (sF T 571 0 0) 571 1 0) 572 (p0 : Int32).toNatClampNeg (-1))) ∧ (¬ (0 ≤ ((sF (sF T 571 0 0) 571 1 0).2.2.1 572 (p0 : Int32).toNatClampNeg)) → Q ((x_m_finding (sF (sF T 571 0 0) 571 1 0) 1).1, (x_m_finding (sF (sF T 571 0 0) 571 1 0) 1).2)))))
theorem so_m_drop {T : St} (p0 : Int32) {Q : Int32 × St → Prop} (w : wp_m_drop T p0 Q) : ok_m_drop T p0 ∧ Q (x_m_drop T p0) := by
  unfold wp_m_drop at w
  unfold ok_m_drop x_m_drop
  refine so_ifF (Q := Q) w (fun c9_1 w => ?_) (fun c9_1 w => ?_)
  · exact w
  · obtain ⟨q1, w⟩ := w
    refine so_rq q1 ?_
    refine ⟨trivial, ?_⟩
    refine so_if0 (Q := Q) w (fun c26_2 w => ?_) (fun c26_2 w => ?_)
    · exact w
    · exact w
def bd_m_feed_40 (l1 : Int64) (l3 : Int32) (Kk : Int32 → St → Prop) (Q : Int32 × St → Prop) (N : Int32 → St → Prop) (v4 : Int32) (T : St) : Prop := (((v4 < 0) → Kk v4 T) ∧ (¬ (v4 < 0) → (vp_in (T.1 571 9) 600) ∧ jn (fun (T1 : St) => N (v4 + (-1)) (sF T1 571 9 ((T1.1 571 9) + 1))) (sA T 577 (T.1 571 9 : Int32).toNatClampNeg (((l1 >>> (((8 * v4) : Int32).toInt64 &&& 63)) &&& 255 : Int64).toInt32))))
def wp_m_feed_40 (l1 : Int64) (l3 : Int32) (Kk : Int32 → St → Prop) (Q : Int32 × St → Prop) : Nat → Int32 → St → Prop
  | 0, _, _ => False
  | f + 1, v4, T => bd_m_feed_40 l1 l3 Kk Q (wp_m_feed_40 l1 l3 Kk Q f) v4 T
theorem mb_m_feed_40 (l1 : Int64) (l3 : Int32) {Kk Kk2 : Int32 → St → Prop} {Q Q2 : Int32 × St → Prop} {N N2 : Int32 → St → Prop} (hK : ∀ (v4 : Int32) (T : St), Kk v4 T → Kk2 v4 T) (hQ : ∀ r, Q r → Q2 r) (hN : ∀ (v4 : Int32) (T : St), N v4 T → N2 v4 T) (v4 : Int32) (T : St) (w : bd_m_feed_40 l1 l3 Kk Q N v4 T) : bd_m_feed_40 l1 l3 Kk2 Q2 N2 v4 T := by
  unfold bd_m_feed_40 at w ⊢
  refine mo_if w (fun c42_3 w => ?_) (fun c42_3 w => ?_)
  · exact hK v4 T w
  · obtain ⟨q1, w⟩ := w
    refine ⟨q1, ?_⟩
    refine mo_n w (fun T1 w => ?_)
    exact hN (v4 + (-1)) (sF T1 571 9 ((T1.1 571 9) + 1)) w
theorem mo_m_feed_40 (l1 : Int64) (l3 : Int32) {Kk Kk2 : Int32 → St → Prop} {Q Q2 : Int32 × St → Prop} (hK : ∀ (v4 : Int32) (T : St), Kk v4 T → Kk2 v4 T) (hQ : ∀ r, Q r → Q2 r) : ∀ (f : Nat) (v4 : Int32) (T : St), wp_m_feed_40 l1 l3 Kk Q f v4 T → wp_m_feed_40 l1 l3 Kk2 Q2 f v4 T := by
  intro f
  induction f with
  | zero => intro v4 T w; exact w.elim
  | succ f ih => intro v4 T w; exact mb_m_feed_40 l1 l3 hK hQ ih v4 T w
theorem wr_m_feed_40 (l1 : Int64) (l3 : Int32) {Kk : Int32 → St → Prop} {Q : Int32 × St → Prop} (I : Int32 → St → Prop) (m : Int32 → St → Nat) (hv : ∀ (v4 : Int32) (T : St), I v4 T → bd_m_feed_40 l1 l3 Kk Q (fun uv4 uT => I uv4 uT ∧ m uv4 uT < m v4 T) v4 T) : ∀ (f : Nat) (v4 : Int32) (T : St), m v4 T < f → I v4 T → wp_m_feed_40 l1 l3 Kk Q f v4 T := by
  intro f
  induction f with
  | zero => intro v4 T h; exact absurd h (Nat.not_lt_zero _)
  | succ f ih => intro v4 T h hi; exact mb_m_feed_40 l1 l3 (fun _ _ h => h) (fun _ h => h) (fun uv4 uT g => ih uv4 uT (by omega) g.1) v4 T (hv v4 T hi)
theorem so_m_feed_40 (l1 : Int64) (l3 : Int32) {K : Int32 → St → Int32 × St} {Kk Kk2 : Int32 → St → Prop} {Q : Int32 × St → Prop} (hk : ∀ (v4 : Int32) (T : St), Kk v4 T → Kk2 v4 T ∧ Q (K v4 T)) : ∀ (f : Nat) (v4 : Int32) (T : St), wp_m_feed_40 l1 l3 Kk Q f v4 T → ok_m_feed_40 l1 l3 Kk2 f v4 T ∧ Q (x_m_feed_40 l1 l3 K f v4 T) := by
  intro f
  induction f with
  | zero => intro v4 T w; exact w.elim
  | succ f ih =>
    intro v4 T w
    rw [wp_m_feed_40, bd_m_feed_40] at w
    rw [ok_m_feed_40, x_m_feed_40]
    refine so_if2 (Q := Q) w (fun c42_3 w => ?_) (fun c42_3 w => ?_)
    · exact hk v4 T w
    · obtain ⟨q1, w⟩ := w
      refine so_rq q1 ?_
      refine so_n (Q := Q) w (fun T1 w => ?_)
      exact ih (v4 + (-1)) (sF T1 571 9 ((T1.1 571 9) + 1)) w
def wp_m_feed (T : St) (p0 : Int64) (p1 : Int32) (Q : Int32 × St → Prop) : Prop := ((((x_m_in (sF T 571 0 0) ((p1 : Int32).toInt64) 1 8) = 0) → Q ((-1000001), sF T 571 0 0)) ∧ (¬ ((x_m_in (sF T 571 0 0) ((p1 : Int32).toInt64) 1 8) = 0) → ((((((sF T 571 0 0).1 571 9) + p1) ≤ 600) → wp_m_feed_40 p0 p1 (fun w1_4 T201 => Q (T201.1 571 9, T201)) Q 1000 (p1 - 1) (sF T 571 0 0)) ∧ (¬ ((((sF T 571 0 0).1 571 9) + p1) ≤ 600) → Q ((-1000003), sF T 571 0 0)))))
theorem so_m_feed {T : St} (p0 : Int64) (p1 : Int32) {Q : Int32 × St → Prop} (w : wp_m_feed T p0 p1 Q) : ok_m_feed T p0 p1 ∧ Q (x_m_feed T p0 p1) := by
  unfold wp_m_feed at w
  unfold ok_m_feed x_m_feed
  refine so_ifF (Q := Q) w (fun c14_1 w => ?_) (fun c14_1 w => ?_)
  · exact w
  · refine so_ifT (Q := Q) w (fun c29_2 w => ?_) (fun c29_2 w => ?_)
    · refine so_m_feed_40 p0 p1 (fun w1_4 T201 w => ?_) 1000 (p1 - 1) (sF T 571 0 0) w
      refine ⟨trivial, ?_⟩
      exact w
    · exact w
def wp_m_byteAt (T : St) (p0 : Int32) (Q : Int32 → Prop) : Prop := ((((T.1 571 11) ≤ p0) → Q (-1000000)) ∧ (¬ ((T.1 571 11) ≤ p0) → (vp_in p0 600) ∧ Q (T.2.2.1 577 (p0 : Int32).toNatClampNeg)))
theorem so_m_byteAt {T : St} (p0 : Int32) {Q : Int32 → Prop} (w : wp_m_byteAt T p0 Q) : ok_m_byteAt T p0 ∧ Q (x_m_byteAt T p0) := by
  unfold wp_m_byteAt at w
  unfold ok_m_byteAt x_m_byteAt
  refine so_ifF (Q := Q) w (fun c5_1 w => ?_) (fun c5_1 w => ?_)
  · exact w
  · obtain ⟨q1, w⟩ := w
    refine so_rq q1 ?_
    refine ⟨trivial, ?_⟩
    exact w
def wp_m_isLetter (T : St) (p0 : Int32) (Q : Int32 → Prop) : Prop := (((p0 < 97) → Q 0) ∧ (¬ (p0 < 97) → (((122 < p0) → Q 0) ∧ (¬ (122 < p0) → Q 1))))
theorem so_m_isLetter {T : St} (p0 : Int32) {Q : Int32 → Prop} (w : wp_m_isLetter T p0 Q) : Q (x_m_isLetter T p0) := by
  unfold wp_m_isLetter at w
  unfold x_m_isLetter
  refine so_if0 (Q := Q) w (fun c3_1 w => ?_) (fun c3_1 w => ?_)
  · exact w
  · refine so_if0 (Q := Q) w (fun c9_2 w => ?_) (fun c9_2 w => ?_)
    · exact w
    · exact w
def wp_m_isFigure (T : St) (p0 : Int32) (Q : Int32 → Prop) : Prop := (((p0 < 48) → Q 0) ∧ (¬ (p0 < 48) → (((57 < p0) → Q 0) ∧ (¬ (57 < p0) → Q 1))))
theorem so_m_isFigure {T : St} (p0 : Int32) {Q : Int32 → Prop} (w : wp_m_isFigure T p0 Q) : Q (x_m_isFigure T p0) := by
  unfold wp_m_isFigure at w
  unfold x_m_isFigure
  refine so_if0 (Q := Q) w (fun c3_1 w => ?_) (fun c3_1 w => ?_)
  · exact w
  · refine so_if0 (Q := Q) w (fun c9_2 w => ?_) (fun c9_2 w => ?_)
    · exact w
    · exact w
def bd_m_next_0  (Kk : St → Prop) (Q : St → Prop) (N : St → Prop)  (T : St) : Prop := (ok_m_byteAt T (T.1 571 12)) ∧ jn (fun (KJ1 : Prop) => ((((x_m_byteAt T (T.1 571 12)) = 32) → KJ1) ∧ (¬ ((x_m_byteAt T (T.1 571 12)) = 32) → ((((x_m_byteAt T (T.1 571 12)) = 10) → KJ1) ∧ (¬ ((x_m_byteAt T (T.1 571 12)) = 10) → Kk  T))))) (N  (sF T 571 12 ((T.1 571 12) + 1)))
def wp_m_next_0  (Kk : St → Prop) (Q : St → Prop) : Nat → St → Prop
  | 0, _ => False
  | f + 1, T => bd_m_next_0  Kk Q (wp_m_next_0  Kk Q f)  T
theorem mb_m_next_0  {Kk Kk2 : St → Prop} {Q Q2 : St → Prop} {N N2 : St → Prop} (hK : ∀  (T : St), Kk  T → Kk2  T) (hQ : ∀ r, Q r → Q2 r) (hN : ∀  (T : St), N  T → N2  T)  (T : St) (w : bd_m_next_0  Kk Q N  T) : bd_m_next_0  Kk2 Q2 N2  T := by
  unfold bd_m_next_0 at w ⊢
  obtain ⟨q1, w⟩ := w
  refine ⟨q1, ?_⟩
  refine mo_jn (J := fun (KJ1 : Prop) (WKJ1 : Prop) => KJ1 → WKJ1) w (fun  w => ?_) (fun KJ1 WKJ1 hJ1 w => ?_)
  · skip
    exact hN  (sF T 571 12 ((T.1 571 12) + 1)) w
  · skip
    refine mo_if w (fun c10_3 w => ?_) (fun c10_3 w => ?_)
    · exact hJ1  w
    · refine mo_if w (fun c23_4 w => ?_) (fun c23_4 w => ?_)
      · exact hJ1  w
      · exact hK  T w
theorem mo_m_next_0  {Kk Kk2 : St → Prop} {Q Q2 : St → Prop} (hK : ∀  (T : St), Kk  T → Kk2  T) (hQ : ∀ r, Q r → Q2 r) : ∀ (f : Nat)  (T : St), wp_m_next_0  Kk Q f  T → wp_m_next_0  Kk2 Q2 f  T := by
  intro f
  induction f with
  | zero => intro  T w; exact w.elim
  | succ f ih => intro  T w; exact mb_m_next_0  hK hQ ih  T w
theorem wr_m_next_0  {Kk : St → Prop} {Q : St → Prop} (I : St → Prop) (m : St → Nat) (hv : ∀  (T : St), I  T → bd_m_next_0  Kk Q (fun  uT => I  uT ∧ m  uT < m  T)  T) : ∀ (f : Nat)  (T : St), m  T < f → I  T → wp_m_next_0  Kk Q f  T := by
  intro f
  induction f with
  | zero => intro  T h; exact absurd h (Nat.not_lt_zero _)
  | succ f ih => intro  T h hi; exact mb_m_next_0  (fun _ h => h) (fun _ h => h) (fun  uT g => ih  uT (by omega) g.1)  T (hv  T hi)
theorem so_m_next_0  {K : St → St} {Kk Kk2 : St → Prop} {Q : St → Prop} (hk : ∀  (T : St), Kk  T → Kk2  T ∧ Q (K  T)) : ∀ (f : Nat)  (T : St), wp_m_next_0  Kk Q f  T → ok_m_next_0  Kk2 f  T ∧ Q (x_m_next_0  K f  T) := by
  intro f
  induction f with
  | zero => intro  T w; exact w.elim
  | succ f ih =>
    intro  T w
    rw [wp_m_next_0, bd_m_next_0] at w
    rw [ok_m_next_0, x_m_next_0]
    obtain ⟨q1, w⟩ := w
    refine so_rq q1 ?_
    refine so_jn (Q := Q) (J := fun (KJ1 : St) (OJ1 : Prop) (WKJ1 : Prop) => WKJ1 → OJ1 ∧ Q (KJ1)) w (fun  w => ?_) (fun KJ1 OJ1 WKJ1 hJ1 w => ?_)
    · skip
      exact ih  (sF T 571 12 ((T.1 571 12) + 1)) w
    · skip
      refine so_if2 (Q := Q) w (fun c10_3 w => ?_) (fun c10_3 w => ?_)
      · exact hJ1  w
      · refine so_if2 (Q := Q) w (fun c23_4 w => ?_) (fun c23_4 w => ?_)
        · exact hJ1  w
        · exact hk  T w
def bd_m_next_119 (l1 : Int32) (Kk : St → Prop) (Q : St → Prop) (N : St → Prop)  (T : St) : Prop := (ok_m_byteAt T (T.1 571 12)) ∧ ((((x_m_isFigure T (x_m_byteAt T (T.1 571 12))) = 0) → Kk  T) ∧ (¬ ((x_m_isFigure T (x_m_byteAt T (T.1 571 12))) = 0) → N  (sF T 571 12 ((T.1 571 12) + 1))))
def wp_m_next_119 (l1 : Int32) (Kk : St → Prop) (Q : St → Prop) : Nat → St → Prop
  | 0, _ => False
  | f + 1, T => bd_m_next_119 l1 Kk Q (wp_m_next_119 l1 Kk Q f)  T
theorem mb_m_next_119 (l1 : Int32) {Kk Kk2 : St → Prop} {Q Q2 : St → Prop} {N N2 : St → Prop} (hK : ∀  (T : St), Kk  T → Kk2  T) (hQ : ∀ r, Q r → Q2 r) (hN : ∀  (T : St), N  T → N2  T)  (T : St) (w : bd_m_next_119 l1 Kk Q N  T) : bd_m_next_119 l1 Kk2 Q2 N2  T := by
  unfold bd_m_next_119 at w ⊢
  obtain ⟨q3, w⟩ := w
  refine ⟨q3, ?_⟩
  refine mo_if w (fun c130_9 w => ?_) (fun c130_9 w => ?_)
  · exact hK  T w
  · exact hN  (sF T 571 12 ((T.1 571 12) + 1)) w
theorem mo_m_next_119 (l1 : Int32) {Kk Kk2 : St → Prop} {Q Q2 : St → Prop} (hK : ∀  (T : St), Kk  T → Kk2  T) (hQ : ∀ r, Q r → Q2 r) : ∀ (f : Nat)  (T : St), wp_m_next_119 l1 Kk Q f  T → wp_m_next_119 l1 Kk2 Q2 f  T := by
  intro f
  induction f with
  | zero => intro  T w; exact w.elim
  | succ f ih => intro  T w; exact mb_m_next_119 l1 hK hQ ih  T w
theorem wr_m_next_119 (l1 : Int32) {Kk : St → Prop} {Q : St → Prop} (I : St → Prop) (m : St → Nat) (hv : ∀  (T : St), I  T → bd_m_next_119 l1 Kk Q (fun  uT => I  uT ∧ m  uT < m  T)  T) : ∀ (f : Nat)  (T : St), m  T < f → I  T → wp_m_next_119 l1 Kk Q f  T := by
  intro f
  induction f with
  | zero => intro  T h; exact absurd h (Nat.not_lt_zero _)
  | succ f ih => intro  T h hi; exact mb_m_next_119 l1 (fun _ h => h) (fun _ h => h) (fun  uT g => ih  uT (by omega) g.1)  T (hv  T hi)
theorem so_m_next_119 (l1 : Int32) {K : St → St} {Kk Kk2 : St → Prop} {Q : St → Prop} (hk : ∀  (T : St), Kk  T → Kk2  T ∧ Q (K  T)) : ∀ (f : Nat)  (T : St), wp_m_next_119 l1 Kk Q f  T → ok_m_next_119 l1 Kk2 f  T ∧ Q (x_m_next_119 l1 K f  T) := by
  intro f
  induction f with
  | zero => intro  T w; exact w.elim
  | succ f ih =>
    intro  T w
    rw [wp_m_next_119, bd_m_next_119] at w
    rw [ok_m_next_119, x_m_next_119]
    obtain ⟨q3, w⟩ := w
    refine so_rq q3 ?_
    refine so_if2 (Q := Q) w (fun c130_9 w => ?_) (fun c130_9 w => ?_)
    · exact hk  T w
    · exact ih  (sF T 571 12 ((T.1 571 12) + 1)) w
def bd_m_next_77 (l1 : Int32) (Kk : St → Prop) (Q : St → Prop) (N : St → Prop)  (T : St) : Prop := (ok_m_byteAt T (T.1 571 12)) ∧ ((((x_m_isLetter T (x_m_byteAt T (T.1 571 12))) = 0) → Kk  T) ∧ (¬ ((x_m_isLetter T (x_m_byteAt T (T.1 571 12))) = 0) → N  (sF T 571 12 ((T.1 571 12) + 1))))
def wp_m_next_77 (l1 : Int32) (Kk : St → Prop) (Q : St → Prop) : Nat → St → Prop
  | 0, _ => False
  | f + 1, T => bd_m_next_77 l1 Kk Q (wp_m_next_77 l1 Kk Q f)  T
theorem mb_m_next_77 (l1 : Int32) {Kk Kk2 : St → Prop} {Q Q2 : St → Prop} {N N2 : St → Prop} (hK : ∀  (T : St), Kk  T → Kk2  T) (hQ : ∀ r, Q r → Q2 r) (hN : ∀  (T : St), N  T → N2  T)  (T : St) (w : bd_m_next_77 l1 Kk Q N  T) : bd_m_next_77 l1 Kk2 Q2 N2  T := by
  unfold bd_m_next_77 at w ⊢
  obtain ⟨q4, w⟩ := w
  refine ⟨q4, ?_⟩
  refine mo_if w (fun c88_11 w => ?_) (fun c88_11 w => ?_)
  · exact hK  T w
  · exact hN  (sF T 571 12 ((T.1 571 12) + 1)) w
theorem mo_m_next_77 (l1 : Int32) {Kk Kk2 : St → Prop} {Q Q2 : St → Prop} (hK : ∀  (T : St), Kk  T → Kk2  T) (hQ : ∀ r, Q r → Q2 r) : ∀ (f : Nat)  (T : St), wp_m_next_77 l1 Kk Q f  T → wp_m_next_77 l1 Kk2 Q2 f  T := by
  intro f
  induction f with
  | zero => intro  T w; exact w.elim
  | succ f ih => intro  T w; exact mb_m_next_77 l1 hK hQ ih  T w
theorem wr_m_next_77 (l1 : Int32) {Kk : St → Prop} {Q : St → Prop} (I : St → Prop) (m : St → Nat) (hv : ∀  (T : St), I  T → bd_m_next_77 l1 Kk Q (fun  uT => I  uT ∧ m  uT < m  T)  T) : ∀ (f : Nat)  (T : St), m  T < f → I  T → wp_m_next_77 l1 Kk Q f  T := by
  intro f
  induction f with
  | zero => intro  T h; exact absurd h (Nat.not_lt_zero _)
  | succ f ih => intro  T h hi; exact mb_m_next_77 l1 (fun _ h => h) (fun _ h => h) (fun  uT g => ih  uT (by omega) g.1)  T (hv  T hi)
theorem so_m_next_77 (l1 : Int32) {K : St → St} {Kk Kk2 : St → Prop} {Q : St → Prop} (hk : ∀  (T : St), Kk  T → Kk2  T ∧ Q (K  T)) : ∀ (f : Nat)  (T : St), wp_m_next_77 l1 Kk Q f  T → ok_m_next_77 l1 Kk2 f  T ∧ Q (x_m_next_77 l1 K f  T) := by
  intro f
  induction f with
  | zero => intro  T w; exact w.elim
  | succ f ih =>
    intro  T w
    rw [wp_m_next_77, bd_m_next_77] at w
    rw [ok_m_next_77, x_m_next_77]
    obtain ⟨q4, w⟩ := w
    refine so_rq q4 ?_
    refine so_if2 (Q := Q) w (fun c88_11 w => ?_) (fun c88_11 w => ?_)
    · exact hk  T w
    · exact ih  (sF T 571 12 ((T.1 571 12) + 1)) w
def wp_m_next (T : St)  (Q : St → Prop) : Prop := wp_m_next_0  (fun  T201 => (ok_m_byteAt (sF T201 571 14 (T201.1 571 12)) ((sF T201 571 14 (T201.1 571 12)).1 571 12)) ∧ jn (fun (i1 : Int32) => jn (fun (KJ2 : St → Prop) => (((i1 = (-1000000)) → KJ2 (sF (sF T201 571 14 (T201.1 571 12)) 571 13 1)) ∧ (¬ (i1 = (-1000000)) → ((((x_m_isLetter (sF T201 571 14 (T201.1 571 12)) i1) = 0) → ((((x_m_isFigure (sF T201 571 14 (T201.1 571 12)) i1) = 0) → jn (fun (T3 : St) => (((i1 = 59) → KJ2 (sF T3 571 13 4)) ∧ (¬ (i1 = 59) → KJ2 (sF T3 571 13 0)))) (sF (sF T201 571 14 (T201.1 571 12)) 571 12 (((sF T201 571 14 (T201.1 571 12)).1 571 12) + 1))) ∧ (¬ ((x_m_isFigure (sF T201 571 14 (T201.1 571 12)) i1) = 0) → wp_m_next_119 i1 (fun  T204 => (((((T204.1 571 12) - (T204.1 571 14)) ≤ 2) → KJ2 (sF T204 571 13 3)) ∧ (¬ (((T204.1 571 12) - (T204.1 571 14)) ≤ 2) → KJ2 (sF T204 571 13 0)))) Q 1000  (sF T201 571 14 (T201.1 571 12))))) ∧ (¬ ((x_m_isLetter (sF T201 571 14 (T201.1 571 12)) i1) = 0) → wp_m_next_77 i1 (fun  T205 => KJ2 (sF T205 571 13 2)) Q 1000  (sF T201 571 14 (T201.1 571 12))))))) (fun (T302 : St) => Q (sF T302 571 15 (T302.1 571 12)))) (x_m_byteAt (sF T201 571 14 (T201.1 571 12)) ((sF T201 571 14 (T201.1 571 12)).1 571 12))) Q 1000  T
theorem so_m_next {T : St}  {Q : St → Prop} (w : wp_m_next T  Q) : ok_m_next T  ∧ Q (x_m_next T ) := by
  unfold wp_m_next at w
  unfold ok_m_next x_m_next
  refine so_m_next_0  (fun  T201 w => ?_) 1000  T w
  obtain ⟨q2, w⟩ := w
  refine so_rq q2 ?_
  refine so_n (Q := Q) w (fun i1 w => ?_)
  refine so_jn1 (Q := Q) (J := fun (KJ2 : St → St) (WKJ2 : St → Prop) => ∀ (T302 : St), WKJ2 T302 → Q (KJ2 T302)) w (fun T302 w => ?_) (fun KJ2 WKJ2 hJ2 w => ?_)
  · skip
    exact w
  · skip
    refine so_ifF (Q := Q) w (fun c59_12 w => ?_) (fun c59_12 w => ?_)
    · exact hJ2 (sF (sF T201 571 14 (T201.1 571 12)) 571 13 1) w
    · refine so_if2 (Q := Q) w (fun c74_13 w => ?_) (fun c74_13 w => ?_)
      · refine so_ifF (Q := Q) w (fun c116_14 w => ?_) (fun c116_14 w => ?_)
        · refine so_n0 (Q := Q) w (fun T3 w => ?_)
          refine so_if0 (Q := Q) w (fun c185_15 w => ?_) (fun c185_15 w => ?_)
          · exact hJ2 (sF T3 571 13 4) w
          · exact hJ2 (sF T3 571 13 0) w
        · refine so_m_next_119 i1 (fun  T204 w => ?_) 1000  (sF T201 571 14 (T201.1 571 12)) w
          refine ⟨trivial, ?_⟩
          refine so_if0 (Q := Q) w (fun c157_16 w => ?_) (fun c157_16 w => ?_)
          · exact hJ2 (sF T204 571 13 3) w
          · exact hJ2 (sF T204 571 13 0) w
      · refine so_m_next_77 i1 (fun  T205 w => ?_) 1000  (sF T201 571 14 (T201.1 571 12)) w
        refine ⟨trivial, ?_⟩
        exact hJ2 (sF T205 571 13 2) w
def wp_m_bad (T : St) (p0 : Int32) (Q : St → Prop) : Prop := ((((T.1 571 16) = 0) → Q (sF (sF T 571 16 p0) 571 17 ((sF T 571 16 p0).1 571 14))) ∧ (¬ ((T.1 571 16) = 0) → Q T))
theorem so_m_bad {T : St} (p0 : Int32) {Q : St → Prop} (w : wp_m_bad T p0 Q) : Q (x_m_bad T p0) := by
  unfold wp_m_bad at w
  unfold x_m_bad
  refine so_if0 (Q := Q) w (fun c4_1 w => ?_) (fun c4_1 w => ?_)
  · exact w
  · exact w
def wp_m_must (T : St) (p0 : Int32) (Q : St → Prop) : Prop := jn (fun (KJ1 : St → Prop) => (((p0 = 0) → KJ1 (x_m_bad T 1)) ∧ (¬ (p0 = 0) → KJ1 T))) (fun (T301 : St) => ((((T301.1 571 16) = 0) → (ok_m_next T301) ∧ Q (x_m_next T301)) ∧ (¬ ((T301.1 571 16) = 0) → Q T301)))
theorem so_m_must {T : St} (p0 : Int32) {Q : St → Prop} (w : wp_m_must T p0 Q) : ok_m_must T p0 ∧ Q (x_m_must T p0) := by
  unfold wp_m_must at w
  unfold ok_m_must x_m_must
  refine so_jn (Q := Q) (J := fun (KJ1 : St → St) (OJ1 : St → Prop) (WKJ1 : St → Prop) => ∀ (T301 : St), WKJ1 T301 → OJ1 T301 ∧ Q (KJ1 T301)) w (fun T301 w => ?_) (fun KJ1 OJ1 WKJ1 hJ1 w => ?_)
  · skip
    refine so_ifT (Q := Q) w (fun c13_2 w => ?_) (fun c13_2 w => ?_)
    · obtain ⟨q1, w⟩ := w
      refine so_rq q1 ?_
      refine ⟨trivial, ?_⟩
      exact w
    · exact w
  · skip
    refine so_if2 (Q := Q) w (fun c1_3 w => ?_) (fun c1_3 w => ?_)
    · exact hJ1 (x_m_bad T 1) w
    · exact hJ1 T w
def bd_m_word_7 (T : St)  (Kk : Int64 → Int32 → Prop) (Q : Int64 → Prop) (N : Int64 → Int32 → Prop) (v1 : Int64) (v3 : Int32) : Prop := ((((T.1 571 15) ≤ v3) → Kk v1 v3) ∧ (¬ ((T.1 571 15) ≤ v3) → ((((T.1 571 13) = 2) → (((8 ≤ ((T.1 571 15) - (T.1 571 14))) → Kk v1 v3) ∧ (¬ (8 ≤ ((T.1 571 15) - (T.1 571 14))) → (vp_in v3 600) ∧ jn (fun (k1 : Int64) => N k1 (v3 + 1)) ((v1 <<< ((8 : Int32).toInt64 &&& 63)) ||| ((T.2.2.1 577 (v3 : Int32).toNatClampNeg : Int32).toInt64))))) ∧ (¬ ((T.1 571 13) = 2) → Kk v1 v3))))
def wp_m_word_7 (T : St)  (Kk : Int64 → Int32 → Prop) (Q : Int64 → Prop) : Nat → Int64 → Int32 → Prop
  | 0, _, _ => False
  | f + 1, v1, v3 => bd_m_word_7 T  Kk Q (wp_m_word_7 T  Kk Q f) v1 v3
theorem mb_m_word_7 (T : St)  {Kk Kk2 : Int64 → Int32 → Prop} {Q Q2 : Int64 → Prop} {N N2 : Int64 → Int32 → Prop} (hK : ∀ (v1 : Int64) (v3 : Int32), Kk v1 v3 → Kk2 v1 v3) (hQ : ∀ r, Q r → Q2 r) (hN : ∀ (v1 : Int64) (v3 : Int32), N v1 v3 → N2 v1 v3) (v1 : Int64) (v3 : Int32) (w : bd_m_word_7 T  Kk Q N v1 v3) : bd_m_word_7 T  Kk2 Q2 N2 v1 v3 := by
  unfold bd_m_word_7 at w ⊢
  refine mo_if w (fun c12_1 w => ?_) (fun c12_1 w => ?_)
  · exact hK v1 v3 w
  · refine mo_if w (fun c20_2 w => ?_) (fun c20_2 w => ?_)
    · refine mo_if w (fun c34_3 w => ?_) (fun c34_3 w => ?_)
      · exact hK v1 v3 w
      · obtain ⟨q1, w⟩ := w
        refine ⟨q1, ?_⟩
        refine mo_n w (fun k1 w => ?_)
        exact hN k1 (v3 + 1) w
    · exact hK v1 v3 w
theorem mo_m_word_7 (T : St)  {Kk Kk2 : Int64 → Int32 → Prop} {Q Q2 : Int64 → Prop} (hK : ∀ (v1 : Int64) (v3 : Int32), Kk v1 v3 → Kk2 v1 v3) (hQ : ∀ r, Q r → Q2 r) : ∀ (f : Nat) (v1 : Int64) (v3 : Int32), wp_m_word_7 T  Kk Q f v1 v3 → wp_m_word_7 T  Kk2 Q2 f v1 v3 := by
  intro f
  induction f with
  | zero => intro v1 v3 w; exact w.elim
  | succ f ih => intro v1 v3 w; exact mb_m_word_7 T  hK hQ ih v1 v3 w
theorem wr_m_word_7 (T : St)  {Kk : Int64 → Int32 → Prop} {Q : Int64 → Prop} (I : Int64 → Int32 → Prop) (m : Int64 → Int32 → Nat) (hv : ∀ (v1 : Int64) (v3 : Int32), I v1 v3 → bd_m_word_7 T  Kk Q (fun uv1 uv3 => I uv1 uv3 ∧ m uv1 uv3 < m v1 v3) v1 v3) : ∀ (f : Nat) (v1 : Int64) (v3 : Int32), m v1 v3 < f → I v1 v3 → wp_m_word_7 T  Kk Q f v1 v3 := by
  intro f
  induction f with
  | zero => intro v1 v3 h; exact absurd h (Nat.not_lt_zero _)
  | succ f ih => intro v1 v3 h hi; exact mb_m_word_7 T  (fun _ _ h => h) (fun _ h => h) (fun uv1 uv3 g => ih uv1 uv3 (by omega) g.1) v1 v3 (hv v1 v3 hi)
theorem so_m_word_7 (T : St)  {K : Int64 → Int32 → Int64} {Kk Kk2 : Int64 → Int32 → Prop} {Q : Int64 → Prop} (hk : ∀ (v1 : Int64) (v3 : Int32), Kk v1 v3 → Kk2 v1 v3 ∧ Q (K v1 v3)) : ∀ (f : Nat) (v1 : Int64) (v3 : Int32), wp_m_word_7 T  Kk Q f v1 v3 → ok_m_word_7 T  Kk2 f v1 v3 ∧ Q (x_m_word_7 T  K f v1 v3) := by
  intro f
  induction f with
  | zero => intro v1 v3 w; exact w.elim
  | succ f ih =>
    intro v1 v3 w
    rw [wp_m_word_7, bd_m_word_7] at w
    rw [ok_m_word_7, x_m_word_7]
    refine so_if2 (Q := Q) w (fun c12_1 w => ?_) (fun c12_1 w => ?_)
    · exact hk v1 v3 w
    · refine so_if2 (Q := Q) w (fun c20_2 w => ?_) (fun c20_2 w => ?_)
      · refine so_if2 (Q := Q) w (fun c34_3 w => ?_) (fun c34_3 w => ?_)
        · exact hk v1 v3 w
        · obtain ⟨q1, w⟩ := w
          refine so_rq q1 ?_
          refine so_n (Q := Q) w (fun k1 w => ?_)
          exact ih k1 (v3 + 1) w
      · exact hk v1 v3 w
def wp_m_word (T : St)  (Q : Int64 → Prop) : Prop := wp_m_word_7 T  (fun w1_1 w1_3 => ((((T.1 571 16) = 0) → Q w1_1) ∧ (¬ ((T.1 571 16) = 0) → Q 0))) Q 1000 0 (T.1 571 14)
theorem so_m_word {T : St}  {Q : Int64 → Prop} (w : wp_m_word T  Q) : ok_m_word T  ∧ Q (x_m_word T ) := by
  unfold wp_m_word at w
  unfold ok_m_word x_m_word
  refine so_m_word_7 T  (fun w1_1 w1_3  w => ?_) 1000 0 (T.1 571 14) w
  refine ⟨trivial, ?_⟩
  refine so_if0 (Q := Q) w (fun c60_4 w => ?_) (fun c60_4 w => ?_)
  · exact w
  · exact w
