def bd_jd_judged_3 (l1 : Nat) (l2 : Nat) (l3 : Nat) (l4 : Int32) (Kk : Int32 → St → Prop) (Q : Int32 × St → Prop) (N : Int32 → St → Prop) (v5 : Int32) (T : St) : Prop := (sh l3 = .inr 7) ∧ ((((T.1 l3 1) ≤ v5) → Kk v5 T) ∧ (¬ ((T.1 l3 1) ≤ v5) → (vp_in v5 12) ∧ jn (fun (KJ1 : Prop) => ((((T.2.2.1 (l3 + 5) (v5 : Int32).toNatClampNeg) < 0) → KJ1) ∧ (¬ ((T.2.2.1 (l3 + 5) (v5 : Int32).toNatClampNeg) < 0) → ((((T.2.2.1 (l3 + 5) (v5 : Int32).toNatClampNeg) ≤ (60 - (T.2.2.1 (l3 + 6) (v5 : Int32).toNatClampNeg))) → N (v5 + 1) T) ∧ (¬ ((T.2.2.1 (l3 + 5) (v5 : Int32).toNatClampNeg) ≤ (60 - (T.2.2.1 (l3 + 6) (v5 : Int32).toNatClampNeg))) → KJ1))))) (Q (1 + (10 * v5), T))))
def wp_jd_judged_3 (l1 : Nat) (l2 : Nat) (l3 : Nat) (l4 : Int32) (Kk : Int32 → St → Prop) (Q : Int32 × St → Prop) : Nat → Int32 → St → Prop
  | 0, _, _ => False
  | f + 1, v5, T => bd_jd_judged_3 l1 l2 l3 l4 Kk Q (wp_jd_judged_3 l1 l2 l3 l4 Kk Q f) v5 T
theorem mb_jd_judged_3 (l1 : Nat) (l2 : Nat) (l3 : Nat) (l4 : Int32) {Kk Kk2 : Int32 → St → Prop} {Q Q2 : Int32 × St → Prop} {N N2 : Int32 → St → Prop} (hK : ∀ (v5 : Int32) (T : St), Kk v5 T → Kk2 v5 T) (hQ : ∀ r, Q r → Q2 r) (hN : ∀ (v5 : Int32) (T : St), N v5 T → N2 v5 T) (v5 : Int32) (T : St) (w : bd_jd_judged_3 l1 l2 l3 l4 Kk Q N v5 T) : bd_jd_judged_3 l1 l2 l3 l4 Kk2 Q2 N2 v5 T := by
  unfold bd_jd_judged_3 at w ⊢
  obtain ⟨q1, w⟩ := w
  refine ⟨q1, ?_⟩
  refine mo_if w (fun c9_1 w => ?_) (fun c9_1 w => ?_)
  · exact hK v5 T w
  · obtain ⟨q2, w⟩ := w
    refine ⟨q2, ?_⟩
    refine mo_jn (J := fun (KJ1 : Prop) (WKJ1 : Prop) => KJ1 → WKJ1) w (fun  w => ?_) (fun KJ1 WKJ1 hJ1 w => ?_)
    · skip
      exact hQ _ w
    · skip
      refine mo_if w (fun c19_4 w => ?_) (fun c19_4 w => ?_)
      · exact hJ1  w
      · refine mo_if w (fun c39_5 w => ?_) (fun c39_5 w => ?_)
        · exact hN (v5 + 1) T w
        · exact hJ1  w
theorem mo_jd_judged_3 (l1 : Nat) (l2 : Nat) (l3 : Nat) (l4 : Int32) {Kk Kk2 : Int32 → St → Prop} {Q Q2 : Int32 × St → Prop} (hK : ∀ (v5 : Int32) (T : St), Kk v5 T → Kk2 v5 T) (hQ : ∀ r, Q r → Q2 r) : ∀ (f : Nat) (v5 : Int32) (T : St), wp_jd_judged_3 l1 l2 l3 l4 Kk Q f v5 T → wp_jd_judged_3 l1 l2 l3 l4 Kk2 Q2 f v5 T := by
  intro f
  induction f with
  | zero => intro v5 T w; exact w.elim
  | succ f ih => intro v5 T w; exact mb_jd_judged_3 l1 l2 l3 l4 hK hQ ih v5 T w
theorem wr_jd_judged_3 (l1 : Nat) (l2 : Nat) (l3 : Nat) (l4 : Int32) {Kk : Int32 → St → Prop} {Q : Int32 × St → Prop} (I : Int32 → St → Prop) (m : Int32 → St → Nat) (hv : ∀ (v5 : Int32) (T : St), I v5 T → bd_jd_judged_3 l1 l2 l3 l4 Kk Q (fun uv5 uT => I uv5 uT ∧ m uv5 uT < m v5 T) v5 T) : ∀ (f : Nat) (v5 : Int32) (T : St), m v5 T < f → I v5 T → wp_jd_judged_3 l1 l2 l3 l4 Kk Q f v5 T := by
  intro f
  induction f with
  | zero => intro v5 T h; exact absurd h (Nat.not_lt_zero _)
  | succ f ih => intro v5 T h hi; exact mb_jd_judged_3 l1 l2 l3 l4 (fun _ _ h => h) (fun _ h => h) (fun uv5 uT g => ih uv5 uT (by omega) g.1) v5 T (hv v5 T hi)
theorem so_jd_judged_3 (l1 : Nat) (l2 : Nat) (l3 : Nat) (l4 : Int32) {K : Int32 → St → Int32 × St} {Kk Kk2 : Int32 → St → Prop} {Q : Int32 × St → Prop} (hk : ∀ (v5 : Int32) (T : St), Kk v5 T → Kk2 v5 T ∧ Q (K v5 T)) : ∀ (f : Nat) (v5 : Int32) (T : St), wp_jd_judged_3 l1 l2 l3 l4 Kk Q f v5 T → ok_jd_judged_3 l1 l2 l3 l4 Kk2 f v5 T ∧ Q (x_jd_judged_3 l1 l2 l3 l4 K f v5 T) := by
  intro f
  induction f with
  | zero => intro v5 T w; exact w.elim
  | succ f ih =>
    intro v5 T w
    rw [wp_jd_judged_3, bd_jd_judged_3] at w
    rw [ok_jd_judged_3, x_jd_judged_3]
    obtain ⟨q1, w⟩ := w
    refine so_rq q1 ?_
    refine so_if2 (Q := Q) w (fun c9_1 w => ?_) (fun c9_1 w => ?_)
    · exact hk v5 T w
    · obtain ⟨q2, w⟩ := w
      refine so_rq q2 ?_
      refine so_jn1 (Q := Q) (J := fun (KJ1 : Int32 × St) (WKJ1 : Prop) => WKJ1 → Q (KJ1)) w (fun  w => ?_) (fun KJ1 WKJ1 hJ1 w => ?_)
      · skip
        exact w
      · skip
        refine so_ifF (Q := Q) w (fun c19_4 w => ?_) (fun c19_4 w => ?_)
        · exact hJ1  w
        · refine so_ifT (Q := Q) w (fun c39_5 w => ?_) (fun c39_5 w => ?_)
          · exact ih (v5 + 1) T w
          · exact hJ1  w
def bd_jd_judged_59 (l1 : Nat) (l2 : Nat) (l3 : Nat) (l4 : Int32) (Kk : Int32 → St → Prop) (Q : Int32 × St → Prop) (N : Int32 → St → Prop) (v5 : Int32) (T : St) : Prop := (sh l3 = .inr 7) ∧ ((((T.1 l3 1) ≤ v5) → Kk v5 T) ∧ (¬ ((T.1 l3 1) ≤ v5) → (ok_ro_isFirst T l3 v5) ∧ ((((x_ro_isFirst T l3 v5) = 0) → (ok_jd_followsInTime T l1 l3 v5) ∧ ((((x_jd_followsInTime T l1 l3 v5) = 0) → Q (2 + (10 * v5), T)) ∧ (¬ ((x_jd_followsInTime T l1 l3 v5) = 0) → N (v5 + 1) T))) ∧ (¬ ((x_ro_isFirst T l3 v5) = 0) → N (v5 + 1) T))))
def wp_jd_judged_59 (l1 : Nat) (l2 : Nat) (l3 : Nat) (l4 : Int32) (Kk : Int32 → St → Prop) (Q : Int32 × St → Prop) : Nat → Int32 → St → Prop
  | 0, _, _ => False
  | f + 1, v5, T => bd_jd_judged_59 l1 l2 l3 l4 Kk Q (wp_jd_judged_59 l1 l2 l3 l4 Kk Q f) v5 T
theorem mb_jd_judged_59 (l1 : Nat) (l2 : Nat) (l3 : Nat) (l4 : Int32) {Kk Kk2 : Int32 → St → Prop} {Q Q2 : Int32 × St → Prop} {N N2 : Int32 → St → Prop} (hK : ∀ (v5 : Int32) (T : St), Kk v5 T → Kk2 v5 T) (hQ : ∀ r, Q r → Q2 r) (hN : ∀ (v5 : Int32) (T : St), N v5 T → N2 v5 T) (v5 : Int32) (T : St) (w : bd_jd_judged_59 l1 l2 l3 l4 Kk Q N v5 T) : bd_jd_judged_59 l1 l2 l3 l4 Kk2 Q2 N2 v5 T := by
  unfold bd_jd_judged_59 at w ⊢
  obtain ⟨q3, w⟩ := w
  refine ⟨q3, ?_⟩
  refine mo_if w (fun c65_6 w => ?_) (fun c65_6 w => ?_)
  · exact hK v5 T w
  · obtain ⟨q4, w⟩ := w
    refine ⟨q4, ?_⟩
    refine mo_if w (fun c74_7 w => ?_) (fun c74_7 w => ?_)
    · obtain ⟨q5, w⟩ := w
      refine ⟨q5, ?_⟩
      refine mo_if w (fun c85_8 w => ?_) (fun c85_8 w => ?_)
      · exact hQ _ w
      · exact hN (v5 + 1) T w
    · exact hN (v5 + 1) T w
theorem mo_jd_judged_59 (l1 : Nat) (l2 : Nat) (l3 : Nat) (l4 : Int32) {Kk Kk2 : Int32 → St → Prop} {Q Q2 : Int32 × St → Prop} (hK : ∀ (v5 : Int32) (T : St), Kk v5 T → Kk2 v5 T) (hQ : ∀ r, Q r → Q2 r) : ∀ (f : Nat) (v5 : Int32) (T : St), wp_jd_judged_59 l1 l2 l3 l4 Kk Q f v5 T → wp_jd_judged_59 l1 l2 l3 l4 Kk2 Q2 f v5 T := by
  intro f
  induction f with
  | zero => intro v5 T w; exact w.elim
  | succ f ih => intro v5 T w; exact mb_jd_judged_59 l1 l2 l3 l4 hK hQ ih v5 T w
theorem wr_jd_judged_59 (l1 : Nat) (l2 : Nat) (l3 : Nat) (l4 : Int32) {Kk : Int32 → St → Prop} {Q : Int32 × St → Prop} (I : Int32 → St → Prop) (m : Int32 → St → Nat) (hv : ∀ (v5 : Int32) (T : St), I v5 T → bd_jd_judged_59 l1 l2 l3 l4 Kk Q (fun uv5 uT => I uv5 uT ∧ m uv5 uT < m v5 T) v5 T) : ∀ (f : Nat) (v5 : Int32) (T : St), m v5 T < f → I v5 T → wp_jd_judged_59 l1 l2 l3 l4 Kk Q f v5 T := by
  intro f
  induction f with
  | zero => intro v5 T h; exact absurd h (Nat.not_lt_zero _)
  | succ f ih => intro v5 T h hi; exact mb_jd_judged_59 l1 l2 l3 l4 (fun _ _ h => h) (fun _ h => h) (fun uv5 uT g => ih uv5 uT (by omega) g.1) v5 T (hv v5 T hi)
theorem so_jd_judged_59 (l1 : Nat) (l2 : Nat) (l3 : Nat) (l4 : Int32) {K : Int32 → St → Int32 × St} {Kk Kk2 : Int32 → St → Prop} {Q : Int32 × St → Prop} (hk : ∀ (v5 : Int32) (T : St), Kk v5 T → Kk2 v5 T ∧ Q (K v5 T)) : ∀ (f : Nat) (v5 : Int32) (T : St), wp_jd_judged_59 l1 l2 l3 l4 Kk Q f v5 T → ok_jd_judged_59 l1 l2 l3 l4 Kk2 f v5 T ∧ Q (x_jd_judged_59 l1 l2 l3 l4 K f v5 T) := by
  intro f
  induction f with
  | zero => intro v5 T w; exact w.elim
  | succ f ih =>
    intro v5 T w
    rw [wp_jd_judged_59, bd_jd_judged_59] at w
    rw [ok_jd_judged_59, x_jd_judged_59]
    obtain ⟨q3, w⟩ := w
    refine so_rq q3 ?_
    refine so_if2 (Q := Q) w (fun c65_6 w => ?_) (fun c65_6 w => ?_)
    · exact hk v5 T w
    · obtain ⟨q4, w⟩ := w
      refine so_rq q4 ?_
      refine so_if2 (Q := Q) w (fun c74_7 w => ?_) (fun c74_7 w => ?_)
      · obtain ⟨q5, w⟩ := w
        refine so_rq q5 ?_
        refine so_ifF (Q := Q) w (fun c85_8 w => ?_) (fun c85_8 w => ?_)
        · exact w
        · exact ih (v5 + 1) T w
      · exact ih (v5 + 1) T w
def bd_jd_judged_105 (l1 : Nat) (l2 : Nat) (l3 : Nat) (l4 : Int32) (Kk : Int32 → St → Prop) (Q : Int32 × St → Prop) (N : Int32 → St → Prop) (v5 : Int32) (T : St) : Prop := (sh l3 = .inr 7) ∧ ((((T.1 l3 1) ≤ v5) → Kk v5 T) ∧ (¬ ((T.1 l3 1) ≤ v5) → (vp_in v5 12) ∧ jn (fun (i1 : Int32) => jn (fun (KJ2 : Prop) => (((i1 < 0) → KJ2) ∧ (¬ (i1 < 0) → (sh l1 = .inr 1) ∧ (vp_in (T.2.2.1 (l3 + 4) (v5 : Int32).toNatClampNeg) 4) ∧ (vp_in (T.2.2.1 (l3 + 1) (T.2.2.1 (l3 + 4) (v5 : Int32).toNatClampNeg : Int32).toNatClampNeg) 8) ∧ ((((T.2.2.1 (l1 + 4) (T.2.2.1 (l3 + 1) (T.2.2.1 (l3 + 4) (v5 : Int32).toNatClampNeg : Int32).toNatClampNeg : Int32).toNatClampNeg) < i1) → KJ2) ∧ (¬ ((T.2.2.1 (l1 + 4) (T.2.2.1 (l3 + 1) (T.2.2.1 (l3 + 4) (v5 : Int32).toNatClampNeg : Int32).toNatClampNeg : Int32).toNatClampNeg) < i1) → (ok_ro_isLast T l3 v5) ∧ ((((x_ro_isLast T l3 v5) = 0) → N (v5 + 1) T) ∧ (¬ ((x_ro_isLast T l3 v5) = 0) → N (v5 + 1) T))))))) ((ok_ro_isLast T l3 v5) ∧ ((((x_ro_isLast T l3 v5) = 0) → N (v5 + 1) T) ∧ (¬ ((x_ro_isLast T l3 v5) = 0) → Q (3 + (10 * v5), T))))) ((l4 - (T.2.2.1 (l3 + 5) (v5 : Int32).toNatClampNeg)) - (T.2.2.1 (l3 + 6) (v5 : Int32).toNatClampNeg))))
def wp_jd_judged_105 (l1 : Nat) (l2 : Nat) (l3 : Nat) (l4 : Int32) (Kk : Int32 → St → Prop) (Q : Int32 × St → Prop) : Nat → Int32 → St → Prop
  | 0, _, _ => False
  | f + 1, v5, T => bd_jd_judged_105 l1 l2 l3 l4 Kk Q (wp_jd_judged_105 l1 l2 l3 l4 Kk Q f) v5 T
theorem mb_jd_judged_105 (l1 : Nat) (l2 : Nat) (l3 : Nat) (l4 : Int32) {Kk Kk2 : Int32 → St → Prop} {Q Q2 : Int32 × St → Prop} {N N2 : Int32 → St → Prop} (hK : ∀ (v5 : Int32) (T : St), Kk v5 T → Kk2 v5 T) (hQ : ∀ r, Q r → Q2 r) (hN : ∀ (v5 : Int32) (T : St), N v5 T → N2 v5 T) (v5 : Int32) (T : St) (w : bd_jd_judged_105 l1 l2 l3 l4 Kk Q N v5 T) : bd_jd_judged_105 l1 l2 l3 l4 Kk2 Q2 N2 v5 T := by
  unfold bd_jd_judged_105 at w ⊢
  obtain ⟨q6, w⟩ := w
  refine ⟨q6, ?_⟩
  refine mo_if w (fun c111_9 w => ?_) (fun c111_9 w => ?_)
  · exact hK v5 T w
  · obtain ⟨q7, w⟩ := w
    refine ⟨q7, ?_⟩
    refine mo_n w (fun i1 w => ?_)
    refine mo_jn (J := fun (KJ2 : Prop) (WKJ2 : Prop) => KJ2 → WKJ2) w (fun  w => ?_) (fun KJ2 WKJ2 hJ2 w => ?_)
    · skip
      obtain ⟨q12, w⟩ := w
      refine ⟨q12, ?_⟩
      refine mo_if w (fun c174_13 w => ?_) (fun c174_13 w => ?_)
      · exact hN (v5 + 1) T w
      · exact hQ _ w
    · skip
      refine mo_if w (fun c136_14 w => ?_) (fun c136_14 w => ?_)
      · exact hJ2  w
      · obtain ⟨q13, w⟩ := w
        refine ⟨q13, ?_⟩
        obtain ⟨q14, w⟩ := w
        refine ⟨q14, ?_⟩
        obtain ⟨q15, w⟩ := w
        refine ⟨q15, ?_⟩
        refine mo_if w (fun c158_15 w => ?_) (fun c158_15 w => ?_)
        · exact hJ2  w
        · obtain ⟨q16, w⟩ := w
          refine ⟨q16, ?_⟩
          refine mo_if w (fun c174_16 w => ?_) (fun c174_16 w => ?_)
          · exact hN (v5 + 1) T w
          · exact hN (v5 + 1) T w
theorem mo_jd_judged_105 (l1 : Nat) (l2 : Nat) (l3 : Nat) (l4 : Int32) {Kk Kk2 : Int32 → St → Prop} {Q Q2 : Int32 × St → Prop} (hK : ∀ (v5 : Int32) (T : St), Kk v5 T → Kk2 v5 T) (hQ : ∀ r, Q r → Q2 r) : ∀ (f : Nat) (v5 : Int32) (T : St), wp_jd_judged_105 l1 l2 l3 l4 Kk Q f v5 T → wp_jd_judged_105 l1 l2 l3 l4 Kk2 Q2 f v5 T := by
  intro f
  induction f with
  | zero => intro v5 T w; exact w.elim
  | succ f ih => intro v5 T w; exact mb_jd_judged_105 l1 l2 l3 l4 hK hQ ih v5 T w
theorem wr_jd_judged_105 (l1 : Nat) (l2 : Nat) (l3 : Nat) (l4 : Int32) {Kk : Int32 → St → Prop} {Q : Int32 × St → Prop} (I : Int32 → St → Prop) (m : Int32 → St → Nat) (hv : ∀ (v5 : Int32) (T : St), I v5 T → bd_jd_judged_105 l1 l2 l3 l4 Kk Q (fun uv5 uT => I uv5 uT ∧ m uv5 uT < m v5 T) v5 T) : ∀ (f : Nat) (v5 : Int32) (T : St), m v5 T < f → I v5 T → wp_jd_judged_105 l1 l2 l3 l4 Kk Q f v5 T := by
  intro f
  induction f with
  | zero => intro v5 T h; exact absurd h (Nat.not_lt_zero _)
  | succ f ih => intro v5 T h hi; exact mb_jd_judged_105 l1 l2 l3 l4 (fun _ _ h => h) (fun _ h => h) (fun uv5 uT g => ih uv5 uT (by omega) g.1) v5 T (hv v5 T hi)
theorem so_jd_judged_105 (l1 : Nat) (l2 : Nat) (l3 : Nat) (l4 : Int32) {K : Int32 → St → Int32 × St} {Kk Kk2 : Int32 → St → Prop} {Q : Int32 × St → Prop} (hk : ∀ (v5 : Int32) (T : St), Kk v5 T → Kk2 v5 T ∧ Q (K v5 T)) : ∀ (f : Nat) (v5 : Int32) (T : St), wp_jd_judged_105 l1 l2 l3 l4 Kk Q f v5 T → ok_jd_judged_105 l1 l2 l3 l4 Kk2 f v5 T ∧ Q (x_jd_judged_105 l1 l2 l3 l4 K f v5 T) := by
  intro f
  induction f with
  | zero => intro v5 T w; exact w.elim
  | succ f ih =>
    intro v5 T w
    rw [wp_jd_judged_105, bd_jd_judged_105] at w
    rw [ok_jd_judged_105, x_jd_judged_105]
    obtain ⟨q6, w⟩ := w
    refine so_rq q6 ?_
    refine so_if2 (Q := Q) w (fun c111_9 w => ?_) (fun c111_9 w => ?_)
    · exact hk v5 T w
    · obtain ⟨q7, w⟩ := w
      refine so_rq q7 ?_
      refine so_n (Q := Q) w (fun i1 w => ?_)
      refine so_jn (Q := Q) (J := fun (KJ2 : Int32 × St) (OJ2 : Prop) (WKJ2 : Prop) => WKJ2 → OJ2 ∧ Q (KJ2)) w (fun  w => ?_) (fun KJ2 OJ2 WKJ2 hJ2 w => ?_)
      · skip
        obtain ⟨q12, w⟩ := w
        refine so_rq q12 ?_
        refine so_ifT (Q := Q) w (fun c174_13 w => ?_) (fun c174_13 w => ?_)
        · exact ih (v5 + 1) T w
        · exact w
      · skip
        refine so_if2 (Q := Q) w (fun c136_14 w => ?_) (fun c136_14 w => ?_)
        · exact hJ2  w
        · obtain ⟨q13, w⟩ := w
          refine so_rq q13 ?_
          obtain ⟨q14, w⟩ := w
          refine so_rq q14 ?_
          obtain ⟨q15, w⟩ := w
          refine so_rq q15 ?_
          refine so_if2 (Q := Q) w (fun c158_15 w => ?_) (fun c158_15 w => ?_)
          · exact hJ2  w
          · obtain ⟨q16, w⟩ := w
            refine so_rq q16 ?_
            refine so_if2 (Q := Q) w (fun c174_16 w => ?_) (fun c174_16 w => ?_)
            · exact ih (v5 + 1) T w
            · exact ih (v5 + 1) T w
def wp_jd_judged (T : St) (p0 : Nat) (p1 : Nat) (p2 : Nat) (p3 : Int32) (Q : Int32 × St → Prop) : Prop := wp_jd_judged_3 p0 p1 p2 p3 (fun w1_5 T201 => wp_jd_judged_59 p0 p1 p2 p3 (fun w2_5 T202 => wp_jd_judged_105 p0 p1 p2 p3 (fun w3_5 T203 => (ok_jd_firstLack T203 p0 p1 p2) ∧ Q ((x_jd_firstLack T203 p0 p1 p2).1, (x_jd_firstLack T203 p0 p1 p2).2)) Q 1000 0 T202) Q 1000 0 T201) Q 1000 0 T
theorem so_jd_judged {T : St} (p0 : Nat) (p1 : Nat) (p2 : Nat) (p3 : Int32) {Q : Int32 × St → Prop} (w : wp_jd_judged T p0 p1 p2 p3 Q) : ok_jd_judged T p0 p1 p2 p3 ∧ Q (x_jd_judged T p0 p1 p2 p3) := by
  unfold wp_jd_judged at w
  unfold ok_jd_judged x_jd_judged
  refine so_jd_judged_3 p0 p1 p2 p3 (fun w1_5 T201 w => ?_) 1000 0 T w
  refine so_jd_judged_59 p0 p1 p2 p3 (fun w2_5 T202 w => ?_) 1000 0 T201 w
  refine so_jd_judged_105 p0 p1 p2 p3 (fun w3_5 T203 w => ?_) 1000 0 T202 w
  obtain ⟨q17, w⟩ := w
  refine so_rq q17 ?_
  refine ⟨trivial, ?_⟩
  exact w
def bd_pl_lay_26 (l1 : Nat) (l2 : Nat) (l3 : Int32) (l4 : Int32) (Kk : Int32 → St → Prop) (Q : St → Prop) (N : Int32 → St → Prop) (v5 : Int32) (T : St) : Prop := (sh (T.2.1 2) = .inr 1) ∧ ((((T.1 (T.2.1 2) 4) ≤ v5) → Kk v5 T) ∧ (¬ ((T.1 (T.2.1 2) 4) ≤ v5) → (((((l3 >>> (v5 &&& 31)) &&& 1) = 0) → N (v5 + 1) T) ∧ (¬ (((l3 >>> (v5 &&& 31)) &&& 1) = 0) → (ok_pl_layDish T v5 l4) ∧ N (v5 + 1) (x_pl_layDish T v5 l4)))))
def wp_pl_lay_26 (l1 : Nat) (l2 : Nat) (l3 : Int32) (l4 : Int32) (Kk : Int32 → St → Prop) (Q : St → Prop) : Nat → Int32 → St → Prop
  | 0, _, _ => False
  | f + 1, v5, T => bd_pl_lay_26 l1 l2 l3 l4 Kk Q (wp_pl_lay_26 l1 l2 l3 l4 Kk Q f) v5 T
theorem mb_pl_lay_26 (l1 : Nat) (l2 : Nat) (l3 : Int32) (l4 : Int32) {Kk Kk2 : Int32 → St → Prop} {Q Q2 : St → Prop} {N N2 : Int32 → St → Prop} (hK : ∀ (v5 : Int32) (T : St), Kk v5 T → Kk2 v5 T) (hQ : ∀ r, Q r → Q2 r) (hN : ∀ (v5 : Int32) (T : St), N v5 T → N2 v5 T) (v5 : Int32) (T : St) (w : bd_pl_lay_26 l1 l2 l3 l4 Kk Q N v5 T) : bd_pl_lay_26 l1 l2 l3 l4 Kk2 Q2 N2 v5 T := by
  unfold bd_pl_lay_26 at w ⊢
  obtain ⟨q2, w⟩ := w
  refine ⟨q2, ?_⟩
  refine mo_if w (fun c35_1 w => ?_) (fun c35_1 w => ?_)
  · exact hK v5 T w
  · refine mo_if w (fun c44_2 w => ?_) (fun c44_2 w => ?_)
    · exact hN (v5 + 1) T w
    · obtain ⟨q3, w⟩ := w
      refine ⟨q3, ?_⟩
      exact hN (v5 + 1) (x_pl_layDish T v5 l4) w
theorem mo_pl_lay_26 (l1 : Nat) (l2 : Nat) (l3 : Int32) (l4 : Int32) {Kk Kk2 : Int32 → St → Prop} {Q Q2 : St → Prop} (hK : ∀ (v5 : Int32) (T : St), Kk v5 T → Kk2 v5 T) (hQ : ∀ r, Q r → Q2 r) : ∀ (f : Nat) (v5 : Int32) (T : St), wp_pl_lay_26 l1 l2 l3 l4 Kk Q f v5 T → wp_pl_lay_26 l1 l2 l3 l4 Kk2 Q2 f v5 T := by
  intro f
  induction f with
  | zero => intro v5 T w; exact w.elim
  | succ f ih => intro v5 T w; exact mb_pl_lay_26 l1 l2 l3 l4 hK hQ ih v5 T w
theorem wr_pl_lay_26 (l1 : Nat) (l2 : Nat) (l3 : Int32) (l4 : Int32) {Kk : Int32 → St → Prop} {Q : St → Prop} (I : Int32 → St → Prop) (m : Int32 → St → Nat) (hv : ∀ (v5 : Int32) (T : St), I v5 T → bd_pl_lay_26 l1 l2 l3 l4 Kk Q (fun uv5 uT => I uv5 uT ∧ m uv5 uT < m v5 T) v5 T) : ∀ (f : Nat) (v5 : Int32) (T : St), m v5 T < f → I v5 T → wp_pl_lay_26 l1 l2 l3 l4 Kk Q f v5 T := by
  intro f
  induction f with
  | zero => intro v5 T h; exact absurd h (Nat.not_lt_zero _)
  | succ f ih => intro v5 T h hi; exact mb_pl_lay_26 l1 l2 l3 l4 (fun _ _ h => h) (fun _ h => h) (fun uv5 uT g => ih uv5 uT (by omega) g.1) v5 T (hv v5 T hi)
theorem so_pl_lay_26 (l1 : Nat) (l2 : Nat) (l3 : Int32) (l4 : Int32) {K : Int32 → St → St} {Kk Kk2 : Int32 → St → Prop} {Q : St → Prop} (hk : ∀ (v5 : Int32) (T : St), Kk v5 T → Kk2 v5 T ∧ Q (K v5 T)) : ∀ (f : Nat) (v5 : Int32) (T : St), wp_pl_lay_26 l1 l2 l3 l4 Kk Q f v5 T → ok_pl_lay_26 l1 l2 l3 l4 Kk2 f v5 T ∧ Q (x_pl_lay_26 l1 l2 l3 l4 K f v5 T) := by
  intro f
  induction f with
  | zero => intro v5 T w; exact w.elim
  | succ f ih =>
    intro v5 T w
    rw [wp_pl_lay_26, bd_pl_lay_26] at w
    rw [ok_pl_lay_26, x_pl_lay_26]
    obtain ⟨q2, w⟩ := w
    refine so_rq q2 ?_
    refine so_if2 (Q := Q) w (fun c35_1 w => ?_) (fun c35_1 w => ?_)
    · exact hk v5 T w
    · refine so_if2 (Q := Q) w (fun c44_2 w => ?_) (fun c44_2 w => ?_)
      · exact ih (v5 + 1) T w
      · obtain ⟨q3, w⟩ := w
        refine so_rq q3 ?_
        exact ih (v5 + 1) (x_pl_layDish T v5 l4) w
def wp_pl_lay (T : St) (p0 : Nat) (p1 : Nat) (p2 : Int32) (p3 : Int32) (Q : St → Prop) : Prop := (ok_ta_open (sR (sR T 2 p0) 3 p1) (507 + 5 * (0 : Int32).toNatClampNeg) ((sR (sR T 2 p0) 3 p1).2.1 3)) ∧ jn (fun (T1 : St) => wp_pl_lay_26 p0 p1 p2 p3 (fun w1_5 T201 => Q T201) Q 1000 0 T1) (x_ta_open (sR (sR T 2 p0) 3 p1) (507 + 5 * (0 : Int32).toNatClampNeg) ((sR (sR T 2 p0) 3 p1).2.1 3))
theorem so_pl_lay {T : St} (p0 : Nat) (p1 : Nat) (p2 : Int32) (p3 : Int32) {Q : St → Prop} (w : wp_pl_lay T p0 p1 p2 p3 Q) : ok_pl_lay T p0 p1 p2 p3 ∧ Q (x_pl_lay T p0 p1 p2 p3) := by
  unfold wp_pl_lay at w
  unfold ok_pl_lay x_pl_lay
  obtain ⟨q1, w⟩ := w
  refine so_rq q1 ?_
  refine so_n (Q := Q) w (fun T1 w => ?_)
  refine so_pl_lay_26 p0 p1 p2 p3 (fun w1_5 T201 w => ?_) 1000 0 T1 w
  refine ⟨trivial, ?_⟩
  exact w
def bd_rd_readSteps_2 (l1 : Nat) (Kk : Int32 → St → Prop) (Q : St → Prop) (N : Int32 → St → Prop) (v2 : Int32) (T : St) : Prop := (((3 < v2) → Kk v2 T) ∧ (¬ (3 < v2) → ((((T.1 13 2) = 0) → (ok_rd_stepWord T) ∧ ((((x_rd_stepWord T) = (-1)) → (((v2 = 0) → Q (sF T 13 2 1)) ∧ (¬ (v2 = 0) → Q T))) ∧ (¬ ((x_rd_stepWord T) = (-1)) → (((v2 = 3) → Q (sF T 13 2 3)) ∧ (¬ (v2 = 3) → (sh l1 = .inr 1) ∧ ((((T.1 l1 10) < 24) → (ok_rd_advance T) ∧ (ok_rd_readStep (x_rd_advance T) l1 ((x_rd_advance T).1 l1 10) (x_rd_stepWord T)) ∧ jn (fun (T1 : St) => N (v2 + 1) T1) (sF (x_rd_readStep (x_rd_advance T) l1 ((x_rd_advance T).1 l1 10) (x_rd_stepWord T)) l1 10 (((x_rd_readStep (x_rd_advance T) l1 ((x_rd_advance T).1 l1 10) (x_rd_stepWord T)).1 l1 10) + 1))) ∧ (¬ ((T.1 l1 10) < 24) → Q (sF T 13 2 3)))))))) ∧ (¬ ((T.1 13 2) = 0) → Kk v2 T))))
def wp_rd_readSteps_2 (l1 : Nat) (Kk : Int32 → St → Prop) (Q : St → Prop) : Nat → Int32 → St → Prop
  | 0, _, _ => False
  | f + 1, v2, T => bd_rd_readSteps_2 l1 Kk Q (wp_rd_readSteps_2 l1 Kk Q f) v2 T
theorem mb_rd_readSteps_2 (l1 : Nat) {Kk Kk2 : Int32 → St → Prop} {Q Q2 : St → Prop} {N N2 : Int32 → St → Prop} (hK : ∀ (v2 : Int32) (T : St), Kk v2 T → Kk2 v2 T) (hQ : ∀ r, Q r → Q2 r) (hN : ∀ (v2 : Int32) (T : St), N v2 T → N2 v2 T) (v2 : Int32) (T : St) (w : bd_rd_readSteps_2 l1 Kk Q N v2 T) : bd_rd_readSteps_2 l1 Kk2 Q2 N2 v2 T := by
  unfold bd_rd_readSteps_2 at w ⊢
  refine mo_if w (fun c4_1 w => ?_) (fun c4_1 w => ?_)
  · exact hK v2 T w
  · refine mo_if w (fun c11_2 w => ?_) (fun c11_2 w => ?_)
    · obtain ⟨q1, w⟩ := w
      refine ⟨q1, ?_⟩
      refine mo_if w (fun c21_3 w => ?_) (fun c21_3 w => ?_)
      · refine mo_if w (fun c25_6 w => ?_) (fun c25_6 w => ?_)
        · exact hQ _ w
        · exact hQ _ w
      · refine mo_if w (fun c36_4 w => ?_) (fun c36_4 w => ?_)
        · exact hQ _ w
        · obtain ⟨q2, w⟩ := w
          refine ⟨q2, ?_⟩
          refine mo_if w (fun c45_5 w => ?_) (fun c45_5 w => ?_)
          · obtain ⟨q3, w⟩ := w
            refine ⟨q3, ?_⟩
            obtain ⟨q4, w⟩ := w
            refine ⟨q4, ?_⟩
            refine mo_n w (fun T1 w => ?_)
            exact hN (v2 + 1) T1 w
          · exact hQ _ w
    · exact hK v2 T w
theorem mo_rd_readSteps_2 (l1 : Nat) {Kk Kk2 : Int32 → St → Prop} {Q Q2 : St → Prop} (hK : ∀ (v2 : Int32) (T : St), Kk v2 T → Kk2 v2 T) (hQ : ∀ r, Q r → Q2 r) : ∀ (f : Nat) (v2 : Int32) (T : St), wp_rd_readSteps_2 l1 Kk Q f v2 T → wp_rd_readSteps_2 l1 Kk2 Q2 f v2 T := by
  intro f
  induction f with
  | zero => intro v2 T w; exact w.elim
  | succ f ih => intro v2 T w; exact mb_rd_readSteps_2 l1 hK hQ ih v2 T w
theorem wr_rd_readSteps_2 (l1 : Nat) {Kk : Int32 → St → Prop} {Q : St → Prop} (I : Int32 → St → Prop) (m : Int32 → St → Nat) (hv : ∀ (v2 : Int32) (T : St), I v2 T → bd_rd_readSteps_2 l1 Kk Q (fun uv2 uT => I uv2 uT ∧ m uv2 uT < m v2 T) v2 T) : ∀ (f : Nat) (v2 : Int32) (T : St), m v2 T < f → I v2 T → wp_rd_readSteps_2 l1 Kk Q f v2 T := by
  intro f
  induction f with
  | zero => intro v2 T h; exact absurd h (Nat.not_lt_zero _)
  | succ f ih => intro v2 T h hi; exact mb_rd_readSteps_2 l1 (fun _ _ h => h) (fun _ h => h) (fun uv2 uT g => ih uv2 uT (by omega) g.1) v2 T (hv v2 T hi)
theorem so_rd_readSteps_2 (l1 : Nat) {K : Int32 → St → St} {Kk Kk2 : Int32 → St → Prop} {Q : St → Prop} (hk : ∀ (v2 : Int32) (T : St), Kk v2 T → Kk2 v2 T ∧ Q (K v2 T)) : ∀ (f : Nat) (v2 : Int32) (T : St), wp_rd_readSteps_2 l1 Kk Q f v2 T → ok_rd_readSteps_2 l1 Kk2 f v2 T ∧ Q (x_rd_readSteps_2 l1 K f v2 T) := by
  intro f
  induction f with
  | zero => intro v2 T w; exact w.elim
  | succ f ih =>
    intro v2 T w
    rw [wp_rd_readSteps_2, bd_rd_readSteps_2] at w
    rw [ok_rd_readSteps_2, x_rd_readSteps_2]
    refine so_if2 (Q := Q) w (fun c4_1 w => ?_) (fun c4_1 w => ?_)
    · exact hk v2 T w
    · refine so_if2 (Q := Q) w (fun c11_2 w => ?_) (fun c11_2 w => ?_)
      · obtain ⟨q1, w⟩ := w
        refine so_rq q1 ?_
        refine so_ifF (Q := Q) w (fun c21_3 w => ?_) (fun c21_3 w => ?_)
        · refine so_if0 (Q := Q) w (fun c25_6 w => ?_) (fun c25_6 w => ?_)
          · exact w
          · exact w
        · refine so_ifF (Q := Q) w (fun c36_4 w => ?_) (fun c36_4 w => ?_)
          · exact w
          · obtain ⟨q2, w⟩ := w
            refine so_rq q2 ?_
            refine so_ifT (Q := Q) w (fun c45_5 w => ?_) (fun c45_5 w => ?_)
            · obtain ⟨q3, w⟩ := w
              refine so_rq q3 ?_
              obtain ⟨q4, w⟩ := w
              refine so_rq q4 ?_
              refine so_n (Q := Q) w (fun T1 w => ?_)
              exact ih (v2 + 1) T1 w
            · exact w
      · exact hk v2 T w
def wp_rd_readSteps (T : St) (p0 : Nat) (Q : St → Prop) : Prop := wp_rd_readSteps_2 p0 (fun w1_2 T201 => Q T201) Q 1000 0 T
theorem so_rd_readSteps {T : St} (p0 : Nat) {Q : St → Prop} (w : wp_rd_readSteps T p0 Q) : ok_rd_readSteps T p0 ∧ Q (x_rd_readSteps T p0) := by
  unfold wp_rd_readSteps at w
  unfold ok_rd_readSteps x_rd_readSteps
  refine so_rd_readSteps_2 p0 (fun w1_2 T201 w => ?_) 1000 0 T w
  refine ⟨trivial, ?_⟩
  exact w
def wp_x_judge (T : St) (p0 : Int32) (p1 : Int32) (p2 : Int32) (Q : Int32 × St → Prop) : Prop := jn (fun (KJ1 : Prop) => ((((x_sh_isOne T p0) = 0) → KJ1) ∧ (¬ ((x_sh_isOne T p0) = 0) → ((((x_x_isTime T p2) = 0) → KJ1) ∧ (¬ ((x_x_isTime T p2) = 0) → (ok_x_refusal T 1) ∧ ((((x_x_refusal T 1) = 0) → (ok_sh_isMissing T p0) ∧ ((((x_sh_isMissing T p0) = 0) → (ok_ro_fill T 564 (T.2.1 0)) ∧ (ok_sh_reaches (x_ro_fill T 564 (T.2.1 0)) p0 p1 ((x_ro_fill T 564 (T.2.1 0)).1 564 1)) ∧ ((((x_sh_reaches (x_ro_fill T 564 (T.2.1 0)) p0 p1 ((x_ro_fill T 564 (T.2.1 0)).1 564 1)) = 0) → Q ((x_x_found (x_ro_fill T 564 (T.2.1 0)) 2).1, (x_x_found (x_ro_fill T 564 (T.2.1 0)) 2).2)) ∧ (¬ ((x_sh_reaches (x_ro_fill T 564 (T.2.1 0)) p0 p1 ((x_ro_fill T 564 (T.2.1 0)).1 564 1)) = 0) → (vp_in p0 8) ∧ (cpok p1 0 ((x_ro_fill T 564 (T.2.1 0)).1 564 1) 40 12) ∧ jn (fun (T3 : St) => (ok_jd_judged T3 (T3.2.1 0) 76 564 p2) ∧ Q ((x_x_fine ((x_jd_judged T3 (T3.2.1 0) 76 564 p2).2) ((x_jd_judged T3 (T3.2.1 0) 76 564 p2).1)).1, (x_x_fine ((x_jd_judged T3 (T3.2.1 0) 76 564 p2).2) ((x_jd_judged T3 (T3.2.1 0) 76 564 p2).1)).2)) (sAr (x_ro_fill T 564 (T.2.1 0)) 569 (va_cpy ((x_ro_fill T 564 (T.2.1 0)).2.2.1 (5 + (p0 : Int32).toNatClampNeg)) ((x_ro_fill T 564 (T.2.1 0)).2.2.1 569) (p1 : Int32).toNatClampNeg (0 : Int32).toNatClampNeg ((x_ro_fill T 564 (T.2.1 0)).1 564 1 : Int32).toNatClampNeg))))) ∧ (¬ ((x_sh_isMissing T p0) = 0) → Q ((x_x_found T 1).1, (x_x_found T 1).2)))) ∧ (¬ ((x_x_refusal T 1) = 0) → Q (x_x_refusal T 1, T)))))))) ((ok_x_refusal T 0) ∧ ((((x_x_refusal T 0) = 0) → (ok_sh_isMissing T p0) ∧ ((((x_sh_isMissing T p0) = 0) → (ok_ro_fill T 564 (T.2.1 0)) ∧ (ok_sh_reaches (x_ro_fill T 564 (T.2.1 0)) p0 p1 ((x_ro_fill T 564 (T.2.1 0)).1 564 1)) ∧ ((((x_sh_reaches (x_ro_fill T 564 (T.2.1 0)) p0 p1 ((x_ro_fill T 564 (T.2.1 0)).1 564 1)) = 0) → Q ((x_x_found (x_ro_fill T 564 (T.2.1 0)) 2).1, (x_x_found (x_ro_fill T 564 (T.2.1 0)) 2).2)) ∧ (¬ ((x_sh_reaches (x_ro_fill T 564 (T.2.1 0)) p0 p1 ((x_ro_fill T 564 (T.2.1 0)).1 564 1)) = 0) → (vp_in p0 8) ∧ (cpok p1 0 ((x_ro_fill T 564 (T.2.1 0)).1 564 1) 40 12) ∧ jn (fun (T2 : St) => (ok_jd_judged T2 (T2.2.1 0) 76 564 p2) ∧ Q ((x_x_fine ((x_jd_judged T2 (T2.2.1 0) 76 564 p2).2) ((x_jd_judged T2 (T2.2.1 0) 76 564 p2).1)).1, (x_x_fine ((x_jd_judged T2 (T2.2.1 0) 76 564 p2).2) ((x_jd_judged T2 (T2.2.1 0) 76 564 p2).1)).2)) (sAr (x_ro_fill T 564 (T.2.1 0)) 569 (va_cpy ((x_ro_fill T 564 (T.2.1 0)).2.2.1 (5 + (p0 : Int32).toNatClampNeg)) ((x_ro_fill T 564 (T.2.1 0)).2.2.1 569) (p1 : Int32).toNatClampNeg (0 : Int32).toNatClampNeg ((x_ro_fill T 564 (T.2.1 0)).1 564 1 : Int32).toNatClampNeg))))) ∧ (¬ ((x_sh_isMissing T p0) = 0) → Q ((x_x_found T 1).1, (x_x_found T 1).2)))) ∧ (¬ ((x_x_refusal T 0) = 0) → Q (x_x_refusal T 0, T))))
theorem so_x_judge {T : St} (p0 : Int32) (p1 : Int32) (p2 : Int32) {Q : Int32 × St → Prop} (w : wp_x_judge T p0 p1 p2 Q) : ok_x_judge T p0 p1 p2 ∧ Q (x_x_judge T p0 p1 p2) := by
  unfold wp_x_judge at w
  unfold ok_x_judge x_x_judge
  refine so_jn (Q := Q) (J := fun (KJ1 : Int32 × St) (OJ1 : Prop) (WKJ1 : Prop) => WKJ1 → OJ1 ∧ Q (KJ1)) w (fun  w => ?_) (fun KJ1 OJ1 WKJ1 hJ1 w => ?_)
  · skip
    obtain ⟨q8, w⟩ := w
    refine so_rq q8 ?_
    refine so_ifT (Q := Q) w (fun c31_6 w => ?_) (fun c31_6 w => ?_)
    · obtain ⟨q9, w⟩ := w
      refine so_rq q9 ?_
      refine so_ifT (Q := Q) w (fun c45_7 w => ?_) (fun c45_7 w => ?_)
      · obtain ⟨q10, w⟩ := w
        refine so_rq q10 ?_
        obtain ⟨q11, w⟩ := w
        refine so_rq q11 ?_
        refine so_ifF (Q := Q) w (fun c81_8 w => ?_) (fun c81_8 w => ?_)
        · exact w
        · obtain ⟨q12, w⟩ := w
          refine so_rq q12 ?_
          obtain ⟨q13, w⟩ := w
          refine so_rq q13 ?_
          refine so_n (Q := Q) w (fun T2 w => ?_)
          obtain ⟨q14, w⟩ := w
          refine so_rq q14 ?_
          refine ⟨trivial, ?_⟩
          exact w
      · exact w
    · exact w
  · skip
    refine so_if2 (Q := Q) w (fun c9_9 w => ?_) (fun c9_9 w => ?_)
    · exact hJ1  w
    · refine so_if2 (Q := Q) w (fun c16_10 w => ?_) (fun c16_10 w => ?_)
      · exact hJ1  w
      · obtain ⟨q15, w⟩ := w
        refine so_rq q15 ?_
        refine so_ifT (Q := Q) w (fun c31_11 w => ?_) (fun c31_11 w => ?_)
        · obtain ⟨q16, w⟩ := w
          refine so_rq q16 ?_
          refine so_ifT (Q := Q) w (fun c45_12 w => ?_) (fun c45_12 w => ?_)
          · obtain ⟨q17, w⟩ := w
            refine so_rq q17 ?_
            obtain ⟨q18, w⟩ := w
            refine so_rq q18 ?_
            refine so_ifF (Q := Q) w (fun c81_13 w => ?_) (fun c81_13 w => ?_)
            · exact w
            · obtain ⟨q19, w⟩ := w
              refine so_rq q19 ?_
              obtain ⟨q20, w⟩ := w
              refine so_rq q20 ?_
              refine so_n (Q := Q) w (fun T3 w => ?_)
              obtain ⟨q21, w⟩ := w
              refine so_rq q21 ?_
              refine ⟨trivial, ?_⟩
              exact w
          · exact w
        · exact w
def wp_rd_readDish (T : St) (p0 : Nat) (Q : St → Prop) : Prop := jn (fun (KJ1 : St → Prop) => ((((T.1 13 2) = 0) → (ok_rd_isWord T 2) ∧ ((((x_rd_isWord T 2) = 0) → KJ1 T) ∧ (¬ ((x_rd_isWord T 2) = 0) → (sh p0 = .inr 1) ∧ ((((T.1 p0 4) < 8) → KJ1 T) ∧ (¬ ((T.1 p0 4) < 8) → KJ1 (sF T 13 2 3)))))) ∧ (¬ ((T.1 13 2) = 0) → KJ1 T))) (fun (T301 : St) => (ok_rd_takeWord T301 2) ∧ (((((x_rd_takeWord T301 2).1 13 2) = 0) → (sh p0 = .inr 1) ∧ jn (fun (i1 : Int32) => (ok_rd_takeNumber (x_rd_takeWord T301 2) 0 2) ∧ (vp_in i1 8) ∧ jn (fun (T2 : St) => (ok_rd_takeNumber T2 0 9) ∧ jn (fun (T3 : St) => (ok_rd_takeNumber T3 0 1) ∧ jn (fun (T4 : St) => (ok_rd_takeSign T4) ∧ (ok_rd_readSteps (sA (x_rd_takeSign T4) (p0 + 8) (i1 : Int32).toNatClampNeg ((x_rd_takeSign T4).1 p0 10)) p0) ∧ jn (fun (T5 : St) => jn (fun (T6 : St) => Q (sF T6 p0 4 ((T6.1 p0 4) + 1))) (sA T5 (p0 + 7) (i1 : Int32).toNatClampNeg ((T5.1 p0 10) - (T5.2.2.1 (p0 + 8) (i1 : Int32).toNatClampNeg)))) (x_rd_readSteps (sA (x_rd_takeSign T4) (p0 + 8) (i1 : Int32).toNatClampNeg ((x_rd_takeSign T4).1 p0 10)) p0)) (sA ((x_rd_takeNumber T3 0 1).2) (p0 + 6) (i1 : Int32).toNatClampNeg ((x_rd_takeNumber T3 0 1).1))) (sA ((x_rd_takeNumber T2 0 9).2) (p0 + 5) (i1 : Int32).toNatClampNeg ((x_rd_takeNumber T2 0 9).1))) (sA ((x_rd_takeNumber (x_rd_takeWord T301 2) 0 2).2) (p0 + 4) (i1 : Int32).toNatClampNeg ((x_rd_takeNumber (x_rd_takeWord T301 2) 0 2).1))) ((x_rd_takeWord T301 2).1 p0 4)) ∧ (¬ (((x_rd_takeWord T301 2).1 13 2) = 0) → Q (x_rd_takeWord T301 2))))
theorem so_rd_readDish {T : St} (p0 : Nat) {Q : St → Prop} (w : wp_rd_readDish T p0 Q) : ok_rd_readDish T p0 ∧ Q (x_rd_readDish T p0) := by
  unfold wp_rd_readDish at w
  unfold ok_rd_readDish x_rd_readDish
  refine so_jn (Q := Q) (J := fun (KJ1 : St → St) (OJ1 : St → Prop) (WKJ1 : St → Prop) => ∀ (T301 : St), WKJ1 T301 → OJ1 T301 ∧ Q (KJ1 T301)) w (fun T301 w => ?_) (fun KJ1 OJ1 WKJ1 hJ1 w => ?_)
  · skip
    obtain ⟨q3, w⟩ := w
    refine so_rq q3 ?_
    refine so_ifT (Q := Q) w (fun c40_4 w => ?_) (fun c40_4 w => ?_)
    · obtain ⟨q4, w⟩ := w
      refine so_rq q4 ?_
      refine so_n (Q := Q) w (fun i1 w => ?_)
      obtain ⟨q5, w⟩ := w
      refine so_rq q5 ?_
      obtain ⟨q6, w⟩ := w
      refine so_rq q6 ?_
      refine so_n (Q := Q) w (fun T2 w => ?_)
      obtain ⟨q7, w⟩ := w
      refine so_rq q7 ?_
      refine so_n (Q := Q) w (fun T3 w => ?_)
      obtain ⟨q8, w⟩ := w
      refine so_rq q8 ?_
      refine so_n (Q := Q) w (fun T4 w => ?_)
      obtain ⟨q9, w⟩ := w
      refine so_rq q9 ?_
      obtain ⟨q10, w⟩ := w
      refine so_rq q10 ?_
      refine ⟨trivial, ?_⟩
      refine so_n0 (Q := Q) w (fun T5 w => ?_)
      refine so_n0 (Q := Q) w (fun T6 w => ?_)
      exact w
    · exact w
  · skip
    refine so_if2 (Q := Q) w (fun c4_5 w => ?_) (fun c4_5 w => ?_)
    · obtain ⟨q11, w⟩ := w
      refine so_rq q11 ?_
      refine so_if2 (Q := Q) w (fun c13_6 w => ?_) (fun c13_6 w => ?_)
      · exact hJ1 T w
      · obtain ⟨q12, w⟩ := w
        refine so_rq q12 ?_
        refine so_if2 (Q := Q) w (fun c22_7 w => ?_) (fun c22_7 w => ?_)
        · exact hJ1 T w
        · exact hJ1 (sF T 13 2 3) w
    · exact hJ1 T w
def bd_rd_read_25 (l1 : Nat) (Kk : Int32 → St → Prop) (Q : St → Prop) (N : Int32 → St → Prop) (v2 : Int32) (T : St) : Prop := (((4 < v2) → Kk v2 T) ∧ (¬ (4 < v2) → ((((T.1 13 2) = 0) → (ok_rd_isWord T 1) ∧ ((((x_rd_isWord T 1) = 0) → Kk v2 T) ∧ (¬ ((x_rd_isWord T 1) = 0) → (ok_rd_readAway T l1) ∧ N (v2 + 1) (x_rd_readAway T l1)))) ∧ (¬ ((T.1 13 2) = 0) → Kk v2 T))))
def wp_rd_read_25 (l1 : Nat) (Kk : Int32 → St → Prop) (Q : St → Prop) : Nat → Int32 → St → Prop
  | 0, _, _ => False
  | f + 1, v2, T => bd_rd_read_25 l1 Kk Q (wp_rd_read_25 l1 Kk Q f) v2 T
theorem mb_rd_read_25 (l1 : Nat) {Kk Kk2 : Int32 → St → Prop} {Q Q2 : St → Prop} {N N2 : Int32 → St → Prop} (hK : ∀ (v2 : Int32) (T : St), Kk v2 T → Kk2 v2 T) (hQ : ∀ r, Q r → Q2 r) (hN : ∀ (v2 : Int32) (T : St), N v2 T → N2 v2 T) (v2 : Int32) (T : St) (w : bd_rd_read_25 l1 Kk Q N v2 T) : bd_rd_read_25 l1 Kk2 Q2 N2 v2 T := by
  unfold bd_rd_read_25 at w ⊢
  refine mo_if w (fun c27_1 w => ?_) (fun c27_1 w => ?_)
  · exact hK v2 T w
  · refine mo_if w (fun c34_2 w => ?_) (fun c34_2 w => ?_)
    · obtain ⟨q5, w⟩ := w
      refine ⟨q5, ?_⟩
      refine mo_if w (fun c43_3 w => ?_) (fun c43_3 w => ?_)
      · exact hK v2 T w
      · obtain ⟨q6, w⟩ := w
        refine ⟨q6, ?_⟩
        exact hN (v2 + 1) (x_rd_readAway T l1) w
    · exact hK v2 T w
theorem mo_rd_read_25 (l1 : Nat) {Kk Kk2 : Int32 → St → Prop} {Q Q2 : St → Prop} (hK : ∀ (v2 : Int32) (T : St), Kk v2 T → Kk2 v2 T) (hQ : ∀ r, Q r → Q2 r) : ∀ (f : Nat) (v2 : Int32) (T : St), wp_rd_read_25 l1 Kk Q f v2 T → wp_rd_read_25 l1 Kk2 Q2 f v2 T := by
  intro f
  induction f with
  | zero => intro v2 T w; exact w.elim
  | succ f ih => intro v2 T w; exact mb_rd_read_25 l1 hK hQ ih v2 T w
theorem wr_rd_read_25 (l1 : Nat) {Kk : Int32 → St → Prop} {Q : St → Prop} (I : Int32 → St → Prop) (m : Int32 → St → Nat) (hv : ∀ (v2 : Int32) (T : St), I v2 T → bd_rd_read_25 l1 Kk Q (fun uv2 uT => I uv2 uT ∧ m uv2 uT < m v2 T) v2 T) : ∀ (f : Nat) (v2 : Int32) (T : St), m v2 T < f → I v2 T → wp_rd_read_25 l1 Kk Q f v2 T := by
  intro f
  induction f with
  | zero => intro v2 T h; exact absurd h (Nat.not_lt_zero _)
  | succ f ih => intro v2 T h hi; exact mb_rd_read_25 l1 (fun _ _ h => h) (fun _ h => h) (fun uv2 uT g => ih uv2 uT (by omega) g.1) v2 T (hv v2 T hi)
theorem so_rd_read_25 (l1 : Nat) {K : Int32 → St → St} {Kk Kk2 : Int32 → St → Prop} {Q : St → Prop} (hk : ∀ (v2 : Int32) (T : St), Kk v2 T → Kk2 v2 T ∧ Q (K v2 T)) : ∀ (f : Nat) (v2 : Int32) (T : St), wp_rd_read_25 l1 Kk Q f v2 T → ok_rd_read_25 l1 Kk2 f v2 T ∧ Q (x_rd_read_25 l1 K f v2 T) := by
  intro f
  induction f with
  | zero => intro v2 T w; exact w.elim
  | succ f ih =>
    intro v2 T w
    rw [wp_rd_read_25, bd_rd_read_25] at w
    rw [ok_rd_read_25, x_rd_read_25]
    refine so_if2 (Q := Q) w (fun c27_1 w => ?_) (fun c27_1 w => ?_)
    · exact hk v2 T w
    · refine so_if2 (Q := Q) w (fun c34_2 w => ?_) (fun c34_2 w => ?_)
      · obtain ⟨q5, w⟩ := w
        refine so_rq q5 ?_
        refine so_if2 (Q := Q) w (fun c43_3 w => ?_) (fun c43_3 w => ?_)
        · exact hk v2 T w
        · obtain ⟨q6, w⟩ := w
          refine so_rq q6 ?_
          exact ih (v2 + 1) (x_rd_readAway T l1) w
      · exact hk v2 T w
def bd_rd_read_64 (l1 : Nat) (Kk : Int32 → St → Prop) (Q : St → Prop) (N : Int32 → St → Prop) (v2 : Int32) (T : St) : Prop := (((8 < v2) → Kk v2 T) ∧ (¬ (8 < v2) → ((((T.1 13 2) = 0) → ((((T.1 13 5) = 0) → Kk v2 T) ∧ (¬ ((T.1 13 5) = 0) → (ok_rd_readDish T l1) ∧ N (v2 + 1) (x_rd_readDish T l1)))) ∧ (¬ ((T.1 13 2) = 0) → Kk v2 T))))
def wp_rd_read_64 (l1 : Nat) (Kk : Int32 → St → Prop) (Q : St → Prop) : Nat → Int32 → St → Prop
  | 0, _, _ => False
  | f + 1, v2, T => bd_rd_read_64 l1 Kk Q (wp_rd_read_64 l1 Kk Q f) v2 T
theorem mb_rd_read_64 (l1 : Nat) {Kk Kk2 : Int32 → St → Prop} {Q Q2 : St → Prop} {N N2 : Int32 → St → Prop} (hK : ∀ (v2 : Int32) (T : St), Kk v2 T → Kk2 v2 T) (hQ : ∀ r, Q r → Q2 r) (hN : ∀ (v2 : Int32) (T : St), N v2 T → N2 v2 T) (v2 : Int32) (T : St) (w : bd_rd_read_64 l1 Kk Q N v2 T) : bd_rd_read_64 l1 Kk2 Q2 N2 v2 T := by
  unfold bd_rd_read_64 at w ⊢
  refine mo_if w (fun c67_4 w => ?_) (fun c67_4 w => ?_)
  · exact hK v2 T w
  · refine mo_if w (fun c74_5 w => ?_) (fun c74_5 w => ?_)
    · refine mo_if w (fun c81_6 w => ?_) (fun c81_6 w => ?_)
      · exact hK v2 T w
      · obtain ⟨q8, w⟩ := w
        refine ⟨q8, ?_⟩
        exact hN (v2 + 1) (x_rd_readDish T l1) w
    · exact hK v2 T w
theorem mo_rd_read_64 (l1 : Nat) {Kk Kk2 : Int32 → St → Prop} {Q Q2 : St → Prop} (hK : ∀ (v2 : Int32) (T : St), Kk v2 T → Kk2 v2 T) (hQ : ∀ r, Q r → Q2 r) : ∀ (f : Nat) (v2 : Int32) (T : St), wp_rd_read_64 l1 Kk Q f v2 T → wp_rd_read_64 l1 Kk2 Q2 f v2 T := by
  intro f
  induction f with
  | zero => intro v2 T w; exact w.elim
  | succ f ih => intro v2 T w; exact mb_rd_read_64 l1 hK hQ ih v2 T w
theorem wr_rd_read_64 (l1 : Nat) {Kk : Int32 → St → Prop} {Q : St → Prop} (I : Int32 → St → Prop) (m : Int32 → St → Nat) (hv : ∀ (v2 : Int32) (T : St), I v2 T → bd_rd_read_64 l1 Kk Q (fun uv2 uT => I uv2 uT ∧ m uv2 uT < m v2 T) v2 T) : ∀ (f : Nat) (v2 : Int32) (T : St), m v2 T < f → I v2 T → wp_rd_read_64 l1 Kk Q f v2 T := by
  intro f
  induction f with
  | zero => intro v2 T h; exact absurd h (Nat.not_lt_zero _)
  | succ f ih => intro v2 T h hi; exact mb_rd_read_64 l1 (fun _ _ h => h) (fun _ h => h) (fun uv2 uT g => ih uv2 uT (by omega) g.1) v2 T (hv v2 T hi)
theorem so_rd_read_64 (l1 : Nat) {K : Int32 → St → St} {Kk Kk2 : Int32 → St → Prop} {Q : St → Prop} (hk : ∀ (v2 : Int32) (T : St), Kk v2 T → Kk2 v2 T ∧ Q (K v2 T)) : ∀ (f : Nat) (v2 : Int32) (T : St), wp_rd_read_64 l1 Kk Q f v2 T → ok_rd_read_64 l1 Kk2 f v2 T ∧ Q (x_rd_read_64 l1 K f v2 T) := by
  intro f
  induction f with
  | zero => intro v2 T w; exact w.elim
  | succ f ih =>
    intro v2 T w
    rw [wp_rd_read_64, bd_rd_read_64] at w
    rw [ok_rd_read_64, x_rd_read_64]
    refine so_if2 (Q := Q) w (fun c67_4 w => ?_) (fun c67_4 w => ?_)
    · exact hk v2 T w
    · refine so_if2 (Q := Q) w (fun c74_5 w => ?_) (fun c74_5 w => ?_)
      · refine so_if2 (Q := Q) w (fun c81_6 w => ?_) (fun c81_6 w => ?_)
        · exact hk v2 T w
        · obtain ⟨q8, w⟩ := w
          refine so_rq q8 ?_
          exact ih (v2 + 1) (x_rd_readDish T l1) w
      · exact hk v2 T w
def wp_rd_read (T : St) (p0 : Nat) (Q : St → Prop) : Prop := (ok_bk_clear T p0) ∧ (sh p0 = .inr 1) ∧ (ok_rd_advance (sF (sF (x_bk_clear T p0) 13 2 0) 13 4 0)) ∧ (ok_rd_readKitchen (x_rd_advance (sF (sF (x_bk_clear T p0) 13 2 0) 13 4 0)) p0) ∧ wp_rd_read_25 p0 (fun w1_2 T201 => (ok_rd_readDish T201 p0) ∧ wp_rd_read_64 p0 (fun w2_2 T202 => Q (sF T202 13 1 0)) Q 1000 0 (x_rd_readDish T201 p0)) Q 1000 0 (x_rd_readKitchen (x_rd_advance (sF (sF (x_bk_clear T p0) 13 2 0) 13 4 0)) p0)
theorem so_rd_read {T : St} (p0 : Nat) {Q : St → Prop} (w : wp_rd_read T p0 Q) : ok_rd_read T p0 ∧ Q (x_rd_read T p0) := by
  unfold wp_rd_read at w
  unfold ok_rd_read x_rd_read
  obtain ⟨q1, w⟩ := w
  refine so_rq q1 ?_
  obtain ⟨q2, w⟩ := w
  refine so_rq q2 ?_
  obtain ⟨q3, w⟩ := w
  refine so_rq q3 ?_
  obtain ⟨q4, w⟩ := w
  refine so_rq q4 ?_
  refine so_rd_read_25 p0 (fun w1_2 T201 w => ?_) 1000 0 (x_rd_readKitchen (x_rd_advance (sF (sF (x_bk_clear T p0) 13 2 0) 13 4 0)) p0) w
  obtain ⟨q7, w⟩ := w
  refine so_rq q7 ?_
  refine so_rd_read_64 p0 (fun w2_2 T202 w => ?_) 1000 0 (x_rd_readDish T201 p0) w
  refine ⟨trivial, ?_⟩
  exact w
def wp_x_book (T : St)  (Q : Int32 × St → Prop) : Prop := (ok_rd_read T (T.2.1 1)) ∧ (((((x_rd_read T (T.2.1 1)).1 13 2) = 0) → jn (fun (r1 : Nat) => (ok_x_changed (sR (sR (x_rd_read T (T.2.1 1)) 1 ((x_rd_read T (T.2.1 1)).2.1 0)) 0 r1)) ∧ (sh ((x_x_changed (sR (sR (x_rd_read T (T.2.1 1)) 1 ((x_rd_read T (T.2.1 1)).2.1 0)) 0 r1)).2.1 0) = .inr 1) ∧ Q ((x_x_changed (sR (sR (x_rd_read T (T.2.1 1)) 1 ((x_rd_read T (T.2.1 1)).2.1 0)) 0 r1)).1 ((x_x_changed (sR (sR (x_rd_read T (T.2.1 1)) 1 ((x_rd_read T (T.2.1 1)).2.1 0)) 0 r1)).2.1 0) 4, x_x_changed (sR (sR (x_rd_read T (T.2.1 1)) 1 ((x_rd_read T (T.2.1 1)).2.1 0)) 0 r1))) ((x_rd_read T (T.2.1 1)).2.1 1)) ∧ (¬ (((x_rd_read T (T.2.1 1)).1 13 2) = 0) → Q ((-1000100) - ((sF (x_rd_read T (T.2.1 1)) 0 13 ((x_rd_read T (T.2.1 1)).1 13 2)).1 13 3), sF (x_rd_read T (T.2.1 1)) 0 13 ((x_rd_read T (T.2.1 1)).1 13 2))))
theorem so_x_book {T : St}  {Q : Int32 × St → Prop} (w : wp_x_book T  Q) : ok_x_book T  ∧ Q (x_x_book T ) := by
  unfold wp_x_book at w
  unfold ok_x_book x_x_book
  obtain ⟨q1, w⟩ := w
  refine so_rq q1 ?_
  refine so_ifT (Q := Q) w (fun c18_1 w => ?_) (fun c18_1 w => ?_)
  · refine so_n (Q := Q) w (fun r1 w => ?_)
    obtain ⟨q2, w⟩ := w
    refine so_rq q2 ?_
    obtain ⟨q3, w⟩ := w
    refine so_rq q3 ?_
    refine ⟨trivial, ?_⟩
    exact w
  · exact w
def wp_ask_markOf0 (T : St) (p0 : Nat) (p1 : Int32) (p2 : Int32) (Q : Int32 × St → Prop) : Prop := (((p2 ≤ 8) → (ok_bk_kindOf T p0 p1) ∧ (sh p0 = .inr 1) ∧ ((((x_bk_kindOf T p0 p1) = 3) → (ok_ask_begin T 23) ∧ (ok_ask_markOfAny (x_ask_begin T 23) p1) ∧ False) ∧ (¬ ((x_bk_kindOf T p0 p1) = 3) → ((((x_bk_kindOf T p0 p1) = 4) → (ok_ask_markOfRested T p1) ∧ Q ((x_ask_markOfRested T p1).1, (x_ask_markOfRested T p1).2)) ∧ (¬ ((x_bk_kindOf T p0 p1) = 4) → ((((x_bk_kindOf T p0 p1) = 5) → (ok_ask_begin T 22) ∧ (ok_ask_markOfRested (x_ask_begin T 22) p1) ∧ (vp_in p1 24) ∧ Q (((x_ask_markOfRested (x_ask_begin T 22) p1).1) + (((x_ask_markOfRested (x_ask_begin T 22) p1).2).2.2.1 (p0 + 13) (p1 : Int32).toNatClampNeg), (x_ask_markOfRested (x_ask_begin T 22) p1).2)) ∧ (¬ ((x_bk_kindOf T p0 p1) = 5) → ((((x_bk_kindOf T p0 p1) = 6) → (ok_ask_begin T 24) ∧ (ok_ask_markOfAny (x_ask_begin T 24) p1) ∧ Q (-((x_ask_markOfAny (x_ask_begin T 24) p1).1), (x_ask_markOfAny (x_ask_begin T 24) p1).2)) ∧ (¬ ((x_bk_kindOf T p0 p1) = 6) → (ok_ask_markOfAny T p1) ∧ Q ((x_ask_markOfAny T p1).1, (x_ask_markOfAny T p1).2)))))))))) ∧ (¬ (p2 ≤ 8) → Q (0, T)))
theorem so_ask_markOf0 {T : St} (p0 : Nat) (p1 : Int32) (p2 : Int32) {Q : Int32 × St → Prop} (w : wp_ask_markOf0 T p0 p1 p2 Q) : ok_ask_markOf0 T p0 p1 p2 ∧ Q (x_ask_markOf0 T p0 p1 p2) := by
  unfold wp_ask_markOf0 at w
  unfold ok_ask_markOf0 x_ask_markOf0
  refine so_ifT (Q := Q) w (fun c3_1 w => ?_) (fun c3_1 w => ?_)
  · obtain ⟨q1, w⟩ := w
    refine so_rq q1 ?_
    obtain ⟨q2, w⟩ := w
    refine so_rq q2 ?_
    refine so_if2 (Q := Q) w (fun s13_2_0 w => ?_) (fun s13_2_0 w => ?_)
    · obtain ⟨q3, w⟩ := w
      refine so_rq q3 ?_
      obtain ⟨q4, w⟩ := w
      refine so_rq q4 ?_
      exact w.elim
    · refine so_if2 (Q := Q) w (fun s13_2_1 w => ?_) (fun s13_2_1 w => ?_)
      · obtain ⟨q5, w⟩ := w
        refine so_rq q5 ?_
        refine ⟨trivial, ?_⟩
        exact w
      · refine so_if2 (Q := Q) w (fun s13_2_2 w => ?_) (fun s13_2_2 w => ?_)
        · obtain ⟨q6, w⟩ := w
          refine so_rq q6 ?_
          obtain ⟨q7, w⟩ := w
          refine so_rq q7 ?_
          obtain ⟨q8, w⟩ := w
          refine so_rq q8 ?_
          refine ⟨trivial, ?_⟩
          exact w
        · refine so_if2 (Q := Q) w (fun s13_2_3 w => ?_) (fun s13_2_3 w => ?_)
          · obtain ⟨q9, w⟩ := w
            refine so_rq q9 ?_
            obtain ⟨q10, w⟩ := w
            refine so_rq q10 ?_
            refine ⟨trivial, ?_⟩
            exact w
          · obtain ⟨q11, w⟩ := w
            refine so_rq q11 ?_
            refine ⟨trivial, ?_⟩
            exact w
  · exact w
def wp_ask_sizeOf (T : St) (p0 : Nat) (p1 : Int32) (p2 : Int32) (Q : Int32 × St → Prop) : Prop := (((p2 ≤ 8) → (ok_bk_kindOf T p0 p1) ∧ (sh p0 = .inr 1) ∧ ((((x_bk_kindOf T p0 p1) = 1) → (ok_ask_sizeOfRinged T p0 p1) ∧ Q ((x_ask_sizeOfRinged T p0 p1).1, (x_ask_sizeOfRinged T p0 p1).2)) ∧ (¬ ((x_bk_kindOf T p0 p1) = 1) → ((((x_bk_kindOf T p0 p1) = 2) → (ok_ask_begin T 13) ∧ (ok_ask_sizeOfAny (x_ask_begin T 13) p0 p1) ∧ (vp_in p1 24) ∧ Q ((((x_ask_sizeOfAny (x_ask_begin T 13) p0 p1).1) + (((x_ask_sizeOfAny (x_ask_begin T 13) p0 p1).2).2.2.1 (p0 + 14) (p1 : Int32).toNatClampNeg)) - (((x_ask_sizeOfAny (x_ask_begin T 13) p0 p1).2).2.2.1 (p0 + 13) (p1 : Int32).toNatClampNeg), (x_ask_sizeOfAny (x_ask_begin T 13) p0 p1).2)) ∧ (¬ ((x_bk_kindOf T p0 p1) = 2) → ((((x_bk_kindOf T p0 p1) = 3) → (ok_ask_sizeOfAny T p0 p1) ∧ Q ((x_ask_sizeOfAny T p0 p1).1, (x_ask_sizeOfAny T p0 p1).2)) ∧ (¬ ((x_bk_kindOf T p0 p1) = 3) → ((((x_bk_kindOf T p0 p1) = 4) → (ok_ask_sizeOfAny T p0 p1) ∧ Q ((x_ask_sizeOfAny T p0 p1).1, (x_ask_sizeOfAny T p0 p1).2)) ∧ (¬ ((x_bk_kindOf T p0 p1) = 4) → ((((x_bk_kindOf T p0 p1) = 5) → (ok_ask_begin T 14) ∧ (ok_ask_sizeOfAny (x_ask_begin T 14) p0 p1) ∧ (ok_ask_markOf0 ((x_ask_sizeOfAny (x_ask_begin T 14) p0 p1).2) p0 p1 (p2 + 1)) ∧ Q (((x_ask_sizeOfAny (x_ask_begin T 14) p0 p1).1) - ((x_ask_markOf0 ((x_ask_sizeOfAny (x_ask_begin T 14) p0 p1).2) p0 p1 (p2 + 1)).1), (x_ask_markOf0 ((x_ask_sizeOfAny (x_ask_begin T 14) p0 p1).2) p0 p1 (p2 + 1)).2)) ∧ (¬ ((x_bk_kindOf T p0 p1) = 5) → ((((x_bk_kindOf T p0 p1) = 6) → (ok_ask_begin T 12) ∧ (ok_ask_sizeOfRinged (x_ask_begin T 12) p0 p1) ∧ Q (2 * ((x_ask_sizeOfRinged (x_ask_begin T 12) p0 p1).1), (x_ask_sizeOfRinged (x_ask_begin T 12) p0 p1).2)) ∧ (¬ ((x_bk_kindOf T p0 p1) = 6) → (ok_ask_sizeOfAny T p0 p1) ∧ Q ((x_ask_sizeOfAny T p0 p1).1, (x_ask_sizeOfAny T p0 p1).2)))))))))))))) ∧ (¬ (p2 ≤ 8) → Q (0, T)))
theorem so_ask_sizeOf {T : St} (p0 : Nat) (p1 : Int32) (p2 : Int32) {Q : Int32 × St → Prop} (w : wp_ask_sizeOf T p0 p1 p2 Q) : ok_ask_sizeOf T p0 p1 p2 ∧ Q (x_ask_sizeOf T p0 p1 p2) := by
  unfold wp_ask_sizeOf at w
  unfold ok_ask_sizeOf x_ask_sizeOf
  refine so_ifT (Q := Q) w (fun c3_1 w => ?_) (fun c3_1 w => ?_)
  · obtain ⟨q1, w⟩ := w
    refine so_rq q1 ?_
    obtain ⟨q2, w⟩ := w
    refine so_rq q2 ?_
    refine so_if2 (Q := Q) w (fun s13_2_0 w => ?_) (fun s13_2_0 w => ?_)
    · obtain ⟨q3, w⟩ := w
      refine so_rq q3 ?_
      refine ⟨trivial, ?_⟩
      exact w
    · refine so_if2 (Q := Q) w (fun s13_2_1 w => ?_) (fun s13_2_1 w => ?_)
      · obtain ⟨q4, w⟩ := w
        refine so_rq q4 ?_
        obtain ⟨q5, w⟩ := w
        refine so_rq q5 ?_
        obtain ⟨q6, w⟩ := w
        refine so_rq q6 ?_
        refine ⟨trivial, ?_⟩
        exact w
      · refine so_if2 (Q := Q) w (fun s13_2_2 w => ?_) (fun s13_2_2 w => ?_)
        · obtain ⟨q7, w⟩ := w
          refine so_rq q7 ?_
          refine ⟨trivial, ?_⟩
          exact w
        · refine so_if2 (Q := Q) w (fun s13_2_3 w => ?_) (fun s13_2_3 w => ?_)
          · obtain ⟨q8, w⟩ := w
            refine so_rq q8 ?_
            refine ⟨trivial, ?_⟩
            exact w
          · refine so_if2 (Q := Q) w (fun s13_2_4 w => ?_) (fun s13_2_4 w => ?_)
            · obtain ⟨q9, w⟩ := w
              refine so_rq q9 ?_
              obtain ⟨q10, w⟩ := w
              refine so_rq q10 ?_
              obtain ⟨q11, w⟩ := w
              refine so_rq q11 ?_
              refine ⟨trivial, ?_⟩
              exact w
            · refine so_if2 (Q := Q) w (fun s13_2_5 w => ?_) (fun s13_2_5 w => ?_)
              · obtain ⟨q12, w⟩ := w
                refine so_rq q12 ?_
                obtain ⟨q13, w⟩ := w
                refine so_rq q13 ?_
                refine ⟨trivial, ?_⟩
                exact w
              · obtain ⟨q14, w⟩ := w
                refine so_rq q14 ?_
                refine ⟨trivial, ?_⟩
                exact w
  · exact w
def wp_ask_markOf (T : St) (p0 : Nat) (p1 : Int32) (p2 : Int32) (Q : Int32 × St → Prop) : Prop := (((p2 ≤ 8) → (ok_bk_kindOf T p0 p1) ∧ (sh p0 = .inr 1) ∧ ((((x_bk_kindOf T p0 p1) = 3) → (ok_ask_begin T 23) ∧ (ok_ask_markOfAny (x_ask_begin T 23) p1) ∧ (ok_ask_sizeOf ((x_ask_markOfAny (x_ask_begin T 23) p1).2) p0 p1 (p2 + 1)) ∧ Q (((x_ask_markOfAny (x_ask_begin T 23) p1).1) + ((x_ask_sizeOf ((x_ask_markOfAny (x_ask_begin T 23) p1).2) p0 p1 (p2 + 1)).1), (x_ask_sizeOf ((x_ask_markOfAny (x_ask_begin T 23) p1).2) p0 p1 (p2 + 1)).2)) ∧ (¬ ((x_bk_kindOf T p0 p1) = 3) → ((((x_bk_kindOf T p0 p1) = 4) → (ok_ask_markOfRested T p1) ∧ Q ((x_ask_markOfRested T p1).1, (x_ask_markOfRested T p1).2)) ∧ (¬ ((x_bk_kindOf T p0 p1) = 4) → ((((x_bk_kindOf T p0 p1) = 5) → (ok_ask_begin T 22) ∧ (ok_ask_markOfRested (x_ask_begin T 22) p1) ∧ (vp_in p1 24) ∧ Q (((x_ask_markOfRested (x_ask_begin T 22) p1).1) + (((x_ask_markOfRested (x_ask_begin T 22) p1).2).2.2.1 (p0 + 13) (p1 : Int32).toNatClampNeg), (x_ask_markOfRested (x_ask_begin T 22) p1).2)) ∧ (¬ ((x_bk_kindOf T p0 p1) = 5) → ((((x_bk_kindOf T p0 p1) = 6) → (ok_ask_begin T 24) ∧ (ok_ask_markOfAny (x_ask_begin T 24) p1) ∧ Q (-((x_ask_markOfAny (x_ask_begin T 24) p1).1), (x_ask_markOfAny (x_ask_begin T 24) p1).2)) ∧ (¬ ((x_bk_kindOf T p0 p1) = 6) → (ok_ask_markOfAny T p1) ∧ Q ((x_ask_markOfAny T p1).1, (x_ask_markOfAny T p1).2)))))))))) ∧ (¬ (p2 ≤ 8) → Q (0, T)))
theorem so_ask_markOf {T : St} (p0 : Nat) (p1 : Int32) (p2 : Int32) {Q : Int32 × St → Prop} (w : wp_ask_markOf T p0 p1 p2 Q) : ok_ask_markOf T p0 p1 p2 ∧ Q (x_ask_markOf T p0 p1 p2) := by
  unfold wp_ask_markOf at w
  unfold ok_ask_markOf x_ask_markOf
  refine so_ifT (Q := Q) w (fun c3_1 w => ?_) (fun c3_1 w => ?_)
  · obtain ⟨q1, w⟩ := w
    refine so_rq q1 ?_
    obtain ⟨q2, w⟩ := w
    refine so_rq q2 ?_
    refine so_if2 (Q := Q) w (fun s13_2_0 w => ?_) (fun s13_2_0 w => ?_)
    · obtain ⟨q3, w⟩ := w
      refine so_rq q3 ?_
      obtain ⟨q4, w⟩ := w
      refine so_rq q4 ?_
      obtain ⟨q5, w⟩ := w
      refine so_rq q5 ?_
      refine ⟨trivial, ?_⟩
      exact w
    · refine so_if2 (Q := Q) w (fun s13_2_1 w => ?_) (fun s13_2_1 w => ?_)
      · obtain ⟨q6, w⟩ := w
        refine so_rq q6 ?_
        refine ⟨trivial, ?_⟩
        exact w
      · refine so_if2 (Q := Q) w (fun s13_2_2 w => ?_) (fun s13_2_2 w => ?_)
        · obtain ⟨q7, w⟩ := w
          refine so_rq q7 ?_
          obtain ⟨q8, w⟩ := w
          refine so_rq q8 ?_
          obtain ⟨q9, w⟩ := w
          refine so_rq q9 ?_
          refine ⟨trivial, ?_⟩
          exact w
        · refine so_if2 (Q := Q) w (fun s13_2_3 w => ?_) (fun s13_2_3 w => ?_)
          · obtain ⟨q10, w⟩ := w
            refine so_rq q10 ?_
            obtain ⟨q11, w⟩ := w
            refine so_rq q11 ?_
            refine ⟨trivial, ?_⟩
            exact w
          · obtain ⟨q12, w⟩ := w
            refine so_rq q12 ?_
            refine ⟨trivial, ?_⟩
            exact w
  · exact w
def bd_pl_seek0_27 (l1 : Int32) (l2 : Int32) (l3 : Int32) (Kk : Int32 → St → Prop) (Q : St → Prop) (N : Int32 → St → Prop) (v4 : Int32) (T : St) : Prop := (vp_in l1 4) ∧ (vp_in (T.2.2.1 94 (l1 : Int32).toNatClampNeg) 8) ∧ ((((T.2.2.1 82 (T.2.2.1 94 (l1 : Int32).toNatClampNeg : Int32).toNatClampNeg) ≤ v4) → Kk v4 T) ∧ (¬ ((T.2.2.1 82 (T.2.2.1 94 (l1 : Int32).toNatClampNeg : Int32).toNatClampNeg) ≤ v4) → (vp_in l1 5) ∧ ((((((T.2.2.1 (100 + (l1 : Int32).toNatClampNeg) (l1 : Int32).toNatClampNeg) >>> (v4 &&& 31)) &&& 1) = 0) → N (v4 + 1) T) ∧ (¬ ((((T.2.2.1 (100 + (l1 : Int32).toNatClampNeg) (l1 : Int32).toNatClampNeg) >>> (v4 &&& 31)) &&& 1) = 0) → (vp_in (l3 + v4) 96) ∧ jn (fun (r2 : Nat) => (sh r2 = .inr 10) ∧ (vp_in (l1 + 1) 5) ∧ ((((T.1 80 13) ≤ ((l2 + (T.1 r2 5)) + (T.2.2.1 97 (l1 + 1 : Int32).toNatClampNeg))) → N (v4 + 1) T) ∧ (¬ ((T.1 80 13) ≤ ((l2 + (T.1 r2 5)) + (T.2.2.1 97 (l1 + 1 : Int32).toNatClampNeg))) → (ok_ta_hasRoom T (507 + 5 * (l1 : Int32).toNatClampNeg) (r2 + 3)) ∧ ((((x_ta_hasRoom T (507 + 5 * (l1 : Int32).toNatClampNeg) (r2 + 3)) = 0) → N (v4 + 1) T) ∧ (¬ ((x_ta_hasRoom T (507 + 5 * (l1 : Int32).toNatClampNeg) (r2 + 3)) = 0) → (ok_pl_leavesOpen T l1 (l3 + v4)) ∧ (((((x_pl_leavesOpen T l1 (l3 + v4)).1) = 0) → N (v4 + 1) ((x_pl_leavesOpen T l1 (l3 + v4)).2)) ∧ (¬ (((x_pl_leavesOpen T l1 (l3 + v4)).1) = 0) → jn (fun (KJ1 : St → Prop) => (((((sA ((x_pl_leavesOpen T l1 (l3 + v4)).2) 95 (l1 : Int32).toNatClampNeg (l3 + v4)).1 80 12) ≤ (l1 + 1)) → KJ1 (sA ((x_pl_leavesOpen T l1 (l3 + v4)).2) 95 (l1 : Int32).toNatClampNeg (l3 + v4))) ∧ (¬ (((sA ((x_pl_leavesOpen T l1 (l3 + v4)).2) 95 (l1 : Int32).toNatClampNeg (l3 + v4)).1 80 12) ≤ (l1 + 1)) → (vp_in (l1 + 1) 4) ∧ (ok_ta_add (sA ((x_pl_leavesOpen T l1 (l3 + v4)).2) 95 (l1 : Int32).toNatClampNeg (l3 + v4)) (507 + 5 * (l1 + 1 : Int32).toNatClampNeg) (507 + 5 * (l1 : Int32).toNatClampNeg) (r2 + 3) ((sA ((x_pl_leavesOpen T l1 (l3 + v4)).2) 95 (l1 : Int32).toNatClampNeg (l3 + v4)).2.1 3)) ∧ jn (fun (T4 : St) => KJ1 T4) (x_ta_add (sA ((x_pl_leavesOpen T l1 (l3 + v4)).2) 95 (l1 : Int32).toNatClampNeg (l3 + v4)) (507 + 5 * (l1 + 1 : Int32).toNatClampNeg) (507 + 5 * (l1 : Int32).toNatClampNeg) (r2 + 3) ((sA ((x_pl_leavesOpen T l1 (l3 + v4)).2) 95 (l1 : Int32).toNatClampNeg (l3 + v4)).2.1 3))))) (fun (T301 : St) => False)))))))) (123 + 4 * (l3 + v4 : Int32).toNatClampNeg)))))
def wp_pl_seek0_27 (l1 : Int32) (l2 : Int32) (l3 : Int32) (Kk : Int32 → St → Prop) (Q : St → Prop) : Nat → Int32 → St → Prop
  | 0, _, _ => False
  | f + 1, v4, T => bd_pl_seek0_27 l1 l2 l3 Kk Q (wp_pl_seek0_27 l1 l2 l3 Kk Q f) v4 T
theorem mb_pl_seek0_27 (l1 : Int32) (l2 : Int32) (l3 : Int32) {Kk Kk2 : Int32 → St → Prop} {Q Q2 : St → Prop} {N N2 : Int32 → St → Prop} (hK : ∀ (v4 : Int32) (T : St), Kk v4 T → Kk2 v4 T) (hQ : ∀ r, Q r → Q2 r) (hN : ∀ (v4 : Int32) (T : St), N v4 T → N2 v4 T) (v4 : Int32) (T : St) (w : bd_pl_seek0_27 l1 l2 l3 Kk Q N v4 T) : bd_pl_seek0_27 l1 l2 l3 Kk2 Q2 N2 v4 T := by
  unfold bd_pl_seek0_27 at w ⊢
  obtain ⟨q2, w⟩ := w
  refine ⟨q2, ?_⟩
  obtain ⟨q3, w⟩ := w
  refine ⟨q3, ?_⟩
  refine mo_if w (fun c40_2 w => ?_) (fun c40_2 w => ?_)
  · exact hK v4 T w
  · obtain ⟨q4, w⟩ := w
    refine ⟨q4, ?_⟩
    refine mo_if w (fun c56_3 w => ?_) (fun c56_3 w => ?_)
    · exact hN (v4 + 1) T w
    · obtain ⟨q5, w⟩ := w
      refine ⟨q5, ?_⟩
      refine mo_n w (fun r2 w => ?_)
      obtain ⟨q6, w⟩ := w
      refine ⟨q6, ?_⟩
      obtain ⟨q7, w⟩ := w
      refine ⟨q7, ?_⟩
      refine mo_if w (fun c93_4 w => ?_) (fun c93_4 w => ?_)
      · exact hN (v4 + 1) T w
      · obtain ⟨q8, w⟩ := w
        refine ⟨q8, ?_⟩
        refine mo_if w (fun c110_5 w => ?_) (fun c110_5 w => ?_)
        · exact hN (v4 + 1) T w
        · obtain ⟨q9, w⟩ := w
          refine ⟨q9, ?_⟩
          refine mo_if w (fun c122_6 w => ?_) (fun c122_6 w => ?_)
          · exact hN (v4 + 1) ((x_pl_leavesOpen T l1 (l3 + v4)).2) w
          · refine mo_jn (J := fun (KJ1 : St → Prop) (WKJ1 : St → Prop) => ∀ (T301 : St), KJ1 T301 → WKJ1 T301) w (fun T301 w => ?_) (fun KJ1 WKJ1 hJ1 w => ?_)
            · skip
              exact w.elim
            · skip
              refine mo_if w (fun c142_8 w => ?_) (fun c142_8 w => ?_)
              · exact hJ1 (sA ((x_pl_leavesOpen T l1 (l3 + v4)).2) 95 (l1 : Int32).toNatClampNeg (l3 + v4)) w
              · obtain ⟨q12, w⟩ := w
                refine ⟨q12, ?_⟩
                obtain ⟨q13, w⟩ := w
                refine ⟨q13, ?_⟩
                refine mo_n w (fun T4 w => ?_)
                exact hJ1 T4 w
theorem mo_pl_seek0_27 (l1 : Int32) (l2 : Int32) (l3 : Int32) {Kk Kk2 : Int32 → St → Prop} {Q Q2 : St → Prop} (hK : ∀ (v4 : Int32) (T : St), Kk v4 T → Kk2 v4 T) (hQ : ∀ r, Q r → Q2 r) : ∀ (f : Nat) (v4 : Int32) (T : St), wp_pl_seek0_27 l1 l2 l3 Kk Q f v4 T → wp_pl_seek0_27 l1 l2 l3 Kk2 Q2 f v4 T := by
  intro f
  induction f with
  | zero => intro v4 T w; exact w.elim
  | succ f ih => intro v4 T w; exact mb_pl_seek0_27 l1 l2 l3 hK hQ ih v4 T w
theorem wr_pl_seek0_27 (l1 : Int32) (l2 : Int32) (l3 : Int32) {Kk : Int32 → St → Prop} {Q : St → Prop} (I : Int32 → St → Prop) (m : Int32 → St → Nat) (hv : ∀ (v4 : Int32) (T : St), I v4 T → bd_pl_seek0_27 l1 l2 l3 Kk Q (fun uv4 uT => I uv4 uT ∧ m uv4 uT < m v4 T) v4 T) : ∀ (f : Nat) (v4 : Int32) (T : St), m v4 T < f → I v4 T → wp_pl_seek0_27 l1 l2 l3 Kk Q f v4 T := by
  intro f
  induction f with
  | zero => intro v4 T h; exact absurd h (Nat.not_lt_zero _)
  | succ f ih => intro v4 T h hi; exact mb_pl_seek0_27 l1 l2 l3 (fun _ _ h => h) (fun _ h => h) (fun uv4 uT g => ih uv4 uT (by omega) g.1) v4 T (hv v4 T hi)
theorem so_pl_seek0_27 (l1 : Int32) (l2 : Int32) (l3 : Int32) {K : Int32 → St → St} {Kk Kk2 : Int32 → St → Prop} {Q : St → Prop} (hk : ∀ (v4 : Int32) (T : St), Kk v4 T → Kk2 v4 T ∧ Q (K v4 T)) : ∀ (f : Nat) (v4 : Int32) (T : St), wp_pl_seek0_27 l1 l2 l3 Kk Q f v4 T → ok_pl_seek0_27 l1 l2 l3 Kk2 f v4 T ∧ Q (x_pl_seek0_27 l1 l2 l3 K f v4 T) := by
  intro f
  induction f with
  | zero => intro v4 T w; exact w.elim
  | succ f ih =>
    intro v4 T w
    rw [wp_pl_seek0_27, bd_pl_seek0_27] at w
    rw [ok_pl_seek0_27, x_pl_seek0_27]
    obtain ⟨q2, w⟩ := w
    refine so_rq q2 ?_
    obtain ⟨q3, w⟩ := w
    refine so_rq q3 ?_
    refine so_if2 (Q := Q) w (fun c40_2 w => ?_) (fun c40_2 w => ?_)
    · exact hk v4 T w
    · obtain ⟨q4, w⟩ := w
      refine so_rq q4 ?_
      refine so_if2 (Q := Q) w (fun c56_3 w => ?_) (fun c56_3 w => ?_)
      · exact ih (v4 + 1) T w
      · obtain ⟨q5, w⟩ := w
        refine so_rq q5 ?_
        refine so_n (Q := Q) w (fun r2 w => ?_)
        obtain ⟨q6, w⟩ := w
        refine so_rq q6 ?_
        obtain ⟨q7, w⟩ := w
        refine so_rq q7 ?_
        refine so_if2 (Q := Q) w (fun c93_4 w => ?_) (fun c93_4 w => ?_)
        · exact ih (v4 + 1) T w
        · obtain ⟨q8, w⟩ := w
          refine so_rq q8 ?_
          refine so_if2 (Q := Q) w (fun c110_5 w => ?_) (fun c110_5 w => ?_)
          · exact ih (v4 + 1) T w
          · obtain ⟨q9, w⟩ := w
            refine so_rq q9 ?_
            refine so_if2 (Q := Q) w (fun c122_6 w => ?_) (fun c122_6 w => ?_)
            · exact ih (v4 + 1) ((x_pl_leavesOpen T l1 (l3 + v4)).2) w
            · refine so_jn (Q := Q) (J := fun (KJ1 : St → St) (OJ1 : St → Prop) (WKJ1 : St → Prop) => ∀ (T301 : St), WKJ1 T301 → OJ1 T301 ∧ Q (KJ1 T301)) w (fun T301 w => ?_) (fun KJ1 OJ1 WKJ1 hJ1 w => ?_)
              · skip
                exact w.elim
              · skip
                refine so_if2 (Q := Q) w (fun c142_8 w => ?_) (fun c142_8 w => ?_)
                · exact hJ1 (sA ((x_pl_leavesOpen T l1 (l3 + v4)).2) 95 (l1 : Int32).toNatClampNeg (l3 + v4)) w
                · obtain ⟨q12, w⟩ := w
                  refine so_rq q12 ?_
                  obtain ⟨q13, w⟩ := w
                  refine so_rq q13 ?_
                  refine so_n (Q := Q) w (fun T4 w => ?_)
                  exact hJ1 T4 w
def wp_pl_seek0 (T : St) (p0 : Int32) (p1 : Int32) (Q : St → Prop) : Prop := (((p0 < (T.1 80 12)) → (vp_in p0 4) ∧ jn (fun (i1 : Int32) => wp_pl_seek0_27 p0 p1 i1 (fun w1_4 T201 => Q T201) Q 1000 0 T) ((T.2.2.1 94 (p0 : Int32).toNatClampNeg) * 12)) ∧ (¬ (p0 < (T.1 80 12)) → (ok_pl_keepPicked T p1) ∧ Q (x_pl_keepPicked T p1)))
theorem so_pl_seek0 {T : St} (p0 : Int32) (p1 : Int32) {Q : St → Prop} (w : wp_pl_seek0 T p0 p1 Q) : ok_pl_seek0 T p0 p1 ∧ Q (x_pl_seek0 T p0 p1) := by
  unfold wp_pl_seek0 at w
  unfold ok_pl_seek0 x_pl_seek0
  refine so_if2 (Q := Q) w (fun c5_1 w => ?_) (fun c5_1 w => ?_)
  · obtain ⟨q1, w⟩ := w
    refine so_rq q1 ?_
    refine so_n (Q := Q) w (fun i1 w => ?_)
    refine so_pl_seek0_27 p0 p1 i1 (fun w1_4 T201 w => ?_) 1000 0 T w
    refine ⟨trivial, ?_⟩
    exact w
  · obtain ⟨q14, w⟩ := w
    refine so_rq q14 ?_
    refine ⟨trivial, ?_⟩
    exact w
def bd_pl_seek1_27 (l1 : Int32) (l2 : Int32) (l3 : Int32) (Kk : Int32 → St → Prop) (Q : St → Prop) (N : Int32 → St → Prop) (v4 : Int32) (T : St) : Prop := (vp_in l1 4) ∧ (vp_in (T.2.2.1 94 (l1 : Int32).toNatClampNeg) 8) ∧ ((((T.2.2.1 82 (T.2.2.1 94 (l1 : Int32).toNatClampNeg : Int32).toNatClampNeg) ≤ v4) → Kk v4 T) ∧ (¬ ((T.2.2.1 82 (T.2.2.1 94 (l1 : Int32).toNatClampNeg : Int32).toNatClampNeg) ≤ v4) → (vp_in l1 5) ∧ ((((((T.2.2.1 (100 + (l1 : Int32).toNatClampNeg) (l1 : Int32).toNatClampNeg) >>> (v4 &&& 31)) &&& 1) = 0) → N (v4 + 1) T) ∧ (¬ ((((T.2.2.1 (100 + (l1 : Int32).toNatClampNeg) (l1 : Int32).toNatClampNeg) >>> (v4 &&& 31)) &&& 1) = 0) → (vp_in (l3 + v4) 96) ∧ jn (fun (r2 : Nat) => (sh r2 = .inr 10) ∧ (vp_in (l1 + 1) 5) ∧ ((((T.1 80 13) ≤ ((l2 + (T.1 r2 5)) + (T.2.2.1 97 (l1 + 1 : Int32).toNatClampNeg))) → N (v4 + 1) T) ∧ (¬ ((T.1 80 13) ≤ ((l2 + (T.1 r2 5)) + (T.2.2.1 97 (l1 + 1 : Int32).toNatClampNeg))) → (ok_ta_hasRoom T (507 + 5 * (l1 : Int32).toNatClampNeg) (r2 + 3)) ∧ ((((x_ta_hasRoom T (507 + 5 * (l1 : Int32).toNatClampNeg) (r2 + 3)) = 0) → N (v4 + 1) T) ∧ (¬ ((x_ta_hasRoom T (507 + 5 * (l1 : Int32).toNatClampNeg) (r2 + 3)) = 0) → (ok_pl_leavesOpen T l1 (l3 + v4)) ∧ (((((x_pl_leavesOpen T l1 (l3 + v4)).1) = 0) → N (v4 + 1) ((x_pl_leavesOpen T l1 (l3 + v4)).2)) ∧ (¬ (((x_pl_leavesOpen T l1 (l3 + v4)).1) = 0) → jn (fun (KJ1 : St → Prop) => (((((sA ((x_pl_leavesOpen T l1 (l3 + v4)).2) 95 (l1 : Int32).toNatClampNeg (l3 + v4)).1 80 12) ≤ (l1 + 1)) → KJ1 (sA ((x_pl_leavesOpen T l1 (l3 + v4)).2) 95 (l1 : Int32).toNatClampNeg (l3 + v4))) ∧ (¬ (((sA ((x_pl_leavesOpen T l1 (l3 + v4)).2) 95 (l1 : Int32).toNatClampNeg (l3 + v4)).1 80 12) ≤ (l1 + 1)) → (vp_in (l1 + 1) 4) ∧ (ok_ta_add (sA ((x_pl_leavesOpen T l1 (l3 + v4)).2) 95 (l1 : Int32).toNatClampNeg (l3 + v4)) (507 + 5 * (l1 + 1 : Int32).toNatClampNeg) (507 + 5 * (l1 : Int32).toNatClampNeg) (r2 + 3) ((sA ((x_pl_leavesOpen T l1 (l3 + v4)).2) 95 (l1 : Int32).toNatClampNeg (l3 + v4)).2.1 3)) ∧ jn (fun (T4 : St) => KJ1 T4) (x_ta_add (sA ((x_pl_leavesOpen T l1 (l3 + v4)).2) 95 (l1 : Int32).toNatClampNeg (l3 + v4)) (507 + 5 * (l1 + 1 : Int32).toNatClampNeg) (507 + 5 * (l1 : Int32).toNatClampNeg) (r2 + 3) ((sA ((x_pl_leavesOpen T l1 (l3 + v4)).2) 95 (l1 : Int32).toNatClampNeg (l3 + v4)).2.1 3))))) (fun (T301 : St) => (ok_pl_seek0 T301 (l1 + 1) (l2 + (T301.1 r2 5))) ∧ N (v4 + 1) (x_pl_seek0 T301 (l1 + 1) (l2 + (T301.1 r2 5))))))))))) (123 + 4 * (l3 + v4 : Int32).toNatClampNeg)))))
def wp_pl_seek1_27 (l1 : Int32) (l2 : Int32) (l3 : Int32) (Kk : Int32 → St → Prop) (Q : St → Prop) : Nat → Int32 → St → Prop
  | 0, _, _ => False
  | f + 1, v4, T => bd_pl_seek1_27 l1 l2 l3 Kk Q (wp_pl_seek1_27 l1 l2 l3 Kk Q f) v4 T
theorem mb_pl_seek1_27 (l1 : Int32) (l2 : Int32) (l3 : Int32) {Kk Kk2 : Int32 → St → Prop} {Q Q2 : St → Prop} {N N2 : Int32 → St → Prop} (hK : ∀ (v4 : Int32) (T : St), Kk v4 T → Kk2 v4 T) (hQ : ∀ r, Q r → Q2 r) (hN : ∀ (v4 : Int32) (T : St), N v4 T → N2 v4 T) (v4 : Int32) (T : St) (w : bd_pl_seek1_27 l1 l2 l3 Kk Q N v4 T) : bd_pl_seek1_27 l1 l2 l3 Kk2 Q2 N2 v4 T := by
  unfold bd_pl_seek1_27 at w ⊢
  obtain ⟨q2, w⟩ := w
  refine ⟨q2, ?_⟩
  obtain ⟨q3, w⟩ := w
  refine ⟨q3, ?_⟩
  refine mo_if w (fun c40_2 w => ?_) (fun c40_2 w => ?_)
  · exact hK v4 T w
  · obtain ⟨q4, w⟩ := w
    refine ⟨q4, ?_⟩
    refine mo_if w (fun c56_3 w => ?_) (fun c56_3 w => ?_)
    · exact hN (v4 + 1) T w
    · obtain ⟨q5, w⟩ := w
      refine ⟨q5, ?_⟩
      refine mo_n w (fun r2 w => ?_)
      obtain ⟨q6, w⟩ := w
      refine ⟨q6, ?_⟩
      obtain ⟨q7, w⟩ := w
      refine ⟨q7, ?_⟩
      refine mo_if w (fun c93_4 w => ?_) (fun c93_4 w => ?_)
      · exact hN (v4 + 1) T w
      · obtain ⟨q8, w⟩ := w
        refine ⟨q8, ?_⟩
        refine mo_if w (fun c110_5 w => ?_) (fun c110_5 w => ?_)
        · exact hN (v4 + 1) T w
        · obtain ⟨q9, w⟩ := w
          refine ⟨q9, ?_⟩
          refine mo_if w (fun c122_6 w => ?_) (fun c122_6 w => ?_)
          · exact hN (v4 + 1) ((x_pl_leavesOpen T l1 (l3 + v4)).2) w
          · refine mo_jn (J := fun (KJ1 : St → Prop) (WKJ1 : St → Prop) => ∀ (T301 : St), KJ1 T301 → WKJ1 T301) w (fun T301 w => ?_) (fun KJ1 WKJ1 hJ1 w => ?_)
            · skip
              obtain ⟨q12, w⟩ := w
              refine ⟨q12, ?_⟩
              exact hN (v4 + 1) (x_pl_seek0 T301 (l1 + 1) (l2 + (T301.1 r2 5))) w
            · skip
              refine mo_if w (fun c142_8 w => ?_) (fun c142_8 w => ?_)
              · exact hJ1 (sA ((x_pl_leavesOpen T l1 (l3 + v4)).2) 95 (l1 : Int32).toNatClampNeg (l3 + v4)) w
              · obtain ⟨q13, w⟩ := w
                refine ⟨q13, ?_⟩
                obtain ⟨q14, w⟩ := w
                refine ⟨q14, ?_⟩
                refine mo_n w (fun T4 w => ?_)
                exact hJ1 T4 w
theorem mo_pl_seek1_27 (l1 : Int32) (l2 : Int32) (l3 : Int32) {Kk Kk2 : Int32 → St → Prop} {Q Q2 : St → Prop} (hK : ∀ (v4 : Int32) (T : St), Kk v4 T → Kk2 v4 T) (hQ : ∀ r, Q r → Q2 r) : ∀ (f : Nat) (v4 : Int32) (T : St), wp_pl_seek1_27 l1 l2 l3 Kk Q f v4 T → wp_pl_seek1_27 l1 l2 l3 Kk2 Q2 f v4 T := by
  intro f
  induction f with
  | zero => intro v4 T w; exact w.elim
  | succ f ih => intro v4 T w; exact mb_pl_seek1_27 l1 l2 l3 hK hQ ih v4 T w
theorem wr_pl_seek1_27 (l1 : Int32) (l2 : Int32) (l3 : Int32) {Kk : Int32 → St → Prop} {Q : St → Prop} (I : Int32 → St → Prop) (m : Int32 → St → Nat) (hv : ∀ (v4 : Int32) (T : St), I v4 T → bd_pl_seek1_27 l1 l2 l3 Kk Q (fun uv4 uT => I uv4 uT ∧ m uv4 uT < m v4 T) v4 T) : ∀ (f : Nat) (v4 : Int32) (T : St), m v4 T < f → I v4 T → wp_pl_seek1_27 l1 l2 l3 Kk Q f v4 T := by
  intro f
  induction f with
  | zero => intro v4 T h; exact absurd h (Nat.not_lt_zero _)
  | succ f ih => intro v4 T h hi; exact mb_pl_seek1_27 l1 l2 l3 (fun _ _ h => h) (fun _ h => h) (fun uv4 uT g => ih uv4 uT (by omega) g.1) v4 T (hv v4 T hi)
theorem so_pl_seek1_27 (l1 : Int32) (l2 : Int32) (l3 : Int32) {K : Int32 → St → St} {Kk Kk2 : Int32 → St → Prop} {Q : St → Prop} (hk : ∀ (v4 : Int32) (T : St), Kk v4 T → Kk2 v4 T ∧ Q (K v4 T)) : ∀ (f : Nat) (v4 : Int32) (T : St), wp_pl_seek1_27 l1 l2 l3 Kk Q f v4 T → ok_pl_seek1_27 l1 l2 l3 Kk2 f v4 T ∧ Q (x_pl_seek1_27 l1 l2 l3 K f v4 T) := by
  intro f
  induction f with
  | zero => intro v4 T w; exact w.elim
  | succ f ih =>
    intro v4 T w
    rw [wp_pl_seek1_27, bd_pl_seek1_27] at w
    rw [ok_pl_seek1_27, x_pl_seek1_27]
    obtain ⟨q2, w⟩ := w
    refine so_rq q2 ?_
    obtain ⟨q3, w⟩ := w
    refine so_rq q3 ?_
    refine so_if2 (Q := Q) w (fun c40_2 w => ?_) (fun c40_2 w => ?_)
    · exact hk v4 T w
    · obtain ⟨q4, w⟩ := w
      refine so_rq q4 ?_
      refine so_if2 (Q := Q) w (fun c56_3 w => ?_) (fun c56_3 w => ?_)
      · exact ih (v4 + 1) T w
      · obtain ⟨q5, w⟩ := w
        refine so_rq q5 ?_
        refine so_n (Q := Q) w (fun r2 w => ?_)
        obtain ⟨q6, w⟩ := w
        refine so_rq q6 ?_
        obtain ⟨q7, w⟩ := w
        refine so_rq q7 ?_
        refine so_if2 (Q := Q) w (fun c93_4 w => ?_) (fun c93_4 w => ?_)
        · exact ih (v4 + 1) T w
        · obtain ⟨q8, w⟩ := w
          refine so_rq q8 ?_
          refine so_if2 (Q := Q) w (fun c110_5 w => ?_) (fun c110_5 w => ?_)
          · exact ih (v4 + 1) T w
          · obtain ⟨q9, w⟩ := w
            refine so_rq q9 ?_
            refine so_if2 (Q := Q) w (fun c122_6 w => ?_) (fun c122_6 w => ?_)
            · exact ih (v4 + 1) ((x_pl_leavesOpen T l1 (l3 + v4)).2) w
            · refine so_jn (Q := Q) (J := fun (KJ1 : St → St) (OJ1 : St → Prop) (WKJ1 : St → Prop) => ∀ (T301 : St), WKJ1 T301 → OJ1 T301 ∧ Q (KJ1 T301)) w (fun T301 w => ?_) (fun KJ1 OJ1 WKJ1 hJ1 w => ?_)
              · skip
                obtain ⟨q12, w⟩ := w
                refine so_rq q12 ?_
                exact ih (v4 + 1) (x_pl_seek0 T301 (l1 + 1) (l2 + (T301.1 r2 5))) w
              · skip
                refine so_if2 (Q := Q) w (fun c142_8 w => ?_) (fun c142_8 w => ?_)
                · exact hJ1 (sA ((x_pl_leavesOpen T l1 (l3 + v4)).2) 95 (l1 : Int32).toNatClampNeg (l3 + v4)) w
                · obtain ⟨q13, w⟩ := w
                  refine so_rq q13 ?_
                  obtain ⟨q14, w⟩ := w
                  refine so_rq q14 ?_
                  refine so_n (Q := Q) w (fun T4 w => ?_)
                  exact hJ1 T4 w
def wp_pl_seek1 (T : St) (p0 : Int32) (p1 : Int32) (Q : St → Prop) : Prop := (((p0 < (T.1 80 12)) → (vp_in p0 4) ∧ jn (fun (i1 : Int32) => wp_pl_seek1_27 p0 p1 i1 (fun w1_4 T201 => Q T201) Q 1000 0 T) ((T.2.2.1 94 (p0 : Int32).toNatClampNeg) * 12)) ∧ (¬ (p0 < (T.1 80 12)) → (ok_pl_keepPicked T p1) ∧ Q (x_pl_keepPicked T p1)))
theorem so_pl_seek1 {T : St} (p0 : Int32) (p1 : Int32) {Q : St → Prop} (w : wp_pl_seek1 T p0 p1 Q) : ok_pl_seek1 T p0 p1 ∧ Q (x_pl_seek1 T p0 p1) := by
  unfold wp_pl_seek1 at w
  unfold ok_pl_seek1 x_pl_seek1
  refine so_if2 (Q := Q) w (fun c5_1 w => ?_) (fun c5_1 w => ?_)
  · obtain ⟨q1, w⟩ := w
    refine so_rq q1 ?_
    refine so_n (Q := Q) w (fun i1 w => ?_)
    refine so_pl_seek1_27 p0 p1 i1 (fun w1_4 T201 w => ?_) 1000 0 T w
    refine ⟨trivial, ?_⟩
    exact w
  · obtain ⟨q15, w⟩ := w
    refine so_rq q15 ?_
    refine ⟨trivial, ?_⟩
    exact w
def bd_pl_seek2_27 (l1 : Int32) (l2 : Int32) (l3 : Int32) (Kk : Int32 → St → Prop) (Q : St → Prop) (N : Int32 → St → Prop) (v4 : Int32) (T : St) : Prop := (vp_in l1 4) ∧ (vp_in (T.2.2.1 94 (l1 : Int32).toNatClampNeg) 8) ∧ ((((T.2.2.1 82 (T.2.2.1 94 (l1 : Int32).toNatClampNeg : Int32).toNatClampNeg) ≤ v4) → Kk v4 T) ∧ (¬ ((T.2.2.1 82 (T.2.2.1 94 (l1 : Int32).toNatClampNeg : Int32).toNatClampNeg) ≤ v4) → (vp_in l1 5) ∧ ((((((T.2.2.1 (100 + (l1 : Int32).toNatClampNeg) (l1 : Int32).toNatClampNeg) >>> (v4 &&& 31)) &&& 1) = 0) → N (v4 + 1) T) ∧ (¬ ((((T.2.2.1 (100 + (l1 : Int32).toNatClampNeg) (l1 : Int32).toNatClampNeg) >>> (v4 &&& 31)) &&& 1) = 0) → (vp_in (l3 + v4) 96) ∧ jn (fun (r2 : Nat) => (sh r2 = .inr 10) ∧ (vp_in (l1 + 1) 5) ∧ ((((T.1 80 13) ≤ ((l2 + (T.1 r2 5)) + (T.2.2.1 97 (l1 + 1 : Int32).toNatClampNeg))) → N (v4 + 1) T) ∧ (¬ ((T.1 80 13) ≤ ((l2 + (T.1 r2 5)) + (T.2.2.1 97 (l1 + 1 : Int32).toNatClampNeg))) → (ok_ta_hasRoom T (507 + 5 * (l1 : Int32).toNatClampNeg) (r2 + 3)) ∧ ((((x_ta_hasRoom T (507 + 5 * (l1 : Int32).toNatClampNeg) (r2 + 3)) = 0) → N (v4 + 1) T) ∧ (¬ ((x_ta_hasRoom T (507 + 5 * (l1 : Int32).toNatClampNeg) (r2 + 3)) = 0) → (ok_pl_leavesOpen T l1 (l3 + v4)) ∧ (((((x_pl_leavesOpen T l1 (l3 + v4)).1) = 0) → N (v4 + 1) ((x_pl_leavesOpen T l1 (l3 + v4)).2)) ∧ (¬ (((x_pl_leavesOpen T l1 (l3 + v4)).1) = 0) → jn (fun (KJ1 : St → Prop) => (((((sA ((x_pl_leavesOpen T l1 (l3 + v4)).2) 95 (l1 : Int32).toNatClampNeg (l3 + v4)).1 80 12) ≤ (l1 + 1)) → KJ1 (sA ((x_pl_leavesOpen T l1 (l3 + v4)).2) 95 (l1 : Int32).toNatClampNeg (l3 + v4))) ∧ (¬ (((sA ((x_pl_leavesOpen T l1 (l3 + v4)).2) 95 (l1 : Int32).toNatClampNeg (l3 + v4)).1 80 12) ≤ (l1 + 1)) → (vp_in (l1 + 1) 4) ∧ (ok_ta_add (sA ((x_pl_leavesOpen T l1 (l3 + v4)).2) 95 (l1 : Int32).toNatClampNeg (l3 + v4)) (507 + 5 * (l1 + 1 : Int32).toNatClampNeg) (507 + 5 * (l1 : Int32).toNatClampNeg) (r2 + 3) ((sA ((x_pl_leavesOpen T l1 (l3 + v4)).2) 95 (l1 : Int32).toNatClampNeg (l3 + v4)).2.1 3)) ∧ jn (fun (T4 : St) => KJ1 T4) (x_ta_add (sA ((x_pl_leavesOpen T l1 (l3 + v4)).2) 95 (l1 : Int32).toNatClampNeg (l3 + v4)) (507 + 5 * (l1 + 1 : Int32).toNatClampNeg) (507 + 5 * (l1 : Int32).toNatClampNeg) (r2 + 3) ((sA ((x_pl_leavesOpen T l1 (l3 + v4)).2) 95 (l1 : Int32).toNatClampNeg (l3 + v4)).2.1 3))))) (fun (T301 : St) => (ok_pl_seek1 T301 (l1 + 1) (l2 + (T301.1 r2 5))) ∧ N (v4 + 1) (x_pl_seek1 T301 (l1 + 1) (l2 + (T301.1 r2 5))))))))))) (123 + 4 * (l3 + v4 : Int32).toNatClampNeg)))))
def wp_pl_seek2_27 (l1 : Int32) (l2 : Int32) (l3 : Int32) (Kk : Int32 → St → Prop) (Q : St → Prop) : Nat → Int32 → St → Prop
  | 0, _, _ => False
  | f + 1, v4, T => bd_pl_seek2_27 l1 l2 l3 Kk Q (wp_pl_seek2_27 l1 l2 l3 Kk Q f) v4 T
theorem mb_pl_seek2_27 (l1 : Int32) (l2 : Int32) (l3 : Int32) {Kk Kk2 : Int32 → St → Prop} {Q Q2 : St → Prop} {N N2 : Int32 → St → Prop} (hK : ∀ (v4 : Int32) (T : St), Kk v4 T → Kk2 v4 T) (hQ : ∀ r, Q r → Q2 r) (hN : ∀ (v4 : Int32) (T : St), N v4 T → N2 v4 T) (v4 : Int32) (T : St) (w : bd_pl_seek2_27 l1 l2 l3 Kk Q N v4 T) : bd_pl_seek2_27 l1 l2 l3 Kk2 Q2 N2 v4 T := by
  unfold bd_pl_seek2_27 at w ⊢
  obtain ⟨q2, w⟩ := w
  refine ⟨q2, ?_⟩
  obtain ⟨q3, w⟩ := w
  refine ⟨q3, ?_⟩
  refine mo_if w (fun c40_2 w => ?_) (fun c40_2 w => ?_)
  · exact hK v4 T w
  · obtain ⟨q4, w⟩ := w
    refine ⟨q4, ?_⟩
    refine mo_if w (fun c56_3 w => ?_) (fun c56_3 w => ?_)
    · exact hN (v4 + 1) T w
    · obtain ⟨q5, w⟩ := w
      refine ⟨q5, ?_⟩
      refine mo_n w (fun r2 w => ?_)
      obtain ⟨q6, w⟩ := w
      refine ⟨q6, ?_⟩
      obtain ⟨q7, w⟩ := w
      refine ⟨q7, ?_⟩
      refine mo_if w (fun c93_4 w => ?_) (fun c93_4 w => ?_)
      · exact hN (v4 + 1) T w
      · obtain ⟨q8, w⟩ := w
        refine ⟨q8, ?_⟩
        refine mo_if w (fun c110_5 w => ?_) (fun c110_5 w => ?_)
        · exact hN (v4 + 1) T w
        · obtain ⟨q9, w⟩ := w
          refine ⟨q9, ?_⟩
          refine mo_if w (fun c122_6 w => ?_) (fun c122_6 w => ?_)
          · exact hN (v4 + 1) ((x_pl_leavesOpen T l1 (l3 + v4)).2) w
          · refine mo_jn (J := fun (KJ1 : St → Prop) (WKJ1 : St → Prop) => ∀ (T301 : St), KJ1 T301 → WKJ1 T301) w (fun T301 w => ?_) (fun KJ1 WKJ1 hJ1 w => ?_)
            · skip
              obtain ⟨q12, w⟩ := w
              refine ⟨q12, ?_⟩
              exact hN (v4 + 1) (x_pl_seek1 T301 (l1 + 1) (l2 + (T301.1 r2 5))) w
            · skip
              refine mo_if w (fun c142_8 w => ?_) (fun c142_8 w => ?_)
              · exact hJ1 (sA ((x_pl_leavesOpen T l1 (l3 + v4)).2) 95 (l1 : Int32).toNatClampNeg (l3 + v4)) w
              · obtain ⟨q13, w⟩ := w
                refine ⟨q13, ?_⟩
                obtain ⟨q14, w⟩ := w
                refine ⟨q14, ?_⟩
                refine mo_n w (fun T4 w => ?_)
                exact hJ1 T4 w
theorem mo_pl_seek2_27 (l1 : Int32) (l2 : Int32) (l3 : Int32) {Kk Kk2 : Int32 → St → Prop} {Q Q2 : St → Prop} (hK : ∀ (v4 : Int32) (T : St), Kk v4 T → Kk2 v4 T) (hQ : ∀ r, Q r → Q2 r) : ∀ (f : Nat) (v4 : Int32) (T : St), wp_pl_seek2_27 l1 l2 l3 Kk Q f v4 T → wp_pl_seek2_27 l1 l2 l3 Kk2 Q2 f v4 T := by
  intro f
  induction f with
  | zero => intro v4 T w; exact w.elim
  | succ f ih => intro v4 T w; exact mb_pl_seek2_27 l1 l2 l3 hK hQ ih v4 T w
theorem wr_pl_seek2_27 (l1 : Int32) (l2 : Int32) (l3 : Int32) {Kk : Int32 → St → Prop} {Q : St → Prop} (I : Int32 → St → Prop) (m : Int32 → St → Nat) (hv : ∀ (v4 : Int32) (T : St), I v4 T → bd_pl_seek2_27 l1 l2 l3 Kk Q (fun uv4 uT => I uv4 uT ∧ m uv4 uT < m v4 T) v4 T) : ∀ (f : Nat) (v4 : Int32) (T : St), m v4 T < f → I v4 T → wp_pl_seek2_27 l1 l2 l3 Kk Q f v4 T := by
  intro f
  induction f with
  | zero => intro v4 T h; exact absurd h (Nat.not_lt_zero _)
  | succ f ih => intro v4 T h hi; exact mb_pl_seek2_27 l1 l2 l3 (fun _ _ h => h) (fun _ h => h) (fun uv4 uT g => ih uv4 uT (by omega) g.1) v4 T (hv v4 T hi)
theorem so_pl_seek2_27 (l1 : Int32) (l2 : Int32) (l3 : Int32) {K : Int32 → St → St} {Kk Kk2 : Int32 → St → Prop} {Q : St → Prop} (hk : ∀ (v4 : Int32) (T : St), Kk v4 T → Kk2 v4 T ∧ Q (K v4 T)) : ∀ (f : Nat) (v4 : Int32) (T : St), wp_pl_seek2_27 l1 l2 l3 Kk Q f v4 T → ok_pl_seek2_27 l1 l2 l3 Kk2 f v4 T ∧ Q (x_pl_seek2_27 l1 l2 l3 K f v4 T) := by
  intro f
  induction f with
  | zero => intro v4 T w; exact w.elim
  | succ f ih =>
    intro v4 T w
    rw [wp_pl_seek2_27, bd_pl_seek2_27] at w
    rw [ok_pl_seek2_27, x_pl_seek2_27]
    obtain ⟨q2, w⟩ := w
    refine so_rq q2 ?_
    obtain ⟨q3, w⟩ := w
    refine so_rq q3 ?_
    refine so_if2 (Q := Q) w (fun c40_2 w => ?_) (fun c40_2 w => ?_)
    · exact hk v4 T w
    · obtain ⟨q4, w⟩ := w
      refine so_rq q4 ?_
      refine so_if2 (Q := Q) w (fun c56_3 w => ?_) (fun c56_3 w => ?_)
      · exact ih (v4 + 1) T w
      · obtain ⟨q5, w⟩ := w
        refine so_rq q5 ?_
        refine so_n (Q := Q) w (fun r2 w => ?_)
        obtain ⟨q6, w⟩ := w
        refine so_rq q6 ?_
        obtain ⟨q7, w⟩ := w
        refine so_rq q7 ?_
        refine so_if2 (Q := Q) w (fun c93_4 w => ?_) (fun c93_4 w => ?_)
        · exact ih (v4 + 1) T w
        · obtain ⟨q8, w⟩ := w
          refine so_rq q8 ?_
          refine so_if2 (Q := Q) w (fun c110_5 w => ?_) (fun c110_5 w => ?_)
          · exact ih (v4 + 1) T w
          · obtain ⟨q9, w⟩ := w
            refine so_rq q9 ?_
            refine so_if2 (Q := Q) w (fun c122_6 w => ?_) (fun c122_6 w => ?_)
            · exact ih (v4 + 1) ((x_pl_leavesOpen T l1 (l3 + v4)).2) w
            · refine so_jn (Q := Q) (J := fun (KJ1 : St → St) (OJ1 : St → Prop) (WKJ1 : St → Prop) => ∀ (T301 : St), WKJ1 T301 → OJ1 T301 ∧ Q (KJ1 T301)) w (fun T301 w => ?_) (fun KJ1 OJ1 WKJ1 hJ1 w => ?_)
              · skip
                obtain ⟨q12, w⟩ := w
                refine so_rq q12 ?_
                exact ih (v4 + 1) (x_pl_seek1 T301 (l1 + 1) (l2 + (T301.1 r2 5))) w
              · skip
                refine so_if2 (Q := Q) w (fun c142_8 w => ?_) (fun c142_8 w => ?_)
                · exact hJ1 (sA ((x_pl_leavesOpen T l1 (l3 + v4)).2) 95 (l1 : Int32).toNatClampNeg (l3 + v4)) w
                · obtain ⟨q13, w⟩ := w
                  refine so_rq q13 ?_
                  obtain ⟨q14, w⟩ := w
                  refine so_rq q14 ?_
                  refine so_n (Q := Q) w (fun T4 w => ?_)
                  exact hJ1 T4 w
def wp_pl_seek2 (T : St) (p0 : Int32) (p1 : Int32) (Q : St → Prop) : Prop := (((p0 < (T.1 80 12)) → (vp_in p0 4) ∧ jn (fun (i1 : Int32) => wp_pl_seek2_27 p0 p1 i1 (fun w1_4 T201 => Q T201) Q 1000 0 T) ((T.2.2.1 94 (p0 : Int32).toNatClampNeg) * 12)) ∧ (¬ (p0 < (T.1 80 12)) → (ok_pl_keepPicked T p1) ∧ Q (x_pl_keepPicked T p1)))
theorem so_pl_seek2 {T : St} (p0 : Int32) (p1 : Int32) {Q : St → Prop} (w : wp_pl_seek2 T p0 p1 Q) : ok_pl_seek2 T p0 p1 ∧ Q (x_pl_seek2 T p0 p1) := by
  unfold wp_pl_seek2 at w
  unfold ok_pl_seek2 x_pl_seek2
  refine so_if2 (Q := Q) w (fun c5_1 w => ?_) (fun c5_1 w => ?_)
  · obtain ⟨q1, w⟩ := w
    refine so_rq q1 ?_
    refine so_n (Q := Q) w (fun i1 w => ?_)
    refine so_pl_seek2_27 p0 p1 i1 (fun w1_4 T201 w => ?_) 1000 0 T w
    refine ⟨trivial, ?_⟩
    exact w
  · obtain ⟨q15, w⟩ := w
    refine so_rq q15 ?_
    refine ⟨trivial, ?_⟩
    exact w
