def bd_m_know_61 (l1 : Int32) (Kk : Int32 → St → Prop) (Q : Int32 × St → Prop) (N : Int32 → St → Prop) (v2 : Int32) (T : St) : Prop := (((4 ≤ v2) → Kk v2 T) ∧ (¬ (4 ≤ v2) → (vp_in v2 4) ∧ N (v2 + 1) (sA T 592 (v2 : Int32).toNatClampNeg (T.2.2.1 589 (v2 : Int32).toNatClampNeg))))
def wp_m_know_61 (l1 : Int32) (Kk : Int32 → St → Prop) (Q : Int32 × St → Prop) : Nat → Int32 → St → Prop
  | 0, _, _ => False
  | f + 1, v2, T => bd_m_know_61 l1 Kk Q (wp_m_know_61 l1 Kk Q f) v2 T
theorem mb_m_know_61 (l1 : Int32) {Kk Kk2 : Int32 → St → Prop} {Q Q2 : Int32 × St → Prop} {N N2 : Int32 → St → Prop} (hK : ∀ (v2 : Int32) (T : St), Kk v2 T → Kk2 v2 T) (hQ : ∀ r, Q r → Q2 r) (hN : ∀ (v2 : Int32) (T : St), N v2 T → N2 v2 T) (v2 : Int32) (T : St) (w : bd_m_know_61 l1 Kk Q N v2 T) : bd_m_know_61 l1 Kk2 Q2 N2 v2 T := by
  unfold bd_m_know_61 at w ⊢
  refine mo_if w (fun c63_2 w => ?_) (fun c63_2 w => ?_)
  · exact hK v2 T w
  · obtain ⟨q3, w⟩ := w
    refine ⟨q3, ?_⟩
    exact hN (v2 + 1) (sA T 592 (v2 : Int32).toNatClampNeg (T.2.2.1 589 (v2 : Int32).toNatClampNeg)) w
theorem mo_m_know_61 (l1 : Int32) {Kk Kk2 : Int32 → St → Prop} {Q Q2 : Int32 × St → Prop} (hK : ∀ (v2 : Int32) (T : St), Kk v2 T → Kk2 v2 T) (hQ : ∀ r, Q r → Q2 r) : ∀ (f : Nat) (v2 : Int32) (T : St), wp_m_know_61 l1 Kk Q f v2 T → wp_m_know_61 l1 Kk2 Q2 f v2 T := by
  intro f
  induction f with
  | zero => intro v2 T w; exact w.elim
  | succ f ih => intro v2 T w; exact mb_m_know_61 l1 hK hQ ih v2 T w
theorem wr_m_know_61 (l1 : Int32) {Kk : Int32 → St → Prop} {Q : Int32 × St → Prop} (I : Int32 → St → Prop) (m : Int32 → St → Nat) (hv : ∀ (v2 : Int32) (T : St), I v2 T → bd_m_know_61 l1 Kk Q (fun uv2 uT => I uv2 uT ∧ m uv2 uT < m v2 T) v2 T) : ∀ (f : Nat) (v2 : Int32) (T : St), m v2 T < f → I v2 T → wp_m_know_61 l1 Kk Q f v2 T := by
  intro f
  induction f with
  | zero => intro v2 T h; exact absurd h (Nat.not_lt_zero _)
  | succ f ih => intro v2 T h hi; exact mb_m_know_61 l1 (fun _ _ h => h) (fun _ h => h) (fun uv2 uT g => ih uv2 uT (by omega) g.1) v2 T (hv v2 T hi)
theorem so_m_know_61 (l1 : Int32) {K : Int32 → St → Int32 × St} {Kk Kk2 : Int32 → St → Prop} {Q : Int32 × St → Prop} (hk : ∀ (v2 : Int32) (T : St), Kk v2 T → Kk2 v2 T ∧ Q (K v2 T)) : ∀ (f : Nat) (v2 : Int32) (T : St), wp_m_know_61 l1 Kk Q f v2 T → ok_m_know_61 l1 Kk2 f v2 T ∧ Q (x_m_know_61 l1 K f v2 T) := by
  intro f
  induction f with
  | zero => intro v2 T w; exact w.elim
  | succ f ih =>
    intro v2 T w
    rw [wp_m_know_61, bd_m_know_61] at w
    rw [ok_m_know_61, x_m_know_61]
    refine so_if2 (Q := Q) w (fun c63_2 w => ?_) (fun c63_2 w => ?_)
    · exact hk v2 T w
    · obtain ⟨q3, w⟩ := w
      refine so_rq q3 ?_
      exact ih (v2 + 1) (sA T 592 (v2 : Int32).toNatClampNeg (T.2.2.1 589 (v2 : Int32).toNatClampNeg)) w
def bd_m_know_86 (l1 : Int32) (Kk : Int32 → St → Prop) (Q : Int32 × St → Prop) (N : Int32 → St → Prop) (v2 : Int32) (T : St) : Prop := (((12 ≤ v2) → Kk v2 T) ∧ (¬ (12 ≤ v2) → (vp_in v2 12) ∧ N (v2 + 1) (sA T 593 (v2 : Int32).toNatClampNeg (T.2.2.1 590 (v2 : Int32).toNatClampNeg))))
def wp_m_know_86 (l1 : Int32) (Kk : Int32 → St → Prop) (Q : Int32 × St → Prop) : Nat → Int32 → St → Prop
  | 0, _, _ => False
  | f + 1, v2, T => bd_m_know_86 l1 Kk Q (wp_m_know_86 l1 Kk Q f) v2 T
theorem mb_m_know_86 (l1 : Int32) {Kk Kk2 : Int32 → St → Prop} {Q Q2 : Int32 × St → Prop} {N N2 : Int32 → St → Prop} (hK : ∀ (v2 : Int32) (T : St), Kk v2 T → Kk2 v2 T) (hQ : ∀ r, Q r → Q2 r) (hN : ∀ (v2 : Int32) (T : St), N v2 T → N2 v2 T) (v2 : Int32) (T : St) (w : bd_m_know_86 l1 Kk Q N v2 T) : bd_m_know_86 l1 Kk2 Q2 N2 v2 T := by
  unfold bd_m_know_86 at w ⊢
  refine mo_if w (fun c89_3 w => ?_) (fun c89_3 w => ?_)
  · exact hK v2 T w
  · obtain ⟨q4, w⟩ := w
    refine ⟨q4, ?_⟩
    exact hN (v2 + 1) (sA T 593 (v2 : Int32).toNatClampNeg (T.2.2.1 590 (v2 : Int32).toNatClampNeg)) w
theorem mo_m_know_86 (l1 : Int32) {Kk Kk2 : Int32 → St → Prop} {Q Q2 : Int32 × St → Prop} (hK : ∀ (v2 : Int32) (T : St), Kk v2 T → Kk2 v2 T) (hQ : ∀ r, Q r → Q2 r) : ∀ (f : Nat) (v2 : Int32) (T : St), wp_m_know_86 l1 Kk Q f v2 T → wp_m_know_86 l1 Kk2 Q2 f v2 T := by
  intro f
  induction f with
  | zero => intro v2 T w; exact w.elim
  | succ f ih => intro v2 T w; exact mb_m_know_86 l1 hK hQ ih v2 T w
theorem wr_m_know_86 (l1 : Int32) {Kk : Int32 → St → Prop} {Q : Int32 × St → Prop} (I : Int32 → St → Prop) (m : Int32 → St → Nat) (hv : ∀ (v2 : Int32) (T : St), I v2 T → bd_m_know_86 l1 Kk Q (fun uv2 uT => I uv2 uT ∧ m uv2 uT < m v2 T) v2 T) : ∀ (f : Nat) (v2 : Int32) (T : St), m v2 T < f → I v2 T → wp_m_know_86 l1 Kk Q f v2 T := by
  intro f
  induction f with
  | zero => intro v2 T h; exact absurd h (Nat.not_lt_zero _)
  | succ f ih => intro v2 T h hi; exact mb_m_know_86 l1 (fun _ _ h => h) (fun _ h => h) (fun uv2 uT g => ih uv2 uT (by omega) g.1) v2 T (hv v2 T hi)
theorem so_m_know_86 (l1 : Int32) {K : Int32 → St → Int32 × St} {Kk Kk2 : Int32 → St → Prop} {Q : Int32 × St → Prop} (hk : ∀ (v2 : Int32) (T : St), Kk v2 T → Kk2 v2 T ∧ Q (K v2 T)) : ∀ (f : Nat) (v2 : Int32) (T : St), wp_m_know_86 l1 Kk Q f v2 T → ok_m_know_86 l1 Kk2 f v2 T ∧ Q (x_m_know_86 l1 K f v2 T) := by
  intro f
  induction f with
  | zero => intro v2 T w; exact w.elim
  | succ f ih =>
    intro v2 T w
    rw [wp_m_know_86, bd_m_know_86] at w
    rw [ok_m_know_86, x_m_know_86]
    refine so_if2 (Q := Q) w (fun c89_3 w => ?_) (fun c89_3 w => ?_)
    · exact hk v2 T w
    · obtain ⟨q4, w⟩ := w
      refine so_rq q4 ?_
      exact ih (v2 + 1) (sA T 593 (v2 : Int32).toNatClampNeg (T.2.2.1 590 (v2 : Int32).toNatClampNeg)) w
def wp_m_know (T : St) (p0 : Int32) (Q : Int32 × St → Prop) : Prop := jn (fun (KJ1 : St → Prop) => ((((T.1 571 34) = p0) → KJ1 T) ∧ (¬ ((T.1 571 34) = p0) → (ok_m_seek (sF T 571 32 0) ((sF T 571 32 0).2.2.1 575 (202 : Int32).toNatClampNeg) p0 ((sF T 571 32 0).2.2.1 575 (5 : Int32).toNatClampNeg) ((sF T 571 32 0).2.2.1 575 (203 : Int32).toNatClampNeg) 0 0) ∧ jn (fun (T3 : St) => (((x_m_seek (sF T 571 32 0) ((sF T 571 32 0).2.2.1 575 (202 : Int32).toNatClampNeg) p0 ((sF T 571 32 0).2.2.1 575 (5 : Int32).toNatClampNeg) ((sF T 571 32 0).2.2.1 575 (203 : Int32).toNatClampNeg) 0 0).1 = 0 ∨ (x_m_seek (sF T 571 32 0) ((sF T 571 32 0).2.2.1 575 (202 : Int32).toNatClampNeg) p0 ((sF T 571 32 0).2.2.1 575 (5 : Int32).toNatClampNeg) ((sF T 571 32 0).2.2.1 575 (203 : Int32).toNatClampNeg) 0 0).1 = (1 : Int32))) ∧ jn (fun (T4 : St) => wp_m_know_61 p0 (fun w3_2 T203 => wp_m_know_86 p0 (fun w4_2 T204 => KJ1 T204) Q 1000 0 T203) Q 1000 0 (sF (sF T4 571 34 p0) 571 36 ((sF T4 571 34 p0).1 571 31))) (sF T3 571 35 ((x_m_seek (sF T 571 32 0) ((sF T 571 32 0).2.2.1 575 (202 : Int32).toNatClampNeg) p0 ((sF T 571 32 0).2.2.1 575 (5 : Int32).toNatClampNeg) ((sF T 571 32 0).2.2.1 575 (203 : Int32).toNatClampNeg) 0 0).1))) ((x_m_seek (sF T 571 32 0) ((sF T 571 32 0).2.2.1 575 (202 : Int32).toNatClampNeg) p0 ((sF T 571 32 0).2.2.1 575 (5 : Int32).toNatClampNeg) ((sF T 571 32 0).2.2.1 575 (203 : Int32).toNatClampNeg) 0 0).2)))) (fun (T301 : St) => (ok_m_layRow T301) ∧ (((x_m_layRow T301).1 571 35 = 0 ∨ (x_m_layRow T301).1 571 35 = (1 : Int32))) ∧ Q ((x_m_layRow T301).1 571 35, x_m_layRow T301))
theorem so_m_know {T : St} (p0 : Int32) {Q : Int32 × St → Prop} (w : wp_m_know T p0 Q) : ok_m_know T p0 ∧ Q (x_m_know T p0) := by
  unfold wp_m_know at w
  unfold ok_m_know x_m_know
  refine so_jn (Q := Q) (J := fun (KJ1 : St → Int32 × St) (OJ1 : St → Prop) (WKJ1 : St → Prop) => ∀ (T301 : St), WKJ1 T301 → OJ1 T301 ∧ Q (KJ1 T301)) w (fun T301 w => ?_) (fun KJ1 OJ1 WKJ1 hJ1 w => ?_)
  · skip
    obtain ⟨q5, w⟩ := w
    refine so_rq q5 ?_
    obtain ⟨q6, w⟩ := w
    refine so_rq q6 ?_
    refine ⟨trivial, ?_⟩
    exact w
  · skip
    refine so_if2 (Q := Q) w (fun c5_4 w => ?_) (fun c5_4 w => ?_)
    · exact hJ1 T w
    · obtain ⟨q7, w⟩ := w
      refine so_rq q7 ?_
      refine so_n (Q := Q) w (fun T3 w => ?_)
      obtain ⟨q8, w⟩ := w
      refine so_rq q8 ?_
      refine so_n (Q := Q) w (fun T4 w => ?_)
      refine so_m_know_61 p0 (fun w3_2 T203 w => ?_) 1000 0 (sF (sF T4 571 34 p0) 571 36 ((sF T4 571 34 p0).1 571 31)) w
      refine so_m_know_86 p0 (fun w4_2 T204 w => ?_) 1000 0 T203 w
      exact hJ1 T204 w
def wp_m_least (T : St) (p0 : Int32) (p1 : Int32) (Q : Int32 × St → Prop) : Prop := ((((x_m_isBy (sF T 571 0 0) p0) = 0) → Q ((-1000001), sF T 571 0 0)) ∧ (¬ ((x_m_isBy (sF T 571 0 0) p0) = 0) → ((((-1) ≤ p1) → (((((sF T 571 0 0).1 571 7) = 0) → Q ((-1000002), sF T 571 0 0)) ∧ (¬ (((sF T 571 0 0).1 571 7) = 0) → (ok_m_know (sF T 571 0 0) p0) ∧ (((((x_m_know (sF T 571 0 0) p0).1) = 0) → Q ((-1000000), (x_m_know (sF T 571 0 0) p0).2)) ∧ (¬ (((x_m_know (sF T 571 0 0) p0).1) = 0) → (((p1 = (-1)) → Q (((x_m_know (sF T 571 0 0) p0).2).1 571 36, (x_m_know (sF T 571 0 0) p0).2)) ∧ (¬ (p1 = (-1)) → (ok_m_bits ((x_m_know (sF T 571 0 0) p0).2) (((x_m_know (sF T 571 0 0) p0).2).2.2.1 575 (202 : Int32).toNatClampNeg)) ∧ ((((x_m_bits ((x_m_know (sF T 571 0 0) p0).2) (((x_m_know (sF T 571 0 0) p0).2).2.2.1 575 (202 : Int32).toNatClampNeg)) ≤ p1) → Q ((-1000000), (x_m_know (sF T 571 0 0) p0).2)) ∧ (¬ ((x_m_bits ((x_m_know (sF T 571 0 0) p0).2) (((x_m_know (sF T 571 0 0) p0).2).2.2.1 575 (202 : Int32).toNatClampNeg)) ≤ p1) → (vp_in p1 4) ∧ Q (((x_m_know (sF T 571 0 0) p0).2).2.2.1 592 (p1 : Int32).toNatClampNeg, (x_m_know (sF T 571 0 0) p0).2)))))))))) ∧ (¬ ((-1) ≤ p1) → Q ((-1000001), sF T 571 0 0)))))
theorem so_m_least {T : St} (p0 : Int32) (p1 : Int32) {Q : Int32 × St → Prop} (w : wp_m_least T p0 p1 Q) : ok_m_least T p0 p1 ∧ Q (x_m_least T p0 p1) := by
  unfold wp_m_least at w
  unfold ok_m_least x_m_least
  refine so_ifF (Q := Q) w (fun c9_1 w => ?_) (fun c9_1 w => ?_)
  · exact w
  · refine so_ifT (Q := Q) w (fun c14_2 w => ?_) (fun c14_2 w => ?_)
    · refine so_ifF (Q := Q) w (fun c24_3 w => ?_) (fun c24_3 w => ?_)
      · exact w
      · obtain ⟨q1, w⟩ := w
        refine so_rq q1 ?_
        refine so_ifF (Q := Q) w (fun c35_4 w => ?_) (fun c35_4 w => ?_)
        · exact w
        · refine so_ifF (Q := Q) w (fun c43_5 w => ?_) (fun c43_5 w => ?_)
          · exact w
          · obtain ⟨q2, w⟩ := w
            refine so_rq q2 ?_
            refine so_ifF (Q := Q) w (fun c65_6 w => ?_) (fun c65_6 w => ?_)
            · exact w
            · obtain ⟨q3, w⟩ := w
              refine so_rq q3 ?_
              refine ⟨trivial, ?_⟩
              exact w
    · exact w
def wp_m_begins (T : St) (p0 : Int32) (p1 : Int32) (Q : Int32 × St → Prop) : Prop := ((((x_m_isBy (sF T 571 0 0) p0) = 0) → Q ((-1000001), sF T 571 0 0)) ∧ (¬ ((x_m_isBy (sF T 571 0 0) p0) = 0) → (((0 ≤ p1) → (((((sF T 571 0 0).1 571 7) = 0) → Q ((-1000002), sF T 571 0 0)) ∧ (¬ (((sF T 571 0 0).1 571 7) = 0) → (ok_m_know (sF T 571 0 0) p0) ∧ (((((x_m_know (sF T 571 0 0) p0).1) = 0) → Q ((-1000000), (x_m_know (sF T 571 0 0) p0).2)) ∧ (¬ (((x_m_know (sF T 571 0 0) p0).1) = 0) → ((((((x_m_know (sF T 571 0 0) p0).2).1 571 39) ≤ p1) → Q ((-1000000), (x_m_know (sF T 571 0 0) p0).2)) ∧ (¬ ((((x_m_know (sF T 571 0 0) p0).2).1 571 39) ≤ p1) → (vp_in p1 12) ∧ Q (((x_m_know (sF T 571 0 0) p0).2).2.2.1 595 (p1 : Int32).toNatClampNeg, (x_m_know (sF T 571 0 0) p0).2)))))))) ∧ (¬ (0 ≤ p1) → Q ((-1000001), sF T 571 0 0)))))
theorem so_m_begins {T : St} (p0 : Int32) (p1 : Int32) {Q : Int32 × St → Prop} (w : wp_m_begins T p0 p1 Q) : ok_m_begins T p0 p1 ∧ Q (x_m_begins T p0 p1) := by
  unfold wp_m_begins at w
  unfold ok_m_begins x_m_begins
  refine so_ifF (Q := Q) w (fun c9_1 w => ?_) (fun c9_1 w => ?_)
  · exact w
  · refine so_ifT (Q := Q) w (fun c13_2 w => ?_) (fun c13_2 w => ?_)
    · refine so_ifF (Q := Q) w (fun c23_3 w => ?_) (fun c23_3 w => ?_)
      · exact w
      · obtain ⟨q1, w⟩ := w
        refine so_rq q1 ?_
        refine so_ifF (Q := Q) w (fun c34_4 w => ?_) (fun c34_4 w => ?_)
        · exact w
        · refine so_ifF (Q := Q) w (fun c42_5 w => ?_) (fun c42_5 w => ?_)
          · exact w
          · obtain ⟨q2, w⟩ := w
            refine so_rq q2 ?_
            refine ⟨trivial, ?_⟩
            exact w
    · exact w
def wp_m_seven (T : St) (p0 : Int32) (Q : Int32 × St → Prop) : Prop := ((((x_m_isBy (sF T 571 0 0) p0) = 0) → Q ((-1000001), sF T 571 0 0)) ∧ (¬ ((x_m_isBy (sF T 571 0 0) p0) = 0) → (((((sF T 571 0 0).1 571 7) = 0) → Q ((-1000002), sF T 571 0 0)) ∧ (¬ (((sF T 571 0 0).1 571 7) = 0) → (ok_m_seek (sF (sF T 571 0 0) 571 32 0) ((sF (sF T 571 0 0) 571 32 0).2.2.1 575 (202 : Int32).toNatClampNeg) p0 ((sF (sF T 571 0 0) 571 32 0).2.2.1 575 (5 : Int32).toNatClampNeg) ((sF (sF T 571 0 0) 571 32 0).2.2.1 575 (203 : Int32).toNatClampNeg) 1 1) ∧ jn (fun (T1 : St) => (((((x_m_seek (sF (sF T 571 0 0) 571 32 0) ((sF (sF T 571 0 0) 571 32 0).2.2.1 575 (202 : Int32).toNatClampNeg) p0 ((sF (sF T 571 0 0) 571 32 0).2.2.1 575 (5 : Int32).toNatClampNeg) ((sF (sF T 571 0 0) 571 32 0).2.2.1 575 (203 : Int32).toNatClampNeg) 1 1).1) = 0) → Q (0, T1)) ∧ (¬ (((x_m_seek (sF (sF T 571 0 0) 571 32 0) ((sF (sF T 571 0 0) 571 32 0).2.2.1 575 (202 : Int32).toNatClampNeg) p0 ((sF (sF T 571 0 0) 571 32 0).2.2.1 575 (5 : Int32).toNatClampNeg) ((sF (sF T 571 0 0) 571 32 0).2.2.1 575 (203 : Int32).toNatClampNeg) 1 1).1) = 0) → Q (1, T1)))) ((x_m_seek (sF (sF T 571 0 0) 571 32 0) ((sF (sF T 571 0 0) 571 32 0).2.2.1 575 (202 : Int32).toNatClampNeg) p0 ((sF (sF T 571 0 0) 571 32 0).2.2.1 575 (5 : Int32).toNatClampNeg) ((sF (sF T 571 0 0) 571 32 0).2.2.1 575 (203 : Int32).toNatClampNeg) 1 1).2)))))
theorem so_m_seven {T : St} (p0 : Int32) {Q : Int32 × St → Prop} (w : wp_m_seven T p0 Q) : ok_m_seven T p0 ∧ Q (x_m_seven T p0) := by
  unfold wp_m_seven at w
  unfold ok_m_seven x_m_seven
  refine so_ifF (Q := Q) w (fun c9_1 w => ?_) (fun c9_1 w => ?_)
  · exact w
  · refine so_ifF (Q := Q) w (fun c19_2 w => ?_) (fun c19_2 w => ?_)
    · exact w
    · obtain ⟨q1, w⟩ := w
      refine so_rq q1 ?_
      refine ⟨trivial, ?_⟩
      refine so_n0 (Q := Q) w (fun T1 w => ?_)
      refine so_if0 (Q := Q) w (fun c59_3 w => ?_) (fun c59_3 w => ?_)
      · exact w
      · exact w
def wp_m_canBe (T : St) (p0 : Int32) (p1 : Int32) (p2 : Int32) (Q : Int32 × St → Prop) : Prop := (ok_m_seek (sF T 571 32 0) p0 p1 p2 ((sF T 571 32 0).2.2.1 575 (203 : Int32).toNatClampNeg) 0 1) ∧ (((x_m_seek (sF T 571 32 0) p0 p1 p2 ((sF T 571 32 0).2.2.1 575 (203 : Int32).toNatClampNeg) 0 1).1 = 0 ∨ (x_m_seek (sF T 571 32 0) p0 p1 p2 ((sF T 571 32 0).2.2.1 575 (203 : Int32).toNatClampNeg) 0 1).1 = (1 : Int32))) ∧ Q ((x_m_seek (sF T 571 32 0) p0 p1 p2 ((sF T 571 32 0).2.2.1 575 (203 : Int32).toNatClampNeg) 0 1).1, (x_m_seek (sF T 571 32 0) p0 p1 p2 ((sF T 571 32 0).2.2.1 575 (203 : Int32).toNatClampNeg) 0 1).2)
theorem so_m_canBe {T : St} (p0 : Int32) (p1 : Int32) (p2 : Int32) {Q : Int32 × St → Prop} (w : wp_m_canBe T p0 p1 p2 Q) : ok_m_canBe T p0 p1 p2 ∧ Q (x_m_canBe T p0 p1 p2) := by
  unfold wp_m_canBe at w
  unfold ok_m_canBe x_m_canBe
  obtain ⟨q1, w⟩ := w
  refine so_rq q1 ?_
  obtain ⟨q2, w⟩ := w
  refine so_rq q2 ?_
  refine ⟨trivial, ?_⟩
  exact w
def bd_m_earliest_17  (Kk : Int32 → St → Prop) (Q : Int32 × St → Prop) (N : Int32 → St → Prop) (v1 : Int32) (T : St) : Prop := (((61 ≤ v1) → Kk v1 T) ∧ (¬ (61 ≤ v1) → (ok_m_canBe T (T.2.2.1 575 (202 : Int32).toNatClampNeg) v1 (T.2.2.1 575 (5 : Int32).toNatClampNeg)) ∧ jn (fun (T1 : St) => (((((x_m_canBe T (T.2.2.1 575 (202 : Int32).toNatClampNeg) v1 (T.2.2.1 575 (5 : Int32).toNatClampNeg)).1) = 0) → N (v1 + 1) T1) ∧ (¬ (((x_m_canBe T (T.2.2.1 575 (202 : Int32).toNatClampNeg) v1 (T.2.2.1 575 (5 : Int32).toNatClampNeg)).1) = 0) → Q (v1, T1)))) ((x_m_canBe T (T.2.2.1 575 (202 : Int32).toNatClampNeg) v1 (T.2.2.1 575 (5 : Int32).toNatClampNeg)).2)))
def wp_m_earliest_17  (Kk : Int32 → St → Prop) (Q : Int32 × St → Prop) : Nat → Int32 → St → Prop
  | 0, _, _ => False
  | f + 1, v1, T => bd_m_earliest_17  Kk Q (wp_m_earliest_17  Kk Q f) v1 T
theorem mb_m_earliest_17  {Kk Kk2 : Int32 → St → Prop} {Q Q2 : Int32 × St → Prop} {N N2 : Int32 → St → Prop} (hK : ∀ (v1 : Int32) (T : St), Kk v1 T → Kk2 v1 T) (hQ : ∀ r, Q r → Q2 r) (hN : ∀ (v1 : Int32) (T : St), N v1 T → N2 v1 T) (v1 : Int32) (T : St) (w : bd_m_earliest_17  Kk Q N v1 T) : bd_m_earliest_17  Kk2 Q2 N2 v1 T := by
  unfold bd_m_earliest_17 at w ⊢
  refine mo_if w (fun c20_2 w => ?_) (fun c20_2 w => ?_)
  · exact hK v1 T w
  · obtain ⟨q1, w⟩ := w
    refine ⟨q1, ?_⟩
    refine mo_n w (fun T1 w => ?_)
    refine mo_if w (fun c42_3 w => ?_) (fun c42_3 w => ?_)
    · exact hN (v1 + 1) T1 w
    · exact hQ _ w
theorem mo_m_earliest_17  {Kk Kk2 : Int32 → St → Prop} {Q Q2 : Int32 × St → Prop} (hK : ∀ (v1 : Int32) (T : St), Kk v1 T → Kk2 v1 T) (hQ : ∀ r, Q r → Q2 r) : ∀ (f : Nat) (v1 : Int32) (T : St), wp_m_earliest_17  Kk Q f v1 T → wp_m_earliest_17  Kk2 Q2 f v1 T := by
  intro f
  induction f with
  | zero => intro v1 T w; exact w.elim
  | succ f ih => intro v1 T w; exact mb_m_earliest_17  hK hQ ih v1 T w
theorem wr_m_earliest_17  {Kk : Int32 → St → Prop} {Q : Int32 × St → Prop} (I : Int32 → St → Prop) (m : Int32 → St → Nat) (hv : ∀ (v1 : Int32) (T : St), I v1 T → bd_m_earliest_17  Kk Q (fun uv1 uT => I uv1 uT ∧ m uv1 uT < m v1 T) v1 T) : ∀ (f : Nat) (v1 : Int32) (T : St), m v1 T < f → I v1 T → wp_m_earliest_17  Kk Q f v1 T := by
  intro f
  induction f with
  | zero => intro v1 T h; exact absurd h (Nat.not_lt_zero _)
  | succ f ih => intro v1 T h hi; exact mb_m_earliest_17  (fun _ _ h => h) (fun _ h => h) (fun uv1 uT g => ih uv1 uT (by omega) g.1) v1 T (hv v1 T hi)
theorem so_m_earliest_17  {K : Int32 → St → Int32 × St} {Kk Kk2 : Int32 → St → Prop} {Q : Int32 × St → Prop} (hk : ∀ (v1 : Int32) (T : St), Kk v1 T → Kk2 v1 T ∧ Q (K v1 T)) : ∀ (f : Nat) (v1 : Int32) (T : St), wp_m_earliest_17  Kk Q f v1 T → ok_m_earliest_17  Kk2 f v1 T ∧ Q (x_m_earliest_17  K f v1 T) := by
  intro f
  induction f with
  | zero => intro v1 T w; exact w.elim
  | succ f ih =>
    intro v1 T w
    rw [wp_m_earliest_17, bd_m_earliest_17] at w
    rw [ok_m_earliest_17, x_m_earliest_17]
    refine so_if2 (Q := Q) w (fun c20_2 w => ?_) (fun c20_2 w => ?_)
    · exact hk v1 T w
    · obtain ⟨q1, w⟩ := w
      refine so_rq q1 ?_
      refine so_n (Q := Q) w (fun T1 w => ?_)
      refine so_ifT (Q := Q) w (fun c42_3 w => ?_) (fun c42_3 w => ?_)
      · exact ih (v1 + 1) T1 w
      · exact w
def wp_m_earliest (T : St)  (Q : Int32 × St → Prop) : Prop := (((((sF T 571 0 0).1 571 7) = 0) → Q ((-1000002), sF T 571 0 0)) ∧ (¬ (((sF T 571 0 0).1 571 7) = 0) → wp_m_earliest_17  (fun w1_1 T201 => Q ((-1000000), T201)) Q 1000 1 (sF T 571 0 0)))
theorem so_m_earliest {T : St}  {Q : Int32 × St → Prop} (w : wp_m_earliest T  Q) : ok_m_earliest T  ∧ Q (x_m_earliest T ) := by
  unfold wp_m_earliest at w
  unfold ok_m_earliest x_m_earliest
  refine so_ifF (Q := Q) w (fun c9_1 w => ?_) (fun c9_1 w => ?_)
  · exact w
  · refine so_m_earliest_17  (fun w1_1 T201 w => ?_) 1000 1 (sF T 571 0 0) w
    refine ⟨trivial, ?_⟩
    exact w
def wp_m_endOf (T : St) (p0 : Int32) (Q : Int32 → Prop) : Prop := (vp_in p0 12) ∧ (ok_m_stepOf T (T.2.2.1 594 (p0 : Int32).toNatClampNeg) 1) ∧ Q (((T.2.2.1 595 (p0 : Int32).toNatClampNeg) + (x_m_stepOf T (T.2.2.1 594 (p0 : Int32).toNatClampNeg) 1)) + (T.2.2.1 596 (p0 : Int32).toNatClampNeg))
theorem so_m_endOf {T : St} (p0 : Int32) {Q : Int32 → Prop} (w : wp_m_endOf T p0 Q) : ok_m_endOf T p0 ∧ Q (x_m_endOf T p0) := by
  unfold wp_m_endOf at w
  unfold ok_m_endOf x_m_endOf
  obtain ⟨q1, w⟩ := w
  refine so_rq q1 ?_
  obtain ⟨q2, w⟩ := w
  refine so_rq q2 ?_
  refine ⟨trivial, ?_⟩
  exact w
def bd_m_dishBy_4 (T : St) (l1 : Int32) (Kk : Int32 → Int32 → Prop) (Q : Int32 → Prop) (N : Int32 → Int32 → Prop) (v2 : Int32) (v3 : Int32) : Prop := ((((T.2.2.1 575 (16 : Int32).toNatClampNeg) ≤ v3) → Kk v2 v3) ∧ (¬ ((T.2.2.1 575 (16 : Int32).toNatClampNeg) ≤ v3) → (ok_m_dishOf T v3 4) ∧ (((l1 < (x_m_dishOf T v3 4)) → N v2 (v3 + 1)) ∧ (¬ (l1 < (x_m_dishOf T v3 4)) → N v3 (v3 + 1)))))
def wp_m_dishBy_4 (T : St) (l1 : Int32) (Kk : Int32 → Int32 → Prop) (Q : Int32 → Prop) : Nat → Int32 → Int32 → Prop
  | 0, _, _ => False
  | f + 1, v2, v3 => bd_m_dishBy_4 T l1 Kk Q (wp_m_dishBy_4 T l1 Kk Q f) v2 v3
theorem mb_m_dishBy_4 (T : St) (l1 : Int32) {Kk Kk2 : Int32 → Int32 → Prop} {Q Q2 : Int32 → Prop} {N N2 : Int32 → Int32 → Prop} (hK : ∀ (v2 : Int32) (v3 : Int32), Kk v2 v3 → Kk2 v2 v3) (hQ : ∀ r, Q r → Q2 r) (hN : ∀ (v2 : Int32) (v3 : Int32), N v2 v3 → N2 v2 v3) (v2 : Int32) (v3 : Int32) (w : bd_m_dishBy_4 T l1 Kk Q N v2 v3) : bd_m_dishBy_4 T l1 Kk2 Q2 N2 v2 v3 := by
  unfold bd_m_dishBy_4 at w ⊢
  refine mo_if w (fun c12_1 w => ?_) (fun c12_1 w => ?_)
  · exact hK v2 v3 w
  · obtain ⟨q1, w⟩ := w
    refine ⟨q1, ?_⟩
    refine mo_if w (fun c22_2 w => ?_) (fun c22_2 w => ?_)
    · exact hN v2 (v3 + 1) w
    · exact hN v3 (v3 + 1) w
theorem mo_m_dishBy_4 (T : St) (l1 : Int32) {Kk Kk2 : Int32 → Int32 → Prop} {Q Q2 : Int32 → Prop} (hK : ∀ (v2 : Int32) (v3 : Int32), Kk v2 v3 → Kk2 v2 v3) (hQ : ∀ r, Q r → Q2 r) : ∀ (f : Nat) (v2 : Int32) (v3 : Int32), wp_m_dishBy_4 T l1 Kk Q f v2 v3 → wp_m_dishBy_4 T l1 Kk2 Q2 f v2 v3 := by
  intro f
  induction f with
  | zero => intro v2 v3 w; exact w.elim
  | succ f ih => intro v2 v3 w; exact mb_m_dishBy_4 T l1 hK hQ ih v2 v3 w
theorem wr_m_dishBy_4 (T : St) (l1 : Int32) {Kk : Int32 → Int32 → Prop} {Q : Int32 → Prop} (I : Int32 → Int32 → Prop) (m : Int32 → Int32 → Nat) (hv : ∀ (v2 : Int32) (v3 : Int32), I v2 v3 → bd_m_dishBy_4 T l1 Kk Q (fun uv2 uv3 => I uv2 uv3 ∧ m uv2 uv3 < m v2 v3) v2 v3) : ∀ (f : Nat) (v2 : Int32) (v3 : Int32), m v2 v3 < f → I v2 v3 → wp_m_dishBy_4 T l1 Kk Q f v2 v3 := by
  intro f
  induction f with
  | zero => intro v2 v3 h; exact absurd h (Nat.not_lt_zero _)
  | succ f ih => intro v2 v3 h hi; exact mb_m_dishBy_4 T l1 (fun _ _ h => h) (fun _ h => h) (fun uv2 uv3 g => ih uv2 uv3 (by omega) g.1) v2 v3 (hv v2 v3 hi)
theorem so_m_dishBy_4 (T : St) (l1 : Int32) {K : Int32 → Int32 → Int32} {Kk Kk2 : Int32 → Int32 → Prop} {Q : Int32 → Prop} (hk : ∀ (v2 : Int32) (v3 : Int32), Kk v2 v3 → Kk2 v2 v3 ∧ Q (K v2 v3)) : ∀ (f : Nat) (v2 : Int32) (v3 : Int32), wp_m_dishBy_4 T l1 Kk Q f v2 v3 → ok_m_dishBy_4 T l1 Kk2 f v2 v3 ∧ Q (x_m_dishBy_4 T l1 K f v2 v3) := by
  intro f
  induction f with
  | zero => intro v2 v3 w; exact w.elim
  | succ f ih =>
    intro v2 v3 w
    rw [wp_m_dishBy_4, bd_m_dishBy_4] at w
    rw [ok_m_dishBy_4, x_m_dishBy_4]
    refine so_if2 (Q := Q) w (fun c12_1 w => ?_) (fun c12_1 w => ?_)
    · exact hk v2 v3 w
    · obtain ⟨q1, w⟩ := w
      refine so_rq q1 ?_
      refine so_if2 (Q := Q) w (fun c22_2 w => ?_) (fun c22_2 w => ?_)
      · exact ih v2 (v3 + 1) w
      · exact ih v3 (v3 + 1) w
def wp_m_dishBy (T : St) (p0 : Int32) (Q : Int32 → Prop) : Prop := wp_m_dishBy_4 T p0 (fun w1_2 w1_3 => Q w1_2) Q 1000 0 0
theorem so_m_dishBy {T : St} (p0 : Int32) {Q : Int32 → Prop} (w : wp_m_dishBy T p0 Q) : ok_m_dishBy T p0 ∧ Q (x_m_dishBy T p0) := by
  unfold wp_m_dishBy at w
  unfold ok_m_dishBy x_m_dishBy
  refine so_m_dishBy_4 T p0 (fun w1_2 w1_3  w => ?_) 1000 0 0 w
  refine ⟨trivial, ?_⟩
  exact w
def bd_m_dinners_57 (l1 : Int32) (l2 : Int32) (l3 : Int32) (Kk : Int32 → Int32 → Int32 → St → Prop) (Q : Int32 × St → Prop) (N : Int32 → Int32 → Int32 → St → Prop) (v4 : Int32) (v5 : Int32) (v6 : Int32) (T : St) : Prop := ((((1 <<< ((T.2.2.1 575 (16 : Int32).toNatClampNeg) &&& 31)) ≤ v6) → Kk v4 v5 v6 T) ∧ (¬ ((1 <<< ((T.2.2.1 575 (16 : Int32).toNatClampNeg) &&& 31)) ≤ v6) → (ok_m_bits T v6) ∧ (((5 ≤ (x_m_bits T v6)) → N v4 v5 (v6 + 1) T) ∧ (¬ (5 ≤ (x_m_bits T v6)) → (ok_m_canBe T v6 l2 l1) ∧ (((((x_m_canBe T v6 l2 l1).1) = 0) → N v4 v5 (v6 + 1) ((x_m_canBe T v6 l2 l1).2)) ∧ (¬ (((x_m_canBe T v6 l2 l1).1) = 0) → jn (fun (KJ1 : Prop) => (((v5 = (-1000000)) → KJ1) ∧ (¬ (v5 = (-1000000)) → (ok_m_bits ((x_m_canBe T v6 l2 l1).2) v6) ∧ (ok_m_bits ((x_m_canBe T v6 l2 l1).2) v5) ∧ ((((x_m_bits ((x_m_canBe T v6 l2 l1).2) v6) ≤ (x_m_bits ((x_m_canBe T v6 l2 l1).2) v5)) → N (v4 + 1) v5 (v6 + 1) ((x_m_canBe T v6 l2 l1).2)) ∧ (¬ ((x_m_bits ((x_m_canBe T v6 l2 l1).2) v6) ≤ (x_m_bits ((x_m_canBe T v6 l2 l1).2) v5)) → KJ1))))) (N (v4 + 1) v6 (v6 + 1) ((x_m_canBe T v6 l2 l1).2))))))))
def wp_m_dinners_57 (l1 : Int32) (l2 : Int32) (l3 : Int32) (Kk : Int32 → Int32 → Int32 → St → Prop) (Q : Int32 × St → Prop) : Nat → Int32 → Int32 → Int32 → St → Prop
  | 0, _, _, _, _ => False
  | f + 1, v4, v5, v6, T => bd_m_dinners_57 l1 l2 l3 Kk Q (wp_m_dinners_57 l1 l2 l3 Kk Q f) v4 v5 v6 T
theorem mb_m_dinners_57 (l1 : Int32) (l2 : Int32) (l3 : Int32) {Kk Kk2 : Int32 → Int32 → Int32 → St → Prop} {Q Q2 : Int32 × St → Prop} {N N2 : Int32 → Int32 → Int32 → St → Prop} (hK : ∀ (v4 : Int32) (v5 : Int32) (v6 : Int32) (T : St), Kk v4 v5 v6 T → Kk2 v4 v5 v6 T) (hQ : ∀ r, Q r → Q2 r) (hN : ∀ (v4 : Int32) (v5 : Int32) (v6 : Int32) (T : St), N v4 v5 v6 T → N2 v4 v5 v6 T) (v4 : Int32) (v5 : Int32) (v6 : Int32) (T : St) (w : bd_m_dinners_57 l1 l2 l3 Kk Q N v4 v5 v6 T) : bd_m_dinners_57 l1 l2 l3 Kk2 Q2 N2 v4 v5 v6 T := by
  unfold bd_m_dinners_57 at w ⊢
  refine mo_if w (fun c68_5 w => ?_) (fun c68_5 w => ?_)
  · exact hK v4 v5 v6 T w
  · obtain ⟨q1, w⟩ := w
    refine ⟨q1, ?_⟩
    refine mo_if w (fun c77_6 w => ?_) (fun c77_6 w => ?_)
    · exact hN v4 v5 (v6 + 1) T w
    · obtain ⟨q2, w⟩ := w
      refine ⟨q2, ?_⟩
      refine mo_if w (fun c88_7 w => ?_) (fun c88_7 w => ?_)
      · exact hN v4 v5 (v6 + 1) ((x_m_canBe T v6 l2 l1).2) w
      · refine mo_jn (J := fun (KJ1 : Prop) (WKJ1 : Prop) => KJ1 → WKJ1) w (fun  w => ?_) (fun KJ1 WKJ1 hJ1 w => ?_)
        · skip
          exact hN (v4 + 1) v6 (v6 + 1) ((x_m_canBe T v6 l2 l1).2) w
        · skip
          refine mo_if w (fun c98_10 w => ?_) (fun c98_10 w => ?_)
          · exact hJ1  w
          · obtain ⟨q5, w⟩ := w
            refine ⟨q5, ?_⟩
            obtain ⟨q6, w⟩ := w
            refine ⟨q6, ?_⟩
            refine mo_if w (fun c111_11 w => ?_) (fun c111_11 w => ?_)
            · exact hN (v4 + 1) v5 (v6 + 1) ((x_m_canBe T v6 l2 l1).2) w
            · exact hJ1  w
theorem mo_m_dinners_57 (l1 : Int32) (l2 : Int32) (l3 : Int32) {Kk Kk2 : Int32 → Int32 → Int32 → St → Prop} {Q Q2 : Int32 × St → Prop} (hK : ∀ (v4 : Int32) (v5 : Int32) (v6 : Int32) (T : St), Kk v4 v5 v6 T → Kk2 v4 v5 v6 T) (hQ : ∀ r, Q r → Q2 r) : ∀ (f : Nat) (v4 : Int32) (v5 : Int32) (v6 : Int32) (T : St), wp_m_dinners_57 l1 l2 l3 Kk Q f v4 v5 v6 T → wp_m_dinners_57 l1 l2 l3 Kk2 Q2 f v4 v5 v6 T := by
  intro f
  induction f with
  | zero => intro v4 v5 v6 T w; exact w.elim
  | succ f ih => intro v4 v5 v6 T w; exact mb_m_dinners_57 l1 l2 l3 hK hQ ih v4 v5 v6 T w
theorem wr_m_dinners_57 (l1 : Int32) (l2 : Int32) (l3 : Int32) {Kk : Int32 → Int32 → Int32 → St → Prop} {Q : Int32 × St → Prop} (I : Int32 → Int32 → Int32 → St → Prop) (m : Int32 → Int32 → Int32 → St → Nat) (hv : ∀ (v4 : Int32) (v5 : Int32) (v6 : Int32) (T : St), I v4 v5 v6 T → bd_m_dinners_57 l1 l2 l3 Kk Q (fun uv4 uv5 uv6 uT => I uv4 uv5 uv6 uT ∧ m uv4 uv5 uv6 uT < m v4 v5 v6 T) v4 v5 v6 T) : ∀ (f : Nat) (v4 : Int32) (v5 : Int32) (v6 : Int32) (T : St), m v4 v5 v6 T < f → I v4 v5 v6 T → wp_m_dinners_57 l1 l2 l3 Kk Q f v4 v5 v6 T := by
  intro f
  induction f with
  | zero => intro v4 v5 v6 T h; exact absurd h (Nat.not_lt_zero _)
  | succ f ih => intro v4 v5 v6 T h hi; exact mb_m_dinners_57 l1 l2 l3 (fun _ _ _ _ h => h) (fun _ h => h) (fun uv4 uv5 uv6 uT g => ih uv4 uv5 uv6 uT (by omega) g.1) v4 v5 v6 T (hv v4 v5 v6 T hi)
theorem so_m_dinners_57 (l1 : Int32) (l2 : Int32) (l3 : Int32) {K : Int32 → Int32 → Int32 → St → Int32 × St} {Kk Kk2 : Int32 → Int32 → Int32 → St → Prop} {Q : Int32 × St → Prop} (hk : ∀ (v4 : Int32) (v5 : Int32) (v6 : Int32) (T : St), Kk v4 v5 v6 T → Kk2 v4 v5 v6 T ∧ Q (K v4 v5 v6 T)) : ∀ (f : Nat) (v4 : Int32) (v5 : Int32) (v6 : Int32) (T : St), wp_m_dinners_57 l1 l2 l3 Kk Q f v4 v5 v6 T → ok_m_dinners_57 l1 l2 l3 Kk2 f v4 v5 v6 T ∧ Q (x_m_dinners_57 l1 l2 l3 K f v4 v5 v6 T) := by
  intro f
  induction f with
  | zero => intro v4 v5 v6 T w; exact w.elim
  | succ f ih =>
    intro v4 v5 v6 T w
    rw [wp_m_dinners_57, bd_m_dinners_57] at w
    rw [ok_m_dinners_57, x_m_dinners_57]
    refine so_if2 (Q := Q) w (fun c68_5 w => ?_) (fun c68_5 w => ?_)
    · exact hk v4 v5 v6 T w
    · obtain ⟨q1, w⟩ := w
      refine so_rq q1 ?_
      refine so_if2 (Q := Q) w (fun c77_6 w => ?_) (fun c77_6 w => ?_)
      · exact ih v4 v5 (v6 + 1) T w
      · obtain ⟨q2, w⟩ := w
        refine so_rq q2 ?_
        refine so_if2 (Q := Q) w (fun c88_7 w => ?_) (fun c88_7 w => ?_)
        · exact ih v4 v5 (v6 + 1) ((x_m_canBe T v6 l2 l1).2) w
        · refine so_jn (Q := Q) (J := fun (KJ1 : Int32 × St) (OJ1 : Prop) (WKJ1 : Prop) => WKJ1 → OJ1 ∧ Q (KJ1)) w (fun  w => ?_) (fun KJ1 OJ1 WKJ1 hJ1 w => ?_)
          · skip
            exact ih (v4 + 1) v6 (v6 + 1) ((x_m_canBe T v6 l2 l1).2) w
          · skip
            refine so_if2 (Q := Q) w (fun c98_10 w => ?_) (fun c98_10 w => ?_)
            · exact hJ1  w
            · obtain ⟨q5, w⟩ := w
              refine so_rq q5 ?_
              obtain ⟨q6, w⟩ := w
              refine so_rq q6 ?_
              refine so_if2 (Q := Q) w (fun c111_11 w => ?_) (fun c111_11 w => ?_)
              · exact ih (v4 + 1) v5 (v6 + 1) ((x_m_canBe T v6 l2 l1).2) w
              · exact hJ1  w
def wp_m_dinners (T : St) (p0 : Int32) (p1 : Int32) (p2 : Int32) (Q : Int32 × St → Prop) : Prop := ((((x_m_in (sF T 571 0 0) ((p0 : Int32).toInt64) 1 3) = 0) → Q ((-1000001), sF T 571 0 0)) ∧ (¬ ((x_m_in (sF T 571 0 0) ((p0 : Int32).toInt64) 1 3) = 0) → ((((x_m_isBy (sF T 571 0 0) p1) = 0) → Q ((-1000001), sF T 571 0 0)) ∧ (¬ ((x_m_isBy (sF T 571 0 0) p1) = 0) → ((((x_m_in (sF T 571 0 0) ((p2 : Int32).toInt64) 0 1) = 0) → Q ((-1000001), sF T 571 0 0)) ∧ (¬ ((x_m_in (sF T 571 0 0) ((p2 : Int32).toInt64) 0 1) = 0) → (((((sF T 571 0 0).1 571 7) = 0) → Q ((-1000002), sF T 571 0 0)) ∧ (¬ (((sF T 571 0 0).1 571 7) = 0) → wp_m_dinners_57 p0 p1 p2 (fun w1_4 w1_5 w1_6 T201 => (((p2 = 0) → Q (w1_4, T201)) ∧ (¬ (p2 = 0) → Q (w1_5, T201)))) Q 1000 0 (-1000000) 1 (sF T 571 0 0)))))))))
theorem so_m_dinners {T : St} (p0 : Int32) (p1 : Int32) (p2 : Int32) {Q : Int32 × St → Prop} (w : wp_m_dinners T p0 p1 p2 Q) : ok_m_dinners T p0 p1 p2 ∧ Q (x_m_dinners T p0 p1 p2) := by
  unfold wp_m_dinners at w
  unfold ok_m_dinners x_m_dinners
  refine so_ifF (Q := Q) w (fun c14_1 w => ?_) (fun c14_1 w => ?_)
  · exact w
  · refine so_ifF (Q := Q) w (fun c21_2 w => ?_) (fun c21_2 w => ?_)
    · exact w
    · refine so_ifF (Q := Q) w (fun c31_3 w => ?_) (fun c31_3 w => ?_)
      · exact w
      · refine so_ifF (Q := Q) w (fun c41_4 w => ?_) (fun c41_4 w => ?_)
        · exact w
        · refine so_m_dinners_57 p0 p1 p2 (fun w1_4 w1_5 w1_6 T201 w => ?_) 1000 0 (-1000000) 1 (sF T 571 0 0) w
          refine ⟨trivial, ?_⟩
          refine so_if0 (Q := Q) w (fun c130_12 w => ?_) (fun c130_12 w => ?_)
          · exact w
          · exact w
def bd_m_more_29 (l1 : Int32) (Kk : Int32 → Int32 → St → Prop) (Q : Int32 × St → Prop) (N : Int32 → Int32 → St → Prop) (v2 : Int32) (v3 : Int32) (T : St) : Prop := ((((T.2.2.1 575 (16 : Int32).toNatClampNeg) ≤ v3) → Kk v2 v3 T) ∧ (¬ ((T.2.2.1 575 (16 : Int32).toNatClampNeg) ≤ v3) → (ok_m_bits T (T.2.2.1 575 (202 : Int32).toNatClampNeg)) ∧ (((4 ≤ (x_m_bits T (T.2.2.1 575 (202 : Int32).toNatClampNeg))) → Kk v2 v3 T) ∧ (¬ (4 ≤ (x_m_bits T (T.2.2.1 575 (202 : Int32).toNatClampNeg))) → jn (fun (KJ1 : Int32 → Prop) => ((((((T.2.2.1 575 (202 : Int32).toNatClampNeg) >>> (v3 &&& 31)) &&& 1) = 0) → KJ1 1) ∧ (¬ ((((T.2.2.1 575 (202 : Int32).toNatClampNeg) >>> (v3 &&& 31)) &&& 1) = 0) → KJ1 0))) (fun (j1_s0 : Int32) => jn (fun (KJ2 : St → Prop) => (((j1_s0 = 0) → KJ2 T) ∧ (¬ (j1_s0 = 0) → (ok_m_canBe T ((T.2.2.1 575 (202 : Int32).toNatClampNeg) ||| (1 <<< (v3 &&& 31))) l1 (T.2.2.1 575 (5 : Int32).toNatClampNeg)) ∧ jn (fun (T3 : St) => (((((x_m_canBe T ((T.2.2.1 575 (202 : Int32).toNatClampNeg) ||| (1 <<< (v3 &&& 31))) l1 (T.2.2.1 575 (5 : Int32).toNatClampNeg)).1) = 0) → KJ2 T3) ∧ (¬ (((x_m_canBe T ((T.2.2.1 575 (202 : Int32).toNatClampNeg) ||| (1 <<< (v3 &&& 31))) l1 (T.2.2.1 575 (5 : Int32).toNatClampNeg)).1) = 0) → jn (fun (i4 : Int32) => N i4 (v3 + 1) T3) (v2 ||| (1 <<< (v3 &&& 31)))))) ((x_m_canBe T ((T.2.2.1 575 (202 : Int32).toNatClampNeg) ||| (1 <<< (v3 &&& 31))) l1 (T.2.2.1 575 (5 : Int32).toNatClampNeg)).2)))) (fun (T302 : St) => N (v2 ||| 0) (v3 + 1) T302))))))
def wp_m_more_29 (l1 : Int32) (Kk : Int32 → Int32 → St → Prop) (Q : Int32 × St → Prop) : Nat → Int32 → Int32 → St → Prop
  | 0, _, _, _ => False
  | f + 1, v2, v3, T => bd_m_more_29 l1 Kk Q (wp_m_more_29 l1 Kk Q f) v2 v3 T
theorem mb_m_more_29 (l1 : Int32) {Kk Kk2 : Int32 → Int32 → St → Prop} {Q Q2 : Int32 × St → Prop} {N N2 : Int32 → Int32 → St → Prop} (hK : ∀ (v2 : Int32) (v3 : Int32) (T : St), Kk v2 v3 T → Kk2 v2 v3 T) (hQ : ∀ r, Q r → Q2 r) (hN : ∀ (v2 : Int32) (v3 : Int32) (T : St), N v2 v3 T → N2 v2 v3 T) (v2 : Int32) (v3 : Int32) (T : St) (w : bd_m_more_29 l1 Kk Q N v2 v3 T) : bd_m_more_29 l1 Kk2 Q2 N2 v2 v3 T := by
  unfold bd_m_more_29 at w ⊢
  refine mo_if w (fun c37_3 w => ?_) (fun c37_3 w => ?_)
  · exact hK v2 v3 T w
  · obtain ⟨q1, w⟩ := w
    refine ⟨q1, ?_⟩
    refine mo_if w (fun c52_4 w => ?_) (fun c52_4 w => ?_)
    · exact hK v2 v3 T w
    · refine mo_jn (J := fun (KJ1 : Int32 → Prop) (WKJ1 : Int32 → Prop) => ∀ (j1_s0 : Int32), KJ1 j1_s0 → WKJ1 j1_s0) w (fun j1_s0 w => ?_) (fun KJ1 WKJ1 hJ1 w => ?_)
      · skip
        refine mo_jn (J := fun (KJ2 : St → Prop) (WKJ2 : St → Prop) => ∀ (T302 : St), KJ2 T302 → WKJ2 T302) w (fun T302 w => ?_) (fun KJ2 WKJ2 hJ2 w => ?_)
        · skip
          exact hN (v2 ||| 0) (v3 + 1) T302 w
        · skip
          refine mo_if w (fun c80_8 w => ?_) (fun c80_8 w => ?_)
          · exact hJ2 T w
          · obtain ⟨q3, w⟩ := w
            refine ⟨q3, ?_⟩
            refine mo_n w (fun T3 w => ?_)
            refine mo_if w (fun c106_9 w => ?_) (fun c106_9 w => ?_)
            · exact hJ2 T3 w
            · refine mo_n w (fun i4 w => ?_)
              exact hN i4 (v3 + 1) T3 w
      · skip
        refine mo_if w (fun c67_10 w => ?_) (fun c67_10 w => ?_)
        · exact hJ1 1 w
        · exact hJ1 0 w
theorem mo_m_more_29 (l1 : Int32) {Kk Kk2 : Int32 → Int32 → St → Prop} {Q Q2 : Int32 × St → Prop} (hK : ∀ (v2 : Int32) (v3 : Int32) (T : St), Kk v2 v3 T → Kk2 v2 v3 T) (hQ : ∀ r, Q r → Q2 r) : ∀ (f : Nat) (v2 : Int32) (v3 : Int32) (T : St), wp_m_more_29 l1 Kk Q f v2 v3 T → wp_m_more_29 l1 Kk2 Q2 f v2 v3 T := by
  intro f
  induction f with
  | zero => intro v2 v3 T w; exact w.elim
  | succ f ih => intro v2 v3 T w; exact mb_m_more_29 l1 hK hQ ih v2 v3 T w
theorem wr_m_more_29 (l1 : Int32) {Kk : Int32 → Int32 → St → Prop} {Q : Int32 × St → Prop} (I : Int32 → Int32 → St → Prop) (m : Int32 → Int32 → St → Nat) (hv : ∀ (v2 : Int32) (v3 : Int32) (T : St), I v2 v3 T → bd_m_more_29 l1 Kk Q (fun uv2 uv3 uT => I uv2 uv3 uT ∧ m uv2 uv3 uT < m v2 v3 T) v2 v3 T) : ∀ (f : Nat) (v2 : Int32) (v3 : Int32) (T : St), m v2 v3 T < f → I v2 v3 T → wp_m_more_29 l1 Kk Q f v2 v3 T := by
  intro f
  induction f with
  | zero => intro v2 v3 T h; exact absurd h (Nat.not_lt_zero _)
  | succ f ih => intro v2 v3 T h hi; exact mb_m_more_29 l1 (fun _ _ _ h => h) (fun _ h => h) (fun uv2 uv3 uT g => ih uv2 uv3 uT (by omega) g.1) v2 v3 T (hv v2 v3 T hi)
theorem so_m_more_29 (l1 : Int32) {K : Int32 → Int32 → St → Int32 × St} {Kk Kk2 : Int32 → Int32 → St → Prop} {Q : Int32 × St → Prop} (hk : ∀ (v2 : Int32) (v3 : Int32) (T : St), Kk v2 v3 T → Kk2 v2 v3 T ∧ Q (K v2 v3 T)) : ∀ (f : Nat) (v2 : Int32) (v3 : Int32) (T : St), wp_m_more_29 l1 Kk Q f v2 v3 T → ok_m_more_29 l1 Kk2 f v2 v3 T ∧ Q (x_m_more_29 l1 K f v2 v3 T) := by
  intro f
  induction f with
  | zero => intro v2 v3 T w; exact w.elim
  | succ f ih =>
    intro v2 v3 T w
    rw [wp_m_more_29, bd_m_more_29] at w
    rw [ok_m_more_29, x_m_more_29]
    refine so_if2 (Q := Q) w (fun c37_3 w => ?_) (fun c37_3 w => ?_)
    · exact hk v2 v3 T w
    · obtain ⟨q1, w⟩ := w
      refine so_rq q1 ?_
      refine so_if2 (Q := Q) w (fun c52_4 w => ?_) (fun c52_4 w => ?_)
      · exact hk v2 v3 T w
      · refine so_jn (Q := Q) (J := fun (KJ1 : Int32 → Int32 × St) (OJ1 : Int32 → Prop) (WKJ1 : Int32 → Prop) => ∀ (j1_s0 : Int32), WKJ1 j1_s0 → OJ1 j1_s0 ∧ Q (KJ1 j1_s0)) w (fun j1_s0 w => ?_) (fun KJ1 OJ1 WKJ1 hJ1 w => ?_)
        · skip
          refine so_jn (Q := Q) (J := fun (KJ2 : St → Int32 × St) (OJ2 : St → Prop) (WKJ2 : St → Prop) => ∀ (T302 : St), WKJ2 T302 → OJ2 T302 ∧ Q (KJ2 T302)) w (fun T302 w => ?_) (fun KJ2 OJ2 WKJ2 hJ2 w => ?_)
          · skip
            exact ih (v2 ||| 0) (v3 + 1) T302 w
          · skip
            refine so_if2 (Q := Q) w (fun c80_8 w => ?_) (fun c80_8 w => ?_)
            · exact hJ2 T w
            · obtain ⟨q3, w⟩ := w
              refine so_rq q3 ?_
              refine so_n (Q := Q) w (fun T3 w => ?_)
              refine so_if2 (Q := Q) w (fun c106_9 w => ?_) (fun c106_9 w => ?_)
              · exact hJ2 T3 w
              · refine so_n (Q := Q) w (fun i4 w => ?_)
                exact ih i4 (v3 + 1) T3 w
        · skip
          refine so_if2 (Q := Q) w (fun c67_10 w => ?_) (fun c67_10 w => ?_)
          · exact hJ1 1 w
          · exact hJ1 0 w
def wp_m_more (T : St) (p0 : Int32) (Q : Int32 × St → Prop) : Prop := ((((x_m_isBy (sF T 571 0 0) p0) = 0) → Q ((-1000001), sF T 571 0 0)) ∧ (¬ ((x_m_isBy (sF T 571 0 0) p0) = 0) → (((((sF T 571 0 0).1 571 7) = 0) → Q ((-1000002), sF T 571 0 0)) ∧ (¬ (((sF T 571 0 0).1 571 7) = 0) → wp_m_more_29 p0 (fun w1_2 w1_3 T201 => Q (w1_2, T201)) Q 1000 0 0 (sF T 571 0 0)))))
theorem so_m_more {T : St} (p0 : Int32) {Q : Int32 × St → Prop} (w : wp_m_more T p0 Q) : ok_m_more T p0 ∧ Q (x_m_more T p0) := by
  unfold wp_m_more at w
  unfold ok_m_more x_m_more
  refine so_ifF (Q := Q) w (fun c9_1 w => ?_) (fun c9_1 w => ?_)
  · exact w
  · refine so_ifF (Q := Q) w (fun c19_2 w => ?_) (fun c19_2 w => ?_)
    · exact w
    · refine so_m_more_29 p0 (fun w1_2 w1_3 T201 w => ?_) 1000 0 0 (sF T 571 0 0) w
      refine ⟨trivial, ?_⟩
      exact w
def bd_m_mend_67 (l1 : Int32) (l2 : Int32) (Kk : Int32 → St → Prop) (Q : Int32 × St → Prop) (N : Int32 → St → Prop) (v3 : Int32) (T : St) : Prop := (((12 ≤ v3) → Kk v3 T) ∧ (¬ (12 ≤ v3) → (vp_in v3 12) ∧ N (v3 + 1) (sA T 591 (v3 : Int32).toNatClampNeg (T.2.2.1 593 (v3 : Int32).toNatClampNeg))))
def wp_m_mend_67 (l1 : Int32) (l2 : Int32) (Kk : Int32 → St → Prop) (Q : Int32 × St → Prop) : Nat → Int32 → St → Prop
  | 0, _, _ => False
  | f + 1, v3, T => bd_m_mend_67 l1 l2 Kk Q (wp_m_mend_67 l1 l2 Kk Q f) v3 T
theorem mb_m_mend_67 (l1 : Int32) (l2 : Int32) {Kk Kk2 : Int32 → St → Prop} {Q Q2 : Int32 × St → Prop} {N N2 : Int32 → St → Prop} (hK : ∀ (v3 : Int32) (T : St), Kk v3 T → Kk2 v3 T) (hQ : ∀ r, Q r → Q2 r) (hN : ∀ (v3 : Int32) (T : St), N v3 T → N2 v3 T) (v3 : Int32) (T : St) (w : bd_m_mend_67 l1 l2 Kk Q N v3 T) : bd_m_mend_67 l1 l2 Kk2 Q2 N2 v3 T := by
  unfold bd_m_mend_67 at w ⊢
  refine mo_if w (fun c70_7 w => ?_) (fun c70_7 w => ?_)
  · exact hK v3 T w
  · obtain ⟨q2, w⟩ := w
    refine ⟨q2, ?_⟩
    exact hN (v3 + 1) (sA T 591 (v3 : Int32).toNatClampNeg (T.2.2.1 593 (v3 : Int32).toNatClampNeg)) w
theorem mo_m_mend_67 (l1 : Int32) (l2 : Int32) {Kk Kk2 : Int32 → St → Prop} {Q Q2 : Int32 × St → Prop} (hK : ∀ (v3 : Int32) (T : St), Kk v3 T → Kk2 v3 T) (hQ : ∀ r, Q r → Q2 r) : ∀ (f : Nat) (v3 : Int32) (T : St), wp_m_mend_67 l1 l2 Kk Q f v3 T → wp_m_mend_67 l1 l2 Kk2 Q2 f v3 T := by
  intro f
  induction f with
  | zero => intro v3 T w; exact w.elim
  | succ f ih => intro v3 T w; exact mb_m_mend_67 l1 l2 hK hQ ih v3 T w
theorem wr_m_mend_67 (l1 : Int32) (l2 : Int32) {Kk : Int32 → St → Prop} {Q : Int32 × St → Prop} (I : Int32 → St → Prop) (m : Int32 → St → Nat) (hv : ∀ (v3 : Int32) (T : St), I v3 T → bd_m_mend_67 l1 l2 Kk Q (fun uv3 uT => I uv3 uT ∧ m uv3 uT < m v3 T) v3 T) : ∀ (f : Nat) (v3 : Int32) (T : St), m v3 T < f → I v3 T → wp_m_mend_67 l1 l2 Kk Q f v3 T := by
  intro f
  induction f with
  | zero => intro v3 T h; exact absurd h (Nat.not_lt_zero _)
  | succ f ih => intro v3 T h hi; exact mb_m_mend_67 l1 l2 (fun _ _ h => h) (fun _ h => h) (fun uv3 uT g => ih uv3 uT (by omega) g.1) v3 T (hv v3 T hi)
theorem so_m_mend_67 (l1 : Int32) (l2 : Int32) {K : Int32 → St → Int32 × St} {Kk Kk2 : Int32 → St → Prop} {Q : Int32 × St → Prop} (hk : ∀ (v3 : Int32) (T : St), Kk v3 T → Kk2 v3 T ∧ Q (K v3 T)) : ∀ (f : Nat) (v3 : Int32) (T : St), wp_m_mend_67 l1 l2 Kk Q f v3 T → ok_m_mend_67 l1 l2 Kk2 f v3 T ∧ Q (x_m_mend_67 l1 l2 K f v3 T) := by
  intro f
  induction f with
  | zero => intro v3 T w; exact w.elim
  | succ f ih =>
    intro v3 T w
    rw [wp_m_mend_67, bd_m_mend_67] at w
    rw [ok_m_mend_67, x_m_mend_67]
    refine so_if2 (Q := Q) w (fun c70_7 w => ?_) (fun c70_7 w => ?_)
    · exact hk v3 T w
    · obtain ⟨q2, w⟩ := w
      refine so_rq q2 ?_
      exact ih (v3 + 1) (sA T 591 (v3 : Int32).toNatClampNeg (T.2.2.1 593 (v3 : Int32).toNatClampNeg)) w
def wp_m_mend (T : St) (p0 : Int32) (p1 : Int32) (Q : Int32 × St → Prop) : Prop := ((((x_m_isBy (sF T 571 0 0) p0) = 0) → Q ((-1000001), sF T 571 0 0)) ∧ (¬ ((x_m_isBy (sF T 571 0 0) p0) = 0) → ((((x_m_isMinute (sF T 571 0 0) p1) = 0) → Q ((-1000001), sF T 571 0 0)) ∧ (¬ ((x_m_isMinute (sF T 571 0 0) p1) = 0) → (((((sF T 571 0 0).1 571 7) = 0) → Q ((-1000002), sF T 571 0 0)) ∧ (¬ (((sF T 571 0 0).1 571 7) = 0) → (((((sF T 571 0 0).2.2.1 575 (1 : Int32).toNatClampNeg) = 0) → Q ((-1000002), sF T 571 0 0)) ∧ (¬ (((sF T 571 0 0).2.2.1 575 (1 : Int32).toNatClampNeg) = 0) → (((60 ≤ ((sF T 571 0 0).2.2.1 575 (203 : Int32).toNatClampNeg)) → (ok_m_know (sF T 571 0 0) p0) ∧ (((((x_m_know (sF T 571 0 0) p0).1) = 0) → Q ((-1000000), (x_m_know (sF T 571 0 0) p0).2)) ∧ (¬ (((x_m_know (sF T 571 0 0) p0).1) = 0) → wp_m_mend_67 p0 p1 (fun w1_3 T201 => (ok_m_seek (sF T201 571 32 p1) ((sF T201 571 32 p1).2.2.1 575 (202 : Int32).toNatClampNeg) p0 ((sF T201 571 32 p1).2.2.1 575 (5 : Int32).toNatClampNeg) p1 0 0) ∧ jn (fun (T1 : St) => jn (fun (i2 : Int32) => (((i2 = 0) → Q ((-1000000), sF T1 571 32 0)) ∧ (¬ (i2 = 0) → Q ((sF T1 571 32 0).1 571 31, sF T1 571 32 0)))) ((x_m_seek (sF T201 571 32 p1) ((sF T201 571 32 p1).2.2.1 575 (202 : Int32).toNatClampNeg) p0 ((sF T201 571 32 p1).2.2.1 575 (5 : Int32).toNatClampNeg) p1 0 0).1)) ((x_m_seek (sF T201 571 32 p1) ((sF T201 571 32 p1).2.2.1 575 (202 : Int32).toNatClampNeg) p0 ((sF T201 571 32 p1).2.2.1 575 (5 : Int32).toNatClampNeg) p1 0 0).2)) Q 1000 0 ((x_m_know (sF T 571 0 0) p0).2)))) ∧ (¬ (60 ≤ ((sF T 571 0 0).2.2.1 575 (203 : Int32).toNatClampNeg)) → Q ((-1000002), sF T 571 0 0)))))))))))
theorem so_m_mend {T : St} (p0 : Int32) (p1 : Int32) {Q : Int32 × St → Prop} (w : wp_m_mend T p0 p1 Q) : ok_m_mend T p0 p1 ∧ Q (x_m_mend T p0 p1) := by
  unfold wp_m_mend at w
  unfold ok_m_mend x_m_mend
  refine so_ifF (Q := Q) w (fun c9_1 w => ?_) (fun c9_1 w => ?_)
  · exact w
  · refine so_ifF (Q := Q) w (fun c16_2 w => ?_) (fun c16_2 w => ?_)
    · exact w
    · refine so_ifF (Q := Q) w (fun c26_3 w => ?_) (fun c26_3 w => ?_)
      · exact w
      · refine so_ifF (Q := Q) w (fun c35_4 w => ?_) (fun c35_4 w => ?_)
        · exact w
        · refine so_ifT (Q := Q) w (fun c48_5 w => ?_) (fun c48_5 w => ?_)
          · obtain ⟨q1, w⟩ := w
            refine so_rq q1 ?_
            refine so_ifF (Q := Q) w (fun c59_6 w => ?_) (fun c59_6 w => ?_)
            · exact w
            · refine so_m_mend_67 p0 p1 (fun w1_3 T201 w => ?_) 1000 0 ((x_m_know (sF T 571 0 0) p0).2) w
              obtain ⟨q3, w⟩ := w
              refine so_rq q3 ?_
              refine ⟨trivial, ?_⟩
              refine so_n0 (Q := Q) w (fun T1 w => ?_)
              refine so_n0 (Q := Q) w (fun i2 w => ?_)
              refine so_if0 (Q := Q) w (fun c125_8 w => ?_) (fun c125_8 w => ?_)
              · exact w
              · exact w
          · exact w
def bd_m_mind_38 (l1 : Int32) (l2 : Int32) (Kk : Int32 → Int32 → St → Prop) (Q : Int32 × St → Prop) (N : Int32 → Int32 → St → Prop) (v3 : Int32) (v4 : Int32) (T : St) : Prop := (ok_m_know T l1) ∧ (((((x_m_know T l1).1) = 0) → Kk v3 v4 ((x_m_know T l1).2)) ∧ (¬ (((x_m_know T l1).1) = 0) → ((((((x_m_know T l1).2).1 571 39) ≤ v4) → Kk v3 v4 ((x_m_know T l1).2)) ∧ (¬ ((((x_m_know T l1).2).1 571 39) ≤ v4) → (vp_in v4 12) ∧ ((((((x_m_know T l1).2).2.2.1 595 (v4 : Int32).toNatClampNeg) < l2) → N v3 (v4 + 1) ((x_m_know T l1).2)) ∧ (¬ ((((x_m_know T l1).2).2.2.1 595 (v4 : Int32).toNatClampNeg) < l2) → jn (fun (KJ1 : Prop) => (((v3 = (-1000000)) → KJ1) ∧ (¬ (v3 = (-1000000)) → (vp_in v3 12) ∧ ((((((x_m_know T l1).2).2.2.1 595 (v3 : Int32).toNatClampNeg) ≤ (((x_m_know T l1).2).2.2.1 595 (v4 : Int32).toNatClampNeg)) → N v3 (v4 + 1) ((x_m_know T l1).2)) ∧ (¬ ((((x_m_know T l1).2).2.2.1 595 (v3 : Int32).toNatClampNeg) ≤ (((x_m_know T l1).2).2.2.1 595 (v4 : Int32).toNatClampNeg)) → KJ1))))) (N v4 (v4 + 1) ((x_m_know T l1).2))))))))
def wp_m_mind_38 (l1 : Int32) (l2 : Int32) (Kk : Int32 → Int32 → St → Prop) (Q : Int32 × St → Prop) : Nat → Int32 → Int32 → St → Prop
  | 0, _, _, _ => False
  | f + 1, v3, v4, T => bd_m_mind_38 l1 l2 Kk Q (wp_m_mind_38 l1 l2 Kk Q f) v3 v4 T
theorem mb_m_mind_38 (l1 : Int32) (l2 : Int32) {Kk Kk2 : Int32 → Int32 → St → Prop} {Q Q2 : Int32 × St → Prop} {N N2 : Int32 → Int32 → St → Prop} (hK : ∀ (v3 : Int32) (v4 : Int32) (T : St), Kk v3 v4 T → Kk2 v3 v4 T) (hQ : ∀ r, Q r → Q2 r) (hN : ∀ (v3 : Int32) (v4 : Int32) (T : St), N v3 v4 T → N2 v3 v4 T) (v3 : Int32) (v4 : Int32) (T : St) (w : bd_m_mind_38 l1 l2 Kk Q N v3 v4 T) : bd_m_mind_38 l1 l2 Kk2 Q2 N2 v3 v4 T := by
  unfold bd_m_mind_38 at w ⊢
  obtain ⟨q1, w⟩ := w
  refine ⟨q1, ?_⟩
  refine mo_if w (fun c43_4 w => ?_) (fun c43_4 w => ?_)
  · exact hK v3 v4 ((x_m_know T l1).2) w
  · refine mo_if w (fun c52_5 w => ?_) (fun c52_5 w => ?_)
    · exact hK v3 v4 ((x_m_know T l1).2) w
    · obtain ⟨q2, w⟩ := w
      refine ⟨q2, ?_⟩
      refine mo_if w (fun c63_6 w => ?_) (fun c63_6 w => ?_)
      · exact hN v3 (v4 + 1) ((x_m_know T l1).2) w
      · refine mo_jn (J := fun (KJ1 : Prop) (WKJ1 : Prop) => KJ1 → WKJ1) w (fun  w => ?_) (fun KJ1 WKJ1 hJ1 w => ?_)
        · skip
          exact hN v4 (v4 + 1) ((x_m_know T l1).2) w
        · skip
          refine mo_if w (fun c69_9 w => ?_) (fun c69_9 w => ?_)
          · exact hJ1  w
          · obtain ⟨q4, w⟩ := w
            refine ⟨q4, ?_⟩
            refine mo_if w (fun c85_10 w => ?_) (fun c85_10 w => ?_)
            · exact hN v3 (v4 + 1) ((x_m_know T l1).2) w
            · exact hJ1  w
theorem mo_m_mind_38 (l1 : Int32) (l2 : Int32) {Kk Kk2 : Int32 → Int32 → St → Prop} {Q Q2 : Int32 × St → Prop} (hK : ∀ (v3 : Int32) (v4 : Int32) (T : St), Kk v3 v4 T → Kk2 v3 v4 T) (hQ : ∀ r, Q r → Q2 r) : ∀ (f : Nat) (v3 : Int32) (v4 : Int32) (T : St), wp_m_mind_38 l1 l2 Kk Q f v3 v4 T → wp_m_mind_38 l1 l2 Kk2 Q2 f v3 v4 T := by
  intro f
  induction f with
  | zero => intro v3 v4 T w; exact w.elim
  | succ f ih => intro v3 v4 T w; exact mb_m_mind_38 l1 l2 hK hQ ih v3 v4 T w
theorem wr_m_mind_38 (l1 : Int32) (l2 : Int32) {Kk : Int32 → Int32 → St → Prop} {Q : Int32 × St → Prop} (I : Int32 → Int32 → St → Prop) (m : Int32 → Int32 → St → Nat) (hv : ∀ (v3 : Int32) (v4 : Int32) (T : St), I v3 v4 T → bd_m_mind_38 l1 l2 Kk Q (fun uv3 uv4 uT => I uv3 uv4 uT ∧ m uv3 uv4 uT < m v3 v4 T) v3 v4 T) : ∀ (f : Nat) (v3 : Int32) (v4 : Int32) (T : St), m v3 v4 T < f → I v3 v4 T → wp_m_mind_38 l1 l2 Kk Q f v3 v4 T := by
  intro f
  induction f with
  | zero => intro v3 v4 T h; exact absurd h (Nat.not_lt_zero _)
  | succ f ih => intro v3 v4 T h hi; exact mb_m_mind_38 l1 l2 (fun _ _ _ h => h) (fun _ h => h) (fun uv3 uv4 uT g => ih uv3 uv4 uT (by omega) g.1) v3 v4 T (hv v3 v4 T hi)
theorem so_m_mind_38 (l1 : Int32) (l2 : Int32) {K : Int32 → Int32 → St → Int32 × St} {Kk Kk2 : Int32 → Int32 → St → Prop} {Q : Int32 × St → Prop} (hk : ∀ (v3 : Int32) (v4 : Int32) (T : St), Kk v3 v4 T → Kk2 v3 v4 T ∧ Q (K v3 v4 T)) : ∀ (f : Nat) (v3 : Int32) (v4 : Int32) (T : St), wp_m_mind_38 l1 l2 Kk Q f v3 v4 T → ok_m_mind_38 l1 l2 Kk2 f v3 v4 T ∧ Q (x_m_mind_38 l1 l2 K f v3 v4 T) := by
  intro f
  induction f with
  | zero => intro v3 v4 T w; exact w.elim
  | succ f ih =>
    intro v3 v4 T w
    rw [wp_m_mind_38, bd_m_mind_38] at w
    rw [ok_m_mind_38, x_m_mind_38]
    obtain ⟨q1, w⟩ := w
    refine so_rq q1 ?_
    refine so_if2 (Q := Q) w (fun c43_4 w => ?_) (fun c43_4 w => ?_)
    · exact hk v3 v4 ((x_m_know T l1).2) w
    · refine so_if2 (Q := Q) w (fun c52_5 w => ?_) (fun c52_5 w => ?_)
      · exact hk v3 v4 ((x_m_know T l1).2) w
      · obtain ⟨q2, w⟩ := w
        refine so_rq q2 ?_
        refine so_if2 (Q := Q) w (fun c63_6 w => ?_) (fun c63_6 w => ?_)
        · exact ih v3 (v4 + 1) ((x_m_know T l1).2) w
        · refine so_jn (Q := Q) (J := fun (KJ1 : Int32 × St) (OJ1 : Prop) (WKJ1 : Prop) => WKJ1 → OJ1 ∧ Q (KJ1)) w (fun  w => ?_) (fun KJ1 OJ1 WKJ1 hJ1 w => ?_)
          · skip
            exact ih v4 (v4 + 1) ((x_m_know T l1).2) w
          · skip
            refine so_if2 (Q := Q) w (fun c69_9 w => ?_) (fun c69_9 w => ?_)
            · exact hJ1  w
            · obtain ⟨q4, w⟩ := w
              refine so_rq q4 ?_
              refine so_if2 (Q := Q) w (fun c85_10 w => ?_) (fun c85_10 w => ?_)
              · exact ih v3 (v4 + 1) ((x_m_know T l1).2) w
              · exact hJ1  w
def wp_m_mind (T : St) (p0 : Int32) (p1 : Int32) (Q : Int32 × St → Prop) : Prop := ((((x_m_isBy (sF T 571 0 0) p0) = 0) → Q ((-1000001), sF T 571 0 0)) ∧ (¬ ((x_m_isBy (sF T 571 0 0) p0) = 0) → ((((x_m_isMinute (sF T 571 0 0) p1) = 0) → Q ((-1000001), sF T 571 0 0)) ∧ (¬ ((x_m_isMinute (sF T 571 0 0) p1) = 0) → (((((sF T 571 0 0).1 571 7) = 0) → Q ((-1000002), sF T 571 0 0)) ∧ (¬ (((sF T 571 0 0).1 571 7) = 0) → wp_m_mind_38 p0 p1 (fun w1_3 w1_4 T201 => Q (w1_3, T201)) Q 1000 (-1000000) 0 (sF T 571 0 0)))))))
theorem so_m_mind {T : St} (p0 : Int32) (p1 : Int32) {Q : Int32 × St → Prop} (w : wp_m_mind T p0 p1 Q) : ok_m_mind T p0 p1 ∧ Q (x_m_mind T p0 p1) := by
  unfold wp_m_mind at w
  unfold ok_m_mind x_m_mind
  refine so_ifF (Q := Q) w (fun c9_1 w => ?_) (fun c9_1 w => ?_)
  · exact w
  · refine so_ifF (Q := Q) w (fun c16_2 w => ?_) (fun c16_2 w => ?_)
    · exact w
    · refine so_ifF (Q := Q) w (fun c26_3 w => ?_) (fun c26_3 w => ?_)
      · exact w
      · refine so_m_mind_38 p0 p1 (fun w1_3 w1_4 T201 w => ?_) 1000 (-1000000) 0 (sF T 571 0 0) w
        refine ⟨trivial, ?_⟩
        exact w
def bd_m_image_30 (l1 : Int32) (Kk : Int32 → St → Prop) (Q : Int32 × St → Prop) (N : Int32 → St → Prop) (v2 : Int32) (T : St) : Prop := (((204 ≤ v2) → Kk v2 T) ∧ (¬ (204 ≤ v2) → (vp_in v2 204) ∧ (vp_in ((204 * l1) + v2) 408) ∧ N (v2 + 1) (sA T 600 ((204 * l1) + v2 : Int32).toNatClampNeg (T.2.2.1 575 (v2 : Int32).toNatClampNeg))))
def wp_m_image_30 (l1 : Int32) (Kk : Int32 → St → Prop) (Q : Int32 × St → Prop) : Nat → Int32 → St → Prop
  | 0, _, _ => False
  | f + 1, v2, T => bd_m_image_30 l1 Kk Q (wp_m_image_30 l1 Kk Q f) v2 T
theorem mb_m_image_30 (l1 : Int32) {Kk Kk2 : Int32 → St → Prop} {Q Q2 : Int32 × St → Prop} {N N2 : Int32 → St → Prop} (hK : ∀ (v2 : Int32) (T : St), Kk v2 T → Kk2 v2 T) (hQ : ∀ r, Q r → Q2 r) (hN : ∀ (v2 : Int32) (T : St), N v2 T → N2 v2 T) (v2 : Int32) (T : St) (w : bd_m_image_30 l1 Kk Q N v2 T) : bd_m_image_30 l1 Kk2 Q2 N2 v2 T := by
  unfold bd_m_image_30 at w ⊢
  refine mo_if w (fun c34_3 w => ?_) (fun c34_3 w => ?_)
  · exact hK v2 T w
  · obtain ⟨q1, w⟩ := w
    refine ⟨q1, ?_⟩
    obtain ⟨q2, w⟩ := w
    refine ⟨q2, ?_⟩
    exact hN (v2 + 1) (sA T 600 ((204 * l1) + v2 : Int32).toNatClampNeg (T.2.2.1 575 (v2 : Int32).toNatClampNeg)) w
theorem mo_m_image_30 (l1 : Int32) {Kk Kk2 : Int32 → St → Prop} {Q Q2 : Int32 × St → Prop} (hK : ∀ (v2 : Int32) (T : St), Kk v2 T → Kk2 v2 T) (hQ : ∀ r, Q r → Q2 r) : ∀ (f : Nat) (v2 : Int32) (T : St), wp_m_image_30 l1 Kk Q f v2 T → wp_m_image_30 l1 Kk2 Q2 f v2 T := by
  intro f
  induction f with
  | zero => intro v2 T w; exact w.elim
  | succ f ih => intro v2 T w; exact mb_m_image_30 l1 hK hQ ih v2 T w
theorem wr_m_image_30 (l1 : Int32) {Kk : Int32 → St → Prop} {Q : Int32 × St → Prop} (I : Int32 → St → Prop) (m : Int32 → St → Nat) (hv : ∀ (v2 : Int32) (T : St), I v2 T → bd_m_image_30 l1 Kk Q (fun uv2 uT => I uv2 uT ∧ m uv2 uT < m v2 T) v2 T) : ∀ (f : Nat) (v2 : Int32) (T : St), m v2 T < f → I v2 T → wp_m_image_30 l1 Kk Q f v2 T := by
  intro f
  induction f with
  | zero => intro v2 T h; exact absurd h (Nat.not_lt_zero _)
  | succ f ih => intro v2 T h hi; exact mb_m_image_30 l1 (fun _ _ h => h) (fun _ h => h) (fun uv2 uT g => ih uv2 uT (by omega) g.1) v2 T (hv v2 T hi)
theorem so_m_image_30 (l1 : Int32) {K : Int32 → St → Int32 × St} {Kk Kk2 : Int32 → St → Prop} {Q : Int32 × St → Prop} (hk : ∀ (v2 : Int32) (T : St), Kk v2 T → Kk2 v2 T ∧ Q (K v2 T)) : ∀ (f : Nat) (v2 : Int32) (T : St), wp_m_image_30 l1 Kk Q f v2 T → ok_m_image_30 l1 Kk2 f v2 T ∧ Q (x_m_image_30 l1 K f v2 T) := by
  intro f
  induction f with
  | zero => intro v2 T w; exact w.elim
  | succ f ih =>
    intro v2 T w
    rw [wp_m_image_30, bd_m_image_30] at w
    rw [ok_m_image_30, x_m_image_30]
    refine so_if2 (Q := Q) w (fun c34_3 w => ?_) (fun c34_3 w => ?_)
    · exact hk v2 T w
    · obtain ⟨q1, w⟩ := w
      refine so_rq q1 ?_
      obtain ⟨q2, w⟩ := w
      refine so_rq q2 ?_
      exact ih (v2 + 1) (sA T 600 ((204 * l1) + v2 : Int32).toNatClampNeg (T.2.2.1 575 (v2 : Int32).toNatClampNeg)) w
def wp_m_image (T : St) (p0 : Int32) (Q : Int32 × St → Prop) : Prop := ((((x_m_in (sF T 571 0 0) ((p0 : Int32).toInt64) 0 1) = 0) → Q ((-1000001), sF T 571 0 0)) ∧ (¬ ((x_m_in (sF T 571 0 0) ((p0 : Int32).toInt64) 0 1) = 0) → (((((sF T 571 0 0).1 571 7) = 0) → Q ((-1000002), sF T 571 0 0)) ∧ (¬ (((sF T 571 0 0).1 571 7) = 0) → wp_m_image_30 p0 (fun w1_2 T201 => (vp_in p0 2) ∧ Q (1, sA T201 599 (p0 : Int32).toNatClampNeg (vp_nar .boolean 1))) Q 1000 0 (sF T 571 0 0)))))
theorem so_m_image {T : St} (p0 : Int32) {Q : Int32 × St → Prop} (w : wp_m_image T p0 Q) : ok_m_image T p0 ∧ Q (x_m_image T p0) := by
  unfold wp_m_image at w
  unfold ok_m_image x_m_image
  refine so_ifF (Q := Q) w (fun c12_1 w => ?_) (fun c12_1 w => ?_)
  · exact w
  · refine so_ifF (Q := Q) w (fun c22_2 w => ?_) (fun c22_2 w => ?_)
    · exact w
    · refine so_m_image_30 p0 (fun w1_2 T201 w => ?_) 1000 0 (sF T 571 0 0) w
      obtain ⟨q3, w⟩ := w
      refine so_rq q3 ?_
      refine ⟨trivial, ?_⟩
      exact w
def bd_m_restore_32 (l1 : Int32) (Kk : Int32 → St → Prop) (Q : Int32 × St → Prop) (N : Int32 → St → Prop) (v2 : Int32) (T : St) : Prop := (((204 ≤ v2) → Kk v2 T) ∧ (¬ (204 ≤ v2) → (vp_in ((204 * l1) + v2) 408) ∧ (vp_in v2 204) ∧ N (v2 + 1) (sA T 575 (v2 : Int32).toNatClampNeg (T.2.2.1 600 ((204 * l1) + v2 : Int32).toNatClampNeg))))
def wp_m_restore_32 (l1 : Int32) (Kk : Int32 → St → Prop) (Q : Int32 × St → Prop) : Nat → Int32 → St → Prop
  | 0, _, _ => False
  | f + 1, v2, T => bd_m_restore_32 l1 Kk Q (wp_m_restore_32 l1 Kk Q f) v2 T
theorem mb_m_restore_32 (l1 : Int32) {Kk Kk2 : Int32 → St → Prop} {Q Q2 : Int32 × St → Prop} {N N2 : Int32 → St → Prop} (hK : ∀ (v2 : Int32) (T : St), Kk v2 T → Kk2 v2 T) (hQ : ∀ r, Q r → Q2 r) (hN : ∀ (v2 : Int32) (T : St), N v2 T → N2 v2 T) (v2 : Int32) (T : St) (w : bd_m_restore_32 l1 Kk Q N v2 T) : bd_m_restore_32 l1 Kk2 Q2 N2 v2 T := by
  unfold bd_m_restore_32 at w ⊢
  refine mo_if w (fun c36_3 w => ?_) (fun c36_3 w => ?_)
  · exact hK v2 T w
  · obtain ⟨q2, w⟩ := w
    refine ⟨q2, ?_⟩
    obtain ⟨q3, w⟩ := w
    refine ⟨q3, ?_⟩
    exact hN (v2 + 1) (sA T 575 (v2 : Int32).toNatClampNeg (T.2.2.1 600 ((204 * l1) + v2 : Int32).toNatClampNeg)) w
theorem mo_m_restore_32 (l1 : Int32) {Kk Kk2 : Int32 → St → Prop} {Q Q2 : Int32 × St → Prop} (hK : ∀ (v2 : Int32) (T : St), Kk v2 T → Kk2 v2 T) (hQ : ∀ r, Q r → Q2 r) : ∀ (f : Nat) (v2 : Int32) (T : St), wp_m_restore_32 l1 Kk Q f v2 T → wp_m_restore_32 l1 Kk2 Q2 f v2 T := by
  intro f
  induction f with
  | zero => intro v2 T w; exact w.elim
  | succ f ih => intro v2 T w; exact mb_m_restore_32 l1 hK hQ ih v2 T w
theorem wr_m_restore_32 (l1 : Int32) {Kk : Int32 → St → Prop} {Q : Int32 × St → Prop} (I : Int32 → St → Prop) (m : Int32 → St → Nat) (hv : ∀ (v2 : Int32) (T : St), I v2 T → bd_m_restore_32 l1 Kk Q (fun uv2 uT => I uv2 uT ∧ m uv2 uT < m v2 T) v2 T) : ∀ (f : Nat) (v2 : Int32) (T : St), m v2 T < f → I v2 T → wp_m_restore_32 l1 Kk Q f v2 T := by
  intro f
  induction f with
  | zero => intro v2 T h; exact absurd h (Nat.not_lt_zero _)
  | succ f ih => intro v2 T h hi; exact mb_m_restore_32 l1 (fun _ _ h => h) (fun _ h => h) (fun uv2 uT g => ih uv2 uT (by omega) g.1) v2 T (hv v2 T hi)
theorem so_m_restore_32 (l1 : Int32) {K : Int32 → St → Int32 × St} {Kk Kk2 : Int32 → St → Prop} {Q : Int32 × St → Prop} (hk : ∀ (v2 : Int32) (T : St), Kk v2 T → Kk2 v2 T ∧ Q (K v2 T)) : ∀ (f : Nat) (v2 : Int32) (T : St), wp_m_restore_32 l1 Kk Q f v2 T → ok_m_restore_32 l1 Kk2 f v2 T ∧ Q (x_m_restore_32 l1 K f v2 T) := by
  intro f
  induction f with
  | zero => intro v2 T w; exact w.elim
  | succ f ih =>
    intro v2 T w
    rw [wp_m_restore_32, bd_m_restore_32] at w
    rw [ok_m_restore_32, x_m_restore_32]
    refine so_if2 (Q := Q) w (fun c36_3 w => ?_) (fun c36_3 w => ?_)
    · exact hk v2 T w
    · obtain ⟨q2, w⟩ := w
      refine so_rq q2 ?_
      obtain ⟨q3, w⟩ := w
      refine so_rq q3 ?_
      exact ih (v2 + 1) (sA T 575 (v2 : Int32).toNatClampNeg (T.2.2.1 600 ((204 * l1) + v2 : Int32).toNatClampNeg)) w
def wp_m_restore (T : St) (p0 : Int32) (Q : Int32 × St → Prop) : Prop := ((((x_m_in (sF T 571 0 0) ((p0 : Int32).toInt64) 0 1) = 0) → Q ((-1000001), sF T 571 0 0)) ∧ (¬ ((x_m_in (sF T 571 0 0) ((p0 : Int32).toInt64) 0 1) = 0) → (vp_in p0 2) ∧ (((((sF T 571 0 0).2.2.1 599 (p0 : Int32).toNatClampNeg) = 0) → Q ((-1000002), sF T 571 0 0)) ∧ (¬ (((sF T 571 0 0).2.2.1 599 (p0 : Int32).toNatClampNeg) = 0) → wp_m_restore_32 p0 (fun w1_2 T201 => Q (1, x_m_forget T201)) Q 1000 0 (sF T 571 0 0)))))
theorem so_m_restore {T : St} (p0 : Int32) {Q : Int32 × St → Prop} (w : wp_m_restore T p0 Q) : ok_m_restore T p0 ∧ Q (x_m_restore T p0) := by
  unfold wp_m_restore at w
  unfold ok_m_restore x_m_restore
  refine so_ifF (Q := Q) w (fun c12_1 w => ?_) (fun c12_1 w => ?_)
  · exact w
  · obtain ⟨q1, w⟩ := w
    refine so_rq q1 ?_
    refine so_ifF (Q := Q) w (fun c24_2 w => ?_) (fun c24_2 w => ?_)
    · exact w
    · refine so_m_restore_32 p0 (fun w1_2 T201 w => ?_) 1000 0 (sF T 571 0 0) w
      refine ⟨trivial, ?_⟩
      exact w
def wp_m_kindOf (T : St) (p0 : Int32) (Q : Int32 → Prop) : Prop := (ok_m_stepOf T p0 0) ∧ ((((x_m_stepOf T p0 0) = 1) → (ok_m_stepOf T p0 3) ∧ ((((x_m_stepOf T p0 3) = 2) → Q 6) ∧ (¬ ((x_m_stepOf T p0 3) = 2) → Q (x_m_stepOf T p0 0)))) ∧ (¬ ((x_m_stepOf T p0 0) = 1) → Q (x_m_stepOf T p0 0)))
theorem so_m_kindOf {T : St} (p0 : Int32) {Q : Int32 → Prop} (w : wp_m_kindOf T p0 Q) : ok_m_kindOf T p0 ∧ Q (x_m_kindOf T p0) := by
  unfold wp_m_kindOf at w
  unfold ok_m_kindOf x_m_kindOf
  obtain ⟨q1, w⟩ := w
  refine so_rq q1 ?_
  refine so_ifT (Q := Q) w (fun c9_1 w => ?_) (fun c9_1 w => ?_)
  · obtain ⟨q2, w⟩ := w
    refine so_rq q2 ?_
    refine ⟨trivial, ?_⟩
    refine so_if0 (Q := Q) w (fun c19_2 w => ?_) (fun c19_2 w => ?_)
    · exact w
    · exact w
  · exact w
def wp_m_isOf (T : St) (p0 : Int32) (p1 : Int32) (Q : Int32 → Prop) : Prop := (((p1 = 0) → Q 1) ∧ (¬ (p1 = 0) → (((p0 = p1) → Q 1) ∧ (¬ (p0 = p1) → jn (fun (KJ1 : Prop) => (((p1 = 1) → (((p0 = 6) → Q 1) ∧ (¬ (p0 = 6) → KJ1))) ∧ (¬ (p1 = 1) → KJ1))) ((((p1 = 4) → (((p0 = 5) → Q 1) ∧ (¬ (p0 = 5) → Q 0))) ∧ (¬ (p1 = 4) → Q 0)))))))
theorem so_m_isOf {T : St} (p0 : Int32) (p1 : Int32) {Q : Int32 → Prop} (w : wp_m_isOf T p0 p1 Q) : Q (x_m_isOf T p0 p1) := by
  unfold wp_m_isOf at w
  unfold x_m_isOf
  refine so_if0 (Q := Q) w (fun c1_1 w => ?_) (fun c1_1 w => ?_)
  · exact w
  · refine so_if0 (Q := Q) w (fun c6_2 w => ?_) (fun c6_2 w => ?_)
    · exact w
    · refine so_jn0 (Q := Q) (J := fun (KJ1 : Int32) (WKJ1 : Prop) => WKJ1 → Q (KJ1)) w (fun  w => ?_) (fun KJ1 WKJ1 hJ1 w => ?_)
      · skip
        refine so_if0 (Q := Q) w (fun c22_5 w => ?_) (fun c22_5 w => ?_)
        · refine so_if0 (Q := Q) w (fun c27_6 w => ?_) (fun c27_6 w => ?_)
          · exact w
          · exact w
        · exact w
      · skip
        refine so_if0 (Q := Q) w (fun c11_7 w => ?_) (fun c11_7 w => ?_)
        · refine so_if0 (Q := Q) w (fun c17_8 w => ?_) (fun c17_8 w => ?_)
          · exact w
          · exact hJ1  w
        · exact hJ1  w
def wp_m_kind (T : St) (p0 : Int32) (Q : Int32 × St → Prop) : Prop := ((((x_m_isStep (sF T 571 0 0) p0) = 0) → Q ((-1000001), sF T 571 0 0)) ∧ (¬ ((x_m_isStep (sF T 571 0 0) p0) = 0) → (ok_m_kindOf (sF T 571 0 0) p0) ∧ Q (x_m_kindOf (sF T 571 0 0) p0, sF T 571 0 0)))
theorem so_m_kind {T : St} (p0 : Int32) {Q : Int32 × St → Prop} (w : wp_m_kind T p0 Q) : ok_m_kind T p0 ∧ Q (x_m_kind T p0) := by
  unfold wp_m_kind at w
  unfold ok_m_kind x_m_kind
  refine so_ifF (Q := Q) w (fun c10_1 w => ?_) (fun c10_1 w => ?_)
  · exact w
  · obtain ⟨q1, w⟩ := w
    refine so_rq q1 ?_
    refine ⟨trivial, ?_⟩
    exact w
def wp_m_as (T : St) (p0 : Int32) (p1 : Int32) (Q : Int32 × St → Prop) : Prop := ((((x_m_isStep (sF T 571 0 0) p0) = 0) → Q ((-1000001), sF T 571 0 0)) ∧ (¬ ((x_m_isStep (sF T 571 0 0) p0) = 0) → ((((x_m_in (sF T 571 0 0) ((p1 : Int32).toInt64) 0 6) = 0) → Q ((-1000001), sF T 571 0 0)) ∧ (¬ ((x_m_in (sF T 571 0 0) ((p1 : Int32).toInt64) 0 6) = 0) → (ok_m_kindOf (sF (sF T 571 0 0) 571 1 0) p0) ∧ ((((x_m_isOf (sF (sF T 571 0 0) 571 1 0) (x_m_kindOf (sF (sF T 571 0 0) 571 1 0) p0) p1) = 0) → Q ((x_m_finding (sF (sF T 571 0 0) 571 1 0) 3).1, (x_m_finding (sF (sF T 571 0 0) 571 1 0) 3).2)) ∧ (¬ ((x_m_isOf (sF (sF T 571 0 0) 571 1 0) (x_m_kindOf (sF (sF T 571 0 0) 571 1 0) p0) p1) = 0) → Q (p0, sF (sF T 571 0 0) 571 1 0)))))))
theorem so_m_as {T : St} (p0 : Int32) (p1 : Int32) {Q : Int32 × St → Prop} (w : wp_m_as T p0 p1 Q) : ok_m_as T p0 p1 ∧ Q (x_m_as T p0 p1) := by
  unfold wp_m_as at w
  unfold ok_m_as x_m_as
  refine so_ifF (Q := Q) w (fun c10_1 w => ?_) (fun c10_1 w => ?_)
  · exact w
  · refine so_ifF (Q := Q) w (fun c22_2 w => ?_) (fun c22_2 w => ?_)
    · exact w
    · obtain ⟨q1, w⟩ := w
      refine so_rq q1 ?_
      refine ⟨trivial, ?_⟩
      refine so_if0 (Q := Q) w (fun c42_3 w => ?_) (fun c42_3 w => ?_)
      · exact w
      · exact w
def wp_m_began (T : St) (p0 : Int32) (Q : St → Prop) : Prop := (((16 ≤ (T.1 571 48)) → Q T) ∧ (¬ (16 ≤ (T.1 571 48)) → (vp_in (T.1 571 48) 16) ∧ Q (sF (sA T 601 (T.1 571 48 : Int32).toNatClampNeg p0) 571 48 (((sA T 601 (T.1 571 48 : Int32).toNatClampNeg p0).1 571 48) + 1))))
theorem so_m_began {T : St} (p0 : Int32) {Q : St → Prop} (w : wp_m_began T p0 Q) : ok_m_began T p0 ∧ Q (x_m_began T p0) := by
  unfold wp_m_began at w
  unfold ok_m_began x_m_began
  refine so_ifF (Q := Q) w (fun c6_1 w => ?_) (fun c6_1 w => ?_)
  · exact w
  · obtain ⟨q1, w⟩ := w
    refine so_rq q1 ?_
    refine ⟨trivial, ?_⟩
    exact w
def wp_m_markOf (T : St) (p0 : Int32) (p1 : Int32) (Q : Int32 × St → Prop) : Prop := jn (fun (KJ1 : Prop) => (((p1 = 5) → KJ1) ∧ (¬ (p1 = 5) → (((p1 = 3) → KJ1) ∧ (¬ (p1 = 3) → (((p1 = 6) → KJ1) ∧ (¬ (p1 = 6) → jn (fun (KJ5 : St → Prop) => ((((x_m_isOf T p1 4) = 0) → KJ5 T) ∧ (¬ ((x_m_isOf T p1 4) = 0) → (ok_m_began T 21) ∧ KJ5 (x_m_began T 21)))) (fun (T305 : St) => (ok_m_began T305 20) ∧ (((p1 = 3) → (ok_m_began (x_m_began T305 20) 10) ∧ (ok_m_stepOf (x_m_began (x_m_began T305 20) 10) p0 1) ∧ Q (p0 + (x_m_stepOf (x_m_began (x_m_began T305 20) 10) p0 1), x_m_began (x_m_began T305 20) 10)) ∧ (¬ (p1 = 3) → jn (fun (KJ6 : Int32 → Prop) => ((((x_m_isOf (x_m_began T305 20) p1 4) = 0) → KJ6 p0) ∧ (¬ ((x_m_isOf (x_m_began T305 20) p1 4) = 0) → KJ6 (p0 + 50)))) (fun (j6_s0 : Int32) => (((p1 = 5) → (ok_m_stepOf (x_m_began T305 20) p0 4) ∧ Q (j6_s0 + (x_m_stepOf (x_m_began T305 20) p0 4), x_m_began T305 20)) ∧ (¬ (p1 = 5) → (((p1 = 6) → Q (-j6_s0, x_m_began T305 20)) ∧ (¬ (p1 = 6) → Q (j6_s0, x_m_began T305 20)))))))))))))))) (jn (fun (KJ2 : Int32 → Prop) => (((p1 = 5) → KJ2 22) ∧ (¬ (p1 = 5) → (((p1 = 3) → KJ2 23) ∧ (¬ (p1 = 3) → KJ2 24))))) (fun (j2_s1 : Int32) => (ok_m_began T j2_s1) ∧ jn (fun (KJ3 : St → Prop) => ((((x_m_isOf (x_m_began T j2_s1) p1 4) = 0) → KJ3 (x_m_began T j2_s1)) ∧ (¬ ((x_m_isOf (x_m_began T j2_s1) p1 4) = 0) → (ok_m_began (x_m_began T j2_s1) 21) ∧ KJ3 (x_m_began (x_m_began T j2_s1) 21)))) (fun (T303 : St) => (ok_m_began T303 20) ∧ (((p1 = 3) → (ok_m_began (x_m_began T303 20) 10) ∧ (ok_m_stepOf (x_m_began (x_m_began T303 20) 10) p0 1) ∧ Q (p0 + (x_m_stepOf (x_m_began (x_m_began T303 20) 10) p0 1), x_m_began (x_m_began T303 20) 10)) ∧ (¬ (p1 = 3) → jn (fun (KJ4 : Int32 → Prop) => ((((x_m_isOf (x_m_began T303 20) p1 4) = 0) → KJ4 p0) ∧ (¬ ((x_m_isOf (x_m_began T303 20) p1 4) = 0) → KJ4 (p0 + 50)))) (fun (j4_s0 : Int32) => (((p1 = 5) → (ok_m_stepOf (x_m_began T303 20) p0 4) ∧ Q (j4_s0 + (x_m_stepOf (x_m_began T303 20) p0 4), x_m_began T303 20)) ∧ (¬ (p1 = 5) → (((p1 = 6) → Q (-j4_s0, x_m_began T303 20)) ∧ (¬ (p1 = 6) → Q (j4_s0, x_m_began T303 20)))))))))))
theorem so_m_markOf {T : St} (p0 : Int32) (p1 : Int32) {Q : Int32 × St → Prop} (w : wp_m_markOf T p0 p1 Q) : ok_m_markOf T p0 p1 ∧ Q (x_m_markOf T p0 p1) := by
  unfold wp_m_markOf at w
  unfold ok_m_markOf x_m_markOf
  refine so_jn (Q := Q) (J := fun (KJ1 : Int32 × St) (OJ1 : Prop) (WKJ1 : Prop) => WKJ1 → OJ1 ∧ Q (KJ1)) w (fun  w => ?_) (fun KJ1 OJ1 WKJ1 hJ1 w => ?_)
  · skip
    refine so_jn (Q := Q) (J := fun (KJ2 : Int32 → Int32 × St) (OJ2 : Int32 → Prop) (WKJ2 : Int32 → Prop) => ∀ (j2_s1 : Int32), WKJ2 j2_s1 → OJ2 j2_s1 ∧ Q (KJ2 j2_s1)) w (fun j2_s1 w => ?_) (fun KJ2 OJ2 WKJ2 hJ2 w => ?_)
    · skip
      obtain ⟨q12, w⟩ := w
      refine so_rq q12 ?_
      refine so_jn (Q := Q) (J := fun (KJ3 : St → Int32 × St) (OJ3 : St → Prop) (WKJ3 : St → Prop) => ∀ (T303 : St), WKJ3 T303 → OJ3 T303 ∧ Q (KJ3 T303)) w (fun T303 w => ?_) (fun KJ3 OJ3 WKJ3 hJ3 w => ?_)
      · skip
        obtain ⟨q14, w⟩ := w
        refine so_rq q14 ?_
        refine so_if2 (Q := Q) w (fun c64_20 w => ?_) (fun c64_20 w => ?_)
        · obtain ⟨q16, w⟩ := w
          refine so_rq q16 ?_
          obtain ⟨q17, w⟩ := w
          refine so_rq q17 ?_
          refine ⟨trivial, ?_⟩
          exact w
        · refine so_jn (Q := Q) (J := fun (KJ4 : Int32 → Int32 × St) (OJ4 : Int32 → Prop) (WKJ4 : Int32 → Prop) => ∀ (j4_s0 : Int32), WKJ4 j4_s0 → OJ4 j4_s0 ∧ Q (KJ4 j4_s0)) w (fun j4_s0 w => ?_) (fun KJ4 OJ4 WKJ4 hJ4 w => ?_)
          · skip
            refine so_ifT (Q := Q) w (fun c101_22 w => ?_) (fun c101_22 w => ?_)
            · obtain ⟨q15, w⟩ := w
              refine so_rq q15 ?_
              refine ⟨trivial, ?_⟩
              exact w
            · refine so_if0 (Q := Q) w (fun c118_23 w => ?_) (fun c118_23 w => ?_)
              · exact w
              · exact w
          · skip
            refine so_if2 (Q := Q) w (fun c87_24 w => ?_) (fun c87_24 w => ?_)
            · exact hJ4 p0 w
            · exact hJ4 (p0 + 50) w
      · skip
        refine so_if2 (Q := Q) w (fun c47_25 w => ?_) (fun c47_25 w => ?_)
        · exact hJ3 (x_m_began T j2_s1) w
        · obtain ⟨q18, w⟩ := w
          refine so_rq q18 ?_
          exact hJ3 (x_m_began (x_m_began T j2_s1) 21) w
    · skip
      refine so_if2 (Q := Q) w (fun c19_26 w => ?_) (fun c19_26 w => ?_)
      · exact hJ2 22 w
      · refine so_if2 (Q := Q) w (fun c29_27 w => ?_) (fun c29_27 w => ?_)
        · exact hJ2 23 w
        · exact hJ2 24 w
  · skip
    refine so_if2 (Q := Q) w (fun c2_28 w => ?_) (fun c2_28 w => ?_)
    · exact hJ1  w
    · refine so_if2 (Q := Q) w (fun c7_29 w => ?_) (fun c7_29 w => ?_)
      · exact hJ1  w
      · refine so_if2 (Q := Q) w (fun c13_30 w => ?_) (fun c13_30 w => ?_)
        · exact hJ1  w
        · refine so_jn (Q := Q) (J := fun (KJ5 : St → Int32 × St) (OJ5 : St → Prop) (WKJ5 : St → Prop) => ∀ (T305 : St), WKJ5 T305 → OJ5 T305 ∧ Q (KJ5 T305)) w (fun T305 w => ?_) (fun KJ5 OJ5 WKJ5 hJ5 w => ?_)
          · skip
            obtain ⟨q20, w⟩ := w
            refine so_rq q20 ?_
            refine so_if2 (Q := Q) w (fun c64_32 w => ?_) (fun c64_32 w => ?_)
            · obtain ⟨q22, w⟩ := w
              refine so_rq q22 ?_
              obtain ⟨q23, w⟩ := w
              refine so_rq q23 ?_
              refine ⟨trivial, ?_⟩
              exact w
            · refine so_jn (Q := Q) (J := fun (KJ6 : Int32 → Int32 × St) (OJ6 : Int32 → Prop) (WKJ6 : Int32 → Prop) => ∀ (j6_s0 : Int32), WKJ6 j6_s0 → OJ6 j6_s0 ∧ Q (KJ6 j6_s0)) w (fun j6_s0 w => ?_) (fun KJ6 OJ6 WKJ6 hJ6 w => ?_)
              · skip
                refine so_ifT (Q := Q) w (fun c101_34 w => ?_) (fun c101_34 w => ?_)
                · obtain ⟨q21, w⟩ := w
                  refine so_rq q21 ?_
                  refine ⟨trivial, ?_⟩
                  exact w
                · refine so_if0 (Q := Q) w (fun c118_35 w => ?_) (fun c118_35 w => ?_)
                  · exact w
                  · exact w
              · skip
                refine so_if2 (Q := Q) w (fun c87_36 w => ?_) (fun c87_36 w => ?_)
                · exact hJ6 p0 w
                · exact hJ6 (p0 + 50) w
          · skip
            refine so_if2 (Q := Q) w (fun c47_37 w => ?_) (fun c47_37 w => ?_)
            · exact hJ5 T w
            · obtain ⟨q24, w⟩ := w
              refine so_rq q24 ?_
              exact hJ5 (x_m_began T 21) w
def wp_m_sizeOf (T : St) (p0 : Int32) (p1 : Int32) (Q : Int32 × St → Prop) : Prop := jn (fun (KJ1 : Prop) => (((p1 = 6) → KJ1) ∧ (¬ (p1 = 6) → (((p1 = 2) → KJ1) ∧ (¬ (p1 = 2) → (((p1 = 5) → KJ1) ∧ (¬ (p1 = 5) → jn (fun (KJ5 : St → Prop) => ((((x_m_isOf T p1 1) = 0) → KJ5 T) ∧ (¬ ((x_m_isOf T p1 1) = 0) → (ok_m_began T 11) ∧ KJ5 (x_m_began T 11)))) (fun (T305 : St) => (ok_m_began T305 10) ∧ (ok_m_stepOf (x_m_began T305 10) p0 1) ∧ jn (fun (KJ6 : Int32 → Prop) => ((((x_m_isOf T p1 1) = 0) → KJ6 0) ∧ (¬ ((x_m_isOf T p1 1) = 0) → (ok_m_stepOf (x_m_began T305 10) p0 4) ∧ KJ6 (10 * (x_m_stepOf (x_m_began T305 10) p0 4))))) (fun (j6_s1 : Int32) => jn (fun (i7 : Int32) => (((p1 = 6) → Q (2 * i7, x_m_began T305 10)) ∧ (¬ (p1 = 6) → (((p1 = 2) → (ok_m_stepOf (x_m_began T305 10) p0 5) ∧ (ok_m_stepOf (x_m_began T305 10) p0 4) ∧ Q ((i7 + (x_m_stepOf (x_m_began T305 10) p0 5)) - (x_m_stepOf (x_m_began T305 10) p0 4), x_m_began T305 10)) ∧ (¬ (p1 = 2) → (((p1 = 5) → (ok_m_markOf (x_m_began T305 10) p0 p1) ∧ Q (i7 - ((x_m_markOf (x_m_began T305 10) p0 p1).1), (x_m_markOf (x_m_began T305 10) p0 p1).2)) ∧ (¬ (p1 = 5) → Q (i7, x_m_began T305 10)))))))) ((x_m_stepOf (x_m_began T305 10) p0 1) + j6_s1)))))))))) (jn (fun (KJ2 : Int32 → Prop) => (((p1 = 6) → KJ2 12) ∧ (¬ (p1 = 6) → (((p1 = 2) → KJ2 13) ∧ (¬ (p1 = 2) → KJ2 14))))) (fun (j2_s1 : Int32) => (ok_m_began T j2_s1) ∧ jn (fun (i5 : Int32) => jn (fun (KJ3 : St → Prop) => (((i5 = 0) → KJ3 (x_m_began T j2_s1)) ∧ (¬ (i5 = 0) → (ok_m_began (x_m_began T j2_s1) 11) ∧ KJ3 (x_m_began (x_m_began T j2_s1) 11)))) (fun (T303 : St) => (ok_m_began T303 10) ∧ (ok_m_stepOf (x_m_began T303 10) p0 1) ∧ jn (fun (KJ4 : Int32 → Prop) => (((i5 = 0) → KJ4 0) ∧ (¬ (i5 = 0) → (ok_m_stepOf (x_m_began T303 10) p0 4) ∧ KJ4 (10 * (x_m_stepOf (x_m_began T303 10) p0 4))))) (fun (j4_s1 : Int32) => jn (fun (i6 : Int32) => (((p1 = 6) → Q (2 * i6, x_m_began T303 10)) ∧ (¬ (p1 = 6) → (((p1 = 2) → (ok_m_stepOf (x_m_began T303 10) p0 5) ∧ (ok_m_stepOf (x_m_began T303 10) p0 4) ∧ Q ((i6 + (x_m_stepOf (x_m_began T303 10) p0 5)) - (x_m_stepOf (x_m_began T303 10) p0 4), x_m_began T303 10)) ∧ (¬ (p1 = 2) → (((p1 = 5) → (ok_m_markOf (x_m_began T303 10) p0 p1) ∧ Q (i6 - ((x_m_markOf (x_m_began T303 10) p0 p1).1), (x_m_markOf (x_m_began T303 10) p0 p1).2)) ∧ (¬ (p1 = 5) → Q (i6, x_m_began T303 10)))))))) ((x_m_stepOf (x_m_began T303 10) p0 1) + j4_s1)))) (x_m_isOf (x_m_began T j2_s1) p1 1)))
theorem so_m_sizeOf {T : St} (p0 : Int32) (p1 : Int32) {Q : Int32 × St → Prop} (w : wp_m_sizeOf T p0 p1 Q) : ok_m_sizeOf T p0 p1 ∧ Q (x_m_sizeOf T p0 p1) := by
  unfold wp_m_sizeOf at w
  unfold ok_m_sizeOf x_m_sizeOf
  refine so_jn (Q := Q) (J := fun (KJ1 : Int32 × St) (OJ1 : Prop) (WKJ1 : Prop) => WKJ1 → OJ1 ∧ Q (KJ1)) w (fun  w => ?_) (fun KJ1 OJ1 WKJ1 hJ1 w => ?_)
  · skip
    refine so_jn (Q := Q) (J := fun (KJ2 : Int32 → Int32 × St) (OJ2 : Int32 → Prop) (WKJ2 : Int32 → Prop) => ∀ (j2_s1 : Int32), WKJ2 j2_s1 → OJ2 j2_s1 ∧ Q (KJ2 j2_s1)) w (fun j2_s1 w => ?_) (fun KJ2 OJ2 WKJ2 hJ2 w => ?_)
    · skip
      obtain ⟨q18, w⟩ := w
      refine so_rq q18 ?_
      refine so_n (Q := Q) w (fun i5 w => ?_)
      refine so_jn (Q := Q) (J := fun (KJ3 : St → Int32 × St) (OJ3 : St → Prop) (WKJ3 : St → Prop) => ∀ (T303 : St), WKJ3 T303 → OJ3 T303 ∧ Q (KJ3 T303)) w (fun T303 w => ?_) (fun KJ3 OJ3 WKJ3 hJ3 w => ?_)
      · skip
        obtain ⟨q20, w⟩ := w
        refine so_rq q20 ?_
        obtain ⟨q21, w⟩ := w
        refine so_rq q21 ?_
        refine so_jn (Q := Q) (J := fun (KJ4 : Int32 → Int32 × St) (OJ4 : Int32 → Prop) (WKJ4 : Int32 → Prop) => ∀ (j4_s1 : Int32), WKJ4 j4_s1 → OJ4 j4_s1 ∧ Q (KJ4 j4_s1)) w (fun j4_s1 w => ?_) (fun KJ4 OJ4 WKJ4 hJ4 w => ?_)
        · skip
          refine so_n (Q := Q) w (fun i6 w => ?_)
          refine so_ifF (Q := Q) w (fun c94_23 w => ?_) (fun c94_23 w => ?_)
          · exact w
          · refine so_if2 (Q := Q) w (fun c106_24 w => ?_) (fun c106_24 w => ?_)
            · obtain ⟨q24, w⟩ := w
              refine so_rq q24 ?_
              obtain ⟨q25, w⟩ := w
              refine so_rq q25 ?_
              refine ⟨trivial, ?_⟩
              exact w
            · refine so_ifT (Q := Q) w (fun c130_25 w => ?_) (fun c130_25 w => ?_)
              · obtain ⟨q23, w⟩ := w
                refine so_rq q23 ?_
                refine ⟨trivial, ?_⟩
                exact w
              · exact w
        · skip
          refine so_if2 (Q := Q) w (fun c72_26 w => ?_) (fun c72_26 w => ?_)
          · exact hJ4 0 w
          · obtain ⟨q26, w⟩ := w
            refine so_rq q26 ?_
            exact hJ4 (10 * (x_m_stepOf (x_m_began T303 10) p0 4)) w
      · skip
        refine so_if2 (Q := Q) w (fun c50_27 w => ?_) (fun c50_27 w => ?_)
        · exact hJ3 (x_m_began T j2_s1) w
        · obtain ⟨q27, w⟩ := w
          refine so_rq q27 ?_
          exact hJ3 (x_m_began (x_m_began T j2_s1) 11) w
    · skip
      refine so_if2 (Q := Q) w (fun c20_28 w => ?_) (fun c20_28 w => ?_)
      · exact hJ2 12 w
      · refine so_if2 (Q := Q) w (fun c30_29 w => ?_) (fun c30_29 w => ?_)
        · exact hJ2 13 w
        · exact hJ2 14 w
  · skip
    refine so_if2 (Q := Q) w (fun c3_30 w => ?_) (fun c3_30 w => ?_)
    · exact hJ1  w
    · refine so_if2 (Q := Q) w (fun c8_31 w => ?_) (fun c8_31 w => ?_)
      · exact hJ1  w
      · refine so_if2 (Q := Q) w (fun c13_32 w => ?_) (fun c13_32 w => ?_)
        · exact hJ1  w
        · refine so_jn (Q := Q) (J := fun (KJ5 : St → Int32 × St) (OJ5 : St → Prop) (WKJ5 : St → Prop) => ∀ (T305 : St), WKJ5 T305 → OJ5 T305 ∧ Q (KJ5 T305)) w (fun T305 w => ?_) (fun KJ5 OJ5 WKJ5 hJ5 w => ?_)
          · skip
            obtain ⟨q29, w⟩ := w
            refine so_rq q29 ?_
            obtain ⟨q30, w⟩ := w
            refine so_rq q30 ?_
            refine so_jn (Q := Q) (J := fun (KJ6 : Int32 → Int32 × St) (OJ6 : Int32 → Prop) (WKJ6 : Int32 → Prop) => ∀ (j6_s1 : Int32), WKJ6 j6_s1 → OJ6 j6_s1 ∧ Q (KJ6 j6_s1)) w (fun j6_s1 w => ?_) (fun KJ6 OJ6 WKJ6 hJ6 w => ?_)
            · skip
              refine so_n (Q := Q) w (fun i7 w => ?_)
              refine so_ifF (Q := Q) w (fun c94_35 w => ?_) (fun c94_35 w => ?_)
              · exact w
              · refine so_if2 (Q := Q) w (fun c106_36 w => ?_) (fun c106_36 w => ?_)
                · obtain ⟨q33, w⟩ := w
                  refine so_rq q33 ?_
                  obtain ⟨q34, w⟩ := w
                  refine so_rq q34 ?_
                  refine ⟨trivial, ?_⟩
                  exact w
                · refine so_ifT (Q := Q) w (fun c130_37 w => ?_) (fun c130_37 w => ?_)
                  · obtain ⟨q32, w⟩ := w
                    refine so_rq q32 ?_
                    refine ⟨trivial, ?_⟩
                    exact w
                  · exact w
            · skip
              refine so_if2 (Q := Q) w (fun c72_38 w => ?_) (fun c72_38 w => ?_)
              · exact hJ6 0 w
              · obtain ⟨q35, w⟩ := w
                refine so_rq q35 ?_
                exact hJ6 (10 * (x_m_stepOf (x_m_began T305 10) p0 4)) w
          · skip
            refine so_if2 (Q := Q) w (fun c50_39 w => ?_) (fun c50_39 w => ?_)
            · exact hJ5 T w
            · obtain ⟨q36, w⟩ := w
              refine so_rq q36 ?_
              exact hJ5 (x_m_began T 11) w
