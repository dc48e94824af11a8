def wp_m_wanted (T : St) (p0 : Int32) (p1 : Int32) (p2 : Int32) (Q : Int32 × St → Prop) : Prop := ((((x_m_isBy (sF T 571 0 0) p0) = 0) → Q ((-1000001), sF T 571 0 0)) ∧ (¬ ((x_m_isBy (sF T 571 0 0) p0) = 0) → ((((x_m_isMinute (sF T 571 0 0) p1) = 0) → Q ((-1000001), sF T 571 0 0)) ∧ (¬ ((x_m_isMinute (sF T 571 0 0) p1) = 0) → ((((x_m_in (sF T 571 0 0) ((p2 : Int32).toInt64) 0 3) = 0) → Q ((-1000001), sF T 571 0 0)) ∧ (¬ ((x_m_in (sF T 571 0 0) ((p2 : Int32).toInt64) 0 3) = 0) → (((((sF T 571 0 0).1 571 7) = 0) → Q ((-1000002), sF T 571 0 0)) ∧ (¬ (((sF T 571 0 0).1 571 7) = 0) → (ok_m_know (sF T 571 0 0) p0) ∧ (((((x_m_know (sF T 571 0 0) p0).1) = 0) → Q ((-1000000), (x_m_know (sF T 571 0 0) p0).2)) ∧ (¬ (((x_m_know (sF T 571 0 0) p0).1) = 0) → (ok_m_layPlan ((x_m_know (sF T 571 0 0) p0).2)) ∧ (((p2 = 0) → (vp_in p1 300) ∧ Q ((x_m_layPlan ((x_m_know (sF T 571 0 0) p0).2)).2.2.1 581 (p1 : Int32).toNatClampNeg, x_m_layPlan ((x_m_know (sF T 571 0 0) p0).2))) ∧ (¬ (p2 = 0) → (((p2 = 1) → (vp_in p1 300) ∧ Q ((x_m_layPlan ((x_m_know (sF T 571 0 0) p0).2)).2.2.1 579 (p1 : Int32).toNatClampNeg, x_m_layPlan ((x_m_know (sF T 571 0 0) p0).2))) ∧ (¬ (p2 = 1) → (((p2 = 2) → (vp_in p1 300) ∧ Q ((x_m_layPlan ((x_m_know (sF T 571 0 0) p0).2)).2.2.1 580 (p1 : Int32).toNatClampNeg, x_m_layPlan ((x_m_know (sF T 571 0 0) p0).2))) ∧ (¬ (p2 = 2) → (vp_in p1 300) ∧ Q ((x_m_layPlan ((x_m_know (sF T 571 0 0) p0).2)).2.2.1 582 (p1 : Int32).toNatClampNeg, x_m_layPlan ((x_m_know (sF T 571 0 0) p0).2))))))))))))))))))
theorem so_m_wanted {T : St} (p0 : Int32) (p1 : Int32) (p2 : Int32) {Q : Int32 × St → Prop} (w : wp_m_wanted T p0 p1 p2 Q) : ok_m_wanted T p0 p1 p2 ∧ Q (x_m_wanted T p0 p1 p2) := by
  unfold wp_m_wanted at w
  unfold ok_m_wanted x_m_wanted
  refine so_ifF (Q := Q) w (fun c9_1 w => ?_) (fun c9_1 w => ?_)
  · exact w
  · refine so_ifF (Q := Q) w (fun c16_2 w => ?_) (fun c16_2 w => ?_)
    · exact w
    · refine so_ifF (Q := Q) w (fun c28_3 w => ?_) (fun c28_3 w => ?_)
      · exact w
      · refine so_ifF (Q := Q) w (fun c38_4 w => ?_) (fun c38_4 w => ?_)
        · exact w
        · obtain ⟨q1, w⟩ := w
          refine so_rq q1 ?_
          refine so_ifF (Q := Q) w (fun c49_5 w => ?_) (fun c49_5 w => ?_)
          · exact w
          · obtain ⟨q2, w⟩ := w
            refine so_rq q2 ?_
            refine so_if2 (Q := Q) w (fun c60_6 w => ?_) (fun c60_6 w => ?_)
            · obtain ⟨q6, w⟩ := w
              refine so_rq q6 ?_
              refine ⟨trivial, ?_⟩
              exact w
            · refine so_if2 (Q := Q) w (fun c74_7 w => ?_) (fun c74_7 w => ?_)
              · obtain ⟨q5, w⟩ := w
                refine so_rq q5 ?_
                refine ⟨trivial, ?_⟩
                exact w
              · refine so_if2 (Q := Q) w (fun c88_8 w => ?_) (fun c88_8 w => ?_)
                · obtain ⟨q4, w⟩ := w
                  refine so_rq q4 ?_
                  refine ⟨trivial, ?_⟩
                  exact w
                · obtain ⟨q3, w⟩ := w
                  refine so_rq q3 ?_
                  refine ⟨trivial, ?_⟩
                  exact w
def bd_m_slack_53 (l1 : Int32) (l2 : Int32) (Kk : Int32 → Int32 → St → Prop) (Q : Int32 × St → Prop) (N : Int32 → Int32 → St → Prop) (v3 : Int32) (v4 : Int32) (T : St) : Prop := (((v4 = 0) → Kk v3 v4 T) ∧ (¬ (v4 = 0) → (vp_in l2 12) ∧ (ok_m_judged (sA T 595 (l2 : Int32).toNatClampNeg ((T.2.2.1 595 (l2 : Int32).toNatClampNeg) + 1)) l1) ∧ jn (fun (T1 : St) => jn (fun (KJ1 : Int32 → Prop) => (((((x_m_judged (sA T 595 (l2 : Int32).toNatClampNeg ((T.2.2.1 595 (l2 : Int32).toNatClampNeg) + 1)) l1).1) = 0) → KJ1 1) ∧ (¬ (((x_m_judged (sA T 595 (l2 : Int32).toNatClampNeg ((T.2.2.1 595 (l2 : Int32).toNatClampNeg) + 1)) l1).1) = 0) → KJ1 0))) (fun (j1_s0 : Int32) => (((j1_s0 = 0) → N (v3 + 0) j1_s0 T1) ∧ (¬ (j1_s0 = 0) → N (v3 + 1) j1_s0 T1)))) ((x_m_judged (sA T 595 (l2 : Int32).toNatClampNeg ((T.2.2.1 595 (l2 : Int32).toNatClampNeg) + 1)) l1).2)))
def wp_m_slack_53 (l1 : Int32) (l2 : Int32) (Kk : Int32 → Int32 → St → Prop) (Q : Int32 × St → Prop) : Nat → Int32 → Int32 → St → Prop
  | 0, _, _, _ => False
  | f + 1, v3, v4, T => bd_m_slack_53 l1 l2 Kk Q (wp_m_slack_53 l1 l2 Kk Q f) v3 v4 T
theorem mb_m_slack_53 (l1 : Int32) (l2 : Int32) {Kk Kk2 : Int32 → Int32 → St → Prop} {Q Q2 : Int32 × St → Prop} {N N2 : Int32 → Int32 → St → Prop} (hK : ∀ (v3 : Int32) (v4 : Int32) (T : St), Kk v3 v4 T → Kk2 v3 v4 T) (hQ : ∀ r, Q r → Q2 r) (hN : ∀ (v3 : Int32) (v4 : Int32) (T : St), N v3 v4 T → N2 v3 v4 T) (v3 : Int32) (v4 : Int32) (T : St) (w : bd_m_slack_53 l1 l2 Kk Q N v3 v4 T) : bd_m_slack_53 l1 l2 Kk2 Q2 N2 v3 v4 T := by
  unfold bd_m_slack_53 at w ⊢
  refine mo_if w (fun c55_6 w => ?_) (fun c55_6 w => ?_)
  · exact hK v3 v4 T w
  · obtain ⟨q2, w⟩ := w
    refine ⟨q2, ?_⟩
    obtain ⟨q3, w⟩ := w
    refine ⟨q3, ?_⟩
    refine mo_n w (fun T1 w => ?_)
    refine mo_jn (J := fun (KJ1 : Int32 → Prop) (WKJ1 : Int32 → Prop) => ∀ (j1_s0 : Int32), KJ1 j1_s0 → WKJ1 j1_s0) w (fun j1_s0 w => ?_) (fun KJ1 WKJ1 hJ1 w => ?_)
    · skip
      refine mo_if w (fun c86_8 w => ?_) (fun c86_8 w => ?_)
      · exact hN (v3 + 0) j1_s0 T1 w
      · exact hN (v3 + 1) j1_s0 T1 w
    · skip
      refine mo_if w (fun c73_9 w => ?_) (fun c73_9 w => ?_)
      · exact hJ1 1 w
      · exact hJ1 0 w
theorem mo_m_slack_53 (l1 : Int32) (l2 : Int32) {Kk Kk2 : Int32 → Int32 → St → Prop} {Q Q2 : Int32 × St → Prop} (hK : ∀ (v3 : Int32) (v4 : Int32) (T : St), Kk v3 v4 T → Kk2 v3 v4 T) (hQ : ∀ r, Q r → Q2 r) : ∀ (f : Nat) (v3 : Int32) (v4 : Int32) (T : St), wp_m_slack_53 l1 l2 Kk Q f v3 v4 T → wp_m_slack_53 l1 l2 Kk2 Q2 f v3 v4 T := by
  intro f
  induction f with
  | zero => intro v3 v4 T w; exact w.elim
  | succ f ih => intro v3 v4 T w; exact mb_m_slack_53 l1 l2 hK hQ ih v3 v4 T w
theorem wr_m_slack_53 (l1 : Int32) (l2 : Int32) {Kk : Int32 → Int32 → St → Prop} {Q : Int32 × St → Prop} (I : Int32 → Int32 → St → Prop) (m : Int32 → Int32 → St → Nat) (hv : ∀ (v3 : Int32) (v4 : Int32) (T : St), I v3 v4 T → bd_m_slack_53 l1 l2 Kk Q (fun uv3 uv4 uT => I uv3 uv4 uT ∧ m uv3 uv4 uT < m v3 v4 T) v3 v4 T) : ∀ (f : Nat) (v3 : Int32) (v4 : Int32) (T : St), m v3 v4 T < f → I v3 v4 T → wp_m_slack_53 l1 l2 Kk Q f v3 v4 T := by
  intro f
  induction f with
  | zero => intro v3 v4 T h; exact absurd h (Nat.not_lt_zero _)
  | succ f ih => intro v3 v4 T h hi; exact mb_m_slack_53 l1 l2 (fun _ _ _ h => h) (fun _ h => h) (fun uv3 uv4 uT g => ih uv3 uv4 uT (by omega) g.1) v3 v4 T (hv v3 v4 T hi)
theorem so_m_slack_53 (l1 : Int32) (l2 : Int32) {K : Int32 → Int32 → St → Int32 × St} {Kk Kk2 : Int32 → Int32 → St → Prop} {Q : Int32 × St → Prop} (hk : ∀ (v3 : Int32) (v4 : Int32) (T : St), Kk v3 v4 T → Kk2 v3 v4 T ∧ Q (K v3 v4 T)) : ∀ (f : Nat) (v3 : Int32) (v4 : Int32) (T : St), wp_m_slack_53 l1 l2 Kk Q f v3 v4 T → ok_m_slack_53 l1 l2 Kk2 f v3 v4 T ∧ Q (x_m_slack_53 l1 l2 K f v3 v4 T) := by
  intro f
  induction f with
  | zero => intro v3 v4 T w; exact w.elim
  | succ f ih =>
    intro v3 v4 T w
    rw [wp_m_slack_53, bd_m_slack_53] at w
    rw [ok_m_slack_53, x_m_slack_53]
    refine so_if2 (Q := Q) w (fun c55_6 w => ?_) (fun c55_6 w => ?_)
    · exact hk v3 v4 T w
    · obtain ⟨q2, w⟩ := w
      refine so_rq q2 ?_
      obtain ⟨q3, w⟩ := w
      refine so_rq q3 ?_
      refine so_n (Q := Q) w (fun T1 w => ?_)
      refine so_jn (Q := Q) (J := fun (KJ1 : Int32 → Int32 × St) (OJ1 : Int32 → Prop) (WKJ1 : Int32 → Prop) => ∀ (j1_s0 : Int32), WKJ1 j1_s0 → OJ1 j1_s0 ∧ Q (KJ1 j1_s0)) w (fun j1_s0 w => ?_) (fun KJ1 OJ1 WKJ1 hJ1 w => ?_)
      · skip
        refine so_if2 (Q := Q) w (fun c86_8 w => ?_) (fun c86_8 w => ?_)
        · exact ih (v3 + 0) j1_s0 T1 w
        · exact ih (v3 + 1) j1_s0 T1 w
      · skip
        refine so_if2 (Q := Q) w (fun c73_9 w => ?_) (fun c73_9 w => ?_)
        · exact hJ1 1 w
        · exact hJ1 0 w
def wp_m_slack (T : St) (p0 : Int32) (p1 : Int32) (Q : Int32 × St → Prop) : Prop := ((((x_m_isBy (sF T 571 0 0) p0) = 0) → Q ((-1000001), sF T 571 0 0)) ∧ (¬ ((x_m_isBy (sF T 571 0 0) p0) = 0) → (((0 ≤ p1) → (((((sF T 571 0 0).1 571 7) = 0) → Q ((-1000002), sF T 571 0 0)) ∧ (¬ (((sF T 571 0 0).1 571 7) = 0) → (ok_m_know (sF T 571 0 0) p0) ∧ (((((x_m_know (sF T 571 0 0) p0).1) = 0) → Q ((-1000000), (x_m_know (sF T 571 0 0) p0).2)) ∧ (¬ (((x_m_know (sF T 571 0 0) p0).1) = 0) → (((p1 < (((x_m_know (sF T 571 0 0) p0).2).1 571 39)) → wp_m_slack_53 p0 p1 (fun w1_3 w1_4 T201 => Q (w1_3, T201)) Q 1000 0 1 ((x_m_know (sF T 571 0 0) p0).2)) ∧ (¬ (p1 < (((x_m_know (sF T 571 0 0) p0).2).1 571 39)) → Q ((-1000000), (x_m_know (sF T 571 0 0) p0).2)))))))) ∧ (¬ (0 ≤ p1) → Q ((-1000001), sF T 571 0 0)))))
theorem so_m_slack {T : St} (p0 : Int32) (p1 : Int32) {Q : Int32 × St → Prop} (w : wp_m_slack T p0 p1 Q) : ok_m_slack T p0 p1 ∧ Q (x_m_slack T p0 p1) := by
  unfold wp_m_slack at w
  unfold ok_m_slack x_m_slack
  refine so_ifF (Q := Q) w (fun c9_1 w => ?_) (fun c9_1 w => ?_)
  · exact w
  · refine so_ifT (Q := Q) w (fun c13_2 w => ?_) (fun c13_2 w => ?_)
    · refine so_ifF (Q := Q) w (fun c23_3 w => ?_) (fun c23_3 w => ?_)
      · exact w
      · obtain ⟨q1, w⟩ := w
        refine so_rq q1 ?_
        refine so_ifF (Q := Q) w (fun c34_4 w => ?_) (fun c34_4 w => ?_)
        · exact w
        · refine so_ifT (Q := Q) w (fun c42_5 w => ?_) (fun c42_5 w => ?_)
          · refine so_m_slack_53 p0 p1 (fun w1_3 w1_4 T201 w => ?_) 1000 0 1 ((x_m_know (sF T 571 0 0) p0).2) w
            refine ⟨trivial, ?_⟩
            exact w
          · exact w
    · exact w
def wp_m_bears (T : St) (p0 : Int32) (p1 : Int32) (p2 : Int32) (Q : Int32 × St → Prop) : Prop := ((((x_m_isBy (sF T 571 0 0) p0) = 0) → Q ((-1000001), sF T 571 0 0)) ∧ (¬ ((x_m_isBy (sF T 571 0 0) p0) = 0) → (((p1 < 0) → Q ((-1000001), sF T 571 0 0)) ∧ (¬ (p1 < 0) → ((((x_m_in (sF T 571 0 0) ((p2 : Int32).toInt64) 1 9) = 0) → Q ((-1000001), sF T 571 0 0)) ∧ (¬ ((x_m_in (sF T 571 0 0) ((p2 : Int32).toInt64) 1 9) = 0) → (((((sF T 571 0 0).1 571 7) = 0) → Q ((-1000002), sF T 571 0 0)) ∧ (¬ (((sF T 571 0 0).1 571 7) = 0) → (ok_m_know (sF T 571 0 0) p0) ∧ (((((x_m_know (sF T 571 0 0) p0).1) = 0) → Q ((-1000000), (x_m_know (sF T 571 0 0) p0).2)) ∧ (¬ (((x_m_know (sF T 571 0 0) p0).1) = 0) → (((p1 < (((x_m_know (sF T 571 0 0) p0).2).1 571 39)) → (vp_in p1 12) ∧ (ok_m_judged (sA ((x_m_know (sF T 571 0 0) p0).2) 596 (p1 : Int32).toNatClampNeg p2) p0) ∧ (((((x_m_judged (sA ((x_m_know (sF T 571 0 0) p0).2) 596 (p1 : Int32).toNatClampNeg p2) p0).1) = 0) → Q (1, (x_m_judged (sA ((x_m_know (sF T 571 0 0) p0).2) 596 (p1 : Int32).toNatClampNeg p2) p0).2)) ∧ (¬ (((x_m_judged (sA ((x_m_know (sF T 571 0 0) p0).2) 596 (p1 : Int32).toNatClampNeg p2) p0).1) = 0) → Q (0, (x_m_judged (sA ((x_m_know (sF T 571 0 0) p0).2) 596 (p1 : Int32).toNatClampNeg p2) p0).2)))) ∧ (¬ (p1 < (((x_m_know (sF T 571 0 0) p0).2).1 571 39)) → Q ((-1000000), (x_m_know (sF T 571 0 0) p0).2)))))))))))))
theorem so_m_bears {T : St} (p0 : Int32) (p1 : Int32) (p2 : Int32) {Q : Int32 × St → Prop} (w : wp_m_bears T p0 p1 p2 Q) : ok_m_bears T p0 p1 p2 ∧ Q (x_m_bears T p0 p1 p2) := by
  unfold wp_m_bears at w
  unfold ok_m_bears x_m_bears
  refine so_ifF (Q := Q) w (fun c9_1 w => ?_) (fun c9_1 w => ?_)
  · exact w
  · refine so_ifF (Q := Q) w (fun c13_2 w => ?_) (fun c13_2 w => ?_)
    · exact w
    · refine so_ifF (Q := Q) w (fun c25_3 w => ?_) (fun c25_3 w => ?_)
      · exact w
      · refine so_ifF (Q := Q) w (fun c35_4 w => ?_) (fun c35_4 w => ?_)
        · exact w
        · obtain ⟨q1, w⟩ := w
          refine so_rq q1 ?_
          refine so_ifF (Q := Q) w (fun c46_5 w => ?_) (fun c46_5 w => ?_)
          · exact w
          · refine so_ifT (Q := Q) w (fun c54_6 w => ?_) (fun c54_6 w => ?_)
            · obtain ⟨q2, w⟩ := w
              refine so_rq q2 ?_
              obtain ⟨q3, w⟩ := w
              refine so_rq q3 ?_
              refine ⟨trivial, ?_⟩
              refine so_if0 (Q := Q) w (fun c72_7 w => ?_) (fun c72_7 w => ?_)
              · exact w
              · exact w
            · exact w
def bd_jd_lay_127 (l1 : Nat) (l2 : Nat) (l3 : Nat) (l4 : Int32) (l5 : Nat) (l6 : Int32) (Kk : Int32 → St → Prop) (Q : St → Prop) (N : Int32 → St → Prop) (v7 : Int32) (T : St) : Prop := (((5 ≤ v7) → Kk v7 T) ∧ (¬ (5 ≤ v7) → (vp_in v7 5) ∧ (sh l5 = .inr 10) ∧ jn (fun (T5 : St) => N (v7 + 1) T5) (sL T 538 (v7 : Int32).toNatClampNeg ((T.2.2.2 538 (v7 : Int32).toNatClampNeg) ||| ((T.2.2.2 537 (v7 : Int32).toNatClampNeg) &&& (T.2.2.2 (l5 + 3) (v7 : Int32).toNatClampNeg))))))
def wp_jd_lay_127 (l1 : Nat) (l2 : Nat) (l3 : Nat) (l4 : Int32) (l5 : Nat) (l6 : Int32) (Kk : Int32 → St → Prop) (Q : St → Prop) : Nat → Int32 → St → Prop
  | 0, _, _ => False
  | f + 1, v7, T => bd_jd_lay_127 l1 l2 l3 l4 l5 l6 Kk Q (wp_jd_lay_127 l1 l2 l3 l4 l5 l6 Kk Q f) v7 T
theorem mb_jd_lay_127 (l1 : Nat) (l2 : Nat) (l3 : Nat) (l4 : Int32) (l5 : Nat) (l6 : Int32) {Kk Kk2 : Int32 → St → Prop} {Q Q2 : St → Prop} {N N2 : Int32 → St → Prop} (hK : ∀ (v7 : Int32) (T : St), Kk v7 T → Kk2 v7 T) (hQ : ∀ r, Q r → Q2 r) (hN : ∀ (v7 : Int32) (T : St), N v7 T → N2 v7 T) (v7 : Int32) (T : St) (w : bd_jd_lay_127 l1 l2 l3 l4 l5 l6 Kk Q N v7 T) : bd_jd_lay_127 l1 l2 l3 l4 l5 l6 Kk2 Q2 N2 v7 T := by
  unfold bd_jd_lay_127 at w ⊢
  refine mo_if w (fun c130_3 w => ?_) (fun c130_3 w => ?_)
  · exact hK v7 T w
  · obtain ⟨q12, w⟩ := w
    refine ⟨q12, ?_⟩
    obtain ⟨q13, w⟩ := w
    refine ⟨q13, ?_⟩
    refine mo_n w (fun T5 w => ?_)
    exact hN (v7 + 1) T5 w
theorem mo_jd_lay_127 (l1 : Nat) (l2 : Nat) (l3 : Nat) (l4 : Int32) (l5 : Nat) (l6 : Int32) {Kk Kk2 : Int32 → St → Prop} {Q Q2 : St → Prop} (hK : ∀ (v7 : Int32) (T : St), Kk v7 T → Kk2 v7 T) (hQ : ∀ r, Q r → Q2 r) : ∀ (f : Nat) (v7 : Int32) (T : St), wp_jd_lay_127 l1 l2 l3 l4 l5 l6 Kk Q f v7 T → wp_jd_lay_127 l1 l2 l3 l4 l5 l6 Kk2 Q2 f v7 T := by
  intro f
  induction f with
  | zero => intro v7 T w; exact w.elim
  | succ f ih => intro v7 T w; exact mb_jd_lay_127 l1 l2 l3 l4 l5 l6 hK hQ ih v7 T w
theorem wr_jd_lay_127 (l1 : Nat) (l2 : Nat) (l3 : Nat) (l4 : Int32) (l5 : Nat) (l6 : Int32) {Kk : Int32 → St → Prop} {Q : St → Prop} (I : Int32 → St → Prop) (m : Int32 → St → Nat) (hv : ∀ (v7 : Int32) (T : St), I v7 T → bd_jd_lay_127 l1 l2 l3 l4 l5 l6 Kk Q (fun uv7 uT => I uv7 uT ∧ m uv7 uT < m v7 T) v7 T) : ∀ (f : Nat) (v7 : Int32) (T : St), m v7 T < f → I v7 T → wp_jd_lay_127 l1 l2 l3 l4 l5 l6 Kk Q f v7 T := by
  intro f
  induction f with
  | zero => intro v7 T h; exact absurd h (Nat.not_lt_zero _)
  | succ f ih => intro v7 T h hi; exact mb_jd_lay_127 l1 l2 l3 l4 l5 l6 (fun _ _ h => h) (fun _ h => h) (fun uv7 uT g => ih uv7 uT (by omega) g.1) v7 T (hv v7 T hi)
theorem so_jd_lay_127 (l1 : Nat) (l2 : Nat) (l3 : Nat) (l4 : Int32) (l5 : Nat) (l6 : Int32) {K : Int32 → St → St} {Kk Kk2 : Int32 → St → Prop} {Q : St → Prop} (hk : ∀ (v7 : Int32) (T : St), Kk v7 T → Kk2 v7 T ∧ Q (K v7 T)) : ∀ (f : Nat) (v7 : Int32) (T : St), wp_jd_lay_127 l1 l2 l3 l4 l5 l6 Kk Q f v7 T → ok_jd_lay_127 l1 l2 l3 l4 l5 l6 Kk2 f v7 T ∧ Q (x_jd_lay_127 l1 l2 l3 l4 l5 l6 K f v7 T) := by
  intro f
  induction f with
  | zero => intro v7 T w; exact w.elim
  | succ f ih =>
    intro v7 T w
    rw [wp_jd_lay_127, bd_jd_lay_127] at w
    rw [ok_jd_lay_127, x_jd_lay_127]
    refine so_if2 (Q := Q) w (fun c130_3 w => ?_) (fun c130_3 w => ?_)
    · exact hk v7 T w
    · obtain ⟨q12, w⟩ := w
      refine so_rq q12 ?_
      obtain ⟨q13, w⟩ := w
      refine so_rq q13 ?_
      refine so_n (Q := Q) w (fun T5 w => ?_)
      exact ih (v7 + 1) T5 w
def bd_jd_lay_19 (l1 : Nat) (l2 : Nat) (l3 : Nat) (Kk : Int32 → St → Prop) (Q : St → Prop) (N : Int32 → St → Prop) (v4 : Int32) (T : St) : Prop := (sh l3 = .inr 7) ∧ ((((T.1 l3 1) ≤ v4) → Kk v4 T) ∧ (¬ ((T.1 l3 1) ≤ v4) → (vp_in v4 12) ∧ (vp_in (T.2.2.1 (l3 + 4) (v4 : Int32).toNatClampNeg) 4) ∧ jn (fun (r1 : Nat) => (sh r1 = .inr 10) ∧ jn (fun (T2 : St) => (sh l1 = .inr 1) ∧ (vp_in (T2.1 r1 3) 8) ∧ jn (fun (i3 : Int32) => (vp_in i3 3) ∧ jn (fun (T4 : St) => (ok_ro_isLast T4 l3 v4) ∧ ((((x_ro_isLast T4 l3 v4) = 0) → N (v4 + 1) T4) ∧ (¬ ((x_ro_isLast T4 l3 v4) = 0) → (ok_wa_lay T4 r1 l1) ∧ wp_jd_lay_127 l1 l2 l3 v4 r1 i3 (fun w1_7 T201 => (ok_ta_add T201 533 533 (r1 + 3) l2) ∧ N (v4 + 1) (x_ta_add T201 533 533 (r1 + 3) l2)) Q 1000 0 (x_wa_lay T4 r1 l1)))) (sA (sA T2 (r1 + 1) (i3 : Int32).toNatClampNeg (T2.2.2.1 (l3 + 5) (v4 : Int32).toNatClampNeg)) (r1 + 2) (i3 : Int32).toNatClampNeg ((sA T2 (r1 + 1) (i3 : Int32).toNatClampNeg (T2.2.2.1 (l3 + 5) (v4 : Int32).toNatClampNeg)).2.2.1 (l3 + 6) (v4 : Int32).toNatClampNeg))) ((T2.2.2.1 (l3 + 3) (v4 : Int32).toNatClampNeg) - (T2.2.2.1 (l1 + 8) (T2.1 r1 3 : Int32).toNatClampNeg))) (sF T r1 3 (T.2.2.1 (l3 + 1) (T.2.2.1 (l3 + 4) (v4 : Int32).toNatClampNeg : Int32).toNatClampNeg))) (539 + 4 * (T.2.2.1 (l3 + 4) (v4 : Int32).toNatClampNeg : Int32).toNatClampNeg)))
def wp_jd_lay_19 (l1 : Nat) (l2 : Nat) (l3 : Nat) (Kk : Int32 → St → Prop) (Q : St → Prop) : Nat → Int32 → St → Prop
  | 0, _, _ => False
  | f + 1, v4, T => bd_jd_lay_19 l1 l2 l3 Kk Q (wp_jd_lay_19 l1 l2 l3 Kk Q f) v4 T
theorem mb_jd_lay_19 (l1 : Nat) (l2 : Nat) (l3 : Nat) {Kk Kk2 : Int32 → St → Prop} {Q Q2 : St → Prop} {N N2 : Int32 → St → Prop} (hK : ∀ (v4 : Int32) (T : St), Kk v4 T → Kk2 v4 T) (hQ : ∀ r, Q r → Q2 r) (hN : ∀ (v4 : Int32) (T : St), N v4 T → N2 v4 T) (v4 : Int32) (T : St) (w : bd_jd_lay_19 l1 l2 l3 Kk Q N v4 T) : bd_jd_lay_19 l1 l2 l3 Kk2 Q2 N2 v4 T := by
  unfold bd_jd_lay_19 at w ⊢
  obtain ⟨q3, w⟩ := w
  refine ⟨q3, ?_⟩
  refine mo_if w (fun c25_1 w => ?_) (fun c25_1 w => ?_)
  · exact hK v4 T w
  · obtain ⟨q4, w⟩ := w
    refine ⟨q4, ?_⟩
    obtain ⟨q5, w⟩ := w
    refine ⟨q5, ?_⟩
    refine mo_n w (fun r1 w => ?_)
    obtain ⟨q6, w⟩ := w
    refine ⟨q6, ?_⟩
    refine mo_n w (fun T2 w => ?_)
    obtain ⟨q7, w⟩ := w
    refine ⟨q7, ?_⟩
    obtain ⟨q8, w⟩ := w
    refine ⟨q8, ?_⟩
    refine mo_n w (fun i3 w => ?_)
    obtain ⟨q9, w⟩ := w
    refine ⟨q9, ?_⟩
    refine mo_n w (fun T4 w => ?_)
    obtain ⟨q10, w⟩ := w
    refine ⟨q10, ?_⟩
    refine mo_if w (fun c115_2 w => ?_) (fun c115_2 w => ?_)
    · exact hN (v4 + 1) T4 w
    · obtain ⟨q11, w⟩ := w
      refine ⟨q11, ?_⟩
      refine mo_jd_lay_127 l1 l2 l3 v4 r1 i3 (fun w1_7 T201 w => ?_) hQ 1000 0 (x_wa_lay T4 r1 l1) w
      obtain ⟨q14, w⟩ := w
      refine ⟨q14, ?_⟩
      exact hN (v4 + 1) (x_ta_add T201 533 533 (r1 + 3) l2) w
theorem mo_jd_lay_19 (l1 : Nat) (l2 : Nat) (l3 : Nat) {Kk Kk2 : Int32 → St → Prop} {Q Q2 : St → Prop} (hK : ∀ (v4 : Int32) (T : St), Kk v4 T → Kk2 v4 T) (hQ : ∀ r, Q r → Q2 r) : ∀ (f : Nat) (v4 : Int32) (T : St), wp_jd_lay_19 l1 l2 l3 Kk Q f v4 T → wp_jd_lay_19 l1 l2 l3 Kk2 Q2 f v4 T := by
  intro f
  induction f with
  | zero => intro v4 T w; exact w.elim
  | succ f ih => intro v4 T w; exact mb_jd_lay_19 l1 l2 l3 hK hQ ih v4 T w
theorem wr_jd_lay_19 (l1 : Nat) (l2 : Nat) (l3 : Nat) {Kk : Int32 → St → Prop} {Q : St → Prop} (I : Int32 → St → Prop) (m : Int32 → St → Nat) (hv : ∀ (v4 : Int32) (T : St), I v4 T → bd_jd_lay_19 l1 l2 l3 Kk Q (fun uv4 uT => I uv4 uT ∧ m uv4 uT < m v4 T) v4 T) : ∀ (f : Nat) (v4 : Int32) (T : St), m v4 T < f → I v4 T → wp_jd_lay_19 l1 l2 l3 Kk Q f v4 T := by
  intro f
  induction f with
  | zero => intro v4 T h; exact absurd h (Nat.not_lt_zero _)
  | succ f ih => intro v4 T h hi; exact mb_jd_lay_19 l1 l2 l3 (fun _ _ h => h) (fun _ h => h) (fun uv4 uT g => ih uv4 uT (by omega) g.1) v4 T (hv v4 T hi)
theorem so_jd_lay_19 (l1 : Nat) (l2 : Nat) (l3 : Nat) {K : Int32 → St → St} {Kk Kk2 : Int32 → St → Prop} {Q : St → Prop} (hk : ∀ (v4 : Int32) (T : St), Kk v4 T → Kk2 v4 T ∧ Q (K v4 T)) : ∀ (f : Nat) (v4 : Int32) (T : St), wp_jd_lay_19 l1 l2 l3 Kk Q f v4 T → ok_jd_lay_19 l1 l2 l3 Kk2 f v4 T ∧ Q (x_jd_lay_19 l1 l2 l3 K f v4 T) := by
  intro f
  induction f with
  | zero => intro v4 T w; exact w.elim
  | succ f ih =>
    intro v4 T w
    rw [wp_jd_lay_19, bd_jd_lay_19] at w
    rw [ok_jd_lay_19, x_jd_lay_19]
    obtain ⟨q3, w⟩ := w
    refine so_rq q3 ?_
    refine so_if2 (Q := Q) w (fun c25_1 w => ?_) (fun c25_1 w => ?_)
    · exact hk v4 T w
    · obtain ⟨q4, w⟩ := w
      refine so_rq q4 ?_
      obtain ⟨q5, w⟩ := w
      refine so_rq q5 ?_
      refine so_n (Q := Q) w (fun r1 w => ?_)
      obtain ⟨q6, w⟩ := w
      refine so_rq q6 ?_
      refine so_n (Q := Q) w (fun T2 w => ?_)
      obtain ⟨q7, w⟩ := w
      refine so_rq q7 ?_
      obtain ⟨q8, w⟩ := w
      refine so_rq q8 ?_
      refine so_n (Q := Q) w (fun i3 w => ?_)
      obtain ⟨q9, w⟩ := w
      refine so_rq q9 ?_
      refine so_n (Q := Q) w (fun T4 w => ?_)
      obtain ⟨q10, w⟩ := w
      refine so_rq q10 ?_
      refine so_if2 (Q := Q) w (fun c115_2 w => ?_) (fun c115_2 w => ?_)
      · exact ih (v4 + 1) T4 w
      · obtain ⟨q11, w⟩ := w
        refine so_rq q11 ?_
        refine so_jd_lay_127 l1 l2 l3 v4 r1 i3 (fun w1_7 T201 w => ?_) 1000 0 (x_wa_lay T4 r1 l1) w
        obtain ⟨q14, w⟩ := w
        refine so_rq q14 ?_
        exact ih (v4 + 1) (x_ta_add T201 533 533 (r1 + 3) l2) w
def wp_jd_lay (T : St) (p0 : Nat) (p1 : Nat) (p2 : Nat) (Q : St → Prop) : Prop := (ok_fillJ T 538 0) ∧ (ok_ta_open (x_fillJ T 538 0) 533 p1) ∧ wp_jd_lay_19 p0 p1 p2 (fun w2_4 T202 => Q T202) Q 1000 0 (x_ta_open (x_fillJ T 538 0) 533 p1)
theorem so_jd_lay {T : St} (p0 : Nat) (p1 : Nat) (p2 : Nat) {Q : St → Prop} (w : wp_jd_lay T p0 p1 p2 Q) : ok_jd_lay T p0 p1 p2 ∧ Q (x_jd_lay T p0 p1 p2) := by
  unfold wp_jd_lay at w
  unfold ok_jd_lay x_jd_lay
  obtain ⟨q1, w⟩ := w
  refine so_rq q1 ?_
  obtain ⟨q2, w⟩ := w
  refine so_rq q2 ?_
  refine so_jd_lay_19 p0 p1 p2 (fun w2_4 T202 w => ?_) 1000 0 (x_ta_open (x_fillJ T 538 0) 533 p1) w
  refine ⟨trivial, ?_⟩
  exact w
def bd_pl_leavesOpen_4 (l1 : Int32) (l2 : Int32) (Kk : Int32 → St → Prop) (Q : Int32 × St → Prop) (N : Int32 → St → Prop) (v3 : Int32) (T : St) : Prop := ((((T.1 80 12) ≤ v3) → Kk v3 T) ∧ (¬ ((T.1 80 12) ≤ v3) → (vp_in l1 5) ∧ (vp_in v3 4) ∧ (ok_pl_agreeing T l2 (T.2.2.1 94 (v3 : Int32).toNatClampNeg)) ∧ jn (fun (i1 : Int32) => (((i1 = 0) → Q (0, (x_pl_agreeing T l2 (T.2.2.1 94 (v3 : Int32).toNatClampNeg)).2)) ∧ (¬ (i1 = 0) → (vp_in (l1 + 1) 5) ∧ jn (fun (T2 : St) => N (v3 + 1) T2) (sA ((x_pl_agreeing T l2 (T.2.2.1 94 (v3 : Int32).toNatClampNeg)).2) (100 + (l1 + 1 : Int32).toNatClampNeg) (v3 : Int32).toNatClampNeg i1)))) ((T.2.2.1 (100 + (l1 : Int32).toNatClampNeg) (v3 : Int32).toNatClampNeg) &&& ((x_pl_agreeing T l2 (T.2.2.1 94 (v3 : Int32).toNatClampNeg)).1))))
def wp_pl_leavesOpen_4 (l1 : Int32) (l2 : Int32) (Kk : Int32 → St → Prop) (Q : Int32 × St → Prop) : Nat → Int32 → St → Prop
  | 0, _, _ => False
  | f + 1, v3, T => bd_pl_leavesOpen_4 l1 l2 Kk Q (wp_pl_leavesOpen_4 l1 l2 Kk Q f) v3 T
theorem mb_pl_leavesOpen_4 (l1 : Int32) (l2 : Int32) {Kk Kk2 : Int32 → St → Prop} {Q Q2 : Int32 × St → Prop} {N N2 : Int32 → St → Prop} (hK : ∀ (v3 : Int32) (T : St), Kk v3 T → Kk2 v3 T) (hQ : ∀ r, Q r → Q2 r) (hN : ∀ (v3 : Int32) (T : St), N v3 T → N2 v3 T) (v3 : Int32) (T : St) (w : bd_pl_leavesOpen_4 l1 l2 Kk Q N v3 T) : bd_pl_leavesOpen_4 l1 l2 Kk2 Q2 N2 v3 T := by
  unfold bd_pl_leavesOpen_4 at w ⊢
  refine mo_if w (fun c9_1 w => ?_) (fun c9_1 w => ?_)
  · exact hK v3 T w
  · obtain ⟨q1, w⟩ := w
    refine ⟨q1, ?_⟩
    obtain ⟨q2, w⟩ := w
    refine ⟨q2, ?_⟩
    obtain ⟨q3, w⟩ := w
    refine ⟨q3, ?_⟩
    refine mo_n w (fun i1 w => ?_)
    refine mo_if w (fun c36_2 w => ?_) (fun c36_2 w => ?_)
    · exact hQ _ w
    · obtain ⟨q4, w⟩ := w
      refine ⟨q4, ?_⟩
      refine mo_n w (fun T2 w => ?_)
      exact hN (v3 + 1) T2 w
theorem mo_pl_leavesOpen_4 (l1 : Int32) (l2 : Int32) {Kk Kk2 : Int32 → St → Prop} {Q Q2 : Int32 × St → Prop} (hK : ∀ (v3 : Int32) (T : St), Kk v3 T → Kk2 v3 T) (hQ : ∀ r, Q r → Q2 r) : ∀ (f : Nat) (v3 : Int32) (T : St), wp_pl_leavesOpen_4 l1 l2 Kk Q f v3 T → wp_pl_leavesOpen_4 l1 l2 Kk2 Q2 f v3 T := by
  intro f
  induction f with
  | zero => intro v3 T w; exact w.elim
  | succ f ih => intro v3 T w; exact mb_pl_leavesOpen_4 l1 l2 hK hQ ih v3 T w
theorem wr_pl_leavesOpen_4 (l1 : Int32) (l2 : Int32) {Kk : Int32 → St → Prop} {Q : Int32 × St → Prop} (I : Int32 → St → Prop) (m : Int32 → St → Nat) (hv : ∀ (v3 : Int32) (T : St), I v3 T → bd_pl_leavesOpen_4 l1 l2 Kk Q (fun uv3 uT => I uv3 uT ∧ m uv3 uT < m v3 T) v3 T) : ∀ (f : Nat) (v3 : Int32) (T : St), m v3 T < f → I v3 T → wp_pl_leavesOpen_4 l1 l2 Kk Q f v3 T := by
  intro f
  induction f with
  | zero => intro v3 T h; exact absurd h (Nat.not_lt_zero _)
  | succ f ih => intro v3 T h hi; exact mb_pl_leavesOpen_4 l1 l2 (fun _ _ h => h) (fun _ h => h) (fun uv3 uT g => ih uv3 uT (by omega) g.1) v3 T (hv v3 T hi)
theorem so_pl_leavesOpen_4 (l1 : Int32) (l2 : Int32) {K : Int32 → St → Int32 × St} {Kk Kk2 : Int32 → St → Prop} {Q : Int32 × St → Prop} (hk : ∀ (v3 : Int32) (T : St), Kk v3 T → Kk2 v3 T ∧ Q (K v3 T)) : ∀ (f : Nat) (v3 : Int32) (T : St), wp_pl_leavesOpen_4 l1 l2 Kk Q f v3 T → ok_pl_leavesOpen_4 l1 l2 Kk2 f v3 T ∧ Q (x_pl_leavesOpen_4 l1 l2 K f v3 T) := by
  intro f
  induction f with
  | zero => intro v3 T w; exact w.elim
  | succ f ih =>
    intro v3 T w
    rw [wp_pl_leavesOpen_4, bd_pl_leavesOpen_4] at w
    rw [ok_pl_leavesOpen_4, x_pl_leavesOpen_4]
    refine so_if2 (Q := Q) w (fun c9_1 w => ?_) (fun c9_1 w => ?_)
    · exact hk v3 T w
    · obtain ⟨q1, w⟩ := w
      refine so_rq q1 ?_
      obtain ⟨q2, w⟩ := w
      refine so_rq q2 ?_
      obtain ⟨q3, w⟩ := w
      refine so_rq q3 ?_
      refine so_n (Q := Q) w (fun i1 w => ?_)
      refine so_ifF (Q := Q) w (fun c36_2 w => ?_) (fun c36_2 w => ?_)
      · exact w
      · obtain ⟨q4, w⟩ := w
        refine so_rq q4 ?_
        refine so_n (Q := Q) w (fun T2 w => ?_)
        exact ih (v3 + 1) T2 w
def wp_pl_leavesOpen (T : St) (p0 : Int32) (p1 : Int32) (Q : Int32 × St → Prop) : Prop := wp_pl_leavesOpen_4 p0 p1 (fun w1_3 T201 => Q (1, T201)) Q 1000 (p0 + 1) T
theorem so_pl_leavesOpen {T : St} (p0 : Int32) (p1 : Int32) {Q : Int32 × St → Prop} (w : wp_pl_leavesOpen T p0 p1 Q) : ok_pl_leavesOpen T p0 p1 ∧ Q (x_pl_leavesOpen T p0 p1) := by
  unfold wp_pl_leavesOpen at w
  unfold ok_pl_leavesOpen x_pl_leavesOpen
  refine so_pl_leavesOpen_4 p0 p1 (fun w1_3 T201 w => ?_) 1000 (p0 + 1) T w
  refine ⟨trivial, ?_⟩
  exact w
def wp_rd_takeWord (T : St) (p0 : Nat) (Q : St → Prop) : Prop := ((((T.1 13 2) = 0) → (ok_rd_isWord T p0) ∧ ((((x_rd_isWord T p0) = 0) → Q (sF T 13 2 1)) ∧ (¬ ((x_rd_isWord T p0) = 0) → (ok_rd_advance T) ∧ Q (x_rd_advance T)))) ∧ (¬ ((T.1 13 2) = 0) → Q T))
theorem so_rd_takeWord {T : St} (p0 : Nat) {Q : St → Prop} (w : wp_rd_takeWord T p0 Q) : ok_rd_takeWord T p0 ∧ Q (x_rd_takeWord T p0) := by
  unfold wp_rd_takeWord at w
  unfold ok_rd_takeWord x_rd_takeWord
  refine so_ifT (Q := Q) w (fun c4_1 w => ?_) (fun c4_1 w => ?_)
  · obtain ⟨q1, w⟩ := w
    refine so_rq q1 ?_
    refine so_ifF (Q := Q) w (fun c13_2 w => ?_) (fun c13_2 w => ?_)
    · exact w
    · obtain ⟨q2, w⟩ := w
      refine so_rq q2 ?_
      refine ⟨trivial, ?_⟩
      exact w
  · exact w
def wp_rd_takeSign (T : St)  (Q : St → Prop) : Prop := ((((T.1 13 2) = 0) → ((((T.1 13 5) = 3) → (ok_rd_advance T) ∧ Q (x_rd_advance T)) ∧ (¬ ((T.1 13 5) = 3) → Q (sF T 13 2 1)))) ∧ (¬ ((T.1 13 2) = 0) → Q T))
theorem so_rd_takeSign {T : St}  {Q : St → Prop} (w : wp_rd_takeSign T  Q) : ok_rd_takeSign T  ∧ Q (x_rd_takeSign T ) := by
  unfold wp_rd_takeSign at w
  unfold ok_rd_takeSign x_rd_takeSign
  refine so_ifT (Q := Q) w (fun c4_1 w => ?_) (fun c4_1 w => ?_)
  · refine so_ifT (Q := Q) w (fun c13_2 w => ?_) (fun c13_2 w => ?_)
    · obtain ⟨q1, w⟩ := w
      refine so_rq q1 ?_
      refine ⟨trivial, ?_⟩
      exact w
    · exact w
  · exact w
def wp_rd_takeNumber (T : St) (p0 : Int32) (p1 : Int32) (Q : Int32 × St → Prop) : Prop := ((((T.1 13 2) = 0) → ((((T.1 13 5) = 2) → jn (fun (KJ1 : Prop) => ((((T.1 13 6) < p0) → KJ1) ∧ (¬ ((T.1 13 6) < p0) → ((((T.1 13 6) ≤ p1) → (ok_rd_advance T) ∧ Q (T.1 13 6, x_rd_advance T)) ∧ (¬ ((T.1 13 6) ≤ p1) → KJ1))))) (Q (0, sF T 13 2 2))) ∧ (¬ ((T.1 13 5) = 2) → Q (0, sF T 13 2 1)))) ∧ (¬ ((T.1 13 2) = 0) → Q (0, T)))
theorem so_rd_takeNumber {T : St} (p0 : Int32) (p1 : Int32) {Q : Int32 × St → Prop} (w : wp_rd_takeNumber T p0 p1 Q) : ok_rd_takeNumber T p0 p1 ∧ Q (x_rd_takeNumber T p0 p1) := by
  unfold wp_rd_takeNumber at w
  unfold ok_rd_takeNumber x_rd_takeNumber
  refine so_ifT (Q := Q) w (fun c4_1 w => ?_) (fun c4_1 w => ?_)
  · refine so_ifT (Q := Q) w (fun c14_2 w => ?_) (fun c14_2 w => ?_)
    · refine so_jn1 (Q := Q) (J := fun (KJ1 : Int32 × St) (WKJ1 : Prop) => WKJ1 → Q (KJ1)) w (fun  w => ?_) (fun KJ1 WKJ1 hJ1 w => ?_)
      · skip
        exact w
      · skip
        refine so_ifF (Q := Q) w (fun c29_5 w => ?_) (fun c29_5 w => ?_)
        · exact hJ1  w
        · refine so_ifT (Q := Q) w (fun c37_6 w => ?_) (fun c37_6 w => ?_)
          · obtain ⟨q2, w⟩ := w
            refine so_rq q2 ?_
            refine ⟨trivial, ?_⟩
            exact w
          · exact hJ1  w
    · exact w
  · exact w
def bd_wa_choose_41 (l0 : Nat) (l1 : Nat) (l2 : Int32) (l3 : Int32) (l4 : Int32) (l5 : Int32) (l6 : Int32) (Kk : Int32 → Int32 → St → Prop) (Q : St → Prop) (N : Int32 → Int32 → St → Prop) (v7 : Int32) (v8 : Int32) (T : St) : Prop := (((v8 < 0) → Kk v7 v8 T) ∧ (¬ (v8 < 0) → (sh l0 = .inr 10) ∧ (sh l1 = .inr 1) ∧ (vp_in (l6 + v8) 24) ∧ (vp_in v8 3) ∧ jn (fun (T3 : St) => jn (fun (KJ1 : Int32 → Prop) => (((v8 = 0) → KJ1 l4) ∧ (¬ (v8 = 0) → (((v8 = 1) → KJ1 l5) ∧ (¬ (v8 = 1) → KJ1 0))))) (fun (j1_s2 : Int32) => jn (fun (i4 : Int32) => (((((sA T3 (l0 + 1) (v8 : Int32).toNatClampNeg i4).2.2.1 (l1 + 9) (l6 + v8 : Int32).toNatClampNeg) = 4) → jn (fun (T5 : St) => N i4 (v8 + (-1)) T5) (sF (sA T3 (l0 + 1) (v8 : Int32).toNatClampNeg i4) l0 5 (((sA T3 (l0 + 1) (v8 : Int32).toNatClampNeg i4).1 l0 5) + (((sA T3 (l0 + 1) (v8 : Int32).toNatClampNeg i4).2.2.1 (l1 + 13) (l6 + v8 : Int32).toNatClampNeg) * ((sA T3 (l0 + 1) (v8 : Int32).toNatClampNeg i4).2.2.1 (l0 + 2) (v8 : Int32).toNatClampNeg))))) ∧ (¬ (((sA T3 (l0 + 1) (v8 : Int32).toNatClampNeg i4).2.2.1 (l1 + 9) (l6 + v8 : Int32).toNatClampNeg) = 4) → N i4 (v8 + (-1)) (sA T3 (l0 + 1) (v8 : Int32).toNatClampNeg i4)))) (v7 - ((T3.2.2.1 (l0 + 2) (v8 : Int32).toNatClampNeg) + j1_s2)))) (sA T (l0 + 2) (v8 : Int32).toNatClampNeg (T.2.2.1 (l1 + 10) (l6 + v8 : Int32).toNatClampNeg))))
def wp_wa_choose_41 (l0 : Nat) (l1 : Nat) (l2 : Int32) (l3 : Int32) (l4 : Int32) (l5 : Int32) (l6 : Int32) (Kk : Int32 → Int32 → St → Prop) (Q : St → Prop) : Nat → Int32 → Int32 → St → Prop
  | 0, _, _, _ => False
  | f + 1, v7, v8, T => bd_wa_choose_41 l0 l1 l2 l3 l4 l5 l6 Kk Q (wp_wa_choose_41 l0 l1 l2 l3 l4 l5 l6 Kk Q f) v7 v8 T
theorem mb_wa_choose_41 (l0 : Nat) (l1 : Nat) (l2 : Int32) (l3 : Int32) (l4 : Int32) (l5 : Int32) (l6 : Int32) {Kk Kk2 : Int32 → Int32 → St → Prop} {Q Q2 : St → Prop} {N N2 : Int32 → Int32 → St → Prop} (hK : ∀ (v7 : Int32) (v8 : Int32) (T : St), Kk v7 v8 T → Kk2 v7 v8 T) (hQ : ∀ r, Q r → Q2 r) (hN : ∀ (v7 : Int32) (v8 : Int32) (T : St), N v7 v8 T → N2 v7 v8 T) (v7 : Int32) (v8 : Int32) (T : St) (w : bd_wa_choose_41 l0 l1 l2 l3 l4 l5 l6 Kk Q N v7 v8 T) : bd_wa_choose_41 l0 l1 l2 l3 l4 l5 l6 Kk2 Q2 N2 v7 v8 T := by
  unfold bd_wa_choose_41 at w ⊢
  refine mo_if w (fun c43_1 w => ?_) (fun c43_1 w => ?_)
  · exact hK v7 v8 T w
  · obtain ⟨q5, w⟩ := w
    refine ⟨q5, ?_⟩
    obtain ⟨q6, w⟩ := w
    refine ⟨q6, ?_⟩
    obtain ⟨q7, w⟩ := w
    refine ⟨q7, ?_⟩
    obtain ⟨q8, w⟩ := w
    refine ⟨q8, ?_⟩
    refine mo_n w (fun T3 w => ?_)
    refine mo_jn (J := fun (KJ1 : Int32 → Prop) (WKJ1 : Int32 → Prop) => ∀ (j1_s2 : Int32), KJ1 j1_s2 → WKJ1 j1_s2) w (fun j1_s2 w => ?_) (fun KJ1 WKJ1 hJ1 w => ?_)
    · skip
      refine mo_n w (fun i4 w => ?_)
      refine mo_if w (fun c118_4 w => ?_) (fun c118_4 w => ?_)
      · refine mo_n w (fun T5 w => ?_)
        exact hN i4 (v8 + (-1)) T5 w
      · exact hN i4 (v8 + (-1)) (sA T3 (l0 + 1) (v8 : Int32).toNatClampNeg i4) w
    · skip
      refine mo_if w (fun c74_5 w => ?_) (fun c74_5 w => ?_)
      · exact hJ1 l4 w
      · refine mo_if w (fun c85_6 w => ?_) (fun c85_6 w => ?_)
        · exact hJ1 l5 w
        · exact hJ1 0 w
theorem mo_wa_choose_41 (l0 : Nat) (l1 : Nat) (l2 : Int32) (l3 : Int32) (l4 : Int32) (l5 : Int32) (l6 : Int32) {Kk Kk2 : Int32 → Int32 → St → Prop} {Q Q2 : St → Prop} (hK : ∀ (v7 : Int32) (v8 : Int32) (T : St), Kk v7 v8 T → Kk2 v7 v8 T) (hQ : ∀ r, Q r → Q2 r) : ∀ (f : Nat) (v7 : Int32) (v8 : Int32) (T : St), wp_wa_choose_41 l0 l1 l2 l3 l4 l5 l6 Kk Q f v7 v8 T → wp_wa_choose_41 l0 l1 l2 l3 l4 l5 l6 Kk2 Q2 f v7 v8 T := by
  intro f
  induction f with
  | zero => intro v7 v8 T w; exact w.elim
  | succ f ih => intro v7 v8 T w; exact mb_wa_choose_41 l0 l1 l2 l3 l4 l5 l6 hK hQ ih v7 v8 T w
theorem wr_wa_choose_41 (l0 : Nat) (l1 : Nat) (l2 : Int32) (l3 : Int32) (l4 : Int32) (l5 : Int32) (l6 : Int32) {Kk : Int32 → Int32 → St → Prop} {Q : St → Prop} (I : Int32 → Int32 → St → Prop) (m : Int32 → Int32 → St → Nat) (hv : ∀ (v7 : Int32) (v8 : Int32) (T : St), I v7 v8 T → bd_wa_choose_41 l0 l1 l2 l3 l4 l5 l6 Kk Q (fun uv7 uv8 uT => I uv7 uv8 uT ∧ m uv7 uv8 uT < m v7 v8 T) v7 v8 T) : ∀ (f : Nat) (v7 : Int32) (v8 : Int32) (T : St), m v7 v8 T < f → I v7 v8 T → wp_wa_choose_41 l0 l1 l2 l3 l4 l5 l6 Kk Q f v7 v8 T := by
  intro f
  induction f with
  | zero => intro v7 v8 T h; exact absurd h (Nat.not_lt_zero _)
  | succ f ih => intro v7 v8 T h hi; exact mb_wa_choose_41 l0 l1 l2 l3 l4 l5 l6 (fun _ _ _ h => h) (fun _ h => h) (fun uv7 uv8 uT g => ih uv7 uv8 uT (by omega) g.1) v7 v8 T (hv v7 v8 T hi)
theorem so_wa_choose_41 (l0 : Nat) (l1 : Nat) (l2 : Int32) (l3 : Int32) (l4 : Int32) (l5 : Int32) (l6 : Int32) {K : Int32 → Int32 → St → St} {Kk Kk2 : Int32 → Int32 → St → Prop} {Q : St → Prop} (hk : ∀ (v7 : Int32) (v8 : Int32) (T : St), Kk v7 v8 T → Kk2 v7 v8 T ∧ Q (K v7 v8 T)) : ∀ (f : Nat) (v7 : Int32) (v8 : Int32) (T : St), wp_wa_choose_41 l0 l1 l2 l3 l4 l5 l6 Kk Q f v7 v8 T → ok_wa_choose_41 l0 l1 l2 l3 l4 l5 l6 Kk2 f v7 v8 T ∧ Q (x_wa_choose_41 l0 l1 l2 l3 l4 l5 l6 K f v7 v8 T) := by
  intro f
  induction f with
  | zero => intro v7 v8 T w; exact w.elim
  | succ f ih =>
    intro v7 v8 T w
    rw [wp_wa_choose_41, bd_wa_choose_41] at w
    rw [ok_wa_choose_41, x_wa_choose_41]
    refine so_if2 (Q := Q) w (fun c43_1 w => ?_) (fun c43_1 w => ?_)
    · exact hk v7 v8 T w
    · obtain ⟨q5, w⟩ := w
      refine so_rq q5 ?_
      obtain ⟨q6, w⟩ := w
      refine so_rq q6 ?_
      obtain ⟨q7, w⟩ := w
      refine so_rq q7 ?_
      obtain ⟨q8, w⟩ := w
      refine so_rq q8 ?_
      refine so_n (Q := Q) w (fun T3 w => ?_)
      refine so_jn (Q := Q) (J := fun (KJ1 : Int32 → St) (OJ1 : Int32 → Prop) (WKJ1 : Int32 → Prop) => ∀ (j1_s2 : Int32), WKJ1 j1_s2 → OJ1 j1_s2 ∧ Q (KJ1 j1_s2)) w (fun j1_s2 w => ?_) (fun KJ1 OJ1 WKJ1 hJ1 w => ?_)
      · skip
        refine so_n (Q := Q) w (fun i4 w => ?_)
        refine so_if2 (Q := Q) w (fun c118_4 w => ?_) (fun c118_4 w => ?_)
        · refine so_n (Q := Q) w (fun T5 w => ?_)
          exact ih i4 (v8 + (-1)) T5 w
        · exact ih i4 (v8 + (-1)) (sA T3 (l0 + 1) (v8 : Int32).toNatClampNeg i4) w
      · skip
        refine so_if2 (Q := Q) w (fun c74_5 w => ?_) (fun c74_5 w => ?_)
        · exact hJ1 l4 w
        · refine so_if2 (Q := Q) w (fun c85_6 w => ?_) (fun c85_6 w => ?_)
          · exact hJ1 l5 w
          · exact hJ1 0 w
def wp_wa_choose (T : St) (a : Nat) (p0 : Nat) (p1 : Int32) (p2 : Int32) (p3 : Int32) (p4 : Int32) (Q : St → Prop) : Prop := (sh a = .inr 10) ∧ (sh p0 = .inr 1) ∧ (vp_in ((sF T a 3 p1).1 a 3) 8) ∧ jn (fun (i1 : Int32) => (vp_in ((sF (sF T a 3 p1) a 5 (p3 + p4)).1 a 3) 8) ∧ jn (fun (i2 : Int32) => wp_wa_choose_41 a p0 p1 p2 p3 p4 i1 (fun w1_7 w1_8 T201 => jn (fun (KJ2 : Prop) => (((w1_7 < 0) → KJ2) ∧ (¬ (w1_7 < 0) → (ok_wa_isWarmed T201 a p0) ∧ ((((x_wa_isWarmed T201 a p0) = 0) → KJ2) ∧ (¬ ((x_wa_isWarmed T201 a p0) = 0) → (ok_wa_agrees T201 a p0 a) ∧ ((((x_wa_agrees T201 a p0 a) = 0) → KJ2) ∧ (¬ ((x_wa_agrees T201 a p0 a) = 0) → (((((sF T201 a 6 1).1 a 6) = 0) → Q (sF T201 a 6 1)) ∧ (¬ (((sF T201 a 6 1).1 a 6) = 0) → (ok_wa_lay (sF T201 a 6 1) a p0) ∧ Q (x_wa_lay (sF T201 a 6 1) a p0)))))))))) ((((((sF T201 a 6 0).1 a 6) = 0) → Q (sF T201 a 6 0)) ∧ (¬ (((sF T201 a 6 0).1 a 6) = 0) → (ok_wa_lay (sF T201 a 6 0) a p0) ∧ Q (x_wa_lay (sF T201 a 6 0) a p0))))) Q 1000 p2 i2 (sF (sF T a 3 p1) a 5 (p3 + p4))) (((sF (sF T a 3 p1) a 5 (p3 + p4)).2.2.1 (p0 + 7) ((sF (sF T a 3 p1) a 5 (p3 + p4)).1 a 3 : Int32).toNatClampNeg) - 1)) ((sF T a 3 p1).2.2.1 (p0 + 8) ((sF T a 3 p1).1 a 3 : Int32).toNatClampNeg)
theorem so_wa_choose {T : St} (a : Nat) (p0 : Nat) (p1 : Int32) (p2 : Int32) (p3 : Int32) (p4 : Int32) {Q : St → Prop} (w : wp_wa_choose T a p0 p1 p2 p3 p4 Q) : ok_wa_choose T a p0 p1 p2 p3 p4 ∧ Q (x_wa_choose T a p0 p1 p2 p3 p4) := by
  unfold wp_wa_choose at w
  unfold ok_wa_choose x_wa_choose
  obtain ⟨q1, w⟩ := w
  refine so_rq q1 ?_
  obtain ⟨q2, w⟩ := w
  refine so_rq q2 ?_
  obtain ⟨q3, w⟩ := w
  refine so_rq q3 ?_
  refine so_n (Q := Q) w (fun i1 w => ?_)
  obtain ⟨q4, w⟩ := w
  refine so_rq q4 ?_
  refine so_n (Q := Q) w (fun i2 w => ?_)
  refine so_wa_choose_41 a p0 p1 p2 p3 p4 i1 (fun w1_7 w1_8 T201 w => ?_) 1000 p2 i2 (sF (sF T a 3 p1) a 5 (p3 + p4)) w
  refine so_jn (Q := Q) (J := fun (KJ2 : St) (OJ2 : Prop) (WKJ2 : Prop) => WKJ2 → OJ2 ∧ Q (KJ2)) w (fun  w => ?_) (fun KJ2 OJ2 WKJ2 hJ2 w => ?_)
  · skip
    refine so_ifF (Q := Q) w (fun c189_11 w => ?_) (fun c189_11 w => ?_)
    · exact w
    · obtain ⟨q12, w⟩ := w
      refine so_rq q12 ?_
      refine ⟨trivial, ?_⟩
      exact w
  · skip
    refine so_if2 (Q := Q) w (fun c157_12 w => ?_) (fun c157_12 w => ?_)
    · exact hJ2  w
    · obtain ⟨q13, w⟩ := w
      refine so_rq q13 ?_
      refine so_if2 (Q := Q) w (fun c165_13 w => ?_) (fun c165_13 w => ?_)
      · exact hJ2  w
      · obtain ⟨q14, w⟩ := w
        refine so_rq q14 ?_
        refine so_if2 (Q := Q) w (fun c174_14 w => ?_) (fun c174_14 w => ?_)
        · exact hJ2  w
        · refine so_ifF (Q := Q) w (fun c189_15 w => ?_) (fun c189_15 w => ?_)
          · exact w
          · obtain ⟨q15, w⟩ := w
            refine so_rq q15 ?_
            refine ⟨trivial, ?_⟩
            exact w
def wp_x_dinner (T : St) (p0 : Int32) (Q : Int32 × St → Prop) : Prop := ((((x_J_bitCount T p0) < 1) → Q ((-1000001), T)) ∧ (¬ ((x_J_bitCount T p0) < 1) → (((4 < (x_J_bitCount T p0)) → Q ((-1000001), T)) ∧ (¬ (4 < (x_J_bitCount T p0)) → (ok_bk_allDishes T (T.2.1 0)) ∧ (sh (T.2.1 0) = .inr 1) ∧ ((((p0 &&& ((x_bk_allDishes T (T.2.1 0)) ^^^ (-1))) = 0) → (ok_x_changed (sF T (T.2.1 0) 17 p0)) ∧ Q (x_J_bitCount T p0, x_x_changed (sF T (T.2.1 0) 17 p0))) ∧ (¬ ((p0 &&& ((x_bk_allDishes T (T.2.1 0)) ^^^ (-1))) = 0) → Q ((-1000001), T)))))))
theorem so_x_dinner {T : St} (p0 : Int32) {Q : Int32 × St → Prop} (w : wp_x_dinner T p0 Q) : ok_x_dinner T p0 ∧ Q (x_x_dinner T p0) := by
  unfold wp_x_dinner at w
  unfold ok_x_dinner x_x_dinner
  refine so_ifF (Q := Q) w (fun c7_1 w => ?_) (fun c7_1 w => ?_)
  · exact w
  · refine so_ifF (Q := Q) w (fun c12_2 w => ?_) (fun c12_2 w => ?_)
    · exact w
    · obtain ⟨q1, w⟩ := w
      refine so_rq q1 ?_
      obtain ⟨q2, w⟩ := w
      refine so_rq q2 ?_
      refine so_ifT (Q := Q) w (fun c26_3 w => ?_) (fun c26_3 w => ?_)
      · obtain ⟨q3, w⟩ := w
        refine so_rq q3 ?_
        refine ⟨trivial, ?_⟩
        exact w
      · exact w
def wp_x_out (T : St) (p0 : Int32) (Q : Int32 × St → Prop) : Prop := (((p0 < 0) → Q ((-1000001), T)) ∧ (¬ (p0 < 0) → (((p0 ≤ 60) → (ok_bk_isRead T (T.2.1 0)) ∧ (sh (T.2.1 0) = .inr 1) ∧ ((((x_bk_isRead T (T.2.1 0)) = 0) → Q ((-1000002), T)) ∧ (¬ ((x_bk_isRead T (T.2.1 0)) = 0) → ((((T.2.2.1 ((T.2.1 0) + 1) (1 : Int32).toNatClampNeg) = 0) → Q ((-1000002), T)) ∧ (¬ ((T.2.2.1 ((T.2.1 0) + 1) (1 : Int32).toNatClampNeg) = 0) → (ok_x_changed (sF T (T.2.1 0) 18 p0)) ∧ Q (1, x_x_changed (sF T (T.2.1 0) 18 p0))))))) ∧ (¬ (p0 ≤ 60) → Q ((-1000001), T)))))
theorem so_x_out {T : St} (p0 : Int32) {Q : Int32 × St → Prop} (w : wp_x_out T p0 Q) : ok_x_out T p0 ∧ Q (x_x_out T p0) := by
  unfold wp_x_out at w
  unfold ok_x_out x_x_out
  refine so_ifF (Q := Q) w (fun c1_1 w => ?_) (fun c1_1 w => ?_)
  · exact w
  · refine so_ifT (Q := Q) w (fun c7_2 w => ?_) (fun c7_2 w => ?_)
    · obtain ⟨q1, w⟩ := w
      refine so_rq q1 ?_
      obtain ⟨q2, w⟩ := w
      refine so_rq q2 ?_
      refine so_ifF (Q := Q) w (fun c20_3 w => ?_) (fun c20_3 w => ?_)
      · exact w
      · refine so_ifF (Q := Q) w (fun c32_4 w => ?_) (fun c32_4 w => ?_)
        · exact w
        · obtain ⟨q3, w⟩ := w
          refine so_rq q3 ?_
          refine ⟨trivial, ?_⟩
          exact w
    · exact w
def wp_x_restore (T : St) (p0 : Int32) (Q : Int32 × St → Prop) : Prop := (((p0 < 0) → Q ((-1000001), T)) ∧ (¬ (p0 < 0) → (((p0 < 2) → (vp_in p0 2) ∧ (ok_bk_isRead T (16 + 15 * (p0 : Int32).toNatClampNeg)) ∧ ((((x_bk_isRead T (16 + 15 * (p0 : Int32).toNatClampNeg)) = 0) → Q ((-1000002), T)) ∧ (¬ ((x_bk_isRead T (16 + 15 * (p0 : Int32).toNatClampNeg)) = 0) → (ok_bk_take T (T.2.1 0) (16 + 15 * (p0 : Int32).toNatClampNeg)) ∧ (sh (T.2.1 0) = .inr 1) ∧ (ok_x_changed (x_bk_take T (T.2.1 0) (16 + 15 * (p0 : Int32).toNatClampNeg))) ∧ Q (1, x_x_changed (x_bk_take T (T.2.1 0) (16 + 15 * (p0 : Int32).toNatClampNeg)))))) ∧ (¬ (p0 < 2) → Q ((-1000001), T)))))
theorem so_x_restore {T : St} (p0 : Int32) {Q : Int32 × St → Prop} (w : wp_x_restore T p0 Q) : ok_x_restore T p0 ∧ Q (x_x_restore T p0) := by
  unfold wp_x_restore at w
  unfold ok_x_restore x_x_restore
  refine so_ifF (Q := Q) w (fun c1_1 w => ?_) (fun c1_1 w => ?_)
  · exact w
  · refine so_ifT (Q := Q) w (fun c6_2 w => ?_) (fun c6_2 w => ?_)
    · obtain ⟨q1, w⟩ := w
      refine so_rq q1 ?_
      obtain ⟨q2, w⟩ := w
      refine so_rq q2 ?_
      refine so_ifF (Q := Q) w (fun c21_3 w => ?_) (fun c21_3 w => ?_)
      · exact w
      · obtain ⟨q3, w⟩ := w
        refine so_rq q3 ?_
        obtain ⟨q4, w⟩ := w
        refine so_rq q4 ?_
        obtain ⟨q5, w⟩ := w
        refine so_rq q5 ?_
        refine ⟨trivial, ?_⟩
        exact w
    · exact w
def bd_jd_firstLack_40 (l1 : Nat) (l2 : Nat) (l3 : Nat) (l4 : Int32) (Kk : Int32 → St → Prop) (Q : Int32 × St → Prop) (N : Int32 → St → Prop) (v5 : Int32) (T : St) : Prop := (((60 ≤ v5) → Kk v5 T) ∧ (¬ (60 ≤ v5) → jn (fun (KJ1 : Int32 → Prop) => (((v5 = l4) → KJ1 1) ∧ (¬ (v5 = l4) → KJ1 0))) (fun (j1_s2 : Int32) => jn (fun (i2 : Int32) => (((i2 = 0) → N (v5 + 1) T) ∧ (¬ (i2 = 0) → Q ((1000 + (10 * v5)) + i2, T)))) (x_jd_lackAt T (1 <<< ((v5 : Int32).toInt64 &&& 63)) j1_s2))))
def wp_jd_firstLack_40 (l1 : Nat) (l2 : Nat) (l3 : Nat) (l4 : Int32) (Kk : Int32 → St → Prop) (Q : Int32 × St → Prop) : Nat → Int32 → St → Prop
  | 0, _, _ => False
  | f + 1, v5, T => bd_jd_firstLack_40 l1 l2 l3 l4 Kk Q (wp_jd_firstLack_40 l1 l2 l3 l4 Kk Q f) v5 T
theorem mb_jd_firstLack_40 (l1 : Nat) (l2 : Nat) (l3 : Nat) (l4 : Int32) {Kk Kk2 : Int32 → St → Prop} {Q Q2 : Int32 × St → Prop} {N N2 : Int32 → St → Prop} (hK : ∀ (v5 : Int32) (T : St), Kk v5 T → Kk2 v5 T) (hQ : ∀ r, Q r → Q2 r) (hN : ∀ (v5 : Int32) (T : St), N v5 T → N2 v5 T) (v5 : Int32) (T : St) (w : bd_jd_firstLack_40 l1 l2 l3 l4 Kk Q N v5 T) : bd_jd_firstLack_40 l1 l2 l3 l4 Kk2 Q2 N2 v5 T := by
  unfold bd_jd_firstLack_40 at w ⊢
  refine mo_if w (fun c44_1 w => ?_) (fun c44_1 w => ?_)
  · exact hK v5 T w
  · refine mo_jn (J := fun (KJ1 : Int32 → Prop) (WKJ1 : Int32 → Prop) => ∀ (j1_s2 : Int32), KJ1 j1_s2 → WKJ1 j1_s2) w (fun j1_s2 w => ?_) (fun KJ1 WKJ1 hJ1 w => ?_)
    · skip
      refine mo_n w (fun i2 w => ?_)
      refine mo_if w (fun c71_3 w => ?_) (fun c71_3 w => ?_)
      · exact hN (v5 + 1) T w
      · exact hQ _ w
    · skip
      refine mo_if w (fun c56_4 w => ?_) (fun c56_4 w => ?_)
      · exact hJ1 1 w
      · exact hJ1 0 w
theorem mo_jd_firstLack_40 (l1 : Nat) (l2 : Nat) (l3 : Nat) (l4 : Int32) {Kk Kk2 : Int32 → St → Prop} {Q Q2 : Int32 × St → Prop} (hK : ∀ (v5 : Int32) (T : St), Kk v5 T → Kk2 v5 T) (hQ : ∀ r, Q r → Q2 r) : ∀ (f : Nat) (v5 : Int32) (T : St), wp_jd_firstLack_40 l1 l2 l3 l4 Kk Q f v5 T → wp_jd_firstLack_40 l1 l2 l3 l4 Kk2 Q2 f v5 T := by
  intro f
  induction f with
  | zero => intro v5 T w; exact w.elim
  | succ f ih => intro v5 T w; exact mb_jd_firstLack_40 l1 l2 l3 l4 hK hQ ih v5 T w
theorem wr_jd_firstLack_40 (l1 : Nat) (l2 : Nat) (l3 : Nat) (l4 : Int32) {Kk : Int32 → St → Prop} {Q : Int32 × St → Prop} (I : Int32 → St → Prop) (m : Int32 → St → Nat) (hv : ∀ (v5 : Int32) (T : St), I v5 T → bd_jd_firstLack_40 l1 l2 l3 l4 Kk Q (fun uv5 uT => I uv5 uT ∧ m uv5 uT < m v5 T) v5 T) : ∀ (f : Nat) (v5 : Int32) (T : St), m v5 T < f → I v5 T → wp_jd_firstLack_40 l1 l2 l3 l4 Kk Q f v5 T := by
  intro f
  induction f with
  | zero => intro v5 T h; exact absurd h (Nat.not_lt_zero _)
  | succ f ih => intro v5 T h hi; exact mb_jd_firstLack_40 l1 l2 l3 l4 (fun _ _ h => h) (fun _ h => h) (fun uv5 uT g => ih uv5 uT (by omega) g.1) v5 T (hv v5 T hi)
theorem so_jd_firstLack_40 (l1 : Nat) (l2 : Nat) (l3 : Nat) (l4 : Int32) {K : Int32 → St → Int32 × St} {Kk Kk2 : Int32 → St → Prop} {Q : Int32 × St → Prop} (hk : ∀ (v5 : Int32) (T : St), Kk v5 T → Kk2 v5 T ∧ Q (K v5 T)) : ∀ (f : Nat) (v5 : Int32) (T : St), wp_jd_firstLack_40 l1 l2 l3 l4 Kk Q f v5 T → ok_jd_firstLack_40 l1 l2 l3 l4 Kk2 f v5 T ∧ Q (x_jd_firstLack_40 l1 l2 l3 l4 K f v5 T) := by
  intro f
  induction f with
  | zero => intro v5 T w; exact w.elim
  | succ f ih =>
    intro v5 T w
    rw [wp_jd_firstLack_40, bd_jd_firstLack_40] at w
    rw [ok_jd_firstLack_40, x_jd_firstLack_40]
    refine so_if2 (Q := Q) w (fun c44_1 w => ?_) (fun c44_1 w => ?_)
    · exact hk v5 T w
    · refine so_jn (Q := Q) (J := fun (KJ1 : Int32 → Int32 × St) (OJ1 : Int32 → Prop) (WKJ1 : Int32 → Prop) => ∀ (j1_s2 : Int32), WKJ1 j1_s2 → OJ1 j1_s2 ∧ Q (KJ1 j1_s2)) w (fun j1_s2 w => ?_) (fun KJ1 OJ1 WKJ1 hJ1 w => ?_)
      · skip
        refine so_n (Q := Q) w (fun i2 w => ?_)
        refine so_ifT (Q := Q) w (fun c71_3 w => ?_) (fun c71_3 w => ?_)
        · exact ih (v5 + 1) T w
        · exact w
      · skip
        refine so_if2 (Q := Q) w (fun c56_4 w => ?_) (fun c56_4 w => ?_)
        · exact hJ1 1 w
        · exact hJ1 0 w
def wp_jd_firstLack (T : St) (p0 : Nat) (p1 : Nat) (p2 : Nat) (Q : Int32 × St → Prop) : Prop := (ok_jd_lay T p0 p1 p2) ∧ (ok_ov_want (x_jd_lay T p0 p1 p2) p0 p2) ∧ (sh p0 = .inr 1) ∧ (ok_ov_firstLack (x_ov_want (x_jd_lay T p0 p1 p2) p0 p2) ((x_ov_want (x_jd_lay T p0 p1 p2) p0 p2).2.2.1 (p0 + 1) (3 : Int32).toNatClampNeg) ((x_ov_want (x_jd_lay T p0 p1 p2) p0 p2).2.2.1 (p0 + 1) (4 : Int32).toNatClampNeg)) ∧ jn (fun (i1 : Int32) => wp_jd_firstLack_40 p0 p1 p2 i1 (fun w1_5 T201 => Q (0, T201)) Q 1000 0 (x_ov_want (x_jd_lay T p0 p1 p2) p0 p2)) (x_ov_firstLack (x_ov_want (x_jd_lay T p0 p1 p2) p0 p2) ((x_ov_want (x_jd_lay T p0 p1 p2) p0 p2).2.2.1 (p0 + 1) (3 : Int32).toNatClampNeg) ((x_ov_want (x_jd_lay T p0 p1 p2) p0 p2).2.2.1 (p0 + 1) (4 : Int32).toNatClampNeg))
theorem so_jd_firstLack {T : St} (p0 : Nat) (p1 : Nat) (p2 : Nat) {Q : Int32 × St → Prop} (w : wp_jd_firstLack T p0 p1 p2 Q) : ok_jd_firstLack T p0 p1 p2 ∧ Q (x_jd_firstLack T p0 p1 p2) := by
  unfold wp_jd_firstLack at w
  unfold ok_jd_firstLack x_jd_firstLack
  obtain ⟨q1, w⟩ := w
  refine so_rq q1 ?_
  obtain ⟨q2, w⟩ := w
  refine so_rq q2 ?_
  obtain ⟨q3, w⟩ := w
  refine so_rq q3 ?_
  obtain ⟨q4, w⟩ := w
  refine so_rq q4 ?_
  refine so_n (Q := Q) w (fun i1 w => ?_)
  refine so_jd_firstLack_40 p0 p1 p2 i1 (fun w1_5 T201 w => ?_) 1000 0 (x_ov_want (x_jd_lay T p0 p1 p2) p0 p2) w
  refine ⟨trivial, ?_⟩
  exact w
def bd_pl_layDish_39 (l1 : Int32) (l2 : Int32) (l4 : Int32) (l5 : Int32) (Kk : Int32 → Int32 → St → Prop) (Q : St → Prop) (N : Int32 → Int32 → St → Prop) (v3 : Int32) (v6 : Int32) (T : St) : Prop := (sh (T.2.1 2) = .inr 1) ∧ (vp_in l1 8) ∧ ((((T.2.2.1 ((T.2.1 2) + 4) (l1 : Int32).toNatClampNeg) < v6) → Kk v3 v6 T) ∧ (¬ ((T.2.2.1 ((T.2.1 2) + 4) (l1 : Int32).toNatClampNeg) < v6) → (((12 ≤ v3) → Kk v3 v6 T) ∧ (¬ (12 ≤ v3) → (vp_in ((l1 * 12) + v3) 96) ∧ jn (fun (r1 : Nat) => (ok_wa_choose T r1 (T.2.1 2) l1 (l2 - v6) l5 l4) ∧ (sh r1 = .inr 10) ∧ (sh ((sF (x_wa_choose T r1 (T.2.1 2) l1 (l2 - v6) l5 l4) r1 4 v6).2.1 2) = .inr 1) ∧ jn (fun (T2 : St) => ((((T2.1 r1 6) = 0) → N (v3 + 1) (v6 + 1) T2) ∧ (¬ ((T2.1 r1 6) = 0) → (ok_ta_hasRoom T2 (507 + 5 * (0 : Int32).toNatClampNeg) (r1 + 3)) ∧ ((((x_ta_hasRoom T2 (507 + 5 * (0 : Int32).toNatClampNeg) (r1 + 3)) = 0) → N (v3 + 1) (v6 + 1) (sF T2 r1 6 0)) ∧ (¬ ((x_ta_hasRoom T2 (507 + 5 * (0 : Int32).toNatClampNeg) (r1 + 3)) = 0) → N (v3 + 1) (v6 + 1) T2))))) (sF (sF (x_wa_choose T r1 (T.2.1 2) l1 (l2 - v6) l5 l4) r1 4 v6) r1 5 (((sF (x_wa_choose T r1 (T.2.1 2) l1 (l2 - v6) l5 l4) r1 4 v6).1 r1 5) + (v6 * ((sF (x_wa_choose T r1 (T.2.1 2) l1 (l2 - v6) l5 l4) r1 4 v6).2.2.1 (((sF (x_wa_choose T r1 (T.2.1 2) l1 (l2 - v6) l5 l4) r1 4 v6).2.1 2) + 5) (l1 : Int32).toNatClampNeg))))) (123 + 4 * ((l1 * 12) + v3 : Int32).toNatClampNeg)))))
def wp_pl_layDish_39 (l1 : Int32) (l2 : Int32) (l4 : Int32) (l5 : Int32) (Kk : Int32 → Int32 → St → Prop) (Q : St → Prop) : Nat → Int32 → Int32 → St → Prop
  | 0, _, _, _ => False
  | f + 1, v3, v6, T => bd_pl_layDish_39 l1 l2 l4 l5 Kk Q (wp_pl_layDish_39 l1 l2 l4 l5 Kk Q f) v3 v6 T
theorem mb_pl_layDish_39 (l1 : Int32) (l2 : Int32) (l4 : Int32) (l5 : Int32) {Kk Kk2 : Int32 → Int32 → St → Prop} {Q Q2 : St → Prop} {N N2 : Int32 → Int32 → St → Prop} (hK : ∀ (v3 : Int32) (v6 : Int32) (T : St), Kk v3 v6 T → Kk2 v3 v6 T) (hQ : ∀ r, Q r → Q2 r) (hN : ∀ (v3 : Int32) (v6 : Int32) (T : St), N v3 v6 T → N2 v3 v6 T) (v3 : Int32) (v6 : Int32) (T : St) (w : bd_pl_layDish_39 l1 l2 l4 l5 Kk Q N v3 v6 T) : bd_pl_layDish_39 l1 l2 l4 l5 Kk2 Q2 N2 v3 v6 T := by
  unfold bd_pl_layDish_39 at w ⊢
  obtain ⟨q5, w⟩ := w
  refine ⟨q5, ?_⟩
  obtain ⟨q6, w⟩ := w
  refine ⟨q6, ?_⟩
  refine mo_if w (fun c50_3 w => ?_) (fun c50_3 w => ?_)
  · exact hK v3 v6 T w
  · refine mo_if w (fun c56_4 w => ?_) (fun c56_4 w => ?_)
    · exact hK v3 v6 T w
    · obtain ⟨q7, w⟩ := w
      refine ⟨q7, ?_⟩
      refine mo_n w (fun r1 w => ?_)
      obtain ⟨q8, w⟩ := w
      refine ⟨q8, ?_⟩
      obtain ⟨q9, w⟩ := w
      refine ⟨q9, ?_⟩
      obtain ⟨q10, w⟩ := w
      refine ⟨q10, ?_⟩
      refine mo_n w (fun T2 w => ?_)
      refine mo_if w (fun c124_5 w => ?_) (fun c124_5 w => ?_)
      · exact hN (v3 + 1) (v6 + 1) T2 w
      · obtain ⟨q11, w⟩ := w
        refine ⟨q11, ?_⟩
        refine mo_if w (fun c141_6 w => ?_) (fun c141_6 w => ?_)
        · exact hN (v3 + 1) (v6 + 1) (sF T2 r1 6 0) w
        · exact hN (v3 + 1) (v6 + 1) T2 w
theorem mo_pl_layDish_39 (l1 : Int32) (l2 : Int32) (l4 : Int32) (l5 : Int32) {Kk Kk2 : Int32 → Int32 → St → Prop} {Q Q2 : St → Prop} (hK : ∀ (v3 : Int32) (v6 : Int32) (T : St), Kk v3 v6 T → Kk2 v3 v6 T) (hQ : ∀ r, Q r → Q2 r) : ∀ (f : Nat) (v3 : Int32) (v6 : Int32) (T : St), wp_pl_layDish_39 l1 l2 l4 l5 Kk Q f v3 v6 T → wp_pl_layDish_39 l1 l2 l4 l5 Kk2 Q2 f v3 v6 T := by
  intro f
  induction f with
  | zero => intro v3 v6 T w; exact w.elim
  | succ f ih => intro v3 v6 T w; exact mb_pl_layDish_39 l1 l2 l4 l5 hK hQ ih v3 v6 T w
theorem wr_pl_layDish_39 (l1 : Int32) (l2 : Int32) (l4 : Int32) (l5 : Int32) {Kk : Int32 → Int32 → St → Prop} {Q : St → Prop} (I : Int32 → Int32 → St → Prop) (m : Int32 → Int32 → St → Nat) (hv : ∀ (v3 : Int32) (v6 : Int32) (T : St), I v3 v6 T → bd_pl_layDish_39 l1 l2 l4 l5 Kk Q (fun uv3 uv6 uT => I uv3 uv6 uT ∧ m uv3 uv6 uT < m v3 v6 T) v3 v6 T) : ∀ (f : Nat) (v3 : Int32) (v6 : Int32) (T : St), m v3 v6 T < f → I v3 v6 T → wp_pl_layDish_39 l1 l2 l4 l5 Kk Q f v3 v6 T := by
  intro f
  induction f with
  | zero => intro v3 v6 T h; exact absurd h (Nat.not_lt_zero _)
  | succ f ih => intro v3 v6 T h hi; exact mb_pl_layDish_39 l1 l2 l4 l5 (fun _ _ _ h => h) (fun _ h => h) (fun uv3 uv6 uT g => ih uv3 uv6 uT (by omega) g.1) v3 v6 T (hv v3 v6 T hi)
theorem so_pl_layDish_39 (l1 : Int32) (l2 : Int32) (l4 : Int32) (l5 : Int32) {K : Int32 → Int32 → St → St} {Kk Kk2 : Int32 → Int32 → St → Prop} {Q : St → Prop} (hk : ∀ (v3 : Int32) (v6 : Int32) (T : St), Kk v3 v6 T → Kk2 v3 v6 T ∧ Q (K v3 v6 T)) : ∀ (f : Nat) (v3 : Int32) (v6 : Int32) (T : St), wp_pl_layDish_39 l1 l2 l4 l5 Kk Q f v3 v6 T → ok_pl_layDish_39 l1 l2 l4 l5 Kk2 f v3 v6 T ∧ Q (x_pl_layDish_39 l1 l2 l4 l5 K f v3 v6 T) := by
  intro f
  induction f with
  | zero => intro v3 v6 T w; exact w.elim
  | succ f ih =>
    intro v3 v6 T w
    rw [wp_pl_layDish_39, bd_pl_layDish_39] at w
    rw [ok_pl_layDish_39, x_pl_layDish_39]
    obtain ⟨q5, w⟩ := w
    refine so_rq q5 ?_
    obtain ⟨q6, w⟩ := w
    refine so_rq q6 ?_
    refine so_if2 (Q := Q) w (fun c50_3 w => ?_) (fun c50_3 w => ?_)
    · exact hk v3 v6 T w
    · refine so_if2 (Q := Q) w (fun c56_4 w => ?_) (fun c56_4 w => ?_)
      · exact hk v3 v6 T w
      · obtain ⟨q7, w⟩ := w
        refine so_rq q7 ?_
        refine so_n (Q := Q) w (fun r1 w => ?_)
        obtain ⟨q8, w⟩ := w
        refine so_rq q8 ?_
        obtain ⟨q9, w⟩ := w
        refine so_rq q9 ?_
        obtain ⟨q10, w⟩ := w
        refine so_rq q10 ?_
        refine so_n (Q := Q) w (fun T2 w => ?_)
        refine so_if2 (Q := Q) w (fun c124_5 w => ?_) (fun c124_5 w => ?_)
        · exact ih (v3 + 1) (v6 + 1) T2 w
        · obtain ⟨q11, w⟩ := w
          refine so_rq q11 ?_
          refine so_if2 (Q := Q) w (fun c141_6 w => ?_) (fun c141_6 w => ?_)
          · exact ih (v3 + 1) (v6 + 1) (sF T2 r1 6 0) w
          · exact ih (v3 + 1) (v6 + 1) T2 w
def bd_pl_layDish_22 (l1 : Int32) (l2 : Int32) (l4 : Int32) (Kk : Int32 → Int32 → St → Prop) (Q : St → Prop) (N : Int32 → Int32 → St → Prop) (v3 : Int32) (v5 : Int32) (T : St) : Prop := (ok_bk_waitBehind T (T.2.1 2) l1 0) ∧ (sh (T.2.1 2) = .inr 1) ∧ ((((x_bk_waitBehind T (T.2.1 2) l1 0) < v5) → Kk v3 v5 T) ∧ (¬ ((x_bk_waitBehind T (T.2.1 2) l1 0) < v5) → wp_pl_layDish_39 l1 l2 l4 v5 (fun w1_3 w1_6 T201 => N w1_3 (v5 + 1) T201) Q 1000 v3 0 T))
def wp_pl_layDish_22 (l1 : Int32) (l2 : Int32) (l4 : Int32) (Kk : Int32 → Int32 → St → Prop) (Q : St → Prop) : Nat → Int32 → Int32 → St → Prop
  | 0, _, _, _ => False
  | f + 1, v3, v5, T => bd_pl_layDish_22 l1 l2 l4 Kk Q (wp_pl_layDish_22 l1 l2 l4 Kk Q f) v3 v5 T
theorem mb_pl_layDish_22 (l1 : Int32) (l2 : Int32) (l4 : Int32) {Kk Kk2 : Int32 → Int32 → St → Prop} {Q Q2 : St → Prop} {N N2 : Int32 → Int32 → St → Prop} (hK : ∀ (v3 : Int32) (v5 : Int32) (T : St), Kk v3 v5 T → Kk2 v3 v5 T) (hQ : ∀ r, Q r → Q2 r) (hN : ∀ (v3 : Int32) (v5 : Int32) (T : St), N v3 v5 T → N2 v3 v5 T) (v3 : Int32) (v5 : Int32) (T : St) (w : bd_pl_layDish_22 l1 l2 l4 Kk Q N v3 v5 T) : bd_pl_layDish_22 l1 l2 l4 Kk2 Q2 N2 v3 v5 T := by
  unfold bd_pl_layDish_22 at w ⊢
  obtain ⟨q3, w⟩ := w
  refine ⟨q3, ?_⟩
  obtain ⟨q4, w⟩ := w
  refine ⟨q4, ?_⟩
  refine mo_if w (fun c33_2 w => ?_) (fun c33_2 w => ?_)
  · exact hK v3 v5 T w
  · refine mo_pl_layDish_39 l1 l2 l4 v5 (fun w1_3 w1_6 T201 w => ?_) hQ 1000 v3 0 T w
    exact hN w1_3 (v5 + 1) T201 w
theorem mo_pl_layDish_22 (l1 : Int32) (l2 : Int32) (l4 : Int32) {Kk Kk2 : Int32 → Int32 → St → Prop} {Q Q2 : St → Prop} (hK : ∀ (v3 : Int32) (v5 : Int32) (T : St), Kk v3 v5 T → Kk2 v3 v5 T) (hQ : ∀ r, Q r → Q2 r) : ∀ (f : Nat) (v3 : Int32) (v5 : Int32) (T : St), wp_pl_layDish_22 l1 l2 l4 Kk Q f v3 v5 T → wp_pl_layDish_22 l1 l2 l4 Kk2 Q2 f v3 v5 T := by
  intro f
  induction f with
  | zero => intro v3 v5 T w; exact w.elim
  | succ f ih => intro v3 v5 T w; exact mb_pl_layDish_22 l1 l2 l4 hK hQ ih v3 v5 T w
theorem wr_pl_layDish_22 (l1 : Int32) (l2 : Int32) (l4 : Int32) {Kk : Int32 → Int32 → St → Prop} {Q : St → Prop} (I : Int32 → Int32 → St → Prop) (m : Int32 → Int32 → St → Nat) (hv : ∀ (v3 : Int32) (v5 : Int32) (T : St), I v3 v5 T → bd_pl_layDish_22 l1 l2 l4 Kk Q (fun uv3 uv5 uT => I uv3 uv5 uT ∧ m uv3 uv5 uT < m v3 v5 T) v3 v5 T) : ∀ (f : Nat) (v3 : Int32) (v5 : Int32) (T : St), m v3 v5 T < f → I v3 v5 T → wp_pl_layDish_22 l1 l2 l4 Kk Q f v3 v5 T := by
  intro f
  induction f with
  | zero => intro v3 v5 T h; exact absurd h (Nat.not_lt_zero _)
  | succ f ih => intro v3 v5 T h hi; exact mb_pl_layDish_22 l1 l2 l4 (fun _ _ _ h => h) (fun _ h => h) (fun uv3 uv5 uT g => ih uv3 uv5 uT (by omega) g.1) v3 v5 T (hv v3 v5 T hi)
theorem so_pl_layDish_22 (l1 : Int32) (l2 : Int32) (l4 : Int32) {K : Int32 → Int32 → St → St} {Kk Kk2 : Int32 → Int32 → St → Prop} {Q : St → Prop} (hk : ∀ (v3 : Int32) (v5 : Int32) (T : St), Kk v3 v5 T → Kk2 v3 v5 T ∧ Q (K v3 v5 T)) : ∀ (f : Nat) (v3 : Int32) (v5 : Int32) (T : St), wp_pl_layDish_22 l1 l2 l4 Kk Q f v3 v5 T → ok_pl_layDish_22 l1 l2 l4 Kk2 f v3 v5 T ∧ Q (x_pl_layDish_22 l1 l2 l4 K f v3 v5 T) := by
  intro f
  induction f with
  | zero => intro v3 v5 T w; exact w.elim
  | succ f ih =>
    intro v3 v5 T w
    rw [wp_pl_layDish_22, bd_pl_layDish_22] at w
    rw [ok_pl_layDish_22, x_pl_layDish_22]
    obtain ⟨q3, w⟩ := w
    refine so_rq q3 ?_
    obtain ⟨q4, w⟩ := w
    refine so_rq q4 ?_
    refine so_if2 (Q := Q) w (fun c33_2 w => ?_) (fun c33_2 w => ?_)
    · exact hk v3 v5 T w
    · refine so_pl_layDish_39 l1 l2 l4 v5 (fun w1_3 w1_6 T201 w => ?_) 1000 v3 0 T w
      exact ih w1_3 (v5 + 1) T201 w
def bd_pl_layDish_5 (l1 : Int32) (l2 : Int32) (Kk : Int32 → Int32 → St → Prop) (Q : St → Prop) (N : Int32 → Int32 → St → Prop) (v3 : Int32) (v4 : Int32) (T : St) : Prop := (ok_bk_waitBehind T (T.2.1 2) l1 1) ∧ (sh (T.2.1 2) = .inr 1) ∧ ((((x_bk_waitBehind T (T.2.1 2) l1 1) < v4) → Kk v3 v4 T) ∧ (¬ ((x_bk_waitBehind T (T.2.1 2) l1 1) < v4) → wp_pl_layDish_22 l1 l2 v4 (fun w2_3 w2_5 T202 => N w2_3 (v4 + 1) T202) Q 1000 v3 0 T))
def wp_pl_layDish_5 (l1 : Int32) (l2 : Int32) (Kk : Int32 → Int32 → St → Prop) (Q : St → Prop) : Nat → Int32 → Int32 → St → Prop
  | 0, _, _, _ => False
  | f + 1, v3, v4, T => bd_pl_layDish_5 l1 l2 Kk Q (wp_pl_layDish_5 l1 l2 Kk Q f) v3 v4 T
theorem mb_pl_layDish_5 (l1 : Int32) (l2 : Int32) {Kk Kk2 : Int32 → Int32 → St → Prop} {Q Q2 : St → Prop} {N N2 : Int32 → Int32 → St → Prop} (hK : ∀ (v3 : Int32) (v4 : Int32) (T : St), Kk v3 v4 T → Kk2 v3 v4 T) (hQ : ∀ r, Q r → Q2 r) (hN : ∀ (v3 : Int32) (v4 : Int32) (T : St), N v3 v4 T → N2 v3 v4 T) (v3 : Int32) (v4 : Int32) (T : St) (w : bd_pl_layDish_5 l1 l2 Kk Q N v3 v4 T) : bd_pl_layDish_5 l1 l2 Kk2 Q2 N2 v3 v4 T := by
  unfold bd_pl_layDish_5 at w ⊢
  obtain ⟨q1, w⟩ := w
  refine ⟨q1, ?_⟩
  obtain ⟨q2, w⟩ := w
  refine ⟨q2, ?_⟩
  refine mo_if w (fun c16_1 w => ?_) (fun c16_1 w => ?_)
  · exact hK v3 v4 T w
  · refine mo_pl_layDish_22 l1 l2 v4 (fun w2_3 w2_5 T202 w => ?_) hQ 1000 v3 0 T w
    exact hN w2_3 (v4 + 1) T202 w
theorem mo_pl_layDish_5 (l1 : Int32) (l2 : Int32) {Kk Kk2 : Int32 → Int32 → St → Prop} {Q Q2 : St → Prop} (hK : ∀ (v3 : Int32) (v4 : Int32) (T : St), Kk v3 v4 T → Kk2 v3 v4 T) (hQ : ∀ r, Q r → Q2 r) : ∀ (f : Nat) (v3 : Int32) (v4 : Int32) (T : St), wp_pl_layDish_5 l1 l2 Kk Q f v3 v4 T → wp_pl_layDish_5 l1 l2 Kk2 Q2 f v3 v4 T := by
  intro f
  induction f with
  | zero => intro v3 v4 T w; exact w.elim
  | succ f ih => intro v3 v4 T w; exact mb_pl_layDish_5 l1 l2 hK hQ ih v3 v4 T w
theorem wr_pl_layDish_5 (l1 : Int32) (l2 : Int32) {Kk : Int32 → Int32 → St → Prop} {Q : St → Prop} (I : Int32 → Int32 → St → Prop) (m : Int32 → Int32 → St → Nat) (hv : ∀ (v3 : Int32) (v4 : Int32) (T : St), I v3 v4 T → bd_pl_layDish_5 l1 l2 Kk Q (fun uv3 uv4 uT => I uv3 uv4 uT ∧ m uv3 uv4 uT < m v3 v4 T) v3 v4 T) : ∀ (f : Nat) (v3 : Int32) (v4 : Int32) (T : St), m v3 v4 T < f → I v3 v4 T → wp_pl_layDish_5 l1 l2 Kk Q f v3 v4 T := by
  intro f
  induction f with
  | zero => intro v3 v4 T h; exact absurd h (Nat.not_lt_zero _)
  | succ f ih => intro v3 v4 T h hi; exact mb_pl_layDish_5 l1 l2 (fun _ _ _ h => h) (fun _ h => h) (fun uv3 uv4 uT g => ih uv3 uv4 uT (by omega) g.1) v3 v4 T (hv v3 v4 T hi)
theorem so_pl_layDish_5 (l1 : Int32) (l2 : Int32) {K : Int32 → Int32 → St → St} {Kk Kk2 : Int32 → Int32 → St → Prop} {Q : St → Prop} (hk : ∀ (v3 : Int32) (v4 : Int32) (T : St), Kk v3 v4 T → Kk2 v3 v4 T ∧ Q (K v3 v4 T)) : ∀ (f : Nat) (v3 : Int32) (v4 : Int32) (T : St), wp_pl_layDish_5 l1 l2 Kk Q f v3 v4 T → ok_pl_layDish_5 l1 l2 Kk2 f v3 v4 T ∧ Q (x_pl_layDish_5 l1 l2 K f v3 v4 T) := by
  intro f
  induction f with
  | zero => intro v3 v4 T w; exact w.elim
  | succ f ih =>
    intro v3 v4 T w
    rw [wp_pl_layDish_5, bd_pl_layDish_5] at w
    rw [ok_pl_layDish_5, x_pl_layDish_5]
    obtain ⟨q1, w⟩ := w
    refine so_rq q1 ?_
    obtain ⟨q2, w⟩ := w
    refine so_rq q2 ?_
    refine so_if2 (Q := Q) w (fun c16_1 w => ?_) (fun c16_1 w => ?_)
    · exact hk v3 v4 T w
    · refine so_pl_layDish_22 l1 l2 v4 (fun w2_3 w2_5 T202 w => ?_) 1000 v3 0 T w
      exact ih w2_3 (v4 + 1) T202 w
def wp_pl_layDish (T : St) (p0 : Int32) (p1 : Int32) (Q : St → Prop) : Prop := wp_pl_layDish_5 p0 p1 (fun w3_3 w3_4 T203 => (vp_in p0 8) ∧ Q (sA T203 82 (p0 : Int32).toNatClampNeg w3_3)) Q 1000 0 0 T
theorem so_pl_layDish {T : St} (p0 : Int32) (p1 : Int32) {Q : St → Prop} (w : wp_pl_layDish T p0 p1 Q) : ok_pl_layDish T p0 p1 ∧ Q (x_pl_layDish T p0 p1) := by
  unfold wp_pl_layDish at w
  unfold ok_pl_layDish x_pl_layDish
  refine so_pl_layDish_5 p0 p1 (fun w3_3 w3_4 T203 w => ?_) 1000 0 0 T w
  obtain ⟨q12, w⟩ := w
  refine so_rq q12 ?_
  refine ⟨trivial, ?_⟩
  exact w
def bd_rd_readKitchen_8 (l1 : Nat) (Kk : Int32 → St → Prop) (Q : St → Prop) (N : Int32 → St → Prop) (v2 : Int32) (T : St) : Prop := (((7 ≤ v2) → Kk v2 T) ∧ (¬ (7 ≤ v2) → (sh l1 = .inr 1) ∧ (vp_in v2 7) ∧ (ok_rd_takeNumber T (([0, 0, 0, 0, 0, 1, 0] : List Int32).getD (v2 : Int32).toNatClampNeg 0) (([3, 3, 3, 9, 9, 3, 9] : List Int32).getD (v2 : Int32).toNatClampNeg 0)) ∧ jn (fun (T1 : St) => jn (fun (T2 : St) => N (v2 + 1) T2) (sA T1 (l1 + 1) (v2 : Int32).toNatClampNeg ((x_rd_takeNumber T (([0, 0, 0, 0, 0, 1, 0] : List Int32).getD (v2 : Int32).toNatClampNeg 0) (([3, 3, 3, 9, 9, 3, 9] : List Int32).getD (v2 : Int32).toNatClampNeg 0)).1))) ((x_rd_takeNumber T (([0, 0, 0, 0, 0, 1, 0] : List Int32).getD (v2 : Int32).toNatClampNeg 0) (([3, 3, 3, 9, 9, 3, 9] : List Int32).getD (v2 : Int32).toNatClampNeg 0)).2)))
def wp_rd_readKitchen_8 (l1 : Nat) (Kk : Int32 → St → Prop) (Q : St → Prop) : Nat → Int32 → St → Prop
  | 0, _, _ => False
  | f + 1, v2, T => bd_rd_readKitchen_8 l1 Kk Q (wp_rd_readKitchen_8 l1 Kk Q f) v2 T
theorem mb_rd_readKitchen_8 (l1 : Nat) {Kk Kk2 : Int32 → St → Prop} {Q Q2 : St → Prop} {N N2 : Int32 → St → Prop} (hK : ∀ (v2 : Int32) (T : St), Kk v2 T → Kk2 v2 T) (hQ : ∀ r, Q r → Q2 r) (hN : ∀ (v2 : Int32) (T : St), N v2 T → N2 v2 T) (v2 : Int32) (T : St) (w : bd_rd_readKitchen_8 l1 Kk Q N v2 T) : bd_rd_readKitchen_8 l1 Kk2 Q2 N2 v2 T := by
  unfold bd_rd_readKitchen_8 at w ⊢
  refine mo_if w (fun c13_1 w => ?_) (fun c13_1 w => ?_)
  · exact hK v2 T w
  · obtain ⟨q2, w⟩ := w
    refine ⟨q2, ?_⟩
    obtain ⟨q3, w⟩ := w
    refine ⟨q3, ?_⟩
    obtain ⟨q4, w⟩ := w
    refine ⟨q4, ?_⟩
    refine mo_n w (fun T1 w => ?_)
    refine mo_n w (fun T2 w => ?_)
    exact hN (v2 + 1) T2 w
theorem mo_rd_readKitchen_8 (l1 : Nat) {Kk Kk2 : Int32 → St → Prop} {Q Q2 : St → Prop} (hK : ∀ (v2 : Int32) (T : St), Kk v2 T → Kk2 v2 T) (hQ : ∀ r, Q r → Q2 r) : ∀ (f : Nat) (v2 : Int32) (T : St), wp_rd_readKitchen_8 l1 Kk Q f v2 T → wp_rd_readKitchen_8 l1 Kk2 Q2 f v2 T := by
  intro f
  induction f with
  | zero => intro v2 T w; exact w.elim
  | succ f ih => intro v2 T w; exact mb_rd_readKitchen_8 l1 hK hQ ih v2 T w
theorem wr_rd_readKitchen_8 (l1 : Nat) {Kk : Int32 → St → Prop} {Q : St → Prop} (I : Int32 → St → Prop) (m : Int32 → St → Nat) (hv : ∀ (v2 : Int32) (T : St), I v2 T → bd_rd_readKitchen_8 l1 Kk Q (fun uv2 uT => I uv2 uT ∧ m uv2 uT < m v2 T) v2 T) : ∀ (f : Nat) (v2 : Int32) (T : St), m v2 T < f → I v2 T → wp_rd_readKitchen_8 l1 Kk Q f v2 T := by
  intro f
  induction f with
  | zero => intro v2 T h; exact absurd h (Nat.not_lt_zero _)
  | succ f ih => intro v2 T h hi; exact mb_rd_readKitchen_8 l1 (fun _ _ h => h) (fun _ h => h) (fun uv2 uT g => ih uv2 uT (by omega) g.1) v2 T (hv v2 T hi)
theorem so_rd_readKitchen_8 (l1 : Nat) {K : Int32 → St → St} {Kk Kk2 : Int32 → St → Prop} {Q : St → Prop} (hk : ∀ (v2 : Int32) (T : St), Kk v2 T → Kk2 v2 T ∧ Q (K v2 T)) : ∀ (f : Nat) (v2 : Int32) (T : St), wp_rd_readKitchen_8 l1 Kk Q f v2 T → ok_rd_readKitchen_8 l1 Kk2 f v2 T ∧ Q (x_rd_readKitchen_8 l1 K f v2 T) := by
  intro f
  induction f with
  | zero => intro v2 T w; exact w.elim
  | succ f ih =>
    intro v2 T w
    rw [wp_rd_readKitchen_8, bd_rd_readKitchen_8] at w
    rw [ok_rd_readKitchen_8, x_rd_readKitchen_8]
    refine so_if2 (Q := Q) w (fun c13_1 w => ?_) (fun c13_1 w => ?_)
    · exact hk v2 T w
    · obtain ⟨q2, w⟩ := w
      refine so_rq q2 ?_
      obtain ⟨q3, w⟩ := w
      refine so_rq q3 ?_
      obtain ⟨q4, w⟩ := w
      refine so_rq q4 ?_
      refine so_n (Q := Q) w (fun T1 w => ?_)
      refine so_n (Q := Q) w (fun T2 w => ?_)
      exact ih (v2 + 1) T2 w
def wp_rd_readKitchen (T : St) (p0 : Nat) (Q : St → Prop) : Prop := (ok_rd_takeWord T 0) ∧ wp_rd_readKitchen_8 p0 (fun w1_2 T201 => (ok_rd_takeSign T201) ∧ Q (x_rd_takeSign T201)) Q 1000 0 (x_rd_takeWord T 0)
theorem so_rd_readKitchen {T : St} (p0 : Nat) {Q : St → Prop} (w : wp_rd_readKitchen T p0 Q) : ok_rd_readKitchen T p0 ∧ Q (x_rd_readKitchen T p0) := by
  unfold wp_rd_readKitchen at w
  unfold ok_rd_readKitchen x_rd_readKitchen
  obtain ⟨q1, w⟩ := w
  refine so_rq q1 ?_
  refine so_rd_readKitchen_8 p0 (fun w1_2 T201 w => ?_) 1000 0 (x_rd_takeWord T 0) w
  obtain ⟨q5, w⟩ := w
  refine so_rq q5 ?_
  refine ⟨trivial, ?_⟩
  exact w
def wp_rd_readAway (T : St) (p0 : Nat) (Q : St → Prop) : Prop := (sh p0 = .inr 1) ∧ ((((T.1 p0 1) < 4) → (ok_rd_takeWord T 1) ∧ (ok_rd_takeNumber (x_rd_takeWord T 1) 0 59) ∧ jn (fun (i1 : Int32) => (vp_in (((x_rd_takeNumber (x_rd_takeWord T 1) 0 59).2).1 p0 1) 4) ∧ jn (fun (T2 : St) => (ok_rd_takeNumber T2 i1 59) ∧ (vp_in (T2.1 p0 1) 4) ∧ jn (fun (T3 : St) => (ok_rd_takeSign T3) ∧ Q (sF (x_rd_takeSign T3) p0 1 (((x_rd_takeSign T3).1 p0 1) + 1))) (sA ((x_rd_takeNumber T2 i1 59).2) (p0 + 3) (T2.1 p0 1 : Int32).toNatClampNeg ((x_rd_takeNumber T2 i1 59).1))) (sA ((x_rd_takeNumber (x_rd_takeWord T 1) 0 59).2) (p0 + 2) (((x_rd_takeNumber (x_rd_takeWord T 1) 0 59).2).1 p0 1 : Int32).toNatClampNeg i1)) ((x_rd_takeNumber (x_rd_takeWord T 1) 0 59).1)) ∧ (¬ ((T.1 p0 1) < 4) → Q (sF T 13 2 3)))
theorem so_rd_readAway {T : St} (p0 : Nat) {Q : St → Prop} (w : wp_rd_readAway T p0 Q) : ok_rd_readAway T p0 ∧ Q (x_rd_readAway T p0) := by
  unfold wp_rd_readAway at w
  unfold ok_rd_readAway x_rd_readAway
  obtain ⟨q1, w⟩ := w
  refine so_rq q1 ?_
  refine so_ifT (Q := Q) w (fun c5_1 w => ?_) (fun c5_1 w => ?_)
  · obtain ⟨q2, w⟩ := w
    refine so_rq q2 ?_
    obtain ⟨q3, w⟩ := w
    refine so_rq q3 ?_
    refine so_n (Q := Q) w (fun i1 w => ?_)
    obtain ⟨q4, w⟩ := w
    refine so_rq q4 ?_
    refine so_n (Q := Q) w (fun T2 w => ?_)
    obtain ⟨q5, w⟩ := w
    refine so_rq q5 ?_
    obtain ⟨q6, w⟩ := w
    refine so_rq q6 ?_
    refine so_n (Q := Q) w (fun T3 w => ?_)
    obtain ⟨q7, w⟩ := w
    refine so_rq q7 ?_
    refine ⟨trivial, ?_⟩
    exact w
  · exact w
def wp_rd_readStep (T : St) (p0 : Nat) (p1 : Int32) (p2 : Int32) (Q : St → Prop) : Prop := (sh p0 = .inr 1) ∧ (vp_in p1 24) ∧ (ok_rd_takeNumber (sA T (p0 + 9) (p1 : Int32).toNatClampNeg p2) 1 30) ∧ jn (fun (T1 : St) => (ok_rd_takeNumber T1 0 1) ∧ jn (fun (T2 : St) => jn (fun (KJ1 : Prop) => (((p2 = 0) → KJ1) ∧ (¬ (p2 = 0) → (((p2 = 1) → KJ1) ∧ (¬ (p2 = 1) → jn (fun (KJ3 : Int32 → Prop) => (((p2 = 2) → KJ3 2) ∧ (¬ (p2 = 2) → KJ3 0))) (fun (j3_s2 : Int32) => jn (fun (KJ4 : Int32 → Prop) => (((p2 = 4) → KJ4 1) ∧ (¬ (p2 = 4) → KJ4 0))) (fun (j4_s0 : Int32) => jn (fun (KJ5 : Int32 → St → Prop) => (((j4_s0 = 0) → KJ5 (-1000000) (sA T2 (p0 + 12) (p1 : Int32).toNatClampNeg j3_s2)) ∧ (¬ (j4_s0 = 0) → (((p2 = 0) → (ok_rd_takeNumber (sA T2 (p0 + 12) (p1 : Int32).toNatClampNeg j3_s2) 0 1) ∧ KJ5 ((x_rd_takeNumber (sA T2 (p0 + 12) (p1 : Int32).toNatClampNeg j3_s2) 0 1).1) ((x_rd_takeNumber (sA T2 (p0 + 12) (p1 : Int32).toNatClampNeg j3_s2) 0 1).2)) ∧ (¬ (p2 = 0) → (ok_rd_takeNumber (sA T2 (p0 + 12) (p1 : Int32).toNatClampNeg j3_s2) 0 9) ∧ KJ5 ((x_rd_takeNumber (sA T2 (p0 + 12) (p1 : Int32).toNatClampNeg j3_s2) 0 9).1) ((x_rd_takeNumber (sA T2 (p0 + 12) (p1 : Int32).toNatClampNeg j3_s2) 0 9).2)))))) (fun (j5_s0 : Int32) (T305 : St) => (((p2 = 1) → (ok_rd_takeNumber (sA T305 (p0 + 13) (p1 : Int32).toNatClampNeg j5_s0) j5_s0 9) ∧ jn (fun (T25 : St) => (ok_rd_takeSign T25) ∧ Q (x_rd_takeSign T25)) (sA ((x_rd_takeNumber (sA T305 (p0 + 13) (p1 : Int32).toNatClampNeg j5_s0) j5_s0 9).2) (p0 + 14) (p1 : Int32).toNatClampNeg ((x_rd_takeNumber (sA T305 (p0 + 13) (p1 : Int32).toNatClampNeg j5_s0) j5_s0 9).1))) ∧ (¬ (p2 = 1) → jn (fun (T24 : St) => (ok_rd_takeSign T24) ∧ Q (x_rd_takeSign T24)) (sA (sA T305 (p0 + 13) (p1 : Int32).toNatClampNeg j5_s0) (p0 + 14) (p1 : Int32).toNatClampNeg (-1000000)))))))))))) ((ok_rd_takeNumber T2 0 2) ∧ jn (fun (T19 : St) => jn (fun (KJ2 : Int32 → Prop) => (((p2 = 0) → KJ2 1) ∧ (¬ (p2 = 0) → KJ2 9))) (fun (j2_s2 : Int32) => (ok_rd_takeNumber T19 0 j2_s2) ∧ jn (fun (i20 : Int32) => (((p2 = 1) → (ok_rd_takeNumber (sA ((x_rd_takeNumber T19 0 j2_s2).2) (p0 + 13) (p1 : Int32).toNatClampNeg i20) i20 9) ∧ jn (fun (T22 : St) => jn (fun (T23 : St) => (ok_rd_takeSign T23) ∧ Q (x_rd_takeSign T23)) (sA T22 (p0 + 14) (p1 : Int32).toNatClampNeg ((x_rd_takeNumber (sA ((x_rd_takeNumber T19 0 j2_s2).2) (p0 + 13) (p1 : Int32).toNatClampNeg i20) i20 9).1))) ((x_rd_takeNumber (sA ((x_rd_takeNumber T19 0 j2_s2).2) (p0 + 13) (p1 : Int32).toNatClampNeg i20) i20 9).2)) ∧ (¬ (p2 = 1) → jn (fun (T21 : St) => (ok_rd_takeSign T21) ∧ Q (x_rd_takeSign T21)) (sA (sA ((x_rd_takeNumber T19 0 j2_s2).2) (p0 + 13) (p1 : Int32).toNatClampNeg i20) (p0 + 14) (p1 : Int32).toNatClampNeg (-1000000))))) ((x_rd_takeNumber T19 0 j2_s2).1))) (sA ((x_rd_takeNumber T2 0 2).2) (p0 + 12) (p1 : Int32).toNatClampNeg ((x_rd_takeNumber T2 0 2).1)))) (sA ((x_rd_takeNumber T1 0 1).2) (p0 + 11) (p1 : Int32).toNatClampNeg ((x_rd_takeNumber T1 0 1).1))) (sA ((x_rd_takeNumber (sA T (p0 + 9) (p1 : Int32).toNatClampNeg p2) 1 30).2) (p0 + 10) (p1 : Int32).toNatClampNeg ((x_rd_takeNumber (sA T (p0 + 9) (p1 : Int32).toNatClampNeg p2) 1 30).1))
theorem so_rd_readStep {T : St} (p0 : Nat) (p1 : Int32) (p2 : Int32) {Q : St → Prop} (w : wp_rd_readStep T p0 p1 p2 Q) : ok_rd_readStep T p0 p1 p2 ∧ Q (x_rd_readStep T p0 p1 p2) := by
  unfold wp_rd_readStep at w
  unfold ok_rd_readStep x_rd_readStep
  obtain ⟨q1, w⟩ := w
  refine so_rq q1 ?_
  obtain ⟨q2, w⟩ := w
  refine so_rq q2 ?_
  obtain ⟨q3, w⟩ := w
  refine so_rq q3 ?_
  refine so_n (Q := Q) w (fun T1 w => ?_)
  obtain ⟨q4, w⟩ := w
  refine so_rq q4 ?_
  refine so_n (Q := Q) w (fun T2 w => ?_)
  refine so_jn (Q := Q) (J := fun (KJ1 : St) (OJ1 : Prop) (WKJ1 : Prop) => WKJ1 → OJ1 ∧ Q (KJ1)) w (fun  w => ?_) (fun KJ1 OJ1 WKJ1 hJ1 w => ?_)
  · skip
    obtain ⟨q27, w⟩ := w
    refine so_rq q27 ?_
    refine so_n (Q := Q) w (fun T19 w => ?_)
    refine so_jn (Q := Q) (J := fun (KJ2 : Int32 → St) (OJ2 : Int32 → Prop) (WKJ2 : Int32 → Prop) => ∀ (j2_s2 : Int32), WKJ2 j2_s2 → OJ2 j2_s2 ∧ Q (KJ2 j2_s2)) w (fun j2_s2 w => ?_) (fun KJ2 OJ2 WKJ2 hJ2 w => ?_)
    · skip
      obtain ⟨q28, w⟩ := w
      refine so_rq q28 ?_
      refine so_n (Q := Q) w (fun i20 w => ?_)
      refine so_if2 (Q := Q) w (fun c137_15 w => ?_) (fun c137_15 w => ?_)
      · obtain ⟨q30, w⟩ := w
        refine so_rq q30 ?_
        refine so_n (Q := Q) w (fun T22 w => ?_)
        refine so_n (Q := Q) w (fun T23 w => ?_)
        obtain ⟨q31, w⟩ := w
        refine so_rq q31 ?_
        refine ⟨trivial, ?_⟩
        exact w
      · refine so_n (Q := Q) w (fun T21 w => ?_)
        obtain ⟨q29, w⟩ := w
        refine so_rq q29 ?_
        refine ⟨trivial, ?_⟩
        exact w
    · skip
      refine so_if2 (Q := Q) w (fun c103_16 w => ?_) (fun c103_16 w => ?_)
      · exact hJ2 1 w
      · exact hJ2 9 w
  · skip
    refine so_if2 (Q := Q) w (fun c33_17 w => ?_) (fun c33_17 w => ?_)
    · exact hJ1  w
    · refine so_if2 (Q := Q) w (fun c38_18 w => ?_) (fun c38_18 w => ?_)
      · exact hJ1  w
      · refine so_jn (Q := Q) (J := fun (KJ3 : Int32 → St) (OJ3 : Int32 → Prop) (WKJ3 : Int32 → Prop) => ∀ (j3_s2 : Int32), WKJ3 j3_s2 → OJ3 j3_s2 ∧ Q (KJ3 j3_s2)) w (fun j3_s2 w => ?_) (fun KJ3 OJ3 WKJ3 hJ3 w => ?_)
        · skip
          refine so_jn (Q := Q) (J := fun (KJ4 : Int32 → St) (OJ4 : Int32 → Prop) (WKJ4 : Int32 → Prop) => ∀ (j4_s0 : Int32), WKJ4 j4_s0 → OJ4 j4_s0 ∧ Q (KJ4 j4_s0)) w (fun j4_s0 w => ?_) (fun KJ4 OJ4 WKJ4 hJ4 w => ?_)
          · skip
            refine so_jn (Q := Q) (J := fun (KJ5 : Int32 → St → St) (OJ5 : Int32 → St → Prop) (WKJ5 : Int32 → St → Prop) => ∀ (j5_s0 : Int32) (T305 : St), WKJ5 j5_s0 T305 → OJ5 j5_s0 T305 ∧ Q (KJ5 j5_s0 T305)) w (fun j5_s0 T305 w => ?_) (fun KJ5 OJ5 WKJ5 hJ5 w => ?_)
            · skip
              refine so_if2 (Q := Q) w (fun c137_23 w => ?_) (fun c137_23 w => ?_)
              · obtain ⟨q35, w⟩ := w
                refine so_rq q35 ?_
                refine so_n (Q := Q) w (fun T25 w => ?_)
                obtain ⟨q36, w⟩ := w
                refine so_rq q36 ?_
                refine ⟨trivial, ?_⟩
                exact w
              · refine so_n (Q := Q) w (fun T24 w => ?_)
                obtain ⟨q34, w⟩ := w
                refine so_rq q34 ?_
                refine ⟨trivial, ?_⟩
                exact w
            · skip
              refine so_if2 (Q := Q) w (fun c97_24 w => ?_) (fun c97_24 w => ?_)
              · exact hJ5 (-1000000) (sA T2 (p0 + 12) (p1 : Int32).toNatClampNeg j3_s2) w
              · refine so_if2 (Q := Q) w (fun c103_25 w => ?_) (fun c103_25 w => ?_)
                · obtain ⟨q38, w⟩ := w
                  refine so_rq q38 ?_
                  exact hJ5 ((x_rd_takeNumber (sA T2 (p0 + 12) (p1 : Int32).toNatClampNeg j3_s2) 0 1).1) ((x_rd_takeNumber (sA T2 (p0 + 12) (p1 : Int32).toNatClampNeg j3_s2) 0 1).2) w
                · obtain ⟨q37, w⟩ := w
                  refine so_rq q37 ?_
                  exact hJ5 ((x_rd_takeNumber (sA T2 (p0 + 12) (p1 : Int32).toNatClampNeg j3_s2) 0 9).1) ((x_rd_takeNumber (sA T2 (p0 + 12) (p1 : Int32).toNatClampNeg j3_s2) 0 9).2) w
          · skip
            refine so_if2 (Q := Q) w (fun c85_26 w => ?_) (fun c85_26 w => ?_)
            · exact hJ4 1 w
            · exact hJ4 0 w
        · skip
          refine so_if2 (Q := Q) w (fun c69_27 w => ?_) (fun c69_27 w => ?_)
          · exact hJ3 2 w
          · exact hJ3 0 w
