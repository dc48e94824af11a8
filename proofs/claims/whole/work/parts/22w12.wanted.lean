def bd_x_slack_63 (l1 : Int32) (l2 : Int32) (l3 : Int32) (Kk : Int32 → St → Prop) (Q : Int32 × St → Prop) (N : Int32 → St → Prop) (v4 : Int32) (T : St) : Prop := (((60 ≤ v4) → Kk v4 T) ∧ (¬ (60 ≤ v4) → (vp_in l2 12) ∧ (ok_jd_judged (sA T 569 (l2 : Int32).toNatClampNeg ((T.2.2.1 569 (l2 : Int32).toNatClampNeg) + 1)) ((sA T 569 (l2 : Int32).toNatClampNeg ((T.2.2.1 569 (l2 : Int32).toNatClampNeg) + 1)).2.1 0) 76 564 l1) ∧ jn (fun (T1 : St) => (((((x_jd_judged (sA T 569 (l2 : Int32).toNatClampNeg ((T.2.2.1 569 (l2 : Int32).toNatClampNeg) + 1)) ((sA T 569 (l2 : Int32).toNatClampNeg ((T.2.2.1 569 (l2 : Int32).toNatClampNeg) + 1)).2.1 0) 76 564 l1).1) = 0) → N (v4 + 1) T1) ∧ (¬ (((x_jd_judged (sA T 569 (l2 : Int32).toNatClampNeg ((T.2.2.1 569 (l2 : Int32).toNatClampNeg) + 1)) ((sA T 569 (l2 : Int32).toNatClampNeg ((T.2.2.1 569 (l2 : Int32).toNatClampNeg) + 1)).2.1 0) 76 564 l1).1) = 0) → Q (v4, T1)))) ((x_jd_judged (sA T 569 (l2 : Int32).toNatClampNeg ((T.2.2.1 569 (l2 : Int32).toNatClampNeg) + 1)) ((sA T 569 (l2 : Int32).toNatClampNeg ((T.2.2.1 569 (l2 : Int32).toNatClampNeg) + 1)).2.1 0) 76 564 l1).2)))
def wp_x_slack_63 (l1 : Int32) (l2 : Int32) (l3 : Int32) (Kk : Int32 → St → Prop) (Q : Int32 × St → Prop) : Nat → Int32 → St → Prop
  | 0, _, _ => False
  | f + 1, v4, T => bd_x_slack_63 l1 l2 l3 Kk Q (wp_x_slack_63 l1 l2 l3 Kk Q f) v4 T
theorem mb_x_slack_63 (l1 : Int32) (l2 : Int32) (l3 : Int32) {Kk Kk2 : Int32 → St → Prop} {Q Q2 : Int32 × St → Prop} {N N2 : Int32 → St → Prop} (hK : ∀ (v4 : Int32) (T : St), Kk v4 T → Kk2 v4 T) (hQ : ∀ r, Q r → Q2 r) (hN : ∀ (v4 : Int32) (T : St), N v4 T → N2 v4 T) (v4 : Int32) (T : St) (w : bd_x_slack_63 l1 l2 l3 Kk Q N v4 T) : bd_x_slack_63 l1 l2 l3 Kk2 Q2 N2 v4 T := by
  unfold bd_x_slack_63 at w ⊢
  refine mo_if w (fun c67_6 w => ?_) (fun c67_6 w => ?_)
  · exact hK v4 T w
  · obtain ⟨q4, w⟩ := w
    refine ⟨q4, ?_⟩
    obtain ⟨q5, w⟩ := w
    refine ⟨q5, ?_⟩
    refine mo_n w (fun T1 w => ?_)
    refine mo_if w (fun c103_7 w => ?_) (fun c103_7 w => ?_)
    · exact hN (v4 + 1) T1 w
    · exact hQ _ w
theorem mo_x_slack_63 (l1 : Int32) (l2 : Int32) (l3 : Int32) {Kk Kk2 : Int32 → St → Prop} {Q Q2 : Int32 × St → Prop} (hK : ∀ (v4 : Int32) (T : St), Kk v4 T → Kk2 v4 T) (hQ : ∀ r, Q r → Q2 r) : ∀ (f : Nat) (v4 : Int32) (T : St), wp_x_slack_63 l1 l2 l3 Kk Q f v4 T → wp_x_slack_63 l1 l2 l3 Kk2 Q2 f v4 T := by
  intro f
  induction f with
  | zero => intro v4 T w; exact w.elim
  | succ f ih => intro v4 T w; exact mb_x_slack_63 l1 l2 l3 hK hQ ih v4 T w
theorem wr_x_slack_63 (l1 : Int32) (l2 : Int32) (l3 : Int32) {Kk : Int32 → St → Prop} {Q : Int32 × St → Prop} (I : Int32 → St → Prop) (m : Int32 → St → Nat) (hv : ∀ (v4 : Int32) (T : St), I v4 T → bd_x_slack_63 l1 l2 l3 Kk Q (fun uv4 uT => I uv4 uT ∧ m uv4 uT < m v4 T) v4 T) : ∀ (f : Nat) (v4 : Int32) (T : St), m v4 T < f → I v4 T → wp_x_slack_63 l1 l2 l3 Kk Q f v4 T := by
  intro f
  induction f with
  | zero => intro v4 T h; exact absurd h (Nat.not_lt_zero _)
  | succ f ih => intro v4 T h hi; exact mb_x_slack_63 l1 l2 l3 (fun _ _ h => h) (fun _ h => h) (fun uv4 uT g => ih uv4 uT (by omega) g.1) v4 T (hv v4 T hi)
theorem so_x_slack_63 (l1 : Int32) (l2 : Int32) (l3 : Int32) {K : Int32 → St → Int32 × St} {Kk Kk2 : Int32 → St → Prop} {Q : Int32 × St → Prop} (hk : ∀ (v4 : Int32) (T : St), Kk v4 T → Kk2 v4 T ∧ Q (K v4 T)) : ∀ (f : Nat) (v4 : Int32) (T : St), wp_x_slack_63 l1 l2 l3 Kk Q f v4 T → ok_x_slack_63 l1 l2 l3 Kk2 f v4 T ∧ Q (x_x_slack_63 l1 l2 l3 K f v4 T) := by
  intro f
  induction f with
  | zero => intro v4 T w; exact w.elim
  | succ f ih =>
    intro v4 T w
    rw [wp_x_slack_63, bd_x_slack_63] at w
    rw [ok_x_slack_63, x_x_slack_63]
    refine so_if2 (Q := Q) w (fun c67_6 w => ?_) (fun c67_6 w => ?_)
    · exact hk v4 T w
    · obtain ⟨q4, w⟩ := w
      refine so_rq q4 ?_
      obtain ⟨q5, w⟩ := w
      refine so_rq q5 ?_
      refine so_n (Q := Q) w (fun T1 w => ?_)
      refine so_ifT (Q := Q) w (fun c103_7 w => ?_) (fun c103_7 w => ?_)
      · exact ih (v4 + 1) T1 w
      · exact w
def wp_x_slack (T : St) (p0 : Int32) (p1 : Int32) (Q : Int32 × St → Prop) : Prop := jn (fun (KJ1 : Prop) => ((((x_x_isTime T p0) = 0) → KJ1) ∧ (¬ ((x_x_isTime T p0) = 0) → (((p1 < 0) → KJ1) ∧ (¬ (p1 < 0) → (ok_x_refusal T 1) ∧ ((((x_x_refusal T 1) = 0) → (ok_x_findsPlan T p0) ∧ (((((x_x_findsPlan T p0).1) = 0) → Q ((-1000000), (x_x_findsPlan T p0).2)) ∧ (¬ (((x_x_findsPlan T p0).1) = 0) → (((p1 < (((x_x_findsPlan T p0).2).1 557 1)) → (ok_ro_take ((x_x_findsPlan T p0).2) 564 557) ∧ wp_x_slack_63 p0 p1 (x_x_refusal T 1) (fun w3_4 T203 => Q (60, T203)) Q 1000 0 (x_ro_take ((x_x_findsPlan T p0).2) 564 557)) ∧ (¬ (p1 < (((x_x_findsPlan T p0).2).1 557 1)) → Q ((-1000000), (x_x_findsPlan T p0).2)))))) ∧ (¬ ((x_x_refusal T 1) = 0) → Q (x_x_refusal T 1, T)))))))) ((ok_x_refusal T 0) ∧ ((((x_x_refusal T 0) = 0) → (ok_x_findsPlan T p0) ∧ (((((x_x_findsPlan T p0).1) = 0) → Q ((-1000000), (x_x_findsPlan T p0).2)) ∧ (¬ (((x_x_findsPlan T p0).1) = 0) → (((p1 < (((x_x_findsPlan T p0).2).1 557 1)) → (ok_ro_take ((x_x_findsPlan T p0).2) 564 557) ∧ wp_x_slack_63 p0 p1 (x_x_refusal T 0) (fun w2_4 T202 => Q (60, T202)) Q 1000 0 (x_ro_take ((x_x_findsPlan T p0).2) 564 557)) ∧ (¬ (p1 < (((x_x_findsPlan T p0).2).1 557 1)) → Q ((-1000000), (x_x_findsPlan T p0).2)))))) ∧ (¬ ((x_x_refusal T 0) = 0) → Q (x_x_refusal T 0, T))))
theorem so_x_slack {T : St} (p0 : Int32) (p1 : Int32) {Q : Int32 × St → Prop} (w : wp_x_slack T p0 p1 Q) : ok_x_slack T p0 p1 ∧ Q (x_x_slack T p0 p1) := by
  unfold wp_x_slack at w
  unfold ok_x_slack x_x_slack
  refine so_jn (Q := Q) (J := fun (KJ1 : Int32 × St) (OJ1 : Prop) (WKJ1 : Prop) => WKJ1 → OJ1 ∧ Q (KJ1)) w (fun  w => ?_) (fun KJ1 OJ1 WKJ1 hJ1 w => ?_)
  · skip
    obtain ⟨q6, w⟩ := w
    refine so_rq q6 ?_
    refine so_ifT (Q := Q) w (fun c22_8 w => ?_) (fun c22_8 w => ?_)
    · obtain ⟨q7, w⟩ := w
      refine so_rq q7 ?_
      refine so_ifF (Q := Q) w (fun c32_9 w => ?_) (fun c32_9 w => ?_)
      · exact w
      · refine so_ifT (Q := Q) w (fun c43_10 w => ?_) (fun c43_10 w => ?_)
        · obtain ⟨q8, w⟩ := w
          refine so_rq q8 ?_
          refine so_x_slack_63 p0 p1 (x_x_refusal T 0) (fun w2_4 T202 w => ?_) 1000 0 (x_ro_take ((x_x_findsPlan T p0).2) 564 557) w
          refine ⟨trivial, ?_⟩
          exact w
        · exact w
    · exact w
  · skip
    refine so_if2 (Q := Q) w (fun c5_11 w => ?_) (fun c5_11 w => ?_)
    · exact hJ1  w
    · refine so_if2 (Q := Q) w (fun c9_12 w => ?_) (fun c9_12 w => ?_)
      · exact hJ1  w
      · obtain ⟨q9, w⟩ := w
        refine so_rq q9 ?_
        refine so_ifT (Q := Q) w (fun c22_13 w => ?_) (fun c22_13 w => ?_)
        · obtain ⟨q10, w⟩ := w
          refine so_rq q10 ?_
          refine so_ifF (Q := Q) w (fun c32_14 w => ?_) (fun c32_14 w => ?_)
          · exact w
          · refine so_ifT (Q := Q) w (fun c43_15 w => ?_) (fun c43_15 w => ?_)
            · obtain ⟨q11, w⟩ := w
              refine so_rq q11 ?_
              refine so_x_slack_63 p0 p1 (x_x_refusal T 1) (fun w3_4 T203 w => ?_) 1000 0 (x_ro_take ((x_x_findsPlan T p0).2) 564 557) w
              refine ⟨trivial, ?_⟩
              exact w
            · exact w
        · exact w
def wp_x_bears (T : St) (p0 : Int32) (p1 : Int32) (p2 : Int32) (Q : Int32 × St → Prop) : Prop := jn (fun (KJ1 : Prop) => ((((x_x_isTime T p0) = 0) → KJ1) ∧ (¬ ((x_x_isTime T p0) = 0) → (((p1 < 0) → KJ1) ∧ (¬ (p1 < 0) → (((p2 < 1) → KJ1) ∧ (¬ (p2 < 1) → (((9 < p2) → KJ1) ∧ (¬ (9 < p2) → (ok_x_refusal T 1) ∧ ((((x_x_refusal T 1) = 0) → (ok_x_findsPlan T p0) ∧ (((((x_x_findsPlan T p0).1) = 0) → Q ((-1000000), (x_x_findsPlan T p0).2)) ∧ (¬ (((x_x_findsPlan T p0).1) = 0) → (((p1 < (((x_x_findsPlan T p0).2).1 557 1)) → (ok_ro_take ((x_x_findsPlan T p0).2) 564 557) ∧ (vp_in p1 12) ∧ jn (fun (T3 : St) => (ok_jd_judged T3 (T3.2.1 0) 76 564 p0) ∧ (((((x_jd_judged T3 (T3.2.1 0) 76 564 p0).1) = 0) → Q (1, (x_jd_judged T3 (T3.2.1 0) 76 564 p0).2)) ∧ (¬ (((x_jd_judged T3 (T3.2.1 0) 76 564 p0).1) = 0) → Q (0, (x_jd_judged T3 (T3.2.1 0) 76 564 p0).2)))) (sA (x_ro_take ((x_x_findsPlan T p0).2) 564 557) 570 (p1 : Int32).toNatClampNeg (((x_ro_take ((x_x_findsPlan T p0).2) 564 557).2.2.1 570 (p1 : Int32).toNatClampNeg) + p2))) ∧ (¬ (p1 < (((x_x_findsPlan T p0).2).1 557 1)) → Q ((-1000000), (x_x_findsPlan T p0).2)))))) ∧ (¬ ((x_x_refusal T 1) = 0) → Q (x_x_refusal T 1, T)))))))))))) ((ok_x_refusal T 0) ∧ ((((x_x_refusal T 0) = 0) → (ok_x_findsPlan T p0) ∧ (((((x_x_findsPlan T p0).1) = 0) → Q ((-1000000), (x_x_findsPlan T p0).2)) ∧ (¬ (((x_x_findsPlan T p0).1) = 0) → (((p1 < (((x_x_findsPlan T p0).2).1 557 1)) → (ok_ro_take ((x_x_findsPlan T p0).2) 564 557) ∧ (vp_in p1 12) ∧ jn (fun (T2 : St) => (ok_jd_judged T2 (T2.2.1 0) 76 564 p0) ∧ (((((x_jd_judged T2 (T2.2.1 0) 76 564 p0).1) = 0) → Q (1, (x_jd_judged T2 (T2.2.1 0) 76 564 p0).2)) ∧ (¬ (((x_jd_judged T2 (T2.2.1 0) 76 564 p0).1) = 0) → Q (0, (x_jd_judged T2 (T2.2.1 0) 76 564 p0).2)))) (sA (x_ro_take ((x_x_findsPlan T p0).2) 564 557) 570 (p1 : Int32).toNatClampNeg (((x_ro_take ((x_x_findsPlan T p0).2) 564 557).2.2.1 570 (p1 : Int32).toNatClampNeg) + p2))) ∧ (¬ (p1 < (((x_x_findsPlan T p0).2).1 557 1)) → Q ((-1000000), (x_x_findsPlan T p0).2)))))) ∧ (¬ ((x_x_refusal T 0) = 0) → Q (x_x_refusal T 0, T))))
theorem so_x_bears {T : St} (p0 : Int32) (p1 : Int32) (p2 : Int32) {Q : Int32 × St → Prop} (w : wp_x_bears T p0 p1 p2 Q) : ok_x_bears T p0 p1 p2 ∧ Q (x_x_bears T p0 p1 p2) := by
  unfold wp_x_bears at w
  unfold ok_x_bears x_x_bears
  refine so_jn (Q := Q) (J := fun (KJ1 : Int32 × St) (OJ1 : Prop) (WKJ1 : Prop) => WKJ1 → OJ1 ∧ Q (KJ1)) w (fun  w => ?_) (fun KJ1 OJ1 WKJ1 hJ1 w => ?_)
  · skip
    obtain ⟨q6, w⟩ := w
    refine so_rq q6 ?_
    refine so_ifT (Q := Q) w (fun c35_9 w => ?_) (fun c35_9 w => ?_)
    · obtain ⟨q7, w⟩ := w
      refine so_rq q7 ?_
      refine so_ifF (Q := Q) w (fun c46_10 w => ?_) (fun c46_10 w => ?_)
      · exact w
      · refine so_ifT (Q := Q) w (fun c57_11 w => ?_) (fun c57_11 w => ?_)
        · obtain ⟨q8, w⟩ := w
          refine so_rq q8 ?_
          obtain ⟨q9, w⟩ := w
          refine so_rq q9 ?_
          refine so_n (Q := Q) w (fun T2 w => ?_)
          obtain ⟨q10, w⟩ := w
          refine so_rq q10 ?_
          refine ⟨trivial, ?_⟩
          refine so_if0 (Q := Q) w (fun c107_12 w => ?_) (fun c107_12 w => ?_)
          · exact w
          · exact w
        · exact w
    · exact w
  · skip
    refine so_if2 (Q := Q) w (fun c5_13 w => ?_) (fun c5_13 w => ?_)
    · exact hJ1  w
    · refine so_if2 (Q := Q) w (fun c9_14 w => ?_) (fun c9_14 w => ?_)
      · exact hJ1  w
      · refine so_if2 (Q := Q) w (fun c14_15 w => ?_) (fun c14_15 w => ?_)
        · exact hJ1  w
        · refine so_if2 (Q := Q) w (fun c20_16 w => ?_) (fun c20_16 w => ?_)
          · exact hJ1  w
          · obtain ⟨q11, w⟩ := w
            refine so_rq q11 ?_
            refine so_ifT (Q := Q) w (fun c35_17 w => ?_) (fun c35_17 w => ?_)
            · obtain ⟨q12, w⟩ := w
              refine so_rq q12 ?_
              refine so_ifF (Q := Q) w (fun c46_18 w => ?_) (fun c46_18 w => ?_)
              · exact w
              · refine so_ifT (Q := Q) w (fun c57_19 w => ?_) (fun c57_19 w => ?_)
                · obtain ⟨q13, w⟩ := w
                  refine so_rq q13 ?_
                  obtain ⟨q14, w⟩ := w
                  refine so_rq q14 ?_
                  refine so_n (Q := Q) w (fun T3 w => ?_)
                  obtain ⟨q15, w⟩ := w
                  refine so_rq q15 ?_
                  refine ⟨trivial, ?_⟩
                  refine so_if0 (Q := Q) w (fun c107_20 w => ?_) (fun c107_20 w => ?_)
                  · exact w
                  · exact w
                · exact w
            · exact w
def bd_x_mind_52 (l1 : Int32) (l2 : Int32) (l3 : Int32) (Kk : Int32 → Int32 → Int32 → St → Prop) (Q : Int32 × St → Prop) (N : Int32 → Int32 → Int32 → St → Prop) (v4 : Int32) (v5 : Int32) (v6 : Int32) (T : St) : Prop := ((((T.1 557 1) ≤ v6) → Kk v4 v5 v6 T) ∧ (¬ ((T.1 557 1) ≤ v6) → (vp_in v6 12) ∧ ((((T.2.2.1 562 (v6 : Int32).toNatClampNeg) < l2) → N v4 v5 (v6 + 1) T) ∧ (¬ ((T.2.2.1 562 (v6 : Int32).toNatClampNeg) < l2) → (((v5 ≤ (T.2.2.1 562 (v6 : Int32).toNatClampNeg)) → N v4 v5 (v6 + 1) T) ∧ (¬ (v5 ≤ (T.2.2.1 562 (v6 : Int32).toNatClampNeg)) → jn (fun (i1 : Int32) => N v6 i1 (v6 + 1) T) (T.2.2.1 562 (v6 : Int32).toNatClampNeg)))))))
def wp_x_mind_52 (l1 : Int32) (l2 : Int32) (l3 : Int32) (Kk : Int32 → Int32 → Int32 → St → Prop) (Q : Int32 × St → Prop) : Nat → Int32 → Int32 → Int32 → St → Prop
  | 0, _, _, _, _ => False
  | f + 1, v4, v5, v6, T => bd_x_mind_52 l1 l2 l3 Kk Q (wp_x_mind_52 l1 l2 l3 Kk Q f) v4 v5 v6 T
theorem mb_x_mind_52 (l1 : Int32) (l2 : Int32) (l3 : Int32) {Kk Kk2 : Int32 → Int32 → Int32 → St → Prop} {Q Q2 : Int32 × St → Prop} {N N2 : Int32 → Int32 → Int32 → St → Prop} (hK : ∀ (v4 : Int32) (v5 : Int32) (v6 : Int32) (T : St), Kk v4 v5 v6 T → Kk2 v4 v5 v6 T) (hQ : ∀ r, Q r → Q2 r) (hN : ∀ (v4 : Int32) (v5 : Int32) (v6 : Int32) (T : St), N v4 v5 v6 T → N2 v4 v5 v6 T) (v4 : Int32) (v5 : Int32) (v6 : Int32) (T : St) (w : bd_x_mind_52 l1 l2 l3 Kk Q N v4 v5 v6 T) : bd_x_mind_52 l1 l2 l3 Kk2 Q2 N2 v4 v5 v6 T := by
  unfold bd_x_mind_52 at w ⊢
  refine mo_if w (fun c61_5 w => ?_) (fun c61_5 w => ?_)
  · exact hK v4 v5 v6 T w
  · obtain ⟨q3, w⟩ := w
    refine ⟨q3, ?_⟩
    refine mo_if w (fun c75_6 w => ?_) (fun c75_6 w => ?_)
    · exact hN v4 v5 (v6 + 1) T w
    · refine mo_if w (fun c90_7 w => ?_) (fun c90_7 w => ?_)
      · exact hN v4 v5 (v6 + 1) T w
      · refine mo_n w (fun i1 w => ?_)
        exact hN v6 i1 (v6 + 1) T w
theorem mo_x_mind_52 (l1 : Int32) (l2 : Int32) (l3 : Int32) {Kk Kk2 : Int32 → Int32 → Int32 → St → Prop} {Q Q2 : Int32 × St → Prop} (hK : ∀ (v4 : Int32) (v5 : Int32) (v6 : Int32) (T : St), Kk v4 v5 v6 T → Kk2 v4 v5 v6 T) (hQ : ∀ r, Q r → Q2 r) : ∀ (f : Nat) (v4 : Int32) (v5 : Int32) (v6 : Int32) (T : St), wp_x_mind_52 l1 l2 l3 Kk Q f v4 v5 v6 T → wp_x_mind_52 l1 l2 l3 Kk2 Q2 f v4 v5 v6 T := by
  intro f
  induction f with
  | zero => intro v4 v5 v6 T w; exact w.elim
  | succ f ih => intro v4 v5 v6 T w; exact mb_x_mind_52 l1 l2 l3 hK hQ ih v4 v5 v6 T w
theorem wr_x_mind_52 (l1 : Int32) (l2 : Int32) (l3 : Int32) {Kk : Int32 → Int32 → Int32 → St → Prop} {Q : Int32 × St → Prop} (I : Int32 → Int32 → Int32 → St → Prop) (m : Int32 → Int32 → Int32 → St → Nat) (hv : ∀ (v4 : Int32) (v5 : Int32) (v6 : Int32) (T : St), I v4 v5 v6 T → bd_x_mind_52 l1 l2 l3 Kk Q (fun uv4 uv5 uv6 uT => I uv4 uv5 uv6 uT ∧ m uv4 uv5 uv6 uT < m v4 v5 v6 T) v4 v5 v6 T) : ∀ (f : Nat) (v4 : Int32) (v5 : Int32) (v6 : Int32) (T : St), m v4 v5 v6 T < f → I v4 v5 v6 T → wp_x_mind_52 l1 l2 l3 Kk Q f v4 v5 v6 T := by
  intro f
  induction f with
  | zero => intro v4 v5 v6 T h; exact absurd h (Nat.not_lt_zero _)
  | succ f ih => intro v4 v5 v6 T h hi; exact mb_x_mind_52 l1 l2 l3 (fun _ _ _ _ h => h) (fun _ h => h) (fun uv4 uv5 uv6 uT g => ih uv4 uv5 uv6 uT (by omega) g.1) v4 v5 v6 T (hv v4 v5 v6 T hi)
theorem so_x_mind_52 (l1 : Int32) (l2 : Int32) (l3 : Int32) {K : Int32 → Int32 → Int32 → St → Int32 × St} {Kk Kk2 : Int32 → Int32 → Int32 → St → Prop} {Q : Int32 × St → Prop} (hk : ∀ (v4 : Int32) (v5 : Int32) (v6 : Int32) (T : St), Kk v4 v5 v6 T → Kk2 v4 v5 v6 T ∧ Q (K v4 v5 v6 T)) : ∀ (f : Nat) (v4 : Int32) (v5 : Int32) (v6 : Int32) (T : St), wp_x_mind_52 l1 l2 l3 Kk Q f v4 v5 v6 T → ok_x_mind_52 l1 l2 l3 Kk2 f v4 v5 v6 T ∧ Q (x_x_mind_52 l1 l2 l3 K f v4 v5 v6 T) := by
  intro f
  induction f with
  | zero => intro v4 v5 v6 T w; exact w.elim
  | succ f ih =>
    intro v4 v5 v6 T w
    rw [wp_x_mind_52, bd_x_mind_52] at w
    rw [ok_x_mind_52, x_x_mind_52]
    refine so_if2 (Q := Q) w (fun c61_5 w => ?_) (fun c61_5 w => ?_)
    · exact hk v4 v5 v6 T w
    · obtain ⟨q3, w⟩ := w
      refine so_rq q3 ?_
      refine so_if2 (Q := Q) w (fun c75_6 w => ?_) (fun c75_6 w => ?_)
      · exact ih v4 v5 (v6 + 1) T w
      · refine so_if2 (Q := Q) w (fun c90_7 w => ?_) (fun c90_7 w => ?_)
        · exact ih v4 v5 (v6 + 1) T w
        · refine so_n (Q := Q) w (fun i1 w => ?_)
          exact ih v6 i1 (v6 + 1) T w
def wp_x_mind (T : St) (p0 : Int32) (p1 : Int32) (Q : Int32 × St → Prop) : Prop := jn (fun (KJ1 : Prop) => ((((x_x_isTime T p0) = 0) → KJ1) ∧ (¬ ((x_x_isTime T p0) = 0) → ((((x_x_isMinute T p1) = 0) → KJ1) ∧ (¬ ((x_x_isMinute T p1) = 0) → (ok_x_refusal T 1) ∧ ((((x_x_refusal T 1) = 0) → (ok_x_findsPlan T p0) ∧ (((((x_x_findsPlan T p0).1) = 0) → Q ((-1000000), (x_x_findsPlan T p0).2)) ∧ (¬ (((x_x_findsPlan T p0).1) = 0) → wp_x_mind_52 p0 p1 (x_x_refusal T 1) (fun w3_4 w3_5 w3_6 T203 => Q (w3_4, T203)) Q 1000 (-1000000) 60 0 ((x_x_findsPlan T p0).2)))) ∧ (¬ ((x_x_refusal T 1) = 0) → Q (x_x_refusal T 1, T)))))))) ((ok_x_refusal T 0) ∧ ((((x_x_refusal T 0) = 0) → (ok_x_findsPlan T p0) ∧ (((((x_x_findsPlan T p0).1) = 0) → Q ((-1000000), (x_x_findsPlan T p0).2)) ∧ (¬ (((x_x_findsPlan T p0).1) = 0) → wp_x_mind_52 p0 p1 (x_x_refusal T 0) (fun w2_4 w2_5 w2_6 T202 => Q (w2_4, T202)) Q 1000 (-1000000) 60 0 ((x_x_findsPlan T p0).2)))) ∧ (¬ ((x_x_refusal T 0) = 0) → Q (x_x_refusal T 0, T))))
theorem so_x_mind {T : St} (p0 : Int32) (p1 : Int32) {Q : Int32 × St → Prop} (w : wp_x_mind T p0 p1 Q) : ok_x_mind T p0 p1 ∧ Q (x_x_mind T p0 p1) := by
  unfold wp_x_mind at w
  unfold ok_x_mind x_x_mind
  refine so_jn (Q := Q) (J := fun (KJ1 : Int32 × St) (OJ1 : Prop) (WKJ1 : Prop) => WKJ1 → OJ1 ∧ Q (KJ1)) w (fun  w => ?_) (fun KJ1 OJ1 WKJ1 hJ1 w => ?_)
  · skip
    obtain ⟨q4, w⟩ := w
    refine so_rq q4 ?_
    refine so_ifT (Q := Q) w (fun c25_8 w => ?_) (fun c25_8 w => ?_)
    · obtain ⟨q5, w⟩ := w
      refine so_rq q5 ?_
      refine so_ifF (Q := Q) w (fun c35_9 w => ?_) (fun c35_9 w => ?_)
      · exact w
      · refine so_x_mind_52 p0 p1 (x_x_refusal T 0) (fun w2_4 w2_5 w2_6 T202 w => ?_) 1000 (-1000000) 60 0 ((x_x_findsPlan T p0).2) w
        refine ⟨trivial, ?_⟩
        exact w
    · exact w
  · skip
    refine so_if2 (Q := Q) w (fun c5_10 w => ?_) (fun c5_10 w => ?_)
    · exact hJ1  w
    · refine so_if2 (Q := Q) w (fun c12_11 w => ?_) (fun c12_11 w => ?_)
      · exact hJ1  w
      · obtain ⟨q6, w⟩ := w
        refine so_rq q6 ?_
        refine so_ifT (Q := Q) w (fun c25_12 w => ?_) (fun c25_12 w => ?_)
        · obtain ⟨q7, w⟩ := w
          refine so_rq q7 ?_
          refine so_ifF (Q := Q) w (fun c35_13 w => ?_) (fun c35_13 w => ?_)
          · exact w
          · refine so_x_mind_52 p0 p1 (x_x_refusal T 1) (fun w3_4 w3_5 w3_6 T203 w => ?_) 1000 (-1000000) 60 0 ((x_x_findsPlan T p0).2) w
            refine ⟨trivial, ?_⟩
            exact w
        · exact w
