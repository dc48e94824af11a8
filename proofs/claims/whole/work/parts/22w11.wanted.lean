def bd_pl_seek3_27 (l1 : Int32) (l2 : Int32) (l3 : Int32) (Kk : Int32 → St → Prop) (Q : St → Prop) (N : Int32 → St → Prop) (v4 : Int32) (T : St) : Prop := (vp_in l1 4) ∧ (vp_in (T.2.2.1 94 (l1 : Int32).toNatClampNeg) 8) ∧ ((((T.2.2.1 82 (T.2.2.1 94 (l1 : Int32).toNatClampNeg : Int32).toNatClampNeg) ≤ v4) → Kk v4 T) ∧ (¬ ((T.2.2.1 82 (T.2.2.1 94 (l1 : Int32).toNatClampNeg : Int32).toNatClampNeg) ≤ v4) → (vp_in l1 5) ∧ ((((((T.2.2.1 (100 + (l1 : Int32).toNatClampNeg) (l1 : Int32).toNatClampNeg) >>> (v4 &&& 31)) &&& 1) = 0) → N (v4 + 1) T) ∧ (¬ ((((T.2.2.1 (100 + (l1 : Int32).toNatClampNeg) (l1 : Int32).toNatClampNeg) >>> (v4 &&& 31)) &&& 1) = 0) → (vp_in (l3 + v4) 96) ∧ jn (fun (r2 : Nat) => (sh r2 = .inr 10) ∧ (vp_in (l1 + 1) 5) ∧ ((((T.1 80 13) ≤ ((l2 + (T.1 r2 5)) + (T.2.2.1 97 (l1 + 1 : Int32).toNatClampNeg))) → N (v4 + 1) T) ∧ (¬ ((T.1 80 13) ≤ ((l2 + (T.1 r2 5)) + (T.2.2.1 97 (l1 + 1 : Int32).toNatClampNeg))) → (ok_ta_hasRoom T (507 + 5 * (l1 : Int32).toNatClampNeg) (r2 + 3)) ∧ ((((x_ta_hasRoom T (507 + 5 * (l1 : Int32).toNatClampNeg) (r2 + 3)) = 0) → N (v4 + 1) T) ∧ (¬ ((x_ta_hasRoom T (507 + 5 * (l1 : Int32).toNatClampNeg) (r2 + 3)) = 0) → (ok_pl_leavesOpen T l1 (l3 + v4)) ∧ (((((x_pl_leavesOpen T l1 (l3 + v4)).1) = 0) → N (v4 + 1) ((x_pl_leavesOpen T l1 (l3 + v4)).2)) ∧ (¬ (((x_pl_leavesOpen T l1 (l3 + v4)).1) = 0) → jn (fun (KJ1 : St → Prop) => (((((sA ((x_pl_leavesOpen T l1 (l3 + v4)).2) 95 (l1 : Int32).toNatClampNeg (l3 + v4)).1 80 12) ≤ (l1 + 1)) → KJ1 (sA ((x_pl_leavesOpen T l1 (l3 + v4)).2) 95 (l1 : Int32).toNatClampNeg (l3 + v4))) ∧ (¬ (((sA ((x_pl_leavesOpen T l1 (l3 + v4)).2) 95 (l1 : Int32).toNatClampNeg (l3 + v4)).1 80 12) ≤ (l1 + 1)) → (vp_in (l1 + 1) 4) ∧ (ok_ta_add (sA ((x_pl_leavesOpen T l1 (l3 + v4)).2) 95 (l1 : Int32).toNatClampNeg (l3 + v4)) (507 + 5 * (l1 + 1 : Int32).toNatClampNeg) (507 + 5 * (l1 : Int32).toNatClampNeg) (r2 + 3) ((sA ((x_pl_leavesOpen T l1 (l3 + v4)).2) 95 (l1 : Int32).toNatClampNeg (l3 + v4)).2.1 3)) ∧ jn (fun (T4 : St) => KJ1 T4) (x_ta_add (sA ((x_pl_leavesOpen T l1 (l3 + v4)).2) 95 (l1 : Int32).toNatClampNeg (l3 + v4)) (507 + 5 * (l1 + 1 : Int32).toNatClampNeg) (507 + 5 * (l1 : Int32).toNatClampNeg) (r2 + 3) ((sA ((x_pl_leavesOpen T l1 (l3 + v4)).2) 95 (l1 : Int32).toNatClampNeg (l3 + v4)).2.1 3))))) (fun (T301 : St) => (ok_pl_seek2 T301 (l1 + 1) (l2 + (T301.1 r2 5))) ∧ N (v4 + 1) (x_pl_seek2 T301 (l1 + 1) (l2 + (T301.1 r2 5))))))))))) (123 + 4 * (l3 + v4 : Int32).toNatClampNeg)))))
def wp_pl_seek3_27 (l1 : Int32) (l2 : Int32) (l3 : Int32) (Kk : Int32 → St → Prop) (Q : St → Prop) : Nat → Int32 → St → Prop
  | 0, _, _ => False
  | f + 1, v4, T => bd_pl_seek3_27 l1 l2 l3 Kk Q (wp_pl_seek3_27 l1 l2 l3 Kk Q f) v4 T
theorem mb_pl_seek3_27 (l1 : Int32) (l2 : Int32) (l3 : Int32) {Kk Kk2 : Int32 → St → Prop} {Q Q2 : St → Prop} {N N2 : Int32 → St → Prop} (hK : ∀ (v4 : Int32) (T : St), Kk v4 T → Kk2 v4 T) (hQ : ∀ r, Q r → Q2 r) (hN : ∀ (v4 : Int32) (T : St), N v4 T → N2 v4 T) (v4 : Int32) (T : St) (w : bd_pl_seek3_27 l1 l2 l3 Kk Q N v4 T) : bd_pl_seek3_27 l1 l2 l3 Kk2 Q2 N2 v4 T := by
  unfold bd_pl_seek3_27 at w ⊢
  obtain ⟨q2, w⟩ := w
  refine ⟨q2, ?_⟩
  obtain ⟨q3, w⟩ := w
  refine ⟨q3, ?_⟩
  refine mo_if w (fun c40_2 w => ?_) (fun c40_2 w => ?_)
  · exact hK v4 T w
  · obtain ⟨q4, w⟩ := w
    refine ⟨q4, ?_⟩
    refine mo_if w (fun c56_3 w => ?_) (fun c56_3 w => ?_)
    · exact hN (v4 + 1) T w
    · obtain ⟨q5, w⟩ := w
      refine ⟨q5, ?_⟩
      refine mo_n w (fun r2 w => ?_)
      obtain ⟨q6, w⟩ := w
      refine ⟨q6, ?_⟩
      obtain ⟨q7, w⟩ := w
      refine ⟨q7, ?_⟩
      refine mo_if w (fun c93_4 w => ?_) (fun c93_4 w => ?_)
      · exact hN (v4 + 1) T w
      · obtain ⟨q8, w⟩ := w
        refine ⟨q8, ?_⟩
        refine mo_if w (fun c110_5 w => ?_) (fun c110_5 w => ?_)
        · exact hN (v4 + 1) T w
        · obtain ⟨q9, w⟩ := w
          refine ⟨q9, ?_⟩
          refine mo_if w (fun c122_6 w => ?_) (fun c122_6 w => ?_)
          · exact hN (v4 + 1) ((x_pl_leavesOpen T l1 (l3 + v4)).2) w
          · refine mo_jn (J := fun (KJ1 : St → Prop) (WKJ1 : St → Prop) => ∀ (T301 : St), KJ1 T301 → WKJ1 T301) w (fun T301 w => ?_) (fun KJ1 WKJ1 hJ1 w => ?_)
            · skip
              obtain ⟨q12, w⟩ := w
              refine ⟨q12, ?_⟩
              exact hN (v4 + 1) (x_pl_seek2 T301 (l1 + 1) (l2 + (T301.1 r2 5))) w
            · skip
              refine mo_if w (fun c142_8 w => ?_) (fun c142_8 w => ?_)
              · exact hJ1 (sA ((x_pl_leavesOpen T l1 (l3 + v4)).2) 95 (l1 : Int32).toNatClampNeg (l3 + v4)) w
              · obtain ⟨q13, w⟩ := w
                refine ⟨q13, ?_⟩
                obtain ⟨q14, w⟩ := w
                refine ⟨q14, ?_⟩
                refine mo_n w (fun T4 w => ?_)
                exact hJ1 T4 w
theorem mo_pl_seek3_27 (l1 : Int32) (l2 : Int32) (l3 : Int32) {Kk Kk2 : Int32 → St → Prop} {Q Q2 : St → Prop} (hK : ∀ (v4 : Int32) (T : St), Kk v4 T → Kk2 v4 T) (hQ : ∀ r, Q r → Q2 r) : ∀ (f : Nat) (v4 : Int32) (T : St), wp_pl_seek3_27 l1 l2 l3 Kk Q f v4 T → wp_pl_seek3_27 l1 l2 l3 Kk2 Q2 f v4 T := by
  intro f
  induction f with
  | zero => intro v4 T w; exact w.elim
  | succ f ih => intro v4 T w; exact mb_pl_seek3_27 l1 l2 l3 hK hQ ih v4 T w
theorem wr_pl_seek3_27 (l1 : Int32) (l2 : Int32) (l3 : Int32) {Kk : Int32 → St → Prop} {Q : St → Prop} (I : Int32 → St → Prop) (m : Int32 → St → Nat) (hv : ∀ (v4 : Int32) (T : St), I v4 T → bd_pl_seek3_27 l1 l2 l3 Kk Q (fun uv4 uT => I uv4 uT ∧ m uv4 uT < m v4 T) v4 T) : ∀ (f : Nat) (v4 : Int32) (T : St), m v4 T < f → I v4 T → wp_pl_seek3_27 l1 l2 l3 Kk Q f v4 T := by
  intro f
  induction f with
  | zero => intro v4 T h; exact absurd h (Nat.not_lt_zero _)
  | succ f ih => intro v4 T h hi; exact mb_pl_seek3_27 l1 l2 l3 (fun _ _ h => h) (fun _ h => h) (fun uv4 uT g => ih uv4 uT (by omega) g.1) v4 T (hv v4 T hi)
theorem so_pl_seek3_27 (l1 : Int32) (l2 : Int32) (l3 : Int32) {K : Int32 → St → St} {Kk Kk2 : Int32 → St → Prop} {Q : St → Prop} (hk : ∀ (v4 : Int32) (T : St), Kk v4 T → Kk2 v4 T ∧ Q (K v4 T)) : ∀ (f : Nat) (v4 : Int32) (T : St), wp_pl_seek3_27 l1 l2 l3 Kk Q f v4 T → ok_pl_seek3_27 l1 l2 l3 Kk2 f v4 T ∧ Q (x_pl_seek3_27 l1 l2 l3 K f v4 T) := by
  intro f
  induction f with
  | zero => intro v4 T w; exact w.elim
  | succ f ih =>
    intro v4 T w
    rw [wp_pl_seek3_27, bd_pl_seek3_27] at w
    rw [ok_pl_seek3_27, x_pl_seek3_27]
    obtain ⟨q2, w⟩ := w
    refine so_rq q2 ?_
    obtain ⟨q3, w⟩ := w
    refine so_rq q3 ?_
    refine so_if2 (Q := Q) w (fun c40_2 w => ?_) (fun c40_2 w => ?_)
    · exact hk v4 T w
    · obtain ⟨q4, w⟩ := w
      refine so_rq q4 ?_
      refine so_if2 (Q := Q) w (fun c56_3 w => ?_) (fun c56_3 w => ?_)
      · exact ih (v4 + 1) T w
      · obtain ⟨q5, w⟩ := w
        refine so_rq q5 ?_
        refine so_n (Q := Q) w (fun r2 w => ?_)
        obtain ⟨q6, w⟩ := w
        refine so_rq q6 ?_
        obtain ⟨q7, w⟩ := w
        refine so_rq q7 ?_
        refine so_if2 (Q := Q) w (fun c93_4 w => ?_) (fun c93_4 w => ?_)
        · exact ih (v4 + 1) T w
        · obtain ⟨q8, w⟩ := w
          refine so_rq q8 ?_
          refine so_if2 (Q := Q) w (fun c110_5 w => ?_) (fun c110_5 w => ?_)
          · exact ih (v4 + 1) T w
          · obtain ⟨q9, w⟩ := w
            refine so_rq q9 ?_
            refine so_if2 (Q := Q) w (fun c122_6 w => ?_) (fun c122_6 w => ?_)
            · exact ih (v4 + 1) ((x_pl_leavesOpen T l1 (l3 + v4)).2) w
            · refine so_jn (Q := Q) (J := fun (KJ1 : St → St) (OJ1 : St → Prop) (WKJ1 : St → Prop) => ∀ (T301 : St), WKJ1 T301 → OJ1 T301 ∧ Q (KJ1 T301)) w (fun T301 w => ?_) (fun KJ1 OJ1 WKJ1 hJ1 w => ?_)
              · skip
                obtain ⟨q12, w⟩ := w
                refine so_rq q12 ?_
                exact ih (v4 + 1) (x_pl_seek2 T301 (l1 + 1) (l2 + (T301.1 r2 5))) w
              · skip
                refine so_if2 (Q := Q) w (fun c142_8 w => ?_) (fun c142_8 w => ?_)
                · exact hJ1 (sA ((x_pl_leavesOpen T l1 (l3 + v4)).2) 95 (l1 : Int32).toNatClampNeg (l3 + v4)) w
                · obtain ⟨q13, w⟩ := w
                  refine so_rq q13 ?_
                  obtain ⟨q14, w⟩ := w
                  refine so_rq q14 ?_
                  refine so_n (Q := Q) w (fun T4 w => ?_)
                  exact hJ1 T4 w
def wp_pl_seek3 (T : St) (p0 : Int32) (p1 : Int32) (Q : St → Prop) : Prop := (((p0 < (T.1 80 12)) → (vp_in p0 4) ∧ jn (fun (i1 : Int32) => wp_pl_seek3_27 p0 p1 i1 (fun w1_4 T201 => Q T201) Q 1000 0 T) ((T.2.2.1 94 (p0 : Int32).toNatClampNeg) * 12)) ∧ (¬ (p0 < (T.1 80 12)) → (ok_pl_keepPicked T p1) ∧ Q (x_pl_keepPicked T p1)))
theorem so_pl_seek3 {T : St} (p0 : Int32) (p1 : Int32) {Q : St → Prop} (w : wp_pl_seek3 T p0 p1 Q) : ok_pl_seek3 T p0 p1 ∧ Q (x_pl_seek3 T p0 p1) := by
  unfold wp_pl_seek3 at w
  unfold ok_pl_seek3 x_pl_seek3
  refine so_if2 (Q := Q) w (fun c5_1 w => ?_) (fun c5_1 w => ?_)
  · obtain ⟨q1, w⟩ := w
    refine so_rq q1 ?_
    refine so_n (Q := Q) w (fun i1 w => ?_)
    refine so_pl_seek3_27 p0 p1 i1 (fun w1_4 T201 w => ?_) 1000 0 T w
    refine ⟨trivial, ?_⟩
    exact w
  · obtain ⟨q15, w⟩ := w
    refine so_rq q15 ?_
    refine ⟨trivial, ?_⟩
    exact w
def bd_pl_seek4_27 (l1 : Int32) (l2 : Int32) (l3 : Int32) (Kk : Int32 → St → Prop) (Q : St → Prop) (N : Int32 → St → Prop) (v4 : Int32) (T : St) : Prop := (vp_in l1 4) ∧ (vp_in (T.2.2.1 94 (l1 : Int32).toNatClampNeg) 8) ∧ ((((T.2.2.1 82 (T.2.2.1 94 (l1 : Int32).toNatClampNeg : Int32).toNatClampNeg) ≤ v4) → Kk v4 T) ∧ (¬ ((T.2.2.1 82 (T.2.2.1 94 (l1 : Int32).toNatClampNeg : Int32).toNatClampNeg) ≤ v4) → (vp_in l1 5) ∧ ((((((T.2.2.1 (100 + (l1 : Int32).toNatClampNeg) (l1 : Int32).toNatClampNeg) >>> (v4 &&& 31)) &&& 1) = 0) → N (v4 + 1) T) ∧ (¬ ((((T.2.2.1 (100 + (l1 : Int32).toNatClampNeg) (l1 : Int32).toNatClampNeg) >>> (v4 &&& 31)) &&& 1) = 0) → (vp_in (l3 + v4) 96) ∧ jn (fun (r2 : Nat) => (sh r2 = .inr 10) ∧ (vp_in (l1 + 1) 5) ∧ ((((T.1 80 13) ≤ ((l2 + (T.1 r2 5)) + (T.2.2.1 97 (l1 + 1 : Int32).toNatClampNeg))) → N (v4 + 1) T) ∧ (¬ ((T.1 80 13) ≤ ((l2 + (T.1 r2 5)) + (T.2.2.1 97 (l1 + 1 : Int32).toNatClampNeg))) → (ok_ta_hasRoom T (507 + 5 * (l1 : Int32).toNatClampNeg) (r2 + 3)) ∧ ((((x_ta_hasRoom T (507 + 5 * (l1 : Int32).toNatClampNeg) (r2 + 3)) = 0) → N (v4 + 1) T) ∧ (¬ ((x_ta_hasRoom T (507 + 5 * (l1 : Int32).toNatClampNeg) (r2 + 3)) = 0) → (ok_pl_leavesOpen T l1 (l3 + v4)) ∧ (((((x_pl_leavesOpen T l1 (l3 + v4)).1) = 0) → N (v4 + 1) ((x_pl_leavesOpen T l1 (l3 + v4)).2)) ∧ (¬ (((x_pl_leavesOpen T l1 (l3 + v4)).1) = 0) → jn (fun (KJ1 : St → Prop) => (((((sA ((x_pl_leavesOpen T l1 (l3 + v4)).2) 95 (l1 : Int32).toNatClampNeg (l3 + v4)).1 80 12) ≤ (l1 + 1)) → KJ1 (sA ((x_pl_leavesOpen T l1 (l3 + v4)).2) 95 (l1 : Int32).toNatClampNeg (l3 + v4))) ∧ (¬ (((sA ((x_pl_leavesOpen T l1 (l3 + v4)).2) 95 (l1 : Int32).toNatClampNeg (l3 + v4)).1 80 12) ≤ (l1 + 1)) → (vp_in (l1 + 1) 4) ∧ (ok_ta_add (sA ((x_pl_leavesOpen T l1 (l3 + v4)).2) 95 (l1 : Int32).toNatClampNeg (l3 + v4)) (507 + 5 * (l1 + 1 : Int32).toNatClampNeg) (507 + 5 * (l1 : Int32).toNatClampNeg) (r2 + 3) ((sA ((x_pl_leavesOpen T l1 (l3 + v4)).2) 95 (l1 : Int32).toNatClampNeg (l3 + v4)).2.1 3)) ∧ jn (fun (T4 : St) => KJ1 T4) (x_ta_add (sA ((x_pl_leavesOpen T l1 (l3 + v4)).2) 95 (l1 : Int32).toNatClampNeg (l3 + v4)) (507 + 5 * (l1 + 1 : Int32).toNatClampNeg) (507 + 5 * (l1 : Int32).toNatClampNeg) (r2 + 3) ((sA ((x_pl_leavesOpen T l1 (l3 + v4)).2) 95 (l1 : Int32).toNatClampNeg (l3 + v4)).2.1 3))))) (fun (T301 : St) => (ok_pl_seek3 T301 (l1 + 1) (l2 + (T301.1 r2 5))) ∧ N (v4 + 1) (x_pl_seek3 T301 (l1 + 1) (l2 + (T301.1 r2 5))))))))))) (123 + 4 * (l3 + v4 : Int32).toNatClampNeg)))))
def wp_pl_seek4_27 (l1 : Int32) (l2 : Int32) (l3 : Int32) (Kk : Int32 → St → Prop) (Q : St → Prop) : Nat → Int32 → St → Prop
  | 0, _, _ => False
  | f + 1, v4, T => bd_pl_seek4_27 l1 l2 l3 Kk Q (wp_pl_seek4_27 l1 l2 l3 Kk Q f) v4 T
theorem mb_pl_seek4_27 (l1 : Int32) (l2 : Int32) (l3 : Int32) {Kk Kk2 : Int32 → St → Prop} {Q Q2 : St → Prop} {N N2 : Int32 → St → Prop} (hK : ∀ (v4 : Int32) (T : St), Kk v4 T → Kk2 v4 T) (hQ : ∀ r, Q r → Q2 r) (hN : ∀ (v4 : Int32) (T : St), N v4 T → N2 v4 T) (v4 : Int32) (T : St) (w : bd_pl_seek4_27 l1 l2 l3 Kk Q N v4 T) : bd_pl_seek4_27 l1 l2 l3 Kk2 Q2 N2 v4 T := by
  unfold bd_pl_seek4_27 at w ⊢
  obtain ⟨q2, w⟩ := w
  refine ⟨q2, ?_⟩
  obtain ⟨q3, w⟩ := w
  refine ⟨q3, ?_⟩
  refine mo_if w (fun c40_2 w => ?_) (fun c40_2 w => ?_)
  · exact hK v4 T w
  · obtain ⟨q4, w⟩ := w
    refine ⟨q4, ?_⟩
    refine mo_if w (fun c56_3 w => ?_) (fun c56_3 w => ?_)
    · exact hN (v4 + 1) T w
    · obtain ⟨q5, w⟩ := w
      refine ⟨q5, ?_⟩
      refine mo_n w (fun r2 w => ?_)
      obtain ⟨q6, w⟩ := w
      refine ⟨q6, ?_⟩
      obtain ⟨q7, w⟩ := w
      refine ⟨q7, ?_⟩
      refine mo_if w (fun c93_4 w => ?_) (fun c93_4 w => ?_)
      · exact hN (v4 + 1) T w
      · obtain ⟨q8, w⟩ := w
        refine ⟨q8, ?_⟩
        refine mo_if w (fun c110_5 w => ?_) (fun c110_5 w => ?_)
        · exact hN (v4 + 1) T w
        · obtain ⟨q9, w⟩ := w
          refine ⟨q9, ?_⟩
          refine mo_if w (fun c122_6 w => ?_) (fun c122_6 w => ?_)
          · exact hN (v4 + 1) ((x_pl_leavesOpen T l1 (l3 + v4)).2) w
          · refine mo_jn (J := fun (KJ1 : St → Prop) (WKJ1 : St → Prop) => ∀ (T301 : St), KJ1 T301 → WKJ1 T301) w (fun T301 w => ?_) (fun KJ1 WKJ1 hJ1 w => ?_)
            · skip
              obtain ⟨q12, w⟩ := w
              refine ⟨q12, ?_⟩
              exact hN (v4 + 1) (x_pl_seek3 T301 (l1 + 1) (l2 + (T301.1 r2 5))) w
            · skip
              refine mo_if w (fun c142_8 w => ?_) (fun c142_8 w => ?_)
              · exact hJ1 (sA ((x_pl_leavesOpen T l1 (l3 + v4)).2) 95 (l1 : Int32).toNatClampNeg (l3 + v4)) w
              · obtain ⟨q13, w⟩ := w
                refine ⟨q13, ?_⟩
                obtain ⟨q14, w⟩ := w
                refine ⟨q14, ?_⟩
                refine mo_n w (fun T4 w => ?_)
                exact hJ1 T4 w
theorem mo_pl_seek4_27 (l1 : Int32) (l2 : Int32) (l3 : Int32) {Kk Kk2 : Int32 → St → Prop} {Q Q2 : St → Prop} (hK : ∀ (v4 : Int32) (T : St), Kk v4 T → Kk2 v4 T) (hQ : ∀ r, Q r → Q2 r) : ∀ (f : Nat) (v4 : Int32) (T : St), wp_pl_seek4_27 l1 l2 l3 Kk Q f v4 T → wp_pl_seek4_27 l1 l2 l3 Kk2 Q2 f v4 T := by
  intro f
  induction f with
  | zero => intro v4 T w; exact w.elim
  | succ f ih => intro v4 T w; exact mb_pl_seek4_27 l1 l2 l3 hK hQ ih v4 T w
theorem wr_pl_seek4_27 (l1 : Int32) (l2 : Int32) (l3 : Int32) {Kk : Int32 → St → Prop} {Q : St → Prop} (I : Int32 → St → Prop) (m : Int32 → St → Nat) (hv : ∀ (v4 : Int32) (T : St), I v4 T → bd_pl_seek4_27 l1 l2 l3 Kk Q (fun uv4 uT => I uv4 uT ∧ m uv4 uT < m v4 T) v4 T) : ∀ (f : Nat) (v4 : Int32) (T : St), m v4 T < f → I v4 T → wp_pl_seek4_27 l1 l2 l3 Kk Q f v4 T := by
  intro f
  induction f with
  | zero => intro v4 T h; exact absurd h (Nat.not_lt_zero _)
  | succ f ih => intro v4 T h hi; exact mb_pl_seek4_27 l1 l2 l3 (fun _ _ h => h) (fun _ h => h) (fun uv4 uT g => ih uv4 uT (by omega) g.1) v4 T (hv v4 T hi)
theorem so_pl_seek4_27 (l1 : Int32) (l2 : Int32) (l3 : Int32) {K : Int32 → St → St} {Kk Kk2 : Int32 → St → Prop} {Q : St → Prop} (hk : ∀ (v4 : Int32) (T : St), Kk v4 T → Kk2 v4 T ∧ Q (K v4 T)) : ∀ (f : Nat) (v4 : Int32) (T : St), wp_pl_seek4_27 l1 l2 l3 Kk Q f v4 T → ok_pl_seek4_27 l1 l2 l3 Kk2 f v4 T ∧ Q (x_pl_seek4_27 l1 l2 l3 K f v4 T) := by
  intro f
  induction f with
  | zero => intro v4 T w; exact w.elim
  | succ f ih =>
    intro v4 T w
    rw [wp_pl_seek4_27, bd_pl_seek4_27] at w
    rw [ok_pl_seek4_27, x_pl_seek4_27]
    obtain ⟨q2, w⟩ := w
    refine so_rq q2 ?_
    obtain ⟨q3, w⟩ := w
    refine so_rq q3 ?_
    refine so_if2 (Q := Q) w (fun c40_2 w => ?_) (fun c40_2 w => ?_)
    · exact hk v4 T w
    · obtain ⟨q4, w⟩ := w
      refine so_rq q4 ?_
      refine so_if2 (Q := Q) w (fun c56_3 w => ?_) (fun c56_3 w => ?_)
      · exact ih (v4 + 1) T w
      · obtain ⟨q5, w⟩ := w
        refine so_rq q5 ?_
        refine so_n (Q := Q) w (fun r2 w => ?_)
        obtain ⟨q6, w⟩ := w
        refine so_rq q6 ?_
        obtain ⟨q7, w⟩ := w
        refine so_rq q7 ?_
        refine so_if2 (Q := Q) w (fun c93_4 w => ?_) (fun c93_4 w => ?_)
        · exact ih (v4 + 1) T w
        · obtain ⟨q8, w⟩ := w
          refine so_rq q8 ?_
          refine so_if2 (Q := Q) w (fun c110_5 w => ?_) (fun c110_5 w => ?_)
          · exact ih (v4 + 1) T w
          · obtain ⟨q9, w⟩ := w
            refine so_rq q9 ?_
            refine so_if2 (Q := Q) w (fun c122_6 w => ?_) (fun c122_6 w => ?_)
            · exact ih (v4 + 1) ((x_pl_leavesOpen T l1 (l3 + v4)).2) w
            · refine so_jn (Q := Q) (J := fun (KJ1 : St → St) (OJ1 : St → Prop) (WKJ1 : St → Prop) => ∀ (T301 : St), WKJ1 T301 → OJ1 T301 ∧ Q (KJ1 T301)) w (fun T301 w => ?_) (fun KJ1 OJ1 WKJ1 hJ1 w => ?_)
              · skip
                obtain ⟨q12, w⟩ := w
                refine so_rq q12 ?_
                exact ih (v4 + 1) (x_pl_seek3 T301 (l1 + 1) (l2 + (T301.1 r2 5))) w
              · skip
                refine so_if2 (Q := Q) w (fun c142_8 w => ?_) (fun c142_8 w => ?_)
                · exact hJ1 (sA ((x_pl_leavesOpen T l1 (l3 + v4)).2) 95 (l1 : Int32).toNatClampNeg (l3 + v4)) w
                · obtain ⟨q13, w⟩ := w
                  refine so_rq q13 ?_
                  obtain ⟨q14, w⟩ := w
                  refine so_rq q14 ?_
                  refine so_n (Q := Q) w (fun T4 w => ?_)
                  exact hJ1 T4 w
def wp_pl_seek4 (T : St) (p0 : Int32) (p1 : Int32) (Q : St → Prop) : Prop := (((p0 < (T.1 80 12)) → (vp_in p0 4) ∧ jn (fun (i1 : Int32) => wp_pl_seek4_27 p0 p1 i1 (fun w1_4 T201 => Q T201) Q 1000 0 T) ((T.2.2.1 94 (p0 : Int32).toNatClampNeg) * 12)) ∧ (¬ (p0 < (T.1 80 12)) → (ok_pl_keepPicked T p1) ∧ Q (x_pl_keepPicked T p1)))
theorem so_pl_seek4 {T : St} (p0 : Int32) (p1 : Int32) {Q : St → Prop} (w : wp_pl_seek4 T p0 p1 Q) : ok_pl_seek4 T p0 p1 ∧ Q (x_pl_seek4 T p0 p1) := by
  unfold wp_pl_seek4 at w
  unfold ok_pl_seek4 x_pl_seek4
  refine so_if2 (Q := Q) w (fun c5_1 w => ?_) (fun c5_1 w => ?_)
  · obtain ⟨q1, w⟩ := w
    refine so_rq q1 ?_
    refine so_n (Q := Q) w (fun i1 w => ?_)
    refine so_pl_seek4_27 p0 p1 i1 (fun w1_4 T201 w => ?_) 1000 0 T w
    refine ⟨trivial, ?_⟩
    exact w
  · obtain ⟨q15, w⟩ := w
    refine so_rq q15 ?_
    refine ⟨trivial, ?_⟩
    exact w
def wp_ask_answer (T : St) (p0 : Nat) (p1 : Int32) (p2 : Int32) (Q : Int32 × St → Prop) : Prop := (((p2 = 0) → (ok_ask_sizeOf (sF T 555 1 0) p0 p1 0) ∧ Q ((x_ask_sizeOf (sF T 555 1 0) p0 p1 0).1, (x_ask_sizeOf (sF T 555 1 0) p0 p1 0).2)) ∧ (¬ (p2 = 0) → (ok_ask_markOf (sF T 555 1 0) p0 p1 0) ∧ Q ((x_ask_markOf (sF T 555 1 0) p0 p1 0).1, (x_ask_markOf (sF T 555 1 0) p0 p1 0).2)))
theorem so_ask_answer {T : St} (p0 : Nat) (p1 : Int32) (p2 : Int32) {Q : Int32 × St → Prop} (w : wp_ask_answer T p0 p1 p2 Q) : ok_ask_answer T p0 p1 p2 ∧ Q (x_ask_answer T p0 p1 p2) := by
  unfold wp_ask_answer at w
  unfold ok_ask_answer x_ask_answer
  refine so_if2 (Q := Q) w (fun c6_1 w => ?_) (fun c6_1 w => ?_)
  · obtain ⟨q2, w⟩ := w
    refine so_rq q2 ?_
    refine ⟨trivial, ?_⟩
    exact w
  · obtain ⟨q1, w⟩ := w
    refine so_rq q1 ?_
    refine ⟨trivial, ?_⟩
    exact w
def wp_pl_finds (T : St) (p0 : Int32) (p1 : Int32) (Q : Int32 × St → Prop) : Prop := ((p1 = 0 ∨ p1 = (1 : Int32))) ∧ (ok_pl_seatAll (sF (sF (sF T 80 14 p1) 80 13 1000000) 80 17 (-1000000)) p0) ∧ jn (fun (KJ1 : St → Prop) => (((((x_pl_seatAll (sF (sF (sF T 80 14 p1) 80 13 1000000) 80 17 (-1000000)) p0).1) = 0) → KJ1 ((x_pl_seatAll (sF (sF (sF T 80 14 p1) 80 13 1000000) 80 17 (-1000000)) p0).2)) ∧ (¬ (((x_pl_seatAll (sF (sF (sF T 80 14 p1) 80 13 1000000) 80 17 (-1000000)) p0).1) = 0) → (ok_pl_seek4 ((x_pl_seatAll (sF (sF (sF T 80 14 p1) 80 13 1000000) 80 17 (-1000000)) p0).2) 0 0) ∧ jn (fun (T2 : St) => KJ1 T2) (x_pl_seek4 ((x_pl_seatAll (sF (sF (sF T 80 14 p1) 80 13 1000000) 80 17 (-1000000)) p0).2) 0 0)))) (fun (T301 : St) => ((((T301.1 80 17) = (-1000000)) → Q (0, T301)) ∧ (¬ ((T301.1 80 17) = (-1000000)) → Q (1, T301))))
theorem so_pl_finds {T : St} (p0 : Int32) (p1 : Int32) {Q : Int32 × St → Prop} (w : wp_pl_finds T p0 p1 Q) : ok_pl_finds T p0 p1 ∧ Q (x_pl_finds T p0 p1) := by
  unfold wp_pl_finds at w
  unfold ok_pl_finds x_pl_finds
  obtain ⟨q1, w⟩ := w
  refine so_rq q1 ?_
  obtain ⟨q2, w⟩ := w
  refine so_rq q2 ?_
  refine so_jn1 (Q := Q) (J := fun (KJ1 : St → Int32 × St) (WKJ1 : St → Prop) => ∀ (T301 : St), WKJ1 T301 → Q (KJ1 T301)) w (fun T301 w => ?_) (fun KJ1 WKJ1 hJ1 w => ?_)
  · skip
    refine so_if0 (Q := Q) w (fun c37_2 w => ?_) (fun c37_2 w => ?_)
    · exact w
    · exact w
  · skip
    refine so_ifF (Q := Q) w (fun c22_3 w => ?_) (fun c22_3 w => ?_)
    · exact hJ1 ((x_pl_seatAll (sF (sF (sF T 80 14 p1) 80 13 1000000) 80 17 (-1000000)) p0).2) w
    · obtain ⟨q4, w⟩ := w
      refine so_rq q4 ?_
      refine ⟨trivial, ?_⟩
      refine so_n0 (Q := Q) w (fun T2 w => ?_)
      exact hJ1 T2 w
def bd_pl_countDinners_15  (Kk : Int32 → Int32 → St → Prop) (Q : St → Prop) (N : Int32 → Int32 → St → Prop) (v1 : Int32) (v2 : Int32) (T : St) : Prop := (ok_bk_allDishes T (T.2.1 2)) ∧ (sh (T.2.1 2) = .inr 1) ∧ ((((x_bk_allDishes T (T.2.1 2)) < v2) → Kk v1 v2 T) ∧ (¬ ((x_bk_allDishes T (T.2.1 2)) < v2) → jn (fun (KJ1 : St → Prop) => (((4 < (x_J_bitCount T v2)) → KJ1 T) ∧ (¬ (4 < (x_J_bitCount T v2)) → (ok_pl_isBuilt T v2) ∧ ((((x_pl_isBuilt T v2) = 0) → KJ1 T) ∧ (¬ ((x_pl_isBuilt T v2) = 0) → (ok_pl_finds T v2 1) ∧ (((((x_pl_finds T v2 1).1) = 0) → KJ1 ((x_pl_finds T v2 1).2)) ∧ (¬ (((x_pl_finds T v2 1).1) = 0) → (vp_in v2 256) ∧ (((((sA ((x_pl_finds T v2 1).2) 105 (v2 : Int32).toNatClampNeg (vp_nar .boolean 1)).2.2.1 105 (v2 : Int32).toNatClampNeg) = 0) → N v1 (v2 + 1) (sA ((x_pl_finds T v2 1).2) 105 (v2 : Int32).toNatClampNeg (vp_nar .boolean 1))) ∧ (¬ (((sA ((x_pl_finds T v2 1).2) 105 (v2 : Int32).toNatClampNeg (vp_nar .boolean 1)).2.2.1 105 (v2 : Int32).toNatClampNeg) = 0) → jn (fun (T3 : St) => ((((x_J_bitCount T v2) ≤ v1) → N v1 (v2 + 1) T3) ∧ (¬ ((x_J_bitCount T v2) ≤ v1) → N (x_J_bitCount T v2) (v2 + 1) (sF T3 80 19 v2)))) (sF (sA ((x_pl_finds T v2 1).2) 105 (v2 : Int32).toNatClampNeg (vp_nar .boolean 1)) 80 18 (((sA ((x_pl_finds T v2 1).2) 105 (v2 : Int32).toNatClampNeg (vp_nar .boolean 1)).1 80 18) + 1))))))))))) (fun (T301 : St) => (vp_in v2 256) ∧ (((((sA T301 105 (v2 : Int32).toNatClampNeg (vp_nar .boolean 0)).2.2.1 105 (v2 : Int32).toNatClampNeg) = 0) → N v1 (v2 + 1) (sA T301 105 (v2 : Int32).toNatClampNeg (vp_nar .boolean 0))) ∧ (¬ (((sA T301 105 (v2 : Int32).toNatClampNeg (vp_nar .boolean 0)).2.2.1 105 (v2 : Int32).toNatClampNeg) = 0) → jn (fun (T2 : St) => ((((x_J_bitCount T v2) ≤ v1) → N v1 (v2 + 1) T2) ∧ (¬ ((x_J_bitCount T v2) ≤ v1) → N (x_J_bitCount T v2) (v2 + 1) (sF T2 80 19 v2)))) (sF (sA T301 105 (v2 : Int32).toNatClampNeg (vp_nar .boolean 0)) 80 18 (((sA T301 105 (v2 : Int32).toNatClampNeg (vp_nar .boolean 0)).1 80 18) + 1)))))))
def wp_pl_countDinners_15  (Kk : Int32 → Int32 → St → Prop) (Q : St → Prop) : Nat → Int32 → Int32 → St → Prop
  | 0, _, _, _ => False
  | f + 1, v1, v2, T => bd_pl_countDinners_15  Kk Q (wp_pl_countDinners_15  Kk Q f) v1 v2 T
theorem mb_pl_countDinners_15  {Kk Kk2 : Int32 → Int32 → St → Prop} {Q Q2 : St → Prop} {N N2 : Int32 → Int32 → St → Prop} (hK : ∀ (v1 : Int32) (v2 : Int32) (T : St), Kk v1 v2 T → Kk2 v1 v2 T) (hQ : ∀ r, Q r → Q2 r) (hN : ∀ (v1 : Int32) (v2 : Int32) (T : St), N v1 v2 T → N2 v1 v2 T) (v1 : Int32) (v2 : Int32) (T : St) (w : bd_pl_countDinners_15  Kk Q N v1 v2 T) : bd_pl_countDinners_15  Kk2 Q2 N2 v1 v2 T := by
  unfold bd_pl_countDinners_15 at w ⊢
  obtain ⟨q1, w⟩ := w
  refine ⟨q1, ?_⟩
  obtain ⟨q2, w⟩ := w
  refine ⟨q2, ?_⟩
  refine mo_if w (fun c23_1 w => ?_) (fun c23_1 w => ?_)
  · exact hK v1 v2 T w
  · refine mo_jn (J := fun (KJ1 : St → Prop) (WKJ1 : St → Prop) => ∀ (T301 : St), KJ1 T301 → WKJ1 T301) w (fun T301 w => ?_) (fun KJ1 WKJ1 hJ1 w => ?_)
    · skip
      obtain ⟨q6, w⟩ := w
      refine ⟨q6, ?_⟩
      refine mo_if w (fun c70_7 w => ?_) (fun c70_7 w => ?_)
      · exact hN v1 (v2 + 1) (sA T301 105 (v2 : Int32).toNatClampNeg (vp_nar .boolean 0)) w
      · refine mo_n w (fun T2 w => ?_)
        refine mo_if w (fun c85_8 w => ?_) (fun c85_8 w => ?_)
        · exact hN v1 (v2 + 1) T2 w
        · exact hN (x_J_bitCount T v2) (v2 + 1) (sF T2 80 19 v2) w
    · skip
      refine mo_if w (fun c38_9 w => ?_) (fun c38_9 w => ?_)
      · exact hJ1 T w
      · obtain ⟨q7, w⟩ := w
        refine ⟨q7, ?_⟩
        refine mo_if w (fun c46_10 w => ?_) (fun c46_10 w => ?_)
        · exact hJ1 T w
        · obtain ⟨q8, w⟩ := w
          refine ⟨q8, ?_⟩
          refine mo_if w (fun c55_11 w => ?_) (fun c55_11 w => ?_)
          · exact hJ1 ((x_pl_finds T v2 1).2) w
          · obtain ⟨q9, w⟩ := w
            refine ⟨q9, ?_⟩
            refine mo_if w (fun c70_12 w => ?_) (fun c70_12 w => ?_)
            · exact hN v1 (v2 + 1) (sA ((x_pl_finds T v2 1).2) 105 (v2 : Int32).toNatClampNeg (vp_nar .boolean 1)) w
            · refine mo_n w (fun T3 w => ?_)
              refine mo_if w (fun c85_13 w => ?_) (fun c85_13 w => ?_)
              · exact hN v1 (v2 + 1) T3 w
              · exact hN (x_J_bitCount T v2) (v2 + 1) (sF T3 80 19 v2) w
theorem mo_pl_countDinners_15  {Kk Kk2 : Int32 → Int32 → St → Prop} {Q Q2 : St → Prop} (hK : ∀ (v1 : Int32) (v2 : Int32) (T : St), Kk v1 v2 T → Kk2 v1 v2 T) (hQ : ∀ r, Q r → Q2 r) : ∀ (f : Nat) (v1 : Int32) (v2 : Int32) (T : St), wp_pl_countDinners_15  Kk Q f v1 v2 T → wp_pl_countDinners_15  Kk2 Q2 f v1 v2 T := by
  intro f
  induction f with
  | zero => intro v1 v2 T w; exact w.elim
  | succ f ih => intro v1 v2 T w; exact mb_pl_countDinners_15  hK hQ ih v1 v2 T w
theorem wr_pl_countDinners_15  {Kk : Int32 → Int32 → St → Prop} {Q : St → Prop} (I : Int32 → Int32 → St → Prop) (m : Int32 → Int32 → St → Nat) (hv : ∀ (v1 : Int32) (v2 : Int32) (T : St), I v1 v2 T → bd_pl_countDinners_15  Kk Q (fun uv1 uv2 uT => I uv1 uv2 uT ∧ m uv1 uv2 uT < m v1 v2 T) v1 v2 T) : ∀ (f : Nat) (v1 : Int32) (v2 : Int32) (T : St), m v1 v2 T < f → I v1 v2 T → wp_pl_countDinners_15  Kk Q f v1 v2 T := by
  intro f
  induction f with
  | zero => intro v1 v2 T h; exact absurd h (Nat.not_lt_zero _)
  | succ f ih => intro v1 v2 T h hi; exact mb_pl_countDinners_15  (fun _ _ _ h => h) (fun _ h => h) (fun uv1 uv2 uT g => ih uv1 uv2 uT (by omega) g.1) v1 v2 T (hv v1 v2 T hi)
theorem so_pl_countDinners_15  {K : Int32 → Int32 → St → St} {Kk Kk2 : Int32 → Int32 → St → Prop} {Q : St → Prop} (hk : ∀ (v1 : Int32) (v2 : Int32) (T : St), Kk v1 v2 T → Kk2 v1 v2 T ∧ Q (K v1 v2 T)) : ∀ (f : Nat) (v1 : Int32) (v2 : Int32) (T : St), wp_pl_countDinners_15  Kk Q f v1 v2 T → ok_pl_countDinners_15  Kk2 f v1 v2 T ∧ Q (x_pl_countDinners_15  K f v1 v2 T) := by
  intro f
  induction f with
  | zero => intro v1 v2 T w; exact w.elim
  | succ f ih =>
    intro v1 v2 T w
    rw [wp_pl_countDinners_15, bd_pl_countDinners_15] at w
    rw [ok_pl_countDinners_15, x_pl_countDinners_15]
    obtain ⟨q1, w⟩ := w
    refine so_rq q1 ?_
    obtain ⟨q2, w⟩ := w
    refine so_rq q2 ?_
    refine so_if2 (Q := Q) w (fun c23_1 w => ?_) (fun c23_1 w => ?_)
    · exact hk v1 v2 T w
    · refine so_jn (Q := Q) (J := fun (KJ1 : St → St) (OJ1 : St → Prop) (WKJ1 : St → Prop) => ∀ (T301 : St), WKJ1 T301 → OJ1 T301 ∧ Q (KJ1 T301)) w (fun T301 w => ?_) (fun KJ1 OJ1 WKJ1 hJ1 w => ?_)
      · skip
        obtain ⟨q6, w⟩ := w
        refine so_rq q6 ?_
        refine so_if2 (Q := Q) w (fun c70_7 w => ?_) (fun c70_7 w => ?_)
        · exact ih v1 (v2 + 1) (sA T301 105 (v2 : Int32).toNatClampNeg (vp_nar .boolean 0)) w
        · refine so_n (Q := Q) w (fun T2 w => ?_)
          refine so_if2 (Q := Q) w (fun c85_8 w => ?_) (fun c85_8 w => ?_)
          · exact ih v1 (v2 + 1) T2 w
          · exact ih (x_J_bitCount T v2) (v2 + 1) (sF T2 80 19 v2) w
      · skip
        refine so_if2 (Q := Q) w (fun c38_9 w => ?_) (fun c38_9 w => ?_)
        · exact hJ1 T w
        · obtain ⟨q7, w⟩ := w
          refine so_rq q7 ?_
          refine so_if2 (Q := Q) w (fun c46_10 w => ?_) (fun c46_10 w => ?_)
          · exact hJ1 T w
          · obtain ⟨q8, w⟩ := w
            refine so_rq q8 ?_
            refine so_if2 (Q := Q) w (fun c55_11 w => ?_) (fun c55_11 w => ?_)
            · exact hJ1 ((x_pl_finds T v2 1).2) w
            · obtain ⟨q9, w⟩ := w
              refine so_rq q9 ?_
              refine so_if2 (Q := Q) w (fun c70_12 w => ?_) (fun c70_12 w => ?_)
              · exact ih v1 (v2 + 1) (sA ((x_pl_finds T v2 1).2) 105 (v2 : Int32).toNatClampNeg (vp_nar .boolean 1)) w
              · refine so_n (Q := Q) w (fun T3 w => ?_)
                refine so_if2 (Q := Q) w (fun c85_13 w => ?_) (fun c85_13 w => ?_)
                · exact ih v1 (v2 + 1) T3 w
                · exact ih (x_J_bitCount T v2) (v2 + 1) (sF T3 80 19 v2) w
def wp_pl_countDinners (T : St)  (Q : St → Prop) : Prop := wp_pl_countDinners_15  (fun w1_1 w1_2 T201 => Q T201) Q 1000 0 1 (sF (sF T 80 18 0) 80 19 (-1000000))
theorem so_pl_countDinners {T : St}  {Q : St → Prop} (w : wp_pl_countDinners T  Q) : ok_pl_countDinners T  ∧ Q (x_pl_countDinners T ) := by
  unfold wp_pl_countDinners at w
  unfold ok_pl_countDinners x_pl_countDinners
  refine so_pl_countDinners_15  (fun w1_1 w1_2 T201 w => ?_) 1000 0 1 (sF (sF T 80 18 0) 80 19 (-1000000)) w
  refine ⟨trivial, ?_⟩
  exact w
def wp_x_seven (T : St) (p0 : Int32) (Q : Int32 × St → Prop) : Prop := (ok_x_refusal T (x_x_isTime T p0)) ∧ jn (fun (i1 : Int32) => (((i1 = 0) → (sh (T.2.1 0) = .inr 1) ∧ (ok_pl_lay T (T.2.1 0) 76 (T.1 (T.2.1 0) 17) p0) ∧ (ok_pl_strikeEarly (x_pl_lay T (T.2.1 0) 76 (T.1 (T.2.1 0) 17) p0)) ∧ (sh ((x_pl_strikeEarly (x_pl_lay T (T.2.1 0) 76 (T.1 (T.2.1 0) 17) p0)).2.1 0) = .inr 1) ∧ (ok_pl_settle (x_pl_strikeEarly (x_pl_lay T (T.2.1 0) 76 (T.1 (T.2.1 0) 17) p0)) ((x_pl_strikeEarly (x_pl_lay T (T.2.1 0) 76 (T.1 (T.2.1 0) 17) p0)).1 ((x_pl_strikeEarly (x_pl_lay T (T.2.1 0) 76 (T.1 (T.2.1 0) 17) p0)).2.1 0) 17)) ∧ jn (fun (T2 : St) => (sh (T2.2.1 0) = .inr 1) ∧ (ok_pl_finds T2 (T2.1 (T2.2.1 0) 17) 1) ∧ (((((x_pl_finds T2 (T2.1 (T2.2.1 0) 17) 1).1) = 0) → Q (0, (x_pl_finds T2 (T2.1 (T2.2.1 0) 17) 1).2)) ∧ (¬ (((x_pl_finds T2 (T2.1 (T2.2.1 0) 17) 1).1) = 0) → Q (1, (x_pl_finds T2 (T2.1 (T2.2.1 0) 17) 1).2)))) (x_pl_settle (x_pl_strikeEarly (x_pl_lay T (T.2.1 0) 76 (T.1 (T.2.1 0) 17) p0)) ((x_pl_strikeEarly (x_pl_lay T (T.2.1 0) 76 (T.1 (T.2.1 0) 17) p0)).1 ((x_pl_strikeEarly (x_pl_lay T (T.2.1 0) 76 (T.1 (T.2.1 0) 17) p0)).2.1 0) 17))) ∧ (¬ (i1 = 0) → Q (i1, T)))) (x_x_refusal T (x_x_isTime T p0))
theorem so_x_seven {T : St} (p0 : Int32) {Q : Int32 × St → Prop} (w : wp_x_seven T p0 Q) : ok_x_seven T p0 ∧ Q (x_x_seven T p0) := by
  unfold wp_x_seven at w
  unfold ok_x_seven x_x_seven
  obtain ⟨q1, w⟩ := w
  refine so_rq q1 ?_
  refine so_n (Q := Q) w (fun i1 w => ?_)
  refine so_ifT (Q := Q) w (fun c10_1 w => ?_) (fun c10_1 w => ?_)
  · obtain ⟨q2, w⟩ := w
    refine so_rq q2 ?_
    obtain ⟨q3, w⟩ := w
    refine so_rq q3 ?_
    obtain ⟨q4, w⟩ := w
    refine so_rq q4 ?_
    obtain ⟨q5, w⟩ := w
    refine so_rq q5 ?_
    obtain ⟨q6, w⟩ := w
    refine so_rq q6 ?_
    refine so_n (Q := Q) w (fun T2 w => ?_)
    obtain ⟨q7, w⟩ := w
    refine so_rq q7 ?_
    obtain ⟨q8, w⟩ := w
    refine so_rq q8 ?_
    refine ⟨trivial, ?_⟩
    refine so_if0 (Q := Q) w (fun c74_2 w => ?_) (fun c74_2 w => ?_)
    · exact w
    · exact w
  · exact w
def wp_x_dinners (T : St) (p0 : Int32) (p1 : Int32) (p2 : Int32) (Q : Int32 × St → Prop) : Prop := jn (fun (KJ1 : Prop) => (((p0 < 1) → KJ1) ∧ (¬ (p0 < 1) → (((3 < p0) → KJ1) ∧ (¬ (3 < p0) → ((((x_x_isTime T p1) = 0) → KJ1) ∧ (¬ ((x_x_isTime T p1) = 0) → (((p2 < 0) → KJ1) ∧ (¬ (p2 < 0) → (((1 < p2) → KJ1) ∧ (¬ (1 < p2) → (ok_x_refusal T 1) ∧ ((((x_x_refusal T 1) = 0) → jn (fun (KJ3 : St → Prop) => ((((T.1 0 16) = ((p0 * 61) + p1)) → KJ3 T) ∧ (¬ ((T.1 0 16) = ((p0 * 61) + p1)) → (sh (T.2.1 0) = .inr 1) ∧ (ok_ki_fit T 78 (T.2.1 0) p0 (T.1 (T.2.1 0) 18)) ∧ (ok_bk_allDishes (x_ki_fit T 78 (T.2.1 0) p0 (T.1 (T.2.1 0) 18)) ((x_ki_fit T 78 (T.2.1 0) p0 (T.1 (T.2.1 0) 18)).2.1 0)) ∧ (sh ((x_ki_fit T 78 (T.2.1 0) p0 (T.1 (T.2.1 0) 18)).2.1 0) = .inr 1) ∧ (ok_pl_lay (x_ki_fit T 78 (T.2.1 0) p0 (T.1 (T.2.1 0) 18)) ((x_ki_fit T 78 (T.2.1 0) p0 (T.1 (T.2.1 0) 18)).2.1 0) 78 (x_bk_allDishes (x_ki_fit T 78 (T.2.1 0) p0 (T.1 (T.2.1 0) 18)) ((x_ki_fit T 78 (T.2.1 0) p0 (T.1 (T.2.1 0) 18)).2.1 0)) p1) ∧ jn (fun (T9 : St) => (ok_bk_allDishes T9 (T9.2.1 0)) ∧ (sh (T9.2.1 0) = .inr 1) ∧ (ok_pl_settle T9 (x_bk_allDishes T9 (T9.2.1 0))) ∧ (ok_pl_countDinners (x_pl_settle T9 (x_bk_allDishes T9 (T9.2.1 0)))) ∧ jn (fun (T10 : St) => KJ3 T10) (sF (x_pl_countDinners (x_pl_settle T9 (x_bk_allDishes T9 (T9.2.1 0)))) 0 16 ((p0 * 61) + p1))) (x_pl_lay (x_ki_fit T 78 (T.2.1 0) p0 (T.1 (T.2.1 0) 18)) ((x_ki_fit T 78 (T.2.1 0) p0 (T.1 (T.2.1 0) 18)).2.1 0) 78 (x_bk_allDishes (x_ki_fit T 78 (T.2.1 0) p0 (T.1 (T.2.1 0) 18)) ((x_ki_fit T 78 (T.2.1 0) p0 (T.1 (T.2.1 0) 18)).2.1 0)) p1)))) (fun (T303 : St) => (((p2 = 0) → Q (T303.1 80 18, T303)) ∧ (¬ (p2 = 0) → Q (T303.1 80 19, T303))))) ∧ (¬ ((x_x_refusal T 1) = 0) → Q (x_x_refusal T 1, T)))))))))))))) ((ok_x_refusal T 0) ∧ ((((x_x_refusal T 0) = 0) → jn (fun (KJ2 : St → Prop) => ((((T.1 0 16) = ((p0 * 61) + p1)) → KJ2 T) ∧ (¬ ((T.1 0 16) = ((p0 * 61) + p1)) → (sh (T.2.1 0) = .inr 1) ∧ (ok_ki_fit T 78 (T.2.1 0) p0 (T.1 (T.2.1 0) 18)) ∧ (ok_bk_allDishes (x_ki_fit T 78 (T.2.1 0) p0 (T.1 (T.2.1 0) 18)) ((x_ki_fit T 78 (T.2.1 0) p0 (T.1 (T.2.1 0) 18)).2.1 0)) ∧ (sh ((x_ki_fit T 78 (T.2.1 0) p0 (T.1 (T.2.1 0) 18)).2.1 0) = .inr 1) ∧ (ok_pl_lay (x_ki_fit T 78 (T.2.1 0) p0 (T.1 (T.2.1 0) 18)) ((x_ki_fit T 78 (T.2.1 0) p0 (T.1 (T.2.1 0) 18)).2.1 0) 78 (x_bk_allDishes (x_ki_fit T 78 (T.2.1 0) p0 (T.1 (T.2.1 0) 18)) ((x_ki_fit T 78 (T.2.1 0) p0 (T.1 (T.2.1 0) 18)).2.1 0)) p1) ∧ jn (fun (T5 : St) => (ok_bk_allDishes T5 (T5.2.1 0)) ∧ (sh (T5.2.1 0) = .inr 1) ∧ (ok_pl_settle T5 (x_bk_allDishes T5 (T5.2.1 0))) ∧ (ok_pl_countDinners (x_pl_settle T5 (x_bk_allDishes T5 (T5.2.1 0)))) ∧ jn (fun (T6 : St) => KJ2 T6) (sF (x_pl_countDinners (x_pl_settle T5 (x_bk_allDishes T5 (T5.2.1 0)))) 0 16 ((p0 * 61) + p1))) (x_pl_lay (x_ki_fit T 78 (T.2.1 0) p0 (T.1 (T.2.1 0) 18)) ((x_ki_fit T 78 (T.2.1 0) p0 (T.1 (T.2.1 0) 18)).2.1 0) 78 (x_bk_allDishes (x_ki_fit T 78 (T.2.1 0) p0 (T.1 (T.2.1 0) 18)) ((x_ki_fit T 78 (T.2.1 0) p0 (T.1 (T.2.1 0) 18)).2.1 0)) p1)))) (fun (T302 : St) => (((p2 = 0) → Q (T302.1 80 18, T302)) ∧ (¬ (p2 = 0) → Q (T302.1 80 19, T302))))) ∧ (¬ ((x_x_refusal T 0) = 0) → Q (x_x_refusal T 0, T))))
theorem so_x_dinners {T : St} (p0 : Int32) (p1 : Int32) (p2 : Int32) {Q : Int32 × St → Prop} (w : wp_x_dinners T p0 p1 p2 Q) : ok_x_dinners T p0 p1 p2 ∧ Q (x_x_dinners T p0 p1 p2) := by
  unfold wp_x_dinners at w
  unfold ok_x_dinners x_x_dinners
  refine so_jn (Q := Q) (J := fun (KJ1 : Int32 × St) (OJ1 : Prop) (WKJ1 : Prop) => WKJ1 → OJ1 ∧ Q (KJ1)) w (fun  w => ?_) (fun KJ1 OJ1 WKJ1 hJ1 w => ?_)
  · skip
    obtain ⟨q11, w⟩ := w
    refine so_rq q11 ?_
    refine so_ifT (Q := Q) w (fun c39_10 w => ?_) (fun c39_10 w => ?_)
    · refine so_jn1 (Q := Q) (J := fun (KJ2 : St → Int32 × St) (WKJ2 : St → Prop) => ∀ (T302 : St), WKJ2 T302 → Q (KJ2 T302)) w (fun T302 w => ?_) (fun KJ2 WKJ2 hJ2 w => ?_)
      · skip
        refine so_if0 (Q := Q) w (fun c132_12 w => ?_) (fun c132_12 w => ?_)
        · exact w
        · exact w
      · skip
        refine so_ifF (Q := Q) w (fun c59_13 w => ?_) (fun c59_13 w => ?_)
        · exact hJ2 T w
        · obtain ⟨q21, w⟩ := w
          refine so_rq q21 ?_
          obtain ⟨q22, w⟩ := w
          refine so_rq q22 ?_
          obtain ⟨q23, w⟩ := w
          refine so_rq q23 ?_
          obtain ⟨q24, w⟩ := w
          refine so_rq q24 ?_
          obtain ⟨q25, w⟩ := w
          refine so_rq q25 ?_
          refine so_n (Q := Q) w (fun T5 w => ?_)
          obtain ⟨q26, w⟩ := w
          refine so_rq q26 ?_
          obtain ⟨q27, w⟩ := w
          refine so_rq q27 ?_
          obtain ⟨q28, w⟩ := w
          refine so_rq q28 ?_
          obtain ⟨q29, w⟩ := w
          refine so_rq q29 ?_
          refine ⟨trivial, ?_⟩
          refine so_n0 (Q := Q) w (fun T6 w => ?_)
          exact hJ2 T6 w
    · exact w
  · skip
    refine so_if2 (Q := Q) w (fun c3_14 w => ?_) (fun c3_14 w => ?_)
    · exact hJ1  w
    · refine so_if2 (Q := Q) w (fun c8_15 w => ?_) (fun c8_15 w => ?_)
      · exact hJ1  w
      · refine so_if2 (Q := Q) w (fun c15_16 w => ?_) (fun c15_16 w => ?_)
        · exact hJ1  w
        · refine so_if2 (Q := Q) w (fun c19_17 w => ?_) (fun c19_17 w => ?_)
          · exact hJ1  w
          · refine so_if2 (Q := Q) w (fun c24_18 w => ?_) (fun c24_18 w => ?_)
            · exact hJ1  w
            · obtain ⟨q30, w⟩ := w
              refine so_rq q30 ?_
              refine so_ifT (Q := Q) w (fun c39_19 w => ?_) (fun c39_19 w => ?_)
              · refine so_jn1 (Q := Q) (J := fun (KJ3 : St → Int32 × St) (WKJ3 : St → Prop) => ∀ (T303 : St), WKJ3 T303 → Q (KJ3 T303)) w (fun T303 w => ?_) (fun KJ3 WKJ3 hJ3 w => ?_)
                · skip
                  refine so_if0 (Q := Q) w (fun c132_21 w => ?_) (fun c132_21 w => ?_)
                  · exact w
                  · exact w
                · skip
                  refine so_ifF (Q := Q) w (fun c59_22 w => ?_) (fun c59_22 w => ?_)
                  · exact hJ3 T w
                  · obtain ⟨q40, w⟩ := w
                    refine so_rq q40 ?_
                    obtain ⟨q41, w⟩ := w
                    refine so_rq q41 ?_
                    obtain ⟨q42, w⟩ := w
                    refine so_rq q42 ?_
                    obtain ⟨q43, w⟩ := w
                    refine so_rq q43 ?_
                    obtain ⟨q44, w⟩ := w
                    refine so_rq q44 ?_
                    refine so_n (Q := Q) w (fun T9 w => ?_)
                    obtain ⟨q45, w⟩ := w
                    refine so_rq q45 ?_
                    obtain ⟨q46, w⟩ := w
                    refine so_rq q46 ?_
                    obtain ⟨q47, w⟩ := w
                    refine so_rq q47 ?_
                    obtain ⟨q48, w⟩ := w
                    refine so_rq q48 ?_
                    refine ⟨trivial, ?_⟩
                    refine so_n0 (Q := Q) w (fun T10 w => ?_)
                    exact hJ3 T10 w
              · exact w
def wp_x_ask (T : St) (p0 : Int32) (p1 : Int32) (Q : Int32 × St → Prop) : Prop := (ok_bk_hasStep T (T.2.1 0) p0) ∧ (sh (T.2.1 0) = .inr 1) ∧ ((((x_bk_hasStep T (T.2.1 0) p0) = 0) → Q ((-1000001), T)) ∧ (¬ ((x_bk_hasStep T (T.2.1 0) p0) = 0) → (((p1 < 0) → Q ((-1000001), T)) ∧ (¬ (p1 < 0) → (((p1 ≤ 1) → (ok_ask_answer T (T.2.1 0) p0 p1) ∧ Q ((x_ask_answer T (T.2.1 0) p0 p1).1, (x_ask_answer T (T.2.1 0) p0 p1).2)) ∧ (¬ (p1 ≤ 1) → Q ((-1000001), T)))))))
theorem so_x_ask {T : St} (p0 : Int32) (p1 : Int32) {Q : Int32 × St → Prop} (w : wp_x_ask T p0 p1 Q) : ok_x_ask T p0 p1 ∧ Q (x_x_ask T p0 p1) := by
  unfold wp_x_ask at w
  unfold ok_x_ask x_x_ask
  obtain ⟨q1, w⟩ := w
  refine so_rq q1 ?_
  obtain ⟨q2, w⟩ := w
  refine so_rq q2 ?_
  refine so_ifF (Q := Q) w (fun c8_1 w => ?_) (fun c8_1 w => ?_)
  · exact w
  · refine so_ifF (Q := Q) w (fun c12_2 w => ?_) (fun c12_2 w => ?_)
    · exact w
    · refine so_ifT (Q := Q) w (fun c17_3 w => ?_) (fun c17_3 w => ?_)
      · obtain ⟨q3, w⟩ := w
        refine so_rq q3 ?_
        refine ⟨trivial, ?_⟩
        exact w
      · exact w
def wp_x_findsPlan (T : St) (p0 : Int32) (Q : Int32 × St → Prop) : Prop := jn (fun (KJ1 : St → Prop) => ((((T.1 0 14) = p0) → KJ1 T) ∧ (¬ ((T.1 0 14) = p0) → (sh (T.2.1 0) = .inr 1) ∧ (ok_pl_lay T (T.2.1 0) 76 (T.1 (T.2.1 0) 17) p0) ∧ (sh ((x_pl_lay T (T.2.1 0) 76 (T.1 (T.2.1 0) 17) p0).2.1 0) = .inr 1) ∧ (ok_pl_settle (x_pl_lay T (T.2.1 0) 76 (T.1 (T.2.1 0) 17) p0) ((x_pl_lay T (T.2.1 0) 76 (T.1 (T.2.1 0) 17) p0).1 ((x_pl_lay T (T.2.1 0) 76 (T.1 (T.2.1 0) 17) p0).2.1 0) 17)) ∧ jn (fun (T4 : St) => (sh ((sF T4 0 15 (-1000000)).2.1 0) = .inr 1) ∧ (ok_pl_finds (sF T4 0 15 (-1000000)) ((sF T4 0 15 (-1000000)).1 ((sF T4 0 15 (-1000000)).2.1 0) 17) 0) ∧ jn (fun (T5 : St) => (((((x_pl_finds (sF T4 0 15 (-1000000)) ((sF T4 0 15 (-1000000)).1 ((sF T4 0 15 (-1000000)).2.1 0) 17) 0).1) = 0) → KJ1 (sF T5 0 14 p0)) ∧ (¬ (((x_pl_finds (sF T4 0 15 (-1000000)) ((sF T4 0 15 (-1000000)).1 ((sF T4 0 15 (-1000000)).2.1 0) 17) 0).1) = 0) → (ok_ro_fill (sF T5 0 15 (T5.1 80 17)) 557 ((sF T5 0 15 (T5.1 80 17)).2.1 0)) ∧ (ok_pl_tell (x_ro_fill (sF T5 0 15 (T5.1 80 17)) 557 ((sF T5 0 15 (T5.1 80 17)).2.1 0)) 557) ∧ jn (fun (T6 : St) => KJ1 T6) (sF (x_pl_tell (x_ro_fill (sF T5 0 15 (T5.1 80 17)) 557 ((sF T5 0 15 (T5.1 80 17)).2.1 0)) 557) 0 14 p0)))) ((x_pl_finds (sF T4 0 15 (-1000000)) ((sF T4 0 15 (-1000000)).1 ((sF T4 0 15 (-1000000)).2.1 0) 17) 0).2)) (x_pl_settle (x_pl_lay T (T.2.1 0) 76 (T.1 (T.2.1 0) 17) p0) ((x_pl_lay T (T.2.1 0) 76 (T.1 (T.2.1 0) 17) p0).1 ((x_pl_lay T (T.2.1 0) 76 (T.1 (T.2.1 0) 17) p0).2.1 0) 17))))) (fun (T301 : St) => ((((T301.1 0 15) = (-1000000)) → Q (0, T301)) ∧ (¬ ((T301.1 0 15) = (-1000000)) → Q (1, T301))))
theorem so_x_findsPlan {T : St} (p0 : Int32) {Q : Int32 × St → Prop} (w : wp_x_findsPlan T p0 Q) : ok_x_findsPlan T p0 ∧ Q (x_x_findsPlan T p0) := by
  unfold wp_x_findsPlan at w
  unfold ok_x_findsPlan x_x_findsPlan
  refine so_jn1 (Q := Q) (J := fun (KJ1 : St → Int32 × St) (WKJ1 : St → Prop) => ∀ (T301 : St), WKJ1 T301 → Q (KJ1 T301)) w (fun T301 w => ?_) (fun KJ1 WKJ1 hJ1 w => ?_)
  · skip
    refine so_if0 (Q := Q) w (fun c113_3 w => ?_) (fun c113_3 w => ?_)
    · exact w
    · exact w
  · skip
    refine so_ifF (Q := Q) w (fun c5_4 w => ?_) (fun c5_4 w => ?_)
    · exact hJ1 T w
    · obtain ⟨q9, w⟩ := w
      refine so_rq q9 ?_
      obtain ⟨q10, w⟩ := w
      refine so_rq q10 ?_
      obtain ⟨q11, w⟩ := w
      refine so_rq q11 ?_
      obtain ⟨q12, w⟩ := w
      refine so_rq q12 ?_
      refine so_n (Q := Q) w (fun T4 w => ?_)
      obtain ⟨q13, w⟩ := w
      refine so_rq q13 ?_
      obtain ⟨q14, w⟩ := w
      refine so_rq q14 ?_
      refine so_n (Q := Q) w (fun T5 w => ?_)
      refine so_ifF (Q := Q) w (fun c66_5 w => ?_) (fun c66_5 w => ?_)
      · exact hJ1 (sF T5 0 14 p0) w
      · obtain ⟨q15, w⟩ := w
        refine so_rq q15 ?_
        obtain ⟨q16, w⟩ := w
        refine so_rq q16 ?_
        refine ⟨trivial, ?_⟩
        refine so_n0 (Q := Q) w (fun T6 w => ?_)
        exact hJ1 T6 w
def wp_x_isPossible (T : St) (p0 : Nat) (p1 : Int32) (p2 : Int32) (Q : Int32 × St → Prop) : Prop := (ok_pl_lay T (T.2.1 0) p0 p1 p2) ∧ (ok_pl_settle (x_pl_lay T (T.2.1 0) p0 p1 p2) p1) ∧ (ok_pl_finds (x_pl_settle (x_pl_lay T (T.2.1 0) p0 p1 p2) p1) p1 1) ∧ (((x_pl_finds (x_pl_settle (x_pl_lay T (T.2.1 0) p0 p1 p2) p1) p1 1).1 = 0 ∨ (x_pl_finds (x_pl_settle (x_pl_lay T (T.2.1 0) p0 p1 p2) p1) p1 1).1 = (1 : Int32))) ∧ Q ((x_pl_finds (x_pl_settle (x_pl_lay T (T.2.1 0) p0 p1 p2) p1) p1 1).1, (x_pl_finds (x_pl_settle (x_pl_lay T (T.2.1 0) p0 p1 p2) p1) p1 1).2)
theorem so_x_isPossible {T : St} (p0 : Nat) (p1 : Int32) (p2 : Int32) {Q : Int32 × St → Prop} (w : wp_x_isPossible T p0 p1 p2 Q) : ok_x_isPossible T p0 p1 p2 ∧ Q (x_x_isPossible T p0 p1 p2) := by
  unfold wp_x_isPossible at w
  unfold ok_x_isPossible x_x_isPossible
  obtain ⟨q1, w⟩ := w
  refine so_rq q1 ?_
  obtain ⟨q2, w⟩ := w
  refine so_rq q2 ?_
  obtain ⟨q3, w⟩ := w
  refine so_rq q3 ?_
  obtain ⟨q4, w⟩ := w
  refine so_rq q4 ?_
  refine ⟨trivial, ?_⟩
  exact w
def wp_x_least (T : St) (p0 : Int32) (p1 : Int32) (Q : Int32 × St → Prop) : Prop := jn (fun (KJ1 : Prop) => ((((x_x_isTime T p0) = 0) → KJ1) ∧ (¬ ((x_x_isTime T p0) = 0) → (((p1 < (-1)) → KJ1) ∧ (¬ (p1 < (-1)) → (ok_x_refusal T 1) ∧ ((((x_x_refusal T 1) = 0) → (ok_x_findsPlan T p0) ∧ (((((x_x_findsPlan T p0).1) = 0) → Q ((-1000000), (x_x_findsPlan T p0).2)) ∧ (¬ (((x_x_findsPlan T p0).1) = 0) → (((p1 = (-1)) → Q (((x_x_findsPlan T p0).2).1 0 15, (x_x_findsPlan T p0).2)) ∧ (¬ (p1 = (-1)) → ((((((x_x_findsPlan T p0).2).1 557 0) ≤ p1) → Q ((-1000000), (x_x_findsPlan T p0).2)) ∧ (¬ ((((x_x_findsPlan T p0).2).1 557 0) ≤ p1) → (vp_in p1 4) ∧ Q (((x_x_findsPlan T p0).2).2.2.1 559 (p1 : Int32).toNatClampNeg, (x_x_findsPlan T p0).2)))))))) ∧ (¬ ((x_x_refusal T 1) = 0) → Q (x_x_refusal T 1, T)))))))) ((ok_x_refusal T 0) ∧ ((((x_x_refusal T 0) = 0) → (ok_x_findsPlan T p0) ∧ (((((x_x_findsPlan T p0).1) = 0) → Q ((-1000000), (x_x_findsPlan T p0).2)) ∧ (¬ (((x_x_findsPlan T p0).1) = 0) → (((p1 = (-1)) → Q (((x_x_findsPlan T p0).2).1 0 15, (x_x_findsPlan T p0).2)) ∧ (¬ (p1 = (-1)) → ((((((x_x_findsPlan T p0).2).1 557 0) ≤ p1) → Q ((-1000000), (x_x_findsPlan T p0).2)) ∧ (¬ ((((x_x_findsPlan T p0).2).1 557 0) ≤ p1) → (vp_in p1 4) ∧ Q (((x_x_findsPlan T p0).2).2.2.1 559 (p1 : Int32).toNatClampNeg, (x_x_findsPlan T p0).2)))))))) ∧ (¬ ((x_x_refusal T 0) = 0) → Q (x_x_refusal T 0, T))))
theorem so_x_least {T : St} (p0 : Int32) (p1 : Int32) {Q : Int32 × St → Prop} (w : wp_x_least T p0 p1 Q) : ok_x_least T p0 p1 ∧ Q (x_x_least T p0 p1) := by
  unfold wp_x_least at w
  unfold ok_x_least x_x_least
  refine so_jn (Q := Q) (J := fun (KJ1 : Int32 × St) (OJ1 : Prop) (WKJ1 : Prop) => WKJ1 → OJ1 ∧ Q (KJ1)) w (fun  w => ?_) (fun KJ1 OJ1 WKJ1 hJ1 w => ?_)
  · skip
    obtain ⟨q4, w⟩ := w
    refine so_rq q4 ?_
    refine so_ifT (Q := Q) w (fun c23_7 w => ?_) (fun c23_7 w => ?_)
    · obtain ⟨q5, w⟩ := w
      refine so_rq q5 ?_
      refine so_ifF (Q := Q) w (fun c33_8 w => ?_) (fun c33_8 w => ?_)
      · exact w
      · refine so_ifF (Q := Q) w (fun c41_9 w => ?_) (fun c41_9 w => ?_)
        · exact w
        · refine so_ifF (Q := Q) w (fun c57_10 w => ?_) (fun c57_10 w => ?_)
          · exact w
          · obtain ⟨q6, w⟩ := w
            refine so_rq q6 ?_
            refine ⟨trivial, ?_⟩
            exact w
    · exact w
  · skip
    refine so_if2 (Q := Q) w (fun c5_11 w => ?_) (fun c5_11 w => ?_)
    · exact hJ1  w
    · refine so_if2 (Q := Q) w (fun c10_12 w => ?_) (fun c10_12 w => ?_)
      · exact hJ1  w
      · obtain ⟨q7, w⟩ := w
        refine so_rq q7 ?_
        refine so_ifT (Q := Q) w (fun c23_13 w => ?_) (fun c23_13 w => ?_)
        · obtain ⟨q8, w⟩ := w
          refine so_rq q8 ?_
          refine so_ifF (Q := Q) w (fun c33_14 w => ?_) (fun c33_14 w => ?_)
          · exact w
          · refine so_ifF (Q := Q) w (fun c41_15 w => ?_) (fun c41_15 w => ?_)
            · exact w
            · refine so_ifF (Q := Q) w (fun c57_16 w => ?_) (fun c57_16 w => ?_)
              · exact w
              · obtain ⟨q9, w⟩ := w
                refine so_rq q9 ?_
                refine ⟨trivial, ?_⟩
                exact w
        · exact w
def wp_x_begins (T : St) (p0 : Int32) (p1 : Int32) (Q : Int32 × St → Prop) : Prop := jn (fun (KJ1 : Prop) => ((((x_x_isTime T p0) = 0) → KJ1) ∧ (¬ ((x_x_isTime T p0) = 0) → (((p1 < 0) → KJ1) ∧ (¬ (p1 < 0) → (ok_x_refusal T 1) ∧ ((((x_x_refusal T 1) = 0) → (ok_x_findsPlan T p0) ∧ (((((x_x_findsPlan T p0).1) = 0) → Q ((-1000000), (x_x_findsPlan T p0).2)) ∧ (¬ (((x_x_findsPlan T p0).1) = 0) → ((((((x_x_findsPlan T p0).2).1 557 1) ≤ p1) → Q ((-1000000), (x_x_findsPlan T p0).2)) ∧ (¬ ((((x_x_findsPlan T p0).2).1 557 1) ≤ p1) → (vp_in p1 12) ∧ Q (((x_x_findsPlan T p0).2).2.2.1 562 (p1 : Int32).toNatClampNeg, (x_x_findsPlan T p0).2)))))) ∧ (¬ ((x_x_refusal T 1) = 0) → Q (x_x_refusal T 1, T)))))))) ((ok_x_refusal T 0) ∧ ((((x_x_refusal T 0) = 0) → (ok_x_findsPlan T p0) ∧ (((((x_x_findsPlan T p0).1) = 0) → Q ((-1000000), (x_x_findsPlan T p0).2)) ∧ (¬ (((x_x_findsPlan T p0).1) = 0) → ((((((x_x_findsPlan T p0).2).1 557 1) ≤ p1) → Q ((-1000000), (x_x_findsPlan T p0).2)) ∧ (¬ ((((x_x_findsPlan T p0).2).1 557 1) ≤ p1) → (vp_in p1 12) ∧ Q (((x_x_findsPlan T p0).2).2.2.1 562 (p1 : Int32).toNatClampNeg, (x_x_findsPlan T p0).2)))))) ∧ (¬ ((x_x_refusal T 0) = 0) → Q (x_x_refusal T 0, T))))
theorem so_x_begins {T : St} (p0 : Int32) (p1 : Int32) {Q : Int32 × St → Prop} (w : wp_x_begins T p0 p1 Q) : ok_x_begins T p0 p1 ∧ Q (x_x_begins T p0 p1) := by
  unfold wp_x_begins at w
  unfold ok_x_begins x_x_begins
  refine so_jn (Q := Q) (J := fun (KJ1 : Int32 × St) (OJ1 : Prop) (WKJ1 : Prop) => WKJ1 → OJ1 ∧ Q (KJ1)) w (fun  w => ?_) (fun KJ1 OJ1 WKJ1 hJ1 w => ?_)
  · skip
    obtain ⟨q4, w⟩ := w
    refine so_rq q4 ?_
    refine so_ifT (Q := Q) w (fun c22_6 w => ?_) (fun c22_6 w => ?_)
    · obtain ⟨q5, w⟩ := w
      refine so_rq q5 ?_
      refine so_ifF (Q := Q) w (fun c32_7 w => ?_) (fun c32_7 w => ?_)
      · exact w
      · refine so_ifF (Q := Q) w (fun c43_8 w => ?_) (fun c43_8 w => ?_)
        · exact w
        · obtain ⟨q6, w⟩ := w
          refine so_rq q6 ?_
          refine ⟨trivial, ?_⟩
          exact w
    · exact w
  · skip
    refine so_if2 (Q := Q) w (fun c5_9 w => ?_) (fun c5_9 w => ?_)
    · exact hJ1  w
    · refine so_if2 (Q := Q) w (fun c9_10 w => ?_) (fun c9_10 w => ?_)
      · exact hJ1  w
      · obtain ⟨q7, w⟩ := w
        refine so_rq q7 ?_
        refine so_ifT (Q := Q) w (fun c22_11 w => ?_) (fun c22_11 w => ?_)
        · obtain ⟨q8, w⟩ := w
          refine so_rq q8 ?_
          refine so_ifF (Q := Q) w (fun c32_12 w => ?_) (fun c32_12 w => ?_)
          · exact w
          · refine so_ifF (Q := Q) w (fun c43_13 w => ?_) (fun c43_13 w => ?_)
            · exact w
            · obtain ⟨q9, w⟩ := w
              refine so_rq q9 ?_
              refine ⟨trivial, ?_⟩
              exact w
        · exact w
def bd_x_earliest_58  (Kk : Int32 → St → Prop) (Q : Int32 × St → Prop) (N : Int32 → St → Prop) (v1 : Int32) (T : St) : Prop := (((60 < v1) → Kk v1 T) ∧ (¬ (60 < v1) → (sh (T.2.1 0) = .inr 1) ∧ (ok_x_isPossible T 76 (T.1 (T.2.1 0) 17) v1) ∧ (((((x_x_isPossible T 76 (T.1 (T.2.1 0) 17) v1).1) = 0) → N (v1 + 1) ((x_x_isPossible T 76 (T.1 (T.2.1 0) 17) v1).2)) ∧ (¬ (((x_x_isPossible T 76 (T.1 (T.2.1 0) 17) v1).1) = 0) → Q (v1, (x_x_isPossible T 76 (T.1 (T.2.1 0) 17) v1).2)))))
def wp_x_earliest_58  (Kk : Int32 → St → Prop) (Q : Int32 × St → Prop) : Nat → Int32 → St → Prop
  | 0, _, _ => False
  | f + 1, v1, T => bd_x_earliest_58  Kk Q (wp_x_earliest_58  Kk Q f) v1 T
theorem mb_x_earliest_58  {Kk Kk2 : Int32 → St → Prop} {Q Q2 : Int32 × St → Prop} {N N2 : Int32 → St → Prop} (hK : ∀ (v1 : Int32) (T : St), Kk v1 T → Kk2 v1 T) (hQ : ∀ r, Q r → Q2 r) (hN : ∀ (v1 : Int32) (T : St), N v1 T → N2 v1 T) (v1 : Int32) (T : St) (w : bd_x_earliest_58  Kk Q N v1 T) : bd_x_earliest_58  Kk2 Q2 N2 v1 T := by
  unfold bd_x_earliest_58 at w ⊢
  refine mo_if w (fun c61_3 w => ?_) (fun c61_3 w => ?_)
  · exact hK v1 T w
  · obtain ⟨q6, w⟩ := w
    refine ⟨q6, ?_⟩
    obtain ⟨q7, w⟩ := w
    refine ⟨q7, ?_⟩
    refine mo_if w (fun c80_4 w => ?_) (fun c80_4 w => ?_)
    · exact hN (v1 + 1) ((x_x_isPossible T 76 (T.1 (T.2.1 0) 17) v1).2) w
    · exact hQ _ w
theorem mo_x_earliest_58  {Kk Kk2 : Int32 → St → Prop} {Q Q2 : Int32 × St → Prop} (hK : ∀ (v1 : Int32) (T : St), Kk v1 T → Kk2 v1 T) (hQ : ∀ r, Q r → Q2 r) : ∀ (f : Nat) (v1 : Int32) (T : St), wp_x_earliest_58  Kk Q f v1 T → wp_x_earliest_58  Kk2 Q2 f v1 T := by
  intro f
  induction f with
  | zero => intro v1 T w; exact w.elim
  | succ f ih => intro v1 T w; exact mb_x_earliest_58  hK hQ ih v1 T w
theorem wr_x_earliest_58  {Kk : Int32 → St → Prop} {Q : Int32 × St → Prop} (I : Int32 → St → Prop) (m : Int32 → St → Nat) (hv : ∀ (v1 : Int32) (T : St), I v1 T → bd_x_earliest_58  Kk Q (fun uv1 uT => I uv1 uT ∧ m uv1 uT < m v1 T) v1 T) : ∀ (f : Nat) (v1 : Int32) (T : St), m v1 T < f → I v1 T → wp_x_earliest_58  Kk Q f v1 T := by
  intro f
  induction f with
  | zero => intro v1 T h; exact absurd h (Nat.not_lt_zero _)
  | succ f ih => intro v1 T h hi; exact mb_x_earliest_58  (fun _ _ h => h) (fun _ h => h) (fun uv1 uT g => ih uv1 uT (by omega) g.1) v1 T (hv v1 T hi)
theorem so_x_earliest_58  {K : Int32 → St → Int32 × St} {Kk Kk2 : Int32 → St → Prop} {Q : Int32 × St → Prop} (hk : ∀ (v1 : Int32) (T : St), Kk v1 T → Kk2 v1 T ∧ Q (K v1 T)) : ∀ (f : Nat) (v1 : Int32) (T : St), wp_x_earliest_58  Kk Q f v1 T → ok_x_earliest_58  Kk2 f v1 T ∧ Q (x_x_earliest_58  K f v1 T) := by
  intro f
  induction f with
  | zero => intro v1 T w; exact w.elim
  | succ f ih =>
    intro v1 T w
    rw [wp_x_earliest_58, bd_x_earliest_58] at w
    rw [ok_x_earliest_58, x_x_earliest_58]
    refine so_if2 (Q := Q) w (fun c61_3 w => ?_) (fun c61_3 w => ?_)
    · exact hk v1 T w
    · obtain ⟨q6, w⟩ := w
      refine so_rq q6 ?_
      obtain ⟨q7, w⟩ := w
      refine so_rq q7 ?_
      refine so_ifT (Q := Q) w (fun c80_4 w => ?_) (fun c80_4 w => ?_)
      · exact ih (v1 + 1) ((x_x_isPossible T 76 (T.1 (T.2.1 0) 17) v1).2) w
      · exact w
def wp_x_earliest (T : St)  (Q : Int32 × St → Prop) : Prop := (ok_bk_isRead T (T.2.1 0)) ∧ (sh (T.2.1 0) = .inr 1) ∧ ((((x_bk_isRead T (T.2.1 0)) = 0) → Q ((-1000002), T)) ∧ (¬ ((x_bk_isRead T (T.2.1 0)) = 0) → (ok_ki_giveAll T 78 (T.2.1 0) (T.2.2.1 ((T.2.1 0) + 1) (5 : Int32).toNatClampNeg)) ∧ (sh ((x_ki_giveAll T 78 (T.2.1 0) (T.2.2.1 ((T.2.1 0) + 1) (5 : Int32).toNatClampNeg)).2.1 0) = .inr 1) ∧ (ok_x_isPossible (x_ki_giveAll T 78 (T.2.1 0) (T.2.2.1 ((T.2.1 0) + 1) (5 : Int32).toNatClampNeg)) 78 ((x_ki_giveAll T 78 (T.2.1 0) (T.2.2.1 ((T.2.1 0) + 1) (5 : Int32).toNatClampNeg)).1 ((x_ki_giveAll T 78 (T.2.1 0) (T.2.2.1 ((T.2.1 0) + 1) (5 : Int32).toNatClampNeg)).2.1 0) 17) 60) ∧ jn (fun (T1 : St) => (((((x_x_isPossible (x_ki_giveAll T 78 (T.2.1 0) (T.2.2.1 ((T.2.1 0) + 1) (5 : Int32).toNatClampNeg)) 78 ((x_ki_giveAll T 78 (T.2.1 0) (T.2.2.1 ((T.2.1 0) + 1) (5 : Int32).toNatClampNeg)).1 ((x_ki_giveAll T 78 (T.2.1 0) (T.2.2.1 ((T.2.1 0) + 1) (5 : Int32).toNatClampNeg)).2.1 0) 17) 60).1) = 0) → Q ((-1000000), T1)) ∧ (¬ (((x_x_isPossible (x_ki_giveAll T 78 (T.2.1 0) (T.2.2.1 ((T.2.1 0) + 1) (5 : Int32).toNatClampNeg)) 78 ((x_ki_giveAll T 78 (T.2.1 0) (T.2.2.1 ((T.2.1 0) + 1) (5 : Int32).toNatClampNeg)).1 ((x_ki_giveAll T 78 (T.2.1 0) (T.2.2.1 ((T.2.1 0) + 1) (5 : Int32).toNatClampNeg)).2.1 0) 17) 60).1) = 0) → wp_x_earliest_58  (fun w1_1 T201 => Q ((-1000000), T201)) Q 1000 1 T1))) ((x_x_isPossible (x_ki_giveAll T 78 (T.2.1 0) (T.2.2.1 ((T.2.1 0) + 1) (5 : Int32).toNatClampNeg)) 78 ((x_ki_giveAll T 78 (T.2.1 0) (T.2.2.1 ((T.2.1 0) + 1) (5 : Int32).toNatClampNeg)).1 ((x_ki_giveAll T 78 (T.2.1 0) (T.2.2.1 ((T.2.1 0) + 1) (5 : Int32).toNatClampNeg)).2.1 0) 17) 60).2)))
theorem so_x_earliest {T : St}  {Q : Int32 × St → Prop} (w : wp_x_earliest T  Q) : ok_x_earliest T  ∧ Q (x_x_earliest T ) := by
  unfold wp_x_earliest at w
  unfold ok_x_earliest x_x_earliest
  obtain ⟨q1, w⟩ := w
  refine so_rq q1 ?_
  obtain ⟨q2, w⟩ := w
  refine so_rq q2 ?_
  refine so_ifF (Q := Q) w (fun c7_1 w => ?_) (fun c7_1 w => ?_)
  · exact w
  · obtain ⟨q3, w⟩ := w
    refine so_rq q3 ?_
    obtain ⟨q4, w⟩ := w
    refine so_rq q4 ?_
    obtain ⟨q5, w⟩ := w
    refine so_rq q5 ?_
    refine so_n (Q := Q) w (fun T1 w => ?_)
    refine so_ifF (Q := Q) w (fun c50_2 w => ?_) (fun c50_2 w => ?_)
    · exact w
    · refine so_x_earliest_58  (fun w1_1 T201 w => ?_) 1000 1 T1 w
      refine ⟨trivial, ?_⟩
      exact w
def wp_x_heat (T : St) (p0 : Int32) (p1 : Int32) (Q : Int32 × St → Prop) : Prop := jn (fun (KJ1 : Prop) => ((((x_x_isTime T p0) = 0) → KJ1) ∧ (¬ ((x_x_isTime T p0) = 0) → ((((x_x_isMinute T p1) = 0) → KJ1) ∧ (¬ ((x_x_isMinute T p1) = 0) → (ok_x_refusal T 1) ∧ ((((x_x_refusal T 1) = 0) → (ok_x_findsPlan T p0) ∧ (((((x_x_findsPlan T p0).1) = 0) → Q ((-1000000), (x_x_findsPlan T p0).2)) ∧ (¬ (((x_x_findsPlan T p0).1) = 0) → (ok_ov_want ((x_x_findsPlan T p0).2) (((x_x_findsPlan T p0).2).2.1 0) 557) ∧ (sh ((x_ov_want ((x_x_findsPlan T p0).2) (((x_x_findsPlan T p0).2).2.1 0) 557).2.1 0) = .inr 1) ∧ (ok_ov_settle (x_ov_want ((x_x_findsPlan T p0).2) (((x_x_findsPlan T p0).2).2.1 0) 557) ((x_ov_want ((x_x_findsPlan T p0).2) (((x_x_findsPlan T p0).2).2.1 0) 557).2.2.1 (((x_ov_want ((x_x_findsPlan T p0).2) (((x_x_findsPlan T p0).2).2.1 0) 557).2.1 0) + 1) (3 : Int32).toNatClampNeg) ((x_ov_want ((x_x_findsPlan T p0).2) (((x_x_findsPlan T p0).2).2.1 0) 557).2.2.1 (((x_ov_want ((x_x_findsPlan T p0).2) (((x_x_findsPlan T p0).2).2.1 0) 557).2.1 0) + 1) (4 : Int32).toNatClampNeg)) ∧ jn (fun (T3 : St) => (vp_in p1 60) ∧ Q (T3.2.2.1 531 (p1 : Int32).toNatClampNeg, T3)) (x_ov_settle (x_ov_want ((x_x_findsPlan T p0).2) (((x_x_findsPlan T p0).2).2.1 0) 557) ((x_ov_want ((x_x_findsPlan T p0).2) (((x_x_findsPlan T p0).2).2.1 0) 557).2.2.1 (((x_ov_want ((x_x_findsPlan T p0).2) (((x_x_findsPlan T p0).2).2.1 0) 557).2.1 0) + 1) (3 : Int32).toNatClampNeg) ((x_ov_want ((x_x_findsPlan T p0).2) (((x_x_findsPlan T p0).2).2.1 0) 557).2.2.1 (((x_ov_want ((x_x_findsPlan T p0).2) (((x_x_findsPlan T p0).2).2.1 0) 557).2.1 0) + 1) (4 : Int32).toNatClampNeg))))) ∧ (¬ ((x_x_refusal T 1) = 0) → Q (x_x_refusal T 1, T)))))))) ((ok_x_refusal T 0) ∧ ((((x_x_refusal T 0) = 0) → (ok_x_findsPlan T p0) ∧ (((((x_x_findsPlan T p0).1) = 0) → Q ((-1000000), (x_x_findsPlan T p0).2)) ∧ (¬ (((x_x_findsPlan T p0).1) = 0) → (ok_ov_want ((x_x_findsPlan T p0).2) (((x_x_findsPlan T p0).2).2.1 0) 557) ∧ (sh ((x_ov_want ((x_x_findsPlan T p0).2) (((x_x_findsPlan T p0).2).2.1 0) 557).2.1 0) = .inr 1) ∧ (ok_ov_settle (x_ov_want ((x_x_findsPlan T p0).2) (((x_x_findsPlan T p0).2).2.1 0) 557) ((x_ov_want ((x_x_findsPlan T p0).2) (((x_x_findsPlan T p0).2).2.1 0) 557).2.2.1 (((x_ov_want ((x_x_findsPlan T p0).2) (((x_x_findsPlan T p0).2).2.1 0) 557).2.1 0) + 1) (3 : Int32).toNatClampNeg) ((x_ov_want ((x_x_findsPlan T p0).2) (((x_x_findsPlan T p0).2).2.1 0) 557).2.2.1 (((x_ov_want ((x_x_findsPlan T p0).2) (((x_x_findsPlan T p0).2).2.1 0) 557).2.1 0) + 1) (4 : Int32).toNatClampNeg)) ∧ jn (fun (T2 : St) => (vp_in p1 60) ∧ Q (T2.2.2.1 531 (p1 : Int32).toNatClampNeg, T2)) (x_ov_settle (x_ov_want ((x_x_findsPlan T p0).2) (((x_x_findsPlan T p0).2).2.1 0) 557) ((x_ov_want ((x_x_findsPlan T p0).2) (((x_x_findsPlan T p0).2).2.1 0) 557).2.2.1 (((x_ov_want ((x_x_findsPlan T p0).2) (((x_x_findsPlan T p0).2).2.1 0) 557).2.1 0) + 1) (3 : Int32).toNatClampNeg) ((x_ov_want ((x_x_findsPlan T p0).2) (((x_x_findsPlan T p0).2).2.1 0) 557).2.2.1 (((x_ov_want ((x_x_findsPlan T p0).2) (((x_x_findsPlan T p0).2).2.1 0) 557).2.1 0) + 1) (4 : Int32).toNatClampNeg))))) ∧ (¬ ((x_x_refusal T 0) = 0) → Q (x_x_refusal T 0, T))))
theorem so_x_heat {T : St} (p0 : Int32) (p1 : Int32) {Q : Int32 × St → Prop} (w : wp_x_heat T p0 p1 Q) : ok_x_heat T p0 p1 ∧ Q (x_x_heat T p0 p1) := by
  unfold wp_x_heat at w
  unfold ok_x_heat x_x_heat
  refine so_jn (Q := Q) (J := fun (KJ1 : Int32 × St) (OJ1 : Prop) (WKJ1 : Prop) => WKJ1 → OJ1 ∧ Q (KJ1)) w (fun  w => ?_) (fun KJ1 OJ1 WKJ1 hJ1 w => ?_)
  · skip
    obtain ⟨q7, w⟩ := w
    refine so_rq q7 ?_
    refine so_ifT (Q := Q) w (fun c25_5 w => ?_) (fun c25_5 w => ?_)
    · obtain ⟨q8, w⟩ := w
      refine so_rq q8 ?_
      refine so_ifF (Q := Q) w (fun c35_6 w => ?_) (fun c35_6 w => ?_)
      · exact w
      · obtain ⟨q9, w⟩ := w
        refine so_rq q9 ?_
        obtain ⟨q10, w⟩ := w
        refine so_rq q10 ?_
        obtain ⟨q11, w⟩ := w
        refine so_rq q11 ?_
        refine so_n (Q := Q) w (fun T2 w => ?_)
        obtain ⟨q12, w⟩ := w
        refine so_rq q12 ?_
        refine ⟨trivial, ?_⟩
        exact w
    · exact w
  · skip
    refine so_if2 (Q := Q) w (fun c5_7 w => ?_) (fun c5_7 w => ?_)
    · exact hJ1  w
    · refine so_if2 (Q := Q) w (fun c12_8 w => ?_) (fun c12_8 w => ?_)
      · exact hJ1  w
      · obtain ⟨q13, w⟩ := w
        refine so_rq q13 ?_
        refine so_ifT (Q := Q) w (fun c25_9 w => ?_) (fun c25_9 w => ?_)
        · obtain ⟨q14, w⟩ := w
          refine so_rq q14 ?_
          refine so_ifF (Q := Q) w (fun c35_10 w => ?_) (fun c35_10 w => ?_)
          · exact w
          · obtain ⟨q15, w⟩ := w
            refine so_rq q15 ?_
            obtain ⟨q16, w⟩ := w
            refine so_rq q16 ?_
            obtain ⟨q17, w⟩ := w
            refine so_rq q17 ?_
            refine so_n (Q := Q) w (fun T3 w => ?_)
            obtain ⟨q18, w⟩ := w
            refine so_rq q18 ?_
            refine ⟨trivial, ?_⟩
            exact w
        · exact w
def wp_x_wanted (T : St) (p0 : Int32) (p1 : Int32) (p2 : Int32) (Q : Int32 × St → Prop) : Prop := jn (fun (KJ1 : Prop) => ((((x_x_isTime T p0) = 0) → KJ1) ∧ (¬ ((x_x_isTime T p0) = 0) → ((((x_x_isMinute T p1) = 0) → KJ1) ∧ (¬ ((x_x_isMinute T p1) = 0) → (((p2 < 0) → KJ1) ∧ (¬ (p2 < 0) → (((4 ≤ p2) → KJ1) ∧ (¬ (4 ≤ p2) → (ok_x_refusal T 1) ∧ ((((x_x_refusal T 1) = 0) → (ok_x_findsPlan T p0) ∧ (((((x_x_findsPlan T p0).1) = 0) → Q ((-1000000), (x_x_findsPlan T p0).2)) ∧ (¬ (((x_x_findsPlan T p0).1) = 0) → (ok_jd_lay ((x_x_findsPlan T p0).2) (((x_x_findsPlan T p0).2).2.1 0) 76 557) ∧ (vp_in p2 4) ∧ (ok_jd_wantedAt (x_jd_lay ((x_x_findsPlan T p0).2) (((x_x_findsPlan T p0).2).2.1 0) 76 557) 557 p1 (([3, 0, 2, 4] : List Int32).getD (p2 : Int32).toNatClampNeg 0)) ∧ Q (x_jd_wantedAt (x_jd_lay ((x_x_findsPlan T p0).2) (((x_x_findsPlan T p0).2).2.1 0) 76 557) 557 p1 (([3, 0, 2, 4] : List Int32).getD (p2 : Int32).toNatClampNeg 0), x_jd_lay ((x_x_findsPlan T p0).2) (((x_x_findsPlan T p0).2).2.1 0) 76 557)))) ∧ (¬ ((x_x_refusal T 1) = 0) → Q (x_x_refusal T 1, T)))))))))))) ((ok_x_refusal T 0) ∧ ((((x_x_refusal T 0) = 0) → (ok_x_findsPlan T p0) ∧ (((((x_x_findsPlan T p0).1) = 0) → Q ((-1000000), (x_x_findsPlan T p0).2)) ∧ (¬ (((x_x_findsPlan T p0).1) = 0) → (ok_jd_lay ((x_x_findsPlan T p0).2) (((x_x_findsPlan T p0).2).2.1 0) 76 557) ∧ (vp_in p2 4) ∧ (ok_jd_wantedAt (x_jd_lay ((x_x_findsPlan T p0).2) (((x_x_findsPlan T p0).2).2.1 0) 76 557) 557 p1 (([3, 0, 2, 4] : List Int32).getD (p2 : Int32).toNatClampNeg 0)) ∧ Q (x_jd_wantedAt (x_jd_lay ((x_x_findsPlan T p0).2) (((x_x_findsPlan T p0).2).2.1 0) 76 557) 557 p1 (([3, 0, 2, 4] : List Int32).getD (p2 : Int32).toNatClampNeg 0), x_jd_lay ((x_x_findsPlan T p0).2) (((x_x_findsPlan T p0).2).2.1 0) 76 557)))) ∧ (¬ ((x_x_refusal T 0) = 0) → Q (x_x_refusal T 0, T))))
theorem so_x_wanted {T : St} (p0 : Int32) (p1 : Int32) (p2 : Int32) {Q : Int32 × St → Prop} (w : wp_x_wanted T p0 p1 p2 Q) : ok_x_wanted T p0 p1 p2 ∧ Q (x_x_wanted T p0 p1 p2) := by
  unfold wp_x_wanted at w
  unfold ok_x_wanted x_x_wanted
  refine so_jn (Q := Q) (J := fun (KJ1 : Int32 × St) (OJ1 : Prop) (WKJ1 : Prop) => WKJ1 → OJ1 ∧ Q (KJ1)) w (fun  w => ?_) (fun KJ1 OJ1 WKJ1 hJ1 w => ?_)
  · skip
    obtain ⟨q6, w⟩ := w
    refine so_rq q6 ?_
    refine so_ifT (Q := Q) w (fun c39_7 w => ?_) (fun c39_7 w => ?_)
    · obtain ⟨q7, w⟩ := w
      refine so_rq q7 ?_
      refine so_ifF (Q := Q) w (fun c50_8 w => ?_) (fun c50_8 w => ?_)
      · exact w
      · obtain ⟨q8, w⟩ := w
        refine so_rq q8 ?_
        obtain ⟨q9, w⟩ := w
        refine so_rq q9 ?_
        obtain ⟨q10, w⟩ := w
        refine so_rq q10 ?_
        refine ⟨trivial, ?_⟩
        exact w
    · exact w
  · skip
    refine so_if2 (Q := Q) w (fun c5_9 w => ?_) (fun c5_9 w => ?_)
    · exact hJ1  w
    · refine so_if2 (Q := Q) w (fun c12_10 w => ?_) (fun c12_10 w => ?_)
      · exact hJ1  w
      · refine so_if2 (Q := Q) w (fun c16_11 w => ?_) (fun c16_11 w => ?_)
        · exact hJ1  w
        · refine so_if2 (Q := Q) w (fun c24_12 w => ?_) (fun c24_12 w => ?_)
          · exact hJ1  w
          · obtain ⟨q11, w⟩ := w
            refine so_rq q11 ?_
            refine so_ifT (Q := Q) w (fun c39_13 w => ?_) (fun c39_13 w => ?_)
            · obtain ⟨q12, w⟩ := w
              refine so_rq q12 ?_
              refine so_ifF (Q := Q) w (fun c50_14 w => ?_) (fun c50_14 w => ?_)
              · exact w
              · obtain ⟨q13, w⟩ := w
                refine so_rq q13 ?_
                obtain ⟨q14, w⟩ := w
                refine so_rq q14 ?_
                obtain ⟨q15, w⟩ := w
                refine so_rq q15 ?_
                refine ⟨trivial, ?_⟩
                exact w
            · exact w
def bd_x_more_34 (l1 : Int32) (l2 : Int32) (Kk : Int32 → Int32 → St → Prop) (Q : Int32 × St → Prop) (N : Int32 → Int32 → St → Prop) (v3 : Int32) (v4 : Int32) (T : St) : Prop := (sh (T.2.1 0) = .inr 1) ∧ ((((T.1 (T.2.1 0) 4) ≤ v4) → Kk v3 v4 T) ∧ (¬ ((T.1 (T.2.1 0) 4) ≤ v4) → (((((T.1 (T.2.1 0) 17) &&& (1 <<< (v4 &&& 31))) = 0) → (ok_x_isPossible T 76 ((T.1 (T.2.1 0) 17) ||| (1 <<< (v4 &&& 31))) l1) ∧ (((((x_x_isPossible T 76 ((T.1 (T.2.1 0) 17) ||| (1 <<< (v4 &&& 31))) l1).1) = 0) → N v3 (v4 + 1) ((x_x_isPossible T 76 ((T.1 (T.2.1 0) 17) ||| (1 <<< (v4 &&& 31))) l1).2)) ∧ (¬ (((x_x_isPossible T 76 ((T.1 (T.2.1 0) 17) ||| (1 <<< (v4 &&& 31))) l1).1) = 0) → jn (fun (i2 : Int32) => N i2 (v4 + 1) ((x_x_isPossible T 76 ((T.1 (T.2.1 0) 17) ||| (1 <<< (v4 &&& 31))) l1).2)) (v3 ||| (1 <<< (v4 &&& 31)))))) ∧ (¬ (((T.1 (T.2.1 0) 17) &&& (1 <<< (v4 &&& 31))) = 0) → N v3 (v4 + 1) T))))
def wp_x_more_34 (l1 : Int32) (l2 : Int32) (Kk : Int32 → Int32 → St → Prop) (Q : Int32 × St → Prop) : Nat → Int32 → Int32 → St → Prop
  | 0, _, _, _ => False
  | f + 1, v3, v4, T => bd_x_more_34 l1 l2 Kk Q (wp_x_more_34 l1 l2 Kk Q f) v3 v4 T
theorem mb_x_more_34 (l1 : Int32) (l2 : Int32) {Kk Kk2 : Int32 → Int32 → St → Prop} {Q Q2 : Int32 × St → Prop} {N N2 : Int32 → Int32 → St → Prop} (hK : ∀ (v3 : Int32) (v4 : Int32) (T : St), Kk v3 v4 T → Kk2 v3 v4 T) (hQ : ∀ r, Q r → Q2 r) (hN : ∀ (v3 : Int32) (v4 : Int32) (T : St), N v3 v4 T → N2 v3 v4 T) (v3 : Int32) (v4 : Int32) (T : St) (w : bd_x_more_34 l1 l2 Kk Q N v3 v4 T) : bd_x_more_34 l1 l2 Kk2 Q2 N2 v3 v4 T := by
  unfold bd_x_more_34 at w ⊢
  obtain ⟨q3, w⟩ := w
  refine ⟨q3, ?_⟩
  refine mo_if w (fun c43_3 w => ?_) (fun c43_3 w => ?_)
  · exact hK v3 v4 T w
  · refine mo_if w (fun c62_4 w => ?_) (fun c62_4 w => ?_)
    · obtain ⟨q4, w⟩ := w
      refine ⟨q4, ?_⟩
      refine mo_if w (fun c84_5 w => ?_) (fun c84_5 w => ?_)
      · exact hN v3 (v4 + 1) ((x_x_isPossible T 76 ((T.1 (T.2.1 0) 17) ||| (1 <<< (v4 &&& 31))) l1).2) w
      · refine mo_n w (fun i2 w => ?_)
        exact hN i2 (v4 + 1) ((x_x_isPossible T 76 ((T.1 (T.2.1 0) 17) ||| (1 <<< (v4 &&& 31))) l1).2) w
    · exact hN v3 (v4 + 1) T w
theorem mo_x_more_34 (l1 : Int32) (l2 : Int32) {Kk Kk2 : Int32 → Int32 → St → Prop} {Q Q2 : Int32 × St → Prop} (hK : ∀ (v3 : Int32) (v4 : Int32) (T : St), Kk v3 v4 T → Kk2 v3 v4 T) (hQ : ∀ r, Q r → Q2 r) : ∀ (f : Nat) (v3 : Int32) (v4 : Int32) (T : St), wp_x_more_34 l1 l2 Kk Q f v3 v4 T → wp_x_more_34 l1 l2 Kk2 Q2 f v3 v4 T := by
  intro f
  induction f with
  | zero => intro v3 v4 T w; exact w.elim
  | succ f ih => intro v3 v4 T w; exact mb_x_more_34 l1 l2 hK hQ ih v3 v4 T w
theorem wr_x_more_34 (l1 : Int32) (l2 : Int32) {Kk : Int32 → Int32 → St → Prop} {Q : Int32 × St → Prop} (I : Int32 → Int32 → St → Prop) (m : Int32 → Int32 → St → Nat) (hv : ∀ (v3 : Int32) (v4 : Int32) (T : St), I v3 v4 T → bd_x_more_34 l1 l2 Kk Q (fun uv3 uv4 uT => I uv3 uv4 uT ∧ m uv3 uv4 uT < m v3 v4 T) v3 v4 T) : ∀ (f : Nat) (v3 : Int32) (v4 : Int32) (T : St), m v3 v4 T < f → I v3 v4 T → wp_x_more_34 l1 l2 Kk Q f v3 v4 T := by
  intro f
  induction f with
  | zero => intro v3 v4 T h; exact absurd h (Nat.not_lt_zero _)
  | succ f ih => intro v3 v4 T h hi; exact mb_x_more_34 l1 l2 (fun _ _ _ h => h) (fun _ h => h) (fun uv3 uv4 uT g => ih uv3 uv4 uT (by omega) g.1) v3 v4 T (hv v3 v4 T hi)
theorem so_x_more_34 (l1 : Int32) (l2 : Int32) {K : Int32 → Int32 → St → Int32 × St} {Kk Kk2 : Int32 → Int32 → St → Prop} {Q : Int32 × St → Prop} (hk : ∀ (v3 : Int32) (v4 : Int32) (T : St), Kk v3 v4 T → Kk2 v3 v4 T ∧ Q (K v3 v4 T)) : ∀ (f : Nat) (v3 : Int32) (v4 : Int32) (T : St), wp_x_more_34 l1 l2 Kk Q f v3 v4 T → ok_x_more_34 l1 l2 Kk2 f v3 v4 T ∧ Q (x_x_more_34 l1 l2 K f v3 v4 T) := by
  intro f
  induction f with
  | zero => intro v3 v4 T w; exact w.elim
  | succ f ih =>
    intro v3 v4 T w
    rw [wp_x_more_34, bd_x_more_34] at w
    rw [ok_x_more_34, x_x_more_34]
    obtain ⟨q3, w⟩ := w
    refine so_rq q3 ?_
    refine so_if2 (Q := Q) w (fun c43_3 w => ?_) (fun c43_3 w => ?_)
    · exact hk v3 v4 T w
    · refine so_if2 (Q := Q) w (fun c62_4 w => ?_) (fun c62_4 w => ?_)
      · obtain ⟨q4, w⟩ := w
        refine so_rq q4 ?_
        refine so_if2 (Q := Q) w (fun c84_5 w => ?_) (fun c84_5 w => ?_)
        · exact ih v3 (v4 + 1) ((x_x_isPossible T 76 ((T.1 (T.2.1 0) 17) ||| (1 <<< (v4 &&& 31))) l1).2) w
        · refine so_n (Q := Q) w (fun i2 w => ?_)
          exact ih i2 (v4 + 1) ((x_x_isPossible T 76 ((T.1 (T.2.1 0) 17) ||| (1 <<< (v4 &&& 31))) l1).2) w
      · exact ih v3 (v4 + 1) T w
def wp_x_more (T : St) (p0 : Int32) (Q : Int32 × St → Prop) : Prop := (ok_x_refusal T (x_x_isTime T p0)) ∧ jn (fun (i1 : Int32) => (((i1 = 0) → (sh (T.2.1 0) = .inr 1) ∧ (((4 ≤ (x_J_bitCount T (T.1 (T.2.1 0) 17))) → Q (0, T)) ∧ (¬ (4 ≤ (x_J_bitCount T (T.1 (T.2.1 0) 17))) → wp_x_more_34 p0 i1 (fun w1_3 w1_4 T201 => Q (w1_3, T201)) Q 1000 0 0 T))) ∧ (¬ (i1 = 0) → Q (i1, T)))) (x_x_refusal T (x_x_isTime T p0))
theorem so_x_more {T : St} (p0 : Int32) {Q : Int32 × St → Prop} (w : wp_x_more T p0 Q) : ok_x_more T p0 ∧ Q (x_x_more T p0) := by
  unfold wp_x_more at w
  unfold ok_x_more x_x_more
  obtain ⟨q1, w⟩ := w
  refine so_rq q1 ?_
  refine so_n (Q := Q) w (fun i1 w => ?_)
  refine so_ifT (Q := Q) w (fun c10_1 w => ?_) (fun c10_1 w => ?_)
  · obtain ⟨q2, w⟩ := w
    refine so_rq q2 ?_
    refine so_ifF (Q := Q) w (fun c28_2 w => ?_) (fun c28_2 w => ?_)
    · exact w
    · refine so_x_more_34 p0 i1 (fun w1_3 w1_4 T201 w => ?_) 1000 0 0 T w
      refine ⟨trivial, ?_⟩
      exact w
  · exact w
def wp_x_mend (T : St) (p0 : Int32) (p1 : Int32) (Q : Int32 × St → Prop) : Prop := jn (fun (KJ1 : Prop) => ((((x_x_isTime T p0) = 0) → KJ1) ∧ (¬ ((x_x_isTime T p0) = 0) → ((((x_x_isMinute T p1) = 0) → KJ1) ∧ (¬ ((x_x_isMinute T p1) = 0) → (ok_x_refusal T 1) ∧ ((((x_x_refusal T 1) = 0) → (sh (T.2.1 0) = .inr 1) ∧ ((((T.2.2.1 ((T.2.1 0) + 1) (1 : Int32).toNatClampNeg) = 0) → Q ((-1000002), T)) ∧ (¬ ((T.2.2.1 ((T.2.1 0) + 1) (1 : Int32).toNatClampNeg) = 0) → (((60 ≤ (T.1 (T.2.1 0) 18)) → (ok_x_findsPlan T p0) ∧ (((((x_x_findsPlan T p0).1) = 0) → Q ((-1000000), (x_x_findsPlan T p0).2)) ∧ (¬ (((x_x_findsPlan T p0).1) = 0) → (sh (((x_x_findsPlan T p0).2).2.1 0) = .inr 1) ∧ (ok_ki_fit ((x_x_findsPlan T p0).2) 78 (((x_x_findsPlan T p0).2).2.1 0) (((x_x_findsPlan T p0).2).2.2.1 ((((x_x_findsPlan T p0).2).2.1 0) + 1) (5 : Int32).toNatClampNeg) p1) ∧ jn (fun (T5 : St) => (sh (T5.2.1 0) = .inr 1) ∧ (ok_pl_lay T5 (T5.2.1 0) 78 (T5.1 (T5.2.1 0) 17) p0) ∧ (ok_pl_strikeUnlike (x_pl_lay T5 (T5.2.1 0) 78 (T5.1 (T5.2.1 0) 17) p0) 557 p1) ∧ (sh ((x_pl_strikeUnlike (x_pl_lay T5 (T5.2.1 0) 78 (T5.1 (T5.2.1 0) 17) p0) 557 p1).2.1 0) = .inr 1) ∧ (ok_pl_settle (x_pl_strikeUnlike (x_pl_lay T5 (T5.2.1 0) 78 (T5.1 (T5.2.1 0) 17) p0) 557 p1) ((x_pl_strikeUnlike (x_pl_lay T5 (T5.2.1 0) 78 (T5.1 (T5.2.1 0) 17) p0) 557 p1).1 ((x_pl_strikeUnlike (x_pl_lay T5 (T5.2.1 0) 78 (T5.1 (T5.2.1 0) 17) p0) 557 p1).2.1 0) 17)) ∧ jn (fun (T6 : St) => (sh (T6.2.1 0) = .inr 1) ∧ (ok_pl_finds T6 (T6.1 (T6.2.1 0) 17) 0) ∧ (((((x_pl_finds T6 (T6.1 (T6.2.1 0) 17) 0).1) = 0) → Q ((-1000000), (x_pl_finds T6 (T6.1 (T6.2.1 0) 17) 0).2)) ∧ (¬ (((x_pl_finds T6 (T6.1 (T6.2.1 0) 17) 0).1) = 0) → Q (((x_pl_finds T6 (T6.1 (T6.2.1 0) 17) 0).2).1 80 17, (x_pl_finds T6 (T6.1 (T6.2.1 0) 17) 0).2)))) (x_pl_settle (x_pl_strikeUnlike (x_pl_lay T5 (T5.2.1 0) 78 (T5.1 (T5.2.1 0) 17) p0) 557 p1) ((x_pl_strikeUnlike (x_pl_lay T5 (T5.2.1 0) 78 (T5.1 (T5.2.1 0) 17) p0) 557 p1).1 ((x_pl_strikeUnlike (x_pl_lay T5 (T5.2.1 0) 78 (T5.1 (T5.2.1 0) 17) p0) 557 p1).2.1 0) 17))) (x_ki_fit ((x_x_findsPlan T p0).2) 78 (((x_x_findsPlan T p0).2).2.1 0) (((x_x_findsPlan T p0).2).2.2.1 ((((x_x_findsPlan T p0).2).2.1 0) + 1) (5 : Int32).toNatClampNeg) p1)))) ∧ (¬ (60 ≤ (T.1 (T.2.1 0) 18)) → Q ((-1000002), T)))))) ∧ (¬ ((x_x_refusal T 1) = 0) → Q (x_x_refusal T 1, T)))))))) ((ok_x_refusal T 0) ∧ ((((x_x_refusal T 0) = 0) → (sh (T.2.1 0) = .inr 1) ∧ ((((T.2.2.1 ((T.2.1 0) + 1) (1 : Int32).toNatClampNeg) = 0) → Q ((-1000002), T)) ∧ (¬ ((T.2.2.1 ((T.2.1 0) + 1) (1 : Int32).toNatClampNeg) = 0) → (((60 ≤ (T.1 (T.2.1 0) 18)) → (ok_x_findsPlan T p0) ∧ (((((x_x_findsPlan T p0).1) = 0) → Q ((-1000000), (x_x_findsPlan T p0).2)) ∧ (¬ (((x_x_findsPlan T p0).1) = 0) → (sh (((x_x_findsPlan T p0).2).2.1 0) = .inr 1) ∧ (ok_ki_fit ((x_x_findsPlan T p0).2) 78 (((x_x_findsPlan T p0).2).2.1 0) (((x_x_findsPlan T p0).2).2.2.1 ((((x_x_findsPlan T p0).2).2.1 0) + 1) (5 : Int32).toNatClampNeg) p1) ∧ jn (fun (T3 : St) => (sh (T3.2.1 0) = .inr 1) ∧ (ok_pl_lay T3 (T3.2.1 0) 78 (T3.1 (T3.2.1 0) 17) p0) ∧ (ok_pl_strikeUnlike (x_pl_lay T3 (T3.2.1 0) 78 (T3.1 (T3.2.1 0) 17) p0) 557 p1) ∧ (sh ((x_pl_strikeUnlike (x_pl_lay T3 (T3.2.1 0) 78 (T3.1 (T3.2.1 0) 17) p0) 557 p1).2.1 0) = .inr 1) ∧ (ok_pl_settle (x_pl_strikeUnlike (x_pl_lay T3 (T3.2.1 0) 78 (T3.1 (T3.2.1 0) 17) p0) 557 p1) ((x_pl_strikeUnlike (x_pl_lay T3 (T3.2.1 0) 78 (T3.1 (T3.2.1 0) 17) p0) 557 p1).1 ((x_pl_strikeUnlike (x_pl_lay T3 (T3.2.1 0) 78 (T3.1 (T3.2.1 0) 17) p0) 557 p1).2.1 0) 17)) ∧ jn (fun (T4 : St) => (sh (T4.2.1 0) = .inr 1) ∧ (ok_pl_finds T4 (T4.1 (T4.2.1 0) 17) 0) ∧ (((((x_pl_finds T4 (T4.1 (T4.2.1 0) 17) 0).1) = 0) → Q ((-1000000), (x_pl_finds T4 (T4.1 (T4.2.1 0) 17) 0).2)) ∧ (¬ (((x_pl_finds T4 (T4.1 (T4.2.1 0) 17) 0).1) = 0) → Q (((x_pl_finds T4 (T4.1 (T4.2.1 0) 17) 0).2).1 80 17, (x_pl_finds T4 (T4.1 (T4.2.1 0) 17) 0).2)))) (x_pl_settle (x_pl_strikeUnlike (x_pl_lay T3 (T3.2.1 0) 78 (T3.1 (T3.2.1 0) 17) p0) 557 p1) ((x_pl_strikeUnlike (x_pl_lay T3 (T3.2.1 0) 78 (T3.1 (T3.2.1 0) 17) p0) 557 p1).1 ((x_pl_strikeUnlike (x_pl_lay T3 (T3.2.1 0) 78 (T3.1 (T3.2.1 0) 17) p0) 557 p1).2.1 0) 17))) (x_ki_fit ((x_x_findsPlan T p0).2) 78 (((x_x_findsPlan T p0).2).2.1 0) (((x_x_findsPlan T p0).2).2.2.1 ((((x_x_findsPlan T p0).2).2.1 0) + 1) (5 : Int32).toNatClampNeg) p1)))) ∧ (¬ (60 ≤ (T.1 (T.2.1 0) 18)) → Q ((-1000002), T)))))) ∧ (¬ ((x_x_refusal T 0) = 0) → Q (x_x_refusal T 0, T))))
theorem so_x_mend {T : St} (p0 : Int32) (p1 : Int32) {Q : Int32 × St → Prop} (w : wp_x_mend T p0 p1 Q) : ok_x_mend T p0 p1 ∧ Q (x_x_mend T p0 p1) := by
  unfold wp_x_mend at w
  unfold ok_x_mend x_x_mend
  refine so_jn (Q := Q) (J := fun (KJ1 : Int32 × St) (OJ1 : Prop) (WKJ1 : Prop) => WKJ1 → OJ1 ∧ Q (KJ1)) w (fun  w => ?_) (fun KJ1 OJ1 WKJ1 hJ1 w => ?_)
  · skip
    obtain ⟨q13, w⟩ := w
    refine so_rq q13 ?_
    refine so_ifT (Q := Q) w (fun c25_8 w => ?_) (fun c25_8 w => ?_)
    · obtain ⟨q14, w⟩ := w
      refine so_rq q14 ?_
      refine so_ifF (Q := Q) w (fun c39_9 w => ?_) (fun c39_9 w => ?_)
      · exact w
      · refine so_ifT (Q := Q) w (fun c51_10 w => ?_) (fun c51_10 w => ?_)
        · obtain ⟨q15, w⟩ := w
          refine so_rq q15 ?_
          refine so_ifF (Q := Q) w (fun c62_11 w => ?_) (fun c62_11 w => ?_)
          · exact w
          · obtain ⟨q16, w⟩ := w
            refine so_rq q16 ?_
            obtain ⟨q17, w⟩ := w
            refine so_rq q17 ?_
            refine so_n (Q := Q) w (fun T3 w => ?_)
            obtain ⟨q18, w⟩ := w
            refine so_rq q18 ?_
            obtain ⟨q19, w⟩ := w
            refine so_rq q19 ?_
            obtain ⟨q20, w⟩ := w
            refine so_rq q20 ?_
            obtain ⟨q21, w⟩ := w
            refine so_rq q21 ?_
            obtain ⟨q22, w⟩ := w
            refine so_rq q22 ?_
            refine so_n (Q := Q) w (fun T4 w => ?_)
            obtain ⟨q23, w⟩ := w
            refine so_rq q23 ?_
            obtain ⟨q24, w⟩ := w
            refine so_rq q24 ?_
            refine ⟨trivial, ?_⟩
            refine so_if0 (Q := Q) w (fun c153_12 w => ?_) (fun c153_12 w => ?_)
            · exact w
            · exact w
        · exact w
    · exact w
  · skip
    refine so_if2 (Q := Q) w (fun c5_13 w => ?_) (fun c5_13 w => ?_)
    · exact hJ1  w
    · refine so_if2 (Q := Q) w (fun c12_14 w => ?_) (fun c12_14 w => ?_)
      · exact hJ1  w
      · obtain ⟨q25, w⟩ := w
        refine so_rq q25 ?_
        refine so_ifT (Q := Q) w (fun c25_15 w => ?_) (fun c25_15 w => ?_)
        · obtain ⟨q26, w⟩ := w
          refine so_rq q26 ?_
          refine so_ifF (Q := Q) w (fun c39_16 w => ?_) (fun c39_16 w => ?_)
          · exact w
          · refine so_ifT (Q := Q) w (fun c51_17 w => ?_) (fun c51_17 w => ?_)
            · obtain ⟨q27, w⟩ := w
              refine so_rq q27 ?_
              refine so_ifF (Q := Q) w (fun c62_18 w => ?_) (fun c62_18 w => ?_)
              · exact w
              · obtain ⟨q28, w⟩ := w
                refine so_rq q28 ?_
                obtain ⟨q29, w⟩ := w
                refine so_rq q29 ?_
                refine so_n (Q := Q) w (fun T5 w => ?_)
                obtain ⟨q30, w⟩ := w
                refine so_rq q30 ?_
                obtain ⟨q31, w⟩ := w
                refine so_rq q31 ?_
                obtain ⟨q32, w⟩ := w
                refine so_rq q32 ?_
                obtain ⟨q33, w⟩ := w
                refine so_rq q33 ?_
                obtain ⟨q34, w⟩ := w
                refine so_rq q34 ?_
                refine so_n (Q := Q) w (fun T6 w => ?_)
                obtain ⟨q35, w⟩ := w
                refine so_rq q35 ?_
                obtain ⟨q36, w⟩ := w
                refine so_rq q36 ?_
                refine ⟨trivial, ?_⟩
                refine so_if0 (Q := Q) w (fun c153_19 w => ?_) (fun c153_19 w => ?_)
                · exact w
                · exact w
            · exact w
        · exact w
