def bd_m_addPan_8 (l1 : Int32) (l2 : Int32) (l3 : Int32) (Kk : Int32 → St → Prop) (Q : St → Prop) (N : Int32 → St → Prop) (v4 : Int32) (T : St) : Prop := (((((60 * l1) + l3) ≤ v4) → Kk v4 T) ∧ (¬ (((60 * l1) + l3) ≤ v4) → (vp_in v4 300) ∧ N (v4 + 1) (sA T 582 (v4 : Int32).toNatClampNeg ((T.2.2.1 582 (v4 : Int32).toNatClampNeg) + 1))))
def wp_m_addPan_8 (l1 : Int32) (l2 : Int32) (l3 : Int32) (Kk : Int32 → St → Prop) (Q : St → Prop) : Nat → Int32 → St → Prop
  | 0, _, _ => False
  | f + 1, v4, T => bd_m_addPan_8 l1 l2 l3 Kk Q (wp_m_addPan_8 l1 l2 l3 Kk Q f) v4 T
theorem mb_m_addPan_8 (l1 : Int32) (l2 : Int32) (l3 : Int32) {Kk Kk2 : Int32 → St → Prop} {Q Q2 : St → Prop} {N N2 : Int32 → St → Prop} (hK : ∀ (v4 : Int32) (T : St), Kk v4 T → Kk2 v4 T) (hQ : ∀ r, Q r → Q2 r) (hN : ∀ (v4 : Int32) (T : St), N v4 T → N2 v4 T) (v4 : Int32) (T : St) (w : bd_m_addPan_8 l1 l2 l3 Kk Q N v4 T) : bd_m_addPan_8 l1 l2 l3 Kk2 Q2 N2 v4 T := by
  unfold bd_m_addPan_8 at w ⊢
  refine mo_if w (fun c16_1 w => ?_) (fun c16_1 w => ?_)
  · exact hK v4 T w
  · obtain ⟨q1, w⟩ := w
    refine ⟨q1, ?_⟩
    exact hN (v4 + 1) (sA T 582 (v4 : Int32).toNatClampNeg ((T.2.2.1 582 (v4 : Int32).toNatClampNeg) + 1)) w
theorem mo_m_addPan_8 (l1 : Int32) (l2 : Int32) (l3 : Int32) {Kk Kk2 : Int32 → St → Prop} {Q Q2 : St → Prop} (hK : ∀ (v4 : Int32) (T : St), Kk v4 T → Kk2 v4 T) (hQ : ∀ r, Q r → Q2 r) : ∀ (f : Nat) (v4 : Int32) (T : St), wp_m_addPan_8 l1 l2 l3 Kk Q f v4 T → wp_m_addPan_8 l1 l2 l3 Kk2 Q2 f v4 T := by
  intro f
  induction f with
  | zero => intro v4 T w; exact w.elim
  | succ f ih => intro v4 T w; exact mb_m_addPan_8 l1 l2 l3 hK hQ ih v4 T w
theorem wr_m_addPan_8 (l1 : Int32) (l2 : Int32) (l3 : Int32) {Kk : Int32 → St → Prop} {Q : St → Prop} (I : Int32 → St → Prop) (m : Int32 → St → Nat) (hv : ∀ (v4 : Int32) (T : St), I v4 T → bd_m_addPan_8 l1 l2 l3 Kk Q (fun uv4 uT => I uv4 uT ∧ m uv4 uT < m v4 T) v4 T) : ∀ (f : Nat) (v4 : Int32) (T : St), m v4 T < f → I v4 T → wp_m_addPan_8 l1 l2 l3 Kk Q f v4 T := by
  intro f
  induction f with
  | zero => intro v4 T h; exact absurd h (Nat.not_lt_zero _)
  | succ f ih => intro v4 T h hi; exact mb_m_addPan_8 l1 l2 l3 (fun _ _ h => h) (fun _ h => h) (fun uv4 uT g => ih uv4 uT (by omega) g.1) v4 T (hv v4 T hi)
theorem so_m_addPan_8 (l1 : Int32) (l2 : Int32) (l3 : Int32) {K : Int32 → St → St} {Kk Kk2 : Int32 → St → Prop} {Q : St → Prop} (hk : ∀ (v4 : Int32) (T : St), Kk v4 T → Kk2 v4 T ∧ Q (K v4 T)) : ∀ (f : Nat) (v4 : Int32) (T : St), wp_m_addPan_8 l1 l2 l3 Kk Q f v4 T → ok_m_addPan_8 l1 l2 l3 Kk2 f v4 T ∧ Q (x_m_addPan_8 l1 l2 l3 K f v4 T) := by
  intro f
  induction f with
  | zero => intro v4 T w; exact w.elim
  | succ f ih =>
    intro v4 T w
    rw [wp_m_addPan_8, bd_m_addPan_8] at w
    rw [ok_m_addPan_8, x_m_addPan_8]
    refine so_if2 (Q := Q) w (fun c16_1 w => ?_) (fun c16_1 w => ?_)
    · exact hk v4 T w
    · obtain ⟨q1, w⟩ := w
      refine so_rq q1 ?_
      exact ih (v4 + 1) (sA T 582 (v4 : Int32).toNatClampNeg ((T.2.2.1 582 (v4 : Int32).toNatClampNeg) + 1)) w
def wp_m_addPan (T : St) (p0 : Int32) (p1 : Int32) (p2 : Int32) (Q : St → Prop) : Prop := wp_m_addPan_8 p0 p1 p2 (fun w1_4 T201 => Q T201) Q 1000 ((60 * p0) + p1) T
theorem so_m_addPan {T : St} (p0 : Int32) (p1 : Int32) (p2 : Int32) {Q : St → Prop} (w : wp_m_addPan T p0 p1 p2 Q) : ok_m_addPan T p0 p1 p2 ∧ Q (x_m_addPan T p0 p1 p2) := by
  unfold wp_m_addPan at w
  unfold ok_m_addPan x_m_addPan
  refine so_m_addPan_8 p0 p1 p2 (fun w1_4 T201 w => ?_) 1000 ((60 * p0) + p1) T w
  refine ⟨trivial, ?_⟩
  exact w
def bd_m_lacks_9 (T : St) (l1 : Int32) (l2 : Int32) (l3 : Int32) (Kk : Int32 → Int32 → Int32 → Prop) (Q : Int32 → Prop) (N : Int32 → Int32 → Int32 → Prop) (v4 : Int32) (v5 : Int32) (v6 : Int32) : Prop := (((60 ≤ v6) → Kk v4 v5 v6) ∧ (¬ (60 ≤ v6) → (vp_in ((60 * l1) + v6) 300) ∧ jn (fun (KJ1 : Int32 → Prop) => ((((v4 - (T.2.2.1 575 (4 : Int32).toNatClampNeg)) ≤ (T.2.2.1 583 ((60 * l1) + v6 : Int32).toNatClampNeg)) → KJ1 (T.2.2.1 583 ((60 * l1) + v6 : Int32).toNatClampNeg)) ∧ (¬ ((v4 - (T.2.2.1 575 (4 : Int32).toNatClampNeg)) ≤ (T.2.2.1 583 ((60 * l1) + v6 : Int32).toNatClampNeg)) → KJ1 (v4 - (T.2.2.1 575 (4 : Int32).toNatClampNeg))))) (fun (j1_s0 : Int32) => jn (fun (KJ2 : Int32 → Prop) => ((((T.2.2.1 584 ((60 * l1) + v6 : Int32).toNatClampNeg) ≤ (v5 + (T.2.2.1 575 (3 : Int32).toNatClampNeg))) → KJ2 (T.2.2.1 584 ((60 * l1) + v6 : Int32).toNatClampNeg)) ∧ (¬ ((T.2.2.1 584 ((60 * l1) + v6 : Int32).toNatClampNeg) ≤ (v5 + (T.2.2.1 575 (3 : Int32).toNatClampNeg))) → KJ2 (v5 + (T.2.2.1 575 (3 : Int32).toNatClampNeg))))) (fun (j2_s0 : Int32) => jn (fun (KJ3 : Int32 → Prop) => ((((T.2.2.1 578 ((60 * l1) + v6 : Int32).toNatClampNeg) ≤ (x_m_bigOnes T v6 l3)) → ((((T.2.2.1 579 ((60 * l1) + v6 : Int32).toNatClampNeg) ≤ ((T.2.2.1 575 (0 : Int32).toNatClampNeg) + (x_m_bigOnes T v6 l3))) → ((((T.2.2.1 580 ((60 * l1) + v6 : Int32).toNatClampNeg) ≤ (T.2.2.1 575 (2 : Int32).toNatClampNeg)) → (((j1_s0 ≤ j2_s0) → (ok_m_handsAt T v6 l2) ∧ ((((T.2.2.1 581 ((60 * l1) + v6 : Int32).toNatClampNeg) ≤ (x_m_handsAt T v6 l2)) → ((((T.2.2.1 582 ((60 * l1) + v6 : Int32).toNatClampNeg) ≤ (T.2.2.1 575 (6 : Int32).toNatClampNeg)) → KJ3 0) ∧ (¬ ((T.2.2.1 582 ((60 * l1) + v6 : Int32).toNatClampNeg) ≤ (T.2.2.1 575 (6 : Int32).toNatClampNeg)) → KJ3 6))) ∧ (¬ ((T.2.2.1 581 ((60 * l1) + v6 : Int32).toNatClampNeg) ≤ (x_m_handsAt T v6 l2)) → KJ3 5))) ∧ (¬ (j1_s0 ≤ j2_s0) → KJ3 4))) ∧ (¬ ((T.2.2.1 580 ((60 * l1) + v6 : Int32).toNatClampNeg) ≤ (T.2.2.1 575 (2 : Int32).toNatClampNeg)) → KJ3 3))) ∧ (¬ ((T.2.2.1 579 ((60 * l1) + v6 : Int32).toNatClampNeg) ≤ ((T.2.2.1 575 (0 : Int32).toNatClampNeg) + (x_m_bigOnes T v6 l3))) → KJ3 2))) ∧ (¬ ((T.2.2.1 578 ((60 * l1) + v6 : Int32).toNatClampNeg) ≤ (x_m_bigOnes T v6 l3)) → KJ3 1))) (fun (j3_s0 : Int32) => (((j3_s0 ≤ 0) → N j1_s0 j2_s0 (v6 + 1)) ∧ (¬ (j3_s0 ≤ 0) → Q ((10 * v6) + j3_s0))))))))
def wp_m_lacks_9 (T : St) (l1 : Int32) (l2 : Int32) (l3 : Int32) (Kk : Int32 → Int32 → Int32 → Prop) (Q : Int32 → Prop) : Nat → Int32 → Int32 → Int32 → Prop
  | 0, _, _, _ => False
  | f + 1, v4, v5, v6 => bd_m_lacks_9 T l1 l2 l3 Kk Q (wp_m_lacks_9 T l1 l2 l3 Kk Q f) v4 v5 v6
theorem mb_m_lacks_9 (T : St) (l1 : Int32) (l2 : Int32) (l3 : Int32) {Kk Kk2 : Int32 → Int32 → Int32 → Prop} {Q Q2 : Int32 → Prop} {N N2 : Int32 → Int32 → Int32 → Prop} (hK : ∀ (v4 : Int32) (v5 : Int32) (v6 : Int32), Kk v4 v5 v6 → Kk2 v4 v5 v6) (hQ : ∀ r, Q r → Q2 r) (hN : ∀ (v4 : Int32) (v5 : Int32) (v6 : Int32), N v4 v5 v6 → N2 v4 v5 v6) (v4 : Int32) (v5 : Int32) (v6 : Int32) (w : bd_m_lacks_9 T l1 l2 l3 Kk Q N v4 v5 v6) : bd_m_lacks_9 T l1 l2 l3 Kk2 Q2 N2 v4 v5 v6 := by
  unfold bd_m_lacks_9 at w ⊢
  refine mo_if w (fun c13_1 w => ?_) (fun c13_1 w => ?_)
  · exact hK v4 v5 v6 w
  · obtain ⟨q1, w⟩ := w
    refine ⟨q1, ?_⟩
    refine mo_jn (J := fun (KJ1 : Int32 → Prop) (WKJ1 : Int32 → Prop) => ∀ (j1_s0 : Int32), KJ1 j1_s0 → WKJ1 j1_s0) w (fun j1_s0 w => ?_) (fun KJ1 WKJ1 hJ1 w => ?_)
    · skip
      refine mo_jn (J := fun (KJ2 : Int32 → Prop) (WKJ2 : Int32 → Prop) => ∀ (j2_s0 : Int32), KJ2 j2_s0 → WKJ2 j2_s0) w (fun j2_s0 w => ?_) (fun KJ2 WKJ2 hJ2 w => ?_)
      · skip
        refine mo_jn (J := fun (KJ3 : Int32 → Prop) (WKJ3 : Int32 → Prop) => ∀ (j3_s0 : Int32), KJ3 j3_s0 → WKJ3 j3_s0) w (fun j3_s0 w => ?_) (fun KJ3 WKJ3 hJ3 w => ?_)
        · skip
          refine mo_if w (fun c232_10 w => ?_) (fun c232_10 w => ?_)
          · exact hN j1_s0 j2_s0 (v6 + 1) w
          · exact hQ _ w
        · skip
          refine mo_if w (fun c123_11 w => ?_) (fun c123_11 w => ?_)
          · refine mo_if w (fun c146_12 w => ?_) (fun c146_12 w => ?_)
            · refine mo_if w (fun c166_13 w => ?_) (fun c166_13 w => ?_)
              · refine mo_if w (fun c177_14 w => ?_) (fun c177_14 w => ?_)
                · obtain ⟨q3, w⟩ := w
                  refine ⟨q3, ?_⟩
                  refine mo_if w (fun c198_15 w => ?_) (fun c198_15 w => ?_)
                  · refine mo_if w (fun c219_16 w => ?_) (fun c219_16 w => ?_)
                    · exact hJ3 0 w
                    · exact hJ3 6 w
                  · exact hJ3 5 w
                · exact hJ3 4 w
              · exact hJ3 3 w
            · exact hJ3 2 w
          · exact hJ3 1 w
      · skip
        refine mo_if w (fun c81_17 w => ?_) (fun c81_17 w => ?_)
        · exact hJ2 (T.2.2.1 584 ((60 * l1) + v6 : Int32).toNatClampNeg) w
        · exact hJ2 (v5 + (T.2.2.1 575 (3 : Int32).toNatClampNeg)) w
    · skip
      refine mo_if w (fun c41_18 w => ?_) (fun c41_18 w => ?_)
      · exact hJ1 (T.2.2.1 583 ((60 * l1) + v6 : Int32).toNatClampNeg) w
      · exact hJ1 (v4 - (T.2.2.1 575 (4 : Int32).toNatClampNeg)) w
theorem mo_m_lacks_9 (T : St) (l1 : Int32) (l2 : Int32) (l3 : Int32) {Kk Kk2 : Int32 → Int32 → Int32 → Prop} {Q Q2 : Int32 → Prop} (hK : ∀ (v4 : Int32) (v5 : Int32) (v6 : Int32), Kk v4 v5 v6 → Kk2 v4 v5 v6) (hQ : ∀ r, Q r → Q2 r) : ∀ (f : Nat) (v4 : Int32) (v5 : Int32) (v6 : Int32), wp_m_lacks_9 T l1 l2 l3 Kk Q f v4 v5 v6 → wp_m_lacks_9 T l1 l2 l3 Kk2 Q2 f v4 v5 v6 := by
  intro f
  induction f with
  | zero => intro v4 v5 v6 w; exact w.elim
  | succ f ih => intro v4 v5 v6 w; exact mb_m_lacks_9 T l1 l2 l3 hK hQ ih v4 v5 v6 w
theorem wr_m_lacks_9 (T : St) (l1 : Int32) (l2 : Int32) (l3 : Int32) {Kk : Int32 → Int32 → Int32 → Prop} {Q : Int32 → Prop} (I : Int32 → Int32 → Int32 → Prop) (m : Int32 → Int32 → Int32 → Nat) (hv : ∀ (v4 : Int32) (v5 : Int32) (v6 : Int32), I v4 v5 v6 → bd_m_lacks_9 T l1 l2 l3 Kk Q (fun uv4 uv5 uv6 => I uv4 uv5 uv6 ∧ m uv4 uv5 uv6 < m v4 v5 v6) v4 v5 v6) : ∀ (f : Nat) (v4 : Int32) (v5 : Int32) (v6 : Int32), m v4 v5 v6 < f → I v4 v5 v6 → wp_m_lacks_9 T l1 l2 l3 Kk Q f v4 v5 v6 := by
  intro f
  induction f with
  | zero => intro v4 v5 v6 h; exact absurd h (Nat.not_lt_zero _)
  | succ f ih => intro v4 v5 v6 h hi; exact mb_m_lacks_9 T l1 l2 l3 (fun _ _ _ h => h) (fun _ h => h) (fun uv4 uv5 uv6 g => ih uv4 uv5 uv6 (by omega) g.1) v4 v5 v6 (hv v4 v5 v6 hi)
theorem so_m_lacks_9 (T : St) (l1 : Int32) (l2 : Int32) (l3 : Int32) {K : Int32 → Int32 → Int32 → Int32} {Kk Kk2 : Int32 → Int32 → Int32 → Prop} {Q : Int32 → Prop} (hk : ∀ (v4 : Int32) (v5 : Int32) (v6 : Int32), Kk v4 v5 v6 → Kk2 v4 v5 v6 ∧ Q (K v4 v5 v6)) : ∀ (f : Nat) (v4 : Int32) (v5 : Int32) (v6 : Int32), wp_m_lacks_9 T l1 l2 l3 Kk Q f v4 v5 v6 → ok_m_lacks_9 T l1 l2 l3 Kk2 f v4 v5 v6 ∧ Q (x_m_lacks_9 T l1 l2 l3 K f v4 v5 v6) := by
  intro f
  induction f with
  | zero => intro v4 v5 v6 w; exact w.elim
  | succ f ih =>
    intro v4 v5 v6 w
    rw [wp_m_lacks_9, bd_m_lacks_9] at w
    rw [ok_m_lacks_9, x_m_lacks_9]
    refine so_if2 (Q := Q) w (fun c13_1 w => ?_) (fun c13_1 w => ?_)
    · exact hk v4 v5 v6 w
    · obtain ⟨q1, w⟩ := w
      refine so_rq q1 ?_
      refine so_jn (Q := Q) (J := fun (KJ1 : Int32 → Int32) (OJ1 : Int32 → Prop) (WKJ1 : Int32 → Prop) => ∀ (j1_s0 : Int32), WKJ1 j1_s0 → OJ1 j1_s0 ∧ Q (KJ1 j1_s0)) w (fun j1_s0 w => ?_) (fun KJ1 OJ1 WKJ1 hJ1 w => ?_)
      · skip
        refine so_jn (Q := Q) (J := fun (KJ2 : Int32 → Int32) (OJ2 : Int32 → Prop) (WKJ2 : Int32 → Prop) => ∀ (j2_s0 : Int32), WKJ2 j2_s0 → OJ2 j2_s0 ∧ Q (KJ2 j2_s0)) w (fun j2_s0 w => ?_) (fun KJ2 OJ2 WKJ2 hJ2 w => ?_)
        · skip
          refine so_jn (Q := Q) (J := fun (KJ3 : Int32 → Int32) (OJ3 : Int32 → Prop) (WKJ3 : Int32 → Prop) => ∀ (j3_s0 : Int32), WKJ3 j3_s0 → OJ3 j3_s0 ∧ Q (KJ3 j3_s0)) w (fun j3_s0 w => ?_) (fun KJ3 OJ3 WKJ3 hJ3 w => ?_)
          · skip
            refine so_ifT (Q := Q) w (fun c232_10 w => ?_) (fun c232_10 w => ?_)
            · exact ih j1_s0 j2_s0 (v6 + 1) w
            · exact w
          · skip
            refine so_if2 (Q := Q) w (fun c123_11 w => ?_) (fun c123_11 w => ?_)
            · refine so_if2 (Q := Q) w (fun c146_12 w => ?_) (fun c146_12 w => ?_)
              · refine so_if2 (Q := Q) w (fun c166_13 w => ?_) (fun c166_13 w => ?_)
                · refine so_if2 (Q := Q) w (fun c177_14 w => ?_) (fun c177_14 w => ?_)
                  · obtain ⟨q3, w⟩ := w
                    refine so_rq q3 ?_
                    refine so_if2 (Q := Q) w (fun c198_15 w => ?_) (fun c198_15 w => ?_)
                    · refine so_if2 (Q := Q) w (fun c219_16 w => ?_) (fun c219_16 w => ?_)
                      · exact hJ3 0 w
                      · exact hJ3 6 w
                    · exact hJ3 5 w
                  · exact hJ3 4 w
                · exact hJ3 3 w
              · exact hJ3 2 w
            · exact hJ3 1 w
        · skip
          refine so_if2 (Q := Q) w (fun c81_17 w => ?_) (fun c81_17 w => ?_)
          · exact hJ2 (T.2.2.1 584 ((60 * l1) + v6 : Int32).toNatClampNeg) w
          · exact hJ2 (v5 + (T.2.2.1 575 (3 : Int32).toNatClampNeg)) w
      · skip
        refine so_if2 (Q := Q) w (fun c41_18 w => ?_) (fun c41_18 w => ?_)
        · exact hJ1 (T.2.2.1 583 ((60 * l1) + v6 : Int32).toNatClampNeg) w
        · exact hJ1 (v4 - (T.2.2.1 575 (4 : Int32).toNatClampNeg)) w
def wp_m_lacks (T : St) (p0 : Int32) (p1 : Int32) (p2 : Int32) (Q : Int32 → Prop) : Prop := wp_m_lacks_9 T p0 p1 p2 (fun w1_4 w1_5 w1_6 => Q (-1000000)) Q 1000 0 0 0
theorem so_m_lacks {T : St} (p0 : Int32) (p1 : Int32) (p2 : Int32) {Q : Int32 → Prop} (w : wp_m_lacks T p0 p1 p2 Q) : ok_m_lacks T p0 p1 p2 ∧ Q (x_m_lacks T p0 p1 p2) := by
  unfold wp_m_lacks at w
  unfold ok_m_lacks x_m_lacks
  refine so_m_lacks_9 T p0 p1 p2 (fun w1_4 w1_5 w1_6  w => ?_) 1000 0 0 0 w
  refine ⟨trivial, ?_⟩
  exact w
def bd_m_layBegins_92 (l1 : Int32) (l2 : Int32) (l3 : Int32) (l4 : Int32) (l5 : Int32) (l6 : Int32) (l7 : Int32) (l8 : Int32) (Kk : Int32 → Int32 → Int32 → Int32 → Int32 → St → Prop) (Q : Int32 × St → Prop) (N : Int32 → Int32 → Int32 → Int32 → Int32 → St → Prop) (v9 : Int32) (v10 : Int32) (v11 : Int32) (v12 : Int32) (v13 : Int32) (T : St) : Prop := (((v13 < 0) → Kk v9 v10 v11 v12 v13 T) ∧ (¬ (v13 < 0) → (ok_m_dishOf T l3 4) ∧ jn (fun (i8 : Int32) => jn (fun (KJ1 : Int32 → Prop) => (((v13 = (l4 - 1)) → KJ1 0) ∧ (¬ (v13 = (l4 - 1)) → (((v13 = 0) → KJ1 l7) ∧ (¬ (v13 = 0) → KJ1 l8))))) (fun (j1_s0 : Int32) => (ok_m_stepOf T i8 1) ∧ (vp_in ((3 * l1) + v13) 12) ∧ jn (fun (i9 : Int32) => (ok_m_stepOf (sA T 588 ((3 * l1) + v13 : Int32).toNatClampNeg ((v9 - j1_s0) - (x_m_stepOf T i8 1))) i8 0) ∧ jn (fun (KJ2 : Int32 → Prop) => ((((x_m_stepOf (sA T 588 ((3 * l1) + v13 : Int32).toNatClampNeg ((v9 - j1_s0) - (x_m_stepOf T i8 1))) i8 0) = 5) → (ok_m_stepOf (sA T 588 ((3 * l1) + v13 : Int32).toNatClampNeg ((v9 - j1_s0) - (x_m_stepOf T i8 1))) i8 4) ∧ (ok_m_stepOf (sA T 588 ((3 * l1) + v13 : Int32).toNatClampNeg ((v9 - j1_s0) - (x_m_stepOf T i8 1))) i8 1) ∧ KJ2 ((x_m_stepOf (sA T 588 ((3 * l1) + v13 : Int32).toNatClampNeg ((v9 - j1_s0) - (x_m_stepOf T i8 1))) i8 4) * (x_m_stepOf (sA T 588 ((3 * l1) + v13 : Int32).toNatClampNeg ((v9 - j1_s0) - (x_m_stepOf T i8 1))) i8 1))) ∧ (¬ ((x_m_stepOf (sA T 588 ((3 * l1) + v13 : Int32).toNatClampNeg ((v9 - j1_s0) - (x_m_stepOf T i8 1))) i8 0) = 5) → KJ2 0))) (fun (j2_s1 : Int32) => (((v12 = 0) → N i9 (v10 + j1_s0) (v11 + j2_s1) 0 (v13 + (-1)) (sA T 588 ((3 * l1) + v13 : Int32).toNatClampNeg ((v9 - j1_s0) - (x_m_stepOf T i8 1)))) ∧ (¬ (v12 = 0) → jn (fun (KJ3 : Prop) => (((((sA T 588 ((3 * l1) + v13 : Int32).toNatClampNeg ((v9 - j1_s0) - (x_m_stepOf T i8 1))).1 571 32) ≤ 0) → KJ3) ∧ (¬ (((sA T 588 ((3 * l1) + v13 : Int32).toNatClampNeg ((v9 - j1_s0) - (x_m_stepOf T i8 1))).1 571 32) ≤ 0) → (((((sA T 588 ((3 * l1) + v13 : Int32).toNatClampNeg ((v9 - j1_s0) - (x_m_stepOf T i8 1))).1 571 32) ≤ ((sA T 588 ((3 * l1) + v13 : Int32).toNatClampNeg ((v9 - j1_s0) - (x_m_stepOf T i8 1))).2.2.1 591 ((3 * l1) + v13 : Int32).toNatClampNeg)) → KJ3) ∧ (¬ (((sA T 588 ((3 * l1) + v13 : Int32).toNatClampNeg ((v9 - j1_s0) - (x_m_stepOf T i8 1))).1 571 32) ≤ ((sA T 588 ((3 * l1) + v13 : Int32).toNatClampNeg ((v9 - j1_s0) - (x_m_stepOf T i8 1))).2.2.1 591 ((3 * l1) + v13 : Int32).toNatClampNeg)) → (((i9 = ((sA T 588 ((3 * l1) + v13 : Int32).toNatClampNeg ((v9 - j1_s0) - (x_m_stepOf T i8 1))).2.2.1 591 ((3 * l1) + v13 : Int32).toNatClampNeg)) → N i9 (v10 + j1_s0) (v11 + j2_s1) 1 (v13 + (-1)) (sA T 588 ((3 * l1) + v13 : Int32).toNatClampNeg ((v9 - j1_s0) - (x_m_stepOf T i8 1)))) ∧ (¬ (i9 = ((sA T 588 ((3 * l1) + v13 : Int32).toNatClampNeg ((v9 - j1_s0) - (x_m_stepOf T i8 1))).2.2.1 591 ((3 * l1) + v13 : Int32).toNatClampNeg)) → N i9 (v10 + j1_s0) (v11 + j2_s1) 0 (v13 + (-1)) (sA T 588 ((3 * l1) + v13 : Int32).toNatClampNeg ((v9 - j1_s0) - (x_m_stepOf T i8 1)))))))))) ((((i9 < ((sA T 588 ((3 * l1) + v13 : Int32).toNatClampNeg ((v9 - j1_s0) - (x_m_stepOf T i8 1))).1 571 32)) → N i9 (v10 + j1_s0) (v11 + j2_s1) 0 (v13 + (-1)) (sA T 588 ((3 * l1) + v13 : Int32).toNatClampNeg ((v9 - j1_s0) - (x_m_stepOf T i8 1)))) ∧ (¬ (i9 < ((sA T 588 ((3 * l1) + v13 : Int32).toNatClampNeg ((v9 - j1_s0) - (x_m_stepOf T i8 1))).1 571 32)) → N i9 (v10 + j1_s0) (v11 + j2_s1) 1 (v13 + (-1)) (sA T 588 ((3 * l1) + v13 : Int32).toNatClampNeg ((v9 - j1_s0) - (x_m_stepOf T i8 1)))))))))) ((sA T 588 ((3 * l1) + v13 : Int32).toNatClampNeg ((v9 - j1_s0) - (x_m_stepOf T i8 1))).2.2.1 588 ((3 * l1) + v13 : Int32).toNatClampNeg))) ((x_m_dishOf T l3 4) + v13)))
def wp_m_layBegins_92 (l1 : Int32) (l2 : Int32) (l3 : Int32) (l4 : Int32) (l5 : Int32) (l6 : Int32) (l7 : Int32) (l8 : Int32) (Kk : Int32 → Int32 → Int32 → Int32 → Int32 → St → Prop) (Q : Int32 × St → Prop) : Nat → Int32 → Int32 → Int32 → Int32 → Int32 → St → Prop
  | 0, _, _, _, _, _, _ => False
  | f + 1, v9, v10, v11, v12, v13, T => bd_m_layBegins_92 l1 l2 l3 l4 l5 l6 l7 l8 Kk Q (wp_m_layBegins_92 l1 l2 l3 l4 l5 l6 l7 l8 Kk Q f) v9 v10 v11 v12 v13 T
theorem mb_m_layBegins_92 (l1 : Int32) (l2 : Int32) (l3 : Int32) (l4 : Int32) (l5 : Int32) (l6 : Int32) (l7 : Int32) (l8 : Int32) {Kk Kk2 : Int32 → Int32 → Int32 → Int32 → Int32 → St → Prop} {Q Q2 : Int32 × St → Prop} {N N2 : Int32 → Int32 → Int32 → Int32 → Int32 → St → Prop} (hK : ∀ (v9 : Int32) (v10 : Int32) (v11 : Int32) (v12 : Int32) (v13 : Int32) (T : St), Kk v9 v10 v11 v12 v13 T → Kk2 v9 v10 v11 v12 v13 T) (hQ : ∀ r, Q r → Q2 r) (hN : ∀ (v9 : Int32) (v10 : Int32) (v11 : Int32) (v12 : Int32) (v13 : Int32) (T : St), N v9 v10 v11 v12 v13 T → N2 v9 v10 v11 v12 v13 T) (v9 : Int32) (v10 : Int32) (v11 : Int32) (v12 : Int32) (v13 : Int32) (T : St) (w : bd_m_layBegins_92 l1 l2 l3 l4 l5 l6 l7 l8 Kk Q N v9 v10 v11 v12 v13 T) : bd_m_layBegins_92 l1 l2 l3 l4 l5 l6 l7 l8 Kk2 Q2 N2 v9 v10 v11 v12 v13 T := by
  unfold bd_m_layBegins_92 at w ⊢
  refine mo_if w (fun c94_1 w => ?_) (fun c94_1 w => ?_)
  · exact hK v9 v10 v11 v12 v13 T w
  · obtain ⟨q8, w⟩ := w
    refine ⟨q8, ?_⟩
    refine mo_n w (fun i8 w => ?_)
    refine mo_jn (J := fun (KJ1 : Int32 → Prop) (WKJ1 : Int32 → Prop) => ∀ (j1_s0 : Int32), KJ1 j1_s0 → WKJ1 j1_s0) w (fun j1_s0 w => ?_) (fun KJ1 WKJ1 hJ1 w => ?_)
    · skip
      obtain ⟨q9, w⟩ := w
      refine ⟨q9, ?_⟩
      obtain ⟨q10, w⟩ := w
      refine ⟨q10, ?_⟩
      refine mo_n w (fun i9 w => ?_)
      obtain ⟨q11, w⟩ := w
      refine ⟨q11, ?_⟩
      refine mo_jn (J := fun (KJ2 : Int32 → Prop) (WKJ2 : Int32 → Prop) => ∀ (j2_s1 : Int32), KJ2 j2_s1 → WKJ2 j2_s1) w (fun j2_s1 w => ?_) (fun KJ2 WKJ2 hJ2 w => ?_)
      · skip
        refine mo_if w (fun c216_5 w => ?_) (fun c216_5 w => ?_)
        · exact hN i9 (v10 + j1_s0) (v11 + j2_s1) 0 (v13 + (-1)) (sA T 588 ((3 * l1) + v13 : Int32).toNatClampNeg ((v9 - j1_s0) - (x_m_stepOf T i8 1))) w
        · refine mo_jn (J := fun (KJ3 : Prop) (WKJ3 : Prop) => KJ3 → WKJ3) w (fun  w => ?_) (fun KJ3 WKJ3 hJ3 w => ?_)
          · skip
            refine mo_if w (fun c269_9 w => ?_) (fun c269_9 w => ?_)
            · exact hN i9 (v10 + j1_s0) (v11 + j2_s1) 0 (v13 + (-1)) (sA T 588 ((3 * l1) + v13 : Int32).toNatClampNeg ((v9 - j1_s0) - (x_m_stepOf T i8 1))) w
            · exact hN i9 (v10 + j1_s0) (v11 + j2_s1) 1 (v13 + (-1)) (sA T 588 ((3 * l1) + v13 : Int32).toNatClampNeg ((v9 - j1_s0) - (x_m_stepOf T i8 1))) w
          · skip
            refine mo_if w (fun c223_10 w => ?_) (fun c223_10 w => ?_)
            · exact hJ3  w
            · refine mo_if w (fun c241_11 w => ?_) (fun c241_11 w => ?_)
              · exact hJ3  w
              · refine mo_if w (fun c257_12 w => ?_) (fun c257_12 w => ?_)
                · exact hN i9 (v10 + j1_s0) (v11 + j2_s1) 1 (v13 + (-1)) (sA T 588 ((3 * l1) + v13 : Int32).toNatClampNeg ((v9 - j1_s0) - (x_m_stepOf T i8 1))) w
                · exact hN i9 (v10 + j1_s0) (v11 + j2_s1) 0 (v13 + (-1)) (sA T 588 ((3 * l1) + v13 : Int32).toNatClampNeg ((v9 - j1_s0) - (x_m_stepOf T i8 1))) w
      · skip
        refine mo_if w (fun c189_13 w => ?_) (fun c189_13 w => ?_)
        · obtain ⟨q14, w⟩ := w
          refine ⟨q14, ?_⟩
          obtain ⟨q15, w⟩ := w
          refine ⟨q15, ?_⟩
          exact hJ2 ((x_m_stepOf (sA T 588 ((3 * l1) + v13 : Int32).toNatClampNeg ((v9 - j1_s0) - (x_m_stepOf T i8 1))) i8 4) * (x_m_stepOf (sA T 588 ((3 * l1) + v13 : Int32).toNatClampNeg ((v9 - j1_s0) - (x_m_stepOf T i8 1))) i8 1)) w
        · exact hJ2 0 w
    · skip
      refine mo_if w (fun c114_14 w => ?_) (fun c114_14 w => ?_)
      · exact hJ1 0 w
      · refine mo_if w (fun c123_15 w => ?_) (fun c123_15 w => ?_)
        · exact hJ1 l7 w
        · exact hJ1 l8 w
theorem mo_m_layBegins_92 (l1 : Int32) (l2 : Int32) (l3 : Int32) (l4 : Int32) (l5 : Int32) (l6 : Int32) (l7 : Int32) (l8 : Int32) {Kk Kk2 : Int32 → Int32 → Int32 → Int32 → Int32 → St → Prop} {Q Q2 : Int32 × St → Prop} (hK : ∀ (v9 : Int32) (v10 : Int32) (v11 : Int32) (v12 : Int32) (v13 : Int32) (T : St), Kk v9 v10 v11 v12 v13 T → Kk2 v9 v10 v11 v12 v13 T) (hQ : ∀ r, Q r → Q2 r) : ∀ (f : Nat) (v9 : Int32) (v10 : Int32) (v11 : Int32) (v12 : Int32) (v13 : Int32) (T : St), wp_m_layBegins_92 l1 l2 l3 l4 l5 l6 l7 l8 Kk Q f v9 v10 v11 v12 v13 T → wp_m_layBegins_92 l1 l2 l3 l4 l5 l6 l7 l8 Kk2 Q2 f v9 v10 v11 v12 v13 T := by
  intro f
  induction f with
  | zero => intro v9 v10 v11 v12 v13 T w; exact w.elim
  | succ f ih => intro v9 v10 v11 v12 v13 T w; exact mb_m_layBegins_92 l1 l2 l3 l4 l5 l6 l7 l8 hK hQ ih v9 v10 v11 v12 v13 T w
theorem wr_m_layBegins_92 (l1 : Int32) (l2 : Int32) (l3 : Int32) (l4 : Int32) (l5 : Int32) (l6 : Int32) (l7 : Int32) (l8 : Int32) {Kk : Int32 → Int32 → Int32 → Int32 → Int32 → St → Prop} {Q : Int32 × St → Prop} (I : Int32 → Int32 → Int32 → Int32 → Int32 → St → Prop) (m : Int32 → Int32 → Int32 → Int32 → Int32 → St → Nat) (hv : ∀ (v9 : Int32) (v10 : Int32) (v11 : Int32) (v12 : Int32) (v13 : Int32) (T : St), I v9 v10 v11 v12 v13 T → bd_m_layBegins_92 l1 l2 l3 l4 l5 l6 l7 l8 Kk Q (fun uv9 uv10 uv11 uv12 uv13 uT => I uv9 uv10 uv11 uv12 uv13 uT ∧ m uv9 uv10 uv11 uv12 uv13 uT < m v9 v10 v11 v12 v13 T) v9 v10 v11 v12 v13 T) : ∀ (f : Nat) (v9 : Int32) (v10 : Int32) (v11 : Int32) (v12 : Int32) (v13 : Int32) (T : St), m v9 v10 v11 v12 v13 T < f → I v9 v10 v11 v12 v13 T → wp_m_layBegins_92 l1 l2 l3 l4 l5 l6 l7 l8 Kk Q f v9 v10 v11 v12 v13 T := by
  intro f
  induction f with
  | zero => intro v9 v10 v11 v12 v13 T h; exact absurd h (Nat.not_lt_zero _)
  | succ f ih => intro v9 v10 v11 v12 v13 T h hi; exact mb_m_layBegins_92 l1 l2 l3 l4 l5 l6 l7 l8 (fun _ _ _ _ _ _ h => h) (fun _ h => h) (fun uv9 uv10 uv11 uv12 uv13 uT g => ih uv9 uv10 uv11 uv12 uv13 uT (by omega) g.1) v9 v10 v11 v12 v13 T (hv v9 v10 v11 v12 v13 T hi)
theorem so_m_layBegins_92 (l1 : Int32) (l2 : Int32) (l3 : Int32) (l4 : Int32) (l5 : Int32) (l6 : Int32) (l7 : Int32) (l8 : Int32) {K : Int32 → Int32 → Int32 → Int32 → Int32 → St → Int32 × St} {Kk Kk2 : Int32 → Int32 → Int32 → Int32 → Int32 → St → Prop} {Q : Int32 × St → Prop} (hk : ∀ (v9 : Int32) (v10 : Int32) (v11 : Int32) (v12 : Int32) (v13 : Int32) (T : St), Kk v9 v10 v11 v12 v13 T → Kk2 v9 v10 v11 v12 v13 T ∧ Q (K v9 v10 v11 v12 v13 T)) : ∀ (f : Nat) (v9 : Int32) (v10 : Int32) (v11 : Int32) (v12 : Int32) (v13 : Int32) (T : St), wp_m_layBegins_92 l1 l2 l3 l4 l5 l6 l7 l8 Kk Q f v9 v10 v11 v12 v13 T → ok_m_layBegins_92 l1 l2 l3 l4 l5 l6 l7 l8 Kk2 f v9 v10 v11 v12 v13 T ∧ Q (x_m_layBegins_92 l1 l2 l3 l4 l5 l6 l7 l8 K f v9 v10 v11 v12 v13 T) := by
  intro f
  induction f with
  | zero => intro v9 v10 v11 v12 v13 T w; exact w.elim
  | succ f ih =>
    intro v9 v10 v11 v12 v13 T w
    rw [wp_m_layBegins_92, bd_m_layBegins_92] at w
    rw [ok_m_layBegins_92, x_m_layBegins_92]
    refine so_if2 (Q := Q) w (fun c94_1 w => ?_) (fun c94_1 w => ?_)
    · exact hk v9 v10 v11 v12 v13 T w
    · obtain ⟨q8, w⟩ := w
      refine so_rq q8 ?_
      refine so_n (Q := Q) w (fun i8 w => ?_)
      refine so_jn (Q := Q) (J := fun (KJ1 : Int32 → Int32 × St) (OJ1 : Int32 → Prop) (WKJ1 : Int32 → Prop) => ∀ (j1_s0 : Int32), WKJ1 j1_s0 → OJ1 j1_s0 ∧ Q (KJ1 j1_s0)) w (fun j1_s0 w => ?_) (fun KJ1 OJ1 WKJ1 hJ1 w => ?_)
      · skip
        obtain ⟨q9, w⟩ := w
        refine so_rq q9 ?_
        obtain ⟨q10, w⟩ := w
        refine so_rq q10 ?_
        refine so_n (Q := Q) w (fun i9 w => ?_)
        obtain ⟨q11, w⟩ := w
        refine so_rq q11 ?_
        refine so_jn (Q := Q) (J := fun (KJ2 : Int32 → Int32 × St) (OJ2 : Int32 → Prop) (WKJ2 : Int32 → Prop) => ∀ (j2_s1 : Int32), WKJ2 j2_s1 → OJ2 j2_s1 ∧ Q (KJ2 j2_s1)) w (fun j2_s1 w => ?_) (fun KJ2 OJ2 WKJ2 hJ2 w => ?_)
        · skip
          refine so_if2 (Q := Q) w (fun c216_5 w => ?_) (fun c216_5 w => ?_)
          · exact ih i9 (v10 + j1_s0) (v11 + j2_s1) 0 (v13 + (-1)) (sA T 588 ((3 * l1) + v13 : Int32).toNatClampNeg ((v9 - j1_s0) - (x_m_stepOf T i8 1))) w
          · refine so_jn (Q := Q) (J := fun (KJ3 : Int32 × St) (OJ3 : Prop) (WKJ3 : Prop) => WKJ3 → OJ3 ∧ Q (KJ3)) w (fun  w => ?_) (fun KJ3 OJ3 WKJ3 hJ3 w => ?_)
            · skip
              refine so_if2 (Q := Q) w (fun c269_9 w => ?_) (fun c269_9 w => ?_)
              · exact ih i9 (v10 + j1_s0) (v11 + j2_s1) 0 (v13 + (-1)) (sA T 588 ((3 * l1) + v13 : Int32).toNatClampNeg ((v9 - j1_s0) - (x_m_stepOf T i8 1))) w
              · exact ih i9 (v10 + j1_s0) (v11 + j2_s1) 1 (v13 + (-1)) (sA T 588 ((3 * l1) + v13 : Int32).toNatClampNeg ((v9 - j1_s0) - (x_m_stepOf T i8 1))) w
            · skip
              refine so_if2 (Q := Q) w (fun c223_10 w => ?_) (fun c223_10 w => ?_)
              · exact hJ3  w
              · refine so_if2 (Q := Q) w (fun c241_11 w => ?_) (fun c241_11 w => ?_)
                · exact hJ3  w
                · refine so_if2 (Q := Q) w (fun c257_12 w => ?_) (fun c257_12 w => ?_)
                  · exact ih i9 (v10 + j1_s0) (v11 + j2_s1) 1 (v13 + (-1)) (sA T 588 ((3 * l1) + v13 : Int32).toNatClampNeg ((v9 - j1_s0) - (x_m_stepOf T i8 1))) w
                  · exact ih i9 (v10 + j1_s0) (v11 + j2_s1) 0 (v13 + (-1)) (sA T 588 ((3 * l1) + v13 : Int32).toNatClampNeg ((v9 - j1_s0) - (x_m_stepOf T i8 1))) w
        · skip
          refine so_if2 (Q := Q) w (fun c189_13 w => ?_) (fun c189_13 w => ?_)
          · obtain ⟨q14, w⟩ := w
            refine so_rq q14 ?_
            obtain ⟨q15, w⟩ := w
            refine so_rq q15 ?_
            exact hJ2 ((x_m_stepOf (sA T 588 ((3 * l1) + v13 : Int32).toNatClampNeg ((v9 - j1_s0) - (x_m_stepOf T i8 1))) i8 4) * (x_m_stepOf (sA T 588 ((3 * l1) + v13 : Int32).toNatClampNeg ((v9 - j1_s0) - (x_m_stepOf T i8 1))) i8 1)) w
          · exact hJ2 0 w
      · skip
        refine so_if2 (Q := Q) w (fun c114_14 w => ?_) (fun c114_14 w => ?_)
        · exact hJ1 0 w
        · refine so_if2 (Q := Q) w (fun c123_15 w => ?_) (fun c123_15 w => ?_)
          · exact hJ1 l7 w
          · exact hJ1 l8 w
def wp_m_layBegins (T : St) (p0 : Int32) (p1 : Int32) (Q : Int32 × St → Prop) : Prop := (vp_in p0 4) ∧ jn (fun (i1 : Int32) => (ok_m_dishOf T i1 3) ∧ (vp_in p0 5) ∧ jn (fun (i2 : Int32) => (ok_m_dishOf T i1 0) ∧ (¬ (1 + (x_m_dishOf T i1 0)) = (0 : Int32)) ∧ jn (fun (i3 : Int32) => jn (fun (i4 : Int32) => (ok_m_waitsOf T i1 0) ∧ (¬ (x_m_waitsOf T i1 0) = (0 : Int32)) ∧ jn (fun (i5 : Int32) => jn (fun (i6 : Int32) => jn (fun (i7 : Int32) => wp_m_layBegins_92 p0 p1 i1 (x_m_dishOf T i1 3) i4 i3 i5 i6 (fun w1_9 w1_10 w1_11 w1_12 w1_13 T201 => (ok_m_dishOf T201 i1 1) ∧ (vp_in (p0 + 1) 5) ∧ jn (fun (T10 : St) => (((w1_12 = 0) → Q (0, T10)) ∧ (¬ (w1_12 = 0) → (((w1_9 < 0) → Q (0, T10)) ∧ (¬ (w1_9 < 0) → Q (1, T10)))))) (sA T201 587 (p0 + 1 : Int32).toNatClampNeg ((((T201.2.2.1 587 (p0 : Int32).toNatClampNeg) + (i3 * (x_m_dishOf T201 i1 1))) + w1_10) + w1_11))) Q 1000 (p1 - i3) 0 0 1 i7 T) ((x_m_dishOf T i1 3) - 1)) (i4 / (x_m_waitsOf T i1 0))) (i4 - i4 / (x_m_waitsOf T i1 0) * (x_m_waitsOf T i1 0))) (i2 / (1 + (x_m_dishOf T i1 0)))) (i2 - i2 / (1 + (x_m_dishOf T i1 0)) * (1 + (x_m_dishOf T i1 0)))) (T.2.2.1 586 (p0 : Int32).toNatClampNeg)) (T.2.2.1 585 (p0 : Int32).toNatClampNeg)
theorem so_m_layBegins {T : St} (p0 : Int32) (p1 : Int32) {Q : Int32 × St → Prop} (w : wp_m_layBegins T p0 p1 Q) : ok_m_layBegins T p0 p1 ∧ Q (x_m_layBegins T p0 p1) := by
  unfold wp_m_layBegins at w
  unfold ok_m_layBegins x_m_layBegins
  obtain ⟨q1, w⟩ := w
  refine so_rq q1 ?_
  refine so_n (Q := Q) w (fun i1 w => ?_)
  obtain ⟨q2, w⟩ := w
  refine so_rq q2 ?_
  obtain ⟨q3, w⟩ := w
  refine so_rq q3 ?_
  refine so_n (Q := Q) w (fun i2 w => ?_)
  obtain ⟨q4, w⟩ := w
  refine so_rq q4 ?_
  obtain ⟨q5, w⟩ := w
  refine so_rq q5 ?_
  refine so_n (Q := Q) w (fun i3 w => ?_)
  refine so_n (Q := Q) w (fun i4 w => ?_)
  obtain ⟨q6, w⟩ := w
  refine so_rq q6 ?_
  obtain ⟨q7, w⟩ := w
  refine so_rq q7 ?_
  refine so_n (Q := Q) w (fun i5 w => ?_)
  refine so_n (Q := Q) w (fun i6 w => ?_)
  refine so_n (Q := Q) w (fun i7 w => ?_)
  refine so_m_layBegins_92 p0 p1 i1 (x_m_dishOf T i1 3) i4 i3 i5 i6 (fun w1_9 w1_10 w1_11 w1_12 w1_13 T201 w => ?_) 1000 (p1 - i3) 0 0 1 i7 T w
  obtain ⟨q16, w⟩ := w
  refine so_rq q16 ?_
  obtain ⟨q17, w⟩ := w
  refine so_rq q17 ?_
  refine ⟨trivial, ?_⟩
  refine so_n0 (Q := Q) w (fun T10 w => ?_)
  refine so_if0 (Q := Q) w (fun c317_16 w => ?_) (fun c317_16 w => ?_)
  · exact w
  · refine so_if0 (Q := Q) w (fun c322_17 w => ?_) (fun c322_17 w => ?_)
    · exact w
    · exact w
def bd_m_fits_38 (l1 : Int32) (l2 : Int32) (l3 : Int32) (l4 : Int32) (l5 : Int32) (l6 : Int32) (Kk : Int32 → St → Prop) (Q : Int32 × St → Prop) (N : Int32 → St → Prop) (v7 : Int32) (T : St) : Prop := (((l6 ≤ v7) → Kk v7 T) ∧ (¬ (l6 ≤ v7) → (ok_m_dishOf T l5 4) ∧ jn (fun (i3 : Int32) => (vp_in ((3 * l1) + v7) 12) ∧ (ok_m_stepOf T i3 1) ∧ (ok_m_addStep T (l1 + 1) i3 (T.2.2.1 588 ((3 * l1) + v7 : Int32).toNatClampNeg) (x_m_stepOf T i3 1)) ∧ jn (fun (T4 : St) => N (v7 + 1) T4) (x_m_addStep T (l1 + 1) i3 (T.2.2.1 588 ((3 * l1) + v7 : Int32).toNatClampNeg) (x_m_stepOf T i3 1))) ((x_m_dishOf T l5 4) + v7)))
def wp_m_fits_38 (l1 : Int32) (l2 : Int32) (l3 : Int32) (l4 : Int32) (l5 : Int32) (l6 : Int32) (Kk : Int32 → St → Prop) (Q : Int32 × St → Prop) : Nat → Int32 → St → Prop
  | 0, _, _ => False
  | f + 1, v7, T => bd_m_fits_38 l1 l2 l3 l4 l5 l6 Kk Q (wp_m_fits_38 l1 l2 l3 l4 l5 l6 Kk Q f) v7 T
theorem mb_m_fits_38 (l1 : Int32) (l2 : Int32) (l3 : Int32) (l4 : Int32) (l5 : Int32) (l6 : Int32) {Kk Kk2 : Int32 → St → Prop} {Q Q2 : Int32 × St → Prop} {N N2 : Int32 → St → Prop} (hK : ∀ (v7 : Int32) (T : St), Kk v7 T → Kk2 v7 T) (hQ : ∀ r, Q r → Q2 r) (hN : ∀ (v7 : Int32) (T : St), N v7 T → N2 v7 T) (v7 : Int32) (T : St) (w : bd_m_fits_38 l1 l2 l3 l4 l5 l6 Kk Q N v7 T) : bd_m_fits_38 l1 l2 l3 l4 l5 l6 Kk2 Q2 N2 v7 T := by
  unfold bd_m_fits_38 at w ⊢
  refine mo_if w (fun c42_2 w => ?_) (fun c42_2 w => ?_)
  · exact hK v7 T w
  · obtain ⟨q5, w⟩ := w
    refine ⟨q5, ?_⟩
    refine mo_n w (fun i3 w => ?_)
    obtain ⟨q6, w⟩ := w
    refine ⟨q6, ?_⟩
    obtain ⟨q7, w⟩ := w
    refine ⟨q7, ?_⟩
    obtain ⟨q8, w⟩ := w
    refine ⟨q8, ?_⟩
    refine mo_n w (fun T4 w => ?_)
    exact hN (v7 + 1) T4 w
theorem mo_m_fits_38 (l1 : Int32) (l2 : Int32) (l3 : Int32) (l4 : Int32) (l5 : Int32) (l6 : Int32) {Kk Kk2 : Int32 → St → Prop} {Q Q2 : Int32 × St → Prop} (hK : ∀ (v7 : Int32) (T : St), Kk v7 T → Kk2 v7 T) (hQ : ∀ r, Q r → Q2 r) : ∀ (f : Nat) (v7 : Int32) (T : St), wp_m_fits_38 l1 l2 l3 l4 l5 l6 Kk Q f v7 T → wp_m_fits_38 l1 l2 l3 l4 l5 l6 Kk2 Q2 f v7 T := by
  intro f
  induction f with
  | zero => intro v7 T w; exact w.elim
  | succ f ih => intro v7 T w; exact mb_m_fits_38 l1 l2 l3 l4 l5 l6 hK hQ ih v7 T w
theorem wr_m_fits_38 (l1 : Int32) (l2 : Int32) (l3 : Int32) (l4 : Int32) (l5 : Int32) (l6 : Int32) {Kk : Int32 → St → Prop} {Q : Int32 × St → Prop} (I : Int32 → St → Prop) (m : Int32 → St → Nat) (hv : ∀ (v7 : Int32) (T : St), I v7 T → bd_m_fits_38 l1 l2 l3 l4 l5 l6 Kk Q (fun uv7 uT => I uv7 uT ∧ m uv7 uT < m v7 T) v7 T) : ∀ (f : Nat) (v7 : Int32) (T : St), m v7 T < f → I v7 T → wp_m_fits_38 l1 l2 l3 l4 l5 l6 Kk Q f v7 T := by
  intro f
  induction f with
  | zero => intro v7 T h; exact absurd h (Nat.not_lt_zero _)
  | succ f ih => intro v7 T h hi; exact mb_m_fits_38 l1 l2 l3 l4 l5 l6 (fun _ _ h => h) (fun _ h => h) (fun uv7 uT g => ih uv7 uT (by omega) g.1) v7 T (hv v7 T hi)
theorem so_m_fits_38 (l1 : Int32) (l2 : Int32) (l3 : Int32) (l4 : Int32) (l5 : Int32) (l6 : Int32) {K : Int32 → St → Int32 × St} {Kk Kk2 : Int32 → St → Prop} {Q : Int32 × St → Prop} (hk : ∀ (v7 : Int32) (T : St), Kk v7 T → Kk2 v7 T ∧ Q (K v7 T)) : ∀ (f : Nat) (v7 : Int32) (T : St), wp_m_fits_38 l1 l2 l3 l4 l5 l6 Kk Q f v7 T → ok_m_fits_38 l1 l2 l3 l4 l5 l6 Kk2 f v7 T ∧ Q (x_m_fits_38 l1 l2 l3 l4 l5 l6 K f v7 T) := by
  intro f
  induction f with
  | zero => intro v7 T w; exact w.elim
  | succ f ih =>
    intro v7 T w
    rw [wp_m_fits_38, bd_m_fits_38] at w
    rw [ok_m_fits_38, x_m_fits_38]
    refine so_if2 (Q := Q) w (fun c42_2 w => ?_) (fun c42_2 w => ?_)
    · exact hk v7 T w
    · obtain ⟨q5, w⟩ := w
      refine so_rq q5 ?_
      refine so_n (Q := Q) w (fun i3 w => ?_)
      obtain ⟨q6, w⟩ := w
      refine so_rq q6 ?_
      obtain ⟨q7, w⟩ := w
      refine so_rq q7 ?_
      obtain ⟨q8, w⟩ := w
      refine so_rq q8 ?_
      refine so_n (Q := Q) w (fun T4 w => ?_)
      exact ih (v7 + 1) T4 w
def wp_m_fits (T : St) (p0 : Int32) (p1 : Int32) (p2 : Int32) (p3 : Int32) (Q : Int32 × St → Prop) : Prop := (ok_m_layBegins T p0 p1) ∧ (((((x_m_layBegins T p0 p1).1) = 0) → Q (0, (x_m_layBegins T p0 p1).2)) ∧ (¬ (((x_m_layBegins T p0 p1).1) = 0) → (vp_in p0 4) ∧ jn (fun (i1 : Int32) => (ok_m_dishOf ((x_m_layBegins T p0 p1).2) i1 3) ∧ jn (fun (i2 : Int32) => (ok_m_copyLevel ((x_m_layBegins T p0 p1).2) (p0 + 1)) ∧ wp_m_fits_38 p0 p1 p2 p3 i1 i2 (fun w1_7 T201 => (ok_m_dishOf T201 i1 4) ∧ jn (fun (i5 : Int32) => (ok_m_dishOf T201 i1 2) ∧ jn (fun (KJ1 : St → Prop) => ((((x_m_dishOf T201 i1 2) = 1) → (vp_in (3 * p0) 12) ∧ (vp_in (((3 * p0) + i2) - 1) 12) ∧ (ok_m_stepOf T201 i5 1) ∧ (ok_m_addPan T201 (p0 + 1) (T201.2.2.1 588 (3 * p0 : Int32).toNatClampNeg) ((T201.2.2.1 588 (((3 * p0) + i2) - 1 : Int32).toNatClampNeg) + (x_m_stepOf T201 i5 1))) ∧ jn (fun (T7 : St) => KJ1 T7) (x_m_addPan T201 (p0 + 1) (T201.2.2.1 588 (3 * p0 : Int32).toNatClampNeg) ((T201.2.2.1 588 (((3 * p0) + i2) - 1 : Int32).toNatClampNeg) + (x_m_stepOf T201 i5 1)))) ∧ (¬ ((x_m_dishOf T201 i1 2) = 1) → KJ1 T201))) (fun (T301 : St) => (ok_m_lacks T301 (p0 + 1) p2 p3) ∧ ((((x_m_lacks T301 (p0 + 1) p2 p3) = (-1000000)) → Q (1, T301)) ∧ (¬ ((x_m_lacks T301 (p0 + 1) p2 p3) = (-1000000)) → Q (0, T301))))) (((x_m_dishOf T201 i1 4) + i2) - 1)) Q 1000 0 (x_m_copyLevel ((x_m_layBegins T p0 p1).2) (p0 + 1))) (x_m_dishOf ((x_m_layBegins T p0 p1).2) i1 3)) (((x_m_layBegins T p0 p1).2).2.2.1 585 (p0 : Int32).toNatClampNeg)))
theorem so_m_fits {T : St} (p0 : Int32) (p1 : Int32) (p2 : Int32) (p3 : Int32) {Q : Int32 × St → Prop} (w : wp_m_fits T p0 p1 p2 p3 Q) : ok_m_fits T p0 p1 p2 p3 ∧ Q (x_m_fits T p0 p1 p2 p3) := by
  unfold wp_m_fits at w
  unfold ok_m_fits x_m_fits
  obtain ⟨q1, w⟩ := w
  refine so_rq q1 ?_
  refine so_ifF (Q := Q) w (fun c6_1 w => ?_) (fun c6_1 w => ?_)
  · exact w
  · obtain ⟨q2, w⟩ := w
    refine so_rq q2 ?_
    refine so_n (Q := Q) w (fun i1 w => ?_)
    obtain ⟨q3, w⟩ := w
    refine so_rq q3 ?_
    refine so_n (Q := Q) w (fun i2 w => ?_)
    obtain ⟨q4, w⟩ := w
    refine so_rq q4 ?_
    refine so_m_fits_38 p0 p1 p2 p3 i1 i2 (fun w1_7 T201 w => ?_) 1000 0 (x_m_copyLevel ((x_m_layBegins T p0 p1).2) (p0 + 1)) w
    obtain ⟨q9, w⟩ := w
    refine so_rq q9 ?_
    refine so_n (Q := Q) w (fun i5 w => ?_)
    obtain ⟨q10, w⟩ := w
    refine so_rq q10 ?_
    refine so_jn (Q := Q) (J := fun (KJ1 : St → Int32 × St) (OJ1 : St → Prop) (WKJ1 : St → Prop) => ∀ (T301 : St), WKJ1 T301 → OJ1 T301 ∧ Q (KJ1 T301)) w (fun T301 w => ?_) (fun KJ1 OJ1 WKJ1 hJ1 w => ?_)
    · skip
      obtain ⟨q15, w⟩ := w
      refine so_rq q15 ?_
      refine ⟨trivial, ?_⟩
      refine so_if0 (Q := Q) w (fun c163_4 w => ?_) (fun c163_4 w => ?_)
      · exact w
      · exact w
    · skip
      refine so_if2 (Q := Q) w (fun c112_5 w => ?_) (fun c112_5 w => ?_)
      · obtain ⟨q16, w⟩ := w
        refine so_rq q16 ?_
        obtain ⟨q17, w⟩ := w
        refine so_rq q17 ?_
        obtain ⟨q18, w⟩ := w
        refine so_rq q18 ?_
        obtain ⟨q19, w⟩ := w
        refine so_rq q19 ?_
        refine so_n (Q := Q) w (fun T7 w => ?_)
        exact hJ1 T7 w
      · exact hJ1 T201 w
def bd_m_seek_6 (l1 : Int32) (l2 : Int32) (l3 : Int32) (l4 : Int32) (l5 : Int32) (l6 : Int32) (Kk : Int32 → Int32 → St → Prop) (Q : Int32 × St → Prop) (N : Int32 → Int32 → St → Prop) (v7 : Int32) (v8 : Int32) (T : St) : Prop := ((((T.2.2.1 575 (16 : Int32).toNatClampNeg) ≤ v8) → Kk v7 v8 T) ∧ (¬ ((T.2.2.1 575 (16 : Int32).toNatClampNeg) ≤ v8) → (((((l1 >>> (v8 &&& 31)) &&& 1) = 1) → (vp_in v7 4) ∧ N (v7 + 1) (v8 + 1) (sA T 585 (v7 : Int32).toNatClampNeg v8)) ∧ (¬ (((l1 >>> (v8 &&& 31)) &&& 1) = 1) → N v7 (v8 + 1) T))))
def wp_m_seek_6 (l1 : Int32) (l2 : Int32) (l3 : Int32) (l4 : Int32) (l5 : Int32) (l6 : Int32) (Kk : Int32 → Int32 → St → Prop) (Q : Int32 × St → Prop) : Nat → Int32 → Int32 → St → Prop
  | 0, _, _, _ => False
  | f + 1, v7, v8, T => bd_m_seek_6 l1 l2 l3 l4 l5 l6 Kk Q (wp_m_seek_6 l1 l2 l3 l4 l5 l6 Kk Q f) v7 v8 T
theorem mb_m_seek_6 (l1 : Int32) (l2 : Int32) (l3 : Int32) (l4 : Int32) (l5 : Int32) (l6 : Int32) {Kk Kk2 : Int32 → Int32 → St → Prop} {Q Q2 : Int32 × St → Prop} {N N2 : Int32 → Int32 → St → Prop} (hK : ∀ (v7 : Int32) (v8 : Int32) (T : St), Kk v7 v8 T → Kk2 v7 v8 T) (hQ : ∀ r, Q r → Q2 r) (hN : ∀ (v7 : Int32) (v8 : Int32) (T : St), N v7 v8 T → N2 v7 v8 T) (v7 : Int32) (v8 : Int32) (T : St) (w : bd_m_seek_6 l1 l2 l3 l4 l5 l6 Kk Q N v7 v8 T) : bd_m_seek_6 l1 l2 l3 l4 l5 l6 Kk2 Q2 N2 v7 v8 T := by
  unfold bd_m_seek_6 at w ⊢
  refine mo_if w (fun c15_1 w => ?_) (fun c15_1 w => ?_)
  · exact hK v7 v8 T w
  · refine mo_if w (fun c25_2 w => ?_) (fun c25_2 w => ?_)
    · obtain ⟨q1, w⟩ := w
      refine ⟨q1, ?_⟩
      exact hN (v7 + 1) (v8 + 1) (sA T 585 (v7 : Int32).toNatClampNeg v8) w
    · exact hN v7 (v8 + 1) T w
theorem mo_m_seek_6 (l1 : Int32) (l2 : Int32) (l3 : Int32) (l4 : Int32) (l5 : Int32) (l6 : Int32) {Kk Kk2 : Int32 → Int32 → St → Prop} {Q Q2 : Int32 × St → Prop} (hK : ∀ (v7 : Int32) (v8 : Int32) (T : St), Kk v7 v8 T → Kk2 v7 v8 T) (hQ : ∀ r, Q r → Q2 r) : ∀ (f : Nat) (v7 : Int32) (v8 : Int32) (T : St), wp_m_seek_6 l1 l2 l3 l4 l5 l6 Kk Q f v7 v8 T → wp_m_seek_6 l1 l2 l3 l4 l5 l6 Kk2 Q2 f v7 v8 T := by
  intro f
  induction f with
  | zero => intro v7 v8 T w; exact w.elim
  | succ f ih => intro v7 v8 T w; exact mb_m_seek_6 l1 l2 l3 l4 l5 l6 hK hQ ih v7 v8 T w
theorem wr_m_seek_6 (l1 : Int32) (l2 : Int32) (l3 : Int32) (l4 : Int32) (l5 : Int32) (l6 : Int32) {Kk : Int32 → Int32 → St → Prop} {Q : Int32 × St → Prop} (I : Int32 → Int32 → St → Prop) (m : Int32 → Int32 → St → Nat) (hv : ∀ (v7 : Int32) (v8 : Int32) (T : St), I v7 v8 T → bd_m_seek_6 l1 l2 l3 l4 l5 l6 Kk Q (fun uv7 uv8 uT => I uv7 uv8 uT ∧ m uv7 uv8 uT < m v7 v8 T) v7 v8 T) : ∀ (f : Nat) (v7 : Int32) (v8 : Int32) (T : St), m v7 v8 T < f → I v7 v8 T → wp_m_seek_6 l1 l2 l3 l4 l5 l6 Kk Q f v7 v8 T := by
  intro f
  induction f with
  | zero => intro v7 v8 T h; exact absurd h (Nat.not_lt_zero _)
  | succ f ih => intro v7 v8 T h hi; exact mb_m_seek_6 l1 l2 l3 l4 l5 l6 (fun _ _ _ h => h) (fun _ h => h) (fun uv7 uv8 uT g => ih uv7 uv8 uT (by omega) g.1) v7 v8 T (hv v7 v8 T hi)
theorem so_m_seek_6 (l1 : Int32) (l2 : Int32) (l3 : Int32) (l4 : Int32) (l5 : Int32) (l6 : Int32) {K : Int32 → Int32 → St → Int32 × St} {Kk Kk2 : Int32 → Int32 → St → Prop} {Q : Int32 × St → Prop} (hk : ∀ (v7 : Int32) (v8 : Int32) (T : St), Kk v7 v8 T → Kk2 v7 v8 T ∧ Q (K v7 v8 T)) : ∀ (f : Nat) (v7 : Int32) (v8 : Int32) (T : St), wp_m_seek_6 l1 l2 l3 l4 l5 l6 Kk Q f v7 v8 T → ok_m_seek_6 l1 l2 l3 l4 l5 l6 Kk2 f v7 v8 T ∧ Q (x_m_seek_6 l1 l2 l3 l4 l5 l6 K f v7 v8 T) := by
  intro f
  induction f with
  | zero => intro v7 v8 T w; exact w.elim
  | succ f ih =>
    intro v7 v8 T w
    rw [wp_m_seek_6, bd_m_seek_6] at w
    rw [ok_m_seek_6, x_m_seek_6]
    refine so_if2 (Q := Q) w (fun c15_1 w => ?_) (fun c15_1 w => ?_)
    · exact hk v7 v8 T w
    · refine so_if2 (Q := Q) w (fun c25_2 w => ?_) (fun c25_2 w => ?_)
      · obtain ⟨q1, w⟩ := w
        refine so_rq q1 ?_
        exact ih (v7 + 1) (v8 + 1) (sA T 585 (v7 : Int32).toNatClampNeg v8) w
      · exact ih v7 (v8 + 1) T w
def bd_m_seek_226 (l1 : Int32) (l2 : Int32) (l3 : Int32) (l4 : Int32) (l5 : Int32) (l6 : Int32) (l7 : Int32) (l8 : Int32) (l9 : Int32) (l10 : Int32) (Kk : Int32 → St → Prop) (Q : Int32 × St → Prop) (N : Int32 → St → Prop) (v11 : Int32) (T : St) : Prop := (((4 ≤ v11) → Kk v11 T) ∧ (¬ (4 ≤ v11) → (vp_in v11 5) ∧ (vp_in v11 4) ∧ N (v11 + 1) (sA T 589 (v11 : Int32).toNatClampNeg (T.2.2.1 586 (v11 : Int32).toNatClampNeg))))
def wp_m_seek_226 (l1 : Int32) (l2 : Int32) (l3 : Int32) (l4 : Int32) (l5 : Int32) (l6 : Int32) (l7 : Int32) (l8 : Int32) (l9 : Int32) (l10 : Int32) (Kk : Int32 → St → Prop) (Q : Int32 × St → Prop) : Nat → Int32 → St → Prop
  | 0, _, _ => False
  | f + 1, v11, T => bd_m_seek_226 l1 l2 l3 l4 l5 l6 l7 l8 l9 l10 Kk Q (wp_m_seek_226 l1 l2 l3 l4 l5 l6 l7 l8 l9 l10 Kk Q f) v11 T
theorem mb_m_seek_226 (l1 : Int32) (l2 : Int32) (l3 : Int32) (l4 : Int32) (l5 : Int32) (l6 : Int32) (l7 : Int32) (l8 : Int32) (l9 : Int32) (l10 : Int32) {Kk Kk2 : Int32 → St → Prop} {Q Q2 : Int32 × St → Prop} {N N2 : Int32 → St → Prop} (hK : ∀ (v11 : Int32) (T : St), Kk v11 T → Kk2 v11 T) (hQ : ∀ r, Q r → Q2 r) (hN : ∀ (v11 : Int32) (T : St), N v11 T → N2 v11 T) (v11 : Int32) (T : St) (w : bd_m_seek_226 l1 l2 l3 l4 l5 l6 l7 l8 l9 l10 Kk Q N v11 T) : bd_m_seek_226 l1 l2 l3 l4 l5 l6 l7 l8 l9 l10 Kk2 Q2 N2 v11 T := by
  unfold bd_m_seek_226 at w ⊢
  refine mo_if w (fun c229_13 w => ?_) (fun c229_13 w => ?_)
  · exact hK v11 T w
  · obtain ⟨q11, w⟩ := w
    refine ⟨q11, ?_⟩
    obtain ⟨q12, w⟩ := w
    refine ⟨q12, ?_⟩
    exact hN (v11 + 1) (sA T 589 (v11 : Int32).toNatClampNeg (T.2.2.1 586 (v11 : Int32).toNatClampNeg)) w
theorem mo_m_seek_226 (l1 : Int32) (l2 : Int32) (l3 : Int32) (l4 : Int32) (l5 : Int32) (l6 : Int32) (l7 : Int32) (l8 : Int32) (l9 : Int32) (l10 : Int32) {Kk Kk2 : Int32 → St → Prop} {Q Q2 : Int32 × St → Prop} (hK : ∀ (v11 : Int32) (T : St), Kk v11 T → Kk2 v11 T) (hQ : ∀ r, Q r → Q2 r) : ∀ (f : Nat) (v11 : Int32) (T : St), wp_m_seek_226 l1 l2 l3 l4 l5 l6 l7 l8 l9 l10 Kk Q f v11 T → wp_m_seek_226 l1 l2 l3 l4 l5 l6 l7 l8 l9 l10 Kk2 Q2 f v11 T := by
  intro f
  induction f with
  | zero => intro v11 T w; exact w.elim
  | succ f ih => intro v11 T w; exact mb_m_seek_226 l1 l2 l3 l4 l5 l6 l7 l8 l9 l10 hK hQ ih v11 T w
theorem wr_m_seek_226 (l1 : Int32) (l2 : Int32) (l3 : Int32) (l4 : Int32) (l5 : Int32) (l6 : Int32) (l7 : Int32) (l8 : Int32) (l9 : Int32) (l10 : Int32) {Kk : Int32 → St → Prop} {Q : Int32 × St → Prop} (I : Int32 → St → Prop) (m : Int32 → St → Nat) (hv : ∀ (v11 : Int32) (T : St), I v11 T → bd_m_seek_226 l1 l2 l3 l4 l5 l6 l7 l8 l9 l10 Kk Q (fun uv11 uT => I uv11 uT ∧ m uv11 uT < m v11 T) v11 T) : ∀ (f : Nat) (v11 : Int32) (T : St), m v11 T < f → I v11 T → wp_m_seek_226 l1 l2 l3 l4 l5 l6 l7 l8 l9 l10 Kk Q f v11 T := by
  intro f
  induction f with
  | zero => intro v11 T h; exact absurd h (Nat.not_lt_zero _)
  | succ f ih => intro v11 T h hi; exact mb_m_seek_226 l1 l2 l3 l4 l5 l6 l7 l8 l9 l10 (fun _ _ h => h) (fun _ h => h) (fun uv11 uT g => ih uv11 uT (by omega) g.1) v11 T (hv v11 T hi)
theorem so_m_seek_226 (l1 : Int32) (l2 : Int32) (l3 : Int32) (l4 : Int32) (l5 : Int32) (l6 : Int32) (l7 : Int32) (l8 : Int32) (l9 : Int32) (l10 : Int32) {K : Int32 → St → Int32 × St} {Kk Kk2 : Int32 → St → Prop} {Q : Int32 × St → Prop} (hk : ∀ (v11 : Int32) (T : St), Kk v11 T → Kk2 v11 T ∧ Q (K v11 T)) : ∀ (f : Nat) (v11 : Int32) (T : St), wp_m_seek_226 l1 l2 l3 l4 l5 l6 l7 l8 l9 l10 Kk Q f v11 T → ok_m_seek_226 l1 l2 l3 l4 l5 l6 l7 l8 l9 l10 Kk2 f v11 T ∧ Q (x_m_seek_226 l1 l2 l3 l4 l5 l6 l7 l8 l9 l10 K f v11 T) := by
  intro f
  induction f with
  | zero => intro v11 T w; exact w.elim
  | succ f ih =>
    intro v11 T w
    rw [wp_m_seek_226, bd_m_seek_226] at w
    rw [ok_m_seek_226, x_m_seek_226]
    refine so_if2 (Q := Q) w (fun c229_13 w => ?_) (fun c229_13 w => ?_)
    · exact hk v11 T w
    · obtain ⟨q11, w⟩ := w
      refine so_rq q11 ?_
      obtain ⟨q12, w⟩ := w
      refine so_rq q12 ?_
      exact ih (v11 + 1) (sA T 589 (v11 : Int32).toNatClampNeg (T.2.2.1 586 (v11 : Int32).toNatClampNeg)) w
def bd_m_seek_255 (l1 : Int32) (l2 : Int32) (l3 : Int32) (l4 : Int32) (l5 : Int32) (l6 : Int32) (l7 : Int32) (l8 : Int32) (l9 : Int32) (l10 : Int32) (Kk : Int32 → St → Prop) (Q : Int32 × St → Prop) (N : Int32 → St → Prop) (v11 : Int32) (T : St) : Prop := (((12 ≤ v11) → Kk v11 T) ∧ (¬ (12 ≤ v11) → (vp_in v11 12) ∧ N (v11 + 1) (sA T 590 (v11 : Int32).toNatClampNeg (T.2.2.1 588 (v11 : Int32).toNatClampNeg))))
def wp_m_seek_255 (l1 : Int32) (l2 : Int32) (l3 : Int32) (l4 : Int32) (l5 : Int32) (l6 : Int32) (l7 : Int32) (l8 : Int32) (l9 : Int32) (l10 : Int32) (Kk : Int32 → St → Prop) (Q : Int32 × St → Prop) : Nat → Int32 → St → Prop
  | 0, _, _ => False
  | f + 1, v11, T => bd_m_seek_255 l1 l2 l3 l4 l5 l6 l7 l8 l9 l10 Kk Q (wp_m_seek_255 l1 l2 l3 l4 l5 l6 l7 l8 l9 l10 Kk Q f) v11 T
theorem mb_m_seek_255 (l1 : Int32) (l2 : Int32) (l3 : Int32) (l4 : Int32) (l5 : Int32) (l6 : Int32) (l7 : Int32) (l8 : Int32) (l9 : Int32) (l10 : Int32) {Kk Kk2 : Int32 → St → Prop} {Q Q2 : Int32 × St → Prop} {N N2 : Int32 → St → Prop} (hK : ∀ (v11 : Int32) (T : St), Kk v11 T → Kk2 v11 T) (hQ : ∀ r, Q r → Q2 r) (hN : ∀ (v11 : Int32) (T : St), N v11 T → N2 v11 T) (v11 : Int32) (T : St) (w : bd_m_seek_255 l1 l2 l3 l4 l5 l6 l7 l8 l9 l10 Kk Q N v11 T) : bd_m_seek_255 l1 l2 l3 l4 l5 l6 l7 l8 l9 l10 Kk2 Q2 N2 v11 T := by
  unfold bd_m_seek_255 at w ⊢
  refine mo_if w (fun c259_14 w => ?_) (fun c259_14 w => ?_)
  · exact hK v11 T w
  · obtain ⟨q13, w⟩ := w
    refine ⟨q13, ?_⟩
    exact hN (v11 + 1) (sA T 590 (v11 : Int32).toNatClampNeg (T.2.2.1 588 (v11 : Int32).toNatClampNeg)) w
theorem mo_m_seek_255 (l1 : Int32) (l2 : Int32) (l3 : Int32) (l4 : Int32) (l5 : Int32) (l6 : Int32) (l7 : Int32) (l8 : Int32) (l9 : Int32) (l10 : Int32) {Kk Kk2 : Int32 → St → Prop} {Q Q2 : Int32 × St → Prop} (hK : ∀ (v11 : Int32) (T : St), Kk v11 T → Kk2 v11 T) (hQ : ∀ r, Q r → Q2 r) : ∀ (f : Nat) (v11 : Int32) (T : St), wp_m_seek_255 l1 l2 l3 l4 l5 l6 l7 l8 l9 l10 Kk Q f v11 T → wp_m_seek_255 l1 l2 l3 l4 l5 l6 l7 l8 l9 l10 Kk2 Q2 f v11 T := by
  intro f
  induction f with
  | zero => intro v11 T w; exact w.elim
  | succ f ih => intro v11 T w; exact mb_m_seek_255 l1 l2 l3 l4 l5 l6 l7 l8 l9 l10 hK hQ ih v11 T w
theorem wr_m_seek_255 (l1 : Int32) (l2 : Int32) (l3 : Int32) (l4 : Int32) (l5 : Int32) (l6 : Int32) (l7 : Int32) (l8 : Int32) (l9 : Int32) (l10 : Int32) {Kk : Int32 → St → Prop} {Q : Int32 × St → Prop} (I : Int32 → St → Prop) (m : Int32 → St → Nat) (hv : ∀ (v11 : Int32) (T : St), I v11 T → bd_m_seek_255 l1 l2 l3 l4 l5 l6 l7 l8 l9 l10 Kk Q (fun uv11 uT => I uv11 uT ∧ m uv11 uT < m v11 T) v11 T) : ∀ (f : Nat) (v11 : Int32) (T : St), m v11 T < f → I v11 T → wp_m_seek_255 l1 l2 l3 l4 l5 l6 l7 l8 l9 l10 Kk Q f v11 T := by
  intro f
  induction f with
  | zero => intro v11 T h; exact absurd h (Nat.not_lt_zero _)
  | succ f ih => intro v11 T h hi; exact mb_m_seek_255 l1 l2 l3 l4 l5 l6 l7 l8 l9 l10 (fun _ _ h => h) (fun _ h => h) (fun uv11 uT g => ih uv11 uT (by omega) g.1) v11 T (hv v11 T hi)
theorem so_m_seek_255 (l1 : Int32) (l2 : Int32) (l3 : Int32) (l4 : Int32) (l5 : Int32) (l6 : Int32) (l7 : Int32) (l8 : Int32) (l9 : Int32) (l10 : Int32) {K : Int32 → St → Int32 × St} {Kk Kk2 : Int32 → St → Prop} {Q : Int32 × St → Prop} (hk : ∀ (v11 : Int32) (T : St), Kk v11 T → Kk2 v11 T ∧ Q (K v11 T)) : ∀ (f : Nat) (v11 : Int32) (T : St), wp_m_seek_255 l1 l2 l3 l4 l5 l6 l7 l8 l9 l10 Kk Q f v11 T → ok_m_seek_255 l1 l2 l3 l4 l5 l6 l7 l8 l9 l10 Kk2 f v11 T ∧ Q (x_m_seek_255 l1 l2 l3 l4 l5 l6 l7 l8 l9 l10 K f v11 T) := by
  intro f
  induction f with
  | zero => intro v11 T w; exact w.elim
  | succ f ih =>
    intro v11 T w
    rw [wp_m_seek_255, bd_m_seek_255] at w
    rw [ok_m_seek_255, x_m_seek_255]
    refine so_if2 (Q := Q) w (fun c259_14 w => ?_) (fun c259_14 w => ?_)
    · exact hk v11 T w
    · obtain ⟨q13, w⟩ := w
      refine so_rq q13 ?_
      exact ih (v11 + 1) (sA T 590 (v11 : Int32).toNatClampNeg (T.2.2.1 588 (v11 : Int32).toNatClampNeg)) w
def bd_m_seek_70 (l1 : Int32) (l2 : Int32) (l3 : Int32) (l4 : Int32) (l5 : Int32) (l6 : Int32) (l7 : Int32) (Kk : Int32 → Int32 → St → Prop) (Q : Int32 × St → Prop) (N : Int32 → Int32 → St → Prop) (v8 : Int32) (v9 : Int32) (T : St) : Prop := (((v9 < 0) → Kk v8 v9 T) ∧ (¬ (v9 < 0) → jn (fun (KJ1 : Prop) => (((v8 = 0) → KJ1) ∧ (¬ (v8 = 0) → (((l6 = 0) → KJ1) ∧ (¬ (l6 = 0) → Kk v8 v9 T))))) ((vp_in v9 5) ∧ (vp_in v9 4) ∧ jn (fun (i2 : Int32) => (ok_m_choicesOf (sA T 586 (v9 : Int32).toNatClampNeg ((T.2.2.1 586 (v9 : Int32).toNatClampNeg) + 1)) i2) ∧ (((((sA T 586 (v9 : Int32).toNatClampNeg ((T.2.2.1 586 (v9 : Int32).toNatClampNeg) + 1)).2.2.1 586 (v9 : Int32).toNatClampNeg) = (x_m_choicesOf (sA T 586 (v9 : Int32).toNatClampNeg ((T.2.2.1 586 (v9 : Int32).toNatClampNeg) + 1)) i2)) → N v8 (v9 + (-1)) (sA T 586 (v9 : Int32).toNatClampNeg ((T.2.2.1 586 (v9 : Int32).toNatClampNeg) + 1))) ∧ (¬ (((sA T 586 (v9 : Int32).toNatClampNeg ((T.2.2.1 586 (v9 : Int32).toNatClampNeg) + 1)).2.2.1 586 (v9 : Int32).toNatClampNeg) = (x_m_choicesOf (sA T 586 (v9 : Int32).toNatClampNeg ((T.2.2.1 586 (v9 : Int32).toNatClampNeg) + 1)) i2)) → jn (fun (KJ2 : Prop) => (((l5 = 0) → KJ2) ∧ (¬ (l5 = 0) → (ok_m_dishOf (sA T 586 (v9 : Int32).toNatClampNeg ((T.2.2.1 586 (v9 : Int32).toNatClampNeg) + 1)) i2 0) ∧ (¬ (1 + (x_m_dishOf (sA T 586 (v9 : Int32).toNatClampNeg ((T.2.2.1 586 (v9 : Int32).toNatClampNeg) + 1)) i2 0)) = (0 : Int32)) ∧ (((0 < (((sA T 586 (v9 : Int32).toNatClampNeg ((T.2.2.1 586 (v9 : Int32).toNatClampNeg) + 1)).2.2.1 586 (v9 : Int32).toNatClampNeg) - ((sA T 586 (v9 : Int32).toNatClampNeg ((T.2.2.1 586 (v9 : Int32).toNatClampNeg) + 1)).2.2.1 586 (v9 : Int32).toNatClampNeg) / (1 + (x_m_dishOf (sA T 586 (v9 : Int32).toNatClampNeg ((T.2.2.1 586 (v9 : Int32).toNatClampNeg) + 1)) i2 0)) * (1 + (x_m_dishOf (sA T 586 (v9 : Int32).toNatClampNeg ((T.2.2.1 586 (v9 : Int32).toNatClampNeg) + 1)) i2 0)))) → N v8 v9 (sA T 586 (v9 : Int32).toNatClampNeg ((T.2.2.1 586 (v9 : Int32).toNatClampNeg) + 1))) ∧ (¬ (0 < (((sA T 586 (v9 : Int32).toNatClampNeg ((T.2.2.1 586 (v9 : Int32).toNatClampNeg) + 1)).2.2.1 586 (v9 : Int32).toNatClampNeg) - ((sA T 586 (v9 : Int32).toNatClampNeg ((T.2.2.1 586 (v9 : Int32).toNatClampNeg) + 1)).2.2.1 586 (v9 : Int32).toNatClampNeg) / (1 + (x_m_dishOf (sA T 586 (v9 : Int32).toNatClampNeg ((T.2.2.1 586 (v9 : Int32).toNatClampNeg) + 1)) i2 0)) * (1 + (x_m_dishOf (sA T 586 (v9 : Int32).toNatClampNeg ((T.2.2.1 586 (v9 : Int32).toNatClampNeg) + 1)) i2 0)))) → KJ2))))) ((ok_m_fits (sA T 586 (v9 : Int32).toNatClampNeg ((T.2.2.1 586 (v9 : Int32).toNatClampNeg) + 1)) v9 l2 l3 l4) ∧ jn (fun (T3 : St) => (((((x_m_fits (sA T 586 (v9 : Int32).toNatClampNeg ((T.2.2.1 586 (v9 : Int32).toNatClampNeg) + 1)) v9 l2 l3 l4).1) = 0) → N v8 v9 T3) ∧ (¬ (((x_m_fits (sA T 586 (v9 : Int32).toNatClampNeg ((T.2.2.1 586 (v9 : Int32).toNatClampNeg) + 1)) v9 l2 l3 l4).1) = 0) → jn (fun (KJ3 : Prop) => (((v8 = 0) → KJ3) ∧ (¬ (v8 = 0) → (vp_in (v9 + 1) 5) ∧ ((((T3.1 571 31) ≤ (T3.2.2.1 587 (v9 + 1 : Int32).toNatClampNeg)) → N v8 v9 T3) ∧ (¬ ((T3.1 571 31) ≤ (T3.2.2.1 587 (v9 + 1 : Int32).toNatClampNeg)) → KJ3))))) (((((l7 - 1) ≤ v9) → (vp_in l7 5) ∧ wp_m_seek_226 l1 l2 l3 l4 l5 l6 l7 1 v9 i2 (fun w2_11 T202 => wp_m_seek_255 l1 l2 l3 l4 l5 l6 l7 1 v9 i2 (fun w3_11 T203 => N 1 v9 T203) Q 1000 0 T202) Q 1000 0 (sF T3 571 31 (T3.2.2.1 587 (l7 : Int32).toNatClampNeg))) ∧ (¬ ((l7 - 1) ≤ v9) → (vp_in (v9 + 1) 5) ∧ N v8 (v9 + 1) (sA T3 586 (v9 + 1 : Int32).toNatClampNeg (-1)))))))) ((x_m_fits (sA T 586 (v9 : Int32).toNatClampNeg ((T.2.2.1 586 (v9 : Int32).toNatClampNeg) + 1)) v9 l2 l3 l4).2))))) ((sA T 586 (v9 : Int32).toNatClampNeg ((T.2.2.1 586 (v9 : Int32).toNatClampNeg) + 1)).2.2.1 585 (v9 : Int32).toNatClampNeg))))
def wp_m_seek_70 (l1 : Int32) (l2 : Int32) (l3 : Int32) (l4 : Int32) (l5 : Int32) (l6 : Int32) (l7 : Int32) (Kk : Int32 → Int32 → St → Prop) (Q : Int32 × St → Prop) : Nat → Int32 → Int32 → St → Prop
  | 0, _, _, _ => False
  | f + 1, v8, v9, T => bd_m_seek_70 l1 l2 l3 l4 l5 l6 l7 Kk Q (wp_m_seek_70 l1 l2 l3 l4 l5 l6 l7 Kk Q f) v8 v9 T
theorem mb_m_seek_70 (l1 : Int32) (l2 : Int32) (l3 : Int32) (l4 : Int32) (l5 : Int32) (l6 : Int32) (l7 : Int32) {Kk Kk2 : Int32 → Int32 → St → Prop} {Q Q2 : Int32 × St → Prop} {N N2 : Int32 → Int32 → St → Prop} (hK : ∀ (v8 : Int32) (v9 : Int32) (T : St), Kk v8 v9 T → Kk2 v8 v9 T) (hQ : ∀ r, Q r → Q2 r) (hN : ∀ (v8 : Int32) (v9 : Int32) (T : St), N v8 v9 T → N2 v8 v9 T) (v8 : Int32) (v9 : Int32) (T : St) (w : bd_m_seek_70 l1 l2 l3 l4 l5 l6 l7 Kk Q N v8 v9 T) : bd_m_seek_70 l1 l2 l3 l4 l5 l6 l7 Kk2 Q2 N2 v8 v9 T := by
  unfold bd_m_seek_70 at w ⊢
  refine mo_if w (fun c72_3 w => ?_) (fun c72_3 w => ?_)
  · exact hK v8 v9 T w
  · refine mo_jn (J := fun (KJ1 : Prop) (WKJ1 : Prop) => KJ1 → WKJ1) w (fun  w => ?_) (fun KJ1 WKJ1 hJ1 w => ?_)
    · skip
      obtain ⟨q3, w⟩ := w
      refine ⟨q3, ?_⟩
      obtain ⟨q4, w⟩ := w
      refine ⟨q4, ?_⟩
      refine mo_n w (fun i2 w => ?_)
      obtain ⟨q5, w⟩ := w
      refine ⟨q5, ?_⟩
      refine mo_if w (fun c118_6 w => ?_) (fun c118_6 w => ?_)
      · exact hN v8 (v9 + (-1)) (sA T 586 (v9 : Int32).toNatClampNeg ((T.2.2.1 586 (v9 : Int32).toNatClampNeg) + 1)) w
      · refine mo_jn (J := fun (KJ2 : Prop) (WKJ2 : Prop) => KJ2 → WKJ2) w (fun  w => ?_) (fun KJ2 WKJ2 hJ2 w => ?_)
        · skip
          obtain ⟨q8, w⟩ := w
          refine ⟨q8, ?_⟩
          refine mo_n w (fun T3 w => ?_)
          refine mo_if w (fun c162_9 w => ?_) (fun c162_9 w => ?_)
          · exact hN v8 v9 T3 w
          · refine mo_jn (J := fun (KJ3 : Prop) (WKJ3 : Prop) => KJ3 → WKJ3) w (fun  w => ?_) (fun KJ3 WKJ3 hJ3 w => ?_)
            · skip
              refine mo_if w (fun c192_12 w => ?_) (fun c192_12 w => ?_)
              · obtain ⟨q10, w⟩ := w
                refine ⟨q10, ?_⟩
                refine mo_m_seek_226 l1 l2 l3 l4 l5 l6 l7 1 v9 i2 (fun w2_11 T202 w => ?_) hQ 1000 0 (sF T3 571 31 (T3.2.2.1 587 (l7 : Int32).toNatClampNeg)) w
                refine mo_m_seek_255 l1 l2 l3 l4 l5 l6 l7 1 v9 i2 (fun w3_11 T203 w => ?_) hQ 1000 0 T202 w
                exact hN 1 v9 T203 w
              · obtain ⟨q14, w⟩ := w
                refine ⟨q14, ?_⟩
                exact hN v8 (v9 + 1) (sA T3 586 (v9 + 1 : Int32).toNatClampNeg (-1)) w
            · skip
              refine mo_if w (fun c167_15 w => ?_) (fun c167_15 w => ?_)
              · exact hJ3  w
              · obtain ⟨q15, w⟩ := w
                refine ⟨q15, ?_⟩
                refine mo_if w (fun c183_16 w => ?_) (fun c183_16 w => ?_)
                · exact hN v8 v9 T3 w
                · exact hJ3  w
        · skip
          refine mo_if w (fun c129_17 w => ?_) (fun c129_17 w => ?_)
          · exact hJ2  w
          · obtain ⟨q16, w⟩ := w
            refine ⟨q16, ?_⟩
            obtain ⟨q17, w⟩ := w
            refine ⟨q17, ?_⟩
            refine mo_if w (fun c149_18 w => ?_) (fun c149_18 w => ?_)
            · exact hN v8 v9 (sA T 586 (v9 : Int32).toNatClampNeg ((T.2.2.1 586 (v9 : Int32).toNatClampNeg) + 1)) w
            · exact hJ2  w
    · skip
      refine mo_if w (fun c77_19 w => ?_) (fun c77_19 w => ?_)
      · exact hJ1  w
      · refine mo_if w (fun c82_20 w => ?_) (fun c82_20 w => ?_)
        · exact hJ1  w
        · exact hK v8 v9 T w
theorem mo_m_seek_70 (l1 : Int32) (l2 : Int32) (l3 : Int32) (l4 : Int32) (l5 : Int32) (l6 : Int32) (l7 : Int32) {Kk Kk2 : Int32 → Int32 → St → Prop} {Q Q2 : Int32 × St → Prop} (hK : ∀ (v8 : Int32) (v9 : Int32) (T : St), Kk v8 v9 T → Kk2 v8 v9 T) (hQ : ∀ r, Q r → Q2 r) : ∀ (f : Nat) (v8 : Int32) (v9 : Int32) (T : St), wp_m_seek_70 l1 l2 l3 l4 l5 l6 l7 Kk Q f v8 v9 T → wp_m_seek_70 l1 l2 l3 l4 l5 l6 l7 Kk2 Q2 f v8 v9 T := by
  intro f
  induction f with
  | zero => intro v8 v9 T w; exact w.elim
  | succ f ih => intro v8 v9 T w; exact mb_m_seek_70 l1 l2 l3 l4 l5 l6 l7 hK hQ ih v8 v9 T w
theorem wr_m_seek_70 (l1 : Int32) (l2 : Int32) (l3 : Int32) (l4 : Int32) (l5 : Int32) (l6 : Int32) (l7 : Int32) {Kk : Int32 → Int32 → St → Prop} {Q : Int32 × St → Prop} (I : Int32 → Int32 → St → Prop) (m : Int32 → Int32 → St → Nat) (hv : ∀ (v8 : Int32) (v9 : Int32) (T : St), I v8 v9 T → bd_m_seek_70 l1 l2 l3 l4 l5 l6 l7 Kk Q (fun uv8 uv9 uT => I uv8 uv9 uT ∧ m uv8 uv9 uT < m v8 v9 T) v8 v9 T) : ∀ (f : Nat) (v8 : Int32) (v9 : Int32) (T : St), m v8 v9 T < f → I v8 v9 T → wp_m_seek_70 l1 l2 l3 l4 l5 l6 l7 Kk Q f v8 v9 T := by
  intro f
  induction f with
  | zero => intro v8 v9 T h; exact absurd h (Nat.not_lt_zero _)
  | succ f ih => intro v8 v9 T h hi; exact mb_m_seek_70 l1 l2 l3 l4 l5 l6 l7 (fun _ _ _ h => h) (fun _ h => h) (fun uv8 uv9 uT g => ih uv8 uv9 uT (by omega) g.1) v8 v9 T (hv v8 v9 T hi)
theorem so_m_seek_70 (l1 : Int32) (l2 : Int32) (l3 : Int32) (l4 : Int32) (l5 : Int32) (l6 : Int32) (l7 : Int32) {K : Int32 → Int32 → St → Int32 × St} {Kk Kk2 : Int32 → Int32 → St → Prop} {Q : Int32 × St → Prop} (hk : ∀ (v8 : Int32) (v9 : Int32) (T : St), Kk v8 v9 T → Kk2 v8 v9 T ∧ Q (K v8 v9 T)) : ∀ (f : Nat) (v8 : Int32) (v9 : Int32) (T : St), wp_m_seek_70 l1 l2 l3 l4 l5 l6 l7 Kk Q f v8 v9 T → ok_m_seek_70 l1 l2 l3 l4 l5 l6 l7 Kk2 f v8 v9 T ∧ Q (x_m_seek_70 l1 l2 l3 l4 l5 l6 l7 K f v8 v9 T) := by
  intro f
  induction f with
  | zero => intro v8 v9 T w; exact w.elim
  | succ f ih =>
    intro v8 v9 T w
    rw [wp_m_seek_70, bd_m_seek_70] at w
    rw [ok_m_seek_70, x_m_seek_70]
    refine so_if2 (Q := Q) w (fun c72_3 w => ?_) (fun c72_3 w => ?_)
    · exact hk v8 v9 T w
    · refine so_jn (Q := Q) (J := fun (KJ1 : Int32 × St) (OJ1 : Prop) (WKJ1 : Prop) => WKJ1 → OJ1 ∧ Q (KJ1)) w (fun  w => ?_) (fun KJ1 OJ1 WKJ1 hJ1 w => ?_)
      · skip
        obtain ⟨q3, w⟩ := w
        refine so_rq q3 ?_
        obtain ⟨q4, w⟩ := w
        refine so_rq q4 ?_
        refine so_n (Q := Q) w (fun i2 w => ?_)
        obtain ⟨q5, w⟩ := w
        refine so_rq q5 ?_
        refine so_if2 (Q := Q) w (fun c118_6 w => ?_) (fun c118_6 w => ?_)
        · exact ih v8 (v9 + (-1)) (sA T 586 (v9 : Int32).toNatClampNeg ((T.2.2.1 586 (v9 : Int32).toNatClampNeg) + 1)) w
        · refine so_jn (Q := Q) (J := fun (KJ2 : Int32 × St) (OJ2 : Prop) (WKJ2 : Prop) => WKJ2 → OJ2 ∧ Q (KJ2)) w (fun  w => ?_) (fun KJ2 OJ2 WKJ2 hJ2 w => ?_)
          · skip
            obtain ⟨q8, w⟩ := w
            refine so_rq q8 ?_
            refine so_n (Q := Q) w (fun T3 w => ?_)
            refine so_if2 (Q := Q) w (fun c162_9 w => ?_) (fun c162_9 w => ?_)
            · exact ih v8 v9 T3 w
            · refine so_jn (Q := Q) (J := fun (KJ3 : Int32 × St) (OJ3 : Prop) (WKJ3 : Prop) => WKJ3 → OJ3 ∧ Q (KJ3)) w (fun  w => ?_) (fun KJ3 OJ3 WKJ3 hJ3 w => ?_)
              · skip
                refine so_if2 (Q := Q) w (fun c192_12 w => ?_) (fun c192_12 w => ?_)
                · obtain ⟨q10, w⟩ := w
                  refine so_rq q10 ?_
                  refine so_m_seek_226 l1 l2 l3 l4 l5 l6 l7 1 v9 i2 (fun w2_11 T202 w => ?_) 1000 0 (sF T3 571 31 (T3.2.2.1 587 (l7 : Int32).toNatClampNeg)) w
                  refine so_m_seek_255 l1 l2 l3 l4 l5 l6 l7 1 v9 i2 (fun w3_11 T203 w => ?_) 1000 0 T202 w
                  exact ih 1 v9 T203 w
                · obtain ⟨q14, w⟩ := w
                  refine so_rq q14 ?_
                  exact ih v8 (v9 + 1) (sA T3 586 (v9 + 1 : Int32).toNatClampNeg (-1)) w
              · skip
                refine so_if2 (Q := Q) w (fun c167_15 w => ?_) (fun c167_15 w => ?_)
                · exact hJ3  w
                · obtain ⟨q15, w⟩ := w
                  refine so_rq q15 ?_
                  refine so_if2 (Q := Q) w (fun c183_16 w => ?_) (fun c183_16 w => ?_)
                  · exact ih v8 v9 T3 w
                  · exact hJ3  w
          · skip
            refine so_if2 (Q := Q) w (fun c129_17 w => ?_) (fun c129_17 w => ?_)
            · exact hJ2  w
            · obtain ⟨q16, w⟩ := w
              refine so_rq q16 ?_
              obtain ⟨q17, w⟩ := w
              refine so_rq q17 ?_
              refine so_if2 (Q := Q) w (fun c149_18 w => ?_) (fun c149_18 w => ?_)
              · exact ih v8 v9 (sA T 586 (v9 : Int32).toNatClampNeg ((T.2.2.1 586 (v9 : Int32).toNatClampNeg) + 1)) w
              · exact hJ2  w
      · skip
        refine so_if2 (Q := Q) w (fun c77_19 w => ?_) (fun c77_19 w => ?_)
        · exact hJ1  w
        · refine so_if2 (Q := Q) w (fun c82_20 w => ?_) (fun c82_20 w => ?_)
          · exact hJ1  w
          · exact hk v8 v9 T w
def wp_m_seek (T : St) (p0 : Int32) (p1 : Int32) (p2 : Int32) (p3 : Int32) (p4 : Int32) (p5 : Int32) (Q : Int32 × St → Prop) : Prop := wp_m_seek_6 p0 p1 p2 p3 p4 p5 (fun w1_7 w1_8 T201 => (ok_m_clearLevel T201) ∧ jn (fun (T1 : St) => wp_m_seek_70 p0 p1 p2 p3 p4 p5 w1_7 (fun w4_8 w4_9 T204 => ((w4_8 = 0 ∨ w4_8 = (1 : Int32))) ∧ Q (w4_8, T204)) Q 1000000 0 0 T1) (sA (sA (x_m_clearLevel T201) 587 (0 : Int32).toNatClampNeg 0) 586 (0 : Int32).toNatClampNeg (-1))) Q 1000 0 0 T
theorem so_m_seek {T : St} (p0 : Int32) (p1 : Int32) (p2 : Int32) (p3 : Int32) (p4 : Int32) (p5 : Int32) {Q : Int32 × St → Prop} (w : wp_m_seek T p0 p1 p2 p3 p4 p5 Q) : ok_m_seek T p0 p1 p2 p3 p4 p5 ∧ Q (x_m_seek T p0 p1 p2 p3 p4 p5) := by
  unfold wp_m_seek at w
  unfold ok_m_seek x_m_seek
  refine so_m_seek_6 p0 p1 p2 p3 p4 p5 (fun w1_7 w1_8 T201 w => ?_) 1000 0 0 T w
  obtain ⟨q2, w⟩ := w
  refine so_rq q2 ?_
  refine so_n (Q := Q) w (fun T1 w => ?_)
  refine so_m_seek_70 p0 p1 p2 p3 p4 p5 w1_7 (fun w4_8 w4_9 T204 w => ?_) 1000000 0 0 T1 w
  obtain ⟨q18, w⟩ := w
  refine so_rq q18 ?_
  refine ⟨trivial, ?_⟩
  exact w
def wp_m_forget (T : St)  (Q : St → Prop) : Prop := Q (sF (sF T 571 34 (-1000000)) 571 32 0)
theorem so_m_forget {T : St}  {Q : St → Prop} (w : wp_m_forget T  Q) : Q (x_m_forget T ) := by
  unfold wp_m_forget at w
  unfold x_m_forget
  exact w
def wp_m_isBy (T : St) (p0 : Int32) (Q : Int32 → Prop) : Prop := Q (x_m_in T ((p0 : Int32).toInt64) 1 60)
theorem so_m_isBy {T : St} (p0 : Int32) {Q : Int32 → Prop} (w : wp_m_isBy T p0 Q) : Q (x_m_isBy T p0) := by
  unfold wp_m_isBy at w
  unfold x_m_isBy
  exact w
def bd_m_layRow_38 (l1 : Int32) (l2 : Int32) (Kk : Int32 → St → Prop) (Q : St → Prop) (N : Int32 → St → Prop) (v3 : Int32) (T : St) : Prop := (ok_m_dishOf T l2 3) ∧ ((((x_m_dishOf T l2 3) ≤ v3) → Kk v3 T) ∧ (¬ ((x_m_dishOf T l2 3) ≤ v3) → (ok_m_dishOf T l2 4) ∧ (vp_in (T.1 571 39) 12) ∧ (vp_in ((3 * l1) + v3) 12) ∧ (vp_in ((sA T 594 (T.1 571 39 : Int32).toNatClampNeg ((x_m_dishOf T l2 4) + v3)).1 571 39) 12) ∧ jn (fun (T1 : St) => (vp_in (T1.1 571 39) 12) ∧ jn (fun (T2 : St) => N (v3 + 1) T2) (sF (sA T1 596 (T1.1 571 39 : Int32).toNatClampNeg 0) 571 39 (((sA T1 596 (T1.1 571 39 : Int32).toNatClampNeg 0).1 571 39) + 1))) (sA (sA T 594 (T.1 571 39 : Int32).toNatClampNeg ((x_m_dishOf T l2 4) + v3)) 595 ((sA T 594 (T.1 571 39 : Int32).toNatClampNeg ((x_m_dishOf T l2 4) + v3)).1 571 39 : Int32).toNatClampNeg ((sA T 594 (T.1 571 39 : Int32).toNatClampNeg ((x_m_dishOf T l2 4) + v3)).2.2.1 593 ((3 * l1) + v3 : Int32).toNatClampNeg))))
def wp_m_layRow_38 (l1 : Int32) (l2 : Int32) (Kk : Int32 → St → Prop) (Q : St → Prop) : Nat → Int32 → St → Prop
  | 0, _, _ => False
  | f + 1, v3, T => bd_m_layRow_38 l1 l2 Kk Q (wp_m_layRow_38 l1 l2 Kk Q f) v3 T
theorem mb_m_layRow_38 (l1 : Int32) (l2 : Int32) {Kk Kk2 : Int32 → St → Prop} {Q Q2 : St → Prop} {N N2 : Int32 → St → Prop} (hK : ∀ (v3 : Int32) (T : St), Kk v3 T → Kk2 v3 T) (hQ : ∀ r, Q r → Q2 r) (hN : ∀ (v3 : Int32) (T : St), N v3 T → N2 v3 T) (v3 : Int32) (T : St) (w : bd_m_layRow_38 l1 l2 Kk Q N v3 T) : bd_m_layRow_38 l1 l2 Kk2 Q2 N2 v3 T := by
  unfold bd_m_layRow_38 at w ⊢
  obtain ⟨q1, w⟩ := w
  refine ⟨q1, ?_⟩
  refine mo_if w (fun c45_3 w => ?_) (fun c45_3 w => ?_)
  · exact hK v3 T w
  · obtain ⟨q2, w⟩ := w
    refine ⟨q2, ?_⟩
    obtain ⟨q3, w⟩ := w
    refine ⟨q3, ?_⟩
    obtain ⟨q4, w⟩ := w
    refine ⟨q4, ?_⟩
    obtain ⟨q5, w⟩ := w
    refine ⟨q5, ?_⟩
    refine mo_n w (fun T1 w => ?_)
    obtain ⟨q6, w⟩ := w
    refine ⟨q6, ?_⟩
    refine mo_n w (fun T2 w => ?_)
    exact hN (v3 + 1) T2 w
theorem mo_m_layRow_38 (l1 : Int32) (l2 : Int32) {Kk Kk2 : Int32 → St → Prop} {Q Q2 : St → Prop} (hK : ∀ (v3 : Int32) (T : St), Kk v3 T → Kk2 v3 T) (hQ : ∀ r, Q r → Q2 r) : ∀ (f : Nat) (v3 : Int32) (T : St), wp_m_layRow_38 l1 l2 Kk Q f v3 T → wp_m_layRow_38 l1 l2 Kk2 Q2 f v3 T := by
  intro f
  induction f with
  | zero => intro v3 T w; exact w.elim
  | succ f ih => intro v3 T w; exact mb_m_layRow_38 l1 l2 hK hQ ih v3 T w
theorem wr_m_layRow_38 (l1 : Int32) (l2 : Int32) {Kk : Int32 → St → Prop} {Q : St → Prop} (I : Int32 → St → Prop) (m : Int32 → St → Nat) (hv : ∀ (v3 : Int32) (T : St), I v3 T → bd_m_layRow_38 l1 l2 Kk Q (fun uv3 uT => I uv3 uT ∧ m uv3 uT < m v3 T) v3 T) : ∀ (f : Nat) (v3 : Int32) (T : St), m v3 T < f → I v3 T → wp_m_layRow_38 l1 l2 Kk Q f v3 T := by
  intro f
  induction f with
  | zero => intro v3 T h; exact absurd h (Nat.not_lt_zero _)
  | succ f ih => intro v3 T h hi; exact mb_m_layRow_38 l1 l2 (fun _ _ h => h) (fun _ h => h) (fun uv3 uT g => ih uv3 uT (by omega) g.1) v3 T (hv v3 T hi)
theorem so_m_layRow_38 (l1 : Int32) (l2 : Int32) {K : Int32 → St → St} {Kk Kk2 : Int32 → St → Prop} {Q : St → Prop} (hk : ∀ (v3 : Int32) (T : St), Kk v3 T → Kk2 v3 T ∧ Q (K v3 T)) : ∀ (f : Nat) (v3 : Int32) (T : St), wp_m_layRow_38 l1 l2 Kk Q f v3 T → ok_m_layRow_38 l1 l2 Kk2 f v3 T ∧ Q (x_m_layRow_38 l1 l2 K f v3 T) := by
  intro f
  induction f with
  | zero => intro v3 T w; exact w.elim
  | succ f ih =>
    intro v3 T w
    rw [wp_m_layRow_38, bd_m_layRow_38] at w
    rw [ok_m_layRow_38, x_m_layRow_38]
    obtain ⟨q1, w⟩ := w
    refine so_rq q1 ?_
    refine so_if2 (Q := Q) w (fun c45_3 w => ?_) (fun c45_3 w => ?_)
    · exact hk v3 T w
    · obtain ⟨q2, w⟩ := w
      refine so_rq q2 ?_
      obtain ⟨q3, w⟩ := w
      refine so_rq q3 ?_
      obtain ⟨q4, w⟩ := w
      refine so_rq q4 ?_
      obtain ⟨q5, w⟩ := w
      refine so_rq q5 ?_
      refine so_n (Q := Q) w (fun T1 w => ?_)
      obtain ⟨q6, w⟩ := w
      refine so_rq q6 ?_
      refine so_n (Q := Q) w (fun T2 w => ?_)
      exact ih (v3 + 1) T2 w
def bd_m_layRow_9  (Kk : Int32 → Int32 → St → Prop) (Q : St → Prop) (N : Int32 → Int32 → St → Prop) (v1 : Int32) (v2 : Int32) (T : St) : Prop := ((((T.2.2.1 575 (16 : Int32).toNatClampNeg) ≤ v2) → Kk v1 v2 T) ∧ (¬ ((T.2.2.1 575 (16 : Int32).toNatClampNeg) ≤ v2) → ((((((T.2.2.1 575 (202 : Int32).toNatClampNeg) >>> (v2 &&& 31)) &&& 1) = 1) → wp_m_layRow_38 v1 v2 (fun w1_3 T201 => N (v1 + 1) (v2 + 1) T201) Q 1000 0 T) ∧ (¬ ((((T.2.2.1 575 (202 : Int32).toNatClampNeg) >>> (v2 &&& 31)) &&& 1) = 1) → N v1 (v2 + 1) T))))
def wp_m_layRow_9  (Kk : Int32 → Int32 → St → Prop) (Q : St → Prop) : Nat → Int32 → Int32 → St → Prop
  | 0, _, _, _ => False
  | f + 1, v1, v2, T => bd_m_layRow_9  Kk Q (wp_m_layRow_9  Kk Q f) v1 v2 T
theorem mb_m_layRow_9  {Kk Kk2 : Int32 → Int32 → St → Prop} {Q Q2 : St → Prop} {N N2 : Int32 → Int32 → St → Prop} (hK : ∀ (v1 : Int32) (v2 : Int32) (T : St), Kk v1 v2 T → Kk2 v1 v2 T) (hQ : ∀ r, Q r → Q2 r) (hN : ∀ (v1 : Int32) (v2 : Int32) (T : St), N v1 v2 T → N2 v1 v2 T) (v1 : Int32) (v2 : Int32) (T : St) (w : bd_m_layRow_9  Kk Q N v1 v2 T) : bd_m_layRow_9  Kk2 Q2 N2 v1 v2 T := by
  unfold bd_m_layRow_9 at w ⊢
  refine mo_if w (fun c17_1 w => ?_) (fun c17_1 w => ?_)
  · exact hK v1 v2 T w
  · refine mo_if w (fun c33_2 w => ?_) (fun c33_2 w => ?_)
    · refine mo_m_layRow_38 v1 v2 (fun w1_3 T201 w => ?_) hQ 1000 0 T w
      exact hN (v1 + 1) (v2 + 1) T201 w
    · exact hN v1 (v2 + 1) T w
theorem mo_m_layRow_9  {Kk Kk2 : Int32 → Int32 → St → Prop} {Q Q2 : St → Prop} (hK : ∀ (v1 : Int32) (v2 : Int32) (T : St), Kk v1 v2 T → Kk2 v1 v2 T) (hQ : ∀ r, Q r → Q2 r) : ∀ (f : Nat) (v1 : Int32) (v2 : Int32) (T : St), wp_m_layRow_9  Kk Q f v1 v2 T → wp_m_layRow_9  Kk2 Q2 f v1 v2 T := by
  intro f
  induction f with
  | zero => intro v1 v2 T w; exact w.elim
  | succ f ih => intro v1 v2 T w; exact mb_m_layRow_9  hK hQ ih v1 v2 T w
theorem wr_m_layRow_9  {Kk : Int32 → Int32 → St → Prop} {Q : St → Prop} (I : Int32 → Int32 → St → Prop) (m : Int32 → Int32 → St → Nat) (hv : ∀ (v1 : Int32) (v2 : Int32) (T : St), I v1 v2 T → bd_m_layRow_9  Kk Q (fun uv1 uv2 uT => I uv1 uv2 uT ∧ m uv1 uv2 uT < m v1 v2 T) v1 v2 T) : ∀ (f : Nat) (v1 : Int32) (v2 : Int32) (T : St), m v1 v2 T < f → I v1 v2 T → wp_m_layRow_9  Kk Q f v1 v2 T := by
  intro f
  induction f with
  | zero => intro v1 v2 T h; exact absurd h (Nat.not_lt_zero _)
  | succ f ih => intro v1 v2 T h hi; exact mb_m_layRow_9  (fun _ _ _ h => h) (fun _ h => h) (fun uv1 uv2 uT g => ih uv1 uv2 uT (by omega) g.1) v1 v2 T (hv v1 v2 T hi)
theorem so_m_layRow_9  {K : Int32 → Int32 → St → St} {Kk Kk2 : Int32 → Int32 → St → Prop} {Q : St → Prop} (hk : ∀ (v1 : Int32) (v2 : Int32) (T : St), Kk v1 v2 T → Kk2 v1 v2 T ∧ Q (K v1 v2 T)) : ∀ (f : Nat) (v1 : Int32) (v2 : Int32) (T : St), wp_m_layRow_9  Kk Q f v1 v2 T → ok_m_layRow_9  Kk2 f v1 v2 T ∧ Q (x_m_layRow_9  K f v1 v2 T) := by
  intro f
  induction f with
  | zero => intro v1 v2 T w; exact w.elim
  | succ f ih =>
    intro v1 v2 T w
    rw [wp_m_layRow_9, bd_m_layRow_9] at w
    rw [ok_m_layRow_9, x_m_layRow_9]
    refine so_if2 (Q := Q) w (fun c17_1 w => ?_) (fun c17_1 w => ?_)
    · exact hk v1 v2 T w
    · refine so_if2 (Q := Q) w (fun c33_2 w => ?_) (fun c33_2 w => ?_)
      · refine so_m_layRow_38 v1 v2 (fun w1_3 T201 w => ?_) 1000 0 T w
        exact ih (v1 + 1) (v2 + 1) T201 w
      · exact ih v1 (v2 + 1) T w
def wp_m_layRow (T : St)  (Q : St → Prop) : Prop := wp_m_layRow_9  (fun w2_1 w2_2 T202 => Q T202) Q 1000 0 0 (sF T 571 39 0)
theorem so_m_layRow {T : St}  {Q : St → Prop} (w : wp_m_layRow T  Q) : ok_m_layRow T  ∧ Q (x_m_layRow T ) := by
  unfold wp_m_layRow at w
  unfold ok_m_layRow x_m_layRow
  refine so_m_layRow_9  (fun w2_1 w2_2 T202 w => ?_) 1000 0 0 (sF T 571 39 0) w
  refine ⟨trivial, ?_⟩
  exact w
