def bd_m_number_17 (l1 : Int32) (l2 : Int32) (l3 : Int32) (Kk : Int32 → Int32 → St → Prop) (Q : St → Prop) (N : Int32 → Int32 → St → Prop) (v4 : Int32) (v5 : Int32) (T : St) : Prop := ((((T.1 571 15) ≤ v5) → Kk v4 v5 T) ∧ (¬ ((T.1 571 15) ≤ v5) → ((((T.1 571 13) = 3) → (vp_in v5 600) ∧ jn (fun (i1 : Int32) => N i1 (v5 + 1) T) (((10 * v4) + (T.2.2.1 577 (v5 : Int32).toNatClampNeg)) - 48)) ∧ (¬ ((T.1 571 13) = 3) → Kk v4 v5 T))))
def wp_m_number_17 (l1 : Int32) (l2 : Int32) (l3 : Int32) (Kk : Int32 → Int32 → St → Prop) (Q : St → Prop) : Nat → Int32 → Int32 → St → Prop
  | 0, _, _, _ => False
  | f + 1, v4, v5, T => bd_m_number_17 l1 l2 l3 Kk Q (wp_m_number_17 l1 l2 l3 Kk Q f) v4 v5 T
theorem mb_m_number_17 (l1 : Int32) (l2 : Int32) (l3 : Int32) {Kk Kk2 : Int32 → Int32 → St → Prop} {Q Q2 : St → Prop} {N N2 : Int32 → Int32 → St → Prop} (hK : ∀ (v4 : Int32) (v5 : Int32) (T : St), Kk v4 v5 T → Kk2 v4 v5 T) (hQ : ∀ r, Q r → Q2 r) (hN : ∀ (v4 : Int32) (v5 : Int32) (T : St), N v4 v5 T → N2 v4 v5 T) (v4 : Int32) (v5 : Int32) (T : St) (w : bd_m_number_17 l1 l2 l3 Kk Q N v4 v5 T) : bd_m_number_17 l1 l2 l3 Kk2 Q2 N2 v4 v5 T := by
  unfold bd_m_number_17 at w ⊢
  refine mo_if w (fun c23_2 w => ?_) (fun c23_2 w => ?_)
  · exact hK v4 v5 T w
  · refine mo_if w (fun c31_3 w => ?_) (fun c31_3 w => ?_)
    · obtain ⟨q1, w⟩ := w
      refine ⟨q1, ?_⟩
      refine mo_n w (fun i1 w => ?_)
      exact hN i1 (v5 + 1) T w
    · exact hK v4 v5 T w
theorem mo_m_number_17 (l1 : Int32) (l2 : Int32) (l3 : Int32) {Kk Kk2 : Int32 → Int32 → St → Prop} {Q Q2 : St → Prop} (hK : ∀ (v4 : Int32) (v5 : Int32) (T : St), Kk v4 v5 T → Kk2 v4 v5 T) (hQ : ∀ r, Q r → Q2 r) : ∀ (f : Nat) (v4 : Int32) (v5 : Int32) (T : St), wp_m_number_17 l1 l2 l3 Kk Q f v4 v5 T → wp_m_number_17 l1 l2 l3 Kk2 Q2 f v4 v5 T := by
  intro f
  induction f with
  | zero => intro v4 v5 T w; exact w.elim
  | succ f ih => intro v4 v5 T w; exact mb_m_number_17 l1 l2 l3 hK hQ ih v4 v5 T w
theorem wr_m_number_17 (l1 : Int32) (l2 : Int32) (l3 : Int32) {Kk : Int32 → Int32 → St → Prop} {Q : St → Prop} (I : Int32 → Int32 → St → Prop) (m : Int32 → Int32 → St → Nat) (hv : ∀ (v4 : Int32) (v5 : Int32) (T : St), I v4 v5 T → bd_m_number_17 l1 l2 l3 Kk Q (fun uv4 uv5 uT => I uv4 uv5 uT ∧ m uv4 uv5 uT < m v4 v5 T) v4 v5 T) : ∀ (f : Nat) (v4 : Int32) (v5 : Int32) (T : St), m v4 v5 T < f → I v4 v5 T → wp_m_number_17 l1 l2 l3 Kk Q f v4 v5 T := by
  intro f
  induction f with
  | zero => intro v4 v5 T h; exact absurd h (Nat.not_lt_zero _)
  | succ f ih => intro v4 v5 T h hi; exact mb_m_number_17 l1 l2 l3 (fun _ _ _ h => h) (fun _ h => h) (fun uv4 uv5 uT g => ih uv4 uv5 uT (by omega) g.1) v4 v5 T (hv v4 v5 T hi)
theorem so_m_number_17 (l1 : Int32) (l2 : Int32) (l3 : Int32) {K : Int32 → Int32 → St → St} {Kk Kk2 : Int32 → Int32 → St → Prop} {Q : St → Prop} (hk : ∀ (v4 : Int32) (v5 : Int32) (T : St), Kk v4 v5 T → Kk2 v4 v5 T ∧ Q (K v4 v5 T)) : ∀ (f : Nat) (v4 : Int32) (v5 : Int32) (T : St), wp_m_number_17 l1 l2 l3 Kk Q f v4 v5 T → ok_m_number_17 l1 l2 l3 Kk2 f v4 v5 T ∧ Q (x_m_number_17 l1 l2 l3 K f v4 v5 T) := by
  intro f
  induction f with
  | zero => intro v4 v5 T w; exact w.elim
  | succ f ih =>
    intro v4 v5 T w
    rw [wp_m_number_17, bd_m_number_17] at w
    rw [ok_m_number_17, x_m_number_17]
    refine so_if2 (Q := Q) w (fun c23_2 w => ?_) (fun c23_2 w => ?_)
    · exact hk v4 v5 T w
    · refine so_if2 (Q := Q) w (fun c31_3 w => ?_) (fun c31_3 w => ?_)
      · obtain ⟨q1, w⟩ := w
        refine so_rq q1 ?_
        refine so_n (Q := Q) w (fun i1 w => ?_)
        exact ih i1 (v5 + 1) T w
      · exact hk v4 v5 T w
def wp_m_number (T : St) (p0 : Int32) (p1 : Int32) (p2 : Int32) (Q : St → Prop) : Prop := ((((T.1 571 16) ≤ 0) → wp_m_number_17 p0 p1 p2 (fun w1_4 w1_5 T201 => jn (fun (KJ1 : St → Prop) => ((((T201.1 571 13) = 3) → ((((x_m_in T201 ((w1_4 : Int32).toInt64) ((p1 : Int32).toInt64) ((p2 : Int32).toInt64)) = 0) → KJ1 (x_m_bad T201 2)) ∧ (¬ ((x_m_in T201 ((w1_4 : Int32).toInt64) ((p1 : Int32).toInt64) ((p2 : Int32).toInt64)) = 0) → KJ1 T201))) ∧ (¬ ((T201.1 571 13) = 3) → KJ1 T201))) (fun (T301 : St) => jn (fun (KJ2 : Int32 → Prop) => ((((T301.1 571 13) = 3) → KJ2 1) ∧ (¬ ((T301.1 571 13) = 3) → KJ2 0))) (fun (j2_s1 : Int32) => (ok_m_must T301 j2_s1) ∧ (((((x_m_must T301 j2_s1).1 571 16) = 0) → (vp_in p0 204) ∧ Q (sA (x_m_must T301 j2_s1) 576 (p0 : Int32).toNatClampNeg w1_4)) ∧ (¬ (((x_m_must T301 j2_s1).1 571 16) = 0) → Q (x_m_must T301 j2_s1)))))) Q 1000 0 (T.1 571 14) T) ∧ (¬ ((T.1 571 16) ≤ 0) → Q T))
theorem so_m_number {T : St} (p0 : Int32) (p1 : Int32) (p2 : Int32) {Q : St → Prop} (w : wp_m_number T p0 p1 p2 Q) : ok_m_number T p0 p1 p2 ∧ Q (x_m_number T p0 p1 p2) := by
  unfold wp_m_number at w
  unfold ok_m_number x_m_number
  refine so_ifT (Q := Q) w (fun c4_1 w => ?_) (fun c4_1 w => ?_)
  · refine so_m_number_17 p0 p1 p2 (fun w1_4 w1_5 T201 w => ?_) 1000 0 (T.1 571 14) T w
    refine so_jn (Q := Q) (J := fun (KJ1 : St → St) (OJ1 : St → Prop) (WKJ1 : St → Prop) => ∀ (T301 : St), WKJ1 T301 → OJ1 T301 ∧ Q (KJ1 T301)) w (fun T301 w => ?_) (fun KJ1 OJ1 WKJ1 hJ1 w => ?_)
    · skip
      refine so_jn (Q := Q) (J := fun (KJ2 : Int32 → St) (OJ2 : Int32 → Prop) (WKJ2 : Int32 → Prop) => ∀ (j2_s1 : Int32), WKJ2 j2_s1 → OJ2 j2_s1 ∧ Q (KJ2 j2_s1)) w (fun j2_s1 w => ?_) (fun KJ2 OJ2 WKJ2 hJ2 w => ?_)
      · skip
        obtain ⟨q2, w⟩ := w
        refine so_rq q2 ?_
        refine so_ifT (Q := Q) w (fun c105_7 w => ?_) (fun c105_7 w => ?_)
        · obtain ⟨q3, w⟩ := w
          refine so_rq q3 ?_
          refine ⟨trivial, ?_⟩
          exact w
        · exact w
      · skip
        refine so_if2 (Q := Q) w (fun c90_8 w => ?_) (fun c90_8 w => ?_)
        · exact hJ2 1 w
        · exact hJ2 0 w
    · skip
      refine so_if2 (Q := Q) w (fun c63_9 w => ?_) (fun c63_9 w => ?_)
      · refine so_if2 (Q := Q) w (fun c76_10 w => ?_) (fun c76_10 w => ?_)
        · exact hJ1 (x_m_bad T201 2) w
        · exact hJ1 T201 w
      · exact hJ1 T201 w
  · exact w
def wp_m_mustEnd (T : St)  (Q : St → Prop) : Prop := ((((T.1 571 16) = 0) → ((((T.1 571 13) = 4) → (ok_m_must T 1) ∧ Q (x_m_must T 1)) ∧ (¬ ((T.1 571 13) = 4) → (ok_m_must T 0) ∧ Q (x_m_must T 0)))) ∧ (¬ ((T.1 571 16) = 0) → Q T))
theorem so_m_mustEnd {T : St}  {Q : St → Prop} (w : wp_m_mustEnd T  Q) : ok_m_mustEnd T  ∧ Q (x_m_mustEnd T ) := by
  unfold wp_m_mustEnd at w
  unfold ok_m_mustEnd x_m_mustEnd
  refine so_ifT (Q := Q) w (fun c4_1 w => ?_) (fun c4_1 w => ?_)
  · refine so_if2 (Q := Q) w (fun c13_2 w => ?_) (fun c13_2 w => ?_)
    · obtain ⟨q2, w⟩ := w
      refine so_rq q2 ?_
      refine ⟨trivial, ?_⟩
      exact w
    · obtain ⟨q1, w⟩ := w
      refine so_rq q1 ?_
      refine ⟨trivial, ?_⟩
      exact w
  · exact w
def wp_m_kindOfWord (T : St)  (Q : Int32 → Prop) : Prop := (ok_m_word T) ∧ ((((lg_cmp (x_m_word T) 1919512167) = 0) → Q 1) ∧ (¬ ((lg_cmp (x_m_word T) 1919512167) = 0) → ((((lg_cmp (x_m_word T) 1870030190) = 0) → Q 2) ∧ (¬ ((lg_cmp (x_m_word T) 1870030190) = 0) → ((((lg_cmp (x_m_word T) 1751215716) = 0) → Q 3) ∧ (¬ ((lg_cmp (x_m_word T) 1751215716) = 0) → ((((lg_cmp (x_m_word T) 1919251316) = 0) → Q 4) ∧ (¬ ((lg_cmp (x_m_word T) 1919251316) = 0) → ((((lg_cmp (x_m_word T) 1801807216) = 0) → Q 5) ∧ (¬ ((lg_cmp (x_m_word T) 1801807216) = 0) → Q (-1000000)))))))))))
theorem so_m_kindOfWord {T : St}  {Q : Int32 → Prop} (w : wp_m_kindOfWord T  Q) : ok_m_kindOfWord T  ∧ Q (x_m_kindOfWord T ) := by
  unfold wp_m_kindOfWord at w
  unfold ok_m_kindOfWord x_m_kindOfWord
  obtain ⟨q1, w⟩ := w
  refine so_rq q1 ?_
  refine ⟨trivial, ?_⟩
  refine so_if0 (Q := Q) w (fun c10_1 w => ?_) (fun c10_1 w => ?_)
  · exact w
  · refine so_if0 (Q := Q) w (fun c22_2 w => ?_) (fun c22_2 w => ?_)
    · exact w
    · refine so_if0 (Q := Q) w (fun c34_3 w => ?_) (fun c34_3 w => ?_)
      · exact w
      · refine so_if0 (Q := Q) w (fun c46_4 w => ?_) (fun c46_4 w => ?_)
        · exact w
        · refine so_if0 (Q := Q) w (fun c58_5 w => ?_) (fun c58_5 w => ?_)
          · exact w
          · exact w
def wp_m_readAway (T : St)  (Q : St → Prop) : Prop := jn (fun (KJ1 : St → Prop) => ((((T.2.2.1 576 (7 : Int32).toNatClampNeg) = 4) → KJ1 (x_m_bad T 3)) ∧ (¬ ((T.2.2.1 576 (7 : Int32).toNatClampNeg) = 4) → KJ1 T))) (fun (T301 : St) => (ok_m_must T301 1) ∧ jn (fun (i1 : Int32) => (ok_m_number (x_m_must T301 1) i1 0 59) ∧ jn (fun (KJ2 : Int32 → Prop) => (((((x_m_number (x_m_must T301 1) i1 0 59).1 571 16) = 0) → (vp_in i1 204) ∧ KJ2 ((x_m_number (x_m_must T301 1) i1 0 59).2.2.1 576 (i1 : Int32).toNatClampNeg)) ∧ (¬ (((x_m_number (x_m_must T301 1) i1 0 59).1 571 16) = 0) → KJ2 0))) (fun (j2_s2 : Int32) => (ok_m_number (x_m_number (x_m_must T301 1) i1 0 59) (i1 + 1) j2_s2 59) ∧ (ok_m_mustEnd (x_m_number (x_m_number (x_m_must T301 1) i1 0 59) (i1 + 1) j2_s2 59)) ∧ (((((x_m_mustEnd (x_m_number (x_m_number (x_m_must T301 1) i1 0 59) (i1 + 1) j2_s2 59)).1 571 16) = 0) → Q (sA (x_m_mustEnd (x_m_number (x_m_number (x_m_must T301 1) i1 0 59) (i1 + 1) j2_s2 59)) 576 (7 : Int32).toNatClampNeg (((x_m_mustEnd (x_m_number (x_m_number (x_m_must T301 1) i1 0 59) (i1 + 1) j2_s2 59)).2.2.1 576 (7 : Int32).toNatClampNeg) + 1))) ∧ (¬ (((x_m_mustEnd (x_m_number (x_m_number (x_m_must T301 1) i1 0 59) (i1 + 1) j2_s2 59)).1 571 16) = 0) → Q (sA (x_m_mustEnd (x_m_number (x_m_number (x_m_must T301 1) i1 0 59) (i1 + 1) j2_s2 59)) 576 (7 : Int32).toNatClampNeg (((x_m_mustEnd (x_m_number (x_m_number (x_m_must T301 1) i1 0 59) (i1 + 1) j2_s2 59)).2.2.1 576 (7 : Int32).toNatClampNeg) + 0)))))) (8 + (2 * ((x_m_must T301 1).2.2.1 576 (7 : Int32).toNatClampNeg))))
theorem so_m_readAway {T : St}  {Q : St → Prop} (w : wp_m_readAway T  Q) : ok_m_readAway T  ∧ Q (x_m_readAway T ) := by
  unfold wp_m_readAway at w
  unfold ok_m_readAway x_m_readAway
  refine so_jn (Q := Q) (J := fun (KJ1 : St → St) (OJ1 : St → Prop) (WKJ1 : St → Prop) => ∀ (T301 : St), WKJ1 T301 → OJ1 T301 ∧ Q (KJ1 T301)) w (fun T301 w => ?_) (fun KJ1 OJ1 WKJ1 hJ1 w => ?_)
  · skip
    obtain ⟨q1, w⟩ := w
    refine so_rq q1 ?_
    refine so_n (Q := Q) w (fun i1 w => ?_)
    obtain ⟨q2, w⟩ := w
    refine so_rq q2 ?_
    refine so_jn (Q := Q) (J := fun (KJ2 : Int32 → St) (OJ2 : Int32 → Prop) (WKJ2 : Int32 → Prop) => ∀ (j2_s2 : Int32), WKJ2 j2_s2 → OJ2 j2_s2 ∧ Q (KJ2 j2_s2)) w (fun j2_s2 w => ?_) (fun KJ2 OJ2 WKJ2 hJ2 w => ?_)
    · skip
      obtain ⟨q4, w⟩ := w
      refine so_rq q4 ?_
      obtain ⟨q5, w⟩ := w
      refine so_rq q5 ?_
      refine ⟨trivial, ?_⟩
      refine so_if0 (Q := Q) w (fun c84_3 w => ?_) (fun c84_3 w => ?_)
      · exact w
      · exact w
    · skip
      refine so_if2 (Q := Q) w (fun c50_4 w => ?_) (fun c50_4 w => ?_)
      · obtain ⟨q6, w⟩ := w
        refine so_rq q6 ?_
        exact hJ2 ((x_m_number (x_m_must T301 1) i1 0 59).2.2.1 576 (i1 : Int32).toNatClampNeg) w
      · exact hJ2 0 w
  · skip
    refine so_if2 (Q := Q) w (fun c8_5 w => ?_) (fun c8_5 w => ?_)
    · exact hJ1 (x_m_bad T 3) w
    · exact hJ1 T w
def wp_m_readStep (T : St) (p0 : Int32) (p1 : Int32) (Q : St → Prop) : Prop := (vp_in ((18 + (5 * p1)) + 3) 204) ∧ jn (fun (KJ1 : St → Prop) => ((((T.2.2.1 576 ((18 + (5 * p1)) + 3 : Int32).toNatClampNeg) = 3) → KJ1 (x_m_bad T 3)) ∧ (¬ ((T.2.2.1 576 ((18 + (5 * p1)) + 3 : Int32).toNatClampNeg) = 3) → KJ1 T))) (fun (T301 : St) => (ok_m_must T301 1) ∧ (((((x_m_must T301 1).1 571 16) ≤ 0) → jn (fun (i1 : Int32) => (vp_in i1 204) ∧ jn (fun (KJ2 : Int32 → Prop) => (((p0 = 3) → KJ2 2) ∧ (¬ (p0 = 3) → KJ2 0))) (fun (j2_s2 : Int32) => (vp_in (i1 + 3) 204) ∧ jn (fun (T2 : St) => (vp_in (i1 + 4) 204) ∧ (vp_in (i1 + 5) 204) ∧ jn (fun (T3 : St) => (ok_m_number T3 (i1 + 1) 1 30) ∧ (ok_m_number (x_m_number T3 (i1 + 1) 1 30) (i1 + 2) 0 1) ∧ jn (fun (KJ3 : Prop) => (((p0 = 1) → KJ3) ∧ (¬ (p0 = 1) → (((p0 = 2) → KJ3) ∧ (¬ (p0 = 2) → jn (fun (KJ7 : St → Prop) => (((p0 = 2) → (((((x_m_number (x_m_number T3 (i1 + 1) 1 30) (i1 + 2) 0 1).1 571 16) = 0) → (ok_m_number (x_m_number (x_m_number T3 (i1 + 1) 1 30) (i1 + 2) 0 1) (i1 + 5) ((x_m_number (x_m_number T3 (i1 + 1) 1 30) (i1 + 2) 0 1).2.2.1 576 (i1 + 4 : Int32).toNatClampNeg) 9) ∧ jn (fun (T18 : St) => KJ7 T18) (x_m_number (x_m_number (x_m_number T3 (i1 + 1) 1 30) (i1 + 2) 0 1) (i1 + 5) ((x_m_number (x_m_number T3 (i1 + 1) 1 30) (i1 + 2) 0 1).2.2.1 576 (i1 + 4 : Int32).toNatClampNeg) 9)) ∧ (¬ (((x_m_number (x_m_number T3 (i1 + 1) 1 30) (i1 + 2) 0 1).1 571 16) = 0) → (ok_m_number (x_m_number (x_m_number T3 (i1 + 1) 1 30) (i1 + 2) 0 1) (i1 + 5) 0 9) ∧ KJ7 (x_m_number (x_m_number (x_m_number T3 (i1 + 1) 1 30) (i1 + 2) 0 1) (i1 + 5) 0 9)))) ∧ (¬ (p0 = 2) → KJ7 (x_m_number (x_m_number T3 (i1 + 1) 1 30) (i1 + 2) 0 1)))) (fun (T307 : St) => jn (fun (KJ8 : St → Prop) => (((p0 = 5) → (ok_m_number T307 (i1 + 4) 0 9) ∧ KJ8 (x_m_number T307 (i1 + 4) 0 9)) ∧ (¬ (p0 = 5) → KJ8 T307))) (fun (T308 : St) => (ok_m_mustEnd T308) ∧ jn (fun (T17 : St) => Q (sA T17 576 (17 : Int32).toNatClampNeg ((T17.2.2.1 576 (17 : Int32).toNatClampNeg) + 1))) (sA (x_m_mustEnd T308) 576 ((18 + (5 * p1)) + 3 : Int32).toNatClampNeg (((x_m_mustEnd T308).2.2.1 576 ((18 + (5 * p1)) + 3 : Int32).toNatClampNeg) + 1))))))))) ((ok_m_number (x_m_number (x_m_number T3 (i1 + 1) 1 30) (i1 + 2) 0 1) (i1 + 3) 0 2) ∧ jn (fun (KJ4 : Int32 → Prop) => (((p0 = 1) → KJ4 1) ∧ (¬ (p0 = 1) → KJ4 9))) (fun (j4_s3 : Int32) => (ok_m_number (x_m_number (x_m_number (x_m_number T3 (i1 + 1) 1 30) (i1 + 2) 0 1) (i1 + 3) 0 2) (i1 + 4) 0 j4_s3) ∧ jn (fun (T14 : St) => jn (fun (KJ5 : St → Prop) => (((p0 = 2) → ((((T14.1 571 16) = 0) → (ok_m_number T14 (i1 + 5) (T14.2.2.1 576 (i1 + 4 : Int32).toNatClampNeg) 9) ∧ KJ5 (x_m_number T14 (i1 + 5) (T14.2.2.1 576 (i1 + 4 : Int32).toNatClampNeg) 9)) ∧ (¬ ((T14.1 571 16) = 0) → (ok_m_number T14 (i1 + 5) 0 9) ∧ KJ5 (x_m_number T14 (i1 + 5) 0 9)))) ∧ (¬ (p0 = 2) → KJ5 T14))) (fun (T305 : St) => jn (fun (KJ6 : St → Prop) => (((p0 = 5) → (ok_m_number T305 (i1 + 4) 0 9) ∧ KJ6 (x_m_number T305 (i1 + 4) 0 9)) ∧ (¬ (p0 = 5) → KJ6 T305))) (fun (T306 : St) => (ok_m_mustEnd T306) ∧ jn (fun (T15 : St) => Q (sA T15 576 (17 : Int32).toNatClampNeg ((T15.2.2.1 576 (17 : Int32).toNatClampNeg) + 1))) (sA (x_m_mustEnd T306) 576 ((18 + (5 * p1)) + 3 : Int32).toNatClampNeg (((x_m_mustEnd T306).2.2.1 576 ((18 + (5 * p1)) + 3 : Int32).toNatClampNeg) + 1))))) (x_m_number (x_m_number (x_m_number (x_m_number T3 (i1 + 1) 1 30) (i1 + 2) 0 1) (i1 + 3) 0 2) (i1 + 4) 0 j4_s3)))) (sA (sA T2 576 (i1 + 4 : Int32).toNatClampNeg (-1000000)) 576 (i1 + 5 : Int32).toNatClampNeg (-1000000))) (sA (sA (x_m_must T301 1) 576 (i1 : Int32).toNatClampNeg p0) 576 (i1 + 3 : Int32).toNatClampNeg j2_s2))) (58 + (6 * ((x_m_must T301 1).2.2.1 576 (17 : Int32).toNatClampNeg)))) ∧ (¬ (((x_m_must T301 1).1 571 16) ≤ 0) → Q (x_m_must T301 1))))
theorem so_m_readStep {T : St} (p0 : Int32) (p1 : Int32) {Q : St → Prop} (w : wp_m_readStep T p0 p1 Q) : ok_m_readStep T p0 p1 ∧ Q (x_m_readStep T p0 p1) := by
  unfold wp_m_readStep at w
  unfold ok_m_readStep x_m_readStep
  obtain ⟨q1, w⟩ := w
  refine so_rq q1 ?_
  refine so_jn (Q := Q) (J := fun (KJ1 : St → St) (OJ1 : St → Prop) (WKJ1 : St → Prop) => ∀ (T301 : St), WKJ1 T301 → OJ1 T301 ∧ Q (KJ1 T301)) w (fun T301 w => ?_) (fun KJ1 OJ1 WKJ1 hJ1 w => ?_)
  · skip
    obtain ⟨q2, w⟩ := w
    refine so_rq q2 ?_
    refine so_ifT (Q := Q) w (fun c33_2 w => ?_) (fun c33_2 w => ?_)
    · refine so_n (Q := Q) w (fun i1 w => ?_)
      obtain ⟨q3, w⟩ := w
      refine so_rq q3 ?_
      refine so_jn (Q := Q) (J := fun (KJ2 : Int32 → St) (OJ2 : Int32 → Prop) (WKJ2 : Int32 → Prop) => ∀ (j2_s2 : Int32), WKJ2 j2_s2 → OJ2 j2_s2 ∧ Q (KJ2 j2_s2)) w (fun j2_s2 w => ?_) (fun KJ2 OJ2 WKJ2 hJ2 w => ?_)
      · skip
        obtain ⟨q4, w⟩ := w
        refine so_rq q4 ?_
        refine so_n (Q := Q) w (fun T2 w => ?_)
        obtain ⟨q5, w⟩ := w
        refine so_rq q5 ?_
        obtain ⟨q6, w⟩ := w
        refine so_rq q6 ?_
        refine so_n (Q := Q) w (fun T3 w => ?_)
        obtain ⟨q7, w⟩ := w
        refine so_rq q7 ?_
        obtain ⟨q8, w⟩ := w
        refine so_rq q8 ?_
        refine so_jn (Q := Q) (J := fun (KJ3 : St) (OJ3 : Prop) (WKJ3 : Prop) => WKJ3 → OJ3 ∧ Q (KJ3)) w (fun  w => ?_) (fun KJ3 OJ3 WKJ3 hJ3 w => ?_)
        · skip
          obtain ⟨q20, w⟩ := w
          refine so_rq q20 ?_
          refine so_jn (Q := Q) (J := fun (KJ4 : Int32 → St) (OJ4 : Int32 → Prop) (WKJ4 : Int32 → Prop) => ∀ (j4_s3 : Int32), WKJ4 j4_s3 → OJ4 j4_s3 ∧ Q (KJ4 j4_s3)) w (fun j4_s3 w => ?_) (fun KJ4 OJ4 WKJ4 hJ4 w => ?_)
          · skip
            obtain ⟨q21, w⟩ := w
            refine so_rq q21 ?_
            refine so_n (Q := Q) w (fun T14 w => ?_)
            refine so_jn (Q := Q) (J := fun (KJ5 : St → St) (OJ5 : St → Prop) (WKJ5 : St → Prop) => ∀ (T305 : St), WKJ5 T305 → OJ5 T305 ∧ Q (KJ5 T305)) w (fun T305 w => ?_) (fun KJ5 OJ5 WKJ5 hJ5 w => ?_)
            · skip
              refine so_jn (Q := Q) (J := fun (KJ6 : St → St) (OJ6 : St → Prop) (WKJ6 : St → Prop) => ∀ (T306 : St), WKJ6 T306 → OJ6 T306 ∧ Q (KJ6 T306)) w (fun T306 w => ?_) (fun KJ6 OJ6 WKJ6 hJ6 w => ?_)
              · skip
                obtain ⟨q25, w⟩ := w
                refine so_rq q25 ?_
                refine ⟨trivial, ?_⟩
                refine so_n0 (Q := Q) w (fun T15 w => ?_)
                exact w
              · skip
                refine so_if2 (Q := Q) w (fun c199_15 w => ?_) (fun c199_15 w => ?_)
                · obtain ⟨q26, w⟩ := w
                  refine so_rq q26 ?_
                  exact hJ6 (x_m_number T305 (i1 + 4) 0 9) w
                · exact hJ6 T305 w
            · skip
              refine so_if2 (Q := Q) w (fun c164_16 w => ?_) (fun c164_16 w => ?_)
              · refine so_if2 (Q := Q) w (fun c176_17 w => ?_) (fun c176_17 w => ?_)
                · obtain ⟨q28, w⟩ := w
                  refine so_rq q28 ?_
                  exact hJ5 (x_m_number T14 (i1 + 5) (T14.2.2.1 576 (i1 + 4 : Int32).toNatClampNeg) 9) w
                · obtain ⟨q27, w⟩ := w
                  refine so_rq q27 ?_
                  exact hJ5 (x_m_number T14 (i1 + 5) 0 9) w
              · exact hJ5 T14 w
          · skip
            refine so_if2 (Q := Q) w (fun c150_18 w => ?_) (fun c150_18 w => ?_)
            · exact hJ4 1 w
            · exact hJ4 9 w
        · skip
          refine so_if2 (Q := Q) w (fun c124_19 w => ?_) (fun c124_19 w => ?_)
          · exact hJ3  w
          · refine so_if2 (Q := Q) w (fun c129_20 w => ?_) (fun c129_20 w => ?_)
            · exact hJ3  w
            · refine so_jn (Q := Q) (J := fun (KJ7 : St → St) (OJ7 : St → Prop) (WKJ7 : St → Prop) => ∀ (T307 : St), WKJ7 T307 → OJ7 T307 ∧ Q (KJ7 T307)) w (fun T307 w => ?_) (fun KJ7 OJ7 WKJ7 hJ7 w => ?_)
              · skip
                refine so_jn (Q := Q) (J := fun (KJ8 : St → St) (OJ8 : St → Prop) (WKJ8 : St → Prop) => ∀ (T308 : St), WKJ8 T308 → OJ8 T308 ∧ Q (KJ8 T308)) w (fun T308 w => ?_) (fun KJ8 OJ8 WKJ8 hJ8 w => ?_)
                · skip
                  obtain ⟨q32, w⟩ := w
                  refine so_rq q32 ?_
                  refine ⟨trivial, ?_⟩
                  refine so_n0 (Q := Q) w (fun T17 w => ?_)
                  exact w
                · skip
                  refine so_if2 (Q := Q) w (fun c199_24 w => ?_) (fun c199_24 w => ?_)
                  · obtain ⟨q33, w⟩ := w
                    refine so_rq q33 ?_
                    exact hJ8 (x_m_number T307 (i1 + 4) 0 9) w
                  · exact hJ8 T307 w
              · skip
                refine so_if2 (Q := Q) w (fun c164_25 w => ?_) (fun c164_25 w => ?_)
                · refine so_if2 (Q := Q) w (fun c176_26 w => ?_) (fun c176_26 w => ?_)
                  · obtain ⟨q35, w⟩ := w
                    refine so_rq q35 ?_
                    refine so_n (Q := Q) w (fun T18 w => ?_)
                    exact hJ7 T18 w
                  · obtain ⟨q34, w⟩ := w
                    refine so_rq q34 ?_
                    exact hJ7 (x_m_number (x_m_number (x_m_number T3 (i1 + 1) 1 30) (i1 + 2) 0 1) (i1 + 5) 0 9) w
                · exact hJ7 (x_m_number (x_m_number T3 (i1 + 1) 1 30) (i1 + 2) 0 1) w
      · skip
        refine so_if2 (Q := Q) w (fun c70_27 w => ?_) (fun c70_27 w => ?_)
        · exact hJ2 2 w
        · exact hJ2 0 w
    · exact w
  · skip
    refine so_if2 (Q := Q) w (fun c16_28 w => ?_) (fun c16_28 w => ?_)
    · exact hJ1 (x_m_bad T 3) w
    · exact hJ1 T w
def bd_m_readDish_115 (l1 : Int32) (l2 : Int32) (Kk : Int32 → St → Prop) (Q : St → Prop) (N : Int32 → St → Prop) (v3 : Int32) (T : St) : Prop := ((((T.1 571 16) = 0) → (((v3 = (-1000000)) → Kk v3 T) ∧ (¬ (v3 = (-1000000)) → (ok_m_readStep T v3 l1) ∧ (ok_m_kindOfWord (x_m_readStep T v3 l1)) ∧ jn (fun (i5 : Int32) => N i5 (x_m_readStep T v3 l1)) (x_m_kindOfWord (x_m_readStep T v3 l1))))) ∧ (¬ ((T.1 571 16) = 0) → Kk v3 T))
def wp_m_readDish_115 (l1 : Int32) (l2 : Int32) (Kk : Int32 → St → Prop) (Q : St → Prop) : Nat → Int32 → St → Prop
  | 0, _, _ => False
  | f + 1, v3, T => bd_m_readDish_115 l1 l2 Kk Q (wp_m_readDish_115 l1 l2 Kk Q f) v3 T
theorem mb_m_readDish_115 (l1 : Int32) (l2 : Int32) {Kk Kk2 : Int32 → St → Prop} {Q Q2 : St → Prop} {N N2 : Int32 → St → Prop} (hK : ∀ (v3 : Int32) (T : St), Kk v3 T → Kk2 v3 T) (hQ : ∀ r, Q r → Q2 r) (hN : ∀ (v3 : Int32) (T : St), N v3 T → N2 v3 T) (v3 : Int32) (T : St) (w : bd_m_readDish_115 l1 l2 Kk Q N v3 T) : bd_m_readDish_115 l1 l2 Kk2 Q2 N2 v3 T := by
  unfold bd_m_readDish_115 at w ⊢
  refine mo_if w (fun c119_4 w => ?_) (fun c119_4 w => ?_)
  · refine mo_if w (fun c125_5 w => ?_) (fun c125_5 w => ?_)
    · exact hK v3 T w
    · obtain ⟨q9, w⟩ := w
      refine ⟨q9, ?_⟩
      obtain ⟨q10, w⟩ := w
      refine ⟨q10, ?_⟩
      refine mo_n w (fun i5 w => ?_)
      exact hN i5 (x_m_readStep T v3 l1) w
  · exact hK v3 T w
theorem mo_m_readDish_115 (l1 : Int32) (l2 : Int32) {Kk Kk2 : Int32 → St → Prop} {Q Q2 : St → Prop} (hK : ∀ (v3 : Int32) (T : St), Kk v3 T → Kk2 v3 T) (hQ : ∀ r, Q r → Q2 r) : ∀ (f : Nat) (v3 : Int32) (T : St), wp_m_readDish_115 l1 l2 Kk Q f v3 T → wp_m_readDish_115 l1 l2 Kk2 Q2 f v3 T := by
  intro f
  induction f with
  | zero => intro v3 T w; exact w.elim
  | succ f ih => intro v3 T w; exact mb_m_readDish_115 l1 l2 hK hQ ih v3 T w
theorem wr_m_readDish_115 (l1 : Int32) (l2 : Int32) {Kk : Int32 → St → Prop} {Q : St → Prop} (I : Int32 → St → Prop) (m : Int32 → St → Nat) (hv : ∀ (v3 : Int32) (T : St), I v3 T → bd_m_readDish_115 l1 l2 Kk Q (fun uv3 uT => I uv3 uT ∧ m uv3 uT < m v3 T) v3 T) : ∀ (f : Nat) (v3 : Int32) (T : St), m v3 T < f → I v3 T → wp_m_readDish_115 l1 l2 Kk Q f v3 T := by
  intro f
  induction f with
  | zero => intro v3 T h; exact absurd h (Nat.not_lt_zero _)
  | succ f ih => intro v3 T h hi; exact mb_m_readDish_115 l1 l2 (fun _ _ h => h) (fun _ h => h) (fun uv3 uT g => ih uv3 uT (by omega) g.1) v3 T (hv v3 T hi)
theorem so_m_readDish_115 (l1 : Int32) (l2 : Int32) {K : Int32 → St → St} {Kk Kk2 : Int32 → St → Prop} {Q : St → Prop} (hk : ∀ (v3 : Int32) (T : St), Kk v3 T → Kk2 v3 T ∧ Q (K v3 T)) : ∀ (f : Nat) (v3 : Int32) (T : St), wp_m_readDish_115 l1 l2 Kk Q f v3 T → ok_m_readDish_115 l1 l2 Kk2 f v3 T ∧ Q (x_m_readDish_115 l1 l2 K f v3 T) := by
  intro f
  induction f with
  | zero => intro v3 T w; exact w.elim
  | succ f ih =>
    intro v3 T w
    rw [wp_m_readDish_115, bd_m_readDish_115] at w
    rw [ok_m_readDish_115, x_m_readDish_115]
    refine so_if2 (Q := Q) w (fun c119_4 w => ?_) (fun c119_4 w => ?_)
    · refine so_if2 (Q := Q) w (fun c125_5 w => ?_) (fun c125_5 w => ?_)
      · exact hk v3 T w
      · obtain ⟨q9, w⟩ := w
        refine so_rq q9 ?_
        obtain ⟨q10, w⟩ := w
        refine so_rq q10 ?_
        refine so_n (Q := Q) w (fun i5 w => ?_)
        exact ih i5 (x_m_readStep T v3 l1) w
    · exact hk v3 T w
def wp_m_readDish (T : St)  (Q : St → Prop) : Prop := jn (fun (KJ1 : St → Prop) => ((((T.2.2.1 576 (16 : Int32).toNatClampNeg) = 8) → KJ1 (x_m_bad T 3)) ∧ (¬ ((T.2.2.1 576 (16 : Int32).toNatClampNeg) = 8) → KJ1 T))) (fun (T301 : St) => (ok_m_must T301 1) ∧ jn (fun (i1 : Int32) => (ok_m_number (x_m_must T301 1) (18 + (5 * i1)) 0 2) ∧ (ok_m_number (x_m_number (x_m_must T301 1) (18 + (5 * i1)) 0 2) ((18 + (5 * i1)) + 1) 0 9) ∧ (ok_m_number (x_m_number (x_m_number (x_m_must T301 1) (18 + (5 * i1)) 0 2) ((18 + (5 * i1)) + 1) 0 9) ((18 + (5 * i1)) + 2) 0 1) ∧ jn (fun (T2 : St) => (ok_m_mustEnd T2) ∧ (((((x_m_mustEnd T2).1 571 16) ≤ 0) → (vp_in ((18 + (5 * i1)) + 4) 204) ∧ jn (fun (T3 : St) => (vp_in ((18 + (5 * i1)) + 3) 204) ∧ (ok_m_kindOfWord (sA T3 576 ((18 + (5 * i1)) + 3 : Int32).toNatClampNeg 0)) ∧ jn (fun (i4 : Int32) => jn (fun (KJ2 : St → Prop) => (((i4 = (-1000000)) → KJ2 (x_m_bad (sA T3 576 ((18 + (5 * i1)) + 3 : Int32).toNatClampNeg 0) 1)) ∧ (¬ (i4 = (-1000000)) → KJ2 (sA T3 576 ((18 + (5 * i1)) + 3 : Int32).toNatClampNeg 0)))) (fun (T302 : St) => wp_m_readDish_115 i1 (18 + (5 * i1)) (fun w1_3 T201 => Q (sA T201 576 (16 : Int32).toNatClampNeg ((T201.2.2.1 576 (16 : Int32).toNatClampNeg) + 1))) Q 1000 i4 T302)) (x_m_kindOfWord (sA T3 576 ((18 + (5 * i1)) + 3 : Int32).toNatClampNeg 0))) (sA (x_m_mustEnd T2) 576 ((18 + (5 * i1)) + 4 : Int32).toNatClampNeg ((x_m_mustEnd T2).2.2.1 576 (17 : Int32).toNatClampNeg))) ∧ (¬ (((x_m_mustEnd T2).1 571 16) ≤ 0) → Q (x_m_mustEnd T2)))) (x_m_number (x_m_number (x_m_number (x_m_must T301 1) (18 + (5 * i1)) 0 2) ((18 + (5 * i1)) + 1) 0 9) ((18 + (5 * i1)) + 2) 0 1)) ((x_m_must T301 1).2.2.1 576 (16 : Int32).toNatClampNeg))
theorem so_m_readDish {T : St}  {Q : St → Prop} (w : wp_m_readDish T  Q) : ok_m_readDish T  ∧ Q (x_m_readDish T ) := by
  unfold wp_m_readDish at w
  unfold ok_m_readDish x_m_readDish
  refine so_jn (Q := Q) (J := fun (KJ1 : St → St) (OJ1 : St → Prop) (WKJ1 : St → Prop) => ∀ (T301 : St), WKJ1 T301 → OJ1 T301 ∧ Q (KJ1 T301)) w (fun T301 w => ?_) (fun KJ1 OJ1 WKJ1 hJ1 w => ?_)
  · skip
    obtain ⟨q1, w⟩ := w
    refine so_rq q1 ?_
    refine so_n (Q := Q) w (fun i1 w => ?_)
    obtain ⟨q2, w⟩ := w
    refine so_rq q2 ?_
    obtain ⟨q3, w⟩ := w
    refine so_rq q3 ?_
    obtain ⟨q4, w⟩ := w
    refine so_rq q4 ?_
    refine so_n (Q := Q) w (fun T2 w => ?_)
    obtain ⟨q5, w⟩ := w
    refine so_rq q5 ?_
    refine so_ifT (Q := Q) w (fun c71_2 w => ?_) (fun c71_2 w => ?_)
    · obtain ⟨q6, w⟩ := w
      refine so_rq q6 ?_
      refine so_n (Q := Q) w (fun T3 w => ?_)
      obtain ⟨q7, w⟩ := w
      refine so_rq q7 ?_
      obtain ⟨q8, w⟩ := w
      refine so_rq q8 ?_
      refine so_n (Q := Q) w (fun i4 w => ?_)
      refine so_jn (Q := Q) (J := fun (KJ2 : St → St) (OJ2 : St → Prop) (WKJ2 : St → Prop) => ∀ (T302 : St), WKJ2 T302 → OJ2 T302 ∧ Q (KJ2 T302)) w (fun T302 w => ?_) (fun KJ2 OJ2 WKJ2 hJ2 w => ?_)
      · skip
        refine so_m_readDish_115 i1 (18 + (5 * i1)) (fun w1_3 T201 w => ?_) 1000 i4 T302 w
        refine ⟨trivial, ?_⟩
        exact w
      · skip
        refine so_if2 (Q := Q) w (fun c107_6 w => ?_) (fun c107_6 w => ?_)
        · exact hJ2 (x_m_bad (sA T3 576 ((18 + (5 * i1)) + 3 : Int32).toNatClampNeg 0) 1) w
        · exact hJ2 (sA T3 576 ((18 + (5 * i1)) + 3 : Int32).toNatClampNeg 0) w
    · exact w
  · skip
    refine so_if2 (Q := Q) w (fun c9_7 w => ?_) (fun c9_7 w => ?_)
    · exact hJ1 (x_m_bad T 3) w
    · exact hJ1 T w
def wp_m_fault (T : St)  (Q : Int32 × St → Prop) : Prop := Q ((sF T 571 0 0).1 571 10, sF T 571 0 0)
theorem so_m_fault {T : St}  {Q : Int32 × St → Prop} (w : wp_m_fault T  Q) : Q (x_m_fault T ) := by
  unfold wp_m_fault at w
  unfold x_m_fault
  exact w
def wp_m_dishOf (T : St) (p0 : Int32) (p1 : Int32) (Q : Int32 → Prop) : Prop := (vp_in ((18 + (5 * p0)) + p1) 204) ∧ Q (T.2.2.1 575 ((18 + (5 * p0)) + p1 : Int32).toNatClampNeg)
theorem so_m_dishOf {T : St} (p0 : Int32) (p1 : Int32) {Q : Int32 → Prop} (w : wp_m_dishOf T p0 p1 Q) : ok_m_dishOf T p0 p1 ∧ Q (x_m_dishOf T p0 p1) := by
  unfold wp_m_dishOf at w
  unfold ok_m_dishOf x_m_dishOf
  obtain ⟨q1, w⟩ := w
  refine so_rq q1 ?_
  refine ⟨trivial, ?_⟩
  exact w
def wp_m_stepOf (T : St) (p0 : Int32) (p1 : Int32) (Q : Int32 → Prop) : Prop := (vp_in ((58 + (6 * p0)) + p1) 204) ∧ Q (T.2.2.1 575 ((58 + (6 * p0)) + p1 : Int32).toNatClampNeg)
theorem so_m_stepOf {T : St} (p0 : Int32) (p1 : Int32) {Q : Int32 → Prop} (w : wp_m_stepOf T p0 p1 Q) : ok_m_stepOf T p0 p1 ∧ Q (x_m_stepOf T p0 p1) := by
  unfold wp_m_stepOf at w
  unfold ok_m_stepOf x_m_stepOf
  obtain ⟨q1, w⟩ := w
  refine so_rq q1 ?_
  refine ⟨trivial, ?_⟩
  exact w
def wp_m_isDish (T : St) (p0 : Int32) (Q : Int32 → Prop) : Prop := Q (x_m_in T ((p0 : Int32).toInt64) 0 (((T.2.2.1 575 (16 : Int32).toNatClampNeg) - 1 : Int32).toInt64))
theorem so_m_isDish {T : St} (p0 : Int32) {Q : Int32 → Prop} (w : wp_m_isDish T p0 Q) : Q (x_m_isDish T p0) := by
  unfold wp_m_isDish at w
  unfold x_m_isDish
  exact w
def wp_m_isStep (T : St) (p0 : Int32) (Q : Int32 → Prop) : Prop := Q (x_m_in T ((p0 : Int32).toInt64) 0 (((T.2.2.1 575 (17 : Int32).toNatClampNeg) - 1 : Int32).toInt64))
theorem so_m_isStep {T : St} (p0 : Int32) {Q : Int32 → Prop} (w : wp_m_isStep T p0 Q) : Q (x_m_isStep T p0) := by
  unfold wp_m_isStep at w
  unfold x_m_isStep
  exact w
def wp_m_waitsOf (T : St) (p0 : Int32) (p1 : Int32) (Q : Int32 → Prop) : Prop := (ok_m_dishOf T p0 3) ∧ (((((x_m_dishOf T p0 3) - 1) ≤ p1) → Q 1) ∧ (¬ (((x_m_dishOf T p0 3) - 1) ≤ p1) → (ok_m_dishOf T p0 4) ∧ (ok_m_stepOf T ((x_m_dishOf T p0 4) + p1) 2) ∧ Q (1 + (x_m_stepOf T ((x_m_dishOf T p0 4) + p1) 2))))
theorem so_m_waitsOf {T : St} (p0 : Int32) (p1 : Int32) {Q : Int32 → Prop} (w : wp_m_waitsOf T p0 p1 Q) : ok_m_waitsOf T p0 p1 ∧ Q (x_m_waitsOf T p0 p1) := by
  unfold wp_m_waitsOf at w
  unfold ok_m_waitsOf x_m_waitsOf
  obtain ⟨q1, w⟩ := w
  refine so_rq q1 ?_
  refine so_ifF (Q := Q) w (fun c9_1 w => ?_) (fun c9_1 w => ?_)
  · exact w
  · obtain ⟨q2, w⟩ := w
    refine so_rq q2 ?_
    obtain ⟨q3, w⟩ := w
    refine so_rq q3 ?_
    refine ⟨trivial, ?_⟩
    exact w
def wp_m_choicesOf (T : St) (p0 : Int32) (Q : Int32 → Prop) : Prop := (ok_m_dishOf T p0 0) ∧ (ok_m_waitsOf T p0 0) ∧ (ok_m_waitsOf T p0 1) ∧ Q (((1 + (x_m_dishOf T p0 0)) * (x_m_waitsOf T p0 0)) * (x_m_waitsOf T p0 1))
theorem so_m_choicesOf {T : St} (p0 : Int32) {Q : Int32 → Prop} (w : wp_m_choicesOf T p0 Q) : ok_m_choicesOf T p0 ∧ Q (x_m_choicesOf T p0) := by
  unfold wp_m_choicesOf at w
  unfold ok_m_choicesOf x_m_choicesOf
  obtain ⟨q1, w⟩ := w
  refine so_rq q1 ?_
  obtain ⟨q2, w⟩ := w
  refine so_rq q2 ?_
  obtain ⟨q3, w⟩ := w
  refine so_rq q3 ?_
  refine ⟨trivial, ?_⟩
  exact w
def wp_m_dish (T : St) (p0 : Int32) (p1 : Int32) (Q : Int32 × St → Prop) : Prop := ((((x_m_isDish (sF T 571 0 0) p0) = 0) → Q ((-1000001), sF T 571 0 0)) ∧ (¬ ((x_m_isDish (sF T 571 0 0) p0) = 0) → ((((x_m_in (sF T 571 0 0) ((p1 : Int32).toInt64) 0 5) = 0) → Q ((-1000001), sF T 571 0 0)) ∧ (¬ ((x_m_in (sF T 571 0 0) ((p1 : Int32).toInt64) 0 5) = 0) → (((p1 = 5) → (ok_m_choicesOf (sF T 571 0 0) p0) ∧ Q (x_m_choicesOf (sF T 571 0 0) p0, sF T 571 0 0)) ∧ (¬ (p1 = 5) → (ok_m_dishOf (sF T 571 0 0) p0 p1) ∧ Q (x_m_dishOf (sF T 571 0 0) p0 p1, sF T 571 0 0)))))))
theorem so_m_dish {T : St} (p0 : Int32) (p1 : Int32) {Q : Int32 × St → Prop} (w : wp_m_dish T p0 p1 Q) : ok_m_dish T p0 p1 ∧ Q (x_m_dish T p0 p1) := by
  unfold wp_m_dish at w
  unfold ok_m_dish x_m_dish
  refine so_ifF (Q := Q) w (fun c10_1 w => ?_) (fun c10_1 w => ?_)
  · exact w
  · refine so_ifF (Q := Q) w (fun c22_2 w => ?_) (fun c22_2 w => ?_)
    · exact w
    · refine so_if2 (Q := Q) w (fun c32_3 w => ?_) (fun c32_3 w => ?_)
      · obtain ⟨q2, w⟩ := w
        refine so_rq q2 ?_
        refine ⟨trivial, ?_⟩
        exact w
      · obtain ⟨q1, w⟩ := w
        refine so_rq q1 ?_
        refine ⟨trivial, ?_⟩
        exact w
def wp_m_step (T : St) (p0 : Int32) (p1 : Int32) (Q : Int32 × St → Prop) : Prop := ((((x_m_isStep (sF T 571 0 0) p0) = 0) → Q ((-1000001), sF T 571 0 0)) ∧ (¬ ((x_m_isStep (sF T 571 0 0) p0) = 0) → ((((x_m_in (sF T 571 0 0) ((p1 : Int32).toInt64) 0 4) = 0) → Q ((-1000001), sF T 571 0 0)) ∧ (¬ ((x_m_in (sF T 571 0 0) ((p1 : Int32).toInt64) 0 4) = 0) → (ok_m_stepOf (sF T 571 0 0) p0 (p1 + 1)) ∧ Q (x_m_stepOf (sF T 571 0 0) p0 (p1 + 1), sF T 571 0 0)))))
theorem so_m_step {T : St} (p0 : Int32) (p1 : Int32) {Q : Int32 × St → Prop} (w : wp_m_step T p0 p1 Q) : ok_m_step T p0 p1 ∧ Q (x_m_step T p0 p1) := by
  unfold wp_m_step at w
  unfold ok_m_step x_m_step
  refine so_ifF (Q := Q) w (fun c10_1 w => ?_) (fun c10_1 w => ?_)
  · exact w
  · refine so_ifF (Q := Q) w (fun c22_2 w => ?_) (fun c22_2 w => ?_)
    · exact w
    · obtain ⟨q1, w⟩ := w
      refine so_rq q1 ?_
      refine ⟨trivial, ?_⟩
      exact w
def wp_m_bigOnes (T : St) (p0 : Int32) (p1 : Int32) (Q : Int32 → Prop) : Prop := (((p0 < p1) → Q ((T.2.2.1 575 (1 : Int32).toNatClampNeg) - 0)) ∧ (¬ (p0 < p1) → Q ((T.2.2.1 575 (1 : Int32).toNatClampNeg) - 1)))
theorem so_m_bigOnes {T : St} (p0 : Int32) (p1 : Int32) {Q : Int32 → Prop} (w : wp_m_bigOnes T p0 p1 Q) : Q (x_m_bigOnes T p0 p1) := by
  unfold wp_m_bigOnes at w
  unfold x_m_bigOnes
  refine so_if0 (Q := Q) w (fun c8_1 w => ?_) (fun c8_1 w => ?_)
  · exact w
  · exact w
def bd_m_handsAt_5 (T : St) (l1 : Int32) (l2 : Int32) (Kk : Int32 → Int32 → Prop) (Q : Int32 → Prop) (N : Int32 → Int32 → Prop) (v3 : Int32) (v4 : Int32) : Prop := ((((T.2.2.1 575 (7 : Int32).toNatClampNeg) ≤ v4) → Kk v3 v4) ∧ (¬ ((T.2.2.1 575 (7 : Int32).toNatClampNeg) ≤ v4) → (vp_in (8 + (2 * v4)) 204) ∧ (vp_in ((8 + (2 * v4)) + 1) 204) ∧ ((((x_m_in T ((l1 : Int32).toInt64) ((T.2.2.1 575 (8 + (2 * v4) : Int32).toNatClampNeg : Int32).toInt64) ((T.2.2.1 575 ((8 + (2 * v4)) + 1 : Int32).toNatClampNeg : Int32).toInt64)) = 0) → N (v3 - 0) (v4 + 1)) ∧ (¬ ((x_m_in T ((l1 : Int32).toInt64) ((T.2.2.1 575 (8 + (2 * v4) : Int32).toNatClampNeg : Int32).toInt64) ((T.2.2.1 575 ((8 + (2 * v4)) + 1 : Int32).toNatClampNeg : Int32).toInt64)) = 0) → N (v3 - 1) (v4 + 1)))))
def wp_m_handsAt_5 (T : St) (l1 : Int32) (l2 : Int32) (Kk : Int32 → Int32 → Prop) (Q : Int32 → Prop) : Nat → Int32 → Int32 → Prop
  | 0, _, _ => False
  | f + 1, v3, v4 => bd_m_handsAt_5 T l1 l2 Kk Q (wp_m_handsAt_5 T l1 l2 Kk Q f) v3 v4
theorem mb_m_handsAt_5 (T : St) (l1 : Int32) (l2 : Int32) {Kk Kk2 : Int32 → Int32 → Prop} {Q Q2 : Int32 → Prop} {N N2 : Int32 → Int32 → Prop} (hK : ∀ (v3 : Int32) (v4 : Int32), Kk v3 v4 → Kk2 v3 v4) (hQ : ∀ r, Q r → Q2 r) (hN : ∀ (v3 : Int32) (v4 : Int32), N v3 v4 → N2 v3 v4) (v3 : Int32) (v4 : Int32) (w : bd_m_handsAt_5 T l1 l2 Kk Q N v3 v4) : bd_m_handsAt_5 T l1 l2 Kk2 Q2 N2 v3 v4 := by
  unfold bd_m_handsAt_5 at w ⊢
  refine mo_if w (fun c14_1 w => ?_) (fun c14_1 w => ?_)
  · exact hK v3 v4 w
  · obtain ⟨q1, w⟩ := w
    refine ⟨q1, ?_⟩
    obtain ⟨q2, w⟩ := w
    refine ⟨q2, ?_⟩
    refine mo_if w (fun c51_2 w => ?_) (fun c51_2 w => ?_)
    · exact hN (v3 - 0) (v4 + 1) w
    · exact hN (v3 - 1) (v4 + 1) w
theorem mo_m_handsAt_5 (T : St) (l1 : Int32) (l2 : Int32) {Kk Kk2 : Int32 → Int32 → Prop} {Q Q2 : Int32 → Prop} (hK : ∀ (v3 : Int32) (v4 : Int32), Kk v3 v4 → Kk2 v3 v4) (hQ : ∀ r, Q r → Q2 r) : ∀ (f : Nat) (v3 : Int32) (v4 : Int32), wp_m_handsAt_5 T l1 l2 Kk Q f v3 v4 → wp_m_handsAt_5 T l1 l2 Kk2 Q2 f v3 v4 := by
  intro f
  induction f with
  | zero => intro v3 v4 w; exact w.elim
  | succ f ih => intro v3 v4 w; exact mb_m_handsAt_5 T l1 l2 hK hQ ih v3 v4 w
theorem wr_m_handsAt_5 (T : St) (l1 : Int32) (l2 : Int32) {Kk : Int32 → Int32 → Prop} {Q : Int32 → Prop} (I : Int32 → Int32 → Prop) (m : Int32 → Int32 → Nat) (hv : ∀ (v3 : Int32) (v4 : Int32), I v3 v4 → bd_m_handsAt_5 T l1 l2 Kk Q (fun uv3 uv4 => I uv3 uv4 ∧ m uv3 uv4 < m v3 v4) v3 v4) : ∀ (f : Nat) (v3 : Int32) (v4 : Int32), m v3 v4 < f → I v3 v4 → wp_m_handsAt_5 T l1 l2 Kk Q f v3 v4 := by
  intro f
  induction f with
  | zero => intro v3 v4 h; exact absurd h (Nat.not_lt_zero _)
  | succ f ih => intro v3 v4 h hi; exact mb_m_handsAt_5 T l1 l2 (fun _ _ h => h) (fun _ h => h) (fun uv3 uv4 g => ih uv3 uv4 (by omega) g.1) v3 v4 (hv v3 v4 hi)
theorem so_m_handsAt_5 (T : St) (l1 : Int32) (l2 : Int32) {K : Int32 → Int32 → Int32} {Kk Kk2 : Int32 → Int32 → Prop} {Q : Int32 → Prop} (hk : ∀ (v3 : Int32) (v4 : Int32), Kk v3 v4 → Kk2 v3 v4 ∧ Q (K v3 v4)) : ∀ (f : Nat) (v3 : Int32) (v4 : Int32), wp_m_handsAt_5 T l1 l2 Kk Q f v3 v4 → ok_m_handsAt_5 T l1 l2 Kk2 f v3 v4 ∧ Q (x_m_handsAt_5 T l1 l2 K f v3 v4) := by
  intro f
  induction f with
  | zero => intro v3 v4 w; exact w.elim
  | succ f ih =>
    intro v3 v4 w
    rw [wp_m_handsAt_5, bd_m_handsAt_5] at w
    rw [ok_m_handsAt_5, x_m_handsAt_5]
    refine so_if2 (Q := Q) w (fun c14_1 w => ?_) (fun c14_1 w => ?_)
    · exact hk v3 v4 w
    · obtain ⟨q1, w⟩ := w
      refine so_rq q1 ?_
      obtain ⟨q2, w⟩ := w
      refine so_rq q2 ?_
      refine so_if2 (Q := Q) w (fun c51_2 w => ?_) (fun c51_2 w => ?_)
      · exact ih (v3 - 0) (v4 + 1) w
      · exact ih (v3 - 1) (v4 + 1) w
def wp_m_handsAt (T : St) (p0 : Int32) (p1 : Int32) (Q : Int32 → Prop) : Prop := wp_m_handsAt_5 T p0 p1 (fun w1_3 w1_4 => (((0 ≤ w1_3) → Q w1_3) ∧ (¬ (0 ≤ w1_3) → Q 0))) Q 1000 p1 0
theorem so_m_handsAt {T : St} (p0 : Int32) (p1 : Int32) {Q : Int32 → Prop} (w : wp_m_handsAt T p0 p1 Q) : ok_m_handsAt T p0 p1 ∧ Q (x_m_handsAt T p0 p1) := by
  unfold wp_m_handsAt at w
  unfold ok_m_handsAt x_m_handsAt
  refine so_m_handsAt_5 T p0 p1 (fun w1_3 w1_4  w => ?_) 1000 p1 0 w
  refine ⟨trivial, ?_⟩
  refine so_if0 (Q := Q) w (fun c68_3 w => ?_) (fun c68_3 w => ?_)
  · exact w
  · exact w
def wp_m_isMinute (T : St) (p0 : Int32) (Q : Int32 → Prop) : Prop := Q (x_m_in T ((p0 : Int32).toInt64) 0 59)
theorem so_m_isMinute {T : St} (p0 : Int32) {Q : Int32 → Prop} (w : wp_m_isMinute T p0 Q) : Q (x_m_isMinute T p0) := by
  unfold wp_m_isMinute at w
  unfold x_m_isMinute
  exact w
def wp_m_gives (T : St) (p0 : Int32) (p1 : Int32) (Q : Int32 × St → Prop) : Prop := (((((sF T 571 0 0).1 571 7) = 0) → Q ((-1000002), sF T 571 0 0)) ∧ (¬ (((sF T 571 0 0).1 571 7) = 0) → ((((x_m_isMinute (sF T 571 0 0) p0) = 0) → Q ((-1000001), sF T 571 0 0)) ∧ (¬ ((x_m_isMinute (sF T 571 0 0) p0) = 0) → ((((x_m_in (sF T 571 0 0) ((p1 : Int32).toInt64) 0 4) = 0) → Q ((-1000001), sF T 571 0 0)) ∧ (¬ ((x_m_in (sF T 571 0 0) ((p1 : Int32).toInt64) 0 4) = 0) → (((p1 = 0) → Q (((sF T 571 0 0).2.2.1 575 (0 : Int32).toNatClampNeg) + (x_m_bigOnes (sF T 571 0 0) p0 ((sF T 571 0 0).2.2.1 575 (203 : Int32).toNatClampNeg)), sF T 571 0 0)) ∧ (¬ (p1 = 0) → (((p1 = 1) → Q (x_m_bigOnes (sF T 571 0 0) p0 ((sF T 571 0 0).2.2.1 575 (203 : Int32).toNatClampNeg), sF T 571 0 0)) ∧ (¬ (p1 = 1) → (((p1 = 2) → Q ((sF T 571 0 0).2.2.1 575 (2 : Int32).toNatClampNeg, sF T 571 0 0)) ∧ (¬ (p1 = 2) → (((p1 = 3) → (ok_m_handsAt (sF T 571 0 0) p0 ((sF T 571 0 0).2.2.1 575 (5 : Int32).toNatClampNeg)) ∧ Q (x_m_handsAt (sF T 571 0 0) p0 ((sF T 571 0 0).2.2.1 575 (5 : Int32).toNatClampNeg), sF T 571 0 0)) ∧ (¬ (p1 = 3) → Q ((sF T 571 0 0).2.2.1 575 (6 : Int32).toNatClampNeg, sF T 571 0 0)))))))))))))))
theorem so_m_gives {T : St} (p0 : Int32) (p1 : Int32) {Q : Int32 × St → Prop} (w : wp_m_gives T p0 p1 Q) : ok_m_gives T p0 p1 ∧ Q (x_m_gives T p0 p1) := by
  unfold wp_m_gives at w
  unfold ok_m_gives x_m_gives
  refine so_ifF (Q := Q) w (fun c9_1 w => ?_) (fun c9_1 w => ?_)
  · exact w
  · refine so_ifF (Q := Q) w (fun c19_2 w => ?_) (fun c19_2 w => ?_)
    · exact w
    · refine so_ifF (Q := Q) w (fun c31_3 w => ?_) (fun c31_3 w => ?_)
      · exact w
      · refine so_ifF (Q := Q) w (fun s38_4_0 w => ?_) (fun s38_4_0 w => ?_)
        · exact w
        · refine so_ifF (Q := Q) w (fun s38_4_1 w => ?_) (fun s38_4_1 w => ?_)
          · exact w
          · refine so_ifF (Q := Q) w (fun s38_4_2 w => ?_) (fun s38_4_2 w => ?_)
            · exact w
            · refine so_ifT (Q := Q) w (fun s38_4_3 w => ?_) (fun s38_4_3 w => ?_)
              · obtain ⟨q1, w⟩ := w
                refine so_rq q1 ?_
                refine ⟨trivial, ?_⟩
                exact w
              · exact w
def bd_m_bits_4 (T : St) (l0 : Int32) (Kk : Int32 → Int32 → Prop) (Q : Int32 → Prop) (N : Int32 → Int32 → Prop) (v1 : Int32) (v2 : Int32) : Prop := (((v2 = 0) → Kk v1 v2) ∧ (¬ (v2 = 0) → N (v1 + 1) (v2 &&& (v2 - 1))))
def wp_m_bits_4 (T : St) (l0 : Int32) (Kk : Int32 → Int32 → Prop) (Q : Int32 → Prop) : Nat → Int32 → Int32 → Prop
  | 0, _, _ => False
  | f + 1, v1, v2 => bd_m_bits_4 T l0 Kk Q (wp_m_bits_4 T l0 Kk Q f) v1 v2
theorem mb_m_bits_4 (T : St) (l0 : Int32) {Kk Kk2 : Int32 → Int32 → Prop} {Q Q2 : Int32 → Prop} {N N2 : Int32 → Int32 → Prop} (hK : ∀ (v1 : Int32) (v2 : Int32), Kk v1 v2 → Kk2 v1 v2) (hQ : ∀ r, Q r → Q2 r) (hN : ∀ (v1 : Int32) (v2 : Int32), N v1 v2 → N2 v1 v2) (v1 : Int32) (v2 : Int32) (w : bd_m_bits_4 T l0 Kk Q N v1 v2) : bd_m_bits_4 T l0 Kk2 Q2 N2 v1 v2 := by
  unfold bd_m_bits_4 at w ⊢
  refine mo_if w (fun c5_1 w => ?_) (fun c5_1 w => ?_)
  · exact hK v1 v2 w
  · exact hN (v1 + 1) (v2 &&& (v2 - 1)) w
theorem mo_m_bits_4 (T : St) (l0 : Int32) {Kk Kk2 : Int32 → Int32 → Prop} {Q Q2 : Int32 → Prop} (hK : ∀ (v1 : Int32) (v2 : Int32), Kk v1 v2 → Kk2 v1 v2) (hQ : ∀ r, Q r → Q2 r) : ∀ (f : Nat) (v1 : Int32) (v2 : Int32), wp_m_bits_4 T l0 Kk Q f v1 v2 → wp_m_bits_4 T l0 Kk2 Q2 f v1 v2 := by
  intro f
  induction f with
  | zero => intro v1 v2 w; exact w.elim
  | succ f ih => intro v1 v2 w; exact mb_m_bits_4 T l0 hK hQ ih v1 v2 w
theorem wr_m_bits_4 (T : St) (l0 : Int32) {Kk : Int32 → Int32 → Prop} {Q : Int32 → Prop} (I : Int32 → Int32 → Prop) (m : Int32 → Int32 → Nat) (hv : ∀ (v1 : Int32) (v2 : Int32), I v1 v2 → bd_m_bits_4 T l0 Kk Q (fun uv1 uv2 => I uv1 uv2 ∧ m uv1 uv2 < m v1 v2) v1 v2) : ∀ (f : Nat) (v1 : Int32) (v2 : Int32), m v1 v2 < f → I v1 v2 → wp_m_bits_4 T l0 Kk Q f v1 v2 := by
  intro f
  induction f with
  | zero => intro v1 v2 h; exact absurd h (Nat.not_lt_zero _)
  | succ f ih => intro v1 v2 h hi; exact mb_m_bits_4 T l0 (fun _ _ h => h) (fun _ h => h) (fun uv1 uv2 g => ih uv1 uv2 (by omega) g.1) v1 v2 (hv v1 v2 hi)
theorem so_m_bits_4 (T : St) (l0 : Int32) {K : Int32 → Int32 → Int32} {Kk Kk2 : Int32 → Int32 → Prop} {Q : Int32 → Prop} (hk : ∀ (v1 : Int32) (v2 : Int32), Kk v1 v2 → Kk2 v1 v2 ∧ Q (K v1 v2)) : ∀ (f : Nat) (v1 : Int32) (v2 : Int32), wp_m_bits_4 T l0 Kk Q f v1 v2 → ok_m_bits_4 T l0 Kk2 f v1 v2 ∧ Q (x_m_bits_4 T l0 K f v1 v2) := by
  intro f
  induction f with
  | zero => intro v1 v2 w; exact w.elim
  | succ f ih =>
    intro v1 v2 w
    rw [wp_m_bits_4, bd_m_bits_4] at w
    rw [ok_m_bits_4, x_m_bits_4]
    refine so_if2 (Q := Q) w (fun c5_1 w => ?_) (fun c5_1 w => ?_)
    · exact hk v1 v2 w
    · exact ih (v1 + 1) (v2 &&& (v2 - 1)) w
def wp_m_bits (T : St) (p0 : Int32) (Q : Int32 → Prop) : Prop := wp_m_bits_4 T p0 (fun w1_1 w1_2 => Q w1_1) Q 1000 0 p0
theorem so_m_bits {T : St} (p0 : Int32) {Q : Int32 → Prop} (w : wp_m_bits T p0 Q) : ok_m_bits T p0 ∧ Q (x_m_bits T p0) := by
  unfold wp_m_bits at w
  unfold ok_m_bits x_m_bits
  refine so_m_bits_4 T p0 (fun w1_1 w1_2  w => ?_) 1000 0 p0 w
  refine ⟨trivial, ?_⟩
  exact w
def bd_m_clearLevel_2  (Kk : Int32 → St → Prop) (Q : St → Prop) (N : Int32 → St → Prop) (v1 : Int32) (T : St) : Prop := (((60 ≤ v1) → Kk v1 T) ∧ (¬ (60 ≤ v1) → (vp_in v1 300) ∧ jn (fun (T1 : St) => jn (fun (T2 : St) => N (v1 + 1) (sA T2 584 (v1 : Int32).toNatClampNeg 9)) (sA (sA (sA T1 581 (v1 : Int32).toNatClampNeg 0) 582 (v1 : Int32).toNatClampNeg 0) 583 (v1 : Int32).toNatClampNeg 0)) (sA (sA (sA T 578 (v1 : Int32).toNatClampNeg 0) 579 (v1 : Int32).toNatClampNeg 0) 580 (v1 : Int32).toNatClampNeg 0)))
def wp_m_clearLevel_2  (Kk : Int32 → St → Prop) (Q : St → Prop) : Nat → Int32 → St → Prop
  | 0, _, _ => False
  | f + 1, v1, T => bd_m_clearLevel_2  Kk Q (wp_m_clearLevel_2  Kk Q f) v1 T
theorem mb_m_clearLevel_2  {Kk Kk2 : Int32 → St → Prop} {Q Q2 : St → Prop} {N N2 : Int32 → St → Prop} (hK : ∀ (v1 : Int32) (T : St), Kk v1 T → Kk2 v1 T) (hQ : ∀ r, Q r → Q2 r) (hN : ∀ (v1 : Int32) (T : St), N v1 T → N2 v1 T) (v1 : Int32) (T : St) (w : bd_m_clearLevel_2  Kk Q N v1 T) : bd_m_clearLevel_2  Kk2 Q2 N2 v1 T := by
  unfold bd_m_clearLevel_2 at w ⊢
  refine mo_if w (fun c5_1 w => ?_) (fun c5_1 w => ?_)
  · exact hK v1 T w
  · obtain ⟨q1, w⟩ := w
    refine ⟨q1, ?_⟩
    refine mo_n w (fun T1 w => ?_)
    refine mo_n w (fun T2 w => ?_)
    exact hN (v1 + 1) (sA T2 584 (v1 : Int32).toNatClampNeg 9) w
theorem mo_m_clearLevel_2  {Kk Kk2 : Int32 → St → Prop} {Q Q2 : St → Prop} (hK : ∀ (v1 : Int32) (T : St), Kk v1 T → Kk2 v1 T) (hQ : ∀ r, Q r → Q2 r) : ∀ (f : Nat) (v1 : Int32) (T : St), wp_m_clearLevel_2  Kk Q f v1 T → wp_m_clearLevel_2  Kk2 Q2 f v1 T := by
  intro f
  induction f with
  | zero => intro v1 T w; exact w.elim
  | succ f ih => intro v1 T w; exact mb_m_clearLevel_2  hK hQ ih v1 T w
theorem wr_m_clearLevel_2  {Kk : Int32 → St → Prop} {Q : St → Prop} (I : Int32 → St → Prop) (m : Int32 → St → Nat) (hv : ∀ (v1 : Int32) (T : St), I v1 T → bd_m_clearLevel_2  Kk Q (fun uv1 uT => I uv1 uT ∧ m uv1 uT < m v1 T) v1 T) : ∀ (f : Nat) (v1 : Int32) (T : St), m v1 T < f → I v1 T → wp_m_clearLevel_2  Kk Q f v1 T := by
  intro f
  induction f with
  | zero => intro v1 T h; exact absurd h (Nat.not_lt_zero _)
  | succ f ih => intro v1 T h hi; exact mb_m_clearLevel_2  (fun _ _ h => h) (fun _ h => h) (fun uv1 uT g => ih uv1 uT (by omega) g.1) v1 T (hv v1 T hi)
theorem so_m_clearLevel_2  {K : Int32 → St → St} {Kk Kk2 : Int32 → St → Prop} {Q : St → Prop} (hk : ∀ (v1 : Int32) (T : St), Kk v1 T → Kk2 v1 T ∧ Q (K v1 T)) : ∀ (f : Nat) (v1 : Int32) (T : St), wp_m_clearLevel_2  Kk Q f v1 T → ok_m_clearLevel_2  Kk2 f v1 T ∧ Q (x_m_clearLevel_2  K f v1 T) := by
  intro f
  induction f with
  | zero => intro v1 T w; exact w.elim
  | succ f ih =>
    intro v1 T w
    rw [wp_m_clearLevel_2, bd_m_clearLevel_2] at w
    rw [ok_m_clearLevel_2, x_m_clearLevel_2]
    refine so_if2 (Q := Q) w (fun c5_1 w => ?_) (fun c5_1 w => ?_)
    · exact hk v1 T w
    · obtain ⟨q1, w⟩ := w
      refine so_rq q1 ?_
      refine so_n (Q := Q) w (fun T1 w => ?_)
      refine so_n (Q := Q) w (fun T2 w => ?_)
      exact ih (v1 + 1) (sA T2 584 (v1 : Int32).toNatClampNeg 9) w
def wp_m_clearLevel (T : St)  (Q : St → Prop) : Prop := wp_m_clearLevel_2  (fun w1_1 T201 => Q T201) Q 1000 0 T
theorem so_m_clearLevel {T : St}  {Q : St → Prop} (w : wp_m_clearLevel T  Q) : ok_m_clearLevel T  ∧ Q (x_m_clearLevel T ) := by
  unfold wp_m_clearLevel at w
  unfold ok_m_clearLevel x_m_clearLevel
  refine so_m_clearLevel_2  (fun w1_1 T201 w => ?_) 1000 0 T w
  refine ⟨trivial, ?_⟩
  exact w
def bd_m_copyLevel_5 (l1 : Int32) (Kk : Int32 → St → Prop) (Q : St → Prop) (N : Int32 → St → Prop) (v2 : Int32) (T : St) : Prop := (((((60 * l1) + 60) ≤ v2) → Kk v2 T) ∧ (¬ (((60 * l1) + 60) ≤ v2) → (vp_in (v2 - 60) 300) ∧ (vp_in v2 300) ∧ jn (fun (T1 : St) => jn (fun (T2 : St) => jn (fun (T3 : St) => N (v2 + 1) (sA T3 584 (v2 : Int32).toNatClampNeg (T3.2.2.1 584 (v2 - 60 : Int32).toNatClampNeg))) (sA (sA T2 582 (v2 : Int32).toNatClampNeg (T2.2.2.1 582 (v2 - 60 : Int32).toNatClampNeg)) 583 (v2 : Int32).toNatClampNeg ((sA T2 582 (v2 : Int32).toNatClampNeg (T2.2.2.1 582 (v2 - 60 : Int32).toNatClampNeg)).2.2.1 583 (v2 - 60 : Int32).toNatClampNeg))) (sA (sA T1 580 (v2 : Int32).toNatClampNeg (T1.2.2.1 580 (v2 - 60 : Int32).toNatClampNeg)) 581 (v2 : Int32).toNatClampNeg ((sA T1 580 (v2 : Int32).toNatClampNeg (T1.2.2.1 580 (v2 - 60 : Int32).toNatClampNeg)).2.2.1 581 (v2 - 60 : Int32).toNatClampNeg))) (sA (sA T 578 (v2 : Int32).toNatClampNeg (T.2.2.1 578 (v2 - 60 : Int32).toNatClampNeg)) 579 (v2 : Int32).toNatClampNeg ((sA T 578 (v2 : Int32).toNatClampNeg (T.2.2.1 578 (v2 - 60 : Int32).toNatClampNeg)).2.2.1 579 (v2 - 60 : Int32).toNatClampNeg))))
def wp_m_copyLevel_5 (l1 : Int32) (Kk : Int32 → St → Prop) (Q : St → Prop) : Nat → Int32 → St → Prop
  | 0, _, _ => False
  | f + 1, v2, T => bd_m_copyLevel_5 l1 Kk Q (wp_m_copyLevel_5 l1 Kk Q f) v2 T
theorem mb_m_copyLevel_5 (l1 : Int32) {Kk Kk2 : Int32 → St → Prop} {Q Q2 : St → Prop} {N N2 : Int32 → St → Prop} (hK : ∀ (v2 : Int32) (T : St), Kk v2 T → Kk2 v2 T) (hQ : ∀ r, Q r → Q2 r) (hN : ∀ (v2 : Int32) (T : St), N v2 T → N2 v2 T) (v2 : Int32) (T : St) (w : bd_m_copyLevel_5 l1 Kk Q N v2 T) : bd_m_copyLevel_5 l1 Kk2 Q2 N2 v2 T := by
  unfold bd_m_copyLevel_5 at w ⊢
  refine mo_if w (fun c13_1 w => ?_) (fun c13_1 w => ?_)
  · exact hK v2 T w
  · obtain ⟨q1, w⟩ := w
    refine ⟨q1, ?_⟩
    obtain ⟨q2, w⟩ := w
    refine ⟨q2, ?_⟩
    refine mo_n w (fun T1 w => ?_)
    refine mo_n w (fun T2 w => ?_)
    refine mo_n w (fun T3 w => ?_)
    exact hN (v2 + 1) (sA T3 584 (v2 : Int32).toNatClampNeg (T3.2.2.1 584 (v2 - 60 : Int32).toNatClampNeg)) w
theorem mo_m_copyLevel_5 (l1 : Int32) {Kk Kk2 : Int32 → St → Prop} {Q Q2 : St → Prop} (hK : ∀ (v2 : Int32) (T : St), Kk v2 T → Kk2 v2 T) (hQ : ∀ r, Q r → Q2 r) : ∀ (f : Nat) (v2 : Int32) (T : St), wp_m_copyLevel_5 l1 Kk Q f v2 T → wp_m_copyLevel_5 l1 Kk2 Q2 f v2 T := by
  intro f
  induction f with
  | zero => intro v2 T w; exact w.elim
  | succ f ih => intro v2 T w; exact mb_m_copyLevel_5 l1 hK hQ ih v2 T w
theorem wr_m_copyLevel_5 (l1 : Int32) {Kk : Int32 → St → Prop} {Q : St → Prop} (I : Int32 → St → Prop) (m : Int32 → St → Nat) (hv : ∀ (v2 : Int32) (T : St), I v2 T → bd_m_copyLevel_5 l1 Kk Q (fun uv2 uT => I uv2 uT ∧ m uv2 uT < m v2 T) v2 T) : ∀ (f : Nat) (v2 : Int32) (T : St), m v2 T < f → I v2 T → wp_m_copyLevel_5 l1 Kk Q f v2 T := by
  intro f
  induction f with
  | zero => intro v2 T h; exact absurd h (Nat.not_lt_zero _)
  | succ f ih => intro v2 T h hi; exact mb_m_copyLevel_5 l1 (fun _ _ h => h) (fun _ h => h) (fun uv2 uT g => ih uv2 uT (by omega) g.1) v2 T (hv v2 T hi)
theorem so_m_copyLevel_5 (l1 : Int32) {K : Int32 → St → St} {Kk Kk2 : Int32 → St → Prop} {Q : St → Prop} (hk : ∀ (v2 : Int32) (T : St), Kk v2 T → Kk2 v2 T ∧ Q (K v2 T)) : ∀ (f : Nat) (v2 : Int32) (T : St), wp_m_copyLevel_5 l1 Kk Q f v2 T → ok_m_copyLevel_5 l1 Kk2 f v2 T ∧ Q (x_m_copyLevel_5 l1 K f v2 T) := by
  intro f
  induction f with
  | zero => intro v2 T w; exact w.elim
  | succ f ih =>
    intro v2 T w
    rw [wp_m_copyLevel_5, bd_m_copyLevel_5] at w
    rw [ok_m_copyLevel_5, x_m_copyLevel_5]
    refine so_if2 (Q := Q) w (fun c13_1 w => ?_) (fun c13_1 w => ?_)
    · exact hk v2 T w
    · obtain ⟨q1, w⟩ := w
      refine so_rq q1 ?_
      obtain ⟨q2, w⟩ := w
      refine so_rq q2 ?_
      refine so_n (Q := Q) w (fun T1 w => ?_)
      refine so_n (Q := Q) w (fun T2 w => ?_)
      refine so_n (Q := Q) w (fun T3 w => ?_)
      exact ih (v2 + 1) (sA T3 584 (v2 : Int32).toNatClampNeg (T3.2.2.1 584 (v2 - 60 : Int32).toNatClampNeg)) w
def wp_m_copyLevel (T : St) (p0 : Int32) (Q : St → Prop) : Prop := wp_m_copyLevel_5 p0 (fun w1_2 T201 => Q T201) Q 1000 (60 * p0) T
theorem so_m_copyLevel {T : St} (p0 : Int32) {Q : St → Prop} (w : wp_m_copyLevel T p0 Q) : ok_m_copyLevel T p0 ∧ Q (x_m_copyLevel T p0) := by
  unfold wp_m_copyLevel at w
  unfold ok_m_copyLevel x_m_copyLevel
  refine so_m_copyLevel_5 p0 (fun w1_2 T201 w => ?_) 1000 (60 * p0) T w
  refine ⟨trivial, ?_⟩
  exact w
def bd_m_addStep_11 (l1 : Int32) (l2 : Int32) (l3 : Int32) (l4 : Int32) (l5 : Int32) (Kk : Int32 → St → Prop) (Q : St → Prop) (N : Int32 → St → Prop) (v6 : Int32) (T : St) : Prop := (((l4 ≤ v6) → Kk v6 T) ∧ (¬ (l4 ≤ v6) → jn (fun (i1 : Int32) => (vp_in i1 300) ∧ jn (fun (KJ1 : Int32 → Prop) => (((l5 = 1) → KJ1 1) ∧ (¬ (l5 = 1) → KJ1 0))) (fun (j1_s3 : Int32) => jn (fun (KJ2 : Prop) => (((l5 = 1) → (ok_m_stepOf (sA T 579 (i1 : Int32).toNatClampNeg ((T.2.2.1 579 (i1 : Int32).toNatClampNeg) + j1_s3)) l2 4) ∧ ((((x_m_stepOf (sA T 579 (i1 : Int32).toNatClampNeg ((T.2.2.1 579 (i1 : Int32).toNatClampNeg) + j1_s3)) l2 4) = 1) → jn (fun (T25 : St) => jn (fun (KJ7 : St → Prop) => (((l5 = 2) → (ok_m_stepOf (sA T25 580 (i1 : Int32).toNatClampNeg ((T25.2.2.1 580 (i1 : Int32).toNatClampNeg) + 1)) l2 4) ∧ jn (fun (KJ10 : Int32 → Prop) => ((((x_m_stepOf (sA T25 580 (i1 : Int32).toNatClampNeg ((T25.2.2.1 580 (i1 : Int32).toNatClampNeg) + 1)) l2 4) ≤ ((sA T25 580 (i1 : Int32).toNatClampNeg ((T25.2.2.1 580 (i1 : Int32).toNatClampNeg) + 1)).2.2.1 583 (i1 : Int32).toNatClampNeg)) → KJ10 ((sA T25 580 (i1 : Int32).toNatClampNeg ((T25.2.2.1 580 (i1 : Int32).toNatClampNeg) + 1)).2.2.1 583 (i1 : Int32).toNatClampNeg)) ∧ (¬ ((x_m_stepOf (sA T25 580 (i1 : Int32).toNatClampNeg ((T25.2.2.1 580 (i1 : Int32).toNatClampNeg) + 1)) l2 4) ≤ ((sA T25 580 (i1 : Int32).toNatClampNeg ((T25.2.2.1 580 (i1 : Int32).toNatClampNeg) + 1)).2.2.1 583 (i1 : Int32).toNatClampNeg)) → KJ10 (x_m_stepOf (sA T25 580 (i1 : Int32).toNatClampNeg ((T25.2.2.1 580 (i1 : Int32).toNatClampNeg) + 1)) l2 4)))) (fun (j10_s2 : Int32) => jn (fun (T28 : St) => (ok_m_stepOf T28 l2 5) ∧ ((((T28.2.2.1 584 (i1 : Int32).toNatClampNeg) ≤ (x_m_stepOf T28 l2 5)) → KJ7 (sA T28 584 (i1 : Int32).toNatClampNeg (T28.2.2.1 584 (i1 : Int32).toNatClampNeg))) ∧ (¬ ((T28.2.2.1 584 (i1 : Int32).toNatClampNeg) ≤ (x_m_stepOf T28 l2 5)) → KJ7 (sA T28 584 (i1 : Int32).toNatClampNeg (x_m_stepOf T28 l2 5))))) (sA (sA T25 580 (i1 : Int32).toNatClampNeg ((T25.2.2.1 580 (i1 : Int32).toNatClampNeg) + 1)) 583 (i1 : Int32).toNatClampNeg j10_s2))) ∧ (¬ (l5 = 2) → KJ7 T25))) (fun (T307 : St) => (ok_m_stepOf T307 l2 3) ∧ jn (fun (KJ8 : Prop) => ((((x_m_stepOf T307 l2 3) = 2) → KJ8) ∧ (¬ ((x_m_stepOf T307 l2 3) = 2) → jn (fun (KJ9 : Prop) => ((((x_m_stepOf T307 l2 3) = 1) → (((v6 = 0) → KJ8) ∧ (¬ (v6 = 0) → KJ9))) ∧ (¬ ((x_m_stepOf T307 l2 3) = 1) → KJ9))) (N (v6 + 1) (sA T307 581 (i1 : Int32).toNatClampNeg ((T307.2.2.1 581 (i1 : Int32).toNatClampNeg) + 0)))))) (N (v6 + 1) (sA T307 581 (i1 : Int32).toNatClampNeg ((T307.2.2.1 581 (i1 : Int32).toNatClampNeg) + 1))))) (sA (sA T 579 (i1 : Int32).toNatClampNeg ((T.2.2.1 579 (i1 : Int32).toNatClampNeg) + j1_s3)) 578 (i1 : Int32).toNatClampNeg (((sA T 579 (i1 : Int32).toNatClampNeg ((T.2.2.1 579 (i1 : Int32).toNatClampNeg) + j1_s3)).2.2.1 578 (i1 : Int32).toNatClampNeg) + 1))) ∧ (¬ ((x_m_stepOf (sA T 579 (i1 : Int32).toNatClampNeg ((T.2.2.1 579 (i1 : Int32).toNatClampNeg) + j1_s3)) l2 4) = 1) → KJ2))) ∧ (¬ (l5 = 1) → KJ2))) (jn (fun (T21 : St) => jn (fun (KJ3 : St → Prop) => (((l5 = 2) → (ok_m_stepOf (sA T21 580 (i1 : Int32).toNatClampNeg ((T21.2.2.1 580 (i1 : Int32).toNatClampNeg) + 1)) l2 4) ∧ jn (fun (KJ6 : Int32 → Prop) => ((((x_m_stepOf (sA T21 580 (i1 : Int32).toNatClampNeg ((T21.2.2.1 580 (i1 : Int32).toNatClampNeg) + 1)) l2 4) ≤ ((sA T21 580 (i1 : Int32).toNatClampNeg ((T21.2.2.1 580 (i1 : Int32).toNatClampNeg) + 1)).2.2.1 583 (i1 : Int32).toNatClampNeg)) → KJ6 ((sA T21 580 (i1 : Int32).toNatClampNeg ((T21.2.2.1 580 (i1 : Int32).toNatClampNeg) + 1)).2.2.1 583 (i1 : Int32).toNatClampNeg)) ∧ (¬ ((x_m_stepOf (sA T21 580 (i1 : Int32).toNatClampNeg ((T21.2.2.1 580 (i1 : Int32).toNatClampNeg) + 1)) l2 4) ≤ ((sA T21 580 (i1 : Int32).toNatClampNeg ((T21.2.2.1 580 (i1 : Int32).toNatClampNeg) + 1)).2.2.1 583 (i1 : Int32).toNatClampNeg)) → KJ6 (x_m_stepOf (sA T21 580 (i1 : Int32).toNatClampNeg ((T21.2.2.1 580 (i1 : Int32).toNatClampNeg) + 1)) l2 4)))) (fun (j6_s2 : Int32) => jn (fun (T24 : St) => (ok_m_stepOf T24 l2 5) ∧ ((((T24.2.2.1 584 (i1 : Int32).toNatClampNeg) ≤ (x_m_stepOf T24 l2 5)) → KJ3 (sA T24 584 (i1 : Int32).toNatClampNeg (T24.2.2.1 584 (i1 : Int32).toNatClampNeg))) ∧ (¬ ((T24.2.2.1 584 (i1 : Int32).toNatClampNeg) ≤ (x_m_stepOf T24 l2 5)) → KJ3 (sA T24 584 (i1 : Int32).toNatClampNeg (x_m_stepOf T24 l2 5))))) (sA (sA T21 580 (i1 : Int32).toNatClampNeg ((T21.2.2.1 580 (i1 : Int32).toNatClampNeg) + 1)) 583 (i1 : Int32).toNatClampNeg j6_s2))) ∧ (¬ (l5 = 2) → KJ3 T21))) (fun (T303 : St) => (ok_m_stepOf T303 l2 3) ∧ jn (fun (KJ4 : Prop) => ((((x_m_stepOf T303 l2 3) = 2) → KJ4) ∧ (¬ ((x_m_stepOf T303 l2 3) = 2) → jn (fun (KJ5 : Prop) => ((((x_m_stepOf T303 l2 3) = 1) → (((v6 = 0) → KJ4) ∧ (¬ (v6 = 0) → KJ5))) ∧ (¬ ((x_m_stepOf T303 l2 3) = 1) → KJ5))) (N (v6 + 1) (sA T303 581 (i1 : Int32).toNatClampNeg ((T303.2.2.1 581 (i1 : Int32).toNatClampNeg) + 0)))))) (N (v6 + 1) (sA T303 581 (i1 : Int32).toNatClampNeg ((T303.2.2.1 581 (i1 : Int32).toNatClampNeg) + 1))))) (sA (sA T 579 (i1 : Int32).toNatClampNeg ((T.2.2.1 579 (i1 : Int32).toNatClampNeg) + j1_s3)) 578 (i1 : Int32).toNatClampNeg (((sA T 579 (i1 : Int32).toNatClampNeg ((T.2.2.1 579 (i1 : Int32).toNatClampNeg) + j1_s3)).2.2.1 578 (i1 : Int32).toNatClampNeg) + 0))))) (((60 * l1) + l3) + v6)))
def wp_m_addStep_11 (l1 : Int32) (l2 : Int32) (l3 : Int32) (l4 : Int32) (l5 : Int32) (Kk : Int32 → St → Prop) (Q : St → Prop) : Nat → Int32 → St → Prop
  | 0, _, _ => False
  | f + 1, v6, T => bd_m_addStep_11 l1 l2 l3 l4 l5 Kk Q (wp_m_addStep_11 l1 l2 l3 l4 l5 Kk Q f) v6 T
theorem mb_m_addStep_11 (l1 : Int32) (l2 : Int32) (l3 : Int32) (l4 : Int32) (l5 : Int32) {Kk Kk2 : Int32 → St → Prop} {Q Q2 : St → Prop} {N N2 : Int32 → St → Prop} (hK : ∀ (v6 : Int32) (T : St), Kk v6 T → Kk2 v6 T) (hQ : ∀ r, Q r → Q2 r) (hN : ∀ (v6 : Int32) (T : St), N v6 T → N2 v6 T) (v6 : Int32) (T : St) (w : bd_m_addStep_11 l1 l2 l3 l4 l5 Kk Q N v6 T) : bd_m_addStep_11 l1 l2 l3 l4 l5 Kk2 Q2 N2 v6 T := by
  unfold bd_m_addStep_11 at w ⊢
  refine mo_if w (fun c15_1 w => ?_) (fun c15_1 w => ?_)
  · exact hK v6 T w
  · refine mo_n w (fun i1 w => ?_)
    obtain ⟨q2, w⟩ := w
    refine ⟨q2, ?_⟩
    refine mo_jn (J := fun (KJ1 : Int32 → Prop) (WKJ1 : Int32 → Prop) => ∀ (j1_s3 : Int32), KJ1 j1_s3 → WKJ1 j1_s3) w (fun j1_s3 w => ?_) (fun KJ1 WKJ1 hJ1 w => ?_)
    · skip
      refine mo_jn (J := fun (KJ2 : Prop) (WKJ2 : Prop) => KJ2 → WKJ2) w (fun  w => ?_) (fun KJ2 WKJ2 hJ2 w => ?_)
      · skip
        refine mo_n w (fun T21 w => ?_)
        refine mo_jn (J := fun (KJ3 : St → Prop) (WKJ3 : St → Prop) => ∀ (T303 : St), KJ3 T303 → WKJ3 T303) w (fun T303 w => ?_) (fun KJ3 WKJ3 hJ3 w => ?_)
        · skip
          obtain ⟨q15, w⟩ := w
          refine ⟨q15, ?_⟩
          refine mo_jn (J := fun (KJ4 : Prop) (WKJ4 : Prop) => KJ4 → WKJ4) w (fun  w => ?_) (fun KJ4 WKJ4 hJ4 w => ?_)
          · skip
            exact hN (v6 + 1) (sA T303 581 (i1 : Int32).toNatClampNeg ((T303.2.2.1 581 (i1 : Int32).toNatClampNeg) + 1)) w
          · skip
            refine mo_if w (fun c191_31 w => ?_) (fun c191_31 w => ?_)
            · exact hJ4  w
            · refine mo_jn (J := fun (KJ5 : Prop) (WKJ5 : Prop) => KJ5 → WKJ5) w (fun  w => ?_) (fun KJ5 WKJ5 hJ5 w => ?_)
              · skip
                exact hN (v6 + 1) (sA T303 581 (i1 : Int32).toNatClampNeg ((T303.2.2.1 581 (i1 : Int32).toNatClampNeg) + 0)) w
              · skip
                refine mo_if w (fun c201_34 w => ?_) (fun c201_34 w => ?_)
                · refine mo_if w (fun c206_35 w => ?_) (fun c206_35 w => ?_)
                  · exact hJ4  w
                  · exact hJ5  w
                · exact hJ5  w
        · skip
          refine mo_if w (fun c84_36 w => ?_) (fun c84_36 w => ?_)
          · obtain ⟨q16, w⟩ := w
            refine ⟨q16, ?_⟩
            refine mo_jn (J := fun (KJ6 : Int32 → Prop) (WKJ6 : Int32 → Prop) => ∀ (j6_s2 : Int32), KJ6 j6_s2 → WKJ6 j6_s2) w (fun j6_s2 w => ?_) (fun KJ6 WKJ6 hJ6 w => ?_)
            · skip
              refine mo_n w (fun T24 w => ?_)
              obtain ⟨q17, w⟩ := w
              refine ⟨q17, ?_⟩
              refine mo_if w (fun c156_38 w => ?_) (fun c156_38 w => ?_)
              · exact hJ3 (sA T24 584 (i1 : Int32).toNatClampNeg (T24.2.2.1 584 (i1 : Int32).toNatClampNeg)) w
              · exact hJ3 (sA T24 584 (i1 : Int32).toNatClampNeg (x_m_stepOf T24 l2 5)) w
            · skip
              refine mo_if w (fun c117_39 w => ?_) (fun c117_39 w => ?_)
              · exact hJ6 ((sA T21 580 (i1 : Int32).toNatClampNeg ((T21.2.2.1 580 (i1 : Int32).toNatClampNeg) + 1)).2.2.1 583 (i1 : Int32).toNatClampNeg) w
              · exact hJ6 (x_m_stepOf (sA T21 580 (i1 : Int32).toNatClampNeg ((T21.2.2.1 580 (i1 : Int32).toNatClampNeg) + 1)) l2 4) w
          · exact hJ3 T21 w
      · skip
        refine mo_if w (fun c61_40 w => ?_) (fun c61_40 w => ?_)
        · obtain ⟨q18, w⟩ := w
          refine ⟨q18, ?_⟩
          refine mo_if w (fun c71_41 w => ?_) (fun c71_41 w => ?_)
          · refine mo_n w (fun T25 w => ?_)
            refine mo_jn (J := fun (KJ7 : St → Prop) (WKJ7 : St → Prop) => ∀ (T307 : St), KJ7 T307 → WKJ7 T307) w (fun T307 w => ?_) (fun KJ7 WKJ7 hJ7 w => ?_)
            · skip
              obtain ⟨q22, w⟩ := w
              refine ⟨q22, ?_⟩
              refine mo_jn (J := fun (KJ8 : Prop) (WKJ8 : Prop) => KJ8 → WKJ8) w (fun  w => ?_) (fun KJ8 WKJ8 hJ8 w => ?_)
              · skip
                exact hN (v6 + 1) (sA T307 581 (i1 : Int32).toNatClampNeg ((T307.2.2.1 581 (i1 : Int32).toNatClampNeg) + 1)) w
              · skip
                refine mo_if w (fun c191_49 w => ?_) (fun c191_49 w => ?_)
                · exact hJ8  w
                · refine mo_jn (J := fun (KJ9 : Prop) (WKJ9 : Prop) => KJ9 → WKJ9) w (fun  w => ?_) (fun KJ9 WKJ9 hJ9 w => ?_)
                  · skip
                    exact hN (v6 + 1) (sA T307 581 (i1 : Int32).toNatClampNeg ((T307.2.2.1 581 (i1 : Int32).toNatClampNeg) + 0)) w
                  · skip
                    refine mo_if w (fun c201_52 w => ?_) (fun c201_52 w => ?_)
                    · refine mo_if w (fun c206_53 w => ?_) (fun c206_53 w => ?_)
                      · exact hJ8  w
                      · exact hJ9  w
                    · exact hJ9  w
            · skip
              refine mo_if w (fun c84_54 w => ?_) (fun c84_54 w => ?_)
              · obtain ⟨q23, w⟩ := w
                refine ⟨q23, ?_⟩
                refine mo_jn (J := fun (KJ10 : Int32 → Prop) (WKJ10 : Int32 → Prop) => ∀ (j10_s2 : Int32), KJ10 j10_s2 → WKJ10 j10_s2) w (fun j10_s2 w => ?_) (fun KJ10 WKJ10 hJ10 w => ?_)
                · skip
                  refine mo_n w (fun T28 w => ?_)
                  obtain ⟨q24, w⟩ := w
                  refine ⟨q24, ?_⟩
                  refine mo_if w (fun c156_56 w => ?_) (fun c156_56 w => ?_)
                  · exact hJ7 (sA T28 584 (i1 : Int32).toNatClampNeg (T28.2.2.1 584 (i1 : Int32).toNatClampNeg)) w
                  · exact hJ7 (sA T28 584 (i1 : Int32).toNatClampNeg (x_m_stepOf T28 l2 5)) w
                · skip
                  refine mo_if w (fun c117_57 w => ?_) (fun c117_57 w => ?_)
                  · exact hJ10 ((sA T25 580 (i1 : Int32).toNatClampNeg ((T25.2.2.1 580 (i1 : Int32).toNatClampNeg) + 1)).2.2.1 583 (i1 : Int32).toNatClampNeg) w
                  · exact hJ10 (x_m_stepOf (sA T25 580 (i1 : Int32).toNatClampNeg ((T25.2.2.1 580 (i1 : Int32).toNatClampNeg) + 1)) l2 4) w
              · exact hJ7 T25 w
          · exact hJ2  w
        · exact hJ2  w
    · skip
      refine mo_if w (fun c40_58 w => ?_) (fun c40_58 w => ?_)
      · exact hJ1 1 w
      · exact hJ1 0 w
theorem mo_m_addStep_11 (l1 : Int32) (l2 : Int32) (l3 : Int32) (l4 : Int32) (l5 : Int32) {Kk Kk2 : Int32 → St → Prop} {Q Q2 : St → Prop} (hK : ∀ (v6 : Int32) (T : St), Kk v6 T → Kk2 v6 T) (hQ : ∀ r, Q r → Q2 r) : ∀ (f : Nat) (v6 : Int32) (T : St), wp_m_addStep_11 l1 l2 l3 l4 l5 Kk Q f v6 T → wp_m_addStep_11 l1 l2 l3 l4 l5 Kk2 Q2 f v6 T := by
  intro f
  induction f with
  | zero => intro v6 T w; exact w.elim
  | succ f ih => intro v6 T w; exact mb_m_addStep_11 l1 l2 l3 l4 l5 hK hQ ih v6 T w
theorem wr_m_addStep_11 (l1 : Int32) (l2 : Int32) (l3 : Int32) (l4 : Int32) (l5 : Int32) {Kk : Int32 → St → Prop} {Q : St → Prop} (I : Int32 → St → Prop) (m : Int32 → St → Nat) (hv : ∀ (v6 : Int32) (T : St), I v6 T → bd_m_addStep_11 l1 l2 l3 l4 l5 Kk Q (fun uv6 uT => I uv6 uT ∧ m uv6 uT < m v6 T) v6 T) : ∀ (f : Nat) (v6 : Int32) (T : St), m v6 T < f → I v6 T → wp_m_addStep_11 l1 l2 l3 l4 l5 Kk Q f v6 T := by
  intro f
  induction f with
  | zero => intro v6 T h; exact absurd h (Nat.not_lt_zero _)
  | succ f ih => intro v6 T h hi; exact mb_m_addStep_11 l1 l2 l3 l4 l5 (fun _ _ h => h) (fun _ h => h) (fun uv6 uT g => ih uv6 uT (by omega) g.1) v6 T (hv v6 T hi)
theorem so_m_addStep_11 (l1 : Int32) (l2 : Int32) (l3 : Int32) (l4 : Int32) (l5 : Int32) {K : Int32 → St → St} {Kk Kk2 : Int32 → St → Prop} {Q : St → Prop} (hk : ∀ (v6 : Int32) (T : St), Kk v6 T → Kk2 v6 T ∧ Q (K v6 T)) : ∀ (f : Nat) (v6 : Int32) (T : St), wp_m_addStep_11 l1 l2 l3 l4 l5 Kk Q f v6 T → ok_m_addStep_11 l1 l2 l3 l4 l5 Kk2 f v6 T ∧ Q (x_m_addStep_11 l1 l2 l3 l4 l5 K f v6 T) := by
  intro f
  induction f with
  | zero => intro v6 T w; exact w.elim
  | succ f ih =>
    intro v6 T w
    rw [wp_m_addStep_11, bd_m_addStep_11] at w
    rw [ok_m_addStep_11, x_m_addStep_11]
    refine so_if2 (Q := Q) w (fun c15_1 w => ?_) (fun c15_1 w => ?_)
    · exact hk v6 T w
    · refine so_n (Q := Q) w (fun i1 w => ?_)
      obtain ⟨q2, w⟩ := w
      refine so_rq q2 ?_
      refine so_jn (Q := Q) (J := fun (KJ1 : Int32 → St) (OJ1 : Int32 → Prop) (WKJ1 : Int32 → Prop) => ∀ (j1_s3 : Int32), WKJ1 j1_s3 → OJ1 j1_s3 ∧ Q (KJ1 j1_s3)) w (fun j1_s3 w => ?_) (fun KJ1 OJ1 WKJ1 hJ1 w => ?_)
      · skip
        refine so_jn (Q := Q) (J := fun (KJ2 : St) (OJ2 : Prop) (WKJ2 : Prop) => WKJ2 → OJ2 ∧ Q (KJ2)) w (fun  w => ?_) (fun KJ2 OJ2 WKJ2 hJ2 w => ?_)
        · skip
          refine so_n (Q := Q) w (fun T21 w => ?_)
          refine so_jn (Q := Q) (J := fun (KJ3 : St → St) (OJ3 : St → Prop) (WKJ3 : St → Prop) => ∀ (T303 : St), WKJ3 T303 → OJ3 T303 ∧ Q (KJ3 T303)) w (fun T303 w => ?_) (fun KJ3 OJ3 WKJ3 hJ3 w => ?_)
          · skip
            obtain ⟨q15, w⟩ := w
            refine so_rq q15 ?_
            refine so_jn (Q := Q) (J := fun (KJ4 : St) (OJ4 : Prop) (WKJ4 : Prop) => WKJ4 → OJ4 ∧ Q (KJ4)) w (fun  w => ?_) (fun KJ4 OJ4 WKJ4 hJ4 w => ?_)
            · skip
              exact ih (v6 + 1) (sA T303 581 (i1 : Int32).toNatClampNeg ((T303.2.2.1 581 (i1 : Int32).toNatClampNeg) + 1)) w
            · skip
              refine so_if2 (Q := Q) w (fun c191_31 w => ?_) (fun c191_31 w => ?_)
              · exact hJ4  w
              · refine so_jn (Q := Q) (J := fun (KJ5 : St) (OJ5 : Prop) (WKJ5 : Prop) => WKJ5 → OJ5 ∧ Q (KJ5)) w (fun  w => ?_) (fun KJ5 OJ5 WKJ5 hJ5 w => ?_)
                · skip
                  exact ih (v6 + 1) (sA T303 581 (i1 : Int32).toNatClampNeg ((T303.2.2.1 581 (i1 : Int32).toNatClampNeg) + 0)) w
                · skip
                  refine so_if2 (Q := Q) w (fun c201_34 w => ?_) (fun c201_34 w => ?_)
                  · refine so_if2 (Q := Q) w (fun c206_35 w => ?_) (fun c206_35 w => ?_)
                    · exact hJ4  w
                    · exact hJ5  w
                  · exact hJ5  w
          · skip
            refine so_if2 (Q := Q) w (fun c84_36 w => ?_) (fun c84_36 w => ?_)
            · obtain ⟨q16, w⟩ := w
              refine so_rq q16 ?_
              refine so_jn (Q := Q) (J := fun (KJ6 : Int32 → St) (OJ6 : Int32 → Prop) (WKJ6 : Int32 → Prop) => ∀ (j6_s2 : Int32), WKJ6 j6_s2 → OJ6 j6_s2 ∧ Q (KJ6 j6_s2)) w (fun j6_s2 w => ?_) (fun KJ6 OJ6 WKJ6 hJ6 w => ?_)
              · skip
                refine so_n (Q := Q) w (fun T24 w => ?_)
                obtain ⟨q17, w⟩ := w
                refine so_rq q17 ?_
                refine so_if2 (Q := Q) w (fun c156_38 w => ?_) (fun c156_38 w => ?_)
                · exact hJ3 (sA T24 584 (i1 : Int32).toNatClampNeg (T24.2.2.1 584 (i1 : Int32).toNatClampNeg)) w
                · exact hJ3 (sA T24 584 (i1 : Int32).toNatClampNeg (x_m_stepOf T24 l2 5)) w
              · skip
                refine so_if2 (Q := Q) w (fun c117_39 w => ?_) (fun c117_39 w => ?_)
                · exact hJ6 ((sA T21 580 (i1 : Int32).toNatClampNeg ((T21.2.2.1 580 (i1 : Int32).toNatClampNeg) + 1)).2.2.1 583 (i1 : Int32).toNatClampNeg) w
                · exact hJ6 (x_m_stepOf (sA T21 580 (i1 : Int32).toNatClampNeg ((T21.2.2.1 580 (i1 : Int32).toNatClampNeg) + 1)) l2 4) w
            · exact hJ3 T21 w
        · skip
          refine so_if2 (Q := Q) w (fun c61_40 w => ?_) (fun c61_40 w => ?_)
          · obtain ⟨q18, w⟩ := w
            refine so_rq q18 ?_
            refine so_if2 (Q := Q) w (fun c71_41 w => ?_) (fun c71_41 w => ?_)
            · refine so_n (Q := Q) w (fun T25 w => ?_)
              refine so_jn (Q := Q) (J := fun (KJ7 : St → St) (OJ7 : St → Prop) (WKJ7 : St → Prop) => ∀ (T307 : St), WKJ7 T307 → OJ7 T307 ∧ Q (KJ7 T307)) w (fun T307 w => ?_) (fun KJ7 OJ7 WKJ7 hJ7 w => ?_)
              · skip
                obtain ⟨q22, w⟩ := w
                refine so_rq q22 ?_
                refine so_jn (Q := Q) (J := fun (KJ8 : St) (OJ8 : Prop) (WKJ8 : Prop) => WKJ8 → OJ8 ∧ Q (KJ8)) w (fun  w => ?_) (fun KJ8 OJ8 WKJ8 hJ8 w => ?_)
                · skip
                  exact ih (v6 + 1) (sA T307 581 (i1 : Int32).toNatClampNeg ((T307.2.2.1 581 (i1 : Int32).toNatClampNeg) + 1)) w
                · skip
                  refine so_if2 (Q := Q) w (fun c191_49 w => ?_) (fun c191_49 w => ?_)
                  · exact hJ8  w
                  · refine so_jn (Q := Q) (J := fun (KJ9 : St) (OJ9 : Prop) (WKJ9 : Prop) => WKJ9 → OJ9 ∧ Q (KJ9)) w (fun  w => ?_) (fun KJ9 OJ9 WKJ9 hJ9 w => ?_)
                    · skip
                      exact ih (v6 + 1) (sA T307 581 (i1 : Int32).toNatClampNeg ((T307.2.2.1 581 (i1 : Int32).toNatClampNeg) + 0)) w
                    · skip
                      refine so_if2 (Q := Q) w (fun c201_52 w => ?_) (fun c201_52 w => ?_)
                      · refine so_if2 (Q := Q) w (fun c206_53 w => ?_) (fun c206_53 w => ?_)
                        · exact hJ8  w
                        · exact hJ9  w
                      · exact hJ9  w
              · skip
                refine so_if2 (Q := Q) w (fun c84_54 w => ?_) (fun c84_54 w => ?_)
                · obtain ⟨q23, w⟩ := w
                  refine so_rq q23 ?_
                  refine so_jn (Q := Q) (J := fun (KJ10 : Int32 → St) (OJ10 : Int32 → Prop) (WKJ10 : Int32 → Prop) => ∀ (j10_s2 : Int32), WKJ10 j10_s2 → OJ10 j10_s2 ∧ Q (KJ10 j10_s2)) w (fun j10_s2 w => ?_) (fun KJ10 OJ10 WKJ10 hJ10 w => ?_)
                  · skip
                    refine so_n (Q := Q) w (fun T28 w => ?_)
                    obtain ⟨q24, w⟩ := w
                    refine so_rq q24 ?_
                    refine so_if2 (Q := Q) w (fun c156_56 w => ?_) (fun c156_56 w => ?_)
                    · exact hJ7 (sA T28 584 (i1 : Int32).toNatClampNeg (T28.2.2.1 584 (i1 : Int32).toNatClampNeg)) w
                    · exact hJ7 (sA T28 584 (i1 : Int32).toNatClampNeg (x_m_stepOf T28 l2 5)) w
                  · skip
                    refine so_if2 (Q := Q) w (fun c117_57 w => ?_) (fun c117_57 w => ?_)
                    · exact hJ10 ((sA T25 580 (i1 : Int32).toNatClampNeg ((T25.2.2.1 580 (i1 : Int32).toNatClampNeg) + 1)).2.2.1 583 (i1 : Int32).toNatClampNeg) w
                    · exact hJ10 (x_m_stepOf (sA T25 580 (i1 : Int32).toNatClampNeg ((T25.2.2.1 580 (i1 : Int32).toNatClampNeg) + 1)) l2 4) w
                · exact hJ7 T25 w
            · exact hJ2  w
          · exact hJ2  w
      · skip
        refine so_if2 (Q := Q) w (fun c40_58 w => ?_) (fun c40_58 w => ?_)
        · exact hJ1 1 w
        · exact hJ1 0 w
def wp_m_addStep (T : St) (p0 : Int32) (p1 : Int32) (p2 : Int32) (p3 : Int32) (Q : St → Prop) : Prop := (ok_m_stepOf T p1 0) ∧ wp_m_addStep_11 p0 p1 p2 p3 (x_m_stepOf T p1 0) (fun w1_6 T201 => Q T201) Q 1000 0 T
theorem so_m_addStep {T : St} (p0 : Int32) (p1 : Int32) (p2 : Int32) (p3 : Int32) {Q : St → Prop} (w : wp_m_addStep T p0 p1 p2 p3 Q) : ok_m_addStep T p0 p1 p2 p3 ∧ Q (x_m_addStep T p0 p1 p2 p3) := by
  unfold wp_m_addStep at w
  unfold ok_m_addStep x_m_addStep
  obtain ⟨q1, w⟩ := w
  refine so_rq q1 ?_
  refine so_m_addStep_11 p0 p1 p2 p3 (x_m_stepOf T p1 0) (fun w1_6 T201 w => ?_) 1000 0 T w
  refine ⟨trivial, ?_⟩
  exact w
