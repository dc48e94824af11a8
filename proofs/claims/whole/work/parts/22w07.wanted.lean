def wp_m_ask (T : St) (p0 : Int32) (p1 : Int32) (Q : Int32 × St → Prop) : Prop := ((((x_m_isStep (sF T 571 0 0) p0) = 0) → Q ((-1000001), sF T 571 0 0)) ∧ (¬ ((x_m_isStep (sF T 571 0 0) p0) = 0) → ((((x_m_in (sF T 571 0 0) ((p1 : Int32).toInt64) 0 1) = 0) → Q ((-1000001), sF T 571 0 0)) ∧ (¬ ((x_m_in (sF T 571 0 0) ((p1 : Int32).toInt64) 0 1) = 0) → (((p1 = 0) → (ok_m_kindOf (sF (sF T 571 0 0) 571 48 0) p0) ∧ (ok_m_sizeOf (sF (sF T 571 0 0) 571 48 0) p0 (x_m_kindOf (sF (sF T 571 0 0) 571 48 0) p0)) ∧ jn (fun (T1 : St) => Q ((x_m_sizeOf (sF (sF T 571 0 0) 571 48 0) p0 (x_m_kindOf (sF (sF T 571 0 0) 571 48 0) p0)).1, T1)) ((x_m_sizeOf (sF (sF T 571 0 0) 571 48 0) p0 (x_m_kindOf (sF (sF T 571 0 0) 571 48 0) p0)).2)) ∧ (¬ (p1 = 0) → (ok_m_kindOf (sF (sF T 571 0 0) 571 48 0) p0) ∧ (ok_m_markOf (sF (sF T 571 0 0) 571 48 0) p0 (x_m_kindOf (sF (sF T 571 0 0) 571 48 0) p0)) ∧ Q ((x_m_markOf (sF (sF T 571 0 0) 571 48 0) p0 (x_m_kindOf (sF (sF T 571 0 0) 571 48 0) p0)).1, (x_m_markOf (sF (sF T 571 0 0) 571 48 0) p0 (x_m_kindOf (sF (sF T 571 0 0) 571 48 0) p0)).2)))))))
theorem so_m_ask {T : St} (p0 : Int32) (p1 : Int32) {Q : Int32 × St → Prop} (w : wp_m_ask T p0 p1 Q) : ok_m_ask T p0 p1 ∧ Q (x_m_ask T p0 p1) := by
  unfold wp_m_ask at w
  unfold ok_m_ask x_m_ask
  refine so_ifF (Q := Q) w (fun c10_1 w => ?_) (fun c10_1 w => ?_)
  · exact w
  · refine so_ifF (Q := Q) w (fun c20_2 w => ?_) (fun c20_2 w => ?_)
    · exact w
    · refine so_if2 (Q := Q) w (fun c32_3 w => ?_) (fun c32_3 w => ?_)
      · obtain ⟨q3, w⟩ := w
        refine so_rq q3 ?_
        obtain ⟨q4, w⟩ := w
        refine so_rq q4 ?_
        refine ⟨trivial, ?_⟩
        refine so_n0 (Q := Q) w (fun T1 w => ?_)
        exact w
      · obtain ⟨q1, w⟩ := w
        refine so_rq q1 ?_
        obtain ⟨q2, w⟩ := w
        refine so_rq q2 ?_
        refine ⟨trivial, ?_⟩
        exact w
def wp_m_trace (T : St) (p0 : Int32) (Q : Int32 × St → Prop) : Prop := ((((x_m_in (sF T 571 0 0) ((p0 : Int32).toInt64) 0 ((((sF T 571 0 0).1 571 48) - 1 : Int32).toInt64)) = 0) → Q ((-1000000), sF T 571 0 0)) ∧ (¬ ((x_m_in (sF T 571 0 0) ((p0 : Int32).toInt64) 0 ((((sF T 571 0 0).1 571 48) - 1 : Int32).toInt64)) = 0) → (vp_in p0 16) ∧ Q ((sF T 571 0 0).2.2.1 601 (p0 : Int32).toNatClampNeg, sF T 571 0 0)))
theorem so_m_trace {T : St} (p0 : Int32) {Q : Int32 × St → Prop} (w : wp_m_trace T p0 Q) : ok_m_trace T p0 ∧ Q (x_m_trace T p0) := by
  unfold wp_m_trace at w
  unfold ok_m_trace x_m_trace
  refine so_ifF (Q := Q) w (fun c18_1 w => ?_) (fun c18_1 w => ?_)
  · exact w
  · obtain ⟨q1, w⟩ := w
    refine so_rq q1 ?_
    refine ⟨trivial, ?_⟩
    exact w
def bd_m_count_58 (l1 : Int32) (Kk : Int32 → Int32 → St → Prop) (Q : Int32 × St → Prop) (N : Int32 → Int32 → St → Prop) (v2 : Int32) (v3 : Int32) (T : St) : Prop := (((8 ≤ v3) → Kk v2 v3 T) ∧ (¬ (8 ≤ v3) → (vp_in v3 8) ∧ ((((T.2.2.1 572 (v3 : Int32).toNatClampNeg) < 0) → N (v2 + 0) (v3 + 1) T) ∧ (¬ ((T.2.2.1 572 (v3 : Int32).toNatClampNeg) < 0) → N (v2 + 1) (v3 + 1) T))))
def wp_m_count_58 (l1 : Int32) (Kk : Int32 → Int32 → St → Prop) (Q : Int32 × St → Prop) : Nat → Int32 → Int32 → St → Prop
  | 0, _, _, _ => False
  | f + 1, v2, v3, T => bd_m_count_58 l1 Kk Q (wp_m_count_58 l1 Kk Q f) v2 v3 T
theorem mb_m_count_58 (l1 : Int32) {Kk Kk2 : Int32 → Int32 → St → Prop} {Q Q2 : Int32 × St → Prop} {N N2 : Int32 → Int32 → St → Prop} (hK : ∀ (v2 : Int32) (v3 : Int32) (T : St), Kk v2 v3 T → Kk2 v2 v3 T) (hQ : ∀ r, Q r → Q2 r) (hN : ∀ (v2 : Int32) (v3 : Int32) (T : St), N v2 v3 T → N2 v2 v3 T) (v2 : Int32) (v3 : Int32) (T : St) (w : bd_m_count_58 l1 Kk Q N v2 v3 T) : bd_m_count_58 l1 Kk2 Q2 N2 v2 v3 T := by
  unfold bd_m_count_58 at w ⊢
  refine mo_if w (fun c61_2 w => ?_) (fun c61_2 w => ?_)
  · exact hK v2 v3 T w
  · obtain ⟨q1, w⟩ := w
    refine ⟨q1, ?_⟩
    refine mo_if w (fun c71_3 w => ?_) (fun c71_3 w => ?_)
    · exact hN (v2 + 0) (v3 + 1) T w
    · exact hN (v2 + 1) (v3 + 1) T w
theorem mo_m_count_58 (l1 : Int32) {Kk Kk2 : Int32 → Int32 → St → Prop} {Q Q2 : Int32 × St → Prop} (hK : ∀ (v2 : Int32) (v3 : Int32) (T : St), Kk v2 v3 T → Kk2 v2 v3 T) (hQ : ∀ r, Q r → Q2 r) : ∀ (f : Nat) (v2 : Int32) (v3 : Int32) (T : St), wp_m_count_58 l1 Kk Q f v2 v3 T → wp_m_count_58 l1 Kk2 Q2 f v2 v3 T := by
  intro f
  induction f with
  | zero => intro v2 v3 T w; exact w.elim
  | succ f ih => intro v2 v3 T w; exact mb_m_count_58 l1 hK hQ ih v2 v3 T w
theorem wr_m_count_58 (l1 : Int32) {Kk : Int32 → Int32 → St → Prop} {Q : Int32 × St → Prop} (I : Int32 → Int32 → St → Prop) (m : Int32 → Int32 → St → Nat) (hv : ∀ (v2 : Int32) (v3 : Int32) (T : St), I v2 v3 T → bd_m_count_58 l1 Kk Q (fun uv2 uv3 uT => I uv2 uv3 uT ∧ m uv2 uv3 uT < m v2 v3 T) v2 v3 T) : ∀ (f : Nat) (v2 : Int32) (v3 : Int32) (T : St), m v2 v3 T < f → I v2 v3 T → wp_m_count_58 l1 Kk Q f v2 v3 T := by
  intro f
  induction f with
  | zero => intro v2 v3 T h; exact absurd h (Nat.not_lt_zero _)
  | succ f ih => intro v2 v3 T h hi; exact mb_m_count_58 l1 (fun _ _ _ h => h) (fun _ h => h) (fun uv2 uv3 uT g => ih uv2 uv3 uT (by omega) g.1) v2 v3 T (hv v2 v3 T hi)
theorem so_m_count_58 (l1 : Int32) {K : Int32 → Int32 → St → Int32 × St} {Kk Kk2 : Int32 → Int32 → St → Prop} {Q : Int32 × St → Prop} (hk : ∀ (v2 : Int32) (v3 : Int32) (T : St), Kk v2 v3 T → Kk2 v2 v3 T ∧ Q (K v2 v3 T)) : ∀ (f : Nat) (v2 : Int32) (v3 : Int32) (T : St), wp_m_count_58 l1 Kk Q f v2 v3 T → ok_m_count_58 l1 Kk2 f v2 v3 T ∧ Q (x_m_count_58 l1 K f v2 v3 T) := by
  intro f
  induction f with
  | zero => intro v2 v3 T w; exact w.elim
  | succ f ih =>
    intro v2 v3 T w
    rw [wp_m_count_58, bd_m_count_58] at w
    rw [ok_m_count_58, x_m_count_58]
    refine so_if2 (Q := Q) w (fun c61_2 w => ?_) (fun c61_2 w => ?_)
    · exact hk v2 v3 T w
    · obtain ⟨q1, w⟩ := w
      refine so_rq q1 ?_
      refine so_if2 (Q := Q) w (fun c71_3 w => ?_) (fun c71_3 w => ?_)
      · exact ih (v2 + 0) (v3 + 1) T w
      · exact ih (v2 + 1) (v3 + 1) T w
def bd_m_count_119 (l1 : Int32) (Kk : Int32 → Int32 → St → Prop) (Q : Int32 × St → Prop) (N : Int32 → Int32 → St → Prop) (v2 : Int32) (v3 : Int32) (T : St) : Prop := ((((T.2.2.1 575 (16 : Int32).toNatClampNeg) ≤ v3) → Kk v2 v3 T) ∧ (¬ ((T.2.2.1 575 (16 : Int32).toNatClampNeg) ≤ v3) → ((((((T.2.2.1 575 (202 : Int32).toNatClampNeg) >>> (v3 &&& 31)) &&& 1) = 1) → (ok_m_dishOf T v3 3) ∧ jn (fun (i1 : Int32) => N i1 (v3 + 1) T) (v2 + (x_m_dishOf T v3 3))) ∧ (¬ ((((T.2.2.1 575 (202 : Int32).toNatClampNeg) >>> (v3 &&& 31)) &&& 1) = 1) → N (v2 + 0) (v3 + 1) T))))
def wp_m_count_119 (l1 : Int32) (Kk : Int32 → Int32 → St → Prop) (Q : Int32 × St → Prop) : Nat → Int32 → Int32 → St → Prop
  | 0, _, _, _ => False
  | f + 1, v2, v3, T => bd_m_count_119 l1 Kk Q (wp_m_count_119 l1 Kk Q f) v2 v3 T
theorem mb_m_count_119 (l1 : Int32) {Kk Kk2 : Int32 → Int32 → St → Prop} {Q Q2 : Int32 × St → Prop} {N N2 : Int32 → Int32 → St → Prop} (hK : ∀ (v2 : Int32) (v3 : Int32) (T : St), Kk v2 v3 T → Kk2 v2 v3 T) (hQ : ∀ r, Q r → Q2 r) (hN : ∀ (v2 : Int32) (v3 : Int32) (T : St), N v2 v3 T → N2 v2 v3 T) (v2 : Int32) (v3 : Int32) (T : St) (w : bd_m_count_119 l1 Kk Q N v2 v3 T) : bd_m_count_119 l1 Kk2 Q2 N2 v2 v3 T := by
  unfold bd_m_count_119 at w ⊢
  refine mo_if w (fun c127_4 w => ?_) (fun c127_4 w => ?_)
  · exact hK v2 v3 T w
  · refine mo_if w (fun c144_5 w => ?_) (fun c144_5 w => ?_)
    · obtain ⟨q3, w⟩ := w
      refine ⟨q3, ?_⟩
      refine mo_n w (fun i1 w => ?_)
      exact hN i1 (v3 + 1) T w
    · exact hN (v2 + 0) (v3 + 1) T w
theorem mo_m_count_119 (l1 : Int32) {Kk Kk2 : Int32 → Int32 → St → Prop} {Q Q2 : Int32 × St → Prop} (hK : ∀ (v2 : Int32) (v3 : Int32) (T : St), Kk v2 v3 T → Kk2 v2 v3 T) (hQ : ∀ r, Q r → Q2 r) : ∀ (f : Nat) (v2 : Int32) (v3 : Int32) (T : St), wp_m_count_119 l1 Kk Q f v2 v3 T → wp_m_count_119 l1 Kk2 Q2 f v2 v3 T := by
  intro f
  induction f with
  | zero => intro v2 v3 T w; exact w.elim
  | succ f ih => intro v2 v3 T w; exact mb_m_count_119 l1 hK hQ ih v2 v3 T w
theorem wr_m_count_119 (l1 : Int32) {Kk : Int32 → Int32 → St → Prop} {Q : Int32 × St → Prop} (I : Int32 → Int32 → St → Prop) (m : Int32 → Int32 → St → Nat) (hv : ∀ (v2 : Int32) (v3 : Int32) (T : St), I v2 v3 T → bd_m_count_119 l1 Kk Q (fun uv2 uv3 uT => I uv2 uv3 uT ∧ m uv2 uv3 uT < m v2 v3 T) v2 v3 T) : ∀ (f : Nat) (v2 : Int32) (v3 : Int32) (T : St), m v2 v3 T < f → I v2 v3 T → wp_m_count_119 l1 Kk Q f v2 v3 T := by
  intro f
  induction f with
  | zero => intro v2 v3 T h; exact absurd h (Nat.not_lt_zero _)
  | succ f ih => intro v2 v3 T h hi; exact mb_m_count_119 l1 (fun _ _ _ h => h) (fun _ h => h) (fun uv2 uv3 uT g => ih uv2 uv3 uT (by omega) g.1) v2 v3 T (hv v2 v3 T hi)
theorem so_m_count_119 (l1 : Int32) {K : Int32 → Int32 → St → Int32 × St} {Kk Kk2 : Int32 → Int32 → St → Prop} {Q : Int32 × St → Prop} (hk : ∀ (v2 : Int32) (v3 : Int32) (T : St), Kk v2 v3 T → Kk2 v2 v3 T ∧ Q (K v2 v3 T)) : ∀ (f : Nat) (v2 : Int32) (v3 : Int32) (T : St), wp_m_count_119 l1 Kk Q f v2 v3 T → ok_m_count_119 l1 Kk2 f v2 v3 T ∧ Q (x_m_count_119 l1 K f v2 v3 T) := by
  intro f
  induction f with
  | zero => intro v2 v3 T w; exact w.elim
  | succ f ih =>
    intro v2 v3 T w
    rw [wp_m_count_119, bd_m_count_119] at w
    rw [ok_m_count_119, x_m_count_119]
    refine so_if2 (Q := Q) w (fun c127_4 w => ?_) (fun c127_4 w => ?_)
    · exact hk v2 v3 T w
    · refine so_if2 (Q := Q) w (fun c144_5 w => ?_) (fun c144_5 w => ?_)
      · obtain ⟨q3, w⟩ := w
        refine so_rq q3 ?_
        refine so_n (Q := Q) w (fun i1 w => ?_)
        exact ih i1 (v3 + 1) T w
      · exact ih (v2 + 0) (v3 + 1) T w
def wp_m_count (T : St) (p0 : Int32) (Q : Int32 × St → Prop) : Prop := (((p0 = 0) → wp_m_count_58 p0 (fun w1_2 w1_3 T201 => Q (w1_2, T201)) Q 1000 0 0 (sF T 571 0 0)) ∧ (¬ (p0 = 0) → (((p0 = 1) → Q ((sF T 571 0 0).2.2.1 575 (16 : Int32).toNatClampNeg, sF T 571 0 0)) ∧ (¬ (p0 = 1) → (((p0 = 2) → Q ((sF T 571 0 0).2.2.1 575 (17 : Int32).toNatClampNeg, sF T 571 0 0)) ∧ (¬ (p0 = 2) → (((p0 = 3) → (ok_m_bits (sF T 571 0 0) ((sF T 571 0 0).2.2.1 575 (202 : Int32).toNatClampNeg)) ∧ Q (x_m_bits (sF T 571 0 0) ((sF T 571 0 0).2.2.1 575 (202 : Int32).toNatClampNeg), sF T 571 0 0)) ∧ (¬ (p0 = 3) → (((p0 = 4) → wp_m_count_119 p0 (fun w2_2 w2_3 T202 => Q (w2_2, T202)) Q 1000 0 0 (sF T 571 0 0)) ∧ (¬ (p0 = 4) → (((p0 = 5) → Q ((sF T 571 0 0).2.2.1 575 (7 : Int32).toNatClampNeg, sF T 571 0 0)) ∧ (¬ (p0 = 5) → (((p0 = 6) → Q ((sF T 571 0 0).1 571 9, sF T 571 0 0)) ∧ (¬ (p0 = 6) → (((p0 = 7) → (((((sF T 571 0 0).1 571 7) = 0) → Q (60, sF T 571 0 0)) ∧ (¬ (((sF T 571 0 0).1 571 7) = 0) → Q ((sF T 571 0 0).2.2.1 575 (203 : Int32).toNatClampNeg, sF T 571 0 0)))) ∧ (¬ (p0 = 7) → Q ((-1000001), sF T 571 0 0)))))))))))))))))
theorem so_m_count {T : St} (p0 : Int32) {Q : Int32 × St → Prop} (w : wp_m_count T p0 Q) : ok_m_count T p0 ∧ Q (x_m_count T p0) := by
  unfold wp_m_count at w
  unfold ok_m_count x_m_count
  refine so_if2 (Q := Q) w (fun s8_1_0 w => ?_) (fun s8_1_0 w => ?_)
  · refine so_m_count_58 p0 (fun w1_2 w1_3 T201 w => ?_) 1000 0 0 (sF T 571 0 0) w
    refine ⟨trivial, ?_⟩
    exact w
  · refine so_ifF (Q := Q) w (fun s8_1_1 w => ?_) (fun s8_1_1 w => ?_)
    · exact w
    · refine so_ifF (Q := Q) w (fun s8_1_2 w => ?_) (fun s8_1_2 w => ?_)
      · exact w
      · refine so_if2 (Q := Q) w (fun s8_1_3 w => ?_) (fun s8_1_3 w => ?_)
        · obtain ⟨q2, w⟩ := w
          refine so_rq q2 ?_
          refine ⟨trivial, ?_⟩
          exact w
        · refine so_ifT (Q := Q) w (fun s8_1_4 w => ?_) (fun s8_1_4 w => ?_)
          · refine so_m_count_119 p0 (fun w2_2 w2_3 T202 w => ?_) 1000 0 0 (sF T 571 0 0) w
            refine ⟨trivial, ?_⟩
            exact w
          · refine so_if0 (Q := Q) w (fun s8_1_5 w => ?_) (fun s8_1_5 w => ?_)
            · exact w
            · refine so_if0 (Q := Q) w (fun s8_1_6 w => ?_) (fun s8_1_6 w => ?_)
              · exact w
              · refine so_if0 (Q := Q) w (fun s8_1_7 w => ?_) (fun s8_1_7 w => ?_)
                · refine so_if0 (Q := Q) w (fun c184_6 w => ?_) (fun c184_6 w => ?_)
                  · exact w
                  · exact w
                · exact w
def wp_m_status (T : St)  (Q : Int32 × St → Prop) : Prop := Q ((sF T 571 0 0).1 571 1, sF T 571 0 0)
theorem so_m_status {T : St}  {Q : Int32 × St → Prop} (w : wp_m_status T  Q) : Q (x_m_status T ) := by
  unfold wp_m_status at w
  unfold x_m_status
  exact w
def wp_J_bitCount (T : St) (p0 : Int32) (Q : Int32 → Prop) : Prop := jn (fun (i1 : Int32) => jn (fun (i2 : Int32) => jn (fun (i3 : Int32) => jn (fun (i4 : Int32) => jn (fun (i5 : Int32) => Q (i5 &&& 63)) (i4 + (((i4 : Int32).toUInt32 >>> ((16 : Int32).toUInt32 &&& Int32.toUInt32 31)).toInt32))) (i3 + (((i3 : Int32).toUInt32 >>> ((8 : Int32).toUInt32 &&& Int32.toUInt32 31)).toInt32))) ((i2 + (((i2 : Int32).toUInt32 >>> ((4 : Int32).toUInt32 &&& Int32.toUInt32 31)).toInt32)) &&& 252645135)) ((i1 &&& 858993459) + ((((i1 : Int32).toUInt32 >>> ((2 : Int32).toUInt32 &&& Int32.toUInt32 31)).toInt32) &&& 858993459))) (p0 - ((((p0 : Int32).toUInt32 >>> ((1 : Int32).toUInt32 &&& Int32.toUInt32 31)).toInt32) &&& 1431655765))
theorem so_J_bitCount {T : St} (p0 : Int32) {Q : Int32 → Prop} (w : wp_J_bitCount T p0 Q) : Q (x_J_bitCount T p0) := by
  unfold wp_J_bitCount at w
  unfold x_J_bitCount
  refine so_n0 (Q := Q) w (fun i1 w => ?_)
  refine so_n0 (Q := Q) w (fun i2 w => ?_)
  refine so_n0 (Q := Q) w (fun i3 w => ?_)
  refine so_n0 (Q := Q) w (fun i4 w => ?_)
  refine so_n0 (Q := Q) w (fun i5 w => ?_)
  exact w
def wp_bk_given (T : St) (a : Nat) (p0 : Int32) (p1 : Int32) (Q : Int32 → Prop) : Prop := (sh a = .inr 1) ∧ jn (fun (KJ1 : Int32 → Prop) => (((p0 < (T.1 a 18)) → KJ1 0) ∧ (¬ (p0 < (T.1 a 18)) → KJ1 1))) (fun (j1_s0 : Int32) => (((p1 = 0) → Q (((T.2.2.1 (a + 1) (0 : Int32).toNatClampNeg) + (T.2.2.1 (a + 1) (1 : Int32).toNatClampNeg)) - j1_s0)) ∧ (¬ (p1 = 0) → (((p1 = 1) → Q ((T.2.2.1 (a + 1) (1 : Int32).toNatClampNeg) - j1_s0)) ∧ (¬ (p1 = 1) → (((p1 = 2) → Q (T.2.2.1 (a + 1) (2 : Int32).toNatClampNeg)) ∧ (¬ (p1 = 2) → (((p1 = 3) → (ok_bk_awayAt T a p0) ∧ Q (if 0 < (T.2.2.1 (a + 1) (5 : Int32).toNatClampNeg) - (x_bk_awayAt T a p0) then (T.2.2.1 (a + 1) (5 : Int32).toNatClampNeg) - (x_bk_awayAt T a p0) else 0 : Int32)) ∧ (¬ (p1 = 3) → Q (T.2.2.1 (a + 1) (6 : Int32).toNatClampNeg))))))))))
theorem so_bk_given {T : St} (a : Nat) (p0 : Int32) (p1 : Int32) {Q : Int32 → Prop} (w : wp_bk_given T a p0 p1 Q) : ok_bk_given T a p0 p1 ∧ Q (x_bk_given T a p0 p1) := by
  unfold wp_bk_given at w
  unfold ok_bk_given x_bk_given
  obtain ⟨q1, w⟩ := w
  refine so_rq q1 ?_
  refine so_jn (Q := Q) (J := fun (KJ1 : Int32 → Int32) (OJ1 : Int32 → Prop) (WKJ1 : Int32 → Prop) => ∀ (j1_s0 : Int32), WKJ1 j1_s0 → OJ1 j1_s0 ∧ Q (KJ1 j1_s0)) w (fun j1_s0 w => ?_) (fun KJ1 OJ1 WKJ1 hJ1 w => ?_)
  · skip
    refine so_ifF (Q := Q) w (fun s15_2_0 w => ?_) (fun s15_2_0 w => ?_)
    · exact w
    · refine so_ifF (Q := Q) w (fun s15_2_1 w => ?_) (fun s15_2_1 w => ?_)
      · exact w
      · refine so_ifF (Q := Q) w (fun s15_2_2 w => ?_) (fun s15_2_2 w => ?_)
        · exact w
        · refine so_ifT (Q := Q) w (fun s15_2_3 w => ?_) (fun s15_2_3 w => ?_)
          · obtain ⟨q2, w⟩ := w
            refine so_rq q2 ?_
            refine ⟨trivial, ?_⟩
            exact w
          · exact w
  · skip
    refine so_if2 (Q := Q) w (fun c5_3 w => ?_) (fun c5_3 w => ?_)
    · exact hJ1 0 w
    · exact hJ1 1 w
def wp_ki_giveAll (T : St) (a : Nat) (p0 : Nat) (p1 : Int32) (Q : St → Prop) : Prop := (sh p0 = .inr 1) ∧ (ok_ki_give T a 0 ((T.2.2.1 (p0 + 1) (0 : Int32).toNatClampNeg) + (T.2.2.1 (p0 + 1) (1 : Int32).toNatClampNeg))) ∧ (sh a = .inr 3) ∧ jn (fun (T1 : St) => (ok_ki_give T1 a 1 (T1.2.2.1 (p0 + 1) (1 : Int32).toNatClampNeg)) ∧ (ok_ki_give (x_ki_give T1 a 1 (T1.2.2.1 (p0 + 1) (1 : Int32).toNatClampNeg)) a 2 ((x_ki_give T1 a 1 (T1.2.2.1 (p0 + 1) (1 : Int32).toNatClampNeg)).2.2.1 (p0 + 1) (2 : Int32).toNatClampNeg)) ∧ jn (fun (T2 : St) => (ok_ki_give T2 a 3 p1) ∧ (ok_ki_give (x_ki_give T2 a 3 p1) a 4 ((x_ki_give T2 a 3 p1).2.2.1 (p0 + 1) (6 : Int32).toNatClampNeg)) ∧ Q (x_ki_give (x_ki_give T2 a 3 p1) a 4 ((x_ki_give T2 a 3 p1).2.2.1 (p0 + 1) (6 : Int32).toNatClampNeg))) (x_ki_give (x_ki_give T1 a 1 (T1.2.2.1 (p0 + 1) (1 : Int32).toNatClampNeg)) a 2 ((x_ki_give T1 a 1 (T1.2.2.1 (p0 + 1) (1 : Int32).toNatClampNeg)).2.2.1 (p0 + 1) (2 : Int32).toNatClampNeg))) (x_ki_give T a 0 ((T.2.2.1 (p0 + 1) (0 : Int32).toNatClampNeg) + (T.2.2.1 (p0 + 1) (1 : Int32).toNatClampNeg)))
theorem so_ki_giveAll {T : St} (a : Nat) (p0 : Nat) (p1 : Int32) {Q : St → Prop} (w : wp_ki_giveAll T a p0 p1 Q) : ok_ki_giveAll T a p0 p1 ∧ Q (x_ki_giveAll T a p0 p1) := by
  unfold wp_ki_giveAll at w
  unfold ok_ki_giveAll x_ki_giveAll
  obtain ⟨q1, w⟩ := w
  refine so_rq q1 ?_
  obtain ⟨q2, w⟩ := w
  refine so_rq q2 ?_
  obtain ⟨q3, w⟩ := w
  refine so_rq q3 ?_
  refine so_n (Q := Q) w (fun T1 w => ?_)
  obtain ⟨q4, w⟩ := w
  refine so_rq q4 ?_
  obtain ⟨q5, w⟩ := w
  refine so_rq q5 ?_
  refine so_n (Q := Q) w (fun T2 w => ?_)
  obtain ⟨q6, w⟩ := w
  refine so_rq q6 ?_
  obtain ⟨q7, w⟩ := w
  refine so_rq q7 ?_
  refine ⟨trivial, ?_⟩
  exact w
def bd_ki_fit_33 (l0 : Nat) (l1 : Nat) (l2 : Int32) (l3 : Int32) (l4 : Int64) (Kk : Int32 → St → Prop) (Q : St → Prop) (N : Int32 → St → Prop) (v6 : Int32) (T : St) : Prop := (sh l1 = .inr 1) ∧ ((((T.1 l1 1) ≤ v6) → Kk v6 T) ∧ (¬ ((T.1 l1 1) ≤ v6) → (vp_in v6 4) ∧ (ok_ki_giveOneLess T l0 3 (x_x_span T (T.2.2.1 (l1 + 2) (v6 : Int32).toNatClampNeg) (((T.2.2.1 (l1 + 3) (v6 : Int32).toNatClampNeg) - (T.2.2.1 (l1 + 2) (v6 : Int32).toNatClampNeg)) + 1))) ∧ (sh l0 = .inr 3) ∧ jn (fun (T2 : St) => N (v6 + 1) T2) (x_ki_giveOneLess T l0 3 (x_x_span T (T.2.2.1 (l1 + 2) (v6 : Int32).toNatClampNeg) (((T.2.2.1 (l1 + 3) (v6 : Int32).toNatClampNeg) - (T.2.2.1 (l1 + 2) (v6 : Int32).toNatClampNeg)) + 1)))))
def wp_ki_fit_33 (l0 : Nat) (l1 : Nat) (l2 : Int32) (l3 : Int32) (l4 : Int64) (Kk : Int32 → St → Prop) (Q : St → Prop) : Nat → Int32 → St → Prop
  | 0, _, _ => False
  | f + 1, v6, T => bd_ki_fit_33 l0 l1 l2 l3 l4 Kk Q (wp_ki_fit_33 l0 l1 l2 l3 l4 Kk Q f) v6 T
theorem mb_ki_fit_33 (l0 : Nat) (l1 : Nat) (l2 : Int32) (l3 : Int32) (l4 : Int64) {Kk Kk2 : Int32 → St → Prop} {Q Q2 : St → Prop} {N N2 : Int32 → St → Prop} (hK : ∀ (v6 : Int32) (T : St), Kk v6 T → Kk2 v6 T) (hQ : ∀ r, Q r → Q2 r) (hN : ∀ (v6 : Int32) (T : St), N v6 T → N2 v6 T) (v6 : Int32) (T : St) (w : bd_ki_fit_33 l0 l1 l2 l3 l4 Kk Q N v6 T) : bd_ki_fit_33 l0 l1 l2 l3 l4 Kk2 Q2 N2 v6 T := by
  unfold bd_ki_fit_33 at w ⊢
  obtain ⟨q5, w⟩ := w
  refine ⟨q5, ?_⟩
  refine mo_if w (fun c39_1 w => ?_) (fun c39_1 w => ?_)
  · exact hK v6 T w
  · obtain ⟨q6, w⟩ := w
    refine ⟨q6, ?_⟩
    obtain ⟨q7, w⟩ := w
    refine ⟨q7, ?_⟩
    obtain ⟨q8, w⟩ := w
    refine ⟨q8, ?_⟩
    refine mo_n w (fun T2 w => ?_)
    exact hN (v6 + 1) T2 w
theorem mo_ki_fit_33 (l0 : Nat) (l1 : Nat) (l2 : Int32) (l3 : Int32) (l4 : Int64) {Kk Kk2 : Int32 → St → Prop} {Q Q2 : St → Prop} (hK : ∀ (v6 : Int32) (T : St), Kk v6 T → Kk2 v6 T) (hQ : ∀ r, Q r → Q2 r) : ∀ (f : Nat) (v6 : Int32) (T : St), wp_ki_fit_33 l0 l1 l2 l3 l4 Kk Q f v6 T → wp_ki_fit_33 l0 l1 l2 l3 l4 Kk2 Q2 f v6 T := by
  intro f
  induction f with
  | zero => intro v6 T w; exact w.elim
  | succ f ih => intro v6 T w; exact mb_ki_fit_33 l0 l1 l2 l3 l4 hK hQ ih v6 T w
theorem wr_ki_fit_33 (l0 : Nat) (l1 : Nat) (l2 : Int32) (l3 : Int32) (l4 : Int64) {Kk : Int32 → St → Prop} {Q : St → Prop} (I : Int32 → St → Prop) (m : Int32 → St → Nat) (hv : ∀ (v6 : Int32) (T : St), I v6 T → bd_ki_fit_33 l0 l1 l2 l3 l4 Kk Q (fun uv6 uT => I uv6 uT ∧ m uv6 uT < m v6 T) v6 T) : ∀ (f : Nat) (v6 : Int32) (T : St), m v6 T < f → I v6 T → wp_ki_fit_33 l0 l1 l2 l3 l4 Kk Q f v6 T := by
  intro f
  induction f with
  | zero => intro v6 T h; exact absurd h (Nat.not_lt_zero _)
  | succ f ih => intro v6 T h hi; exact mb_ki_fit_33 l0 l1 l2 l3 l4 (fun _ _ h => h) (fun _ h => h) (fun uv6 uT g => ih uv6 uT (by omega) g.1) v6 T (hv v6 T hi)
theorem so_ki_fit_33 (l0 : Nat) (l1 : Nat) (l2 : Int32) (l3 : Int32) (l4 : Int64) {K : Int32 → St → St} {Kk Kk2 : Int32 → St → Prop} {Q : St → Prop} (hk : ∀ (v6 : Int32) (T : St), Kk v6 T → Kk2 v6 T ∧ Q (K v6 T)) : ∀ (f : Nat) (v6 : Int32) (T : St), wp_ki_fit_33 l0 l1 l2 l3 l4 Kk Q f v6 T → ok_ki_fit_33 l0 l1 l2 l3 l4 Kk2 f v6 T ∧ Q (x_ki_fit_33 l0 l1 l2 l3 l4 K f v6 T) := by
  intro f
  induction f with
  | zero => intro v6 T w; exact w.elim
  | succ f ih =>
    intro v6 T w
    rw [wp_ki_fit_33, bd_ki_fit_33] at w
    rw [ok_ki_fit_33, x_ki_fit_33]
    obtain ⟨q5, w⟩ := w
    refine so_rq q5 ?_
    refine so_if2 (Q := Q) w (fun c39_1 w => ?_) (fun c39_1 w => ?_)
    · exact hk v6 T w
    · obtain ⟨q6, w⟩ := w
      refine so_rq q6 ?_
      obtain ⟨q7, w⟩ := w
      refine so_rq q7 ?_
      obtain ⟨q8, w⟩ := w
      refine so_rq q8 ?_
      refine so_n (Q := Q) w (fun T2 w => ?_)
      exact ih (v6 + 1) T2 w
def wp_ki_fit (T : St) (a : Nat) (p0 : Nat) (p1 : Int32) (p2 : Int32) (Q : St → Prop) : Prop := (ok_ki_giveAll T a p0 p1) ∧ (sh a = .inr 3) ∧ jn (fun (k1 : Int64) => (ok_ki_giveOneLess (x_ki_giveAll T a p0 p1) a 0 k1) ∧ (ok_ki_giveOneLess (x_ki_giveOneLess (x_ki_giveAll T a p0 p1) a 0 k1) a 1 k1) ∧ wp_ki_fit_33 a p0 p1 p2 k1 (fun w1_6 T201 => Q T201) Q 1000 0 (x_ki_giveOneLess (x_ki_giveOneLess (x_ki_giveAll T a p0 p1) a 0 k1) a 1 k1)) (x_x_span (x_ki_giveAll T a p0 p1) p2 (60 - p2))
theorem so_ki_fit {T : St} (a : Nat) (p0 : Nat) (p1 : Int32) (p2 : Int32) {Q : St → Prop} (w : wp_ki_fit T a p0 p1 p2 Q) : ok_ki_fit T a p0 p1 p2 ∧ Q (x_ki_fit T a p0 p1 p2) := by
  unfold wp_ki_fit at w
  unfold ok_ki_fit x_ki_fit
  obtain ⟨q1, w⟩ := w
  refine so_rq q1 ?_
  obtain ⟨q2, w⟩ := w
  refine so_rq q2 ?_
  refine so_n (Q := Q) w (fun k1 w => ?_)
  obtain ⟨q3, w⟩ := w
  refine so_rq q3 ?_
  obtain ⟨q4, w⟩ := w
  refine so_rq q4 ?_
  refine so_ki_fit_33 a p0 p1 p2 k1 (fun w1_6 T201 w => ?_) 1000 0 (x_ki_giveOneLess (x_ki_giveOneLess (x_ki_giveAll T a p0 p1) a 0 k1) a 1 k1) w
  refine ⟨trivial, ?_⟩
  exact w
def bd_pl_settle_2 (l1 : Int32) (Kk : Int32 → St → Prop) (Q : St → Prop) (N : Int32 → St → Prop) (v2 : Int32) (T : St) : Prop := (sh (T.2.1 2) = .inr 1) ∧ ((((T.1 (T.2.1 2) 4) ≤ v2) → Kk v2 T) ∧ (¬ ((T.1 (T.2.1 2) 4) ≤ v2) → (((((l1 >>> (v2 &&& 31)) &&& 1) = 0) → N (v2 + 1) T) ∧ (¬ (((l1 >>> (v2 &&& 31)) &&& 1) = 0) → (ok_pl_settleDish T v2) ∧ N (v2 + 1) (x_pl_settleDish T v2)))))
def wp_pl_settle_2 (l1 : Int32) (Kk : Int32 → St → Prop) (Q : St → Prop) : Nat → Int32 → St → Prop
  | 0, _, _ => False
  | f + 1, v2, T => bd_pl_settle_2 l1 Kk Q (wp_pl_settle_2 l1 Kk Q f) v2 T
theorem mb_pl_settle_2 (l1 : Int32) {Kk Kk2 : Int32 → St → Prop} {Q Q2 : St → Prop} {N N2 : Int32 → St → Prop} (hK : ∀ (v2 : Int32) (T : St), Kk v2 T → Kk2 v2 T) (hQ : ∀ r, Q r → Q2 r) (hN : ∀ (v2 : Int32) (T : St), N v2 T → N2 v2 T) (v2 : Int32) (T : St) (w : bd_pl_settle_2 l1 Kk Q N v2 T) : bd_pl_settle_2 l1 Kk2 Q2 N2 v2 T := by
  unfold bd_pl_settle_2 at w ⊢
  obtain ⟨q1, w⟩ := w
  refine ⟨q1, ?_⟩
  refine mo_if w (fun c10_1 w => ?_) (fun c10_1 w => ?_)
  · exact hK v2 T w
  · refine mo_if w (fun c18_2 w => ?_) (fun c18_2 w => ?_)
    · exact hN (v2 + 1) T w
    · obtain ⟨q2, w⟩ := w
      refine ⟨q2, ?_⟩
      exact hN (v2 + 1) (x_pl_settleDish T v2) w
theorem mo_pl_settle_2 (l1 : Int32) {Kk Kk2 : Int32 → St → Prop} {Q Q2 : St → Prop} (hK : ∀ (v2 : Int32) (T : St), Kk v2 T → Kk2 v2 T) (hQ : ∀ r, Q r → Q2 r) : ∀ (f : Nat) (v2 : Int32) (T : St), wp_pl_settle_2 l1 Kk Q f v2 T → wp_pl_settle_2 l1 Kk2 Q2 f v2 T := by
  intro f
  induction f with
  | zero => intro v2 T w; exact w.elim
  | succ f ih => intro v2 T w; exact mb_pl_settle_2 l1 hK hQ ih v2 T w
theorem wr_pl_settle_2 (l1 : Int32) {Kk : Int32 → St → Prop} {Q : St → Prop} (I : Int32 → St → Prop) (m : Int32 → St → Nat) (hv : ∀ (v2 : Int32) (T : St), I v2 T → bd_pl_settle_2 l1 Kk Q (fun uv2 uT => I uv2 uT ∧ m uv2 uT < m v2 T) v2 T) : ∀ (f : Nat) (v2 : Int32) (T : St), m v2 T < f → I v2 T → wp_pl_settle_2 l1 Kk Q f v2 T := by
  intro f
  induction f with
  | zero => intro v2 T h; exact absurd h (Nat.not_lt_zero _)
  | succ f ih => intro v2 T h hi; exact mb_pl_settle_2 l1 (fun _ _ h => h) (fun _ h => h) (fun uv2 uT g => ih uv2 uT (by omega) g.1) v2 T (hv v2 T hi)
theorem so_pl_settle_2 (l1 : Int32) {K : Int32 → St → St} {Kk Kk2 : Int32 → St → Prop} {Q : St → Prop} (hk : ∀ (v2 : Int32) (T : St), Kk v2 T → Kk2 v2 T ∧ Q (K v2 T)) : ∀ (f : Nat) (v2 : Int32) (T : St), wp_pl_settle_2 l1 Kk Q f v2 T → ok_pl_settle_2 l1 Kk2 f v2 T ∧ Q (x_pl_settle_2 l1 K f v2 T) := by
  intro f
  induction f with
  | zero => intro v2 T w; exact w.elim
  | succ f ih =>
    intro v2 T w
    rw [wp_pl_settle_2, bd_pl_settle_2] at w
    rw [ok_pl_settle_2, x_pl_settle_2]
    obtain ⟨q1, w⟩ := w
    refine so_rq q1 ?_
    refine so_if2 (Q := Q) w (fun c10_1 w => ?_) (fun c10_1 w => ?_)
    · exact hk v2 T w
    · refine so_if2 (Q := Q) w (fun c18_2 w => ?_) (fun c18_2 w => ?_)
      · exact ih (v2 + 1) T w
      · obtain ⟨q2, w⟩ := w
        refine so_rq q2 ?_
        exact ih (v2 + 1) (x_pl_settleDish T v2) w
def wp_pl_settle (T : St) (p0 : Int32) (Q : St → Prop) : Prop := wp_pl_settle_2 p0 (fun w1_2 T201 => Q T201) Q 1000 0 T
theorem so_pl_settle {T : St} (p0 : Int32) {Q : St → Prop} (w : wp_pl_settle T p0 Q) : ok_pl_settle T p0 ∧ Q (x_pl_settle T p0) := by
  unfold wp_pl_settle at w
  unfold ok_pl_settle x_pl_settle
  refine so_pl_settle_2 p0 (fun w1_2 T201 w => ?_) 1000 0 T w
  refine ⟨trivial, ?_⟩
  exact w
def bd_pl_seatAll_7 (l1 : Int32) (Kk : Int32 → St → Prop) (Q : Int32 × St → Prop) (N : Int32 → St → Prop) (v2 : Int32) (T : St) : Prop := (sh (T.2.1 2) = .inr 1) ∧ ((((T.1 (T.2.1 2) 4) ≤ v2) → Kk v2 T) ∧ (¬ ((T.1 (T.2.1 2) 4) ≤ v2) → (((4 ≤ (T.1 80 12)) → Kk v2 T) ∧ (¬ (4 ≤ (T.1 80 12)) → (((((l1 >>> (v2 &&& 31)) &&& 1) = 0) → N (v2 + 1) T) ∧ (¬ (((l1 >>> (v2 &&& 31)) &&& 1) = 0) → (vp_in v2 8) ∧ ((((T.2.2.1 83 (v2 : Int32).toNatClampNeg) = 1000000) → Q (0, T)) ∧ (¬ ((T.2.2.1 83 (v2 : Int32).toNatClampNeg) = 1000000) → (vp_in (T.1 80 12) 4) ∧ (ok_pl_choicesThatCan (sA T 94 (T.1 80 12 : Int32).toNatClampNeg v2) v2) ∧ (vp_in ((sA T 94 (T.1 80 12 : Int32).toNatClampNeg v2).1 80 12) 4) ∧ jn (fun (T1 : St) => N (v2 + 1) (sF T1 80 12 ((T1.1 80 12) + 1))) (sA (sA T 94 (T.1 80 12 : Int32).toNatClampNeg v2) (100 + (0 : Int32).toNatClampNeg) ((sA T 94 (T.1 80 12 : Int32).toNatClampNeg v2).1 80 12 : Int32).toNatClampNeg (x_pl_choicesThatCan (sA T 94 (T.1 80 12 : Int32).toNatClampNeg v2) v2))))))))))
def wp_pl_seatAll_7 (l1 : Int32) (Kk : Int32 → St → Prop) (Q : Int32 × St → Prop) : Nat → Int32 → St → Prop
  | 0, _, _ => False
  | f + 1, v2, T => bd_pl_seatAll_7 l1 Kk Q (wp_pl_seatAll_7 l1 Kk Q f) v2 T
theorem mb_pl_seatAll_7 (l1 : Int32) {Kk Kk2 : Int32 → St → Prop} {Q Q2 : Int32 × St → Prop} {N N2 : Int32 → St → Prop} (hK : ∀ (v2 : Int32) (T : St), Kk v2 T → Kk2 v2 T) (hQ : ∀ r, Q r → Q2 r) (hN : ∀ (v2 : Int32) (T : St), N v2 T → N2 v2 T) (v2 : Int32) (T : St) (w : bd_pl_seatAll_7 l1 Kk Q N v2 T) : bd_pl_seatAll_7 l1 Kk2 Q2 N2 v2 T := by
  unfold bd_pl_seatAll_7 at w ⊢
  obtain ⟨q1, w⟩ := w
  refine ⟨q1, ?_⟩
  refine mo_if w (fun c15_1 w => ?_) (fun c15_1 w => ?_)
  · exact hK v2 T w
  · refine mo_if w (fun c23_2 w => ?_) (fun c23_2 w => ?_)
    · exact hK v2 T w
    · refine mo_if w (fun c31_3 w => ?_) (fun c31_3 w => ?_)
      · exact hN (v2 + 1) T w
      · obtain ⟨q2, w⟩ := w
        refine ⟨q2, ?_⟩
        refine mo_if w (fun c42_4 w => ?_) (fun c42_4 w => ?_)
        · exact hQ _ w
        · obtain ⟨q3, w⟩ := w
          refine ⟨q3, ?_⟩
          obtain ⟨q4, w⟩ := w
          refine ⟨q4, ?_⟩
          obtain ⟨q5, w⟩ := w
          refine ⟨q5, ?_⟩
          refine mo_n w (fun T1 w => ?_)
          exact hN (v2 + 1) (sF T1 80 12 ((T1.1 80 12) + 1)) w
theorem mo_pl_seatAll_7 (l1 : Int32) {Kk Kk2 : Int32 → St → Prop} {Q Q2 : Int32 × St → Prop} (hK : ∀ (v2 : Int32) (T : St), Kk v2 T → Kk2 v2 T) (hQ : ∀ r, Q r → Q2 r) : ∀ (f : Nat) (v2 : Int32) (T : St), wp_pl_seatAll_7 l1 Kk Q f v2 T → wp_pl_seatAll_7 l1 Kk2 Q2 f v2 T := by
  intro f
  induction f with
  | zero => intro v2 T w; exact w.elim
  | succ f ih => intro v2 T w; exact mb_pl_seatAll_7 l1 hK hQ ih v2 T w
theorem wr_pl_seatAll_7 (l1 : Int32) {Kk : Int32 → St → Prop} {Q : Int32 × St → Prop} (I : Int32 → St → Prop) (m : Int32 → St → Nat) (hv : ∀ (v2 : Int32) (T : St), I v2 T → bd_pl_seatAll_7 l1 Kk Q (fun uv2 uT => I uv2 uT ∧ m uv2 uT < m v2 T) v2 T) : ∀ (f : Nat) (v2 : Int32) (T : St), m v2 T < f → I v2 T → wp_pl_seatAll_7 l1 Kk Q f v2 T := by
  intro f
  induction f with
  | zero => intro v2 T h; exact absurd h (Nat.not_lt_zero _)
  | succ f ih => intro v2 T h hi; exact mb_pl_seatAll_7 l1 (fun _ _ h => h) (fun _ h => h) (fun uv2 uT g => ih uv2 uT (by omega) g.1) v2 T (hv v2 T hi)
theorem so_pl_seatAll_7 (l1 : Int32) {K : Int32 → St → Int32 × St} {Kk Kk2 : Int32 → St → Prop} {Q : Int32 × St → Prop} (hk : ∀ (v2 : Int32) (T : St), Kk v2 T → Kk2 v2 T ∧ Q (K v2 T)) : ∀ (f : Nat) (v2 : Int32) (T : St), wp_pl_seatAll_7 l1 Kk Q f v2 T → ok_pl_seatAll_7 l1 Kk2 f v2 T ∧ Q (x_pl_seatAll_7 l1 K f v2 T) := by
  intro f
  induction f with
  | zero => intro v2 T w; exact w.elim
  | succ f ih =>
    intro v2 T w
    rw [wp_pl_seatAll_7, bd_pl_seatAll_7] at w
    rw [ok_pl_seatAll_7, x_pl_seatAll_7]
    obtain ⟨q1, w⟩ := w
    refine so_rq q1 ?_
    refine so_if2 (Q := Q) w (fun c15_1 w => ?_) (fun c15_1 w => ?_)
    · exact hk v2 T w
    · refine so_if2 (Q := Q) w (fun c23_2 w => ?_) (fun c23_2 w => ?_)
      · exact hk v2 T w
      · refine so_if2 (Q := Q) w (fun c31_3 w => ?_) (fun c31_3 w => ?_)
        · exact ih (v2 + 1) T w
        · obtain ⟨q2, w⟩ := w
          refine so_rq q2 ?_
          refine so_ifF (Q := Q) w (fun c42_4 w => ?_) (fun c42_4 w => ?_)
          · exact w
          · obtain ⟨q3, w⟩ := w
            refine so_rq q3 ?_
            obtain ⟨q4, w⟩ := w
            refine so_rq q4 ?_
            obtain ⟨q5, w⟩ := w
            refine so_rq q5 ?_
            refine so_n (Q := Q) w (fun T1 w => ?_)
            exact ih (v2 + 1) (sF T1 80 12 ((T1.1 80 12) + 1)) w
def bd_pl_seatAll_119 (l1 : Int32) (Kk : Int32 → St → Prop) (Q : Int32 × St → Prop) (N : Int32 → St → Prop) (v2 : Int32) (T : St) : Prop := (((v2 < 0) → Kk v2 T) ∧ (¬ (v2 < 0) → (vp_in v2 4) ∧ (vp_in (T.2.2.1 94 (v2 : Int32).toNatClampNeg) 8) ∧ jn (fun (r3 : Nat) => (ok_ta_hasRoom T (507 + 5 * (0 : Int32).toNatClampNeg) r3) ∧ ((((x_ta_hasRoom T (507 + 5 * (0 : Int32).toNatClampNeg) r3) = 0) → Q (0, T)) ∧ (¬ ((x_ta_hasRoom T (507 + 5 * (0 : Int32).toNatClampNeg) r3) = 0) → (ok_ta_add T (507 + 5 * (0 : Int32).toNatClampNeg) (507 + 5 * (0 : Int32).toNatClampNeg) r3 (T.2.1 3)) ∧ jn (fun (T4 : St) => (vp_in (v2 + 1) 5) ∧ (vp_in (T4.2.2.1 94 (v2 : Int32).toNatClampNeg) 8) ∧ (vp_in v2 5) ∧ jn (fun (T5 : St) => N (v2 + (-1)) T5) (sA T4 97 (v2 : Int32).toNatClampNeg ((T4.2.2.1 97 (v2 + 1 : Int32).toNatClampNeg) + (T4.2.2.1 83 (T4.2.2.1 94 (v2 : Int32).toNatClampNeg : Int32).toNatClampNeg)))) (x_ta_add T (507 + 5 * (0 : Int32).toNatClampNeg) (507 + 5 * (0 : Int32).toNatClampNeg) r3 (T.2.1 3))))) (85 + (T.2.2.1 94 (v2 : Int32).toNatClampNeg : Int32).toNatClampNeg)))
def wp_pl_seatAll_119 (l1 : Int32) (Kk : Int32 → St → Prop) (Q : Int32 × St → Prop) : Nat → Int32 → St → Prop
  | 0, _, _ => False
  | f + 1, v2, T => bd_pl_seatAll_119 l1 Kk Q (wp_pl_seatAll_119 l1 Kk Q f) v2 T
theorem mb_pl_seatAll_119 (l1 : Int32) {Kk Kk2 : Int32 → St → Prop} {Q Q2 : Int32 × St → Prop} {N N2 : Int32 → St → Prop} (hK : ∀ (v2 : Int32) (T : St), Kk v2 T → Kk2 v2 T) (hQ : ∀ r, Q r → Q2 r) (hN : ∀ (v2 : Int32) (T : St), N v2 T → N2 v2 T) (v2 : Int32) (T : St) (w : bd_pl_seatAll_119 l1 Kk Q N v2 T) : bd_pl_seatAll_119 l1 Kk2 Q2 N2 v2 T := by
  unfold bd_pl_seatAll_119 at w ⊢
  refine mo_if w (fun c120_5 w => ?_) (fun c120_5 w => ?_)
  · exact hK v2 T w
  · obtain ⟨q8, w⟩ := w
    refine ⟨q8, ?_⟩
    obtain ⟨q9, w⟩ := w
    refine ⟨q9, ?_⟩
    refine mo_n w (fun r3 w => ?_)
    obtain ⟨q10, w⟩ := w
    refine ⟨q10, ?_⟩
    refine mo_if w (fun c145_6 w => ?_) (fun c145_6 w => ?_)
    · exact hQ _ w
    · obtain ⟨q11, w⟩ := w
      refine ⟨q11, ?_⟩
      refine mo_n w (fun T4 w => ?_)
      obtain ⟨q12, w⟩ := w
      refine ⟨q12, ?_⟩
      obtain ⟨q13, w⟩ := w
      refine ⟨q13, ?_⟩
      obtain ⟨q14, w⟩ := w
      refine ⟨q14, ?_⟩
      refine mo_n w (fun T5 w => ?_)
      exact hN (v2 + (-1)) T5 w
theorem mo_pl_seatAll_119 (l1 : Int32) {Kk Kk2 : Int32 → St → Prop} {Q Q2 : Int32 × St → Prop} (hK : ∀ (v2 : Int32) (T : St), Kk v2 T → Kk2 v2 T) (hQ : ∀ r, Q r → Q2 r) : ∀ (f : Nat) (v2 : Int32) (T : St), wp_pl_seatAll_119 l1 Kk Q f v2 T → wp_pl_seatAll_119 l1 Kk2 Q2 f v2 T := by
  intro f
  induction f with
  | zero => intro v2 T w; exact w.elim
  | succ f ih => intro v2 T w; exact mb_pl_seatAll_119 l1 hK hQ ih v2 T w
theorem wr_pl_seatAll_119 (l1 : Int32) {Kk : Int32 → St → Prop} {Q : Int32 × St → Prop} (I : Int32 → St → Prop) (m : Int32 → St → Nat) (hv : ∀ (v2 : Int32) (T : St), I v2 T → bd_pl_seatAll_119 l1 Kk Q (fun uv2 uT => I uv2 uT ∧ m uv2 uT < m v2 T) v2 T) : ∀ (f : Nat) (v2 : Int32) (T : St), m v2 T < f → I v2 T → wp_pl_seatAll_119 l1 Kk Q f v2 T := by
  intro f
  induction f with
  | zero => intro v2 T h; exact absurd h (Nat.not_lt_zero _)
  | succ f ih => intro v2 T h hi; exact mb_pl_seatAll_119 l1 (fun _ _ h => h) (fun _ h => h) (fun uv2 uT g => ih uv2 uT (by omega) g.1) v2 T (hv v2 T hi)
theorem so_pl_seatAll_119 (l1 : Int32) {K : Int32 → St → Int32 × St} {Kk Kk2 : Int32 → St → Prop} {Q : Int32 × St → Prop} (hk : ∀ (v2 : Int32) (T : St), Kk v2 T → Kk2 v2 T ∧ Q (K v2 T)) : ∀ (f : Nat) (v2 : Int32) (T : St), wp_pl_seatAll_119 l1 Kk Q f v2 T → ok_pl_seatAll_119 l1 Kk2 f v2 T ∧ Q (x_pl_seatAll_119 l1 K f v2 T) := by
  intro f
  induction f with
  | zero => intro v2 T w; exact w.elim
  | succ f ih =>
    intro v2 T w
    rw [wp_pl_seatAll_119, bd_pl_seatAll_119] at w
    rw [ok_pl_seatAll_119, x_pl_seatAll_119]
    refine so_if2 (Q := Q) w (fun c120_5 w => ?_) (fun c120_5 w => ?_)
    · exact hk v2 T w
    · obtain ⟨q8, w⟩ := w
      refine so_rq q8 ?_
      obtain ⟨q9, w⟩ := w
      refine so_rq q9 ?_
      refine so_n (Q := Q) w (fun r3 w => ?_)
      obtain ⟨q10, w⟩ := w
      refine so_rq q10 ?_
      refine so_ifF (Q := Q) w (fun c145_6 w => ?_) (fun c145_6 w => ?_)
      · exact w
      · obtain ⟨q11, w⟩ := w
        refine so_rq q11 ?_
        refine so_n (Q := Q) w (fun T4 w => ?_)
        obtain ⟨q12, w⟩ := w
        refine so_rq q12 ?_
        obtain ⟨q13, w⟩ := w
        refine so_rq q13 ?_
        obtain ⟨q14, w⟩ := w
        refine so_rq q14 ?_
        refine so_n (Q := Q) w (fun T5 w => ?_)
        exact ih (v2 + (-1)) T5 w
def wp_pl_seatAll (T : St) (p0 : Int32) (Q : Int32 × St → Prop) : Prop := wp_pl_seatAll_7 p0 (fun w1_2 T201 => (vp_in (T201.1 80 12) 5) ∧ (ok_ta_open (sA T201 97 (T201.1 80 12 : Int32).toNatClampNeg 0) (507 + 5 * (0 : Int32).toNatClampNeg) ((sA T201 97 (T201.1 80 12 : Int32).toNatClampNeg 0).2.1 3)) ∧ jn (fun (T2 : St) => wp_pl_seatAll_119 p0 (fun w2_2 T202 => Q (1, T202)) Q 1000 ((T2.1 80 12) - 1) T2) (x_ta_open (sA T201 97 (T201.1 80 12 : Int32).toNatClampNeg 0) (507 + 5 * (0 : Int32).toNatClampNeg) ((sA T201 97 (T201.1 80 12 : Int32).toNatClampNeg 0).2.1 3))) Q 1000 0 (sF T 80 12 0)
theorem so_pl_seatAll {T : St} (p0 : Int32) {Q : Int32 × St → Prop} (w : wp_pl_seatAll T p0 Q) : ok_pl_seatAll T p0 ∧ Q (x_pl_seatAll T p0) := by
  unfold wp_pl_seatAll at w
  unfold ok_pl_seatAll x_pl_seatAll
  refine so_pl_seatAll_7 p0 (fun w1_2 T201 w => ?_) 1000 0 (sF T 80 12 0) w
  obtain ⟨q6, w⟩ := w
  refine so_rq q6 ?_
  obtain ⟨q7, w⟩ := w
  refine so_rq q7 ?_
  refine so_n (Q := Q) w (fun T2 w => ?_)
  refine so_pl_seatAll_119 p0 (fun w2_2 T202 w => ?_) 1000 ((T2.1 80 12) - 1) T2 w
  refine ⟨trivial, ?_⟩
  exact w
def bd_pl_agreeing_31 (l1 : Int32) (l2 : Int32) (l3 : Int32) (l4 : Nat) (Kk : Int32 → Int32 → St → Prop) (Q : Int32 × St → Prop) (N : Int32 → Int32 → St → Prop) (v5 : Int32) (v6 : Int32) (T : St) : Prop := (vp_in l2 8) ∧ ((((T.2.2.1 82 (l2 : Int32).toNatClampNeg) ≤ v6) → Kk v5 v6 T) ∧ (¬ ((T.2.2.1 82 (l2 : Int32).toNatClampNeg) ≤ v6) → (vp_in ((l2 * 12) + v6) 96) ∧ jn (fun (r2 : Nat) => (sh r2 = .inr 10) ∧ ((((T.1 r2 6) = 0) → N v5 (v6 + 1) T) ∧ (¬ ((T.1 r2 6) = 0) → (sh l4 = .inr 10) ∧ (ok_pl_collide T (l4 + 3) (r2 + 3)) ∧ ((((x_pl_collide T (l4 + 3) (r2 + 3)) = 0) → (ok_wa_agrees T l4 (T.2.1 2) r2) ∧ ((((x_wa_agrees T l4 (T.2.1 2) r2) = 0) → N v5 (v6 + 1) T) ∧ (¬ ((x_wa_agrees T l4 (T.2.1 2) r2) = 0) → jn (fun (i3 : Int32) => N i3 (v6 + 1) T) (v5 ||| (1 <<< (v6 &&& 31)))))) ∧ (¬ ((x_pl_collide T (l4 + 3) (r2 + 3)) = 0) → N v5 (v6 + 1) T))))) (123 + 4 * ((l2 * 12) + v6 : Int32).toNatClampNeg)))
def wp_pl_agreeing_31 (l1 : Int32) (l2 : Int32) (l3 : Int32) (l4 : Nat) (Kk : Int32 → Int32 → St → Prop) (Q : Int32 × St → Prop) : Nat → Int32 → Int32 → St → Prop
  | 0, _, _, _ => False
  | f + 1, v5, v6, T => bd_pl_agreeing_31 l1 l2 l3 l4 Kk Q (wp_pl_agreeing_31 l1 l2 l3 l4 Kk Q f) v5 v6 T
theorem mb_pl_agreeing_31 (l1 : Int32) (l2 : Int32) (l3 : Int32) (l4 : Nat) {Kk Kk2 : Int32 → Int32 → St → Prop} {Q Q2 : Int32 × St → Prop} {N N2 : Int32 → Int32 → St → Prop} (hK : ∀ (v5 : Int32) (v6 : Int32) (T : St), Kk v5 v6 T → Kk2 v5 v6 T) (hQ : ∀ r, Q r → Q2 r) (hN : ∀ (v5 : Int32) (v6 : Int32) (T : St), N v5 v6 T → N2 v5 v6 T) (v5 : Int32) (v6 : Int32) (T : St) (w : bd_pl_agreeing_31 l1 l2 l3 l4 Kk Q N v5 v6 T) : bd_pl_agreeing_31 l1 l2 l3 l4 Kk2 Q2 N2 v5 v6 T := by
  unfold bd_pl_agreeing_31 at w ⊢
  obtain ⟨q3, w⟩ := w
  refine ⟨q3, ?_⟩
  refine mo_if w (fun c39_2 w => ?_) (fun c39_2 w => ?_)
  · exact hK v5 v6 T w
  · obtain ⟨q4, w⟩ := w
    refine ⟨q4, ?_⟩
    refine mo_n w (fun r2 w => ?_)
    obtain ⟨q5, w⟩ := w
    refine ⟨q5, ?_⟩
    refine mo_if w (fun c61_3 w => ?_) (fun c61_3 w => ?_)
    · exact hN v5 (v6 + 1) T w
    · obtain ⟨q6, w⟩ := w
      refine ⟨q6, ?_⟩
      obtain ⟨q7, w⟩ := w
      refine ⟨q7, ?_⟩
      refine mo_if w (fun c78_4 w => ?_) (fun c78_4 w => ?_)
      · obtain ⟨q8, w⟩ := w
        refine ⟨q8, ?_⟩
        refine mo_if w (fun c92_5 w => ?_) (fun c92_5 w => ?_)
        · exact hN v5 (v6 + 1) T w
        · refine mo_n w (fun i3 w => ?_)
          exact hN i3 (v6 + 1) T w
      · exact hN v5 (v6 + 1) T w
theorem mo_pl_agreeing_31 (l1 : Int32) (l2 : Int32) (l3 : Int32) (l4 : Nat) {Kk Kk2 : Int32 → Int32 → St → Prop} {Q Q2 : Int32 × St → Prop} (hK : ∀ (v5 : Int32) (v6 : Int32) (T : St), Kk v5 v6 T → Kk2 v5 v6 T) (hQ : ∀ r, Q r → Q2 r) : ∀ (f : Nat) (v5 : Int32) (v6 : Int32) (T : St), wp_pl_agreeing_31 l1 l2 l3 l4 Kk Q f v5 v6 T → wp_pl_agreeing_31 l1 l2 l3 l4 Kk2 Q2 f v5 v6 T := by
  intro f
  induction f with
  | zero => intro v5 v6 T w; exact w.elim
  | succ f ih => intro v5 v6 T w; exact mb_pl_agreeing_31 l1 l2 l3 l4 hK hQ ih v5 v6 T w
theorem wr_pl_agreeing_31 (l1 : Int32) (l2 : Int32) (l3 : Int32) (l4 : Nat) {Kk : Int32 → Int32 → St → Prop} {Q : Int32 × St → Prop} (I : Int32 → Int32 → St → Prop) (m : Int32 → Int32 → St → Nat) (hv : ∀ (v5 : Int32) (v6 : Int32) (T : St), I v5 v6 T → bd_pl_agreeing_31 l1 l2 l3 l4 Kk Q (fun uv5 uv6 uT => I uv5 uv6 uT ∧ m uv5 uv6 uT < m v5 v6 T) v5 v6 T) : ∀ (f : Nat) (v5 : Int32) (v6 : Int32) (T : St), m v5 v6 T < f → I v5 v6 T → wp_pl_agreeing_31 l1 l2 l3 l4 Kk Q f v5 v6 T := by
  intro f
  induction f with
  | zero => intro v5 v6 T h; exact absurd h (Nat.not_lt_zero _)
  | succ f ih => intro v5 v6 T h hi; exact mb_pl_agreeing_31 l1 l2 l3 l4 (fun _ _ _ h => h) (fun _ h => h) (fun uv5 uv6 uT g => ih uv5 uv6 uT (by omega) g.1) v5 v6 T (hv v5 v6 T hi)
theorem so_pl_agreeing_31 (l1 : Int32) (l2 : Int32) (l3 : Int32) (l4 : Nat) {K : Int32 → Int32 → St → Int32 × St} {Kk Kk2 : Int32 → Int32 → St → Prop} {Q : Int32 × St → Prop} (hk : ∀ (v5 : Int32) (v6 : Int32) (T : St), Kk v5 v6 T → Kk2 v5 v6 T ∧ Q (K v5 v6 T)) : ∀ (f : Nat) (v5 : Int32) (v6 : Int32) (T : St), wp_pl_agreeing_31 l1 l2 l3 l4 Kk Q f v5 v6 T → ok_pl_agreeing_31 l1 l2 l3 l4 Kk2 f v5 v6 T ∧ Q (x_pl_agreeing_31 l1 l2 l3 l4 K f v5 v6 T) := by
  intro f
  induction f with
  | zero => intro v5 v6 T w; exact w.elim
  | succ f ih =>
    intro v5 v6 T w
    rw [wp_pl_agreeing_31, bd_pl_agreeing_31] at w
    rw [ok_pl_agreeing_31, x_pl_agreeing_31]
    obtain ⟨q3, w⟩ := w
    refine so_rq q3 ?_
    refine so_if2 (Q := Q) w (fun c39_2 w => ?_) (fun c39_2 w => ?_)
    · exact hk v5 v6 T w
    · obtain ⟨q4, w⟩ := w
      refine so_rq q4 ?_
      refine so_n (Q := Q) w (fun r2 w => ?_)
      obtain ⟨q5, w⟩ := w
      refine so_rq q5 ?_
      refine so_if2 (Q := Q) w (fun c61_3 w => ?_) (fun c61_3 w => ?_)
      · exact ih v5 (v6 + 1) T w
      · obtain ⟨q6, w⟩ := w
        refine so_rq q6 ?_
        obtain ⟨q7, w⟩ := w
        refine so_rq q7 ?_
        refine so_if2 (Q := Q) w (fun c78_4 w => ?_) (fun c78_4 w => ?_)
        · obtain ⟨q8, w⟩ := w
          refine so_rq q8 ?_
          refine so_if2 (Q := Q) w (fun c92_5 w => ?_) (fun c92_5 w => ?_)
          · exact ih v5 (v6 + 1) T w
          · refine so_n (Q := Q) w (fun i3 w => ?_)
            exact ih i3 (v6 + 1) T w
        · exact ih v5 (v6 + 1) T w
def wp_pl_agreeing (T : St) (p0 : Int32) (p1 : Int32) (Q : Int32 × St → Prop) : Prop := (vp_in ((p0 * 8) + p1) 768) ∧ jn (fun (KJ1 : St → Prop) => ((((T.2.2.1 98 ((p0 * 8) + p1 : Int32).toNatClampNeg) = (-1)) → (vp_in p0 96) ∧ jn (fun (r4 : Nat) => wp_pl_agreeing_31 p0 p1 ((p0 * 8) + p1) r4 (fun w2_5 w2_6 T202 => KJ1 (sA T202 98 ((p0 * 8) + p1 : Int32).toNatClampNeg w2_5)) Q 1000 0 0 T) (123 + 4 * (p0 : Int32).toNatClampNeg)) ∧ (¬ ((T.2.2.1 98 ((p0 * 8) + p1 : Int32).toNatClampNeg) = (-1)) → KJ1 T))) (fun (T301 : St) => Q (T301.2.2.1 98 ((p0 * 8) + p1 : Int32).toNatClampNeg, T301))
theorem so_pl_agreeing {T : St} (p0 : Int32) (p1 : Int32) {Q : Int32 × St → Prop} (w : wp_pl_agreeing T p0 p1 Q) : ok_pl_agreeing T p0 p1 ∧ Q (x_pl_agreeing T p0 p1) := by
  unfold wp_pl_agreeing at w
  unfold ok_pl_agreeing x_pl_agreeing
  obtain ⟨q1, w⟩ := w
  refine so_rq q1 ?_
  refine so_jn1 (Q := Q) (J := fun (KJ1 : St → Int32 × St) (WKJ1 : St → Prop) => ∀ (T301 : St), WKJ1 T301 → Q (KJ1 T301)) w (fun T301 w => ?_) (fun KJ1 WKJ1 hJ1 w => ?_)
  · skip
    exact w
  · skip
    refine so_ifT (Q := Q) w (fun c14_6 w => ?_) (fun c14_6 w => ?_)
    · obtain ⟨q9, w⟩ := w
      refine so_rq q9 ?_
      refine so_n (Q := Q) w (fun r4 w => ?_)
      refine so_pl_agreeing_31 p0 p1 ((p0 * 8) + p1) r4 (fun w2_5 w2_6 T202 w => ?_) 1000 0 0 T w
      refine ⟨trivial, ?_⟩
      exact hJ1 (sA T202 98 ((p0 * 8) + p1 : Int32).toNatClampNeg w2_5) w
    · exact hJ1 T w
def wp_rd_stepWord (T : St)  (Q : Int32 → Prop) : Prop := (ok_rd_isWord T 3) ∧ ((((x_rd_isWord T 3) = 0) → (ok_rd_isWord T 4) ∧ ((((x_rd_isWord T 4) = 0) → (ok_rd_isWord T 5) ∧ ((((x_rd_isWord T 5) = 0) → (ok_rd_isWord T 6) ∧ ((((x_rd_isWord T 6) = 0) → (ok_rd_isWord T 7) ∧ ((((x_rd_isWord T 7) = 0) → Q (-1)) ∧ (¬ ((x_rd_isWord T 7) = 0) → Q 4))) ∧ (¬ ((x_rd_isWord T 6) = 0) → Q 3))) ∧ (¬ ((x_rd_isWord T 5) = 0) → Q 2))) ∧ (¬ ((x_rd_isWord T 4) = 0) → Q 1))) ∧ (¬ ((x_rd_isWord T 3) = 0) → Q 0))
theorem so_rd_stepWord {T : St}  {Q : Int32 → Prop} (w : wp_rd_stepWord T  Q) : ok_rd_stepWord T  ∧ Q (x_rd_stepWord T ) := by
  unfold wp_rd_stepWord at w
  unfold ok_rd_stepWord x_rd_stepWord
  obtain ⟨q1, w⟩ := w
  refine so_rq q1 ?_
  refine so_ifT (Q := Q) w (fun c6_1 w => ?_) (fun c6_1 w => ?_)
  · obtain ⟨q2, w⟩ := w
    refine so_rq q2 ?_
    refine so_ifT (Q := Q) w (fun c17_2 w => ?_) (fun c17_2 w => ?_)
    · obtain ⟨q3, w⟩ := w
      refine so_rq q3 ?_
      refine so_ifT (Q := Q) w (fun c28_3 w => ?_) (fun c28_3 w => ?_)
      · obtain ⟨q4, w⟩ := w
        refine so_rq q4 ?_
        refine so_ifT (Q := Q) w (fun c39_4 w => ?_) (fun c39_4 w => ?_)
        · obtain ⟨q5, w⟩ := w
          refine so_rq q5 ?_
          refine ⟨trivial, ?_⟩
          refine so_if0 (Q := Q) w (fun c50_5 w => ?_) (fun c50_5 w => ?_)
          · exact w
          · exact w
        · exact w
      · exact w
    · exact w
  · exact w
def bd_rd_advance_8  (Kk : St → Prop) (Q : St → Prop) (N : St → Prop)  (T : St) : Prop := ((((T.1 13 1) ≤ (T.1 13 3)) → Kk  T) ∧ (¬ ((T.1 13 1) ≤ (T.1 13 3)) → (vp_in (T.1 13 3) 600) ∧ jn (fun (KJ1 : Prop) => ((((T.2.2.1 14 (T.1 13 3 : Int32).toNatClampNeg) = 32) → KJ1) ∧ (¬ ((T.2.2.1 14 (T.1 13 3 : Int32).toNatClampNeg) = 32) → ((((T.2.2.1 14 (T.1 13 3 : Int32).toNatClampNeg) = 10) → KJ1) ∧ (¬ ((T.2.2.1 14 (T.1 13 3 : Int32).toNatClampNeg) = 10) → Kk  T))))) (N  (sF T 13 3 ((T.1 13 3) + 1)))))
def wp_rd_advance_8  (Kk : St → Prop) (Q : St → Prop) : Nat → St → Prop
  | 0, _ => False
  | f + 1, T => bd_rd_advance_8  Kk Q (wp_rd_advance_8  Kk Q f)  T
theorem mb_rd_advance_8  {Kk Kk2 : St → Prop} {Q Q2 : St → Prop} {N N2 : St → Prop} (hK : ∀  (T : St), Kk  T → Kk2  T) (hQ : ∀ r, Q r → Q2 r) (hN : ∀  (T : St), N  T → N2  T)  (T : St) (w : bd_rd_advance_8  Kk Q N  T) : bd_rd_advance_8  Kk2 Q2 N2  T := by
  unfold bd_rd_advance_8 at w ⊢
  refine mo_if w (fun c16_1 w => ?_) (fun c16_1 w => ?_)
  · exact hK  T w
  · obtain ⟨q1, w⟩ := w
    refine ⟨q1, ?_⟩
    refine mo_jn (J := fun (KJ1 : Prop) (WKJ1 : Prop) => KJ1 → WKJ1) w (fun  w => ?_) (fun KJ1 WKJ1 hJ1 w => ?_)
    · skip
      exact hN  (sF T 13 3 ((T.1 13 3) + 1)) w
    · skip
      refine mo_if w (fun c30_4 w => ?_) (fun c30_4 w => ?_)
      · exact hJ1  w
      · refine mo_if w (fun c44_5 w => ?_) (fun c44_5 w => ?_)
        · exact hJ1  w
        · exact hK  T w
theorem mo_rd_advance_8  {Kk Kk2 : St → Prop} {Q Q2 : St → Prop} (hK : ∀  (T : St), Kk  T → Kk2  T) (hQ : ∀ r, Q r → Q2 r) : ∀ (f : Nat)  (T : St), wp_rd_advance_8  Kk Q f  T → wp_rd_advance_8  Kk2 Q2 f  T := by
  intro f
  induction f with
  | zero => intro  T w; exact w.elim
  | succ f ih => intro  T w; exact mb_rd_advance_8  hK hQ ih  T w
theorem wr_rd_advance_8  {Kk : St → Prop} {Q : St → Prop} (I : St → Prop) (m : St → Nat) (hv : ∀  (T : St), I  T → bd_rd_advance_8  Kk Q (fun  uT => I  uT ∧ m  uT < m  T)  T) : ∀ (f : Nat)  (T : St), m  T < f → I  T → wp_rd_advance_8  Kk Q f  T := by
  intro f
  induction f with
  | zero => intro  T h; exact absurd h (Nat.not_lt_zero _)
  | succ f ih => intro  T h hi; exact mb_rd_advance_8  (fun _ h => h) (fun _ h => h) (fun  uT g => ih  uT (by omega) g.1)  T (hv  T hi)
theorem so_rd_advance_8  {K : St → St} {Kk Kk2 : St → Prop} {Q : St → Prop} (hk : ∀  (T : St), Kk  T → Kk2  T ∧ Q (K  T)) : ∀ (f : Nat)  (T : St), wp_rd_advance_8  Kk Q f  T → ok_rd_advance_8  Kk2 f  T ∧ Q (x_rd_advance_8  K f  T) := by
  intro f
  induction f with
  | zero => intro  T w; exact w.elim
  | succ f ih =>
    intro  T w
    rw [wp_rd_advance_8, bd_rd_advance_8] at w
    rw [ok_rd_advance_8, x_rd_advance_8]
    refine so_if2 (Q := Q) w (fun c16_1 w => ?_) (fun c16_1 w => ?_)
    · exact hk  T w
    · obtain ⟨q1, w⟩ := w
      refine so_rq q1 ?_
      refine so_jn (Q := Q) (J := fun (KJ1 : St) (OJ1 : Prop) (WKJ1 : Prop) => WKJ1 → OJ1 ∧ Q (KJ1)) w (fun  w => ?_) (fun KJ1 OJ1 WKJ1 hJ1 w => ?_)
      · skip
        exact ih  (sF T 13 3 ((T.1 13 3) + 1)) w
      · skip
        refine so_if2 (Q := Q) w (fun c30_4 w => ?_) (fun c30_4 w => ?_)
        · exact hJ1  w
        · refine so_if2 (Q := Q) w (fun c44_5 w => ?_) (fun c44_5 w => ?_)
          · exact hJ1  w
          · exact hk  T w
def bd_rd_advance_115  (Kk : St → Prop) (Q : St → Prop) (N : St → Prop)  (T : St) : Prop := ((((T.1 13 1) ≤ (T.1 13 4)) → Kk  T) ∧ (¬ ((T.1 13 1) ≤ (T.1 13 4)) → (vp_in (T.1 13 4) 600) ∧ ((((T.2.2.1 14 (T.1 13 4 : Int32).toNatClampNeg) < 97) → Kk  T) ∧ (¬ ((T.2.2.1 14 (T.1 13 4 : Int32).toNatClampNeg) < 97) → (((122 < (T.2.2.1 14 (T.1 13 4 : Int32).toNatClampNeg)) → Kk  T) ∧ (¬ (122 < (T.2.2.1 14 (T.1 13 4 : Int32).toNatClampNeg)) → N  (sF T 13 4 ((T.1 13 4) + 1))))))))
def wp_rd_advance_115  (Kk : St → Prop) (Q : St → Prop) : Nat → St → Prop
  | 0, _ => False
  | f + 1, T => bd_rd_advance_115  Kk Q (wp_rd_advance_115  Kk Q f)  T
theorem mb_rd_advance_115  {Kk Kk2 : St → Prop} {Q Q2 : St → Prop} {N N2 : St → Prop} (hK : ∀  (T : St), Kk  T → Kk2  T) (hQ : ∀ r, Q r → Q2 r) (hN : ∀  (T : St), N  T → N2  T)  (T : St) (w : bd_rd_advance_115  Kk Q N  T) : bd_rd_advance_115  Kk2 Q2 N2  T := by
  unfold bd_rd_advance_115 at w ⊢
  refine mo_if w (fun c123_9 w => ?_) (fun c123_9 w => ?_)
  · exact hK  T w
  · obtain ⟨q3, w⟩ := w
    refine ⟨q3, ?_⟩
    refine mo_if w (fun c137_10 w => ?_) (fun c137_10 w => ?_)
    · exact hK  T w
    · refine mo_if w (fun c151_11 w => ?_) (fun c151_11 w => ?_)
      · exact hK  T w
      · exact hN  (sF T 13 4 ((T.1 13 4) + 1)) w
theorem mo_rd_advance_115  {Kk Kk2 : St → Prop} {Q Q2 : St → Prop} (hK : ∀  (T : St), Kk  T → Kk2  T) (hQ : ∀ r, Q r → Q2 r) : ∀ (f : Nat)  (T : St), wp_rd_advance_115  Kk Q f  T → wp_rd_advance_115  Kk2 Q2 f  T := by
  intro f
  induction f with
  | zero => intro  T w; exact w.elim
  | succ f ih => intro  T w; exact mb_rd_advance_115  hK hQ ih  T w
theorem wr_rd_advance_115  {Kk : St → Prop} {Q : St → Prop} (I : St → Prop) (m : St → Nat) (hv : ∀  (T : St), I  T → bd_rd_advance_115  Kk Q (fun  uT => I  uT ∧ m  uT < m  T)  T) : ∀ (f : Nat)  (T : St), m  T < f → I  T → wp_rd_advance_115  Kk Q f  T := by
  intro f
  induction f with
  | zero => intro  T h; exact absurd h (Nat.not_lt_zero _)
  | succ f ih => intro  T h hi; exact mb_rd_advance_115  (fun _ h => h) (fun _ h => h) (fun  uT g => ih  uT (by omega) g.1)  T (hv  T hi)
theorem so_rd_advance_115  {K : St → St} {Kk Kk2 : St → Prop} {Q : St → Prop} (hk : ∀  (T : St), Kk  T → Kk2  T ∧ Q (K  T)) : ∀ (f : Nat)  (T : St), wp_rd_advance_115  Kk Q f  T → ok_rd_advance_115  Kk2 f  T ∧ Q (x_rd_advance_115  K f  T) := by
  intro f
  induction f with
  | zero => intro  T w; exact w.elim
  | succ f ih =>
    intro  T w
    rw [wp_rd_advance_115, bd_rd_advance_115] at w
    rw [ok_rd_advance_115, x_rd_advance_115]
    refine so_if2 (Q := Q) w (fun c123_9 w => ?_) (fun c123_9 w => ?_)
    · exact hk  T w
    · obtain ⟨q3, w⟩ := w
      refine so_rq q3 ?_
      refine so_if2 (Q := Q) w (fun c137_10 w => ?_) (fun c137_10 w => ?_)
      · exact hk  T w
      · refine so_if2 (Q := Q) w (fun c151_11 w => ?_) (fun c151_11 w => ?_)
        · exact hk  T w
        · exact ih  (sF T 13 4 ((T.1 13 4) + 1)) w
def wp_rd_advance (T : St)  (Q : St → Prop) : Prop := wp_rd_advance_8  (fun  T201 => (((((sF T201 13 4 (T201.1 13 3)).1 13 3) < ((sF T201 13 4 (T201.1 13 3)).1 13 1)) → (vp_in ((sF T201 13 4 (T201.1 13 3)).1 13 3) 600) ∧ jn (fun (KJ2 : Prop) => (((((sF T201 13 4 (T201.1 13 3)).2.2.1 14 ((sF T201 13 4 (T201.1 13 3)).1 13 3 : Int32).toNatClampNeg) < 97) → KJ2) ∧ (¬ (((sF T201 13 4 (T201.1 13 3)).2.2.1 14 ((sF T201 13 4 (T201.1 13 3)).1 13 3 : Int32).toNatClampNeg) < 97) → (((122 < ((sF T201 13 4 (T201.1 13 3)).2.2.1 14 ((sF T201 13 4 (T201.1 13 3)).1 13 3 : Int32).toNatClampNeg)) → KJ2) ∧ (¬ (122 < ((sF T201 13 4 (T201.1 13 3)).2.2.1 14 ((sF T201 13 4 (T201.1 13 3)).1 13 3 : Int32).toNatClampNeg)) → wp_rd_advance_115  (fun  T203 => Q (sF T203 13 5 1)) Q 1000  (sF T201 13 4 (T201.1 13 3))))))) (jn (fun (KJ3 : Prop) => (((((sF T201 13 4 (T201.1 13 3)).2.2.1 14 ((sF T201 13 4 (T201.1 13 3)).1 13 3 : Int32).toNatClampNeg) < 48) → KJ3) ∧ (¬ (((sF T201 13 4 (T201.1 13 3)).2.2.1 14 ((sF T201 13 4 (T201.1 13 3)).1 13 3 : Int32).toNatClampNeg) < 48) → (((57 < ((sF T201 13 4 (T201.1 13 3)).2.2.1 14 ((sF T201 13 4 (T201.1 13 3)).1 13 3 : Int32).toNatClampNeg)) → KJ3) ∧ (¬ (57 < ((sF T201 13 4 (T201.1 13 3)).2.2.1 14 ((sF T201 13 4 (T201.1 13 3)).1 13 3 : Int32).toNatClampNeg)) → (ok_rd_takeFigures (sF T201 13 4 (T201.1 13 3))) ∧ Q (x_rd_takeFigures (sF T201 13 4 (T201.1 13 3)))))))) (jn (fun (KJ4 : Int32 → Prop) => (((((sF T201 13 4 (T201.1 13 3)).2.2.1 14 ((sF T201 13 4 (T201.1 13 3)).1 13 3 : Int32).toNatClampNeg) = 59) → KJ4 3) ∧ (¬ (((sF T201 13 4 (T201.1 13 3)).2.2.1 14 ((sF T201 13 4 (T201.1 13 3)).1 13 3 : Int32).toNatClampNeg) = 59) → KJ4 4))) (fun (j4_s1 : Int32) => Q (sF (sF (sF T201 13 4 (T201.1 13 3)) 13 5 j4_s1) 13 4 (((sF (sF T201 13 4 (T201.1 13 3)) 13 5 j4_s1).1 13 4) + 1)))))) ∧ (¬ (((sF T201 13 4 (T201.1 13 3)).1 13 3) < ((sF T201 13 4 (T201.1 13 3)).1 13 1)) → Q (sF (sF T201 13 4 (T201.1 13 3)) 13 5 0)))) Q 1000  (sF T 13 3 (T.1 13 4))
theorem so_rd_advance {T : St}  {Q : St → Prop} (w : wp_rd_advance T  Q) : ok_rd_advance T  ∧ Q (x_rd_advance T ) := by
  unfold wp_rd_advance at w
  unfold ok_rd_advance x_rd_advance
  refine so_rd_advance_8  (fun  T201 w => ?_) 1000  (sF T 13 3 (T.1 13 4)) w
  refine so_ifT (Q := Q) w (fun c76_6 w => ?_) (fun c76_6 w => ?_)
  · obtain ⟨q2, w⟩ := w
    refine so_rq q2 ?_
    refine so_jn (Q := Q) (J := fun (KJ2 : St) (OJ2 : Prop) (WKJ2 : Prop) => WKJ2 → OJ2 ∧ Q (KJ2)) w (fun  w => ?_) (fun KJ2 OJ2 WKJ2 hJ2 w => ?_)
    · skip
      refine so_jn1 (Q := Q) (J := fun (KJ3 : St) (WKJ3 : Prop) => WKJ3 → Q (KJ3)) w (fun  w => ?_) (fun KJ3 WKJ3 hJ3 w => ?_)
      · skip
        refine so_jn0 (Q := Q) (J := fun (KJ4 : Int32 → St) (WKJ4 : Int32 → Prop) => ∀ (j4_s1 : Int32), WKJ4 j4_s1 → Q (KJ4 j4_s1)) w (fun j4_s1 w => ?_) (fun KJ4 WKJ4 hJ4 w => ?_)
        · skip
          exact w
        · skip
          refine so_if0 (Q := Q) w (fun c222_15 w => ?_) (fun c222_15 w => ?_)
          · exact hJ4 3 w
          · exact hJ4 4 w
      · skip
        refine so_ifF (Q := Q) w (fun c186_16 w => ?_) (fun c186_16 w => ?_)
        · exact hJ3  w
        · refine so_ifF (Q := Q) w (fun c200_17 w => ?_) (fun c200_17 w => ?_)
          · exact hJ3  w
          · obtain ⟨q5, w⟩ := w
            refine so_rq q5 ?_
            refine ⟨trivial, ?_⟩
            exact w
    · skip
      refine so_if2 (Q := Q) w (fun c98_18 w => ?_) (fun c98_18 w => ?_)
      · exact hJ2  w
      · refine so_if2 (Q := Q) w (fun c112_19 w => ?_) (fun c112_19 w => ?_)
        · exact hJ2  w
        · refine so_rd_advance_115  (fun  T203 w => ?_) 1000  (sF T201 13 4 (T201.1 13 3)) w
          refine ⟨trivial, ?_⟩
          exact w
  · exact w
def bd_ro_fill_12 (l0 : Nat) (l1 : Nat) (Kk : Int32 → St → Prop) (Q : St → Prop) (N : Int32 → St → Prop) (v2 : Int32) (T : St) : Prop := (sh l1 = .inr 1) ∧ ((((T.1 l1 4) ≤ v2) → Kk v2 T) ∧ (¬ ((T.1 l1 4) ≤ v2) → (sh l0 = .inr 7) ∧ (((4 ≤ (T.1 l0 0)) → Kk v2 T) ∧ (¬ (4 ≤ (T.1 l0 0)) → ((((((T.1 l1 17) >>> (v2 &&& 31)) &&& 1) = 0) → N (v2 + 1) T) ∧ (¬ ((((T.1 l1 17) >>> (v2 &&& 31)) &&& 1) = 0) → (ok_ro_fillDish T l0 l1 v2) ∧ (vp_in ((x_ro_fillDish T l0 l1 v2).1 l0 0) 4) ∧ jn (fun (T1 : St) => N (v2 + 1) (sF T1 l0 0 ((T1.1 l0 0) + 1))) (sA (x_ro_fillDish T l0 l1 v2) (l0 + 1) ((x_ro_fillDish T l0 l1 v2).1 l0 0 : Int32).toNatClampNeg v2)))))))
def wp_ro_fill_12 (l0 : Nat) (l1 : Nat) (Kk : Int32 → St → Prop) (Q : St → Prop) : Nat → Int32 → St → Prop
  | 0, _, _ => False
  | f + 1, v2, T => bd_ro_fill_12 l0 l1 Kk Q (wp_ro_fill_12 l0 l1 Kk Q f) v2 T
theorem mb_ro_fill_12 (l0 : Nat) (l1 : Nat) {Kk Kk2 : Int32 → St → Prop} {Q Q2 : St → Prop} {N N2 : Int32 → St → Prop} (hK : ∀ (v2 : Int32) (T : St), Kk v2 T → Kk2 v2 T) (hQ : ∀ r, Q r → Q2 r) (hN : ∀ (v2 : Int32) (T : St), N v2 T → N2 v2 T) (v2 : Int32) (T : St) (w : bd_ro_fill_12 l0 l1 Kk Q N v2 T) : bd_ro_fill_12 l0 l1 Kk2 Q2 N2 v2 T := by
  unfold bd_ro_fill_12 at w ⊢
  obtain ⟨q2, w⟩ := w
  refine ⟨q2, ?_⟩
  refine mo_if w (fun c17_1 w => ?_) (fun c17_1 w => ?_)
  · exact hK v2 T w
  · obtain ⟨q3, w⟩ := w
    refine ⟨q3, ?_⟩
    refine mo_if w (fun c25_2 w => ?_) (fun c25_2 w => ?_)
    · exact hK v2 T w
    · refine mo_if w (fun c36_3 w => ?_) (fun c36_3 w => ?_)
      · exact hN (v2 + 1) T w
      · obtain ⟨q4, w⟩ := w
        refine ⟨q4, ?_⟩
        obtain ⟨q5, w⟩ := w
        refine ⟨q5, ?_⟩
        refine mo_n w (fun T1 w => ?_)
        exact hN (v2 + 1) (sF T1 l0 0 ((T1.1 l0 0) + 1)) w
theorem mo_ro_fill_12 (l0 : Nat) (l1 : Nat) {Kk Kk2 : Int32 → St → Prop} {Q Q2 : St → Prop} (hK : ∀ (v2 : Int32) (T : St), Kk v2 T → Kk2 v2 T) (hQ : ∀ r, Q r → Q2 r) : ∀ (f : Nat) (v2 : Int32) (T : St), wp_ro_fill_12 l0 l1 Kk Q f v2 T → wp_ro_fill_12 l0 l1 Kk2 Q2 f v2 T := by
  intro f
  induction f with
  | zero => intro v2 T w; exact w.elim
  | succ f ih => intro v2 T w; exact mb_ro_fill_12 l0 l1 hK hQ ih v2 T w
theorem wr_ro_fill_12 (l0 : Nat) (l1 : Nat) {Kk : Int32 → St → Prop} {Q : St → Prop} (I : Int32 → St → Prop) (m : Int32 → St → Nat) (hv : ∀ (v2 : Int32) (T : St), I v2 T → bd_ro_fill_12 l0 l1 Kk Q (fun uv2 uT => I uv2 uT ∧ m uv2 uT < m v2 T) v2 T) : ∀ (f : Nat) (v2 : Int32) (T : St), m v2 T < f → I v2 T → wp_ro_fill_12 l0 l1 Kk Q f v2 T := by
  intro f
  induction f with
  | zero => intro v2 T h; exact absurd h (Nat.not_lt_zero _)
  | succ f ih => intro v2 T h hi; exact mb_ro_fill_12 l0 l1 (fun _ _ h => h) (fun _ h => h) (fun uv2 uT g => ih uv2 uT (by omega) g.1) v2 T (hv v2 T hi)
theorem so_ro_fill_12 (l0 : Nat) (l1 : Nat) {K : Int32 → St → St} {Kk Kk2 : Int32 → St → Prop} {Q : St → Prop} (hk : ∀ (v2 : Int32) (T : St), Kk v2 T → Kk2 v2 T ∧ Q (K v2 T)) : ∀ (f : Nat) (v2 : Int32) (T : St), wp_ro_fill_12 l0 l1 Kk Q f v2 T → ok_ro_fill_12 l0 l1 Kk2 f v2 T ∧ Q (x_ro_fill_12 l0 l1 K f v2 T) := by
  intro f
  induction f with
  | zero => intro v2 T w; exact w.elim
  | succ f ih =>
    intro v2 T w
    rw [wp_ro_fill_12, bd_ro_fill_12] at w
    rw [ok_ro_fill_12, x_ro_fill_12]
    obtain ⟨q2, w⟩ := w
    refine so_rq q2 ?_
    refine so_if2 (Q := Q) w (fun c17_1 w => ?_) (fun c17_1 w => ?_)
    · exact hk v2 T w
    · obtain ⟨q3, w⟩ := w
      refine so_rq q3 ?_
      refine so_if2 (Q := Q) w (fun c25_2 w => ?_) (fun c25_2 w => ?_)
      · exact hk v2 T w
      · refine so_if2 (Q := Q) w (fun c36_3 w => ?_) (fun c36_3 w => ?_)
        · exact ih (v2 + 1) T w
        · obtain ⟨q4, w⟩ := w
          refine so_rq q4 ?_
          obtain ⟨q5, w⟩ := w
          refine so_rq q5 ?_
          refine so_n (Q := Q) w (fun T1 w => ?_)
          exact ih (v2 + 1) (sF T1 l0 0 ((T1.1 l0 0) + 1)) w
def wp_ro_fill (T : St) (a : Nat) (p0 : Nat) (Q : St → Prop) : Prop := (sh a = .inr 7) ∧ wp_ro_fill_12 a p0 (fun w1_2 T201 => Q T201) Q 1000 0 (sF (sF T a 0 0) a 1 0)
theorem so_ro_fill {T : St} (a : Nat) (p0 : Nat) {Q : St → Prop} (w : wp_ro_fill T a p0 Q) : ok_ro_fill T a p0 ∧ Q (x_ro_fill T a p0) := by
  unfold wp_ro_fill at w
  unfold ok_ro_fill x_ro_fill
  obtain ⟨q1, w⟩ := w
  refine so_rq q1 ?_
  refine so_ro_fill_12 a p0 (fun w1_2 T201 w => ?_) 1000 0 (sF (sF T a 0 0) a 1 0) w
  refine ⟨trivial, ?_⟩
  exact w
def bd_wa_lay_33 (l0 : Nat) (l1 : Nat) (l2 : Int32) (l3 : Int32) (Kk : Int32 → St → Prop) (Q : St → Prop) (N : Int32 → St → Prop) (v4 : Int32) (T : St) : Prop := (((l3 < v4) → Kk v4 T) ∧ (¬ (l3 < v4) → (sh l0 = .inr 10) ∧ (vp_in v4 3) ∧ jn (fun (k3 : Int64) => (sh l1 = .inr 1) ∧ (vp_in (l2 + v4) 24) ∧ jn (fun (i4 : Int32) => jn (fun (i5 : Int32) => jn (fun (KJ1 : St → Prop) => (((i4 = 0) → jn (fun (T14 : St) => KJ1 T14) (sL T (l0 + 3) (0 : Int32).toNatClampNeg ((T.2.2.2 (l0 + 3) (0 : Int32).toNatClampNeg) ||| k3))) ∧ (¬ (i4 = 0) → KJ1 T))) (fun (T301 : St) => jn (fun (KJ2 : St → Prop) => (((i4 = 0) → ((((T301.2.2.1 (l1 + 13) (l2 + v4 : Int32).toNatClampNeg) = 1) → jn (fun (T13 : St) => KJ2 T13) (sL T301 (l0 + 3) (1 : Int32).toNatClampNeg ((T301.2.2.2 (l0 + 3) (1 : Int32).toNatClampNeg) ||| k3))) ∧ (¬ ((T301.2.2.1 (l1 + 13) (l2 + v4 : Int32).toNatClampNeg) = 1) → KJ2 T301))) ∧ (¬ (i4 = 0) → KJ2 T301))) (fun (T302 : St) => jn (fun (KJ3 : St → Prop) => (((i4 = 1) → jn (fun (T12 : St) => KJ3 T12) (sL T302 (l0 + 3) (2 : Int32).toNatClampNeg ((T302.2.2.2 (l0 + 3) (2 : Int32).toNatClampNeg) ||| k3))) ∧ (¬ (i4 = 1) → KJ3 T302))) (fun (T303 : St) => jn (fun (KJ4 : St → Prop) => (((i5 = 1) → jn (fun (T11 : St) => KJ4 T11) (sL T303 (l0 + 3) (3 : Int32).toNatClampNeg ((T303.2.2.2 (l0 + 3) (3 : Int32).toNatClampNeg) ||| (x_x_span T303 (T303.2.2.1 (l0 + 1) (v4 : Int32).toNatClampNeg) 1)))) ∧ (¬ (i5 = 1) → KJ4 T303))) (fun (T304 : St) => (((i5 = 2) → jn (fun (T10 : St) => N (v4 + 1) T10) (sL T304 (l0 + 3) (3 : Int32).toNatClampNeg ((T304.2.2.2 (l0 + 3) (3 : Int32).toNatClampNeg) ||| k3))) ∧ (¬ (i5 = 2) → N (v4 + 1) T304))))))) (T.2.2.1 (l1 + 12) (l2 + v4 : Int32).toNatClampNeg)) (T.2.2.1 (l1 + 9) (l2 + v4 : Int32).toNatClampNeg)) (x_x_span T (T.2.2.1 (l0 + 1) (v4 : Int32).toNatClampNeg) (T.2.2.1 (l0 + 2) (v4 : Int32).toNatClampNeg))))
def wp_wa_lay_33 (l0 : Nat) (l1 : Nat) (l2 : Int32) (l3 : Int32) (Kk : Int32 → St → Prop) (Q : St → Prop) : Nat → Int32 → St → Prop
  | 0, _, _ => False
  | f + 1, v4, T => bd_wa_lay_33 l0 l1 l2 l3 Kk Q (wp_wa_lay_33 l0 l1 l2 l3 Kk Q f) v4 T
theorem mb_wa_lay_33 (l0 : Nat) (l1 : Nat) (l2 : Int32) (l3 : Int32) {Kk Kk2 : Int32 → St → Prop} {Q Q2 : St → Prop} {N N2 : Int32 → St → Prop} (hK : ∀ (v4 : Int32) (T : St), Kk v4 T → Kk2 v4 T) (hQ : ∀ r, Q r → Q2 r) (hN : ∀ (v4 : Int32) (T : St), N v4 T → N2 v4 T) (v4 : Int32) (T : St) (w : bd_wa_lay_33 l0 l1 l2 l3 Kk Q N v4 T) : bd_wa_lay_33 l0 l1 l2 l3 Kk2 Q2 N2 v4 T := by
  unfold bd_wa_lay_33 at w ⊢
  refine mo_if w (fun c36_1 w => ?_) (fun c36_1 w => ?_)
  · exact hK v4 T w
  · obtain ⟨q5, w⟩ := w
    refine ⟨q5, ?_⟩
    obtain ⟨q6, w⟩ := w
    refine ⟨q6, ?_⟩
    refine mo_n w (fun k3 w => ?_)
    obtain ⟨q7, w⟩ := w
    refine ⟨q7, ?_⟩
    obtain ⟨q8, w⟩ := w
    refine ⟨q8, ?_⟩
    refine mo_n w (fun i4 w => ?_)
    refine mo_n w (fun i5 w => ?_)
    refine mo_jn (J := fun (KJ1 : St → Prop) (WKJ1 : St → Prop) => ∀ (T301 : St), KJ1 T301 → WKJ1 T301) w (fun T301 w => ?_) (fun KJ1 WKJ1 hJ1 w => ?_)
    · skip
      refine mo_jn (J := fun (KJ2 : St → Prop) (WKJ2 : St → Prop) => ∀ (T302 : St), KJ2 T302 → WKJ2 T302) w (fun T302 w => ?_) (fun KJ2 WKJ2 hJ2 w => ?_)
      · skip
        refine mo_jn (J := fun (KJ3 : St → Prop) (WKJ3 : St → Prop) => ∀ (T303 : St), KJ3 T303 → WKJ3 T303) w (fun T303 w => ?_) (fun KJ3 WKJ3 hJ3 w => ?_)
        · skip
          refine mo_jn (J := fun (KJ4 : St → Prop) (WKJ4 : St → Prop) => ∀ (T304 : St), KJ4 T304 → WKJ4 T304) w (fun T304 w => ?_) (fun KJ4 WKJ4 hJ4 w => ?_)
          · skip
            refine mo_if w (fun c171_7 w => ?_) (fun c171_7 w => ?_)
            · refine mo_n w (fun T10 w => ?_)
              exact hN (v4 + 1) T10 w
            · exact hN (v4 + 1) T304 w
          · skip
            refine mo_if w (fun c145_8 w => ?_) (fun c145_8 w => ?_)
            · refine mo_n w (fun T11 w => ?_)
              exact hJ4 T11 w
            · exact hJ4 T303 w
        · skip
          refine mo_if w (fun c128_9 w => ?_) (fun c128_9 w => ?_)
          · refine mo_n w (fun T12 w => ?_)
            exact hJ3 T12 w
          · exact hJ3 T302 w
      · skip
        refine mo_if w (fun c98_10 w => ?_) (fun c98_10 w => ?_)
        · refine mo_if w (fun c111_11 w => ?_) (fun c111_11 w => ?_)
          · refine mo_n w (fun T13 w => ?_)
            exact hJ2 T13 w
          · exact hJ2 T301 w
        · exact hJ2 T301 w
    · skip
      refine mo_if w (fun c82_12 w => ?_) (fun c82_12 w => ?_)
      · refine mo_n w (fun T14 w => ?_)
        exact hJ1 T14 w
      · exact hJ1 T w
theorem mo_wa_lay_33 (l0 : Nat) (l1 : Nat) (l2 : Int32) (l3 : Int32) {Kk Kk2 : Int32 → St → Prop} {Q Q2 : St → Prop} (hK : ∀ (v4 : Int32) (T : St), Kk v4 T → Kk2 v4 T) (hQ : ∀ r, Q r → Q2 r) : ∀ (f : Nat) (v4 : Int32) (T : St), wp_wa_lay_33 l0 l1 l2 l3 Kk Q f v4 T → wp_wa_lay_33 l0 l1 l2 l3 Kk2 Q2 f v4 T := by
  intro f
  induction f with
  | zero => intro v4 T w; exact w.elim
  | succ f ih => intro v4 T w; exact mb_wa_lay_33 l0 l1 l2 l3 hK hQ ih v4 T w
theorem wr_wa_lay_33 (l0 : Nat) (l1 : Nat) (l2 : Int32) (l3 : Int32) {Kk : Int32 → St → Prop} {Q : St → Prop} (I : Int32 → St → Prop) (m : Int32 → St → Nat) (hv : ∀ (v4 : Int32) (T : St), I v4 T → bd_wa_lay_33 l0 l1 l2 l3 Kk Q (fun uv4 uT => I uv4 uT ∧ m uv4 uT < m v4 T) v4 T) : ∀ (f : Nat) (v4 : Int32) (T : St), m v4 T < f → I v4 T → wp_wa_lay_33 l0 l1 l2 l3 Kk Q f v4 T := by
  intro f
  induction f with
  | zero => intro v4 T h; exact absurd h (Nat.not_lt_zero _)
  | succ f ih => intro v4 T h hi; exact mb_wa_lay_33 l0 l1 l2 l3 (fun _ _ h => h) (fun _ h => h) (fun uv4 uT g => ih uv4 uT (by omega) g.1) v4 T (hv v4 T hi)
theorem so_wa_lay_33 (l0 : Nat) (l1 : Nat) (l2 : Int32) (l3 : Int32) {K : Int32 → St → St} {Kk Kk2 : Int32 → St → Prop} {Q : St → Prop} (hk : ∀ (v4 : Int32) (T : St), Kk v4 T → Kk2 v4 T ∧ Q (K v4 T)) : ∀ (f : Nat) (v4 : Int32) (T : St), wp_wa_lay_33 l0 l1 l2 l3 Kk Q f v4 T → ok_wa_lay_33 l0 l1 l2 l3 Kk2 f v4 T ∧ Q (x_wa_lay_33 l0 l1 l2 l3 K f v4 T) := by
  intro f
  induction f with
  | zero => intro v4 T w; exact w.elim
  | succ f ih =>
    intro v4 T w
    rw [wp_wa_lay_33, bd_wa_lay_33] at w
    rw [ok_wa_lay_33, x_wa_lay_33]
    refine so_if2 (Q := Q) w (fun c36_1 w => ?_) (fun c36_1 w => ?_)
    · exact hk v4 T w
    · obtain ⟨q5, w⟩ := w
      refine so_rq q5 ?_
      obtain ⟨q6, w⟩ := w
      refine so_rq q6 ?_
      refine so_n (Q := Q) w (fun k3 w => ?_)
      obtain ⟨q7, w⟩ := w
      refine so_rq q7 ?_
      obtain ⟨q8, w⟩ := w
      refine so_rq q8 ?_
      refine so_n (Q := Q) w (fun i4 w => ?_)
      refine so_n (Q := Q) w (fun i5 w => ?_)
      refine so_jn (Q := Q) (J := fun (KJ1 : St → St) (OJ1 : St → Prop) (WKJ1 : St → Prop) => ∀ (T301 : St), WKJ1 T301 → OJ1 T301 ∧ Q (KJ1 T301)) w (fun T301 w => ?_) (fun KJ1 OJ1 WKJ1 hJ1 w => ?_)
      · skip
        refine so_jn (Q := Q) (J := fun (KJ2 : St → St) (OJ2 : St → Prop) (WKJ2 : St → Prop) => ∀ (T302 : St), WKJ2 T302 → OJ2 T302 ∧ Q (KJ2 T302)) w (fun T302 w => ?_) (fun KJ2 OJ2 WKJ2 hJ2 w => ?_)
        · skip
          refine so_jn (Q := Q) (J := fun (KJ3 : St → St) (OJ3 : St → Prop) (WKJ3 : St → Prop) => ∀ (T303 : St), WKJ3 T303 → OJ3 T303 ∧ Q (KJ3 T303)) w (fun T303 w => ?_) (fun KJ3 OJ3 WKJ3 hJ3 w => ?_)
          · skip
            refine so_jn (Q := Q) (J := fun (KJ4 : St → St) (OJ4 : St → Prop) (WKJ4 : St → Prop) => ∀ (T304 : St), WKJ4 T304 → OJ4 T304 ∧ Q (KJ4 T304)) w (fun T304 w => ?_) (fun KJ4 OJ4 WKJ4 hJ4 w => ?_)
            · skip
              refine so_if2 (Q := Q) w (fun c171_7 w => ?_) (fun c171_7 w => ?_)
              · refine so_n (Q := Q) w (fun T10 w => ?_)
                exact ih (v4 + 1) T10 w
              · exact ih (v4 + 1) T304 w
            · skip
              refine so_if2 (Q := Q) w (fun c145_8 w => ?_) (fun c145_8 w => ?_)
              · refine so_n (Q := Q) w (fun T11 w => ?_)
                exact hJ4 T11 w
              · exact hJ4 T303 w
          · skip
            refine so_if2 (Q := Q) w (fun c128_9 w => ?_) (fun c128_9 w => ?_)
            · refine so_n (Q := Q) w (fun T12 w => ?_)
              exact hJ3 T12 w
            · exact hJ3 T302 w
        · skip
          refine so_if2 (Q := Q) w (fun c98_10 w => ?_) (fun c98_10 w => ?_)
          · refine so_if2 (Q := Q) w (fun c111_11 w => ?_) (fun c111_11 w => ?_)
            · refine so_n (Q := Q) w (fun T13 w => ?_)
              exact hJ2 T13 w
            · exact hJ2 T301 w
          · exact hJ2 T301 w
      · skip
        refine so_if2 (Q := Q) w (fun c82_12 w => ?_) (fun c82_12 w => ?_)
        · refine so_n (Q := Q) w (fun T14 w => ?_)
          exact hJ1 T14 w
        · exact hJ1 T w
def wp_wa_lay (T : St) (a : Nat) (p0 : Nat) (Q : St → Prop) : Prop := (sh a = .inr 10) ∧ (ok_fillJ T (a + 3) 0) ∧ (sh p0 = .inr 1) ∧ (vp_in ((x_fillJ T (a + 3) 0).1 a 3) 8) ∧ jn (fun (i1 : Int32) => jn (fun (i2 : Int32) => wp_wa_lay_33 a p0 i1 i2 (fun w1_4 T201 => (vp_in (T201.1 a 3) 8) ∧ ((((T201.2.2.1 (p0 + 6) (T201.1 a 3 : Int32).toNatClampNeg) = 1) → (vp_in i2 3) ∧ Q (sL T201 (a + 3) (4 : Int32).toNatClampNeg (x_x_span T201 (T201.2.2.1 (a + 1) (0 : Int32).toNatClampNeg) (((T201.2.2.1 (a + 1) (i2 : Int32).toNatClampNeg) + (T201.2.2.1 (a + 2) (i2 : Int32).toNatClampNeg)) - (T201.2.2.1 (a + 1) (0 : Int32).toNatClampNeg))))) ∧ (¬ ((T201.2.2.1 (p0 + 6) (T201.1 a 3 : Int32).toNatClampNeg) = 1) → Q T201))) Q 1000 0 (x_fillJ T (a + 3) 0)) (((x_fillJ T (a + 3) 0).2.2.1 (p0 + 7) ((x_fillJ T (a + 3) 0).1 a 3 : Int32).toNatClampNeg) - 1)) ((x_fillJ T (a + 3) 0).2.2.1 (p0 + 8) ((x_fillJ T (a + 3) 0).1 a 3 : Int32).toNatClampNeg)
theorem so_wa_lay {T : St} (a : Nat) (p0 : Nat) {Q : St → Prop} (w : wp_wa_lay T a p0 Q) : ok_wa_lay T a p0 ∧ Q (x_wa_lay T a p0) := by
  unfold wp_wa_lay at w
  unfold ok_wa_lay x_wa_lay
  obtain ⟨q1, w⟩ := w
  refine so_rq q1 ?_
  obtain ⟨q2, w⟩ := w
  refine so_rq q2 ?_
  obtain ⟨q3, w⟩ := w
  refine so_rq q3 ?_
  obtain ⟨q4, w⟩ := w
  refine so_rq q4 ?_
  refine so_n (Q := Q) w (fun i1 w => ?_)
  refine so_n (Q := Q) w (fun i2 w => ?_)
  refine so_wa_lay_33 a p0 i1 i2 (fun w1_4 T201 w => ?_) 1000 0 (x_fillJ T (a + 3) 0) w
  obtain ⟨q9, w⟩ := w
  refine so_rq q9 ?_
  refine so_ifT (Q := Q) w (fun c201_13 w => ?_) (fun c201_13 w => ?_)
  · obtain ⟨q10, w⟩ := w
    refine so_rq q10 ?_
    refine ⟨trivial, ?_⟩
    exact w
  · exact w
def wp_x_sheet (T : St) (p0 : Int32) (p1 : Int32) (p2 : Int32) (Q : Int32 × St → Prop) : Prop := ((((x_sh_isOne T p0) = 0) → Q ((-1000001), T)) ∧ (¬ ((x_sh_isOne T p0) = 0) → (((p1 < 0) → Q ((-1000001), T)) ∧ (¬ (p1 < 0) → (((3 ≤ p1) → Q ((-1000001), T)) ∧ (¬ (3 ≤ p1) → (((p2 ≤ 40) → (((0 ≤ p2) → (ok_sh_lay T p0 p1 p2) ∧ Q ((x_x_fine (x_sh_lay T p0 p1 p2) p2).1, (x_x_fine (x_sh_lay T p0 p1 p2) p2).2)) ∧ (¬ (0 ≤ p2) → Q ((x_x_found T 4).1, (x_x_found T 4).2)))) ∧ (¬ (p2 ≤ 40) → Q ((-1000001), T)))))))))
theorem so_x_sheet {T : St} (p0 : Int32) (p1 : Int32) (p2 : Int32) {Q : Int32 × St → Prop} (w : wp_x_sheet T p0 p1 p2 Q) : ok_x_sheet T p0 p1 p2 ∧ Q (x_x_sheet T p0 p1 p2) := by
  unfold wp_x_sheet at w
  unfold ok_x_sheet x_x_sheet
  refine so_ifF (Q := Q) w (fun c8_1 w => ?_) (fun c8_1 w => ?_)
  · exact w
  · refine so_ifF (Q := Q) w (fun c12_2 w => ?_) (fun c12_2 w => ?_)
    · exact w
    · refine so_ifF (Q := Q) w (fun c17_3 w => ?_) (fun c17_3 w => ?_)
      · exact w
      · refine so_ifT (Q := Q) w (fun c23_4 w => ?_) (fun c23_4 w => ?_)
        · refine so_ifT (Q := Q) w (fun c30_5 w => ?_) (fun c30_5 w => ?_)
          · obtain ⟨q1, w⟩ := w
            refine so_rq q1 ?_
            refine ⟨trivial, ?_⟩
            exact w
          · exact w
        · exact w
def wp_x_set (T : St) (p0 : Int32) (p1 : Int32) (p2 : Int32) (Q : Int32 × St → Prop) : Prop := ((((x_sh_isOne T p0) = 0) → Q ((-1000001), T)) ∧ (¬ ((x_sh_isOne T p0) = 0) → (ok_sh_isMissing T p0) ∧ ((((x_sh_isMissing T p0) = 0) → (ok_sh_reaches T p0 p1 1) ∧ ((((x_sh_reaches T p0 p1 1) = 0) → Q ((x_x_found T 2).1, (x_x_found T 2).2)) ∧ (¬ ((x_sh_reaches T p0 p1 1) = 0) → (ok_sh_write T p0 p1 p2) ∧ Q ((x_x_fine ((x_sh_write T p0 p1 p2).2) ((x_sh_write T p0 p1 p2).1)).1, (x_x_fine ((x_sh_write T p0 p1 p2).2) ((x_sh_write T p0 p1 p2).1)).2)))) ∧ (¬ ((x_sh_isMissing T p0) = 0) → Q ((x_x_found T 1).1, (x_x_found T 1).2)))))
theorem so_x_set {T : St} (p0 : Int32) (p1 : Int32) (p2 : Int32) {Q : Int32 × St → Prop} (w : wp_x_set T p0 p1 p2 Q) : ok_x_set T p0 p1 p2 ∧ Q (x_x_set T p0 p1 p2) := by
  unfold wp_x_set at w
  unfold ok_x_set x_x_set
  refine so_ifF (Q := Q) w (fun c8_1 w => ?_) (fun c8_1 w => ?_)
  · exact w
  · obtain ⟨q1, w⟩ := w
    refine so_rq q1 ?_
    refine so_ifT (Q := Q) w (fun c22_2 w => ?_) (fun c22_2 w => ?_)
    · obtain ⟨q2, w⟩ := w
      refine so_rq q2 ?_
      refine so_ifF (Q := Q) w (fun c41_3 w => ?_) (fun c41_3 w => ?_)
      · exact w
      · obtain ⟨q3, w⟩ := w
        refine so_rq q3 ?_
        refine ⟨trivial, ?_⟩
        exact w
    · exact w
