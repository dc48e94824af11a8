def wp_x_copy (T : St) (p0 : Int32) (p1 : Int32) (p2 : Int32) (p3 : Int32) (p4 : Int32) (Q : Int32 × St → Prop) : Prop := ((((x_sh_isOne T p0) = 0) → Q ((-1000001), T)) ∧ (¬ ((x_sh_isOne T p0) = 0) → ((((x_sh_isOne T p2) = 0) → Q ((-1000001), T)) ∧ (¬ ((x_sh_isOne T p2) = 0) → (ok_sh_isMissing T p0) ∧ ((((x_sh_isMissing T p0) = 0) → (ok_sh_isMissing T p2) ∧ ((((x_sh_isMissing T p2) = 0) → (vp_in p0 8) ∧ (vp_in p2 8) ∧ ((((T.2.2.1 2 (p0 : Int32).toNatClampNeg) = (T.2.2.1 2 (p2 : Int32).toNatClampNeg)) → (ok_sh_reaches T p0 p1 p4) ∧ ((((x_sh_reaches T p0 p1 p4) = 0) → Q ((x_x_found T 2).1, (x_x_found T 2).2)) ∧ (¬ ((x_sh_reaches T p0 p1 p4) = 0) → (ok_sh_reaches T p2 p3 p4) ∧ ((((x_sh_reaches T p2 p3 p4) = 0) → Q ((x_x_found T 2).1, (x_x_found T 2).2)) ∧ (¬ ((x_sh_reaches T p2 p3 p4) = 0) → (cpok p1 p3 p4 40 40) ∧ jn (fun (T1 : St) => Q ((x_x_fine T1 p4).1, (x_x_fine T1 p4).2)) (sAr T (5 + (p2 : Int32).toNatClampNeg) (va_cpy (T.2.2.1 (5 + (p0 : Int32).toNatClampNeg)) (T.2.2.1 (5 + (p2 : Int32).toNatClampNeg)) (p1 : Int32).toNatClampNeg (p3 : Int32).toNatClampNeg (p4 : Int32).toNatClampNeg))))))) ∧ (¬ ((T.2.2.1 2 (p0 : Int32).toNatClampNeg) = (T.2.2.1 2 (p2 : Int32).toNatClampNeg)) → Q ((x_x_found T 5).1, (x_x_found T 5).2)))) ∧ (¬ ((x_sh_isMissing T p2) = 0) → Q ((x_x_found T 1).1, (x_x_found T 1).2)))) ∧ (¬ ((x_sh_isMissing T p0) = 0) → Q ((x_x_found T 1).1, (x_x_found T 1).2)))))))
theorem so_x_copy {T : St} (p0 : Int32) (p1 : Int32) (p2 : Int32) (p3 : Int32) (p4 : Int32) {Q : Int32 × St → Prop} (w : wp_x_copy T p0 p1 p2 p3 p4 Q) : ok_x_copy T p0 p1 p2 p3 p4 ∧ Q (x_x_copy T p0 p1 p2 p3 p4) := by
  unfold wp_x_copy at w
  unfold ok_x_copy x_x_copy
  refine so_ifF (Q := Q) w (fun c8_1 w => ?_) (fun c8_1 w => ?_)
  · exact w
  · refine so_ifF (Q := Q) w (fun c19_2 w => ?_) (fun c19_2 w => ?_)
    · exact w
    · obtain ⟨q1, w⟩ := w
      refine so_rq q1 ?_
      refine so_ifT (Q := Q) w (fun c33_3 w => ?_) (fun c33_3 w => ?_)
      · obtain ⟨q2, w⟩ := w
        refine so_rq q2 ?_
        refine so_ifT (Q := Q) w (fun c44_4 w => ?_) (fun c44_4 w => ?_)
        · obtain ⟨q3, w⟩ := w
          refine so_rq q3 ?_
          obtain ⟨q4, w⟩ := w
          refine so_rq q4 ?_
          refine so_ifT (Q := Q) w (fun c71_5 w => ?_) (fun c71_5 w => ?_)
          · obtain ⟨q5, w⟩ := w
            refine so_rq q5 ?_
            refine so_ifF (Q := Q) w (fun c91_6 w => ?_) (fun c91_6 w => ?_)
            · exact w
            · obtain ⟨q6, w⟩ := w
              refine so_rq q6 ?_
              refine so_ifF (Q := Q) w (fun c106_7 w => ?_) (fun c106_7 w => ?_)
              · exact w
              · obtain ⟨q7, w⟩ := w
                refine so_rq q7 ?_
                refine ⟨trivial, ?_⟩
                refine so_n0 (Q := Q) w (fun T1 w => ?_)
                exact w
          · exact w
        · exact w
      · exact w
def wp_x_drop (T : St) (p0 : Int32) (Q : Int32 × St → Prop) : Prop := ((((x_sh_isOne T p0) = 0) → Q ((-1000001), T)) ∧ (¬ ((x_sh_isOne T p0) = 0) → (ok_sh_isMissing T p0) ∧ ((((x_sh_isMissing T p0) = 0) → (ok_sh_lose T p0) ∧ Q ((x_x_fine ((x_sh_lose T p0).2) ((x_sh_lose T p0).1)).1, (x_x_fine ((x_sh_lose T p0).2) ((x_sh_lose T p0).1)).2)) ∧ (¬ ((x_sh_isMissing T p0) = 0) → Q ((x_x_found T 1).1, (x_x_found T 1).2)))))
theorem so_x_drop {T : St} (p0 : Int32) {Q : Int32 × St → Prop} (w : wp_x_drop T p0 Q) : ok_x_drop T p0 ∧ Q (x_x_drop T p0) := by
  unfold wp_x_drop at w
  unfold ok_x_drop x_x_drop
  refine so_ifF (Q := Q) w (fun c8_1 w => ?_) (fun c8_1 w => ?_)
  · exact w
  · obtain ⟨q1, w⟩ := w
    refine so_rq q1 ?_
    refine so_ifT (Q := Q) w (fun c22_2 w => ?_) (fun c22_2 w => ?_)
    · obtain ⟨q2, w⟩ := w
      refine so_rq q2 ?_
      refine ⟨trivial, ?_⟩
      exact w
    · exact w
def wp_x_gives (T : St) (p0 : Int32) (p1 : Int32) (Q : Int32 → Prop) : Prop := (ok_bk_isRead T (T.2.1 0)) ∧ (sh (T.2.1 0) = .inr 1) ∧ ((((x_bk_isRead T (T.2.1 0)) = 0) → Q (-1000002)) ∧ (¬ ((x_bk_isRead T (T.2.1 0)) = 0) → ((((x_x_isMinute T p0) = 0) → Q (-1000001)) ∧ (¬ ((x_x_isMinute T p0) = 0) → (((p1 < 0) → Q (-1000001)) ∧ (¬ (p1 < 0) → (((p1 < 5) → (ok_bk_given T (T.2.1 0) p0 p1) ∧ Q (x_bk_given T (T.2.1 0) p0 p1)) ∧ (¬ (p1 < 5) → Q (-1000001)))))))))
theorem so_x_gives {T : St} (p0 : Int32) (p1 : Int32) {Q : Int32 → Prop} (w : wp_x_gives T p0 p1 Q) : ok_x_gives T p0 p1 ∧ Q (x_x_gives T p0 p1) := by
  unfold wp_x_gives at w
  unfold ok_x_gives x_x_gives
  obtain ⟨q1, w⟩ := w
  refine so_rq q1 ?_
  obtain ⟨q2, w⟩ := w
  refine so_rq q2 ?_
  refine so_ifF (Q := Q) w (fun c7_1 w => ?_) (fun c7_1 w => ?_)
  · exact w
  · refine so_ifF (Q := Q) w (fun c17_2 w => ?_) (fun c17_2 w => ?_)
    · exact w
    · refine so_ifF (Q := Q) w (fun c21_3 w => ?_) (fun c21_3 w => ?_)
      · exact w
      · refine so_ifT (Q := Q) w (fun c26_4 w => ?_) (fun c26_4 w => ?_)
        · obtain ⟨q3, w⟩ := w
          refine so_rq q3 ?_
          refine ⟨trivial, ?_⟩
          exact w
        · exact w
def wp_x_image (T : St) (p0 : Int32) (Q : Int32 × St → Prop) : Prop := jn (fun (KJ1 : Prop) => (((p0 < 0) → KJ1) ∧ (¬ (p0 < 0) → (((2 ≤ p0) → KJ1) ∧ (¬ (2 ≤ p0) → (ok_x_refusal T 1) ∧ ((((x_x_refusal T 1) = 0) → (vp_in p0 2) ∧ (ok_bk_take T (16 + 15 * (p0 : Int32).toNatClampNeg) (T.2.1 0)) ∧ Q (1, x_bk_take T (16 + 15 * (p0 : Int32).toNatClampNeg) (T.2.1 0))) ∧ (¬ ((x_x_refusal T 1) = 0) → Q (x_x_refusal T 1, T)))))))) ((ok_x_refusal T 0) ∧ ((((x_x_refusal T 0) = 0) → (vp_in p0 2) ∧ (ok_bk_take T (16 + 15 * (p0 : Int32).toNatClampNeg) (T.2.1 0)) ∧ Q (1, x_bk_take T (16 + 15 * (p0 : Int32).toNatClampNeg) (T.2.1 0))) ∧ (¬ ((x_x_refusal T 0) = 0) → Q (x_x_refusal T 0, T))))
theorem so_x_image {T : St} (p0 : Int32) {Q : Int32 × St → Prop} (w : wp_x_image T p0 Q) : ok_x_image T p0 ∧ Q (x_x_image T p0) := by
  unfold wp_x_image at w
  unfold ok_x_image x_x_image
  refine so_jn (Q := Q) (J := fun (KJ1 : Int32 × St) (OJ1 : Prop) (WKJ1 : Prop) => WKJ1 → OJ1 ∧ Q (KJ1)) w (fun  w => ?_) (fun KJ1 OJ1 WKJ1 hJ1 w => ?_)
  · skip
    obtain ⟨q4, w⟩ := w
    refine so_rq q4 ?_
    refine so_ifT (Q := Q) w (fun c20_4 w => ?_) (fun c20_4 w => ?_)
    · obtain ⟨q5, w⟩ := w
      refine so_rq q5 ?_
      obtain ⟨q6, w⟩ := w
      refine so_rq q6 ?_
      refine ⟨trivial, ?_⟩
      exact w
    · exact w
  · skip
    refine so_if2 (Q := Q) w (fun c2_5 w => ?_) (fun c2_5 w => ?_)
    · exact hJ1  w
    · refine so_if2 (Q := Q) w (fun c7_6 w => ?_) (fun c7_6 w => ?_)
      · exact hJ1  w
      · obtain ⟨q7, w⟩ := w
        refine so_rq q7 ?_
        refine so_ifT (Q := Q) w (fun c20_7 w => ?_) (fun c20_7 w => ?_)
        · obtain ⟨q8, w⟩ := w
          refine so_rq q8 ?_
          obtain ⟨q9, w⟩ := w
          refine so_rq q9 ?_
          refine ⟨trivial, ?_⟩
          exact w
        · exact w
def wp_x_as (T : St) (p0 : Int32) (p1 : Int32) (Q : Int32 × St → Prop) : Prop := (ok_bk_hasStep T (T.2.1 0) p0) ∧ (sh (T.2.1 0) = .inr 1) ∧ ((((x_bk_hasStep T (T.2.1 0) p0) = 0) → Q ((-1000001), T)) ∧ (¬ ((x_bk_hasStep T (T.2.1 0) p0) = 0) → (((p1 < 0) → Q ((-1000001), T)) ∧ (¬ (p1 < 0) → (((p1 < 7) → (ok_bk_kindOf T (T.2.1 0) p0) ∧ (ok_ask_isKind T (x_bk_kindOf T (T.2.1 0) p0) p1) ∧ ((((x_ask_isKind T (x_bk_kindOf T (T.2.1 0) p0) p1) = 0) → Q ((x_x_found T 3).1, (x_x_found T 3).2)) ∧ (¬ ((x_ask_isKind T (x_bk_kindOf T (T.2.1 0) p0) p1) = 0) → Q ((x_x_fine T p0).1, (x_x_fine T p0).2)))) ∧ (¬ (p1 < 7) → Q ((-1000001), T)))))))
theorem so_x_as {T : St} (p0 : Int32) (p1 : Int32) {Q : Int32 × St → Prop} (w : wp_x_as T p0 p1 Q) : ok_x_as T p0 p1 ∧ Q (x_x_as T p0 p1) := by
  unfold wp_x_as at w
  unfold ok_x_as x_x_as
  obtain ⟨q1, w⟩ := w
  refine so_rq q1 ?_
  obtain ⟨q2, w⟩ := w
  refine so_rq q2 ?_
  refine so_ifF (Q := Q) w (fun c8_1 w => ?_) (fun c8_1 w => ?_)
  · exact w
  · refine so_ifF (Q := Q) w (fun c12_2 w => ?_) (fun c12_2 w => ?_)
    · exact w
    · refine so_ifT (Q := Q) w (fun c18_3 w => ?_) (fun c18_3 w => ?_)
      · obtain ⟨q3, w⟩ := w
        refine so_rq q3 ?_
        obtain ⟨q4, w⟩ := w
        refine so_rq q4 ?_
        refine ⟨trivial, ?_⟩
        refine so_if0 (Q := Q) w (fun c40_4 w => ?_) (fun c40_4 w => ?_)
        · exact w
        · exact w
      · exact w
def wp_x_count (T : St) (p0 : Int32) (Q : Int32 → Prop) : Prop := (((p0 = 0) → (ok_sh_present T) ∧ Q (x_sh_present T)) ∧ (¬ (p0 = 0) → (((p0 = 1) → (sh (T.2.1 0) = .inr 1) ∧ Q (T.1 (T.2.1 0) 4)) ∧ (¬ (p0 = 1) → (((p0 = 2) → (sh (T.2.1 0) = .inr 1) ∧ Q (T.1 (T.2.1 0) 10)) ∧ (¬ (p0 = 2) → (((p0 = 3) → (sh (T.2.1 0) = .inr 1) ∧ Q (x_J_bitCount T (T.1 (T.2.1 0) 17))) ∧ (¬ (p0 = 3) → (((p0 = 4) → (ok_bk_dinnerSteps T (T.2.1 0)) ∧ (sh (T.2.1 0) = .inr 1) ∧ Q (x_bk_dinnerSteps T (T.2.1 0))) ∧ (¬ (p0 = 4) → (((p0 = 5) → (sh (T.2.1 0) = .inr 1) ∧ Q (T.1 (T.2.1 0) 1)) ∧ (¬ (p0 = 5) → (((p0 = 6) → Q (T.1 13 1)) ∧ (¬ (p0 = 6) → (((p0 = 7) → (sh (T.2.1 0) = .inr 1) ∧ Q (T.1 (T.2.1 0) 18)) ∧ (¬ (p0 = 7) → Q (-1000001)))))))))))))))))
theorem so_x_count {T : St} (p0 : Int32) {Q : Int32 → Prop} (w : wp_x_count T p0 Q) : ok_x_count T p0 ∧ Q (x_x_count T p0) := by
  unfold wp_x_count at w
  unfold ok_x_count x_x_count
  refine so_if2 (Q := Q) w (fun s1_1_0 w => ?_) (fun s1_1_0 w => ?_)
  · obtain ⟨q1, w⟩ := w
    refine so_rq q1 ?_
    refine ⟨trivial, ?_⟩
    exact w
  · refine so_if2 (Q := Q) w (fun s1_1_1 w => ?_) (fun s1_1_1 w => ?_)
    · obtain ⟨q2, w⟩ := w
      refine so_rq q2 ?_
      refine ⟨trivial, ?_⟩
      exact w
    · refine so_if2 (Q := Q) w (fun s1_1_2 w => ?_) (fun s1_1_2 w => ?_)
      · obtain ⟨q3, w⟩ := w
        refine so_rq q3 ?_
        refine ⟨trivial, ?_⟩
        exact w
      · refine so_if2 (Q := Q) w (fun s1_1_3 w => ?_) (fun s1_1_3 w => ?_)
        · obtain ⟨q4, w⟩ := w
          refine so_rq q4 ?_
          refine ⟨trivial, ?_⟩
          exact w
        · refine so_if2 (Q := Q) w (fun s1_1_4 w => ?_) (fun s1_1_4 w => ?_)
          · obtain ⟨q5, w⟩ := w
            refine so_rq q5 ?_
            obtain ⟨q6, w⟩ := w
            refine so_rq q6 ?_
            refine ⟨trivial, ?_⟩
            exact w
          · refine so_if2 (Q := Q) w (fun s1_1_5 w => ?_) (fun s1_1_5 w => ?_)
            · obtain ⟨q7, w⟩ := w
              refine so_rq q7 ?_
              refine ⟨trivial, ?_⟩
              exact w
            · refine so_ifF (Q := Q) w (fun s1_1_6 w => ?_) (fun s1_1_6 w => ?_)
              · exact w
              · refine so_ifT (Q := Q) w (fun s1_1_7 w => ?_) (fun s1_1_7 w => ?_)
                · obtain ⟨q8, w⟩ := w
                  refine so_rq q8 ?_
                  refine ⟨trivial, ?_⟩
                  exact w
                · exact w
def wp_x_changed (T : St)  (Q : St → Prop) : Prop := (sh ((sF (sF T 0 14 0) 0 16 0).2.1 0) = .inr 1) ∧ (ok_ki_fit (sF (sF T 0 14 0) 0 16 0) 76 ((sF (sF T 0 14 0) 0 16 0).2.1 0) ((sF (sF T 0 14 0) 0 16 0).2.2.1 (((sF (sF T 0 14 0) 0 16 0).2.1 0) + 1) (5 : Int32).toNatClampNeg) ((sF (sF T 0 14 0) 0 16 0).1 ((sF (sF T 0 14 0) 0 16 0).2.1 0) 18)) ∧ Q (x_ki_fit (sF (sF T 0 14 0) 0 16 0) 76 ((sF (sF T 0 14 0) 0 16 0).2.1 0) ((sF (sF T 0 14 0) 0 16 0).2.2.1 (((sF (sF T 0 14 0) 0 16 0).2.1 0) + 1) (5 : Int32).toNatClampNeg) ((sF (sF T 0 14 0) 0 16 0).1 ((sF (sF T 0 14 0) 0 16 0).2.1 0) 18))
theorem so_x_changed {T : St}  {Q : St → Prop} (w : wp_x_changed T  Q) : ok_x_changed T  ∧ Q (x_x_changed T ) := by
  unfold wp_x_changed at w
  unfold ok_x_changed x_x_changed
  obtain ⟨q1, w⟩ := w
  refine so_rq q1 ?_
  obtain ⟨q2, w⟩ := w
  refine so_rq q2 ?_
  refine ⟨trivial, ?_⟩
  exact w
def bd_m_book_30  (Kk : Int32 → St → Prop) (Q : Int32 × St → Prop) (N : Int32 → St → Prop) (v1 : Int32) (T : St) : Prop := (((204 ≤ v1) → Kk v1 T) ∧ (¬ (204 ≤ v1) → (vp_in v1 204) ∧ N (v1 + 1) (sA T 576 (v1 : Int32).toNatClampNeg 0)))
def wp_m_book_30  (Kk : Int32 → St → Prop) (Q : Int32 × St → Prop) : Nat → Int32 → St → Prop
  | 0, _, _ => False
  | f + 1, v1, T => bd_m_book_30  Kk Q (wp_m_book_30  Kk Q f) v1 T
theorem mb_m_book_30  {Kk Kk2 : Int32 → St → Prop} {Q Q2 : Int32 × St → Prop} {N N2 : Int32 → St → Prop} (hK : ∀ (v1 : Int32) (T : St), Kk v1 T → Kk2 v1 T) (hQ : ∀ r, Q r → Q2 r) (hN : ∀ (v1 : Int32) (T : St), N v1 T → N2 v1 T) (v1 : Int32) (T : St) (w : bd_m_book_30  Kk Q N v1 T) : bd_m_book_30  Kk2 Q2 N2 v1 T := by
  unfold bd_m_book_30 at w ⊢
  refine mo_if w (fun c34_1 w => ?_) (fun c34_1 w => ?_)
  · exact hK v1 T w
  · obtain ⟨q1, w⟩ := w
    refine ⟨q1, ?_⟩
    exact hN (v1 + 1) (sA T 576 (v1 : Int32).toNatClampNeg 0) w
theorem mo_m_book_30  {Kk Kk2 : Int32 → St → Prop} {Q Q2 : Int32 × St → Prop} (hK : ∀ (v1 : Int32) (T : St), Kk v1 T → Kk2 v1 T) (hQ : ∀ r, Q r → Q2 r) : ∀ (f : Nat) (v1 : Int32) (T : St), wp_m_book_30  Kk Q f v1 T → wp_m_book_30  Kk2 Q2 f v1 T := by
  intro f
  induction f with
  | zero => intro v1 T w; exact w.elim
  | succ f ih => intro v1 T w; exact mb_m_book_30  hK hQ ih v1 T w
theorem wr_m_book_30  {Kk : Int32 → St → Prop} {Q : Int32 × St → Prop} (I : Int32 → St → Prop) (m : Int32 → St → Nat) (hv : ∀ (v1 : Int32) (T : St), I v1 T → bd_m_book_30  Kk Q (fun uv1 uT => I uv1 uT ∧ m uv1 uT < m v1 T) v1 T) : ∀ (f : Nat) (v1 : Int32) (T : St), m v1 T < f → I v1 T → wp_m_book_30  Kk Q f v1 T := by
  intro f
  induction f with
  | zero => intro v1 T h; exact absurd h (Nat.not_lt_zero _)
  | succ f ih => intro v1 T h hi; exact mb_m_book_30  (fun _ _ h => h) (fun _ h => h) (fun uv1 uT g => ih uv1 uT (by omega) g.1) v1 T (hv v1 T hi)
theorem so_m_book_30  {K : Int32 → St → Int32 × St} {Kk Kk2 : Int32 → St → Prop} {Q : Int32 × St → Prop} (hk : ∀ (v1 : Int32) (T : St), Kk v1 T → Kk2 v1 T ∧ Q (K v1 T)) : ∀ (f : Nat) (v1 : Int32) (T : St), wp_m_book_30  Kk Q f v1 T → ok_m_book_30  Kk2 f v1 T ∧ Q (x_m_book_30  K f v1 T) := by
  intro f
  induction f with
  | zero => intro v1 T w; exact w.elim
  | succ f ih =>
    intro v1 T w
    rw [wp_m_book_30, bd_m_book_30] at w
    rw [ok_m_book_30, x_m_book_30]
    refine so_if2 (Q := Q) w (fun c34_1 w => ?_) (fun c34_1 w => ?_)
    · exact hk v1 T w
    · obtain ⟨q1, w⟩ := w
      refine so_rq q1 ?_
      exact ih (v1 + 1) (sA T 576 (v1 : Int32).toNatClampNeg 0) w
def bd_m_book_76  (Kk : Int32 → St → Prop) (Q : Int32 × St → Prop) (N : Int32 → St → Prop) (v1 : Int32) (T : St) : Prop := (((7 ≤ v1) → Kk v1 T) ∧ (¬ (7 ≤ v1) → jn (fun (KJ2 : Int32 → Prop) => (((v1 = 5) → KJ2 1) ∧ (¬ (v1 = 5) → KJ2 0))) (fun (j2_s2 : Int32) => jn (fun (KJ3 : Prop) => (((v1 < 3) → KJ3) ∧ (¬ (v1 < 3) → (((v1 = 5) → KJ3) ∧ (¬ (v1 = 5) → (ok_m_number T v1 j2_s2 9) ∧ N (v1 + 1) (x_m_number T v1 j2_s2 9)))))) ((ok_m_number T v1 j2_s2 3) ∧ N (v1 + 1) (x_m_number T v1 j2_s2 3)))))
def wp_m_book_76  (Kk : Int32 → St → Prop) (Q : Int32 × St → Prop) : Nat → Int32 → St → Prop
  | 0, _, _ => False
  | f + 1, v1, T => bd_m_book_76  Kk Q (wp_m_book_76  Kk Q f) v1 T
theorem mb_m_book_76  {Kk Kk2 : Int32 → St → Prop} {Q Q2 : Int32 × St → Prop} {N N2 : Int32 → St → Prop} (hK : ∀ (v1 : Int32) (T : St), Kk v1 T → Kk2 v1 T) (hQ : ∀ r, Q r → Q2 r) (hN : ∀ (v1 : Int32) (T : St), N v1 T → N2 v1 T) (v1 : Int32) (T : St) (w : bd_m_book_76  Kk Q N v1 T) : bd_m_book_76  Kk2 Q2 N2 v1 T := by
  unfold bd_m_book_76 at w ⊢
  refine mo_if w (fun c79_3 w => ?_) (fun c79_3 w => ?_)
  · exact hK v1 T w
  · refine mo_jn (J := fun (KJ2 : Int32 → Prop) (WKJ2 : Int32 → Prop) => ∀ (j2_s2 : Int32), KJ2 j2_s2 → WKJ2 j2_s2) w (fun j2_s2 w => ?_) (fun KJ2 WKJ2 hJ2 w => ?_)
    · skip
      refine mo_jn (J := fun (KJ3 : Prop) (WKJ3 : Prop) => KJ3 → WKJ3) w (fun  w => ?_) (fun KJ3 WKJ3 hJ3 w => ?_)
      · skip
        obtain ⟨q6, w⟩ := w
        refine ⟨q6, ?_⟩
        exact hN (v1 + 1) (x_m_number T v1 j2_s2 3) w
      · skip
        refine mo_if w (fun c96_7 w => ?_) (fun c96_7 w => ?_)
        · exact hJ3  w
        · refine mo_if w (fun c101_8 w => ?_) (fun c101_8 w => ?_)
          · exact hJ3  w
          · obtain ⟨q7, w⟩ := w
            refine ⟨q7, ?_⟩
            exact hN (v1 + 1) (x_m_number T v1 j2_s2 9) w
    · skip
      refine mo_if w (fun c86_9 w => ?_) (fun c86_9 w => ?_)
      · exact hJ2 1 w
      · exact hJ2 0 w
theorem mo_m_book_76  {Kk Kk2 : Int32 → St → Prop} {Q Q2 : Int32 × St → Prop} (hK : ∀ (v1 : Int32) (T : St), Kk v1 T → Kk2 v1 T) (hQ : ∀ r, Q r → Q2 r) : ∀ (f : Nat) (v1 : Int32) (T : St), wp_m_book_76  Kk Q f v1 T → wp_m_book_76  Kk2 Q2 f v1 T := by
  intro f
  induction f with
  | zero => intro v1 T w; exact w.elim
  | succ f ih => intro v1 T w; exact mb_m_book_76  hK hQ ih v1 T w
theorem wr_m_book_76  {Kk : Int32 → St → Prop} {Q : Int32 × St → Prop} (I : Int32 → St → Prop) (m : Int32 → St → Nat) (hv : ∀ (v1 : Int32) (T : St), I v1 T → bd_m_book_76  Kk Q (fun uv1 uT => I uv1 uT ∧ m uv1 uT < m v1 T) v1 T) : ∀ (f : Nat) (v1 : Int32) (T : St), m v1 T < f → I v1 T → wp_m_book_76  Kk Q f v1 T := by
  intro f
  induction f with
  | zero => intro v1 T h; exact absurd h (Nat.not_lt_zero _)
  | succ f ih => intro v1 T h hi; exact mb_m_book_76  (fun _ _ h => h) (fun _ h => h) (fun uv1 uT g => ih uv1 uT (by omega) g.1) v1 T (hv v1 T hi)
theorem so_m_book_76  {K : Int32 → St → Int32 × St} {Kk Kk2 : Int32 → St → Prop} {Q : Int32 × St → Prop} (hk : ∀ (v1 : Int32) (T : St), Kk v1 T → Kk2 v1 T ∧ Q (K v1 T)) : ∀ (f : Nat) (v1 : Int32) (T : St), wp_m_book_76  Kk Q f v1 T → ok_m_book_76  Kk2 f v1 T ∧ Q (x_m_book_76  K f v1 T) := by
  intro f
  induction f with
  | zero => intro v1 T w; exact w.elim
  | succ f ih =>
    intro v1 T w
    rw [wp_m_book_76, bd_m_book_76] at w
    rw [ok_m_book_76, x_m_book_76]
    refine so_if2 (Q := Q) w (fun c79_3 w => ?_) (fun c79_3 w => ?_)
    · exact hk v1 T w
    · refine so_jn (Q := Q) (J := fun (KJ2 : Int32 → Int32 × St) (OJ2 : Int32 → Prop) (WKJ2 : Int32 → Prop) => ∀ (j2_s2 : Int32), WKJ2 j2_s2 → OJ2 j2_s2 ∧ Q (KJ2 j2_s2)) w (fun j2_s2 w => ?_) (fun KJ2 OJ2 WKJ2 hJ2 w => ?_)
      · skip
        refine so_jn (Q := Q) (J := fun (KJ3 : Int32 × St) (OJ3 : Prop) (WKJ3 : Prop) => WKJ3 → OJ3 ∧ Q (KJ3)) w (fun  w => ?_) (fun KJ3 OJ3 WKJ3 hJ3 w => ?_)
        · skip
          obtain ⟨q6, w⟩ := w
          refine so_rq q6 ?_
          exact ih (v1 + 1) (x_m_number T v1 j2_s2 3) w
        · skip
          refine so_if2 (Q := Q) w (fun c96_7 w => ?_) (fun c96_7 w => ?_)
          · exact hJ3  w
          · refine so_if2 (Q := Q) w (fun c101_8 w => ?_) (fun c101_8 w => ?_)
            · exact hJ3  w
            · obtain ⟨q7, w⟩ := w
              refine so_rq q7 ?_
              exact ih (v1 + 1) (x_m_number T v1 j2_s2 9) w
      · skip
        refine so_if2 (Q := Q) w (fun c86_9 w => ?_) (fun c86_9 w => ?_)
        · exact hJ2 1 w
        · exact hJ2 0 w
def bd_m_book_123 (l1 : Int32) (Kk : St → Prop) (Q : Int32 × St → Prop) (N : St → Prop)  (T : St) : Prop := (ok_m_word T) ∧ ((((lg_cmp (x_m_word T) 1635213689) = 0) → (ok_m_readAway T) ∧ N  (x_m_readAway T)) ∧ (¬ ((lg_cmp (x_m_word T) 1635213689) = 0) → Kk  T))
def wp_m_book_123 (l1 : Int32) (Kk : St → Prop) (Q : Int32 × St → Prop) : Nat → St → Prop
  | 0, _ => False
  | f + 1, T => bd_m_book_123 l1 Kk Q (wp_m_book_123 l1 Kk Q f)  T
theorem mb_m_book_123 (l1 : Int32) {Kk Kk2 : St → Prop} {Q Q2 : Int32 × St → Prop} {N N2 : St → Prop} (hK : ∀  (T : St), Kk  T → Kk2  T) (hQ : ∀ r, Q r → Q2 r) (hN : ∀  (T : St), N  T → N2  T)  (T : St) (w : bd_m_book_123 l1 Kk Q N  T) : bd_m_book_123 l1 Kk2 Q2 N2  T := by
  unfold bd_m_book_123 at w ⊢
  obtain ⟨q9, w⟩ := w
  refine ⟨q9, ?_⟩
  refine mo_if w (fun c131_10 w => ?_) (fun c131_10 w => ?_)
  · obtain ⟨q10, w⟩ := w
    refine ⟨q10, ?_⟩
    exact hN  (x_m_readAway T) w
  · exact hK  T w
theorem mo_m_book_123 (l1 : Int32) {Kk Kk2 : St → Prop} {Q Q2 : Int32 × St → Prop} (hK : ∀  (T : St), Kk  T → Kk2  T) (hQ : ∀ r, Q r → Q2 r) : ∀ (f : Nat)  (T : St), wp_m_book_123 l1 Kk Q f  T → wp_m_book_123 l1 Kk2 Q2 f  T := by
  intro f
  induction f with
  | zero => intro  T w; exact w.elim
  | succ f ih => intro  T w; exact mb_m_book_123 l1 hK hQ ih  T w
theorem wr_m_book_123 (l1 : Int32) {Kk : St → Prop} {Q : Int32 × St → Prop} (I : St → Prop) (m : St → Nat) (hv : ∀  (T : St), I  T → bd_m_book_123 l1 Kk Q (fun  uT => I  uT ∧ m  uT < m  T)  T) : ∀ (f : Nat)  (T : St), m  T < f → I  T → wp_m_book_123 l1 Kk Q f  T := by
  intro f
  induction f with
  | zero => intro  T h; exact absurd h (Nat.not_lt_zero _)
  | succ f ih => intro  T h hi; exact mb_m_book_123 l1 (fun _ h => h) (fun _ h => h) (fun  uT g => ih  uT (by omega) g.1)  T (hv  T hi)
theorem so_m_book_123 (l1 : Int32) {K : St → Int32 × St} {Kk Kk2 : St → Prop} {Q : Int32 × St → Prop} (hk : ∀  (T : St), Kk  T → Kk2  T ∧ Q (K  T)) : ∀ (f : Nat)  (T : St), wp_m_book_123 l1 Kk Q f  T → ok_m_book_123 l1 Kk2 f  T ∧ Q (x_m_book_123 l1 K f  T) := by
  intro f
  induction f with
  | zero => intro  T w; exact w.elim
  | succ f ih =>
    intro  T w
    rw [wp_m_book_123, bd_m_book_123] at w
    rw [ok_m_book_123, x_m_book_123]
    obtain ⟨q9, w⟩ := w
    refine so_rq q9 ?_
    refine so_if2 (Q := Q) w (fun c131_10 w => ?_) (fun c131_10 w => ?_)
    · obtain ⟨q10, w⟩ := w
      refine so_rq q10 ?_
      exact ih  (x_m_readAway T) w
    · exact hk  T w
def bd_m_book_164 (l1 : Int32) (Kk : St → Prop) (Q : Int32 × St → Prop) (N : St → Prop)  (T : St) : Prop := (ok_m_word T) ∧ ((((lg_cmp (x_m_word T) 1684632424) = 0) → (ok_m_readDish T) ∧ N  (x_m_readDish T)) ∧ (¬ ((lg_cmp (x_m_word T) 1684632424) = 0) → Kk  T))
def wp_m_book_164 (l1 : Int32) (Kk : St → Prop) (Q : Int32 × St → Prop) : Nat → St → Prop
  | 0, _ => False
  | f + 1, T => bd_m_book_164 l1 Kk Q (wp_m_book_164 l1 Kk Q f)  T
theorem mb_m_book_164 (l1 : Int32) {Kk Kk2 : St → Prop} {Q Q2 : Int32 × St → Prop} {N N2 : St → Prop} (hK : ∀  (T : St), Kk  T → Kk2  T) (hQ : ∀ r, Q r → Q2 r) (hN : ∀  (T : St), N  T → N2  T)  (T : St) (w : bd_m_book_164 l1 Kk Q N  T) : bd_m_book_164 l1 Kk2 Q2 N2  T := by
  unfold bd_m_book_164 at w ⊢
  obtain ⟨q12, w⟩ := w
  refine ⟨q12, ?_⟩
  refine mo_if w (fun c172_13 w => ?_) (fun c172_13 w => ?_)
  · obtain ⟨q13, w⟩ := w
    refine ⟨q13, ?_⟩
    exact hN  (x_m_readDish T) w
  · exact hK  T w
theorem mo_m_book_164 (l1 : Int32) {Kk Kk2 : St → Prop} {Q Q2 : Int32 × St → Prop} (hK : ∀  (T : St), Kk  T → Kk2  T) (hQ : ∀ r, Q r → Q2 r) : ∀ (f : Nat)  (T : St), wp_m_book_164 l1 Kk Q f  T → wp_m_book_164 l1 Kk2 Q2 f  T := by
  intro f
  induction f with
  | zero => intro  T w; exact w.elim
  | succ f ih => intro  T w; exact mb_m_book_164 l1 hK hQ ih  T w
theorem wr_m_book_164 (l1 : Int32) {Kk : St → Prop} {Q : Int32 × St → Prop} (I : St → Prop) (m : St → Nat) (hv : ∀  (T : St), I  T → bd_m_book_164 l1 Kk Q (fun  uT => I  uT ∧ m  uT < m  T)  T) : ∀ (f : Nat)  (T : St), m  T < f → I  T → wp_m_book_164 l1 Kk Q f  T := by
  intro f
  induction f with
  | zero => intro  T h; exact absurd h (Nat.not_lt_zero _)
  | succ f ih => intro  T h hi; exact mb_m_book_164 l1 (fun _ h => h) (fun _ h => h) (fun  uT g => ih  uT (by omega) g.1)  T (hv  T hi)
theorem so_m_book_164 (l1 : Int32) {K : St → Int32 × St} {Kk Kk2 : St → Prop} {Q : Int32 × St → Prop} (hk : ∀  (T : St), Kk  T → Kk2  T ∧ Q (K  T)) : ∀ (f : Nat)  (T : St), wp_m_book_164 l1 Kk Q f  T → ok_m_book_164 l1 Kk2 f  T ∧ Q (x_m_book_164 l1 K f  T) := by
  intro f
  induction f with
  | zero => intro  T w; exact w.elim
  | succ f ih =>
    intro  T w
    rw [wp_m_book_164, bd_m_book_164] at w
    rw [ok_m_book_164, x_m_book_164]
    obtain ⟨q12, w⟩ := w
    refine so_rq q12 ?_
    refine so_if2 (Q := Q) w (fun c172_13 w => ?_) (fun c172_13 w => ?_)
    · obtain ⟨q13, w⟩ := w
      refine so_rq q13 ?_
      exact ih  (x_m_readDish T) w
    · exact hk  T w
def bd_m_book_246  (Kk : Int32 → St → Prop) (Q : Int32 × St → Prop) (N : Int32 → St → Prop) (v1 : Int32) (T : St) : Prop := (((204 ≤ v1) → Kk v1 T) ∧ (¬ (204 ≤ v1) → (vp_in v1 204) ∧ N (v1 + 1) (sA T 575 (v1 : Int32).toNatClampNeg (T.2.2.1 576 (v1 : Int32).toNatClampNeg))))
def wp_m_book_246  (Kk : Int32 → St → Prop) (Q : Int32 × St → Prop) : Nat → Int32 → St → Prop
  | 0, _, _ => False
  | f + 1, v1, T => bd_m_book_246  Kk Q (wp_m_book_246  Kk Q f) v1 T
theorem mb_m_book_246  {Kk Kk2 : Int32 → St → Prop} {Q Q2 : Int32 × St → Prop} {N N2 : Int32 → St → Prop} (hK : ∀ (v1 : Int32) (T : St), Kk v1 T → Kk2 v1 T) (hQ : ∀ r, Q r → Q2 r) (hN : ∀ (v1 : Int32) (T : St), N v1 T → N2 v1 T) (v1 : Int32) (T : St) (w : bd_m_book_246  Kk Q N v1 T) : bd_m_book_246  Kk2 Q2 N2 v1 T := by
  unfold bd_m_book_246 at w ⊢
  refine mo_if w (fun c250_17 w => ?_) (fun c250_17 w => ?_)
  · exact hK v1 T w
  · obtain ⟨q14, w⟩ := w
    refine ⟨q14, ?_⟩
    exact hN (v1 + 1) (sA T 575 (v1 : Int32).toNatClampNeg (T.2.2.1 576 (v1 : Int32).toNatClampNeg)) w
theorem mo_m_book_246  {Kk Kk2 : Int32 → St → Prop} {Q Q2 : Int32 × St → Prop} (hK : ∀ (v1 : Int32) (T : St), Kk v1 T → Kk2 v1 T) (hQ : ∀ r, Q r → Q2 r) : ∀ (f : Nat) (v1 : Int32) (T : St), wp_m_book_246  Kk Q f v1 T → wp_m_book_246  Kk2 Q2 f v1 T := by
  intro f
  induction f with
  | zero => intro v1 T w; exact w.elim
  | succ f ih => intro v1 T w; exact mb_m_book_246  hK hQ ih v1 T w
theorem wr_m_book_246  {Kk : Int32 → St → Prop} {Q : Int32 × St → Prop} (I : Int32 → St → Prop) (m : Int32 → St → Nat) (hv : ∀ (v1 : Int32) (T : St), I v1 T → bd_m_book_246  Kk Q (fun uv1 uT => I uv1 uT ∧ m uv1 uT < m v1 T) v1 T) : ∀ (f : Nat) (v1 : Int32) (T : St), m v1 T < f → I v1 T → wp_m_book_246  Kk Q f v1 T := by
  intro f
  induction f with
  | zero => intro v1 T h; exact absurd h (Nat.not_lt_zero _)
  | succ f ih => intro v1 T h hi; exact mb_m_book_246  (fun _ _ h => h) (fun _ h => h) (fun uv1 uT g => ih uv1 uT (by omega) g.1) v1 T (hv v1 T hi)
theorem so_m_book_246  {K : Int32 → St → Int32 × St} {Kk Kk2 : Int32 → St → Prop} {Q : Int32 × St → Prop} (hk : ∀ (v1 : Int32) (T : St), Kk v1 T → Kk2 v1 T ∧ Q (K v1 T)) : ∀ (f : Nat) (v1 : Int32) (T : St), wp_m_book_246  Kk Q f v1 T → ok_m_book_246  Kk2 f v1 T ∧ Q (x_m_book_246  K f v1 T) := by
  intro f
  induction f with
  | zero => intro v1 T w; exact w.elim
  | succ f ih =>
    intro v1 T w
    rw [wp_m_book_246, bd_m_book_246] at w
    rw [ok_m_book_246, x_m_book_246]
    refine so_if2 (Q := Q) w (fun c250_17 w => ?_) (fun c250_17 w => ?_)
    · exact hk v1 T w
    · obtain ⟨q14, w⟩ := w
      refine so_rq q14 ?_
      exact ih (v1 + 1) (sA T 575 (v1 : Int32).toNatClampNeg (T.2.2.1 576 (v1 : Int32).toNatClampNeg)) w
def wp_m_book (T : St)  (Q : Int32 × St → Prop) : Prop := wp_m_book_30  (fun w1_1 T201 => (ok_m_next T201) ∧ (ok_m_word (x_m_next T201)) ∧ jn (fun (KJ1 : Int32 → Prop) => ((((lg_cmp (x_m_word (x_m_next T201)) 30233771112949102) = 0) → KJ1 1) ∧ (¬ ((lg_cmp (x_m_word (x_m_next T201)) 30233771112949102) = 0) → KJ1 0))) (fun (j1_s1 : Int32) => (ok_m_must (x_m_next T201) j1_s1) ∧ wp_m_book_76  (fun w2_1 T202 => (ok_m_mustEnd T202) ∧ wp_m_book_123 w2_1 (fun  T203 => jn (fun (KJ4 : St → Prop) => ((((T203.1 571 16) = 0) → (ok_m_word T203) ∧ ((((lg_cmp (x_m_word T203) 1684632424) = 0) → KJ4 T203) ∧ (¬ ((lg_cmp (x_m_word T203) 1684632424) = 0) → KJ4 (x_m_bad T203 1)))) ∧ (¬ ((T203.1 571 16) = 0) → KJ4 T203))) (fun (T304 : St) => wp_m_book_164 w2_1 (fun  T204 => jn (fun (KJ5 : St → Prop) => ((((T204.1 571 16) = 0) → ((((T204.1 571 13) = 1) → KJ5 T204) ∧ (¬ ((T204.1 571 13) = 1) → KJ5 (x_m_bad T204 1)))) ∧ (¬ ((T204.1 571 16) = 0) → KJ5 T204))) (fun (T305 : St) => ((((T305.1 571 16) ≤ 0) → wp_m_book_246  (fun w5_1 T205 => Q ((x_m_forget (sF T205 571 7 1)).2.2.1 575 (16 : Int32).toNatClampNeg, x_m_forget (sF T205 571 7 1))) Q 1000 0 (sA (sA T305 576 (202 : Int32).toNatClampNeg 1) 576 (203 : Int32).toNatClampNeg 60)) ∧ (¬ ((T305.1 571 16) ≤ 0) → Q ((-1000100) - ((sF T305 571 10 (T305.1 571 16)).1 571 17), sF T305 571 10 (T305.1 571 16)))))) Q 1000  T304)) Q 1000  (x_m_mustEnd T202)) Q 1000 0 (x_m_must (x_m_next T201) j1_s1))) Q 1000 0 (sF (sF (sF (sF (sF T 571 0 0) 571 11 ((sF T 571 0 0).1 571 9)) 571 9 0) 571 12 0) 571 16 0)
theorem so_m_book {T : St}  {Q : Int32 × St → Prop} (w : wp_m_book T  Q) : ok_m_book T  ∧ Q (x_m_book T ) := by
  unfold wp_m_book at w
  unfold ok_m_book x_m_book
  refine so_m_book_30  (fun w1_1 T201 w => ?_) 1000 0 (sF (sF (sF (sF (sF T 571 0 0) 571 11 ((sF T 571 0 0).1 571 9)) 571 9 0) 571 12 0) 571 16 0) w
  obtain ⟨q2, w⟩ := w
  refine so_rq q2 ?_
  obtain ⟨q3, w⟩ := w
  refine so_rq q3 ?_
  refine so_jn (Q := Q) (J := fun (KJ1 : Int32 → Int32 × St) (OJ1 : Int32 → Prop) (WKJ1 : Int32 → Prop) => ∀ (j1_s1 : Int32), WKJ1 j1_s1 → OJ1 j1_s1 ∧ Q (KJ1 j1_s1)) w (fun j1_s1 w => ?_) (fun KJ1 OJ1 WKJ1 hJ1 w => ?_)
  · skip
    obtain ⟨q4, w⟩ := w
    refine so_rq q4 ?_
    refine so_m_book_76  (fun w2_1 T202 w => ?_) 1000 0 (x_m_must (x_m_next T201) j1_s1) w
    obtain ⟨q8, w⟩ := w
    refine so_rq q8 ?_
    refine so_m_book_123 w2_1 (fun  T203 w => ?_) 1000  (x_m_mustEnd T202) w
    refine so_jn (Q := Q) (J := fun (KJ4 : St → Int32 × St) (OJ4 : St → Prop) (WKJ4 : St → Prop) => ∀ (T304 : St), WKJ4 T304 → OJ4 T304 ∧ Q (KJ4 T304)) w (fun T304 w => ?_) (fun KJ4 OJ4 WKJ4 hJ4 w => ?_)
    · skip
      refine so_m_book_164 w2_1 (fun  T204 w => ?_) 1000  T304 w
      refine so_jn (Q := Q) (J := fun (KJ5 : St → Int32 × St) (OJ5 : St → Prop) (WKJ5 : St → Prop) => ∀ (T305 : St), WKJ5 T305 → OJ5 T305 ∧ Q (KJ5 T305)) w (fun T305 w => ?_) (fun KJ5 OJ5 WKJ5 hJ5 w => ?_)
      · skip
        refine so_ifT (Q := Q) w (fun c206_16 w => ?_) (fun c206_16 w => ?_)
        · refine so_m_book_246  (fun w5_1 T205 w => ?_) 1000 0 (sA (sA T305 576 (202 : Int32).toNatClampNeg 1) 576 (203 : Int32).toNatClampNeg 60) w
          refine ⟨trivial, ?_⟩
          exact w
        · exact w
      · skip
        refine so_if2 (Q := Q) w (fun c186_18 w => ?_) (fun c186_18 w => ?_)
        · refine so_if2 (Q := Q) w (fun c194_19 w => ?_) (fun c194_19 w => ?_)
          · exact hJ5 T204 w
          · exact hJ5 (x_m_bad T204 1) w
        · exact hJ5 T204 w
    · skip
      refine so_if2 (Q := Q) w (fun c145_20 w => ?_) (fun c145_20 w => ?_)
      · obtain ⟨q15, w⟩ := w
        refine so_rq q15 ?_
        refine so_if2 (Q := Q) w (fun c156_21 w => ?_) (fun c156_21 w => ?_)
        · exact hJ4 T203 w
        · exact hJ4 (x_m_bad T203 1) w
      · exact hJ4 T203 w
  · skip
    refine so_if2 (Q := Q) w (fun c63_22 w => ?_) (fun c63_22 w => ?_)
    · exact hJ1 1 w
    · exact hJ1 0 w
def wp_m_dinner (T : St) (p0 : Int32) (Q : Int32 × St → Prop) : Prop := ((((x_m_in (sF T 571 0 0) ((p0 : Int32).toInt64) 1 (((1 <<< (((sF T 571 0 0).2.2.1 575 (16 : Int32).toNatClampNeg) &&& 31)) - 1 : Int32).toInt64)) = 0) → Q ((-1000001), sF T 571 0 0)) ∧ (¬ ((x_m_in (sF T 571 0 0) ((p0 : Int32).toInt64) 1 (((1 <<< (((sF T 571 0 0).2.2.1 575 (16 : Int32).toNatClampNeg) &&& 31)) - 1 : Int32).toInt64)) = 0) → (ok_m_bits (sF T 571 0 0) p0) ∧ ((((x_m_bits (sF T 571 0 0) p0) ≤ 4) → (ok_m_bits (x_m_forget (sA (sF T 571 0 0) 575 (202 : Int32).toNatClampNeg p0)) p0) ∧ Q (x_m_bits (x_m_forget (sA (sF T 571 0 0) 575 (202 : Int32).toNatClampNeg p0)) p0, x_m_forget (sA (sF T 571 0 0) 575 (202 : Int32).toNatClampNeg p0))) ∧ (¬ ((x_m_bits (sF T 571 0 0) p0) ≤ 4) → Q ((-1000001), sF T 571 0 0)))))
theorem so_m_dinner {T : St} (p0 : Int32) {Q : Int32 × St → Prop} (w : wp_m_dinner T p0 Q) : ok_m_dinner T p0 ∧ Q (x_m_dinner T p0) := by
  unfold wp_m_dinner at w
  unfold ok_m_dinner x_m_dinner
  refine so_ifF (Q := Q) w (fun c23_1 w => ?_) (fun c23_1 w => ?_)
  · exact w
  · obtain ⟨q1, w⟩ := w
    refine so_rq q1 ?_
    refine so_ifT (Q := Q) w (fun c31_2 w => ?_) (fun c31_2 w => ?_)
    · obtain ⟨q2, w⟩ := w
      refine so_rq q2 ?_
      refine ⟨trivial, ?_⟩
      exact w
    · exact w
def wp_m_out (T : St) (p0 : Int32) (Q : Int32 × St → Prop) : Prop := ((((x_m_in (sF T 571 0 0) ((p0 : Int32).toInt64) 0 60) = 0) → Q ((-1000001), sF T 571 0 0)) ∧ (¬ ((x_m_in (sF T 571 0 0) ((p0 : Int32).toInt64) 0 60) = 0) → (((((sF T 571 0 0).1 571 7) = 0) → Q ((-1000002), sF T 571 0 0)) ∧ (¬ (((sF T 571 0 0).1 571 7) = 0) → (((((sF T 571 0 0).2.2.1 575 (1 : Int32).toNatClampNeg) = 0) → Q ((-1000002), sF T 571 0 0)) ∧ (¬ (((sF T 571 0 0).2.2.1 575 (1 : Int32).toNatClampNeg) = 0) → Q (1, x_m_forget (sA (sF T 571 0 0) 575 (203 : Int32).toNatClampNeg p0))))))))
theorem so_m_out {T : St} (p0 : Int32) {Q : Int32 × St → Prop} (w : wp_m_out T p0 Q) : Q (x_m_out T p0) := by
  unfold wp_m_out at w
  unfold x_m_out
  refine so_if0 (Q := Q) w (fun c14_1 w => ?_) (fun c14_1 w => ?_)
  · exact w
  · refine so_if0 (Q := Q) w (fun c24_2 w => ?_) (fun c24_2 w => ?_)
    · exact w
    · refine so_if0 (Q := Q) w (fun c33_3 w => ?_) (fun c33_3 w => ?_)
      · exact w
      · exact w
def wp_m_isFirst (T : St) (p0 : Int32) (Q : Int32 → Prop) : Prop := (((p0 = 0) → Q 1) ∧ (¬ (p0 = 0) → (vp_in p0 12) ∧ (ok_m_dishBy T (T.2.2.1 594 (p0 : Int32).toNatClampNeg)) ∧ (vp_in (p0 - 1) 12) ∧ (ok_m_dishBy T (T.2.2.1 594 (p0 - 1 : Int32).toNatClampNeg)) ∧ ((((x_m_dishBy T (T.2.2.1 594 (p0 : Int32).toNatClampNeg)) = (x_m_dishBy T (T.2.2.1 594 (p0 - 1 : Int32).toNatClampNeg))) → Q 0) ∧ (¬ ((x_m_dishBy T (T.2.2.1 594 (p0 : Int32).toNatClampNeg)) = (x_m_dishBy T (T.2.2.1 594 (p0 - 1 : Int32).toNatClampNeg))) → Q 1))))
theorem so_m_isFirst {T : St} (p0 : Int32) {Q : Int32 → Prop} (w : wp_m_isFirst T p0 Q) : ok_m_isFirst T p0 ∧ Q (x_m_isFirst T p0) := by
  unfold wp_m_isFirst at w
  unfold ok_m_isFirst x_m_isFirst
  refine so_ifF (Q := Q) w (fun c1_1 w => ?_) (fun c1_1 w => ?_)
  · exact w
  · obtain ⟨q1, w⟩ := w
    refine so_rq q1 ?_
    obtain ⟨q2, w⟩ := w
    refine so_rq q2 ?_
    obtain ⟨q3, w⟩ := w
    refine so_rq q3 ?_
    obtain ⟨q4, w⟩ := w
    refine so_rq q4 ?_
    refine ⟨trivial, ?_⟩
    refine so_if0 (Q := Q) w (fun c26_2 w => ?_) (fun c26_2 w => ?_)
    · exact w
    · exact w
def wp_m_isLast (T : St) (p0 : Int32) (Q : Int32 → Prop) : Prop := (((p0 = ((T.1 571 39) - 1)) → Q 1) ∧ (¬ (p0 = ((T.1 571 39) - 1)) → (vp_in p0 12) ∧ (ok_m_dishBy T (T.2.2.1 594 (p0 : Int32).toNatClampNeg)) ∧ (vp_in (p0 + 1) 12) ∧ (ok_m_dishBy T (T.2.2.1 594 (p0 + 1 : Int32).toNatClampNeg)) ∧ ((((x_m_dishBy T (T.2.2.1 594 (p0 : Int32).toNatClampNeg)) = (x_m_dishBy T (T.2.2.1 594 (p0 + 1 : Int32).toNatClampNeg))) → Q 0) ∧ (¬ ((x_m_dishBy T (T.2.2.1 594 (p0 : Int32).toNatClampNeg)) = (x_m_dishBy T (T.2.2.1 594 (p0 + 1 : Int32).toNatClampNeg))) → Q 1))))
theorem so_m_isLast {T : St} (p0 : Int32) {Q : Int32 → Prop} (w : wp_m_isLast T p0 Q) : ok_m_isLast T p0 ∧ Q (x_m_isLast T p0) := by
  unfold wp_m_isLast at w
  unfold ok_m_isLast x_m_isLast
  refine so_ifF (Q := Q) w (fun c7_1 w => ?_) (fun c7_1 w => ?_)
  · exact w
  · obtain ⟨q1, w⟩ := w
    refine so_rq q1 ?_
    obtain ⟨q2, w⟩ := w
    refine so_rq q2 ?_
    obtain ⟨q3, w⟩ := w
    refine so_rq q3 ?_
    obtain ⟨q4, w⟩ := w
    refine so_rq q4 ?_
    refine ⟨trivial, ?_⟩
    refine so_if0 (Q := Q) w (fun c32_2 w => ?_) (fun c32_2 w => ?_)
    · exact w
    · exact w
def bd_m_judged_2 (l1 : Int32) (Kk : Int32 → St → Prop) (Q : Int32 × St → Prop) (N : Int32 → St → Prop) (v2 : Int32) (T : St) : Prop := ((((T.1 571 39) ≤ v2) → Kk v2 T) ∧ (¬ ((T.1 571 39) ≤ v2) → (vp_in v2 12) ∧ jn (fun (KJ1 : Prop) => ((((T.2.2.1 595 (v2 : Int32).toNatClampNeg) < 0) → KJ1) ∧ (¬ ((T.2.2.1 595 (v2 : Int32).toNatClampNeg) < 0) → (((59 < (T.2.2.1 595 (v2 : Int32).toNatClampNeg)) → KJ1) ∧ (¬ (59 < (T.2.2.1 595 (v2 : Int32).toNatClampNeg)) → (ok_m_endOf T v2) ∧ ((((x_m_endOf T v2) ≤ 60) → N (v2 + 1) T) ∧ (¬ ((x_m_endOf T v2) ≤ 60) → KJ1))))))) (Q (1 + (10 * v2), T))))
def wp_m_judged_2 (l1 : Int32) (Kk : Int32 → St → Prop) (Q : Int32 × St → Prop) : Nat → Int32 → St → Prop
  | 0, _, _ => False
  | f + 1, v2, T => bd_m_judged_2 l1 Kk Q (wp_m_judged_2 l1 Kk Q f) v2 T
theorem mb_m_judged_2 (l1 : Int32) {Kk Kk2 : Int32 → St → Prop} {Q Q2 : Int32 × St → Prop} {N N2 : Int32 → St → Prop} (hK : ∀ (v2 : Int32) (T : St), Kk v2 T → Kk2 v2 T) (hQ : ∀ r, Q r → Q2 r) (hN : ∀ (v2 : Int32) (T : St), N v2 T → N2 v2 T) (v2 : Int32) (T : St) (w : bd_m_judged_2 l1 Kk Q N v2 T) : bd_m_judged_2 l1 Kk2 Q2 N2 v2 T := by
  unfold bd_m_judged_2 at w ⊢
  refine mo_if w (fun c7_1 w => ?_) (fun c7_1 w => ?_)
  · exact hK v2 T w
  · obtain ⟨q1, w⟩ := w
    refine ⟨q1, ?_⟩
    refine mo_jn (J := fun (KJ1 : Prop) (WKJ1 : Prop) => KJ1 → WKJ1) w (fun  w => ?_) (fun KJ1 WKJ1 hJ1 w => ?_)
    · skip
      exact hQ _ w
    · skip
      refine mo_if w (fun c16_5 w => ?_) (fun c16_5 w => ?_)
      · exact hJ1  w
      · refine mo_if w (fun c27_6 w => ?_) (fun c27_6 w => ?_)
        · exact hJ1  w
        · obtain ⟨q3, w⟩ := w
          refine ⟨q3, ?_⟩
          refine mo_if w (fun c37_7 w => ?_) (fun c37_7 w => ?_)
          · exact hN (v2 + 1) T w
          · exact hJ1  w
theorem mo_m_judged_2 (l1 : Int32) {Kk Kk2 : Int32 → St → Prop} {Q Q2 : Int32 × St → Prop} (hK : ∀ (v2 : Int32) (T : St), Kk v2 T → Kk2 v2 T) (hQ : ∀ r, Q r → Q2 r) : ∀ (f : Nat) (v2 : Int32) (T : St), wp_m_judged_2 l1 Kk Q f v2 T → wp_m_judged_2 l1 Kk2 Q2 f v2 T := by
  intro f
  induction f with
  | zero => intro v2 T w; exact w.elim
  | succ f ih => intro v2 T w; exact mb_m_judged_2 l1 hK hQ ih v2 T w
theorem wr_m_judged_2 (l1 : Int32) {Kk : Int32 → St → Prop} {Q : Int32 × St → Prop} (I : Int32 → St → Prop) (m : Int32 → St → Nat) (hv : ∀ (v2 : Int32) (T : St), I v2 T → bd_m_judged_2 l1 Kk Q (fun uv2 uT => I uv2 uT ∧ m uv2 uT < m v2 T) v2 T) : ∀ (f : Nat) (v2 : Int32) (T : St), m v2 T < f → I v2 T → wp_m_judged_2 l1 Kk Q f v2 T := by
  intro f
  induction f with
  | zero => intro v2 T h; exact absurd h (Nat.not_lt_zero _)
  | succ f ih => intro v2 T h hi; exact mb_m_judged_2 l1 (fun _ _ h => h) (fun _ h => h) (fun uv2 uT g => ih uv2 uT (by omega) g.1) v2 T (hv v2 T hi)
theorem so_m_judged_2 (l1 : Int32) {K : Int32 → St → Int32 × St} {Kk Kk2 : Int32 → St → Prop} {Q : Int32 × St → Prop} (hk : ∀ (v2 : Int32) (T : St), Kk v2 T → Kk2 v2 T ∧ Q (K v2 T)) : ∀ (f : Nat) (v2 : Int32) (T : St), wp_m_judged_2 l1 Kk Q f v2 T → ok_m_judged_2 l1 Kk2 f v2 T ∧ Q (x_m_judged_2 l1 K f v2 T) := by
  intro f
  induction f with
  | zero => intro v2 T w; exact w.elim
  | succ f ih =>
    intro v2 T w
    rw [wp_m_judged_2, bd_m_judged_2] at w
    rw [ok_m_judged_2, x_m_judged_2]
    refine so_if2 (Q := Q) w (fun c7_1 w => ?_) (fun c7_1 w => ?_)
    · exact hk v2 T w
    · obtain ⟨q1, w⟩ := w
      refine so_rq q1 ?_
      refine so_jn1 (Q := Q) (J := fun (KJ1 : Int32 × St) (WKJ1 : Prop) => WKJ1 → Q (KJ1)) w (fun  w => ?_) (fun KJ1 WKJ1 hJ1 w => ?_)
      · skip
        exact w
      · skip
        refine so_ifF (Q := Q) w (fun c16_5 w => ?_) (fun c16_5 w => ?_)
        · exact hJ1  w
        · refine so_ifF (Q := Q) w (fun c27_6 w => ?_) (fun c27_6 w => ?_)
          · exact hJ1  w
          · obtain ⟨q3, w⟩ := w
            refine so_rq q3 ?_
            refine so_ifT (Q := Q) w (fun c37_7 w => ?_) (fun c37_7 w => ?_)
            · exact ih (v2 + 1) T w
            · exact hJ1  w
def bd_m_judged_55 (l1 : Int32) (Kk : Int32 → St → Prop) (Q : Int32 × St → Prop) (N : Int32 → St → Prop) (v2 : Int32) (T : St) : Prop := ((((T.1 571 39) ≤ v2) → Kk v2 T) ∧ (¬ ((T.1 571 39) ≤ v2) → (ok_m_isFirst T v2) ∧ ((((x_m_isFirst T v2) = 0) → (vp_in v2 12) ∧ (ok_m_endOf T (v2 - 1)) ∧ (vp_in (v2 - 1) 12) ∧ (ok_m_stepOf T (T.2.2.1 594 (v2 - 1 : Int32).toNatClampNeg) 2) ∧ ((((x_m_in T (((T.2.2.1 595 (v2 : Int32).toNatClampNeg) - (x_m_endOf T (v2 - 1)) : Int32).toInt64) 0 ((x_m_stepOf T (T.2.2.1 594 (v2 - 1 : Int32).toNatClampNeg) 2 : Int32).toInt64)) = 0) → Q (2 + (10 * v2), T)) ∧ (¬ ((x_m_in T (((T.2.2.1 595 (v2 : Int32).toNatClampNeg) - (x_m_endOf T (v2 - 1)) : Int32).toInt64) 0 ((x_m_stepOf T (T.2.2.1 594 (v2 - 1 : Int32).toNatClampNeg) 2 : Int32).toInt64)) = 0) → N (v2 + 1) T))) ∧ (¬ ((x_m_isFirst T v2) = 0) → N (v2 + 1) T))))
def wp_m_judged_55 (l1 : Int32) (Kk : Int32 → St → Prop) (Q : Int32 × St → Prop) : Nat → Int32 → St → Prop
  | 0, _, _ => False
  | f + 1, v2, T => bd_m_judged_55 l1 Kk Q (wp_m_judged_55 l1 Kk Q f) v2 T
theorem mb_m_judged_55 (l1 : Int32) {Kk Kk2 : Int32 → St → Prop} {Q Q2 : Int32 × St → Prop} {N N2 : Int32 → St → Prop} (hK : ∀ (v2 : Int32) (T : St), Kk v2 T → Kk2 v2 T) (hQ : ∀ r, Q r → Q2 r) (hN : ∀ (v2 : Int32) (T : St), N v2 T → N2 v2 T) (v2 : Int32) (T : St) (w : bd_m_judged_55 l1 Kk Q N v2 T) : bd_m_judged_55 l1 Kk2 Q2 N2 v2 T := by
  unfold bd_m_judged_55 at w ⊢
  refine mo_if w (fun c60_8 w => ?_) (fun c60_8 w => ?_)
  · exact hK v2 T w
  · obtain ⟨q4, w⟩ := w
    refine ⟨q4, ?_⟩
    refine mo_if w (fun c68_9 w => ?_) (fun c68_9 w => ?_)
    · obtain ⟨q5, w⟩ := w
      refine ⟨q5, ?_⟩
      obtain ⟨q6, w⟩ := w
      refine ⟨q6, ?_⟩
      obtain ⟨q7, w⟩ := w
      refine ⟨q7, ?_⟩
      obtain ⟨q8, w⟩ := w
      refine ⟨q8, ?_⟩
      refine mo_if w (fun c104_10 w => ?_) (fun c104_10 w => ?_)
      · exact hQ _ w
      · exact hN (v2 + 1) T w
    · exact hN (v2 + 1) T w
theorem mo_m_judged_55 (l1 : Int32) {Kk Kk2 : Int32 → St → Prop} {Q Q2 : Int32 × St → Prop} (hK : ∀ (v2 : Int32) (T : St), Kk v2 T → Kk2 v2 T) (hQ : ∀ r, Q r → Q2 r) : ∀ (f : Nat) (v2 : Int32) (T : St), wp_m_judged_55 l1 Kk Q f v2 T → wp_m_judged_55 l1 Kk2 Q2 f v2 T := by
  intro f
  induction f with
  | zero => intro v2 T w; exact w.elim
  | succ f ih => intro v2 T w; exact mb_m_judged_55 l1 hK hQ ih v2 T w
theorem wr_m_judged_55 (l1 : Int32) {Kk : Int32 → St → Prop} {Q : Int32 × St → Prop} (I : Int32 → St → Prop) (m : Int32 → St → Nat) (hv : ∀ (v2 : Int32) (T : St), I v2 T → bd_m_judged_55 l1 Kk Q (fun uv2 uT => I uv2 uT ∧ m uv2 uT < m v2 T) v2 T) : ∀ (f : Nat) (v2 : Int32) (T : St), m v2 T < f → I v2 T → wp_m_judged_55 l1 Kk Q f v2 T := by
  intro f
  induction f with
  | zero => intro v2 T h; exact absurd h (Nat.not_lt_zero _)
  | succ f ih => intro v2 T h hi; exact mb_m_judged_55 l1 (fun _ _ h => h) (fun _ h => h) (fun uv2 uT g => ih uv2 uT (by omega) g.1) v2 T (hv v2 T hi)
theorem so_m_judged_55 (l1 : Int32) {K : Int32 → St → Int32 × St} {Kk Kk2 : Int32 → St → Prop} {Q : Int32 × St → Prop} (hk : ∀ (v2 : Int32) (T : St), Kk v2 T → Kk2 v2 T ∧ Q (K v2 T)) : ∀ (f : Nat) (v2 : Int32) (T : St), wp_m_judged_55 l1 Kk Q f v2 T → ok_m_judged_55 l1 Kk2 f v2 T ∧ Q (x_m_judged_55 l1 K f v2 T) := by
  intro f
  induction f with
  | zero => intro v2 T w; exact w.elim
  | succ f ih =>
    intro v2 T w
    rw [wp_m_judged_55, bd_m_judged_55] at w
    rw [ok_m_judged_55, x_m_judged_55]
    refine so_if2 (Q := Q) w (fun c60_8 w => ?_) (fun c60_8 w => ?_)
    · exact hk v2 T w
    · obtain ⟨q4, w⟩ := w
      refine so_rq q4 ?_
      refine so_if2 (Q := Q) w (fun c68_9 w => ?_) (fun c68_9 w => ?_)
      · obtain ⟨q5, w⟩ := w
        refine so_rq q5 ?_
        obtain ⟨q6, w⟩ := w
        refine so_rq q6 ?_
        obtain ⟨q7, w⟩ := w
        refine so_rq q7 ?_
        obtain ⟨q8, w⟩ := w
        refine so_rq q8 ?_
        refine so_ifF (Q := Q) w (fun c104_10 w => ?_) (fun c104_10 w => ?_)
        · exact w
        · exact ih (v2 + 1) T w
      · exact ih (v2 + 1) T w
def bd_m_judged_122 (l1 : Int32) (Kk : Int32 → St → Prop) (Q : Int32 × St → Prop) (N : Int32 → St → Prop) (v2 : Int32) (T : St) : Prop := ((((T.1 571 39) ≤ v2) → Kk v2 T) ∧ (¬ ((T.1 571 39) ≤ v2) → (ok_m_isLast T v2) ∧ ((((x_m_isLast T v2) = 0) → N (v2 + 1) T) ∧ (¬ ((x_m_isLast T v2) = 0) → (ok_m_endOf T v2) ∧ (vp_in v2 12) ∧ (ok_m_dishBy T (T.2.2.1 594 (v2 : Int32).toNatClampNeg)) ∧ (ok_m_dishOf T (x_m_dishBy T (T.2.2.1 594 (v2 : Int32).toNatClampNeg)) 0) ∧ ((((x_m_in T ((l1 - (x_m_endOf T v2) : Int32).toInt64) 0 ((x_m_dishOf T (x_m_dishBy T (T.2.2.1 594 (v2 : Int32).toNatClampNeg)) 0 : Int32).toInt64)) = 0) → Q (3 + (10 * v2), T)) ∧ (¬ ((x_m_in T ((l1 - (x_m_endOf T v2) : Int32).toInt64) 0 ((x_m_dishOf T (x_m_dishBy T (T.2.2.1 594 (v2 : Int32).toNatClampNeg)) 0 : Int32).toInt64)) = 0) → N (v2 + 1) T))))))
def wp_m_judged_122 (l1 : Int32) (Kk : Int32 → St → Prop) (Q : Int32 × St → Prop) : Nat → Int32 → St → Prop
  | 0, _, _ => False
  | f + 1, v2, T => bd_m_judged_122 l1 Kk Q (wp_m_judged_122 l1 Kk Q f) v2 T
theorem mb_m_judged_122 (l1 : Int32) {Kk Kk2 : Int32 → St → Prop} {Q Q2 : Int32 × St → Prop} {N N2 : Int32 → St → Prop} (hK : ∀ (v2 : Int32) (T : St), Kk v2 T → Kk2 v2 T) (hQ : ∀ r, Q r → Q2 r) (hN : ∀ (v2 : Int32) (T : St), N v2 T → N2 v2 T) (v2 : Int32) (T : St) (w : bd_m_judged_122 l1 Kk Q N v2 T) : bd_m_judged_122 l1 Kk2 Q2 N2 v2 T := by
  unfold bd_m_judged_122 at w ⊢
  refine mo_if w (fun c127_11 w => ?_) (fun c127_11 w => ?_)
  · exact hK v2 T w
  · obtain ⟨q9, w⟩ := w
    refine ⟨q9, ?_⟩
    refine mo_if w (fun c135_12 w => ?_) (fun c135_12 w => ?_)
    · exact hN (v2 + 1) T w
    · obtain ⟨q10, w⟩ := w
      refine ⟨q10, ?_⟩
      obtain ⟨q11, w⟩ := w
      refine ⟨q11, ?_⟩
      obtain ⟨q12, w⟩ := w
      refine ⟨q12, ?_⟩
      obtain ⟨q13, w⟩ := w
      refine ⟨q13, ?_⟩
      refine mo_if w (fun c166_13 w => ?_) (fun c166_13 w => ?_)
      · exact hQ _ w
      · exact hN (v2 + 1) T w
theorem mo_m_judged_122 (l1 : Int32) {Kk Kk2 : Int32 → St → Prop} {Q Q2 : Int32 × St → Prop} (hK : ∀ (v2 : Int32) (T : St), Kk v2 T → Kk2 v2 T) (hQ : ∀ r, Q r → Q2 r) : ∀ (f : Nat) (v2 : Int32) (T : St), wp_m_judged_122 l1 Kk Q f v2 T → wp_m_judged_122 l1 Kk2 Q2 f v2 T := by
  intro f
  induction f with
  | zero => intro v2 T w; exact w.elim
  | succ f ih => intro v2 T w; exact mb_m_judged_122 l1 hK hQ ih v2 T w
theorem wr_m_judged_122 (l1 : Int32) {Kk : Int32 → St → Prop} {Q : Int32 × St → Prop} (I : Int32 → St → Prop) (m : Int32 → St → Nat) (hv : ∀ (v2 : Int32) (T : St), I v2 T → bd_m_judged_122 l1 Kk Q (fun uv2 uT => I uv2 uT ∧ m uv2 uT < m v2 T) v2 T) : ∀ (f : Nat) (v2 : Int32) (T : St), m v2 T < f → I v2 T → wp_m_judged_122 l1 Kk Q f v2 T := by
  intro f
  induction f with
  | zero => intro v2 T h; exact absurd h (Nat.not_lt_zero _)
  | succ f ih => intro v2 T h hi; exact mb_m_judged_122 l1 (fun _ _ h => h) (fun _ h => h) (fun uv2 uT g => ih uv2 uT (by omega) g.1) v2 T (hv v2 T hi)
theorem so_m_judged_122 (l1 : Int32) {K : Int32 → St → Int32 × St} {Kk Kk2 : Int32 → St → Prop} {Q : Int32 × St → Prop} (hk : ∀ (v2 : Int32) (T : St), Kk v2 T → Kk2 v2 T ∧ Q (K v2 T)) : ∀ (f : Nat) (v2 : Int32) (T : St), wp_m_judged_122 l1 Kk Q f v2 T → ok_m_judged_122 l1 Kk2 f v2 T ∧ Q (x_m_judged_122 l1 K f v2 T) := by
  intro f
  induction f with
  | zero => intro v2 T w; exact w.elim
  | succ f ih =>
    intro v2 T w
    rw [wp_m_judged_122, bd_m_judged_122] at w
    rw [ok_m_judged_122, x_m_judged_122]
    refine so_if2 (Q := Q) w (fun c127_11 w => ?_) (fun c127_11 w => ?_)
    · exact hk v2 T w
    · obtain ⟨q9, w⟩ := w
      refine so_rq q9 ?_
      refine so_if2 (Q := Q) w (fun c135_12 w => ?_) (fun c135_12 w => ?_)
      · exact ih (v2 + 1) T w
      · obtain ⟨q10, w⟩ := w
        refine so_rq q10 ?_
        obtain ⟨q11, w⟩ := w
        refine so_rq q11 ?_
        obtain ⟨q12, w⟩ := w
        refine so_rq q12 ?_
        obtain ⟨q13, w⟩ := w
        refine so_rq q13 ?_
        refine so_ifF (Q := Q) w (fun c166_13 w => ?_) (fun c166_13 w => ?_)
        · exact w
        · exact ih (v2 + 1) T w
def bd_m_judged_190 (l1 : Int32) (Kk : Int32 → Int32 → St → Prop) (Q : Int32 × St → Prop) (N : Int32 → Int32 → St → Prop) (v2 : Int32) (v3 : Int32) (T : St) : Prop := ((((T.1 571 39) ≤ v3) → Kk v2 v3 T) ∧ (¬ ((T.1 571 39) ≤ v3) → (vp_in v3 12) ∧ (ok_m_endOf T v3) ∧ (ok_m_addStep T 0 (T.2.2.1 594 (v3 : Int32).toNatClampNeg) (T.2.2.1 595 (v3 : Int32).toNatClampNeg) ((x_m_endOf T v3) - (T.2.2.1 595 (v3 : Int32).toNatClampNeg))) ∧ jn (fun (T1 : St) => (ok_m_isFirst T1 v3) ∧ jn (fun (KJ2 : Int32 → Prop) => ((((x_m_isFirst T1 v3) = 0) → KJ2 v2) ∧ (¬ ((x_m_isFirst T1 v3) = 0) → KJ2 (T1.2.2.1 595 (v3 : Int32).toNatClampNeg)))) (fun (j2_s0 : Int32) => (ok_m_isLast T1 v3) ∧ ((((x_m_isLast T1 v3) = 0) → N j2_s0 (v3 + 1) T1) ∧ (¬ ((x_m_isLast T1 v3) = 0) → (ok_m_dishBy T1 (T1.2.2.1 594 (v3 : Int32).toNatClampNeg)) ∧ (ok_m_dishOf T1 (x_m_dishBy T1 (T1.2.2.1 594 (v3 : Int32).toNatClampNeg)) 2) ∧ ((((x_m_dishOf T1 (x_m_dishBy T1 (T1.2.2.1 594 (v3 : Int32).toNatClampNeg)) 2) = 1) → (ok_m_endOf T1 v3) ∧ (ok_m_addPan T1 0 j2_s0 (x_m_endOf T1 v3)) ∧ N j2_s0 (v3 + 1) (x_m_addPan T1 0 j2_s0 (x_m_endOf T1 v3))) ∧ (¬ ((x_m_dishOf T1 (x_m_dishBy T1 (T1.2.2.1 594 (v3 : Int32).toNatClampNeg)) 2) = 1) → N j2_s0 (v3 + 1) T1)))))) (x_m_addStep T 0 (T.2.2.1 594 (v3 : Int32).toNatClampNeg) (T.2.2.1 595 (v3 : Int32).toNatClampNeg) ((x_m_endOf T v3) - (T.2.2.1 595 (v3 : Int32).toNatClampNeg)))))
def wp_m_judged_190 (l1 : Int32) (Kk : Int32 → Int32 → St → Prop) (Q : Int32 × St → Prop) : Nat → Int32 → Int32 → St → Prop
  | 0, _, _, _ => False
  | f + 1, v2, v3, T => bd_m_judged_190 l1 Kk Q (wp_m_judged_190 l1 Kk Q f) v2 v3 T
theorem mb_m_judged_190 (l1 : Int32) {Kk Kk2 : Int32 → Int32 → St → Prop} {Q Q2 : Int32 × St → Prop} {N N2 : Int32 → Int32 → St → Prop} (hK : ∀ (v2 : Int32) (v3 : Int32) (T : St), Kk v2 v3 T → Kk2 v2 v3 T) (hQ : ∀ r, Q r → Q2 r) (hN : ∀ (v2 : Int32) (v3 : Int32) (T : St), N v2 v3 T → N2 v2 v3 T) (v2 : Int32) (v3 : Int32) (T : St) (w : bd_m_judged_190 l1 Kk Q N v2 v3 T) : bd_m_judged_190 l1 Kk2 Q2 N2 v2 v3 T := by
  unfold bd_m_judged_190 at w ⊢
  refine mo_if w (fun c195_14 w => ?_) (fun c195_14 w => ?_)
  · exact hK v2 v3 T w
  · obtain ⟨q15, w⟩ := w
    refine ⟨q15, ?_⟩
    obtain ⟨q16, w⟩ := w
    refine ⟨q16, ?_⟩
    obtain ⟨q17, w⟩ := w
    refine ⟨q17, ?_⟩
    refine mo_n w (fun T1 w => ?_)
    obtain ⟨q18, w⟩ := w
    refine ⟨q18, ?_⟩
    refine mo_jn (J := fun (KJ2 : Int32 → Prop) (WKJ2 : Int32 → Prop) => ∀ (j2_s0 : Int32), KJ2 j2_s0 → WKJ2 j2_s0) w (fun j2_s0 w => ?_) (fun KJ2 WKJ2 hJ2 w => ?_)
    · skip
      obtain ⟨q19, w⟩ := w
      refine ⟨q19, ?_⟩
      refine mo_if w (fun c251_16 w => ?_) (fun c251_16 w => ?_)
      · exact hN j2_s0 (v3 + 1) T1 w
      · obtain ⟨q20, w⟩ := w
        refine ⟨q20, ?_⟩
        obtain ⟨q21, w⟩ := w
        refine ⟨q21, ?_⟩
        refine mo_if w (fun c270_17 w => ?_) (fun c270_17 w => ?_)
        · obtain ⟨q22, w⟩ := w
          refine ⟨q22, ?_⟩
          obtain ⟨q23, w⟩ := w
          refine ⟨q23, ?_⟩
          exact hN j2_s0 (v3 + 1) (x_m_addPan T1 0 j2_s0 (x_m_endOf T1 v3)) w
        · exact hN j2_s0 (v3 + 1) T1 w
    · skip
      refine mo_if w (fun c232_18 w => ?_) (fun c232_18 w => ?_)
      · exact hJ2 v2 w
      · exact hJ2 (T1.2.2.1 595 (v3 : Int32).toNatClampNeg) w
theorem mo_m_judged_190 (l1 : Int32) {Kk Kk2 : Int32 → Int32 → St → Prop} {Q Q2 : Int32 × St → Prop} (hK : ∀ (v2 : Int32) (v3 : Int32) (T : St), Kk v2 v3 T → Kk2 v2 v3 T) (hQ : ∀ r, Q r → Q2 r) : ∀ (f : Nat) (v2 : Int32) (v3 : Int32) (T : St), wp_m_judged_190 l1 Kk Q f v2 v3 T → wp_m_judged_190 l1 Kk2 Q2 f v2 v3 T := by
  intro f
  induction f with
  | zero => intro v2 v3 T w; exact w.elim
  | succ f ih => intro v2 v3 T w; exact mb_m_judged_190 l1 hK hQ ih v2 v3 T w
theorem wr_m_judged_190 (l1 : Int32) {Kk : Int32 → Int32 → St → Prop} {Q : Int32 × St → Prop} (I : Int32 → Int32 → St → Prop) (m : Int32 → Int32 → St → Nat) (hv : ∀ (v2 : Int32) (v3 : Int32) (T : St), I v2 v3 T → bd_m_judged_190 l1 Kk Q (fun uv2 uv3 uT => I uv2 uv3 uT ∧ m uv2 uv3 uT < m v2 v3 T) v2 v3 T) : ∀ (f : Nat) (v2 : Int32) (v3 : Int32) (T : St), m v2 v3 T < f → I v2 v3 T → wp_m_judged_190 l1 Kk Q f v2 v3 T := by
  intro f
  induction f with
  | zero => intro v2 v3 T h; exact absurd h (Nat.not_lt_zero _)
  | succ f ih => intro v2 v3 T h hi; exact mb_m_judged_190 l1 (fun _ _ _ h => h) (fun _ h => h) (fun uv2 uv3 uT g => ih uv2 uv3 uT (by omega) g.1) v2 v3 T (hv v2 v3 T hi)
theorem so_m_judged_190 (l1 : Int32) {K : Int32 → Int32 → St → Int32 × St} {Kk Kk2 : Int32 → Int32 → St → Prop} {Q : Int32 × St → Prop} (hk : ∀ (v2 : Int32) (v3 : Int32) (T : St), Kk v2 v3 T → Kk2 v2 v3 T ∧ Q (K v2 v3 T)) : ∀ (f : Nat) (v2 : Int32) (v3 : Int32) (T : St), wp_m_judged_190 l1 Kk Q f v2 v3 T → ok_m_judged_190 l1 Kk2 f v2 v3 T ∧ Q (x_m_judged_190 l1 K f v2 v3 T) := by
  intro f
  induction f with
  | zero => intro v2 v3 T w; exact w.elim
  | succ f ih =>
    intro v2 v3 T w
    rw [wp_m_judged_190, bd_m_judged_190] at w
    rw [ok_m_judged_190, x_m_judged_190]
    refine so_if2 (Q := Q) w (fun c195_14 w => ?_) (fun c195_14 w => ?_)
    · exact hk v2 v3 T w
    · obtain ⟨q15, w⟩ := w
      refine so_rq q15 ?_
      obtain ⟨q16, w⟩ := w
      refine so_rq q16 ?_
      obtain ⟨q17, w⟩ := w
      refine so_rq q17 ?_
      refine so_n (Q := Q) w (fun T1 w => ?_)
      obtain ⟨q18, w⟩ := w
      refine so_rq q18 ?_
      refine so_jn (Q := Q) (J := fun (KJ2 : Int32 → Int32 × St) (OJ2 : Int32 → Prop) (WKJ2 : Int32 → Prop) => ∀ (j2_s0 : Int32), WKJ2 j2_s0 → OJ2 j2_s0 ∧ Q (KJ2 j2_s0)) w (fun j2_s0 w => ?_) (fun KJ2 OJ2 WKJ2 hJ2 w => ?_)
      · skip
        obtain ⟨q19, w⟩ := w
        refine so_rq q19 ?_
        refine so_if2 (Q := Q) w (fun c251_16 w => ?_) (fun c251_16 w => ?_)
        · exact ih j2_s0 (v3 + 1) T1 w
        · obtain ⟨q20, w⟩ := w
          refine so_rq q20 ?_
          obtain ⟨q21, w⟩ := w
          refine so_rq q21 ?_
          refine so_if2 (Q := Q) w (fun c270_17 w => ?_) (fun c270_17 w => ?_)
          · obtain ⟨q22, w⟩ := w
            refine so_rq q22 ?_
            obtain ⟨q23, w⟩ := w
            refine so_rq q23 ?_
            exact ih j2_s0 (v3 + 1) (x_m_addPan T1 0 j2_s0 (x_m_endOf T1 v3)) w
          · exact ih j2_s0 (v3 + 1) T1 w
      · skip
        refine so_if2 (Q := Q) w (fun c232_18 w => ?_) (fun c232_18 w => ?_)
        · exact hJ2 v2 w
        · exact hJ2 (T1.2.2.1 595 (v3 : Int32).toNatClampNeg) w
def wp_m_judged (T : St) (p0 : Int32) (Q : Int32 × St → Prop) : Prop := wp_m_judged_2 p0 (fun w1_2 T201 => wp_m_judged_55 p0 (fun w2_2 T202 => wp_m_judged_122 p0 (fun w3_2 T203 => (ok_m_clearLevel T203) ∧ wp_m_judged_190 p0 (fun w4_2 w4_3 T204 => (ok_m_lacks T204 0 (T204.2.2.1 575 (5 : Int32).toNatClampNeg) (T204.2.2.1 575 (203 : Int32).toNatClampNeg)) ∧ jn (fun (i2 : Int32) => (((i2 = (-1000000)) → Q (0, T204)) ∧ (¬ (i2 = (-1000000)) → Q (1000 + i2, T204)))) (x_m_lacks T204 0 (T204.2.2.1 575 (5 : Int32).toNatClampNeg) (T204.2.2.1 575 (203 : Int32).toNatClampNeg))) Q 1000 0 0 (x_m_clearLevel T203)) Q 1000 0 T202) Q 1000 0 T201) Q 1000 0 T
theorem so_m_judged {T : St} (p0 : Int32) {Q : Int32 × St → Prop} (w : wp_m_judged T p0 Q) : ok_m_judged T p0 ∧ Q (x_m_judged T p0) := by
  unfold wp_m_judged at w
  unfold ok_m_judged x_m_judged
  refine so_m_judged_2 p0 (fun w1_2 T201 w => ?_) 1000 0 T w
  refine so_m_judged_55 p0 (fun w2_2 T202 w => ?_) 1000 0 T201 w
  refine so_m_judged_122 p0 (fun w3_2 T203 w => ?_) 1000 0 T202 w
  obtain ⟨q14, w⟩ := w
  refine so_rq q14 ?_
  refine so_m_judged_190 p0 (fun w4_2 w4_3 T204 w => ?_) 1000 0 0 (x_m_clearLevel T203) w
  obtain ⟨q24, w⟩ := w
  refine so_rq q24 ?_
  refine ⟨trivial, ?_⟩
  refine so_n0 (Q := Q) w (fun i2 w => ?_)
  refine so_if0 (Q := Q) w (fun c313_19 w => ?_) (fun c313_19 w => ?_)
  · exact w
  · exact w
def bd_m_judge_88 (l1 : Int32) (l2 : Int32) (l3 : Int32) (Kk : Int32 → St → Prop) (Q : Int32 × St → Prop) (N : Int32 → St → Prop) (v4 : Int32) (T : St) : Prop := ((((T.1 571 39) ≤ v4) → Kk v4 T) ∧ (¬ ((T.1 571 39) ≤ v4) → (vp_in (((40 * l1) + l2) + v4) 320) ∧ (vp_in v4 12) ∧ jn (fun (T1 : St) => N (v4 + 1) T1) (sA T 595 (v4 : Int32).toNatClampNeg (T.2.2.1 574 (((40 * l1) + l2) + v4 : Int32).toNatClampNeg))))
def wp_m_judge_88 (l1 : Int32) (l2 : Int32) (l3 : Int32) (Kk : Int32 → St → Prop) (Q : Int32 × St → Prop) : Nat → Int32 → St → Prop
  | 0, _, _ => False
  | f + 1, v4, T => bd_m_judge_88 l1 l2 l3 Kk Q (wp_m_judge_88 l1 l2 l3 Kk Q f) v4 T
theorem mb_m_judge_88 (l1 : Int32) (l2 : Int32) (l3 : Int32) {Kk Kk2 : Int32 → St → Prop} {Q Q2 : Int32 × St → Prop} {N N2 : Int32 → St → Prop} (hK : ∀ (v4 : Int32) (T : St), Kk v4 T → Kk2 v4 T) (hQ : ∀ r, Q r → Q2 r) (hN : ∀ (v4 : Int32) (T : St), N v4 T → N2 v4 T) (v4 : Int32) (T : St) (w : bd_m_judge_88 l1 l2 l3 Kk Q N v4 T) : bd_m_judge_88 l1 l2 l3 Kk2 Q2 N2 v4 T := by
  unfold bd_m_judge_88 at w ⊢
  refine mo_if w (fun c94_7 w => ?_) (fun c94_7 w => ?_)
  · exact hK v4 T w
  · obtain ⟨q3, w⟩ := w
    refine ⟨q3, ?_⟩
    obtain ⟨q4, w⟩ := w
    refine ⟨q4, ?_⟩
    refine mo_n w (fun T1 w => ?_)
    exact hN (v4 + 1) T1 w
theorem mo_m_judge_88 (l1 : Int32) (l2 : Int32) (l3 : Int32) {Kk Kk2 : Int32 → St → Prop} {Q Q2 : Int32 × St → Prop} (hK : ∀ (v4 : Int32) (T : St), Kk v4 T → Kk2 v4 T) (hQ : ∀ r, Q r → Q2 r) : ∀ (f : Nat) (v4 : Int32) (T : St), wp_m_judge_88 l1 l2 l3 Kk Q f v4 T → wp_m_judge_88 l1 l2 l3 Kk2 Q2 f v4 T := by
  intro f
  induction f with
  | zero => intro v4 T w; exact w.elim
  | succ f ih => intro v4 T w; exact mb_m_judge_88 l1 l2 l3 hK hQ ih v4 T w
theorem wr_m_judge_88 (l1 : Int32) (l2 : Int32) (l3 : Int32) {Kk : Int32 → St → Prop} {Q : Int32 × St → Prop} (I : Int32 → St → Prop) (m : Int32 → St → Nat) (hv : ∀ (v4 : Int32) (T : St), I v4 T → bd_m_judge_88 l1 l2 l3 Kk Q (fun uv4 uT => I uv4 uT ∧ m uv4 uT < m v4 T) v4 T) : ∀ (f : Nat) (v4 : Int32) (T : St), m v4 T < f → I v4 T → wp_m_judge_88 l1 l2 l3 Kk Q f v4 T := by
  intro f
  induction f with
  | zero => intro v4 T h; exact absurd h (Nat.not_lt_zero _)
  | succ f ih => intro v4 T h hi; exact mb_m_judge_88 l1 l2 l3 (fun _ _ h => h) (fun _ h => h) (fun uv4 uT g => ih uv4 uT (by omega) g.1) v4 T (hv v4 T hi)
theorem so_m_judge_88 (l1 : Int32) (l2 : Int32) (l3 : Int32) {K : Int32 → St → Int32 × St} {Kk Kk2 : Int32 → St → Prop} {Q : Int32 × St → Prop} (hk : ∀ (v4 : Int32) (T : St), Kk v4 T → Kk2 v4 T ∧ Q (K v4 T)) : ∀ (f : Nat) (v4 : Int32) (T : St), wp_m_judge_88 l1 l2 l3 Kk Q f v4 T → ok_m_judge_88 l1 l2 l3 Kk2 f v4 T ∧ Q (x_m_judge_88 l1 l2 l3 K f v4 T) := by
  intro f
  induction f with
  | zero => intro v4 T w; exact w.elim
  | succ f ih =>
    intro v4 T w
    rw [wp_m_judge_88, bd_m_judge_88] at w
    rw [ok_m_judge_88, x_m_judge_88]
    refine so_if2 (Q := Q) w (fun c94_7 w => ?_) (fun c94_7 w => ?_)
    · exact hk v4 T w
    · obtain ⟨q3, w⟩ := w
      refine so_rq q3 ?_
      obtain ⟨q4, w⟩ := w
      refine so_rq q4 ?_
      refine so_n (Q := Q) w (fun T1 w => ?_)
      exact ih (v4 + 1) T1 w
def wp_m_judge (T : St) (p0 : Int32) (p1 : Int32) (p2 : Int32) (Q : Int32 × St → Prop) : Prop := ((((x_m_isSheet (sF T 571 0 0) p0) = 0) → Q ((-1000001), sF T 571 0 0)) ∧ (¬ ((x_m_isSheet (sF T 571 0 0) p0) = 0) → ((((x_m_isBy (sF T 571 0 0) p2) = 0) → Q ((-1000001), sF T 571 0 0)) ∧ (¬ ((x_m_isBy (sF T 571 0 0) p2) = 0) → (((((sF T 571 0 0).1 571 7) = 0) → Q ((-1000002), sF T 571 0 0)) ∧ (¬ (((sF T 571 0 0).1 571 7) = 0) → (vp_in p0 8) ∧ (((0 ≤ ((sF T 571 0 0).2.2.1 572 (p0 : Int32).toNatClampNeg)) → (ok_m_layRow (sF T 571 0 0)) ∧ (((p1 < 0) → Q ((x_m_finding (x_m_layRow (sF T 571 0 0)) 2).1, (x_m_finding (x_m_layRow (sF T 571 0 0)) 2).2)) ∧ (¬ (p1 < 0) → ((((lg_cmp (((p1 : Int32).toInt64) + (((x_m_layRow (sF T 571 0 0)).1 571 39 : Int32).toInt64)) (((x_m_layRow (sF T 571 0 0)).2.2.1 573 (p0 : Int32).toNatClampNeg : Int32).toInt64)) ≤ 0) → wp_m_judge_88 p0 p1 p2 (fun w1_4 T201 => (ok_m_judged T201 p2) ∧ Q ((x_m_judged T201 p2).1, (x_m_judged T201 p2).2)) Q 1000 0 (sF (x_m_layRow (sF T 571 0 0)) 571 1 0)) ∧ (¬ ((lg_cmp (((p1 : Int32).toInt64) + (((x_m_layRow (sF T 571 0 0)).1 571 39 : Int32).toInt64)) (((x_m_layRow (sF T 571 0 0)).2.2.1 573 (p0 : Int32).toNatClampNeg : Int32).toInt64)) ≤ 0) → Q ((x_m_finding (x_m_layRow (sF T 571 0 0)) 2).1, (x_m_finding (x_m_layRow (sF T 571 0 0)) 2).2)))))) ∧ (¬ (0 ≤ ((sF T 571 0 0).2.2.1 572 (p0 : Int32).toNatClampNeg)) → Q ((x_m_finding (sF T 571 0 0) 1).1, (x_m_finding (sF T 571 0 0) 1).2)))))))))
theorem so_m_judge {T : St} (p0 : Int32) (p1 : Int32) (p2 : Int32) {Q : Int32 × St → Prop} (w : wp_m_judge T p0 p1 p2 Q) : ok_m_judge T p0 p1 p2 ∧ Q (x_m_judge T p0 p1 p2) := by
  unfold wp_m_judge at w
  unfold ok_m_judge x_m_judge
  refine so_ifF (Q := Q) w (fun c9_1 w => ?_) (fun c9_1 w => ?_)
  · exact w
  · refine so_ifF (Q := Q) w (fun c16_2 w => ?_) (fun c16_2 w => ?_)
    · exact w
    · refine so_ifF (Q := Q) w (fun c26_3 w => ?_) (fun c26_3 w => ?_)
      · exact w
      · obtain ⟨q1, w⟩ := w
        refine so_rq q1 ?_
        refine so_ifT (Q := Q) w (fun c38_4 w => ?_) (fun c38_4 w => ?_)
        · obtain ⟨q2, w⟩ := w
          refine so_rq q2 ?_
          refine so_ifF (Q := Q) w (fun c52_5 w => ?_) (fun c52_5 w => ?_)
          · exact w
          · refine so_ifT (Q := Q) w (fun c71_6 w => ?_) (fun c71_6 w => ?_)
            · refine so_m_judge_88 p0 p1 p2 (fun w1_4 T201 w => ?_) 1000 0 (sF (x_m_layRow (sF T 571 0 0)) 571 1 0) w
              obtain ⟨q5, w⟩ := w
              refine so_rq q5 ?_
              refine ⟨trivial, ?_⟩
              exact w
            · exact w
        · exact w
def bd_m_layPlan_8  (Kk : Int32 → Int32 → St → Prop) (Q : St → Prop) (N : Int32 → Int32 → St → Prop) (v1 : Int32) (v2 : Int32) (T : St) : Prop := ((((T.1 571 39) ≤ v2) → Kk v1 v2 T) ∧ (¬ ((T.1 571 39) ≤ v2) → (vp_in v2 12) ∧ (ok_m_endOf T v2) ∧ (ok_m_addStep T 0 (T.2.2.1 594 (v2 : Int32).toNatClampNeg) (T.2.2.1 595 (v2 : Int32).toNatClampNeg) ((x_m_endOf T v2) - (T.2.2.1 595 (v2 : Int32).toNatClampNeg))) ∧ jn (fun (T1 : St) => (ok_m_isFirst T1 v2) ∧ jn (fun (KJ1 : Int32 → Prop) => ((((x_m_isFirst T1 v2) = 0) → KJ1 v1) ∧ (¬ ((x_m_isFirst T1 v2) = 0) → KJ1 (T1.2.2.1 595 (v2 : Int32).toNatClampNeg)))) (fun (j1_s0 : Int32) => (ok_m_isLast T1 v2) ∧ ((((x_m_isLast T1 v2) = 0) → N j1_s0 (v2 + 1) T1) ∧ (¬ ((x_m_isLast T1 v2) = 0) → (ok_m_dishBy T1 (T1.2.2.1 594 (v2 : Int32).toNatClampNeg)) ∧ (ok_m_dishOf T1 (x_m_dishBy T1 (T1.2.2.1 594 (v2 : Int32).toNatClampNeg)) 2) ∧ ((((x_m_dishOf T1 (x_m_dishBy T1 (T1.2.2.1 594 (v2 : Int32).toNatClampNeg)) 2) = 1) → (ok_m_endOf T1 v2) ∧ (ok_m_addPan T1 0 j1_s0 (x_m_endOf T1 v2)) ∧ N j1_s0 (v2 + 1) (x_m_addPan T1 0 j1_s0 (x_m_endOf T1 v2))) ∧ (¬ ((x_m_dishOf T1 (x_m_dishBy T1 (T1.2.2.1 594 (v2 : Int32).toNatClampNeg)) 2) = 1) → N j1_s0 (v2 + 1) T1)))))) (x_m_addStep T 0 (T.2.2.1 594 (v2 : Int32).toNatClampNeg) (T.2.2.1 595 (v2 : Int32).toNatClampNeg) ((x_m_endOf T v2) - (T.2.2.1 595 (v2 : Int32).toNatClampNeg)))))
def wp_m_layPlan_8  (Kk : Int32 → Int32 → St → Prop) (Q : St → Prop) : Nat → Int32 → Int32 → St → Prop
  | 0, _, _, _ => False
  | f + 1, v1, v2, T => bd_m_layPlan_8  Kk Q (wp_m_layPlan_8  Kk Q f) v1 v2 T
theorem mb_m_layPlan_8  {Kk Kk2 : Int32 → Int32 → St → Prop} {Q Q2 : St → Prop} {N N2 : Int32 → Int32 → St → Prop} (hK : ∀ (v1 : Int32) (v2 : Int32) (T : St), Kk v1 v2 T → Kk2 v1 v2 T) (hQ : ∀ r, Q r → Q2 r) (hN : ∀ (v1 : Int32) (v2 : Int32) (T : St), N v1 v2 T → N2 v1 v2 T) (v1 : Int32) (v2 : Int32) (T : St) (w : bd_m_layPlan_8  Kk Q N v1 v2 T) : bd_m_layPlan_8  Kk2 Q2 N2 v1 v2 T := by
  unfold bd_m_layPlan_8 at w ⊢
  refine mo_if w (fun c13_1 w => ?_) (fun c13_1 w => ?_)
  · exact hK v1 v2 T w
  · obtain ⟨q2, w⟩ := w
    refine ⟨q2, ?_⟩
    obtain ⟨q3, w⟩ := w
    refine ⟨q3, ?_⟩
    obtain ⟨q4, w⟩ := w
    refine ⟨q4, ?_⟩
    refine mo_n w (fun T1 w => ?_)
    obtain ⟨q5, w⟩ := w
    refine ⟨q5, ?_⟩
    refine mo_jn (J := fun (KJ1 : Int32 → Prop) (WKJ1 : Int32 → Prop) => ∀ (j1_s0 : Int32), KJ1 j1_s0 → WKJ1 j1_s0) w (fun j1_s0 w => ?_) (fun KJ1 WKJ1 hJ1 w => ?_)
    · skip
      obtain ⟨q6, w⟩ := w
      refine ⟨q6, ?_⟩
      refine mo_if w (fun c69_3 w => ?_) (fun c69_3 w => ?_)
      · exact hN j1_s0 (v2 + 1) T1 w
      · obtain ⟨q7, w⟩ := w
        refine ⟨q7, ?_⟩
        obtain ⟨q8, w⟩ := w
        refine ⟨q8, ?_⟩
        refine mo_if w (fun c88_4 w => ?_) (fun c88_4 w => ?_)
        · obtain ⟨q9, w⟩ := w
          refine ⟨q9, ?_⟩
          obtain ⟨q10, w⟩ := w
          refine ⟨q10, ?_⟩
          exact hN j1_s0 (v2 + 1) (x_m_addPan T1 0 j1_s0 (x_m_endOf T1 v2)) w
        · exact hN j1_s0 (v2 + 1) T1 w
    · skip
      refine mo_if w (fun c50_5 w => ?_) (fun c50_5 w => ?_)
      · exact hJ1 v1 w
      · exact hJ1 (T1.2.2.1 595 (v2 : Int32).toNatClampNeg) w
theorem mo_m_layPlan_8  {Kk Kk2 : Int32 → Int32 → St → Prop} {Q Q2 : St → Prop} (hK : ∀ (v1 : Int32) (v2 : Int32) (T : St), Kk v1 v2 T → Kk2 v1 v2 T) (hQ : ∀ r, Q r → Q2 r) : ∀ (f : Nat) (v1 : Int32) (v2 : Int32) (T : St), wp_m_layPlan_8  Kk Q f v1 v2 T → wp_m_layPlan_8  Kk2 Q2 f v1 v2 T := by
  intro f
  induction f with
  | zero => intro v1 v2 T w; exact w.elim
  | succ f ih => intro v1 v2 T w; exact mb_m_layPlan_8  hK hQ ih v1 v2 T w
theorem wr_m_layPlan_8  {Kk : Int32 → Int32 → St → Prop} {Q : St → Prop} (I : Int32 → Int32 → St → Prop) (m : Int32 → Int32 → St → Nat) (hv : ∀ (v1 : Int32) (v2 : Int32) (T : St), I v1 v2 T → bd_m_layPlan_8  Kk Q (fun uv1 uv2 uT => I uv1 uv2 uT ∧ m uv1 uv2 uT < m v1 v2 T) v1 v2 T) : ∀ (f : Nat) (v1 : Int32) (v2 : Int32) (T : St), m v1 v2 T < f → I v1 v2 T → wp_m_layPlan_8  Kk Q f v1 v2 T := by
  intro f
  induction f with
  | zero => intro v1 v2 T h; exact absurd h (Nat.not_lt_zero _)
  | succ f ih => intro v1 v2 T h hi; exact mb_m_layPlan_8  (fun _ _ _ h => h) (fun _ h => h) (fun uv1 uv2 uT g => ih uv1 uv2 uT (by omega) g.1) v1 v2 T (hv v1 v2 T hi)
theorem so_m_layPlan_8  {K : Int32 → Int32 → St → St} {Kk Kk2 : Int32 → Int32 → St → Prop} {Q : St → Prop} (hk : ∀ (v1 : Int32) (v2 : Int32) (T : St), Kk v1 v2 T → Kk2 v1 v2 T ∧ Q (K v1 v2 T)) : ∀ (f : Nat) (v1 : Int32) (v2 : Int32) (T : St), wp_m_layPlan_8  Kk Q f v1 v2 T → ok_m_layPlan_8  Kk2 f v1 v2 T ∧ Q (x_m_layPlan_8  K f v1 v2 T) := by
  intro f
  induction f with
  | zero => intro v1 v2 T w; exact w.elim
  | succ f ih =>
    intro v1 v2 T w
    rw [wp_m_layPlan_8, bd_m_layPlan_8] at w
    rw [ok_m_layPlan_8, x_m_layPlan_8]
    refine so_if2 (Q := Q) w (fun c13_1 w => ?_) (fun c13_1 w => ?_)
    · exact hk v1 v2 T w
    · obtain ⟨q2, w⟩ := w
      refine so_rq q2 ?_
      obtain ⟨q3, w⟩ := w
      refine so_rq q3 ?_
      obtain ⟨q4, w⟩ := w
      refine so_rq q4 ?_
      refine so_n (Q := Q) w (fun T1 w => ?_)
      obtain ⟨q5, w⟩ := w
      refine so_rq q5 ?_
      refine so_jn (Q := Q) (J := fun (KJ1 : Int32 → St) (OJ1 : Int32 → Prop) (WKJ1 : Int32 → Prop) => ∀ (j1_s0 : Int32), WKJ1 j1_s0 → OJ1 j1_s0 ∧ Q (KJ1 j1_s0)) w (fun j1_s0 w => ?_) (fun KJ1 OJ1 WKJ1 hJ1 w => ?_)
      · skip
        obtain ⟨q6, w⟩ := w
        refine so_rq q6 ?_
        refine so_if2 (Q := Q) w (fun c69_3 w => ?_) (fun c69_3 w => ?_)
        · exact ih j1_s0 (v2 + 1) T1 w
        · obtain ⟨q7, w⟩ := w
          refine so_rq q7 ?_
          obtain ⟨q8, w⟩ := w
          refine so_rq q8 ?_
          refine so_if2 (Q := Q) w (fun c88_4 w => ?_) (fun c88_4 w => ?_)
          · obtain ⟨q9, w⟩ := w
            refine so_rq q9 ?_
            obtain ⟨q10, w⟩ := w
            refine so_rq q10 ?_
            exact ih j1_s0 (v2 + 1) (x_m_addPan T1 0 j1_s0 (x_m_endOf T1 v2)) w
          · exact ih j1_s0 (v2 + 1) T1 w
      · skip
        refine so_if2 (Q := Q) w (fun c50_5 w => ?_) (fun c50_5 w => ?_)
        · exact hJ1 v1 w
        · exact hJ1 (T1.2.2.1 595 (v2 : Int32).toNatClampNeg) w
def wp_m_layPlan (T : St)  (Q : St → Prop) : Prop := (ok_m_clearLevel T) ∧ wp_m_layPlan_8  (fun w1_1 w1_2 T201 => Q T201) Q 1000 0 0 (x_m_clearLevel T)
theorem so_m_layPlan {T : St}  {Q : St → Prop} (w : wp_m_layPlan T  Q) : ok_m_layPlan T  ∧ Q (x_m_layPlan T ) := by
  unfold wp_m_layPlan at w
  unfold ok_m_layPlan x_m_layPlan
  obtain ⟨q1, w⟩ := w
  refine so_rq q1 ?_
  refine so_m_layPlan_8  (fun w1_1 w1_2 T201 w => ?_) 1000 0 0 (x_m_clearLevel T) w
  refine ⟨trivial, ?_⟩
  exact w
def bd_m_heat_67 (l1 : Int32) (l2 : Int32) (Kk : Int32 → St → Prop) (Q : Int32 × St → Prop) (N : Int32 → St → Prop) (v3 : Int32) (T : St) : Prop := (((v3 < 0) → Kk v3 T) ∧ (¬ (v3 < 0) → (vp_in (v3 + 1) 61) ∧ jn (fun (i2 : Int32) => jn (fun (i3 : Int32) => (vp_in v3 300) ∧ jn (fun (KJ1 : Int32 → Prop) => (((i2 ≤ (T.2.2.1 583 (v3 : Int32).toNatClampNeg)) → KJ1 (T.2.2.1 583 (v3 : Int32).toNatClampNeg)) ∧ (¬ (i2 ≤ (T.2.2.1 583 (v3 : Int32).toNatClampNeg)) → KJ1 i2))) (fun (j1_s2 : Int32) => (vp_in v3 61) ∧ (((((sA T 597 (v3 : Int32).toNatClampNeg j1_s2).2.2.1 584 (v3 : Int32).toNatClampNeg) ≤ i3) → jn (fun (T4 : St) => N (v3 + (-1)) T4) (sA (sA T 597 (v3 : Int32).toNatClampNeg j1_s2) 598 (v3 : Int32).toNatClampNeg ((sA T 597 (v3 : Int32).toNatClampNeg j1_s2).2.2.1 584 (v3 : Int32).toNatClampNeg))) ∧ (¬ (((sA T 597 (v3 : Int32).toNatClampNeg j1_s2).2.2.1 584 (v3 : Int32).toNatClampNeg) ≤ i3) → N (v3 + (-1)) (sA (sA T 597 (v3 : Int32).toNatClampNeg j1_s2) 598 (v3 : Int32).toNatClampNeg i3))))) ((T.2.2.1 598 (v3 + 1 : Int32).toNatClampNeg) + (T.2.2.1 575 (4 : Int32).toNatClampNeg))) ((T.2.2.1 597 (v3 + 1 : Int32).toNatClampNeg) - (T.2.2.1 575 (3 : Int32).toNatClampNeg))))
def wp_m_heat_67 (l1 : Int32) (l2 : Int32) (Kk : Int32 → St → Prop) (Q : Int32 × St → Prop) : Nat → Int32 → St → Prop
  | 0, _, _ => False
  | f + 1, v3, T => bd_m_heat_67 l1 l2 Kk Q (wp_m_heat_67 l1 l2 Kk Q f) v3 T
theorem mb_m_heat_67 (l1 : Int32) (l2 : Int32) {Kk Kk2 : Int32 → St → Prop} {Q Q2 : Int32 × St → Prop} {N N2 : Int32 → St → Prop} (hK : ∀ (v3 : Int32) (T : St), Kk v3 T → Kk2 v3 T) (hQ : ∀ r, Q r → Q2 r) (hN : ∀ (v3 : Int32) (T : St), N v3 T → N2 v3 T) (v3 : Int32) (T : St) (w : bd_m_heat_67 l1 l2 Kk Q N v3 T) : bd_m_heat_67 l1 l2 Kk2 Q2 N2 v3 T := by
  unfold bd_m_heat_67 at w ⊢
  refine mo_if w (fun c68_5 w => ?_) (fun c68_5 w => ?_)
  · exact hK v3 T w
  · obtain ⟨q3, w⟩ := w
    refine ⟨q3, ?_⟩
    refine mo_n w (fun i2 w => ?_)
    refine mo_n w (fun i3 w => ?_)
    obtain ⟨q4, w⟩ := w
    refine ⟨q4, ?_⟩
    refine mo_jn (J := fun (KJ1 : Int32 → Prop) (WKJ1 : Int32 → Prop) => ∀ (j1_s2 : Int32), KJ1 j1_s2 → WKJ1 j1_s2) w (fun j1_s2 w => ?_) (fun KJ1 WKJ1 hJ1 w => ?_)
    · skip
      obtain ⟨q5, w⟩ := w
      refine ⟨q5, ?_⟩
      refine mo_if w (fun c146_7 w => ?_) (fun c146_7 w => ?_)
      · refine mo_n w (fun T4 w => ?_)
        exact hN (v3 + (-1)) T4 w
      · exact hN (v3 + (-1)) (sA (sA T 597 (v3 : Int32).toNatClampNeg j1_s2) 598 (v3 : Int32).toNatClampNeg i3) w
    · skip
      refine mo_if w (fun c118_8 w => ?_) (fun c118_8 w => ?_)
      · exact hJ1 (T.2.2.1 583 (v3 : Int32).toNatClampNeg) w
      · exact hJ1 i2 w
theorem mo_m_heat_67 (l1 : Int32) (l2 : Int32) {Kk Kk2 : Int32 → St → Prop} {Q Q2 : Int32 × St → Prop} (hK : ∀ (v3 : Int32) (T : St), Kk v3 T → Kk2 v3 T) (hQ : ∀ r, Q r → Q2 r) : ∀ (f : Nat) (v3 : Int32) (T : St), wp_m_heat_67 l1 l2 Kk Q f v3 T → wp_m_heat_67 l1 l2 Kk2 Q2 f v3 T := by
  intro f
  induction f with
  | zero => intro v3 T w; exact w.elim
  | succ f ih => intro v3 T w; exact mb_m_heat_67 l1 l2 hK hQ ih v3 T w
theorem wr_m_heat_67 (l1 : Int32) (l2 : Int32) {Kk : Int32 → St → Prop} {Q : Int32 × St → Prop} (I : Int32 → St → Prop) (m : Int32 → St → Nat) (hv : ∀ (v3 : Int32) (T : St), I v3 T → bd_m_heat_67 l1 l2 Kk Q (fun uv3 uT => I uv3 uT ∧ m uv3 uT < m v3 T) v3 T) : ∀ (f : Nat) (v3 : Int32) (T : St), m v3 T < f → I v3 T → wp_m_heat_67 l1 l2 Kk Q f v3 T := by
  intro f
  induction f with
  | zero => intro v3 T h; exact absurd h (Nat.not_lt_zero _)
  | succ f ih => intro v3 T h hi; exact mb_m_heat_67 l1 l2 (fun _ _ h => h) (fun _ h => h) (fun uv3 uT g => ih uv3 uT (by omega) g.1) v3 T (hv v3 T hi)
theorem so_m_heat_67 (l1 : Int32) (l2 : Int32) {K : Int32 → St → Int32 × St} {Kk Kk2 : Int32 → St → Prop} {Q : Int32 × St → Prop} (hk : ∀ (v3 : Int32) (T : St), Kk v3 T → Kk2 v3 T ∧ Q (K v3 T)) : ∀ (f : Nat) (v3 : Int32) (T : St), wp_m_heat_67 l1 l2 Kk Q f v3 T → ok_m_heat_67 l1 l2 Kk2 f v3 T ∧ Q (x_m_heat_67 l1 l2 K f v3 T) := by
  intro f
  induction f with
  | zero => intro v3 T w; exact w.elim
  | succ f ih =>
    intro v3 T w
    rw [wp_m_heat_67, bd_m_heat_67] at w
    rw [ok_m_heat_67, x_m_heat_67]
    refine so_if2 (Q := Q) w (fun c68_5 w => ?_) (fun c68_5 w => ?_)
    · exact hk v3 T w
    · obtain ⟨q3, w⟩ := w
      refine so_rq q3 ?_
      refine so_n (Q := Q) w (fun i2 w => ?_)
      refine so_n (Q := Q) w (fun i3 w => ?_)
      obtain ⟨q4, w⟩ := w
      refine so_rq q4 ?_
      refine so_jn (Q := Q) (J := fun (KJ1 : Int32 → Int32 × St) (OJ1 : Int32 → Prop) (WKJ1 : Int32 → Prop) => ∀ (j1_s2 : Int32), WKJ1 j1_s2 → OJ1 j1_s2 ∧ Q (KJ1 j1_s2)) w (fun j1_s2 w => ?_) (fun KJ1 OJ1 WKJ1 hJ1 w => ?_)
      · skip
        obtain ⟨q5, w⟩ := w
        refine so_rq q5 ?_
        refine so_if2 (Q := Q) w (fun c146_7 w => ?_) (fun c146_7 w => ?_)
        · refine so_n (Q := Q) w (fun T4 w => ?_)
          exact ih (v3 + (-1)) T4 w
        · exact ih (v3 + (-1)) (sA (sA T 597 (v3 : Int32).toNatClampNeg j1_s2) 598 (v3 : Int32).toNatClampNeg i3) w
      · skip
        refine so_if2 (Q := Q) w (fun c118_8 w => ?_) (fun c118_8 w => ?_)
        · exact hJ1 (T.2.2.1 583 (v3 : Int32).toNatClampNeg) w
        · exact hJ1 i2 w
def bd_m_heat_172 (l1 : Int32) (l2 : Int32) (Kk : Int32 → Int32 → St → Prop) (Q : Int32 × St → Prop) (N : Int32 → Int32 → St → Prop) (v3 : Int32) (v4 : Int32) (T : St) : Prop := (((l2 < v4) → Kk v3 v4 T) ∧ (¬ (l2 < v4) → jn (fun (i5 : Int32) => (vp_in v4 61) ∧ (((i5 ≤ (T.2.2.1 597 (v4 : Int32).toNatClampNeg)) → jn (fun (i6 : Int32) => N i6 (v4 + 1) T) (T.2.2.1 597 (v4 : Int32).toNatClampNeg)) ∧ (¬ (i5 ≤ (T.2.2.1 597 (v4 : Int32).toNatClampNeg)) → N i5 (v4 + 1) T))) (v3 - (T.2.2.1 575 (4 : Int32).toNatClampNeg))))
def wp_m_heat_172 (l1 : Int32) (l2 : Int32) (Kk : Int32 → Int32 → St → Prop) (Q : Int32 × St → Prop) : Nat → Int32 → Int32 → St → Prop
  | 0, _, _, _ => False
  | f + 1, v3, v4, T => bd_m_heat_172 l1 l2 Kk Q (wp_m_heat_172 l1 l2 Kk Q f) v3 v4 T
theorem mb_m_heat_172 (l1 : Int32) (l2 : Int32) {Kk Kk2 : Int32 → Int32 → St → Prop} {Q Q2 : Int32 × St → Prop} {N N2 : Int32 → Int32 → St → Prop} (hK : ∀ (v3 : Int32) (v4 : Int32) (T : St), Kk v3 v4 T → Kk2 v3 v4 T) (hQ : ∀ r, Q r → Q2 r) (hN : ∀ (v3 : Int32) (v4 : Int32) (T : St), N v3 v4 T → N2 v3 v4 T) (v3 : Int32) (v4 : Int32) (T : St) (w : bd_m_heat_172 l1 l2 Kk Q N v3 v4 T) : bd_m_heat_172 l1 l2 Kk2 Q2 N2 v3 v4 T := by
  unfold bd_m_heat_172 at w ⊢
  refine mo_if w (fun c175_9 w => ?_) (fun c175_9 w => ?_)
  · exact hK v3 v4 T w
  · refine mo_n w (fun i5 w => ?_)
    obtain ⟨q6, w⟩ := w
    refine ⟨q6, ?_⟩
    refine mo_if w (fun c197_10 w => ?_) (fun c197_10 w => ?_)
    · refine mo_n w (fun i6 w => ?_)
      exact hN i6 (v4 + 1) T w
    · exact hN i5 (v4 + 1) T w
theorem mo_m_heat_172 (l1 : Int32) (l2 : Int32) {Kk Kk2 : Int32 → Int32 → St → Prop} {Q Q2 : Int32 × St → Prop} (hK : ∀ (v3 : Int32) (v4 : Int32) (T : St), Kk v3 v4 T → Kk2 v3 v4 T) (hQ : ∀ r, Q r → Q2 r) : ∀ (f : Nat) (v3 : Int32) (v4 : Int32) (T : St), wp_m_heat_172 l1 l2 Kk Q f v3 v4 T → wp_m_heat_172 l1 l2 Kk2 Q2 f v3 v4 T := by
  intro f
  induction f with
  | zero => intro v3 v4 T w; exact w.elim
  | succ f ih => intro v3 v4 T w; exact mb_m_heat_172 l1 l2 hK hQ ih v3 v4 T w
theorem wr_m_heat_172 (l1 : Int32) (l2 : Int32) {Kk : Int32 → Int32 → St → Prop} {Q : Int32 × St → Prop} (I : Int32 → Int32 → St → Prop) (m : Int32 → Int32 → St → Nat) (hv : ∀ (v3 : Int32) (v4 : Int32) (T : St), I v3 v4 T → bd_m_heat_172 l1 l2 Kk Q (fun uv3 uv4 uT => I uv3 uv4 uT ∧ m uv3 uv4 uT < m v3 v4 T) v3 v4 T) : ∀ (f : Nat) (v3 : Int32) (v4 : Int32) (T : St), m v3 v4 T < f → I v3 v4 T → wp_m_heat_172 l1 l2 Kk Q f v3 v4 T := by
  intro f
  induction f with
  | zero => intro v3 v4 T h; exact absurd h (Nat.not_lt_zero _)
  | succ f ih => intro v3 v4 T h hi; exact mb_m_heat_172 l1 l2 (fun _ _ _ h => h) (fun _ h => h) (fun uv3 uv4 uT g => ih uv3 uv4 uT (by omega) g.1) v3 v4 T (hv v3 v4 T hi)
theorem so_m_heat_172 (l1 : Int32) (l2 : Int32) {K : Int32 → Int32 → St → Int32 × St} {Kk Kk2 : Int32 → Int32 → St → Prop} {Q : Int32 × St → Prop} (hk : ∀ (v3 : Int32) (v4 : Int32) (T : St), Kk v3 v4 T → Kk2 v3 v4 T ∧ Q (K v3 v4 T)) : ∀ (f : Nat) (v3 : Int32) (v4 : Int32) (T : St), wp_m_heat_172 l1 l2 Kk Q f v3 v4 T → ok_m_heat_172 l1 l2 Kk2 f v3 v4 T ∧ Q (x_m_heat_172 l1 l2 K f v3 v4 T) := by
  intro f
  induction f with
  | zero => intro v3 v4 T w; exact w.elim
  | succ f ih =>
    intro v3 v4 T w
    rw [wp_m_heat_172, bd_m_heat_172] at w
    rw [ok_m_heat_172, x_m_heat_172]
    refine so_if2 (Q := Q) w (fun c175_9 w => ?_) (fun c175_9 w => ?_)
    · exact hk v3 v4 T w
    · refine so_n (Q := Q) w (fun i5 w => ?_)
      obtain ⟨q6, w⟩ := w
      refine so_rq q6 ?_
      refine so_if2 (Q := Q) w (fun c197_10 w => ?_) (fun c197_10 w => ?_)
      · refine so_n (Q := Q) w (fun i6 w => ?_)
        exact ih i6 (v4 + 1) T w
      · exact ih i5 (v4 + 1) T w
def wp_m_heat (T : St) (p0 : Int32) (p1 : Int32) (Q : Int32 × St → Prop) : Prop := ((((x_m_isBy (sF T 571 0 0) p0) = 0) → Q ((-1000001), sF T 571 0 0)) ∧ (¬ ((x_m_isBy (sF T 571 0 0) p0) = 0) → ((((x_m_isMinute (sF T 571 0 0) p1) = 0) → Q ((-1000001), sF T 571 0 0)) ∧ (¬ ((x_m_isMinute (sF T 571 0 0) p1) = 0) → (((((sF T 571 0 0).1 571 7) = 0) → Q ((-1000002), sF T 571 0 0)) ∧ (¬ (((sF T 571 0 0).1 571 7) = 0) → (ok_m_know (sF T 571 0 0) p0) ∧ (((((x_m_know (sF T 571 0 0) p0).1) = 0) → Q ((-1000000), (x_m_know (sF T 571 0 0) p0).2)) ∧ (¬ (((x_m_know (sF T 571 0 0) p0).1) = 0) → (ok_m_layPlan ((x_m_know (sF T 571 0 0) p0).2)) ∧ jn (fun (T1 : St) => wp_m_heat_67 p0 p1 (fun w1_3 T201 => wp_m_heat_172 p0 p1 (fun w2_3 w2_4 T202 => Q (w2_3, T202)) Q 1000 0 0 T201) Q 1000 59 T1) (sA (sA (x_m_layPlan ((x_m_know (sF T 571 0 0) p0).2)) 597 (60 : Int32).toNatClampNeg 0) 598 (60 : Int32).toNatClampNeg 9)))))))))
theorem so_m_heat {T : St} (p0 : Int32) (p1 : Int32) {Q : Int32 × St → Prop} (w : wp_m_heat T p0 p1 Q) : ok_m_heat T p0 p1 ∧ Q (x_m_heat T p0 p1) := by
  unfold wp_m_heat at w
  unfold ok_m_heat x_m_heat
  refine so_ifF (Q := Q) w (fun c9_1 w => ?_) (fun c9_1 w => ?_)
  · exact w
  · refine so_ifF (Q := Q) w (fun c16_2 w => ?_) (fun c16_2 w => ?_)
    · exact w
    · refine so_ifF (Q := Q) w (fun c26_3 w => ?_) (fun c26_3 w => ?_)
      · exact w
      · obtain ⟨q1, w⟩ := w
        refine so_rq q1 ?_
        refine so_ifF (Q := Q) w (fun c37_4 w => ?_) (fun c37_4 w => ?_)
        · exact w
        · obtain ⟨q2, w⟩ := w
          refine so_rq q2 ?_
          refine so_n (Q := Q) w (fun T1 w => ?_)
          refine so_m_heat_67 p0 p1 (fun w1_3 T201 w => ?_) 1000 59 T1 w
          refine so_m_heat_172 p0 p1 (fun w2_3 w2_4 T202 w => ?_) 1000 0 0 T201 w
          refine ⟨trivial, ?_⟩
          exact w
