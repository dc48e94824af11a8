/-! ===== what is wanted of a run so that a thing holds at its end ===== -/
section SO
variable {ρ : Type} {A B C : Prop}
theorem so_rq (h : A) (k : B ∧ C) : (A ∧ B) ∧ C := ⟨⟨h, k.1⟩, k.2⟩
theorem so_if2 {Q : ρ → Prop} {c w1 w2 o1 o2 : Prop} [Decidable c] {a b : ρ} (w : (c → w1) ∧ (¬ c → w2)) (h1 : c → w1 → o1 ∧ Q a) (h2 : ¬ c → w2 → o2 ∧ Q b) : ((c → o1) ∧ (¬ c → o2)) ∧ Q (if c then a else b) := by
  by_cases h : c
  · rw [if_pos h]; exact ⟨⟨fun _ => (h1 h (w.1 h)).1, fun n => absurd h n⟩, (h1 h (w.1 h)).2⟩
  · rw [if_neg h]; exact ⟨⟨fun n => absurd n h, fun _ => (h2 h (w.2 h)).1⟩, (h2 h (w.2 h)).2⟩
theorem so_ifT {Q : ρ → Prop} {c w1 w2 o1 : Prop} [Decidable c] {a b : ρ} (w : (c → w1) ∧ (¬ c → w2)) (h1 : c → w1 → o1 ∧ Q a) (h2 : ¬ c → w2 → Q b) : (c → o1) ∧ Q (if c then a else b) := by
  by_cases h : c
  · rw [if_pos h]; exact ⟨fun _ => (h1 h (w.1 h)).1, (h1 h (w.1 h)).2⟩
  · rw [if_neg h]; exact ⟨fun n => absurd n h, h2 h (w.2 h)⟩
theorem so_ifF {Q : ρ → Prop} {c w1 w2 o2 : Prop} [Decidable c] {a b : ρ} (w : (c → w1) ∧ (¬ c → w2)) (h1 : c → w1 → Q a) (h2 : ¬ c → w2 → o2 ∧ Q b) : (¬ c → o2) ∧ Q (if c then a else b) := by
  by_cases h : c
  · rw [if_pos h]; exact ⟨fun n => absurd h n, h1 h (w.1 h)⟩
  · rw [if_neg h]; exact ⟨fun _ => (h2 h (w.2 h)).1, (h2 h (w.2 h)).2⟩
theorem so_if0 {Q : ρ → Prop} {c w1 w2 : Prop} [Decidable c] {a b : ρ} (w : (c → w1) ∧ (¬ c → w2)) (h1 : c → w1 → Q a) (h2 : ¬ c → w2 → Q b) : Q (if c then a else b) := by
  by_cases h : c
  · rw [if_pos h]; exact h1 h (w.1 h)
  · rw [if_neg h]; exact h2 h (w.2 h)
theorem so_n {Q : ρ → Prop} {α : Type} {x : α} {wf g : α → Prop} {f : α → ρ} (w : jn wf x) (k : ∀ y, wf y → g y ∧ Q (f y)) : jn g x ∧ Q (jn f x) := k x w
theorem so_n0 {Q : ρ → Prop} {α : Type} {x : α} {wf : α → Prop} {f : α → ρ} (w : jn wf x) (k : ∀ y, wf y → Q (f y)) : Q (jn f x) := k x w
theorem so_jn {Q : ρ → Prop} {κ ο ω : Type} {f : κ → ρ} {g : ο → Prop} {wf : ω → Prop} {K0 : κ} {O0 : ο} {W0 : ω} {J : κ → ο → ω → Prop} (w : jn wf W0) (hJ : J K0 O0 W0) (k : ∀ K O W, J K O W → wf W → g O ∧ Q (f K)) : jn g O0 ∧ Q (jn f K0) := k K0 O0 W0 hJ w
theorem so_jn1 {Q : ρ → Prop} {κ ω : Type} {f : κ → ρ} {g : Prop} {wf : ω → Prop} {K0 : κ} {W0 : ω} {J : κ → ω → Prop} (w : jn wf W0) (hJ : J K0 W0) (k : ∀ K W, J K W → wf W → g ∧ Q (f K)) : g ∧ Q (jn f K0) := k K0 W0 hJ w
theorem so_jn0 {Q : ρ → Prop} {κ ω : Type} {f : κ → ρ} {wf : ω → Prop} {K0 : κ} {W0 : ω} {J : κ → ω → Prop} (w : jn wf W0) (hJ : J K0 W0) (k : ∀ K W, J K W → wf W → Q (f K)) : Q (jn f K0) := k K0 W0 hJ w
theorem mo_if {c w1 w2 v1 v2 : Prop} (w : (c → w1) ∧ (¬ c → w2)) (h1 : c → w1 → v1) (h2 : ¬ c → w2 → v2) : (c → v1) ∧ (¬ c → v2) := ⟨fun h => h1 h (w.1 h), fun h => h2 h (w.2 h)⟩
theorem mo_n {α : Type} {x : α} {g g2 : α → Prop} (w : jn g x) (k : ∀ y, g y → g2 y) : jn g2 x := k x w
theorem mo_jn {κ ω : Type} {g : κ → Prop} {g2 : ω → Prop} {K0 : κ} {W0 : ω} {J : κ → ω → Prop} (w : jn g K0) (hJ : J K0 W0) (k : ∀ K W, J K W → g K → g2 W) : jn g2 W0 := k K0 W0 hJ w
end SO
def wp_ask_isKind (T : St) (p0 : Int32) (p1 : Int32) (Q : Int32 → Prop) : Prop := (((p0 = p1) → Q 1) ∧ (¬ (p0 = p1) → (vp_in p0 7) ∧ ((((([0, 0, 0, 0, 0, 4, 1] : List Int32).getD (p0 : Int32).toNatClampNeg 0) = p1) → Q 1) ∧ (¬ ((([0, 0, 0, 0, 0, 4, 1] : List Int32).getD (p0 : Int32).toNatClampNeg 0) = p1) → (((p1 = 0) → Q 1) ∧ (¬ (p1 = 0) → Q 0))))))
theorem so_ask_isKind {T : St} (p0 : Int32) (p1 : Int32) {Q : Int32 → Prop} (w : wp_ask_isKind T p0 p1 Q) : ok_ask_isKind T p0 p1 ∧ Q (x_ask_isKind T p0 p1) := by
  unfold wp_ask_isKind at w
  unfold ok_ask_isKind x_ask_isKind
  refine so_ifF (Q := Q) w (fun c2_1 w => ?_) (fun c2_1 w => ?_)
  · exact w
  · obtain ⟨q1, w⟩ := w
    refine so_rq q1 ?_
    refine ⟨trivial, ?_⟩
    refine so_if0 (Q := Q) w (fun c11_2 w => ?_) (fun c11_2 w => ?_)
    · exact w
    · refine so_if0 (Q := Q) w (fun c15_3 w => ?_) (fun c15_3 w => ?_)
      · exact w
      · exact w
def wp_ask_begin (T : St) (p0 : Int32) (Q : St → Prop) : Prop := (((16 ≤ (T.1 555 1)) → Q T) ∧ (¬ (16 ≤ (T.1 555 1)) → (vp_in (T.1 555 1) 16) ∧ Q (sF (sA T 556 (T.1 555 1 : Int32).toNatClampNeg p0) 555 1 (((sA T 556 (T.1 555 1 : Int32).toNatClampNeg p0).1 555 1) + 1))))
theorem so_ask_begin {T : St} (p0 : Int32) {Q : St → Prop} (w : wp_ask_begin T p0 Q) : ok_ask_begin T p0 ∧ Q (x_ask_begin T p0) := by
  unfold wp_ask_begin at w
  unfold ok_ask_begin x_ask_begin
  refine so_ifF (Q := Q) w (fun c6_1 w => ?_) (fun c6_1 w => ?_)
  · exact w
  · obtain ⟨q1, w⟩ := w
    refine so_rq q1 ?_
    refine ⟨trivial, ?_⟩
    exact w
def wp_ask_sizeOfAny (T : St) (p0 : Nat) (p1 : Int32) (Q : Int32 × St → Prop) : Prop := (ok_ask_begin T 10) ∧ (sh p0 = .inr 1) ∧ (vp_in p1 24) ∧ Q ((x_ask_begin T 10).2.2.1 (p0 + 10) (p1 : Int32).toNatClampNeg, x_ask_begin T 10)
theorem so_ask_sizeOfAny {T : St} (p0 : Nat) (p1 : Int32) {Q : Int32 × St → Prop} (w : wp_ask_sizeOfAny T p0 p1 Q) : ok_ask_sizeOfAny T p0 p1 ∧ Q (x_ask_sizeOfAny T p0 p1) := by
  unfold wp_ask_sizeOfAny at w
  unfold ok_ask_sizeOfAny x_ask_sizeOfAny
  obtain ⟨q1, w⟩ := w
  refine so_rq q1 ?_
  obtain ⟨q2, w⟩ := w
  refine so_rq q2 ?_
  obtain ⟨q3, w⟩ := w
  refine so_rq q3 ?_
  refine ⟨trivial, ?_⟩
  exact w
def wp_ask_sizeOfRinged (T : St) (p0 : Nat) (p1 : Int32) (Q : Int32 × St → Prop) : Prop := (ok_ask_begin T 11) ∧ (ok_ask_sizeOfAny (x_ask_begin T 11) p0 p1) ∧ (sh p0 = .inr 1) ∧ (vp_in p1 24) ∧ Q (((x_ask_sizeOfAny (x_ask_begin T 11) p0 p1).1) + (10 * (((x_ask_sizeOfAny (x_ask_begin T 11) p0 p1).2).2.2.1 (p0 + 13) (p1 : Int32).toNatClampNeg)), (x_ask_sizeOfAny (x_ask_begin T 11) p0 p1).2)
theorem so_ask_sizeOfRinged {T : St} (p0 : Nat) (p1 : Int32) {Q : Int32 × St → Prop} (w : wp_ask_sizeOfRinged T p0 p1 Q) : ok_ask_sizeOfRinged T p0 p1 ∧ Q (x_ask_sizeOfRinged T p0 p1) := by
  unfold wp_ask_sizeOfRinged at w
  unfold ok_ask_sizeOfRinged x_ask_sizeOfRinged
  obtain ⟨q1, w⟩ := w
  refine so_rq q1 ?_
  obtain ⟨q2, w⟩ := w
  refine so_rq q2 ?_
  obtain ⟨q3, w⟩ := w
  refine so_rq q3 ?_
  obtain ⟨q4, w⟩ := w
  refine so_rq q4 ?_
  refine ⟨trivial, ?_⟩
  exact w
def wp_ask_markOfAny (T : St) (p0 : Int32) (Q : Int32 × St → Prop) : Prop := (ok_ask_begin T 20) ∧ Q (p0, x_ask_begin T 20)
theorem so_ask_markOfAny {T : St} (p0 : Int32) {Q : Int32 × St → Prop} (w : wp_ask_markOfAny T p0 Q) : ok_ask_markOfAny T p0 ∧ Q (x_ask_markOfAny T p0) := by
  unfold wp_ask_markOfAny at w
  unfold ok_ask_markOfAny x_ask_markOfAny
  obtain ⟨q1, w⟩ := w
  refine so_rq q1 ?_
  refine ⟨trivial, ?_⟩
  exact w
def wp_ask_markOfRested (T : St) (p0 : Int32) (Q : Int32 × St → Prop) : Prop := (ok_ask_begin T 21) ∧ (ok_ask_markOfAny (x_ask_begin T 21) p0) ∧ Q (((x_ask_markOfAny (x_ask_begin T 21) p0).1) + 50, (x_ask_markOfAny (x_ask_begin T 21) p0).2)
theorem so_ask_markOfRested {T : St} (p0 : Int32) {Q : Int32 × St → Prop} (w : wp_ask_markOfRested T p0 Q) : ok_ask_markOfRested T p0 ∧ Q (x_ask_markOfRested T p0) := by
  unfold wp_ask_markOfRested at w
  unfold ok_ask_markOfRested x_ask_markOfRested
  obtain ⟨q1, w⟩ := w
  refine so_rq q1 ?_
  obtain ⟨q2, w⟩ := w
  refine so_rq q2 ?_
  refine ⟨trivial, ?_⟩
  exact w
def wp_bk_clear (T : St) (a : Nat) (Q : St → Prop) : Prop := (sh a = .inr 1) ∧ Q (sF (sF (sF (sF (sF T a 1 0) a 4 0) a 10 0) a 17 1) a 18 60)
theorem so_bk_clear {T : St} (a : Nat) {Q : St → Prop} (w : wp_bk_clear T a Q) : ok_bk_clear T a ∧ Q (x_bk_clear T a) := by
  unfold wp_bk_clear at w
  unfold ok_bk_clear x_bk_clear
  obtain ⟨q1, w⟩ := w
  refine so_rq q1 ?_
  refine ⟨trivial, ?_⟩
  exact w
def wp_bk_take (T : St) (a : Nat) (p0 : Nat) (Q : St → Prop) : Prop := (sh p0 = .inr 1) ∧ (sh a = .inr 1) ∧ (cpok 0 0 (Int32.ofNat 7) 7 7) ∧ jn (fun (T1 : St) => (cpok 0 0 4 4 4) ∧ jn (fun (T2 : St) => jn (fun (T3 : St) => (cpok 0 0 8 8 8) ∧ jn (fun (T4 : St) => jn (fun (T5 : St) => jn (fun (T6 : St) => jn (fun (T7 : St) => jn (fun (T8 : St) => (cpok 0 0 24 24 24) ∧ jn (fun (T9 : St) => jn (fun (T10 : St) => jn (fun (T11 : St) => jn (fun (T12 : St) => jn (fun (T13 : St) => jn (fun (T14 : St) => Q (sF (sF T14 a 17 (T14.1 p0 17)) a 18 ((sF T14 a 17 (T14.1 p0 17)).1 p0 18))) (sAr T13 (a + 14) (va_cpy (T13.2.2.1 (p0 + 14)) (T13.2.2.1 (a + 14)) (0 : Int32).toNatClampNeg (0 : Int32).toNatClampNeg (24 : Int32).toNatClampNeg))) (sAr T12 (a + 13) (va_cpy (T12.2.2.1 (p0 + 13)) (T12.2.2.1 (a + 13)) (0 : Int32).toNatClampNeg (0 : Int32).toNatClampNeg (24 : Int32).toNatClampNeg))) (sAr T11 (a + 12) (va_cpy (T11.2.2.1 (p0 + 12)) (T11.2.2.1 (a + 12)) (0 : Int32).toNatClampNeg (0 : Int32).toNatClampNeg (24 : Int32).toNatClampNeg))) (sAr T10 (a + 11) (va_cpy (T10.2.2.1 (p0 + 11)) (T10.2.2.1 (a + 11)) (0 : Int32).toNatClampNeg (0 : Int32).toNatClampNeg (24 : Int32).toNatClampNeg))) (sAr T9 (a + 10) (va_cpy (T9.2.2.1 (p0 + 10)) (T9.2.2.1 (a + 10)) (0 : Int32).toNatClampNeg (0 : Int32).toNatClampNeg (24 : Int32).toNatClampNeg))) (sAr (sF T8 a 10 (T8.1 p0 10)) (a + 9) (va_cpy ((sF T8 a 10 (T8.1 p0 10)).2.2.1 (p0 + 9)) ((sF T8 a 10 (T8.1 p0 10)).2.2.1 (a + 9)) (0 : Int32).toNatClampNeg (0 : Int32).toNatClampNeg (24 : Int32).toNatClampNeg))) (sAr T7 (a + 8) (va_cpy (T7.2.2.1 (p0 + 8)) (T7.2.2.1 (a + 8)) (0 : Int32).toNatClampNeg (0 : Int32).toNatClampNeg (8 : Int32).toNatClampNeg))) (sAr T6 (a + 7) (va_cpy (T6.2.2.1 (p0 + 7)) (T6.2.2.1 (a + 7)) (0 : Int32).toNatClampNeg (0 : Int32).toNatClampNeg (8 : Int32).toNatClampNeg))) (sAr T5 (a + 6) (va_cpy (T5.2.2.1 (p0 + 6)) (T5.2.2.1 (a + 6)) (0 : Int32).toNatClampNeg (0 : Int32).toNatClampNeg (8 : Int32).toNatClampNeg))) (sAr T4 (a + 5) (va_cpy (T4.2.2.1 (p0 + 5)) (T4.2.2.1 (a + 5)) (0 : Int32).toNatClampNeg (0 : Int32).toNatClampNeg (8 : Int32).toNatClampNeg))) (sAr (sF T3 a 4 (T3.1 p0 4)) (a + 4) (va_cpy ((sF T3 a 4 (T3.1 p0 4)).2.2.1 (p0 + 4)) ((sF T3 a 4 (T3.1 p0 4)).2.2.1 (a + 4)) (0 : Int32).toNatClampNeg (0 : Int32).toNatClampNeg (8 : Int32).toNatClampNeg))) (sAr T2 (a + 3) (va_cpy (T2.2.2.1 (p0 + 3)) (T2.2.2.1 (a + 3)) (0 : Int32).toNatClampNeg (0 : Int32).toNatClampNeg (4 : Int32).toNatClampNeg))) (sAr (sF T1 a 1 (T1.1 p0 1)) (a + 2) (va_cpy ((sF T1 a 1 (T1.1 p0 1)).2.2.1 (p0 + 2)) ((sF T1 a 1 (T1.1 p0 1)).2.2.1 (a + 2)) (0 : Int32).toNatClampNeg (0 : Int32).toNatClampNeg (4 : Int32).toNatClampNeg))) (sAr T (a + 1) (va_cpy (T.2.2.1 (p0 + 1)) (T.2.2.1 (a + 1)) (0 : Int32).toNatClampNeg (0 : Int32).toNatClampNeg ((Int32.ofNat 7) : Int32).toNatClampNeg))
theorem so_bk_take {T : St} (a : Nat) (p0 : Nat) {Q : St → Prop} (w : wp_bk_take T a p0 Q) : ok_bk_take T a p0 ∧ Q (x_bk_take T a p0) := by
  unfold wp_bk_take at w
  unfold ok_bk_take x_bk_take
  obtain ⟨q1, w⟩ := w
  refine so_rq q1 ?_
  obtain ⟨q2, w⟩ := w
  refine so_rq q2 ?_
  obtain ⟨q3, w⟩ := w
  refine so_rq q3 ?_
  refine so_n (Q := Q) w (fun T1 w => ?_)
  obtain ⟨q4, w⟩ := w
  refine so_rq q4 ?_
  refine so_n (Q := Q) w (fun T2 w => ?_)
  refine so_n (Q := Q) w (fun T3 w => ?_)
  obtain ⟨q5, w⟩ := w
  refine so_rq q5 ?_
  refine so_n (Q := Q) w (fun T4 w => ?_)
  refine so_n (Q := Q) w (fun T5 w => ?_)
  refine so_n (Q := Q) w (fun T6 w => ?_)
  refine so_n (Q := Q) w (fun T7 w => ?_)
  refine so_n (Q := Q) w (fun T8 w => ?_)
  obtain ⟨q6, w⟩ := w
  refine so_rq q6 ?_
  refine ⟨trivial, ?_⟩
  refine so_n0 (Q := Q) w (fun T9 w => ?_)
  refine so_n0 (Q := Q) w (fun T10 w => ?_)
  refine so_n0 (Q := Q) w (fun T11 w => ?_)
  refine so_n0 (Q := Q) w (fun T12 w => ?_)
  refine so_n0 (Q := Q) w (fun T13 w => ?_)
  refine so_n0 (Q := Q) w (fun T14 w => ?_)
  exact w
def wp_bk_isRead (T : St) (a : Nat) (Q : Int32 → Prop) : Prop := (sh a = .inr 1) ∧ ((((T.1 a 4) ≤ 0) → Q 0) ∧ (¬ ((T.1 a 4) ≤ 0) → Q 1))
theorem so_bk_isRead {T : St} (a : Nat) {Q : Int32 → Prop} (w : wp_bk_isRead T a Q) : ok_bk_isRead T a ∧ Q (x_bk_isRead T a) := by
  unfold wp_bk_isRead at w
  unfold ok_bk_isRead x_bk_isRead
  obtain ⟨q1, w⟩ := w
  refine so_rq q1 ?_
  refine ⟨trivial, ?_⟩
  refine so_if0 (Q := Q) w (fun c4_1 w => ?_) (fun c4_1 w => ?_)
  · exact w
  · exact w
def wp_bk_hasStep (T : St) (a : Nat) (p0 : Int32) (Q : Int32 → Prop) : Prop := (((p0 < 0) → Q 0) ∧ (¬ (p0 < 0) → (sh a = .inr 1) ∧ ((((T.1 a 10) ≤ p0) → Q 0) ∧ (¬ ((T.1 a 10) ≤ p0) → Q 1))))
theorem so_bk_hasStep {T : St} (a : Nat) (p0 : Int32) {Q : Int32 → Prop} (w : wp_bk_hasStep T a p0 Q) : ok_bk_hasStep T a p0 ∧ Q (x_bk_hasStep T a p0) := by
  unfold wp_bk_hasStep at w
  unfold ok_bk_hasStep x_bk_hasStep
  refine so_ifF (Q := Q) w (fun c1_1 w => ?_) (fun c1_1 w => ?_)
  · exact w
  · obtain ⟨q1, w⟩ := w
    refine so_rq q1 ?_
    refine ⟨trivial, ?_⟩
    refine so_if0 (Q := Q) w (fun c9_2 w => ?_) (fun c9_2 w => ?_)
    · exact w
    · exact w
def wp_bk_allDishes (T : St) (a : Nat) (Q : Int32 → Prop) : Prop := (sh a = .inr 1) ∧ Q ((1 <<< ((T.1 a 4) &&& 31)) - 1)
theorem so_bk_allDishes {T : St} (a : Nat) {Q : Int32 → Prop} (w : wp_bk_allDishes T a Q) : ok_bk_allDishes T a ∧ Q (x_bk_allDishes T a) := by
  unfold wp_bk_allDishes at w
  unfold ok_bk_allDishes x_bk_allDishes
  obtain ⟨q1, w⟩ := w
  refine so_rq q1 ?_
  refine ⟨trivial, ?_⟩
  exact w
def bd_bk_dinnerSteps_4 (T : St) (l0 : Nat) (Kk : Int32 → Int32 → Prop) (Q : Int32 → Prop) (N : Int32 → Int32 → Prop) (v1 : Int32) (v2 : Int32) : Prop := (sh l0 = .inr 1) ∧ ((((T.1 l0 4) ≤ v2) → Kk v1 v2) ∧ (¬ ((T.1 l0 4) ≤ v2) → ((((((T.1 l0 17) >>> (v2 &&& 31)) &&& 1) = 0) → N v1 (v2 + 1)) ∧ (¬ ((((T.1 l0 17) >>> (v2 &&& 31)) &&& 1) = 0) → (vp_in v2 8) ∧ jn (fun (i1 : Int32) => N i1 (v2 + 1)) (v1 + (T.2.2.1 (l0 + 7) (v2 : Int32).toNatClampNeg))))))
def wp_bk_dinnerSteps_4 (T : St) (l0 : Nat) (Kk : Int32 → Int32 → Prop) (Q : Int32 → Prop) : Nat → Int32 → Int32 → Prop
  | 0, _, _ => False
  | f + 1, v1, v2 => bd_bk_dinnerSteps_4 T l0 Kk Q (wp_bk_dinnerSteps_4 T l0 Kk Q f) v1 v2
theorem mb_bk_dinnerSteps_4 (T : St) (l0 : Nat) {Kk Kk2 : Int32 → Int32 → Prop} {Q Q2 : Int32 → Prop} {N N2 : Int32 → Int32 → Prop} (hK : ∀ (v1 : Int32) (v2 : Int32), Kk v1 v2 → Kk2 v1 v2) (hQ : ∀ r, Q r → Q2 r) (hN : ∀ (v1 : Int32) (v2 : Int32), N v1 v2 → N2 v1 v2) (v1 : Int32) (v2 : Int32) (w : bd_bk_dinnerSteps_4 T l0 Kk Q N v1 v2) : bd_bk_dinnerSteps_4 T l0 Kk2 Q2 N2 v1 v2 := by
  unfold bd_bk_dinnerSteps_4 at w ⊢
  obtain ⟨q1, w⟩ := w
  refine ⟨q1, ?_⟩
  refine mo_if w (fun c9_1 w => ?_) (fun c9_1 w => ?_)
  · exact hK v1 v2 w
  · refine mo_if w (fun c20_2 w => ?_) (fun c20_2 w => ?_)
    · exact hN v1 (v2 + 1) w
    · obtain ⟨q2, w⟩ := w
      refine ⟨q2, ?_⟩
      refine mo_n w (fun i1 w => ?_)
      exact hN i1 (v2 + 1) w
theorem mo_bk_dinnerSteps_4 (T : St) (l0 : Nat) {Kk Kk2 : Int32 → Int32 → Prop} {Q Q2 : Int32 → Prop} (hK : ∀ (v1 : Int32) (v2 : Int32), Kk v1 v2 → Kk2 v1 v2) (hQ : ∀ r, Q r → Q2 r) : ∀ (f : Nat) (v1 : Int32) (v2 : Int32), wp_bk_dinnerSteps_4 T l0 Kk Q f v1 v2 → wp_bk_dinnerSteps_4 T l0 Kk2 Q2 f v1 v2 := by
  intro f
  induction f with
  | zero => intro v1 v2 w; exact w.elim
  | succ f ih => intro v1 v2 w; exact mb_bk_dinnerSteps_4 T l0 hK hQ ih v1 v2 w
theorem wr_bk_dinnerSteps_4 (T : St) (l0 : Nat) {Kk : Int32 → Int32 → Prop} {Q : Int32 → Prop} (I : Int32 → Int32 → Prop) (m : Int32 → Int32 → Nat) (hv : ∀ (v1 : Int32) (v2 : Int32), I v1 v2 → bd_bk_dinnerSteps_4 T l0 Kk Q (fun uv1 uv2 => I uv1 uv2 ∧ m uv1 uv2 < m v1 v2) v1 v2) : ∀ (f : Nat) (v1 : Int32) (v2 : Int32), m v1 v2 < f → I v1 v2 → wp_bk_dinnerSteps_4 T l0 Kk Q f v1 v2 := by
  intro f
  induction f with
  | zero => intro v1 v2 h; exact absurd h (Nat.not_lt_zero _)
  | succ f ih => intro v1 v2 h hi; exact mb_bk_dinnerSteps_4 T l0 (fun _ _ h => h) (fun _ h => h) (fun uv1 uv2 g => ih uv1 uv2 (by omega) g.1) v1 v2 (hv v1 v2 hi)
theorem so_bk_dinnerSteps_4 (T : St) (l0 : Nat) {K : Int32 → Int32 → Int32} {Kk Kk2 : Int32 → Int32 → Prop} {Q : Int32 → Prop} (hk : ∀ (v1 : Int32) (v2 : Int32), Kk v1 v2 → Kk2 v1 v2 ∧ Q (K v1 v2)) : ∀ (f : Nat) (v1 : Int32) (v2 : Int32), wp_bk_dinnerSteps_4 T l0 Kk Q f v1 v2 → ok_bk_dinnerSteps_4 T l0 Kk2 f v1 v2 ∧ Q (x_bk_dinnerSteps_4 T l0 K f v1 v2) := by
  intro f
  induction f with
  | zero => intro v1 v2 w; exact w.elim
  | succ f ih =>
    intro v1 v2 w
    rw [wp_bk_dinnerSteps_4, bd_bk_dinnerSteps_4] at w
    rw [ok_bk_dinnerSteps_4, x_bk_dinnerSteps_4]
    obtain ⟨q1, w⟩ := w
    refine so_rq q1 ?_
    refine so_if2 (Q := Q) w (fun c9_1 w => ?_) (fun c9_1 w => ?_)
    · exact hk v1 v2 w
    · refine so_if2 (Q := Q) w (fun c20_2 w => ?_) (fun c20_2 w => ?_)
      · exact ih v1 (v2 + 1) w
      · obtain ⟨q2, w⟩ := w
        refine so_rq q2 ?_
        refine so_n (Q := Q) w (fun i1 w => ?_)
        exact ih i1 (v2 + 1) w
def wp_bk_dinnerSteps (T : St) (a : Nat) (Q : Int32 → Prop) : Prop := wp_bk_dinnerSteps_4 T a (fun w1_1 w1_2 => Q w1_1) Q 1000 0 0
theorem so_bk_dinnerSteps {T : St} (a : Nat) {Q : Int32 → Prop} (w : wp_bk_dinnerSteps T a Q) : ok_bk_dinnerSteps T a ∧ Q (x_bk_dinnerSteps T a) := by
  unfold wp_bk_dinnerSteps at w
  unfold ok_bk_dinnerSteps x_bk_dinnerSteps
  refine so_bk_dinnerSteps_4 T a (fun w1_1 w1_2  w => ?_) 1000 0 0 w
  refine ⟨trivial, ?_⟩
  exact w
def wp_bk_waitBehind (T : St) (a : Nat) (p0 : Int32) (p1 : Int32) (Q : Int32 → Prop) : Prop := (sh a = .inr 1) ∧ (vp_in p0 8) ∧ (((((T.2.2.1 (a + 7) (p0 : Int32).toNatClampNeg) - 1) ≤ p1) → Q 0) ∧ (¬ (((T.2.2.1 (a + 7) (p0 : Int32).toNatClampNeg) - 1) ≤ p1) → (vp_in ((T.2.2.1 (a + 8) (p0 : Int32).toNatClampNeg) + p1) 24) ∧ Q (T.2.2.1 (a + 11) ((T.2.2.1 (a + 8) (p0 : Int32).toNatClampNeg) + p1 : Int32).toNatClampNeg)))
theorem so_bk_waitBehind {T : St} (a : Nat) (p0 : Int32) (p1 : Int32) {Q : Int32 → Prop} (w : wp_bk_waitBehind T a p0 p1 Q) : ok_bk_waitBehind T a p0 p1 ∧ Q (x_bk_waitBehind T a p0 p1) := by
  unfold wp_bk_waitBehind at w
  unfold ok_bk_waitBehind x_bk_waitBehind
  obtain ⟨q1, w⟩ := w
  refine so_rq q1 ?_
  obtain ⟨q2, w⟩ := w
  refine so_rq q2 ?_
  refine so_ifF (Q := Q) w (fun c9_1 w => ?_) (fun c9_1 w => ?_)
  · exact w
  · obtain ⟨q3, w⟩ := w
    refine so_rq q3 ?_
    refine ⟨trivial, ?_⟩
    exact w
def bd_bk_awayAt_4 (T : St) (l0 : Nat) (l1 : Int32) (Kk : Int32 → Int32 → Prop) (Q : Int32 → Prop) (N : Int32 → Int32 → Prop) (v2 : Int32) (v3 : Int32) : Prop := (sh l0 = .inr 1) ∧ ((((T.1 l0 1) ≤ v3) → Kk v2 v3) ∧ (¬ ((T.1 l0 1) ≤ v3) → (vp_in v3 4) ∧ (((l1 < (T.2.2.1 (l0 + 2) (v3 : Int32).toNatClampNeg)) → N v2 (v3 + 1)) ∧ (¬ (l1 < (T.2.2.1 (l0 + 2) (v3 : Int32).toNatClampNeg)) → ((((T.2.2.1 (l0 + 3) (v3 : Int32).toNatClampNeg) < l1) → N v2 (v3 + 1)) ∧ (¬ ((T.2.2.1 (l0 + 3) (v3 : Int32).toNatClampNeg) < l1) → N (v2 + 1) (v3 + 1)))))))
def wp_bk_awayAt_4 (T : St) (l0 : Nat) (l1 : Int32) (Kk : Int32 → Int32 → Prop) (Q : Int32 → Prop) : Nat → Int32 → Int32 → Prop
  | 0, _, _ => False
  | f + 1, v2, v3 => bd_bk_awayAt_4 T l0 l1 Kk Q (wp_bk_awayAt_4 T l0 l1 Kk Q f) v2 v3
theorem mb_bk_awayAt_4 (T : St) (l0 : Nat) (l1 : Int32) {Kk Kk2 : Int32 → Int32 → Prop} {Q Q2 : Int32 → Prop} {N N2 : Int32 → Int32 → Prop} (hK : ∀ (v2 : Int32) (v3 : Int32), Kk v2 v3 → Kk2 v2 v3) (hQ : ∀ r, Q r → Q2 r) (hN : ∀ (v2 : Int32) (v3 : Int32), N v2 v3 → N2 v2 v3) (v2 : Int32) (v3 : Int32) (w : bd_bk_awayAt_4 T l0 l1 Kk Q N v2 v3) : bd_bk_awayAt_4 T l0 l1 Kk2 Q2 N2 v2 v3 := by
  unfold bd_bk_awayAt_4 at w ⊢
  obtain ⟨q1, w⟩ := w
  refine ⟨q1, ?_⟩
  refine mo_if w (fun c9_1 w => ?_) (fun c9_1 w => ?_)
  · exact hK v2 v3 w
  · obtain ⟨q2, w⟩ := w
    refine ⟨q2, ?_⟩
    refine mo_if w (fun c19_2 w => ?_) (fun c19_2 w => ?_)
    · exact hN v2 (v3 + 1) w
    · refine mo_if w (fun c29_3 w => ?_) (fun c29_3 w => ?_)
      · exact hN v2 (v3 + 1) w
      · exact hN (v2 + 1) (v3 + 1) w
theorem mo_bk_awayAt_4 (T : St) (l0 : Nat) (l1 : Int32) {Kk Kk2 : Int32 → Int32 → Prop} {Q Q2 : Int32 → Prop} (hK : ∀ (v2 : Int32) (v3 : Int32), Kk v2 v3 → Kk2 v2 v3) (hQ : ∀ r, Q r → Q2 r) : ∀ (f : Nat) (v2 : Int32) (v3 : Int32), wp_bk_awayAt_4 T l0 l1 Kk Q f v2 v3 → wp_bk_awayAt_4 T l0 l1 Kk2 Q2 f v2 v3 := by
  intro f
  induction f with
  | zero => intro v2 v3 w; exact w.elim
  | succ f ih => intro v2 v3 w; exact mb_bk_awayAt_4 T l0 l1 hK hQ ih v2 v3 w
theorem wr_bk_awayAt_4 (T : St) (l0 : Nat) (l1 : Int32) {Kk : Int32 → Int32 → Prop} {Q : Int32 → Prop} (I : Int32 → Int32 → Prop) (m : Int32 → Int32 → Nat) (hv : ∀ (v2 : Int32) (v3 : Int32), I v2 v3 → bd_bk_awayAt_4 T l0 l1 Kk Q (fun uv2 uv3 => I uv2 uv3 ∧ m uv2 uv3 < m v2 v3) v2 v3) : ∀ (f : Nat) (v2 : Int32) (v3 : Int32), m v2 v3 < f → I v2 v3 → wp_bk_awayAt_4 T l0 l1 Kk Q f v2 v3 := by
  intro f
  induction f with
  | zero => intro v2 v3 h; exact absurd h (Nat.not_lt_zero _)
  | succ f ih => intro v2 v3 h hi; exact mb_bk_awayAt_4 T l0 l1 (fun _ _ h => h) (fun _ h => h) (fun uv2 uv3 g => ih uv2 uv3 (by omega) g.1) v2 v3 (hv v2 v3 hi)
theorem so_bk_awayAt_4 (T : St) (l0 : Nat) (l1 : Int32) {K : Int32 → Int32 → Int32} {Kk Kk2 : Int32 → Int32 → Prop} {Q : Int32 → Prop} (hk : ∀ (v2 : Int32) (v3 : Int32), Kk v2 v3 → Kk2 v2 v3 ∧ Q (K v2 v3)) : ∀ (f : Nat) (v2 : Int32) (v3 : Int32), wp_bk_awayAt_4 T l0 l1 Kk Q f v2 v3 → ok_bk_awayAt_4 T l0 l1 Kk2 f v2 v3 ∧ Q (x_bk_awayAt_4 T l0 l1 K f v2 v3) := by
  intro f
  induction f with
  | zero => intro v2 v3 w; exact w.elim
  | succ f ih =>
    intro v2 v3 w
    rw [wp_bk_awayAt_4, bd_bk_awayAt_4] at w
    rw [ok_bk_awayAt_4, x_bk_awayAt_4]
    obtain ⟨q1, w⟩ := w
    refine so_rq q1 ?_
    refine so_if2 (Q := Q) w (fun c9_1 w => ?_) (fun c9_1 w => ?_)
    · exact hk v2 v3 w
    · obtain ⟨q2, w⟩ := w
      refine so_rq q2 ?_
      refine so_if2 (Q := Q) w (fun c19_2 w => ?_) (fun c19_2 w => ?_)
      · exact ih v2 (v3 + 1) w
      · refine so_if2 (Q := Q) w (fun c29_3 w => ?_) (fun c29_3 w => ?_)
        · exact ih v2 (v3 + 1) w
        · exact ih (v2 + 1) (v3 + 1) w
def wp_bk_awayAt (T : St) (a : Nat) (p0 : Int32) (Q : Int32 → Prop) : Prop := wp_bk_awayAt_4 T a p0 (fun w1_2 w1_3 => Q w1_2) Q 1000 0 0
theorem so_bk_awayAt {T : St} (a : Nat) (p0 : Int32) {Q : Int32 → Prop} (w : wp_bk_awayAt T a p0 Q) : ok_bk_awayAt T a p0 ∧ Q (x_bk_awayAt T a p0) := by
  unfold wp_bk_awayAt at w
  unfold ok_bk_awayAt x_bk_awayAt
  refine so_bk_awayAt_4 T a p0 (fun w1_2 w1_3  w => ?_) 1000 0 0 w
  refine ⟨trivial, ?_⟩
  exact w
def wp_bk_kindOf (T : St) (a : Nat) (p0 : Int32) (Q : Int32 → Prop) : Prop := (sh a = .inr 1) ∧ (vp_in p0 24) ∧ ((((T.2.2.1 (a + 9) (p0 : Int32).toNatClampNeg) = 0) → ((((T.2.2.1 (a + 12) (p0 : Int32).toNatClampNeg) = 2) → Q 6) ∧ (¬ ((T.2.2.1 (a + 12) (p0 : Int32).toNatClampNeg) = 2) → Q 1))) ∧ (¬ ((T.2.2.1 (a + 9) (p0 : Int32).toNatClampNeg) = 0) → ((((T.2.2.1 (a + 9) (p0 : Int32).toNatClampNeg) = 1) → Q 2) ∧ (¬ ((T.2.2.1 (a + 9) (p0 : Int32).toNatClampNeg) = 1) → ((((T.2.2.1 (a + 9) (p0 : Int32).toNatClampNeg) = 2) → Q 3) ∧ (¬ ((T.2.2.1 (a + 9) (p0 : Int32).toNatClampNeg) = 2) → ((((T.2.2.1 (a + 9) (p0 : Int32).toNatClampNeg) = 3) → Q 4) ∧ (¬ ((T.2.2.1 (a + 9) (p0 : Int32).toNatClampNeg) = 3) → Q 5))))))))
theorem so_bk_kindOf {T : St} (a : Nat) (p0 : Int32) {Q : Int32 → Prop} (w : wp_bk_kindOf T a p0 Q) : ok_bk_kindOf T a p0 ∧ Q (x_bk_kindOf T a p0) := by
  unfold wp_bk_kindOf at w
  unfold ok_bk_kindOf x_bk_kindOf
  obtain ⟨q1, w⟩ := w
  refine so_rq q1 ?_
  obtain ⟨q2, w⟩ := w
  refine so_rq q2 ?_
  refine ⟨trivial, ?_⟩
  refine so_if0 (Q := Q) w (fun s6_1_0 w => ?_) (fun s6_1_0 w => ?_)
  · refine so_if0 (Q := Q) w (fun c43_2 w => ?_) (fun c43_2 w => ?_)
    · exact w
    · exact w
  · refine so_if0 (Q := Q) w (fun s6_1_1 w => ?_) (fun s6_1_1 w => ?_)
    · exact w
    · refine so_if0 (Q := Q) w (fun s6_1_2 w => ?_) (fun s6_1_2 w => ?_)
      · exact w
      · refine so_if0 (Q := Q) w (fun s6_1_3 w => ?_) (fun s6_1_3 w => ?_)
        · exact w
        · exact w
def wp_bk_warmsBy (T : St) (a : Nat) (p0 : Int32) (p1 : Int32) (Q : Int32 → Prop) : Prop := (sh a = .inr 1) ∧ (vp_in p0 24) ∧ (((((T.2.2.1 (a + 1) (3 : Int32).toNatClampNeg) * (p1 + 1)) < (T.2.2.1 (a + 13) (p0 : Int32).toNatClampNeg)) → Q 0) ∧ (¬ (((T.2.2.1 (a + 1) (3 : Int32).toNatClampNeg) * (p1 + 1)) < (T.2.2.1 (a + 13) (p0 : Int32).toNatClampNeg)) → Q 1))
theorem so_bk_warmsBy {T : St} (a : Nat) (p0 : Int32) (p1 : Int32) {Q : Int32 → Prop} (w : wp_bk_warmsBy T a p0 p1 Q) : ok_bk_warmsBy T a p0 p1 ∧ Q (x_bk_warmsBy T a p0 p1) := by
  unfold wp_bk_warmsBy at w
  unfold ok_bk_warmsBy x_bk_warmsBy
  obtain ⟨q1, w⟩ := w
  refine so_rq q1 ?_
  obtain ⟨q2, w⟩ := w
  refine so_rq q2 ?_
  refine ⟨trivial, ?_⟩
  refine so_if0 (Q := Q) w (fun c16_1 w => ?_) (fun c16_1 w => ?_)
  · exact w
  · exact w
def wp_bk_heatsAgree (T : St) (a : Nat) (p0 : Int32) (p1 : Int32) (p2 : Int32) (p3 : Int32) (Q : Int32 → Prop) : Prop := (sh a = .inr 1) ∧ (vp_in p0 24) ∧ jn (fun (i1 : Int32) => (vp_in p2 24) ∧ jn (fun (i2 : Int32) => jn (fun (KJ1 : Int32 → Int32 → Prop) => (((i1 ≤ 0) → (((i2 ≤ 0) → KJ1 0 0) ∧ (¬ (i2 ≤ 0) → jn (fun (i7 : Int32) => jn (fun (i8 : Int32) => KJ1 i7 i8) ((T.2.2.1 (a + 1) (3 : Int32).toNatClampNeg) * i2)) ((T.2.2.1 (a + 1) (4 : Int32).toNatClampNeg) * i2)))) ∧ (¬ (i1 ≤ 0) → jn (fun (i9 : Int32) => jn (fun (i10 : Int32) => KJ1 i9 i10) ((T.2.2.1 (a + 1) (4 : Int32).toNatClampNeg) * i1)) ((T.2.2.1 (a + 1) (3 : Int32).toNatClampNeg) * i1)))) (fun (j1_7 : Int32) (j1_8 : Int32) => (((((T.2.2.1 (a + 14) (p0 : Int32).toNatClampNeg) + j1_7) < (T.2.2.1 (a + 13) (p2 : Int32).toNatClampNeg)) → Q 0) ∧ (¬ (((T.2.2.1 (a + 14) (p0 : Int32).toNatClampNeg) + j1_7) < (T.2.2.1 (a + 13) (p2 : Int32).toNatClampNeg)) → (((((T.2.2.1 (a + 14) (p2 : Int32).toNatClampNeg) + j1_8) < (T.2.2.1 (a + 13) (p0 : Int32).toNatClampNeg)) → Q 0) ∧ (¬ (((T.2.2.1 (a + 14) (p2 : Int32).toNatClampNeg) + j1_8) < (T.2.2.1 (a + 13) (p0 : Int32).toNatClampNeg)) → Q 1)))))) (p1 - ((p3 + (T.2.2.1 (a + 10) (p2 : Int32).toNatClampNeg)) - 1))) (p3 - ((p1 + (T.2.2.1 (a + 10) (p0 : Int32).toNatClampNeg)) - 1))
theorem so_bk_heatsAgree {T : St} (a : Nat) (p0 : Int32) (p1 : Int32) (p2 : Int32) (p3 : Int32) {Q : Int32 → Prop} (w : wp_bk_heatsAgree T a p0 p1 p2 p3 Q) : ok_bk_heatsAgree T a p0 p1 p2 p3 ∧ Q (x_bk_heatsAgree T a p0 p1 p2 p3) := by
  unfold wp_bk_heatsAgree at w
  unfold ok_bk_heatsAgree x_bk_heatsAgree
  obtain ⟨q1, w⟩ := w
  refine so_rq q1 ?_
  obtain ⟨q2, w⟩ := w
  refine so_rq q2 ?_
  refine so_n (Q := Q) w (fun i1 w => ?_)
  obtain ⟨q3, w⟩ := w
  refine so_rq q3 ?_
  refine ⟨trivial, ?_⟩
  refine so_n0 (Q := Q) w (fun i2 w => ?_)
  refine so_jn0 (Q := Q) (J := fun (KJ1 : Int32 → Int32 → Int32) (WKJ1 : Int32 → Int32 → Prop) => ∀ (j1_7 : Int32) (j1_8 : Int32), WKJ1 j1_7 j1_8 → Q (KJ1 j1_7 j1_8)) w (fun j1_7 j1_8 w => ?_) (fun KJ1 WKJ1 hJ1 w => ?_)
  · skip
    refine so_if0 (Q := Q) w (fun c108_3 w => ?_) (fun c108_3 w => ?_)
    · exact w
    · refine so_if0 (Q := Q) w (fun c126_4 w => ?_) (fun c126_4 w => ?_)
      · exact w
      · exact w
  · skip
    refine so_if0 (Q := Q) w (fun c38_5 w => ?_) (fun c38_5 w => ?_)
    · refine so_if0 (Q := Q) w (fun c68_6 w => ?_) (fun c68_6 w => ?_)
      · exact hJ1 0 0 w
      · refine so_n0 (Q := Q) w (fun i7 w => ?_)
        refine so_n0 (Q := Q) w (fun i8 w => ?_)
        exact hJ1 i7 i8 w
    · refine so_n0 (Q := Q) w (fun i9 w => ?_)
      refine so_n0 (Q := Q) w (fun i10 w => ?_)
      exact hJ1 i9 i10 w
def wp_jd_followsInTime (T : St) (p0 : Nat) (p1 : Nat) (p2 : Int32) (Q : Int32 → Prop) : Prop := (sh p1 = .inr 7) ∧ (vp_in p2 12) ∧ (vp_in (p2 - 1) 12) ∧ jn (fun (i1 : Int32) => (((i1 < 0) → Q 0) ∧ (¬ (i1 < 0) → (sh p0 = .inr 1) ∧ (vp_in (T.2.2.1 (p1 + 3) (p2 - 1 : Int32).toNatClampNeg) 24) ∧ ((((T.2.2.1 (p0 + 11) (T.2.2.1 (p1 + 3) (p2 - 1 : Int32).toNatClampNeg : Int32).toNatClampNeg) < i1) → Q 0) ∧ (¬ ((T.2.2.1 (p0 + 11) (T.2.2.1 (p1 + 3) (p2 - 1 : Int32).toNatClampNeg : Int32).toNatClampNeg) < i1) → Q 1))))) (((T.2.2.1 (p1 + 5) (p2 : Int32).toNatClampNeg) - (T.2.2.1 (p1 + 5) (p2 - 1 : Int32).toNatClampNeg)) - (T.2.2.1 (p1 + 6) (p2 - 1 : Int32).toNatClampNeg))
theorem so_jd_followsInTime {T : St} (p0 : Nat) (p1 : Nat) (p2 : Int32) {Q : Int32 → Prop} (w : wp_jd_followsInTime T p0 p1 p2 Q) : ok_jd_followsInTime T p0 p1 p2 ∧ Q (x_jd_followsInTime T p0 p1 p2) := by
  unfold wp_jd_followsInTime at w
  unfold ok_jd_followsInTime x_jd_followsInTime
  obtain ⟨q1, w⟩ := w
  refine so_rq q1 ?_
  obtain ⟨q2, w⟩ := w
  refine so_rq q2 ?_
  obtain ⟨q3, w⟩ := w
  refine so_rq q3 ?_
  refine so_n (Q := Q) w (fun i1 w => ?_)
  refine so_ifF (Q := Q) w (fun c28_1 w => ?_) (fun c28_1 w => ?_)
  · exact w
  · obtain ⟨q4, w⟩ := w
    refine so_rq q4 ?_
    obtain ⟨q5, w⟩ := w
    refine so_rq q5 ?_
    refine ⟨trivial, ?_⟩
    refine so_if0 (Q := Q) w (fun c46_2 w => ?_) (fun c46_2 w => ?_)
    · exact w
    · exact w
def wp_jd_lackAt (T : St) (p0 : Int64) (p1 : Int32) (Q : Int32 → Prop) : Prop := ((((lg_cmp ((T.2.2.2 538 (1 : Int32).toNatClampNeg) &&& p0) 0) = 0) → ((((lg_cmp ((T.2.2.2 538 (0 : Int32).toNatClampNeg) &&& p0) 0) = 0) → ((((lg_cmp ((T.2.2.2 538 (2 : Int32).toNatClampNeg) &&& p0) 0) = 0) → (((p1 = 0) → ((((lg_cmp ((T.2.2.2 538 (3 : Int32).toNatClampNeg) &&& p0) 0) = 0) → ((((lg_cmp ((T.2.2.2 538 (4 : Int32).toNatClampNeg) &&& p0) 0) = 0) → Q 0) ∧ (¬ ((lg_cmp ((T.2.2.2 538 (4 : Int32).toNatClampNeg) &&& p0) 0) = 0) → Q 6))) ∧ (¬ ((lg_cmp ((T.2.2.2 538 (3 : Int32).toNatClampNeg) &&& p0) 0) = 0) → Q 5))) ∧ (¬ (p1 = 0) → Q 4))) ∧ (¬ ((lg_cmp ((T.2.2.2 538 (2 : Int32).toNatClampNeg) &&& p0) 0) = 0) → Q 3))) ∧ (¬ ((lg_cmp ((T.2.2.2 538 (0 : Int32).toNatClampNeg) &&& p0) 0) = 0) → Q 2))) ∧ (¬ ((lg_cmp ((T.2.2.2 538 (1 : Int32).toNatClampNeg) &&& p0) 0) = 0) → Q 1))
theorem so_jd_lackAt {T : St} (p0 : Int64) (p1 : Int32) {Q : Int32 → Prop} (w : wp_jd_lackAt T p0 p1 Q) : Q (x_jd_lackAt T p0 p1) := by
  unfold wp_jd_lackAt at w
  unfold x_jd_lackAt
  refine so_if0 (Q := Q) w (fun c10_1 w => ?_) (fun c10_1 w => ?_)
  · refine so_if0 (Q := Q) w (fun c25_2 w => ?_) (fun c25_2 w => ?_)
    · refine so_if0 (Q := Q) w (fun c40_3 w => ?_) (fun c40_3 w => ?_)
      · refine so_if0 (Q := Q) w (fun c46_4 w => ?_) (fun c46_4 w => ?_)
        · refine so_if0 (Q := Q) w (fun c61_5 w => ?_) (fun c61_5 w => ?_)
          · refine so_if0 (Q := Q) w (fun c76_6 w => ?_) (fun c76_6 w => ?_)
            · exact w
            · exact w
          · exact w
        · exact w
      · exact w
    · exact w
  · exact w
def bd_jd_wantedAt_6 (T : St) (l1 : Nat) (l2 : Int32) (l3 : Int32) (Kk : Int32 → Int32 → Prop) (Q : Int32 → Prop) (N : Int32 → Int32 → Prop) (v4 : Int32) (v5 : Int32) : Prop := (sh l1 = .inr 7) ∧ ((((T.1 l1 0) ≤ v5) → Kk v4 v5) ∧ (¬ ((T.1 l1 0) ≤ v5) → (vp_in v5 4) ∧ (sh ((539 + 4 * (v5 : Int32).toNatClampNeg) + 3) = .inl (1, 5)) ∧ (vp_in l3 5) ∧ ((((lg_cmp (((T.2.2.2 ((539 + 4 * (v5 : Int32).toNatClampNeg) + 3) (l3 : Int32).toNatClampNeg) >>> ((l2 : Int32).toInt64 &&& 63)) &&& 1) 0) = 0) → N v4 (v5 + 1)) ∧ (¬ ((lg_cmp (((T.2.2.2 ((539 + 4 * (v5 : Int32).toNatClampNeg) + 3) (l3 : Int32).toNatClampNeg) >>> ((l2 : Int32).toInt64 &&& 63)) &&& 1) 0) = 0) → N (v4 + 1) (v5 + 1)))))
def wp_jd_wantedAt_6 (T : St) (l1 : Nat) (l2 : Int32) (l3 : Int32) (Kk : Int32 → Int32 → Prop) (Q : Int32 → Prop) : Nat → Int32 → Int32 → Prop
  | 0, _, _ => False
  | f + 1, v4, v5 => bd_jd_wantedAt_6 T l1 l2 l3 Kk Q (wp_jd_wantedAt_6 T l1 l2 l3 Kk Q f) v4 v5
theorem mb_jd_wantedAt_6 (T : St) (l1 : Nat) (l2 : Int32) (l3 : Int32) {Kk Kk2 : Int32 → Int32 → Prop} {Q Q2 : Int32 → Prop} {N N2 : Int32 → Int32 → Prop} (hK : ∀ (v4 : Int32) (v5 : Int32), Kk v4 v5 → Kk2 v4 v5) (hQ : ∀ r, Q r → Q2 r) (hN : ∀ (v4 : Int32) (v5 : Int32), N v4 v5 → N2 v4 v5) (v4 : Int32) (v5 : Int32) (w : bd_jd_wantedAt_6 T l1 l2 l3 Kk Q N v4 v5) : bd_jd_wantedAt_6 T l1 l2 l3 Kk2 Q2 N2 v4 v5 := by
  unfold bd_jd_wantedAt_6 at w ⊢
  obtain ⟨q1, w⟩ := w
  refine ⟨q1, ?_⟩
  refine mo_if w (fun c12_1 w => ?_) (fun c12_1 w => ?_)
  · exact hK v4 v5 w
  · obtain ⟨q2, w⟩ := w
    refine ⟨q2, ?_⟩
    obtain ⟨q3, w⟩ := w
    refine ⟨q3, ?_⟩
    obtain ⟨q4, w⟩ := w
    refine ⟨q4, ?_⟩
    refine mo_if w (fun c33_2 w => ?_) (fun c33_2 w => ?_)
    · exact hN v4 (v5 + 1) w
    · exact hN (v4 + 1) (v5 + 1) w
theorem mo_jd_wantedAt_6 (T : St) (l1 : Nat) (l2 : Int32) (l3 : Int32) {Kk Kk2 : Int32 → Int32 → Prop} {Q Q2 : Int32 → Prop} (hK : ∀ (v4 : Int32) (v5 : Int32), Kk v4 v5 → Kk2 v4 v5) (hQ : ∀ r, Q r → Q2 r) : ∀ (f : Nat) (v4 : Int32) (v5 : Int32), wp_jd_wantedAt_6 T l1 l2 l3 Kk Q f v4 v5 → wp_jd_wantedAt_6 T l1 l2 l3 Kk2 Q2 f v4 v5 := by
  intro f
  induction f with
  | zero => intro v4 v5 w; exact w.elim
  | succ f ih => intro v4 v5 w; exact mb_jd_wantedAt_6 T l1 l2 l3 hK hQ ih v4 v5 w
theorem wr_jd_wantedAt_6 (T : St) (l1 : Nat) (l2 : Int32) (l3 : Int32) {Kk : Int32 → Int32 → Prop} {Q : Int32 → Prop} (I : Int32 → Int32 → Prop) (m : Int32 → Int32 → Nat) (hv : ∀ (v4 : Int32) (v5 : Int32), I v4 v5 → bd_jd_wantedAt_6 T l1 l2 l3 Kk Q (fun uv4 uv5 => I uv4 uv5 ∧ m uv4 uv5 < m v4 v5) v4 v5) : ∀ (f : Nat) (v4 : Int32) (v5 : Int32), m v4 v5 < f → I v4 v5 → wp_jd_wantedAt_6 T l1 l2 l3 Kk Q f v4 v5 := by
  intro f
  induction f with
  | zero => intro v4 v5 h; exact absurd h (Nat.not_lt_zero _)
  | succ f ih => intro v4 v5 h hi; exact mb_jd_wantedAt_6 T l1 l2 l3 (fun _ _ h => h) (fun _ h => h) (fun uv4 uv5 g => ih uv4 uv5 (by omega) g.1) v4 v5 (hv v4 v5 hi)
theorem so_jd_wantedAt_6 (T : St) (l1 : Nat) (l2 : Int32) (l3 : Int32) {K : Int32 → Int32 → Int32} {Kk Kk2 : Int32 → Int32 → Prop} {Q : Int32 → Prop} (hk : ∀ (v4 : Int32) (v5 : Int32), Kk v4 v5 → Kk2 v4 v5 ∧ Q (K v4 v5)) : ∀ (f : Nat) (v4 : Int32) (v5 : Int32), wp_jd_wantedAt_6 T l1 l2 l3 Kk Q f v4 v5 → ok_jd_wantedAt_6 T l1 l2 l3 Kk2 f v4 v5 ∧ Q (x_jd_wantedAt_6 T l1 l2 l3 K f v4 v5) := by
  intro f
  induction f with
  | zero => intro v4 v5 w; exact w.elim
  | succ f ih =>
    intro v4 v5 w
    rw [wp_jd_wantedAt_6, bd_jd_wantedAt_6] at w
    rw [ok_jd_wantedAt_6, x_jd_wantedAt_6]
    obtain ⟨q1, w⟩ := w
    refine so_rq q1 ?_
    refine so_if2 (Q := Q) w (fun c12_1 w => ?_) (fun c12_1 w => ?_)
    · exact hk v4 v5 w
    · obtain ⟨q2, w⟩ := w
      refine so_rq q2 ?_
      obtain ⟨q3, w⟩ := w
      refine so_rq q3 ?_
      obtain ⟨q4, w⟩ := w
      refine so_rq q4 ?_
      refine so_if2 (Q := Q) w (fun c33_2 w => ?_) (fun c33_2 w => ?_)
      · exact ih v4 (v5 + 1) w
      · exact ih (v4 + 1) (v5 + 1) w
def wp_jd_wantedAt (T : St) (p0 : Nat) (p1 : Int32) (p2 : Int32) (Q : Int32 → Prop) : Prop := wp_jd_wantedAt_6 T p0 p1 p2 (fun w1_4 w1_5 => Q w1_4) Q 1000 0 0
theorem so_jd_wantedAt {T : St} (p0 : Nat) (p1 : Int32) (p2 : Int32) {Q : Int32 → Prop} (w : wp_jd_wantedAt T p0 p1 p2 Q) : ok_jd_wantedAt T p0 p1 p2 ∧ Q (x_jd_wantedAt T p0 p1 p2) := by
  unfold wp_jd_wantedAt at w
  unfold ok_jd_wantedAt x_jd_wantedAt
  refine so_jd_wantedAt_6 T p0 p1 p2 (fun w1_4 w1_5  w => ?_) 1000 0 0 w
  refine ⟨trivial, ?_⟩
  exact w
def wp_ki_fewerThan (T : St) (a : Nat) (p0 : Int32) (p1 : Int32) (Q : Int64 → Prop) : Prop := (sh a = .inr 3) ∧ (vp_in (((p0 * 5) + p1) - 1) 25) ∧ Q (T.2.2.2 (a + 1) (((p0 * 5) + p1) - 1 : Int32).toNatClampNeg)
theorem so_ki_fewerThan {T : St} (a : Nat) (p0 : Int32) (p1 : Int32) {Q : Int64 → Prop} (w : wp_ki_fewerThan T a p0 p1 Q) : ok_ki_fewerThan T a p0 p1 ∧ Q (x_ki_fewerThan T a p0 p1) := by
  unfold wp_ki_fewerThan at w
  unfold ok_ki_fewerThan x_ki_fewerThan
  obtain ⟨q1, w⟩ := w
  refine so_rq q1 ?_
  obtain ⟨q2, w⟩ := w
  refine so_rq q2 ?_
  refine ⟨trivial, ?_⟩
  exact w
def bd_ki_give_2 (l0 : Nat) (l1 : Int32) (l2 : Int32) (Kk : Int32 → St → Prop) (Q : St → Prop) (N : Int32 → St → Prop) (v3 : Int32) (T : St) : Prop := (((5 < v3) → Kk v3 T) ∧ (¬ (5 < v3) → (sh l0 = .inr 3) ∧ (((v3 ≤ l2) → (vp_in (((l1 * 5) + v3) - 1) 25) ∧ N (v3 + 1) (sL T (l0 + 1) (((l1 * 5) + v3) - 1 : Int32).toNatClampNeg 0)) ∧ (¬ (v3 ≤ l2) → (vp_in (((l1 * 5) + v3) - 1) 25) ∧ N (v3 + 1) (sL T (l0 + 1) (((l1 * 5) + v3) - 1 : Int32).toNatClampNeg (-1))))))
def wp_ki_give_2 (l0 : Nat) (l1 : Int32) (l2 : Int32) (Kk : Int32 → St → Prop) (Q : St → Prop) : Nat → Int32 → St → Prop
  | 0, _, _ => False
  | f + 1, v3, T => bd_ki_give_2 l0 l1 l2 Kk Q (wp_ki_give_2 l0 l1 l2 Kk Q f) v3 T
theorem mb_ki_give_2 (l0 : Nat) (l1 : Int32) (l2 : Int32) {Kk Kk2 : Int32 → St → Prop} {Q Q2 : St → Prop} {N N2 : Int32 → St → Prop} (hK : ∀ (v3 : Int32) (T : St), Kk v3 T → Kk2 v3 T) (hQ : ∀ r, Q r → Q2 r) (hN : ∀ (v3 : Int32) (T : St), N v3 T → N2 v3 T) (v3 : Int32) (T : St) (w : bd_ki_give_2 l0 l1 l2 Kk Q N v3 T) : bd_ki_give_2 l0 l1 l2 Kk2 Q2 N2 v3 T := by
  unfold bd_ki_give_2 at w ⊢
  refine mo_if w (fun c4_1 w => ?_) (fun c4_1 w => ?_)
  · exact hK v3 T w
  · obtain ⟨q1, w⟩ := w
    refine ⟨q1, ?_⟩
    refine mo_if w (fun c20_2 w => ?_) (fun c20_2 w => ?_)
    · obtain ⟨q2, w⟩ := w
      refine ⟨q2, ?_⟩
      exact hN (v3 + 1) (sL T (l0 + 1) (((l1 * 5) + v3) - 1 : Int32).toNatClampNeg 0) w
    · obtain ⟨q3, w⟩ := w
      refine ⟨q3, ?_⟩
      exact hN (v3 + 1) (sL T (l0 + 1) (((l1 * 5) + v3) - 1 : Int32).toNatClampNeg (-1)) w
theorem mo_ki_give_2 (l0 : Nat) (l1 : Int32) (l2 : Int32) {Kk Kk2 : Int32 → St → Prop} {Q Q2 : St → Prop} (hK : ∀ (v3 : Int32) (T : St), Kk v3 T → Kk2 v3 T) (hQ : ∀ r, Q r → Q2 r) : ∀ (f : Nat) (v3 : Int32) (T : St), wp_ki_give_2 l0 l1 l2 Kk Q f v3 T → wp_ki_give_2 l0 l1 l2 Kk2 Q2 f v3 T := by
  intro f
  induction f with
  | zero => intro v3 T w; exact w.elim
  | succ f ih => intro v3 T w; exact mb_ki_give_2 l0 l1 l2 hK hQ ih v3 T w
theorem wr_ki_give_2 (l0 : Nat) (l1 : Int32) (l2 : Int32) {Kk : Int32 → St → Prop} {Q : St → Prop} (I : Int32 → St → Prop) (m : Int32 → St → Nat) (hv : ∀ (v3 : Int32) (T : St), I v3 T → bd_ki_give_2 l0 l1 l2 Kk Q (fun uv3 uT => I uv3 uT ∧ m uv3 uT < m v3 T) v3 T) : ∀ (f : Nat) (v3 : Int32) (T : St), m v3 T < f → I v3 T → wp_ki_give_2 l0 l1 l2 Kk Q f v3 T := by
  intro f
  induction f with
  | zero => intro v3 T h; exact absurd h (Nat.not_lt_zero _)
  | succ f ih => intro v3 T h hi; exact mb_ki_give_2 l0 l1 l2 (fun _ _ h => h) (fun _ h => h) (fun uv3 uT g => ih uv3 uT (by omega) g.1) v3 T (hv v3 T hi)
theorem so_ki_give_2 (l0 : Nat) (l1 : Int32) (l2 : Int32) {K : Int32 → St → St} {Kk Kk2 : Int32 → St → Prop} {Q : St → Prop} (hk : ∀ (v3 : Int32) (T : St), Kk v3 T → Kk2 v3 T ∧ Q (K v3 T)) : ∀ (f : Nat) (v3 : Int32) (T : St), wp_ki_give_2 l0 l1 l2 Kk Q f v3 T → ok_ki_give_2 l0 l1 l2 Kk2 f v3 T ∧ Q (x_ki_give_2 l0 l1 l2 K f v3 T) := by
  intro f
  induction f with
  | zero => intro v3 T w; exact w.elim
  | succ f ih =>
    intro v3 T w
    rw [wp_ki_give_2, bd_ki_give_2] at w
    rw [ok_ki_give_2, x_ki_give_2]
    refine so_if2 (Q := Q) w (fun c4_1 w => ?_) (fun c4_1 w => ?_)
    · exact hk v3 T w
    · obtain ⟨q1, w⟩ := w
      refine so_rq q1 ?_
      refine so_if2 (Q := Q) w (fun c20_2 w => ?_) (fun c20_2 w => ?_)
      · obtain ⟨q2, w⟩ := w
        refine so_rq q2 ?_
        exact ih (v3 + 1) (sL T (l0 + 1) (((l1 * 5) + v3) - 1 : Int32).toNatClampNeg 0) w
      · obtain ⟨q3, w⟩ := w
        refine so_rq q3 ?_
        exact ih (v3 + 1) (sL T (l0 + 1) (((l1 * 5) + v3) - 1 : Int32).toNatClampNeg (-1)) w
def wp_ki_give (T : St) (a : Nat) (p0 : Int32) (p1 : Int32) (Q : St → Prop) : Prop := wp_ki_give_2 a p0 p1 (fun w1_3 T201 => Q T201) Q 1000 1 T
theorem so_ki_give {T : St} (a : Nat) (p0 : Int32) (p1 : Int32) {Q : St → Prop} (w : wp_ki_give T a p0 p1 Q) : ok_ki_give T a p0 p1 ∧ Q (x_ki_give T a p0 p1) := by
  unfold wp_ki_give at w
  unfold ok_ki_give x_ki_give
  refine so_ki_give_2 a p0 p1 (fun w1_3 T201 w => ?_) 1000 1 T w
  refine ⟨trivial, ?_⟩
  exact w
def bd_ki_giveOneLess_8 (l0 : Nat) (l1 : Int32) (l2 : Int64) (l4 : Int32) (Kk : Int32 → St → Prop) (Q : St → Prop) (N : Int32 → St → Prop) (v5 : Int32) (T : St) : Prop := (((5 ≤ v5) → Kk v5 T) ∧ (¬ (5 ≤ v5) → (sh l0 = .inr 3) ∧ (vp_in ((l4 + v5) - 1) 25) ∧ (vp_in (l4 + v5) 25) ∧ jn (fun (T1 : St) => N (v5 + 1) T1) (sL T (l0 + 1) ((l4 + v5) - 1 : Int32).toNatClampNeg ((T.2.2.2 (l0 + 1) ((l4 + v5) - 1 : Int32).toNatClampNeg) ||| (l2 &&& (T.2.2.2 (l0 + 1) (l4 + v5 : Int32).toNatClampNeg))))))
def wp_ki_giveOneLess_8 (l0 : Nat) (l1 : Int32) (l2 : Int64) (l4 : Int32) (Kk : Int32 → St → Prop) (Q : St → Prop) : Nat → Int32 → St → Prop
  | 0, _, _ => False
  | f + 1, v5, T => bd_ki_giveOneLess_8 l0 l1 l2 l4 Kk Q (wp_ki_giveOneLess_8 l0 l1 l2 l4 Kk Q f) v5 T
theorem mb_ki_giveOneLess_8 (l0 : Nat) (l1 : Int32) (l2 : Int64) (l4 : Int32) {Kk Kk2 : Int32 → St → Prop} {Q Q2 : St → Prop} {N N2 : Int32 → St → Prop} (hK : ∀ (v5 : Int32) (T : St), Kk v5 T → Kk2 v5 T) (hQ : ∀ r, Q r → Q2 r) (hN : ∀ (v5 : Int32) (T : St), N v5 T → N2 v5 T) (v5 : Int32) (T : St) (w : bd_ki_giveOneLess_8 l0 l1 l2 l4 Kk Q N v5 T) : bd_ki_giveOneLess_8 l0 l1 l2 l4 Kk2 Q2 N2 v5 T := by
  unfold bd_ki_giveOneLess_8 at w ⊢
  refine mo_if w (fun c11_1 w => ?_) (fun c11_1 w => ?_)
  · exact hK v5 T w
  · obtain ⟨q1, w⟩ := w
    refine ⟨q1, ?_⟩
    obtain ⟨q2, w⟩ := w
    refine ⟨q2, ?_⟩
    obtain ⟨q3, w⟩ := w
    refine ⟨q3, ?_⟩
    refine mo_n w (fun T1 w => ?_)
    exact hN (v5 + 1) T1 w
theorem mo_ki_giveOneLess_8 (l0 : Nat) (l1 : Int32) (l2 : Int64) (l4 : Int32) {Kk Kk2 : Int32 → St → Prop} {Q Q2 : St → Prop} (hK : ∀ (v5 : Int32) (T : St), Kk v5 T → Kk2 v5 T) (hQ : ∀ r, Q r → Q2 r) : ∀ (f : Nat) (v5 : Int32) (T : St), wp_ki_giveOneLess_8 l0 l1 l2 l4 Kk Q f v5 T → wp_ki_giveOneLess_8 l0 l1 l2 l4 Kk2 Q2 f v5 T := by
  intro f
  induction f with
  | zero => intro v5 T w; exact w.elim
  | succ f ih => intro v5 T w; exact mb_ki_giveOneLess_8 l0 l1 l2 l4 hK hQ ih v5 T w
theorem wr_ki_giveOneLess_8 (l0 : Nat) (l1 : Int32) (l2 : Int64) (l4 : Int32) {Kk : Int32 → St → Prop} {Q : St → Prop} (I : Int32 → St → Prop) (m : Int32 → St → Nat) (hv : ∀ (v5 : Int32) (T : St), I v5 T → bd_ki_giveOneLess_8 l0 l1 l2 l4 Kk Q (fun uv5 uT => I uv5 uT ∧ m uv5 uT < m v5 T) v5 T) : ∀ (f : Nat) (v5 : Int32) (T : St), m v5 T < f → I v5 T → wp_ki_giveOneLess_8 l0 l1 l2 l4 Kk Q f v5 T := by
  intro f
  induction f with
  | zero => intro v5 T h; exact absurd h (Nat.not_lt_zero _)
  | succ f ih => intro v5 T h hi; exact mb_ki_giveOneLess_8 l0 l1 l2 l4 (fun _ _ h => h) (fun _ h => h) (fun uv5 uT g => ih uv5 uT (by omega) g.1) v5 T (hv v5 T hi)
theorem so_ki_giveOneLess_8 (l0 : Nat) (l1 : Int32) (l2 : Int64) (l4 : Int32) {K : Int32 → St → St} {Kk Kk2 : Int32 → St → Prop} {Q : St → Prop} (hk : ∀ (v5 : Int32) (T : St), Kk v5 T → Kk2 v5 T ∧ Q (K v5 T)) : ∀ (f : Nat) (v5 : Int32) (T : St), wp_ki_giveOneLess_8 l0 l1 l2 l4 Kk Q f v5 T → ok_ki_giveOneLess_8 l0 l1 l2 l4 Kk2 f v5 T ∧ Q (x_ki_giveOneLess_8 l0 l1 l2 l4 K f v5 T) := by
  intro f
  induction f with
  | zero => intro v5 T w; exact w.elim
  | succ f ih =>
    intro v5 T w
    rw [wp_ki_giveOneLess_8, bd_ki_giveOneLess_8] at w
    rw [ok_ki_giveOneLess_8, x_ki_giveOneLess_8]
    refine so_if2 (Q := Q) w (fun c11_1 w => ?_) (fun c11_1 w => ?_)
    · exact hk v5 T w
    · obtain ⟨q1, w⟩ := w
      refine so_rq q1 ?_
      obtain ⟨q2, w⟩ := w
      refine so_rq q2 ?_
      obtain ⟨q3, w⟩ := w
      refine so_rq q3 ?_
      refine so_n (Q := Q) w (fun T1 w => ?_)
      exact ih (v5 + 1) T1 w
def wp_ki_giveOneLess (T : St) (a : Nat) (p0 : Int32) (p1 : Int64) (Q : St → Prop) : Prop := wp_ki_giveOneLess_8 a p0 p1 (p0 * 5) (fun w1_5 T201 => Q T201) Q 1000 1 T
theorem so_ki_giveOneLess {T : St} (a : Nat) (p0 : Int32) (p1 : Int64) {Q : St → Prop} (w : wp_ki_giveOneLess T a p0 p1 Q) : ok_ki_giveOneLess T a p0 p1 ∧ Q (x_ki_giveOneLess T a p0 p1) := by
  unfold wp_ki_giveOneLess at w
  unfold ok_ki_giveOneLess x_ki_giveOneLess
  refine so_ki_giveOneLess_8 a p0 p1 (p0 * 5) (fun w1_5 T201 w => ?_) 1000 1 T w
  refine ⟨trivial, ?_⟩
  exact w
def bd_ov_want_78 (l1 : Nat) (l2 : Nat) (l3 : Int32) (l4 : Int32) (l5 : Int32) (Kk : Int32 → St → Prop) (Q : St → Prop) (N : Int32 → St → Prop) (v6 : Int32) (T : St) : Prop := (((l5 ≤ v6) → Kk v6 T) ∧ (¬ (l5 ≤ v6) → (vp_in v6 60) ∧ (sh l1 = .inr 1) ∧ (vp_in l4 24) ∧ jn (fun (T4 : St) => jn (fun (T5 : St) => N (v6 + 1) T5) (sA T4 530 (v6 : Int32).toNatClampNeg (if T4.2.2.1 (l1 + 14) (l4 : Int32).toNatClampNeg < T4.2.2.1 530 (v6 : Int32).toNatClampNeg then T4.2.2.1 (l1 + 14) (l4 : Int32).toNatClampNeg else T4.2.2.1 530 (v6 : Int32).toNatClampNeg : Int32))) (sA T 529 (v6 : Int32).toNatClampNeg (if T.2.2.1 529 (v6 : Int32).toNatClampNeg < T.2.2.1 (l1 + 13) (l4 : Int32).toNatClampNeg then T.2.2.1 (l1 + 13) (l4 : Int32).toNatClampNeg else T.2.2.1 529 (v6 : Int32).toNatClampNeg : Int32))))
def wp_ov_want_78 (l1 : Nat) (l2 : Nat) (l3 : Int32) (l4 : Int32) (l5 : Int32) (Kk : Int32 → St → Prop) (Q : St → Prop) : Nat → Int32 → St → Prop
  | 0, _, _ => False
  | f + 1, v6, T => bd_ov_want_78 l1 l2 l3 l4 l5 Kk Q (wp_ov_want_78 l1 l2 l3 l4 l5 Kk Q f) v6 T
theorem mb_ov_want_78 (l1 : Nat) (l2 : Nat) (l3 : Int32) (l4 : Int32) (l5 : Int32) {Kk Kk2 : Int32 → St → Prop} {Q Q2 : St → Prop} {N N2 : Int32 → St → Prop} (hK : ∀ (v6 : Int32) (T : St), Kk v6 T → Kk2 v6 T) (hQ : ∀ r, Q r → Q2 r) (hN : ∀ (v6 : Int32) (T : St), N v6 T → N2 v6 T) (v6 : Int32) (T : St) (w : bd_ov_want_78 l1 l2 l3 l4 l5 Kk Q N v6 T) : bd_ov_want_78 l1 l2 l3 l4 l5 Kk2 Q2 N2 v6 T := by
  unfold bd_ov_want_78 at w ⊢
  refine mo_if w (fun c82_3 w => ?_) (fun c82_3 w => ?_)
  · exact hK v6 T w
  · obtain ⟨q7, w⟩ := w
    refine ⟨q7, ?_⟩
    obtain ⟨q8, w⟩ := w
    refine ⟨q8, ?_⟩
    obtain ⟨q9, w⟩ := w
    refine ⟨q9, ?_⟩
    refine mo_n w (fun T4 w => ?_)
    refine mo_n w (fun T5 w => ?_)
    exact hN (v6 + 1) T5 w
theorem mo_ov_want_78 (l1 : Nat) (l2 : Nat) (l3 : Int32) (l4 : Int32) (l5 : Int32) {Kk Kk2 : Int32 → St → Prop} {Q Q2 : St → Prop} (hK : ∀ (v6 : Int32) (T : St), Kk v6 T → Kk2 v6 T) (hQ : ∀ r, Q r → Q2 r) : ∀ (f : Nat) (v6 : Int32) (T : St), wp_ov_want_78 l1 l2 l3 l4 l5 Kk Q f v6 T → wp_ov_want_78 l1 l2 l3 l4 l5 Kk2 Q2 f v6 T := by
  intro f
  induction f with
  | zero => intro v6 T w; exact w.elim
  | succ f ih => intro v6 T w; exact mb_ov_want_78 l1 l2 l3 l4 l5 hK hQ ih v6 T w
theorem wr_ov_want_78 (l1 : Nat) (l2 : Nat) (l3 : Int32) (l4 : Int32) (l5 : Int32) {Kk : Int32 → St → Prop} {Q : St → Prop} (I : Int32 → St → Prop) (m : Int32 → St → Nat) (hv : ∀ (v6 : Int32) (T : St), I v6 T → bd_ov_want_78 l1 l2 l3 l4 l5 Kk Q (fun uv6 uT => I uv6 uT ∧ m uv6 uT < m v6 T) v6 T) : ∀ (f : Nat) (v6 : Int32) (T : St), m v6 T < f → I v6 T → wp_ov_want_78 l1 l2 l3 l4 l5 Kk Q f v6 T := by
  intro f
  induction f with
  | zero => intro v6 T h; exact absurd h (Nat.not_lt_zero _)
  | succ f ih => intro v6 T h hi; exact mb_ov_want_78 l1 l2 l3 l4 l5 (fun _ _ h => h) (fun _ h => h) (fun uv6 uT g => ih uv6 uT (by omega) g.1) v6 T (hv v6 T hi)
theorem so_ov_want_78 (l1 : Nat) (l2 : Nat) (l3 : Int32) (l4 : Int32) (l5 : Int32) {K : Int32 → St → St} {Kk Kk2 : Int32 → St → Prop} {Q : St → Prop} (hk : ∀ (v6 : Int32) (T : St), Kk v6 T → Kk2 v6 T ∧ Q (K v6 T)) : ∀ (f : Nat) (v6 : Int32) (T : St), wp_ov_want_78 l1 l2 l3 l4 l5 Kk Q f v6 T → ok_ov_want_78 l1 l2 l3 l4 l5 Kk2 f v6 T ∧ Q (x_ov_want_78 l1 l2 l3 l4 l5 K f v6 T) := by
  intro f
  induction f with
  | zero => intro v6 T w; exact w.elim
  | succ f ih =>
    intro v6 T w
    rw [wp_ov_want_78, bd_ov_want_78] at w
    rw [ok_ov_want_78, x_ov_want_78]
    refine so_if2 (Q := Q) w (fun c82_3 w => ?_) (fun c82_3 w => ?_)
    · exact hk v6 T w
    · obtain ⟨q7, w⟩ := w
      refine so_rq q7 ?_
      obtain ⟨q8, w⟩ := w
      refine so_rq q8 ?_
      obtain ⟨q9, w⟩ := w
      refine so_rq q9 ?_
      refine so_n (Q := Q) w (fun T4 w => ?_)
      refine so_n (Q := Q) w (fun T5 w => ?_)
      exact ih (v6 + 1) T5 w
def bd_ov_want_19 (l1 : Nat) (l2 : Nat) (Kk : Int32 → St → Prop) (Q : St → Prop) (N : Int32 → St → Prop) (v3 : Int32) (T : St) : Prop := (sh l2 = .inr 7) ∧ ((((T.1 l2 1) ≤ v3) → Kk v3 T) ∧ (¬ ((T.1 l2 1) ≤ v3) → (vp_in v3 12) ∧ jn (fun (i1 : Int32) => (sh l1 = .inr 1) ∧ (vp_in i1 24) ∧ ((((T.2.2.1 (l1 + 9) (i1 : Int32).toNatClampNeg) = 1) → jn (fun (i2 : Int32) => jn (fun (i3 : Int32) => wp_ov_want_78 l1 l2 v3 i1 i2 (fun w1_6 T201 => N (v3 + 1) T201) Q 1000 i3 T) (if 0 < T.2.2.1 (l2 + 5) (v3 : Int32).toNatClampNeg then T.2.2.1 (l2 + 5) (v3 : Int32).toNatClampNeg else 0 : Int32)) (if (T.2.2.1 (l2 + 5) (v3 : Int32).toNatClampNeg) + (T.2.2.1 (l2 + 6) (v3 : Int32).toNatClampNeg) < 60 then (T.2.2.1 (l2 + 5) (v3 : Int32).toNatClampNeg) + (T.2.2.1 (l2 + 6) (v3 : Int32).toNatClampNeg) else 60 : Int32)) ∧ (¬ ((T.2.2.1 (l1 + 9) (i1 : Int32).toNatClampNeg) = 1) → N (v3 + 1) T))) (T.2.2.1 (l2 + 3) (v3 : Int32).toNatClampNeg)))
def wp_ov_want_19 (l1 : Nat) (l2 : Nat) (Kk : Int32 → St → Prop) (Q : St → Prop) : Nat → Int32 → St → Prop
  | 0, _, _ => False
  | f + 1, v3, T => bd_ov_want_19 l1 l2 Kk Q (wp_ov_want_19 l1 l2 Kk Q f) v3 T
theorem mb_ov_want_19 (l1 : Nat) (l2 : Nat) {Kk Kk2 : Int32 → St → Prop} {Q Q2 : St → Prop} {N N2 : Int32 → St → Prop} (hK : ∀ (v3 : Int32) (T : St), Kk v3 T → Kk2 v3 T) (hQ : ∀ r, Q r → Q2 r) (hN : ∀ (v3 : Int32) (T : St), N v3 T → N2 v3 T) (v3 : Int32) (T : St) (w : bd_ov_want_19 l1 l2 Kk Q N v3 T) : bd_ov_want_19 l1 l2 Kk2 Q2 N2 v3 T := by
  unfold bd_ov_want_19 at w ⊢
  obtain ⟨q3, w⟩ := w
  refine ⟨q3, ?_⟩
  refine mo_if w (fun c24_1 w => ?_) (fun c24_1 w => ?_)
  · exact hK v3 T w
  · obtain ⟨q4, w⟩ := w
    refine ⟨q4, ?_⟩
    refine mo_n w (fun i1 w => ?_)
    obtain ⟨q5, w⟩ := w
    refine ⟨q5, ?_⟩
    obtain ⟨q6, w⟩ := w
    refine ⟨q6, ?_⟩
    refine mo_if w (fun c43_2 w => ?_) (fun c43_2 w => ?_)
    · refine mo_n w (fun i2 w => ?_)
      refine mo_n w (fun i3 w => ?_)
      refine mo_ov_want_78 l1 l2 v3 i1 i2 (fun w1_6 T201 w => ?_) hQ 1000 i3 T w
      exact hN (v3 + 1) T201 w
    · exact hN (v3 + 1) T w
theorem mo_ov_want_19 (l1 : Nat) (l2 : Nat) {Kk Kk2 : Int32 → St → Prop} {Q Q2 : St → Prop} (hK : ∀ (v3 : Int32) (T : St), Kk v3 T → Kk2 v3 T) (hQ : ∀ r, Q r → Q2 r) : ∀ (f : Nat) (v3 : Int32) (T : St), wp_ov_want_19 l1 l2 Kk Q f v3 T → wp_ov_want_19 l1 l2 Kk2 Q2 f v3 T := by
  intro f
  induction f with
  | zero => intro v3 T w; exact w.elim
  | succ f ih => intro v3 T w; exact mb_ov_want_19 l1 l2 hK hQ ih v3 T w
theorem wr_ov_want_19 (l1 : Nat) (l2 : Nat) {Kk : Int32 → St → Prop} {Q : St → Prop} (I : Int32 → St → Prop) (m : Int32 → St → Nat) (hv : ∀ (v3 : Int32) (T : St), I v3 T → bd_ov_want_19 l1 l2 Kk Q (fun uv3 uT => I uv3 uT ∧ m uv3 uT < m v3 T) v3 T) : ∀ (f : Nat) (v3 : Int32) (T : St), m v3 T < f → I v3 T → wp_ov_want_19 l1 l2 Kk Q f v3 T := by
  intro f
  induction f with
  | zero => intro v3 T h; exact absurd h (Nat.not_lt_zero _)
  | succ f ih => intro v3 T h hi; exact mb_ov_want_19 l1 l2 (fun _ _ h => h) (fun _ h => h) (fun uv3 uT g => ih uv3 uT (by omega) g.1) v3 T (hv v3 T hi)
theorem so_ov_want_19 (l1 : Nat) (l2 : Nat) {K : Int32 → St → St} {Kk Kk2 : Int32 → St → Prop} {Q : St → Prop} (hk : ∀ (v3 : Int32) (T : St), Kk v3 T → Kk2 v3 T ∧ Q (K v3 T)) : ∀ (f : Nat) (v3 : Int32) (T : St), wp_ov_want_19 l1 l2 Kk Q f v3 T → ok_ov_want_19 l1 l2 Kk2 f v3 T ∧ Q (x_ov_want_19 l1 l2 K f v3 T) := by
  intro f
  induction f with
  | zero => intro v3 T w; exact w.elim
  | succ f ih =>
    intro v3 T w
    rw [wp_ov_want_19, bd_ov_want_19] at w
    rw [ok_ov_want_19, x_ov_want_19]
    obtain ⟨q3, w⟩ := w
    refine so_rq q3 ?_
    refine so_if2 (Q := Q) w (fun c24_1 w => ?_) (fun c24_1 w => ?_)
    · exact hk v3 T w
    · obtain ⟨q4, w⟩ := w
      refine so_rq q4 ?_
      refine so_n (Q := Q) w (fun i1 w => ?_)
      obtain ⟨q5, w⟩ := w
      refine so_rq q5 ?_
      obtain ⟨q6, w⟩ := w
      refine so_rq q6 ?_
      refine so_if2 (Q := Q) w (fun c43_2 w => ?_) (fun c43_2 w => ?_)
      · refine so_n (Q := Q) w (fun i2 w => ?_)
        refine so_n (Q := Q) w (fun i3 w => ?_)
        refine so_ov_want_78 l1 l2 v3 i1 i2 (fun w1_6 T201 w => ?_) 1000 i3 T w
        exact ih (v3 + 1) T201 w
      · exact ih (v3 + 1) T w
def wp_ov_want (T : St) (p0 : Nat) (p1 : Nat) (Q : St → Prop) : Prop := (ok_fillI T 529 0) ∧ (ok_fillI (x_fillI T 529 0) 530 9) ∧ wp_ov_want_19 p0 p1 (fun w2_3 T202 => Q T202) Q 1000 0 (x_fillI (x_fillI T 529 0) 530 9)
theorem so_ov_want {T : St} (p0 : Nat) (p1 : Nat) {Q : St → Prop} (w : wp_ov_want T p0 p1 Q) : ok_ov_want T p0 p1 ∧ Q (x_ov_want T p0 p1) := by
  unfold wp_ov_want at w
  unfold ok_ov_want x_ov_want
  obtain ⟨q1, w⟩ := w
  refine so_rq q1 ?_
  obtain ⟨q2, w⟩ := w
  refine so_rq q2 ?_
  refine so_ov_want_19 p0 p1 (fun w2_3 T202 w => ?_) 1000 0 (x_fillI (x_fillI T 529 0) 530 9) w
  refine ⟨trivial, ?_⟩
  exact w
def bd_ov_firstLack_8 (T : St) (l1 : Int32) (l2 : Int32) (Kk : Int32 → Int32 → Int32 → Prop) (Q : Int32 → Prop) (N : Int32 → Int32 → Int32 → Prop) (v3 : Int32) (v4 : Int32) (v5 : Int32) : Prop := (((60 ≤ v5) → Kk v3 v4 v5) ∧ (¬ (60 ≤ v5) → (vp_in v5 60) ∧ jn (fun (i1 : Int32) => jn (fun (i2 : Int32) => (((i1 ≤ i2) → N i1 i2 (v5 + 1)) ∧ (¬ (i1 ≤ i2) → Q v5))) (if v4 + l1 < T.2.2.1 530 (v5 : Int32).toNatClampNeg then v4 + l1 else T.2.2.1 530 (v5 : Int32).toNatClampNeg : Int32)) (if T.2.2.1 529 (v5 : Int32).toNatClampNeg < v3 - l2 then v3 - l2 else T.2.2.1 529 (v5 : Int32).toNatClampNeg : Int32)))
def wp_ov_firstLack_8 (T : St) (l1 : Int32) (l2 : Int32) (Kk : Int32 → Int32 → Int32 → Prop) (Q : Int32 → Prop) : Nat → Int32 → Int32 → Int32 → Prop
  | 0, _, _, _ => False
  | f + 1, v3, v4, v5 => bd_ov_firstLack_8 T l1 l2 Kk Q (wp_ov_firstLack_8 T l1 l2 Kk Q f) v3 v4 v5
theorem mb_ov_firstLack_8 (T : St) (l1 : Int32) (l2 : Int32) {Kk Kk2 : Int32 → Int32 → Int32 → Prop} {Q Q2 : Int32 → Prop} {N N2 : Int32 → Int32 → Int32 → Prop} (hK : ∀ (v3 : Int32) (v4 : Int32) (v5 : Int32), Kk v3 v4 v5 → Kk2 v3 v4 v5) (hQ : ∀ r, Q r → Q2 r) (hN : ∀ (v3 : Int32) (v4 : Int32) (v5 : Int32), N v3 v4 v5 → N2 v3 v4 v5) (v3 : Int32) (v4 : Int32) (v5 : Int32) (w : bd_ov_firstLack_8 T l1 l2 Kk Q N v3 v4 v5) : bd_ov_firstLack_8 T l1 l2 Kk2 Q2 N2 v3 v4 v5 := by
  unfold bd_ov_firstLack_8 at w ⊢
  refine mo_if w (fun c12_1 w => ?_) (fun c12_1 w => ?_)
  · exact hK v3 v4 v5 w
  · obtain ⟨q1, w⟩ := w
    refine ⟨q1, ?_⟩
    refine mo_n w (fun i1 w => ?_)
    refine mo_n w (fun i2 w => ?_)
    refine mo_if w (fun c48_2 w => ?_) (fun c48_2 w => ?_)
    · exact hN i1 i2 (v5 + 1) w
    · exact hQ _ w
theorem mo_ov_firstLack_8 (T : St) (l1 : Int32) (l2 : Int32) {Kk Kk2 : Int32 → Int32 → Int32 → Prop} {Q Q2 : Int32 → Prop} (hK : ∀ (v3 : Int32) (v4 : Int32) (v5 : Int32), Kk v3 v4 v5 → Kk2 v3 v4 v5) (hQ : ∀ r, Q r → Q2 r) : ∀ (f : Nat) (v3 : Int32) (v4 : Int32) (v5 : Int32), wp_ov_firstLack_8 T l1 l2 Kk Q f v3 v4 v5 → wp_ov_firstLack_8 T l1 l2 Kk2 Q2 f v3 v4 v5 := by
  intro f
  induction f with
  | zero => intro v3 v4 v5 w; exact w.elim
  | succ f ih => intro v3 v4 v5 w; exact mb_ov_firstLack_8 T l1 l2 hK hQ ih v3 v4 v5 w
theorem wr_ov_firstLack_8 (T : St) (l1 : Int32) (l2 : Int32) {Kk : Int32 → Int32 → Int32 → Prop} {Q : Int32 → Prop} (I : Int32 → Int32 → Int32 → Prop) (m : Int32 → Int32 → Int32 → Nat) (hv : ∀ (v3 : Int32) (v4 : Int32) (v5 : Int32), I v3 v4 v5 → bd_ov_firstLack_8 T l1 l2 Kk Q (fun uv3 uv4 uv5 => I uv3 uv4 uv5 ∧ m uv3 uv4 uv5 < m v3 v4 v5) v3 v4 v5) : ∀ (f : Nat) (v3 : Int32) (v4 : Int32) (v5 : Int32), m v3 v4 v5 < f → I v3 v4 v5 → wp_ov_firstLack_8 T l1 l2 Kk Q f v3 v4 v5 := by
  intro f
  induction f with
  | zero => intro v3 v4 v5 h; exact absurd h (Nat.not_lt_zero _)
  | succ f ih => intro v3 v4 v5 h hi; exact mb_ov_firstLack_8 T l1 l2 (fun _ _ _ h => h) (fun _ h => h) (fun uv3 uv4 uv5 g => ih uv3 uv4 uv5 (by omega) g.1) v3 v4 v5 (hv v3 v4 v5 hi)
theorem so_ov_firstLack_8 (T : St) (l1 : Int32) (l2 : Int32) {K : Int32 → Int32 → Int32 → Int32} {Kk Kk2 : Int32 → Int32 → Int32 → Prop} {Q : Int32 → Prop} (hk : ∀ (v3 : Int32) (v4 : Int32) (v5 : Int32), Kk v3 v4 v5 → Kk2 v3 v4 v5 ∧ Q (K v3 v4 v5)) : ∀ (f : Nat) (v3 : Int32) (v4 : Int32) (v5 : Int32), wp_ov_firstLack_8 T l1 l2 Kk Q f v3 v4 v5 → ok_ov_firstLack_8 T l1 l2 Kk2 f v3 v4 v5 ∧ Q (x_ov_firstLack_8 T l1 l2 K f v3 v4 v5) := by
  intro f
  induction f with
  | zero => intro v3 v4 v5 w; exact w.elim
  | succ f ih =>
    intro v3 v4 v5 w
    rw [wp_ov_firstLack_8, bd_ov_firstLack_8] at w
    rw [ok_ov_firstLack_8, x_ov_firstLack_8]
    refine so_if2 (Q := Q) w (fun c12_1 w => ?_) (fun c12_1 w => ?_)
    · exact hk v3 v4 v5 w
    · obtain ⟨q1, w⟩ := w
      refine so_rq q1 ?_
      refine so_n (Q := Q) w (fun i1 w => ?_)
      refine so_n (Q := Q) w (fun i2 w => ?_)
      refine so_ifT (Q := Q) w (fun c48_2 w => ?_) (fun c48_2 w => ?_)
      · exact ih i1 i2 (v5 + 1) w
      · exact w
def wp_ov_firstLack (T : St) (p0 : Int32) (p1 : Int32) (Q : Int32 → Prop) : Prop := wp_ov_firstLack_8 T p0 p1 (fun w1_3 w1_4 w1_5 => Q 60) Q 1000 0 0 0
theorem so_ov_firstLack {T : St} (p0 : Int32) (p1 : Int32) {Q : Int32 → Prop} (w : wp_ov_firstLack T p0 p1 Q) : ok_ov_firstLack T p0 p1 ∧ Q (x_ov_firstLack T p0 p1) := by
  unfold wp_ov_firstLack at w
  unfold ok_ov_firstLack x_ov_firstLack
  refine so_ov_firstLack_8 T p0 p1 (fun w1_3 w1_4 w1_5  w => ?_) 1000 0 0 0 w
  refine ⟨trivial, ?_⟩
  exact w
def bd_ov_settle_3 (l1 : Int32) (l2 : Int32) (Kk : Int32 → St → Prop) (Q : St → Prop) (N : Int32 → St → Prop) (v3 : Int32) (T : St) : Prop := (((v3 < 0) → Kk v3 T) ∧ (¬ (v3 < 0) → (vp_in v3 60) ∧ (vp_in (v3 + 1) 60) ∧ jn (fun (T1 : St) => N (v3 + (-1)) T1) (sA T 529 (v3 : Int32).toNatClampNeg (if T.2.2.1 529 (v3 : Int32).toNatClampNeg < (T.2.2.1 529 (v3 + 1 : Int32).toNatClampNeg) - l1 then (T.2.2.1 529 (v3 + 1 : Int32).toNatClampNeg) - l1 else T.2.2.1 529 (v3 : Int32).toNatClampNeg : Int32))))
def wp_ov_settle_3 (l1 : Int32) (l2 : Int32) (Kk : Int32 → St → Prop) (Q : St → Prop) : Nat → Int32 → St → Prop
  | 0, _, _ => False
  | f + 1, v3, T => bd_ov_settle_3 l1 l2 Kk Q (wp_ov_settle_3 l1 l2 Kk Q f) v3 T
theorem mb_ov_settle_3 (l1 : Int32) (l2 : Int32) {Kk Kk2 : Int32 → St → Prop} {Q Q2 : St → Prop} {N N2 : Int32 → St → Prop} (hK : ∀ (v3 : Int32) (T : St), Kk v3 T → Kk2 v3 T) (hQ : ∀ r, Q r → Q2 r) (hN : ∀ (v3 : Int32) (T : St), N v3 T → N2 v3 T) (v3 : Int32) (T : St) (w : bd_ov_settle_3 l1 l2 Kk Q N v3 T) : bd_ov_settle_3 l1 l2 Kk2 Q2 N2 v3 T := by
  unfold bd_ov_settle_3 at w ⊢
  refine mo_if w (fun c4_1 w => ?_) (fun c4_1 w => ?_)
  · exact hK v3 T w
  · obtain ⟨q1, w⟩ := w
    refine ⟨q1, ?_⟩
    obtain ⟨q2, w⟩ := w
    refine ⟨q2, ?_⟩
    refine mo_n w (fun T1 w => ?_)
    exact hN (v3 + (-1)) T1 w
theorem mo_ov_settle_3 (l1 : Int32) (l2 : Int32) {Kk Kk2 : Int32 → St → Prop} {Q Q2 : St → Prop} (hK : ∀ (v3 : Int32) (T : St), Kk v3 T → Kk2 v3 T) (hQ : ∀ r, Q r → Q2 r) : ∀ (f : Nat) (v3 : Int32) (T : St), wp_ov_settle_3 l1 l2 Kk Q f v3 T → wp_ov_settle_3 l1 l2 Kk2 Q2 f v3 T := by
  intro f
  induction f with
  | zero => intro v3 T w; exact w.elim
  | succ f ih => intro v3 T w; exact mb_ov_settle_3 l1 l2 hK hQ ih v3 T w
theorem wr_ov_settle_3 (l1 : Int32) (l2 : Int32) {Kk : Int32 → St → Prop} {Q : St → Prop} (I : Int32 → St → Prop) (m : Int32 → St → Nat) (hv : ∀ (v3 : Int32) (T : St), I v3 T → bd_ov_settle_3 l1 l2 Kk Q (fun uv3 uT => I uv3 uT ∧ m uv3 uT < m v3 T) v3 T) : ∀ (f : Nat) (v3 : Int32) (T : St), m v3 T < f → I v3 T → wp_ov_settle_3 l1 l2 Kk Q f v3 T := by
  intro f
  induction f with
  | zero => intro v3 T h; exact absurd h (Nat.not_lt_zero _)
  | succ f ih => intro v3 T h hi; exact mb_ov_settle_3 l1 l2 (fun _ _ h => h) (fun _ h => h) (fun uv3 uT g => ih uv3 uT (by omega) g.1) v3 T (hv v3 T hi)
theorem so_ov_settle_3 (l1 : Int32) (l2 : Int32) {K : Int32 → St → St} {Kk Kk2 : Int32 → St → Prop} {Q : St → Prop} (hk : ∀ (v3 : Int32) (T : St), Kk v3 T → Kk2 v3 T ∧ Q (K v3 T)) : ∀ (f : Nat) (v3 : Int32) (T : St), wp_ov_settle_3 l1 l2 Kk Q f v3 T → ok_ov_settle_3 l1 l2 Kk2 f v3 T ∧ Q (x_ov_settle_3 l1 l2 K f v3 T) := by
  intro f
  induction f with
  | zero => intro v3 T w; exact w.elim
  | succ f ih =>
    intro v3 T w
    rw [wp_ov_settle_3, bd_ov_settle_3] at w
    rw [ok_ov_settle_3, x_ov_settle_3]
    refine so_if2 (Q := Q) w (fun c4_1 w => ?_) (fun c4_1 w => ?_)
    · exact hk v3 T w
    · obtain ⟨q1, w⟩ := w
      refine so_rq q1 ?_
      obtain ⟨q2, w⟩ := w
      refine so_rq q2 ?_
      refine so_n (Q := Q) w (fun T1 w => ?_)
      exact ih (v3 + (-1)) T1 w
def bd_ov_settle_43 (l1 : Int32) (l2 : Int32) (Kk : Int32 → Int32 → St → Prop) (Q : St → Prop) (N : Int32 → Int32 → St → Prop) (v3 : Int32) (v4 : Int32) (T : St) : Prop := (((60 ≤ v4) → Kk v3 v4 T) ∧ (¬ (60 ≤ v4) → (vp_in v4 60) ∧ jn (fun (i2 : Int32) => N i2 (v4 + 1) (sA T 531 (v4 : Int32).toNatClampNeg i2)) (if T.2.2.1 529 (v4 : Int32).toNatClampNeg < v3 - l2 then v3 - l2 else T.2.2.1 529 (v4 : Int32).toNatClampNeg : Int32)))
def wp_ov_settle_43 (l1 : Int32) (l2 : Int32) (Kk : Int32 → Int32 → St → Prop) (Q : St → Prop) : Nat → Int32 → Int32 → St → Prop
  | 0, _, _, _ => False
  | f + 1, v3, v4, T => bd_ov_settle_43 l1 l2 Kk Q (wp_ov_settle_43 l1 l2 Kk Q f) v3 v4 T
theorem mb_ov_settle_43 (l1 : Int32) (l2 : Int32) {Kk Kk2 : Int32 → Int32 → St → Prop} {Q Q2 : St → Prop} {N N2 : Int32 → Int32 → St → Prop} (hK : ∀ (v3 : Int32) (v4 : Int32) (T : St), Kk v3 v4 T → Kk2 v3 v4 T) (hQ : ∀ r, Q r → Q2 r) (hN : ∀ (v3 : Int32) (v4 : Int32) (T : St), N v3 v4 T → N2 v3 v4 T) (v3 : Int32) (v4 : Int32) (T : St) (w : bd_ov_settle_43 l1 l2 Kk Q N v3 v4 T) : bd_ov_settle_43 l1 l2 Kk2 Q2 N2 v3 v4 T := by
  unfold bd_ov_settle_43 at w ⊢
  refine mo_if w (fun c47_2 w => ?_) (fun c47_2 w => ?_)
  · exact hK v3 v4 T w
  · obtain ⟨q3, w⟩ := w
    refine ⟨q3, ?_⟩
    refine mo_n w (fun i2 w => ?_)
    exact hN i2 (v4 + 1) (sA T 531 (v4 : Int32).toNatClampNeg i2) w
theorem mo_ov_settle_43 (l1 : Int32) (l2 : Int32) {Kk Kk2 : Int32 → Int32 → St → Prop} {Q Q2 : St → Prop} (hK : ∀ (v3 : Int32) (v4 : Int32) (T : St), Kk v3 v4 T → Kk2 v3 v4 T) (hQ : ∀ r, Q r → Q2 r) : ∀ (f : Nat) (v3 : Int32) (v4 : Int32) (T : St), wp_ov_settle_43 l1 l2 Kk Q f v3 v4 T → wp_ov_settle_43 l1 l2 Kk2 Q2 f v3 v4 T := by
  intro f
  induction f with
  | zero => intro v3 v4 T w; exact w.elim
  | succ f ih => intro v3 v4 T w; exact mb_ov_settle_43 l1 l2 hK hQ ih v3 v4 T w
theorem wr_ov_settle_43 (l1 : Int32) (l2 : Int32) {Kk : Int32 → Int32 → St → Prop} {Q : St → Prop} (I : Int32 → Int32 → St → Prop) (m : Int32 → Int32 → St → Nat) (hv : ∀ (v3 : Int32) (v4 : Int32) (T : St), I v3 v4 T → bd_ov_settle_43 l1 l2 Kk Q (fun uv3 uv4 uT => I uv3 uv4 uT ∧ m uv3 uv4 uT < m v3 v4 T) v3 v4 T) : ∀ (f : Nat) (v3 : Int32) (v4 : Int32) (T : St), m v3 v4 T < f → I v3 v4 T → wp_ov_settle_43 l1 l2 Kk Q f v3 v4 T := by
  intro f
  induction f with
  | zero => intro v3 v4 T h; exact absurd h (Nat.not_lt_zero _)
  | succ f ih => intro v3 v4 T h hi; exact mb_ov_settle_43 l1 l2 (fun _ _ _ h => h) (fun _ h => h) (fun uv3 uv4 uT g => ih uv3 uv4 uT (by omega) g.1) v3 v4 T (hv v3 v4 T hi)
theorem so_ov_settle_43 (l1 : Int32) (l2 : Int32) {K : Int32 → Int32 → St → St} {Kk Kk2 : Int32 → Int32 → St → Prop} {Q : St → Prop} (hk : ∀ (v3 : Int32) (v4 : Int32) (T : St), Kk v3 v4 T → Kk2 v3 v4 T ∧ Q (K v3 v4 T)) : ∀ (f : Nat) (v3 : Int32) (v4 : Int32) (T : St), wp_ov_settle_43 l1 l2 Kk Q f v3 v4 T → ok_ov_settle_43 l1 l2 Kk2 f v3 v4 T ∧ Q (x_ov_settle_43 l1 l2 K f v3 v4 T) := by
  intro f
  induction f with
  | zero => intro v3 v4 T w; exact w.elim
  | succ f ih =>
    intro v3 v4 T w
    rw [wp_ov_settle_43, bd_ov_settle_43] at w
    rw [ok_ov_settle_43, x_ov_settle_43]
    refine so_if2 (Q := Q) w (fun c47_2 w => ?_) (fun c47_2 w => ?_)
    · exact hk v3 v4 T w
    · obtain ⟨q3, w⟩ := w
      refine so_rq q3 ?_
      refine so_n (Q := Q) w (fun i2 w => ?_)
      exact ih i2 (v4 + 1) (sA T 531 (v4 : Int32).toNatClampNeg i2) w
def wp_ov_settle (T : St) (p0 : Int32) (p1 : Int32) (Q : St → Prop) : Prop := wp_ov_settle_3 p0 p1 (fun w1_3 T201 => wp_ov_settle_43 p0 p1 (fun w2_3 w2_4 T202 => Q T202) Q 1000 0 0 T201) Q 1000 58 T
theorem so_ov_settle {T : St} (p0 : Int32) (p1 : Int32) {Q : St → Prop} (w : wp_ov_settle T p0 p1 Q) : ok_ov_settle T p0 p1 ∧ Q (x_ov_settle T p0 p1) := by
  unfold wp_ov_settle at w
  unfold ok_ov_settle x_ov_settle
  refine so_ov_settle_3 p0 p1 (fun w1_3 T201 w => ?_) 1000 58 T w
  refine so_ov_settle_43 p0 p1 (fun w2_3 w2_4 T202 w => ?_) 1000 0 0 T201 w
  refine ⟨trivial, ?_⟩
  exact w
def bd_pl_strikeEarly_2  (Kk : Int32 → St → Prop) (Q : St → Prop) (N : Int32 → St → Prop) (v1 : Int32) (T : St) : Prop := ((((Int32.ofNat 96) ≤ v1) → Kk v1 T) ∧ (¬ ((Int32.ofNat 96) ≤ v1) → (vp_in v1 96) ∧ ((((T.1 (123 + 4 * (v1 : Int32).toNatClampNeg) 4) ≤ 0) → N (v1 + 1) T) ∧ (¬ ((T.1 (123 + 4 * (v1 : Int32).toNatClampNeg) 4) ≤ 0) → N (v1 + 1) (sF T (123 + 4 * (v1 : Int32).toNatClampNeg) 6 0)))))
def wp_pl_strikeEarly_2  (Kk : Int32 → St → Prop) (Q : St → Prop) : Nat → Int32 → St → Prop
  | 0, _, _ => False
  | f + 1, v1, T => bd_pl_strikeEarly_2  Kk Q (wp_pl_strikeEarly_2  Kk Q f) v1 T
theorem mb_pl_strikeEarly_2  {Kk Kk2 : Int32 → St → Prop} {Q Q2 : St → Prop} {N N2 : Int32 → St → Prop} (hK : ∀ (v1 : Int32) (T : St), Kk v1 T → Kk2 v1 T) (hQ : ∀ r, Q r → Q2 r) (hN : ∀ (v1 : Int32) (T : St), N v1 T → N2 v1 T) (v1 : Int32) (T : St) (w : bd_pl_strikeEarly_2  Kk Q N v1 T) : bd_pl_strikeEarly_2  Kk2 Q2 N2 v1 T := by
  unfold bd_pl_strikeEarly_2 at w ⊢
  refine mo_if w (fun c8_1 w => ?_) (fun c8_1 w => ?_)
  · exact hK v1 T w
  · obtain ⟨q1, w⟩ := w
    refine ⟨q1, ?_⟩
    refine mo_if w (fun c20_2 w => ?_) (fun c20_2 w => ?_)
    · exact hN (v1 + 1) T w
    · exact hN (v1 + 1) (sF T (123 + 4 * (v1 : Int32).toNatClampNeg) 6 0) w
theorem mo_pl_strikeEarly_2  {Kk Kk2 : Int32 → St → Prop} {Q Q2 : St → Prop} (hK : ∀ (v1 : Int32) (T : St), Kk v1 T → Kk2 v1 T) (hQ : ∀ r, Q r → Q2 r) : ∀ (f : Nat) (v1 : Int32) (T : St), wp_pl_strikeEarly_2  Kk Q f v1 T → wp_pl_strikeEarly_2  Kk2 Q2 f v1 T := by
  intro f
  induction f with
  | zero => intro v1 T w; exact w.elim
  | succ f ih => intro v1 T w; exact mb_pl_strikeEarly_2  hK hQ ih v1 T w
theorem wr_pl_strikeEarly_2  {Kk : Int32 → St → Prop} {Q : St → Prop} (I : Int32 → St → Prop) (m : Int32 → St → Nat) (hv : ∀ (v1 : Int32) (T : St), I v1 T → bd_pl_strikeEarly_2  Kk Q (fun uv1 uT => I uv1 uT ∧ m uv1 uT < m v1 T) v1 T) : ∀ (f : Nat) (v1 : Int32) (T : St), m v1 T < f → I v1 T → wp_pl_strikeEarly_2  Kk Q f v1 T := by
  intro f
  induction f with
  | zero => intro v1 T h; exact absurd h (Nat.not_lt_zero _)
  | succ f ih => intro v1 T h hi; exact mb_pl_strikeEarly_2  (fun _ _ h => h) (fun _ h => h) (fun uv1 uT g => ih uv1 uT (by omega) g.1) v1 T (hv v1 T hi)
theorem so_pl_strikeEarly_2  {K : Int32 → St → St} {Kk Kk2 : Int32 → St → Prop} {Q : St → Prop} (hk : ∀ (v1 : Int32) (T : St), Kk v1 T → Kk2 v1 T ∧ Q (K v1 T)) : ∀ (f : Nat) (v1 : Int32) (T : St), wp_pl_strikeEarly_2  Kk Q f v1 T → ok_pl_strikeEarly_2  Kk2 f v1 T ∧ Q (x_pl_strikeEarly_2  K f v1 T) := by
  intro f
  induction f with
  | zero => intro v1 T w; exact w.elim
  | succ f ih =>
    intro v1 T w
    rw [wp_pl_strikeEarly_2, bd_pl_strikeEarly_2] at w
    rw [ok_pl_strikeEarly_2, x_pl_strikeEarly_2]
    refine so_if2 (Q := Q) w (fun c8_1 w => ?_) (fun c8_1 w => ?_)
    · exact hk v1 T w
    · obtain ⟨q1, w⟩ := w
      refine so_rq q1 ?_
      refine so_if2 (Q := Q) w (fun c20_2 w => ?_) (fun c20_2 w => ?_)
      · exact ih (v1 + 1) T w
      · exact ih (v1 + 1) (sF T (123 + 4 * (v1 : Int32).toNatClampNeg) 6 0) w
def wp_pl_strikeEarly (T : St)  (Q : St → Prop) : Prop := wp_pl_strikeEarly_2  (fun w1_1 T201 => Q T201) Q 1000 0 T
theorem so_pl_strikeEarly {T : St}  {Q : St → Prop} (w : wp_pl_strikeEarly T  Q) : ok_pl_strikeEarly T  ∧ Q (x_pl_strikeEarly T ) := by
  unfold wp_pl_strikeEarly at w
  unfold ok_pl_strikeEarly x_pl_strikeEarly
  refine so_pl_strikeEarly_2  (fun w1_1 T201 w => ?_) 1000 0 T w
  refine ⟨trivial, ?_⟩
  exact w
def bd_pl_strikeUnlike_45 (l1 : Nat) (l2 : Int32) (l3 : Int32) (l4 : Int32) (l5 : Int32) (Kk : Int32 → St → Prop) (Q : St → Prop) (N : Int32 → St → Prop) (v6 : Int32) (T : St) : Prop := (vp_in l4 8) ∧ ((((T.2.2.1 82 (l4 : Int32).toNatClampNeg) ≤ v6) → Kk v6 T) ∧ (¬ ((T.2.2.1 82 (l4 : Int32).toNatClampNeg) ≤ v6) → (vp_in ((l4 * 12) + v6) 96) ∧ jn (fun (r3 : Nat) => (sh r3 = .inr 10) ∧ (vp_in l5 3) ∧ jn (fun (i4 : Int32) => (sh l1 = .inr 7) ∧ (vp_in l3 12) ∧ jn (fun (KJ1 : Int32 → Prop) => (((l2 ≤ (T.2.2.1 (l1 + 5) (l3 : Int32).toNatClampNeg)) → (((i4 < l2) → KJ1 0) ∧ (¬ (i4 < l2) → KJ1 1))) ∧ (¬ (l2 ≤ (T.2.2.1 (l1 + 5) (l3 : Int32).toNatClampNeg)) → (((i4 = (T.2.2.1 (l1 + 5) (l3 : Int32).toNatClampNeg)) → KJ1 1) ∧ (¬ (i4 = (T.2.2.1 (l1 + 5) (l3 : Int32).toNatClampNeg)) → KJ1 0))))) (fun (j1_s0 : Int32) => (((j1_s0 = 0) → N (v6 + 1) (sF T r3 6 0)) ∧ (¬ (j1_s0 = 0) → N (v6 + 1) T)))) (T.2.2.1 (r3 + 1) (l5 : Int32).toNatClampNeg)) (123 + 4 * ((l4 * 12) + v6 : Int32).toNatClampNeg)))
def wp_pl_strikeUnlike_45 (l1 : Nat) (l2 : Int32) (l3 : Int32) (l4 : Int32) (l5 : Int32) (Kk : Int32 → St → Prop) (Q : St → Prop) : Nat → Int32 → St → Prop
  | 0, _, _ => False
  | f + 1, v6, T => bd_pl_strikeUnlike_45 l1 l2 l3 l4 l5 Kk Q (wp_pl_strikeUnlike_45 l1 l2 l3 l4 l5 Kk Q f) v6 T
theorem mb_pl_strikeUnlike_45 (l1 : Nat) (l2 : Int32) (l3 : Int32) (l4 : Int32) (l5 : Int32) {Kk Kk2 : Int32 → St → Prop} {Q Q2 : St → Prop} {N N2 : Int32 → St → Prop} (hK : ∀ (v6 : Int32) (T : St), Kk v6 T → Kk2 v6 T) (hQ : ∀ r, Q r → Q2 r) (hN : ∀ (v6 : Int32) (T : St), N v6 T → N2 v6 T) (v6 : Int32) (T : St) (w : bd_pl_strikeUnlike_45 l1 l2 l3 l4 l5 Kk Q N v6 T) : bd_pl_strikeUnlike_45 l1 l2 l3 l4 l5 Kk2 Q2 N2 v6 T := by
  unfold bd_pl_strikeUnlike_45 at w ⊢
  obtain ⟨q6, w⟩ := w
  refine ⟨q6, ?_⟩
  refine mo_if w (fun c54_2 w => ?_) (fun c54_2 w => ?_)
  · exact hK v6 T w
  · obtain ⟨q7, w⟩ := w
    refine ⟨q7, ?_⟩
    refine mo_n w (fun r3 w => ?_)
    obtain ⟨q8, w⟩ := w
    refine ⟨q8, ?_⟩
    obtain ⟨q9, w⟩ := w
    refine ⟨q9, ?_⟩
    refine mo_n w (fun i4 w => ?_)
    obtain ⟨q10, w⟩ := w
    refine ⟨q10, ?_⟩
    obtain ⟨q11, w⟩ := w
    refine ⟨q11, ?_⟩
    refine mo_jn (J := fun (KJ1 : Int32 → Prop) (WKJ1 : Int32 → Prop) => ∀ (j1_s0 : Int32), KJ1 j1_s0 → WKJ1 j1_s0) w (fun j1_s0 w => ?_) (fun KJ1 WKJ1 hJ1 w => ?_)
    · skip
      refine mo_if w (fun c126_6 w => ?_) (fun c126_6 w => ?_)
      · exact hN (v6 + 1) (sF T r3 6 0) w
      · exact hN (v6 + 1) T w
    · skip
      refine mo_if w (fun c89_7 w => ?_) (fun c89_7 w => ?_)
      · refine mo_if w (fun c114_8 w => ?_) (fun c114_8 w => ?_)
        · exact hJ1 0 w
        · exact hJ1 1 w
      · refine mo_if w (fun c100_9 w => ?_) (fun c100_9 w => ?_)
        · exact hJ1 1 w
        · exact hJ1 0 w
theorem mo_pl_strikeUnlike_45 (l1 : Nat) (l2 : Int32) (l3 : Int32) (l4 : Int32) (l5 : Int32) {Kk Kk2 : Int32 → St → Prop} {Q Q2 : St → Prop} (hK : ∀ (v6 : Int32) (T : St), Kk v6 T → Kk2 v6 T) (hQ : ∀ r, Q r → Q2 r) : ∀ (f : Nat) (v6 : Int32) (T : St), wp_pl_strikeUnlike_45 l1 l2 l3 l4 l5 Kk Q f v6 T → wp_pl_strikeUnlike_45 l1 l2 l3 l4 l5 Kk2 Q2 f v6 T := by
  intro f
  induction f with
  | zero => intro v6 T w; exact w.elim
  | succ f ih => intro v6 T w; exact mb_pl_strikeUnlike_45 l1 l2 l3 l4 l5 hK hQ ih v6 T w
theorem wr_pl_strikeUnlike_45 (l1 : Nat) (l2 : Int32) (l3 : Int32) (l4 : Int32) (l5 : Int32) {Kk : Int32 → St → Prop} {Q : St → Prop} (I : Int32 → St → Prop) (m : Int32 → St → Nat) (hv : ∀ (v6 : Int32) (T : St), I v6 T → bd_pl_strikeUnlike_45 l1 l2 l3 l4 l5 Kk Q (fun uv6 uT => I uv6 uT ∧ m uv6 uT < m v6 T) v6 T) : ∀ (f : Nat) (v6 : Int32) (T : St), m v6 T < f → I v6 T → wp_pl_strikeUnlike_45 l1 l2 l3 l4 l5 Kk Q f v6 T := by
  intro f
  induction f with
  | zero => intro v6 T h; exact absurd h (Nat.not_lt_zero _)
  | succ f ih => intro v6 T h hi; exact mb_pl_strikeUnlike_45 l1 l2 l3 l4 l5 (fun _ _ h => h) (fun _ h => h) (fun uv6 uT g => ih uv6 uT (by omega) g.1) v6 T (hv v6 T hi)
theorem so_pl_strikeUnlike_45 (l1 : Nat) (l2 : Int32) (l3 : Int32) (l4 : Int32) (l5 : Int32) {K : Int32 → St → St} {Kk Kk2 : Int32 → St → Prop} {Q : St → Prop} (hk : ∀ (v6 : Int32) (T : St), Kk v6 T → Kk2 v6 T ∧ Q (K v6 T)) : ∀ (f : Nat) (v6 : Int32) (T : St), wp_pl_strikeUnlike_45 l1 l2 l3 l4 l5 Kk Q f v6 T → ok_pl_strikeUnlike_45 l1 l2 l3 l4 l5 Kk2 f v6 T ∧ Q (x_pl_strikeUnlike_45 l1 l2 l3 l4 l5 K f v6 T) := by
  intro f
  induction f with
  | zero => intro v6 T w; exact w.elim
  | succ f ih =>
    intro v6 T w
    rw [wp_pl_strikeUnlike_45, bd_pl_strikeUnlike_45] at w
    rw [ok_pl_strikeUnlike_45, x_pl_strikeUnlike_45]
    obtain ⟨q6, w⟩ := w
    refine so_rq q6 ?_
    refine so_if2 (Q := Q) w (fun c54_2 w => ?_) (fun c54_2 w => ?_)
    · exact hk v6 T w
    · obtain ⟨q7, w⟩ := w
      refine so_rq q7 ?_
      refine so_n (Q := Q) w (fun r3 w => ?_)
      obtain ⟨q8, w⟩ := w
      refine so_rq q8 ?_
      obtain ⟨q9, w⟩ := w
      refine so_rq q9 ?_
      refine so_n (Q := Q) w (fun i4 w => ?_)
      obtain ⟨q10, w⟩ := w
      refine so_rq q10 ?_
      obtain ⟨q11, w⟩ := w
      refine so_rq q11 ?_
      refine so_jn (Q := Q) (J := fun (KJ1 : Int32 → St) (OJ1 : Int32 → Prop) (WKJ1 : Int32 → Prop) => ∀ (j1_s0 : Int32), WKJ1 j1_s0 → OJ1 j1_s0 ∧ Q (KJ1 j1_s0)) w (fun j1_s0 w => ?_) (fun KJ1 OJ1 WKJ1 hJ1 w => ?_)
      · skip
        refine so_if2 (Q := Q) w (fun c126_6 w => ?_) (fun c126_6 w => ?_)
        · exact ih (v6 + 1) (sF T r3 6 0) w
        · exact ih (v6 + 1) T w
      · skip
        refine so_if2 (Q := Q) w (fun c89_7 w => ?_) (fun c89_7 w => ?_)
        · refine so_if2 (Q := Q) w (fun c114_8 w => ?_) (fun c114_8 w => ?_)
          · exact hJ1 0 w
          · exact hJ1 1 w
        · refine so_if2 (Q := Q) w (fun c100_9 w => ?_) (fun c100_9 w => ?_)
          · exact hJ1 1 w
          · exact hJ1 0 w
def bd_pl_strikeUnlike_2 (l1 : Nat) (l2 : Int32) (Kk : Int32 → St → Prop) (Q : St → Prop) (N : Int32 → St → Prop) (v3 : Int32) (T : St) : Prop := (sh l1 = .inr 7) ∧ ((((T.1 l1 1) ≤ v3) → Kk v3 T) ∧ (¬ ((T.1 l1 1) ≤ v3) → (vp_in v3 12) ∧ (vp_in (T.2.2.1 (l1 + 4) (v3 : Int32).toNatClampNeg) 4) ∧ jn (fun (i1 : Int32) => (sh (T.2.1 2) = .inr 1) ∧ (vp_in i1 8) ∧ jn (fun (i2 : Int32) => wp_pl_strikeUnlike_45 l1 l2 v3 i1 i2 (fun w1_6 T201 => N (v3 + 1) T201) Q 1000 0 T) ((T.2.2.1 (l1 + 3) (v3 : Int32).toNatClampNeg) - (T.2.2.1 ((T.2.1 2) + 8) (i1 : Int32).toNatClampNeg))) (T.2.2.1 (l1 + 1) (T.2.2.1 (l1 + 4) (v3 : Int32).toNatClampNeg : Int32).toNatClampNeg)))
def wp_pl_strikeUnlike_2 (l1 : Nat) (l2 : Int32) (Kk : Int32 → St → Prop) (Q : St → Prop) : Nat → Int32 → St → Prop
  | 0, _, _ => False
  | f + 1, v3, T => bd_pl_strikeUnlike_2 l1 l2 Kk Q (wp_pl_strikeUnlike_2 l1 l2 Kk Q f) v3 T
theorem mb_pl_strikeUnlike_2 (l1 : Nat) (l2 : Int32) {Kk Kk2 : Int32 → St → Prop} {Q Q2 : St → Prop} {N N2 : Int32 → St → Prop} (hK : ∀ (v3 : Int32) (T : St), Kk v3 T → Kk2 v3 T) (hQ : ∀ r, Q r → Q2 r) (hN : ∀ (v3 : Int32) (T : St), N v3 T → N2 v3 T) (v3 : Int32) (T : St) (w : bd_pl_strikeUnlike_2 l1 l2 Kk Q N v3 T) : bd_pl_strikeUnlike_2 l1 l2 Kk2 Q2 N2 v3 T := by
  unfold bd_pl_strikeUnlike_2 at w ⊢
  obtain ⟨q1, w⟩ := w
  refine ⟨q1, ?_⟩
  refine mo_if w (fun c7_1 w => ?_) (fun c7_1 w => ?_)
  · exact hK v3 T w
  · obtain ⟨q2, w⟩ := w
    refine ⟨q2, ?_⟩
    obtain ⟨q3, w⟩ := w
    refine ⟨q3, ?_⟩
    refine mo_n w (fun i1 w => ?_)
    obtain ⟨q4, w⟩ := w
    refine ⟨q4, ?_⟩
    obtain ⟨q5, w⟩ := w
    refine ⟨q5, ?_⟩
    refine mo_n w (fun i2 w => ?_)
    refine mo_pl_strikeUnlike_45 l1 l2 v3 i1 i2 (fun w1_6 T201 w => ?_) hQ 1000 0 T w
    exact hN (v3 + 1) T201 w
theorem mo_pl_strikeUnlike_2 (l1 : Nat) (l2 : Int32) {Kk Kk2 : Int32 → St → Prop} {Q Q2 : St → Prop} (hK : ∀ (v3 : Int32) (T : St), Kk v3 T → Kk2 v3 T) (hQ : ∀ r, Q r → Q2 r) : ∀ (f : Nat) (v3 : Int32) (T : St), wp_pl_strikeUnlike_2 l1 l2 Kk Q f v3 T → wp_pl_strikeUnlike_2 l1 l2 Kk2 Q2 f v3 T := by
  intro f
  induction f with
  | zero => intro v3 T w; exact w.elim
  | succ f ih => intro v3 T w; exact mb_pl_strikeUnlike_2 l1 l2 hK hQ ih v3 T w
theorem wr_pl_strikeUnlike_2 (l1 : Nat) (l2 : Int32) {Kk : Int32 → St → Prop} {Q : St → Prop} (I : Int32 → St → Prop) (m : Int32 → St → Nat) (hv : ∀ (v3 : Int32) (T : St), I v3 T → bd_pl_strikeUnlike_2 l1 l2 Kk Q (fun uv3 uT => I uv3 uT ∧ m uv3 uT < m v3 T) v3 T) : ∀ (f : Nat) (v3 : Int32) (T : St), m v3 T < f → I v3 T → wp_pl_strikeUnlike_2 l1 l2 Kk Q f v3 T := by
  intro f
  induction f with
  | zero => intro v3 T h; exact absurd h (Nat.not_lt_zero _)
  | succ f ih => intro v3 T h hi; exact mb_pl_strikeUnlike_2 l1 l2 (fun _ _ h => h) (fun _ h => h) (fun uv3 uT g => ih uv3 uT (by omega) g.1) v3 T (hv v3 T hi)
theorem so_pl_strikeUnlike_2 (l1 : Nat) (l2 : Int32) {K : Int32 → St → St} {Kk Kk2 : Int32 → St → Prop} {Q : St → Prop} (hk : ∀ (v3 : Int32) (T : St), Kk v3 T → Kk2 v3 T ∧ Q (K v3 T)) : ∀ (f : Nat) (v3 : Int32) (T : St), wp_pl_strikeUnlike_2 l1 l2 Kk Q f v3 T → ok_pl_strikeUnlike_2 l1 l2 Kk2 f v3 T ∧ Q (x_pl_strikeUnlike_2 l1 l2 K f v3 T) := by
  intro f
  induction f with
  | zero => intro v3 T w; exact w.elim
  | succ f ih =>
    intro v3 T w
    rw [wp_pl_strikeUnlike_2, bd_pl_strikeUnlike_2] at w
    rw [ok_pl_strikeUnlike_2, x_pl_strikeUnlike_2]
    obtain ⟨q1, w⟩ := w
    refine so_rq q1 ?_
    refine so_if2 (Q := Q) w (fun c7_1 w => ?_) (fun c7_1 w => ?_)
    · exact hk v3 T w
    · obtain ⟨q2, w⟩ := w
      refine so_rq q2 ?_
      obtain ⟨q3, w⟩ := w
      refine so_rq q3 ?_
      refine so_n (Q := Q) w (fun i1 w => ?_)
      obtain ⟨q4, w⟩ := w
      refine so_rq q4 ?_
      obtain ⟨q5, w⟩ := w
      refine so_rq q5 ?_
      refine so_n (Q := Q) w (fun i2 w => ?_)
      refine so_pl_strikeUnlike_45 l1 l2 v3 i1 i2 (fun w1_6 T201 w => ?_) 1000 0 T w
      exact ih (v3 + 1) T201 w
def wp_pl_strikeUnlike (T : St) (p0 : Nat) (p1 : Int32) (Q : St → Prop) : Prop := wp_pl_strikeUnlike_2 p0 p1 (fun w2_3 T202 => Q T202) Q 1000 0 T
theorem so_pl_strikeUnlike {T : St} (p0 : Nat) (p1 : Int32) {Q : St → Prop} (w : wp_pl_strikeUnlike T p0 p1 Q) : ok_pl_strikeUnlike T p0 p1 ∧ Q (x_pl_strikeUnlike T p0 p1) := by
  unfold wp_pl_strikeUnlike at w
  unfold ok_pl_strikeUnlike x_pl_strikeUnlike
  refine so_pl_strikeUnlike_2 p0 p1 (fun w2_3 T202 w => ?_) 1000 0 T w
  refine ⟨trivial, ?_⟩
  exact w
