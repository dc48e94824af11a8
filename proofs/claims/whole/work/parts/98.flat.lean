/-! ===== rows: one run of numbers; what a told row lacks first ===== -/
section FLAT
variable {B : Nat → Int} {D : Nat} {F : Nat → Nat → Int}
theorem fl_k {e : Nat} (he : D.testBit e = true) : ∀ k, k ≤ nO B e → sm (rbF B D F) (ps B D e + k) = sm (rbF B D F) (ps B D e) + sm (F e) k := by
  intro k
  induction k with
  | zero => intro _; show _ = _ + (0 : Int); rw [Nat.add_zero]; omega
  | succ k ih =>
    intro hk
    show sm (rbF B D F) (ps B D e + k) + rbF B D F (ps B D e + k) = _ + (sm (F e) k + F e k)
    rw [ih (by omega), rb_s he (by omega)]; omega
theorem fl_s : ∀ e, sm (rbF B D F) (ps B D e) = sm (fun d => if D.testBit d then sm (F d) (nO B d) else 0) e := by
  intro e
  induction e with
  | zero => rfl
  | succ e ih =>
    show _ = sm (fun d => if D.testBit d then sm (F d) (nO B d) else 0) e + (if D.testBit e = true then sm (F e) (nO B e) else 0)
    rw [ps_s, ← ih]
    by_cases h : D.testBit e = true
    · rw [if_pos h, if_pos h, fl_k h _ (Nat.le_refl _)]
    · rw [if_neg h, if_neg h, Nat.add_zero]; omega
theorem fx_k {e : Nat} (he : D.testBit e = true) : ∀ k, k ≤ nO B e → mxx (rbF B D F) (ps B D e + k) = max (mxx (rbF B D F) (ps B D e)) (mxx (F e) k) := by
  intro k
  induction k with
  | zero =>
    intro _
    have := mxx_nn (f := rbF B D F) (ps B D e)
    show _ = max _ (0 : Int)
    rw [Nat.add_zero]; omega
  | succ k ih =>
    intro hk
    show max (mxx (rbF B D F) (ps B D e + k)) (rbF B D F (ps B D e + k)) = max _ (max (mxx (F e) k) (F e k))
    rw [ih (by omega), rb_s he (by omega)]; omega
theorem fx_s : ∀ e, mxx (rbF B D F) (ps B D e) = mxx (fun d => if D.testBit d then mxx (F d) (nO B d) else 0) e := by
  intro e
  induction e with
  | zero => rfl
  | succ e ih =>
    show _ = max (mxx (fun d => if D.testBit d then mxx (F d) (nO B d) else 0) e) (if D.testBit e = true then mxx (F e) (nO B e) else 0)
    rw [ps_s, ← ih]
    by_cases h : D.testBit e = true
    · rw [if_pos h, if_pos h, fx_k h _ (Nat.le_refl _)]
    · have := mxx_nn (f := rbF B D F) (ps B D e)
      rw [if_neg h, if_neg h, Nat.add_zero]; omega
theorem fn_k {e : Nat} (he : D.testBit e = true) : ∀ k, k ≤ nO B e → mnn (rbF B D F) (ps B D e + k) = min (mnn (rbF B D F) (ps B D e)) (mnn (F e) k) := by
  intro k
  induction k with
  | zero =>
    intro _
    have := mnn_9 (f := rbF B D F) (ps B D e)
    show _ = min _ (9 : Int)
    rw [Nat.add_zero]; omega
  | succ k ih =>
    intro hk
    show min (mnn (rbF B D F) (ps B D e + k)) (rbF B D F (ps B D e + k)) = min _ (min (mnn (F e) k) (F e k))
    rw [ih (by omega), rb_s he (by omega)]; omega
theorem fn_s : ∀ e, mnn (rbF B D F) (ps B D e) = mnn (fun d => if D.testBit d then mnn (F d) (nO B d) else 9) e := by
  intro e
  induction e with
  | zero => rfl
  | succ e ih =>
    show _ = min (mnn (fun d => if D.testBit d then mnn (F d) (nO B d) else 9) e) (if D.testBit e = true then mnn (F e) (nO B e) else 9)
    rw [ps_s, ← ih]
    by_cases h : D.testBit e = true
    · rw [if_pos h, if_pos h, fn_k h _ (Nat.le_refl _)]
    · have := mnn_9 (f := rbF B D F) (ps B D e)
      rw [if_neg h, if_neg h, Nat.add_zero]; omega
end FLAT
-- at a place of the row
def At (B : Nat → Int) (D i d k : Nat) : Prop := d < 8 ∧ D.testBit d = true ∧ k < nO B d ∧ i = ps B D d + k
theorem At_ex {B : Nat → Int} {D i : Nat} (h : i < ps B D 8) : ∃ d k, At B D i d k := by
  obtain ⟨d, k, h1, h2, h3, h4⟩ := ps_ex 8 h
  exact ⟨d, k, h1, h2, h3, h4⟩
theorem At_u {B : Nat → Int} {D i d k e l : Nat} (h : At B D i d k) (h2 : At B D i e l) : d = e ∧ k = l := ps_in h.2.1 h2.2.1 h.2.2.1 h2.2.2.1 (by rw [← h.2.2.2, ← h2.2.2.2])
theorem At_s {B : Nat → Int} {D i d k : Nat} (h : At B D i d k) (hk : k + 1 < nO B d) : At B D (i + 1) d (k + 1) := ⟨h.1, h.2.1, hk, by rw [h.2.2.2, Nat.add_assoc]⟩
theorem At_p {B : Nat → Int} {D i d k : Nat} (h : At B D i d k) (hk : 0 < k) : At B D (i - 1) d (k - 1) := ⟨h.1, h.2.1, by have := h.2.2.1; omega, by have := h.2.2.2; omega⟩
theorem At_lt {B : Nat → Int} {D i d k : Nat} (h : At B D i d k) : i < ps B D 8 := by
  have := ps_lt (B := B) (e := 8) h.2.1 h.1
  have h1 := h.2.2.1
  have h2 := h.2.2.2
  omega
-- behind the last step of a dish another dish's first
theorem At_n {B : Nat → Int} {D i d k e l : Nat} (h : At B D i d k) (hk : k + 1 = nO B d) (h2 : At B D (i + 1) e l) : l = 0 ∧ d < e := by
  obtain ⟨a1, a2, a3, a4⟩ := h
  obtain ⟨b1, b2, b3, b4⟩ := h2
  have hde : d < e := by
    rcases Nat.lt_trichotomy d e with z | z | z
    · exact z
    · subst z; omega
    · have := ps_lt (B := B) b2 z; omega
  have := ps_lt (B := B) a2 hde
  omega
theorem At_f {B : Nat → Int} {D i d k e l : Nat} (h : At B D i d 0) (hk : 0 < i) (h2 : At B D (i - 1) e l) : l + 1 = nO B e ∧ e < d := by
  by_cases q : l + 1 < nO B e
  · have := At_s h2 q
    rw [show i - 1 + 1 = i by omega] at this
    obtain ⟨_, z⟩ := At_u h this
    omega
  · have q' : l + 1 = nO B e := by have := h2.2.2.1; omega
    have h3 : At B D (i - 1 + 1) d 0 := by rw [show i - 1 + 1 = i by omega]; exact h
    exact ⟨q', (At_n h2 q' h3).2⟩
-- what the steps ahead of a place want
noncomputable def lvN (B : Nat → Int) (D : Nat) (b l : Nat → Nat → Int) (i w m : Nat) : Int := if w < 4 then sm (rbF B D (fun d k => ub B w (nF B d + k) (b d k) (l d k) m)) i else if w = 4 then sm (rbF B D (fun d k => if k + 1 = nO B d then ud B 4 d (b d) (l d) m else 0)) i else if w = 5 then mxx (rbF B D (fun d k => ol B (nF B d + k) (b d k) (l d k) m)) i else mnn (rbF B D (fun d k => oh B (nF B d + k) (b d k) (l d k) m)) i
noncomputable def dsm (B : Nat → Int) (D : Nat) (b l : Nat → Nat → Int) (i w m : Nat) : Int := sm (rbF B D (fun d k => if k + 1 = nO B d then ud B w d (b d) (l d) m else 0)) i
section LV
variable {B : Nat → Int} {D : Nat} {b l : Nat → Nat → Int}
theorem sm_last {x : Int} : ∀ n, 1 ≤ n → sm (fun k => if k + 1 = n then x else 0) n = x := by
  intro n hn
  obtain ⟨j, rfl⟩ : ∃ j, n = j + 1 := ⟨n - 1, by omega⟩
  show sm (fun k => if k + 1 = j + 1 then x else 0) j + (if j + 1 = j + 1 then x else 0) = x
  rw [if_pos rfl, sm_0 (fun i hi => by show (if i + 1 = j + 1 then x else 0) = 0; rw [if_neg (by omega)])]
  omega
theorem lv_end (hW : WF B) (hD2 : D < 2 ^ (B 16).toNat) {w m : Nat} (hw : w < 7) : lvN B D b l (ps B D 8) w m = tv B D b l 8 w m := by
  have hD := mem_lt hW hD2
  unfold lvN tv
  rcases (show w < 4 ∨ w = 4 ∨ w = 5 ∨ w = 6 by omega) with q | q | q | q
  · rw [if_pos q, if_pos (show w < 5 by omega), fl_s]
    refine sm_eq _ fun d _ => ?_
    show (if D.testBit d = true then _ else _) = (if D.testBit d = true then ud B w d (b d) (l d) m else 0)
    unfold ud
    rw [if_neg (show ¬ w = 4 by omega)]
  · subst q
    rw [if_neg (by omega), if_pos rfl, if_pos (by omega), fl_s]
    refine sm_eq _ fun d _ => ?_
    show (if D.testBit d = true then _ else _) = (if D.testBit d = true then ud B 4 d (b d) (l d) m else 0)
    by_cases h : D.testBit d = true
    · rw [if_pos h, if_pos h]
      exact sm_last _ (wf_n hW (hD d h)).1
    · rw [if_neg h, if_neg h]
  · subst q
    rw [if_neg (by omega), if_neg (by omega), if_pos rfl, if_neg (by omega), if_pos rfl, fx_s]
    rfl
  · subst q
    rw [if_neg (by omega), if_neg (by omega), if_neg (by omega), if_neg (by omega), if_neg (by omega), fn_s]
    rfl
theorem ds_end (hW : WF B) (hD2 : D < 2 ^ (B 16).toNat) {w m : Nat} : ∀ e, dsm B D b l (ps B D e) w m = tt B D b l w e m := by
  intro e
  have hD := mem_lt hW hD2
  unfold dsm tt
  rw [fl_s]
  refine sm_eq _ fun d _ => ?_
  show (if D.testBit d = true then _ else _) = (if D.testBit d = true then ud B w d (b d) (l d) m else 0)
  by_cases h : D.testBit d = true
  · rw [if_pos h, if_pos h]
    exact sm_last _ (wf_n hW (hD d h)).1
  · rw [if_neg h, if_neg h]
theorem ds_s {i d k w m : Nat} (h : At B D i d k) : dsm B D b l (i + 1) w m = dsm B D b l i w m + (if k + 1 = nO B d then ud B w d (b d) (l d) m else 0) := by
  show sm _ i + rbF B D _ i = _
  rw [h.2.2.2, rb_s h.2.1 h.2.2.1]
  rfl
theorem ds_b (hW : WF B) (hD2 : D < 2 ^ (B 16).toNat) (hs : ∀ d, d < 8 → D.testBit d = true → sq B d (b d) (l d)) {i d k w m : Nat} (h : At B D i d k) (hw : w < 5) : 0 ≤ dsm B D b l i w m ∧ dsm B D b l i w m ≤ sn D d := by
  have e1 : dsm B D b l i w m = tt B D b l w d m := by
    rw [h.2.2.2, ← ds_end (b := b) (l := l) (w := w) (m := m) hW hD2 d]
    unfold dsm
    rw [fl_k h.2.1 k (Nat.le_of_lt h.2.2.1), sm_0 (n := k) (fun j hj => by
      have := h.2.2.1
      show (if j + 1 = nO B d then ud B w d (b d) (l d) m else 0) = 0
      rw [if_neg (by omega)])]
    omega
  rw [e1]
  have key : ∀ e, e ≤ 8 → 0 ≤ tt B D b l w e m ∧ tt B D b l w e m ≤ sn D e := by
    intro e
    induction e with
    | zero => intro _; exact ⟨Int.le_refl 0, Int.le_refl 0⟩
    | succ e ih =>
      intro he
      have := ih (by omega)
      show 0 ≤ tt B D b l w e m + (if D.testBit e = true then ud B w e (b e) (l e) m else 0) ∧ tt B D b l w e m + (if D.testBit e = true then ud B w e (b e) (l e) m else 0) ≤ sn D (e + 1)
      rw [sn_s]
      by_cases q : D.testBit e = true
      · have := ud_01 (hs e (by omega) q) (w := w) (m := m) hw
        rw [if_pos q, if_pos q]; omega
      · rw [if_neg q, if_neg q]; omega
  exact key d (by have := h.1; omega)
-- one step more
theorem lv_ads {i d k w m : Nat} (h : At B D i d k) (hw : w < 7) : ads B (nF B d + k) (b d k) (l d k) (lvN B D b l i) w m = if w = 4 then lvN B D b l i 4 m else lvN B D b l (i + 1) w m := by
  have r : ∀ F : Nat → Nat → Int, rbF B D F i = F d k := fun F => by rw [h.2.2.2, rb_s h.2.1 h.2.2.1]
  rcases (show w < 4 ∨ w = 4 ∨ w = 5 ∨ w = 6 by omega) with q | q | q | q
  · unfold ads lvN
    rw [if_pos q, if_pos q, if_neg (by omega), if_pos q]
    show _ = sm _ i + rbF B D _ i
    rw [r]
  · subst q; rfl
  · subst q
    show max (mxx _ i) _ = max (mxx _ i) (rbF B D _ i)
    rw [r]
  · subst q
    show min (mnn _ i) _ = min (mnn _ i) (rbF B D _ i)
    rw [r]
theorem lv_4 {i d k m : Nat} (h : At B D i d k) : lvN B D b l (i + 1) 4 m = lvN B D b l i 4 m + (if k + 1 = nO B d then ud B 4 d (b d) (l d) m else 0) := by
  have r : ∀ F : Nat → Nat → Int, rbF B D F i = F d k := fun F => by rw [h.2.2.2, rb_s h.2.1 h.2.2.1]
  show sm _ i + rbF B D _ i = _
  rw [r]
  rfl
end LV
