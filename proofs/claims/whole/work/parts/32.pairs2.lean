/-! ===== a plan, two by two ===== -/
theorem mxx_at {f : Nat → Int} : ∀ n, mxx f n = 0 ∨ ∃ i, i < n ∧ mxx f n = f i := by
  intro n
  induction n with
  | zero => exact Or.inl rfl
  | succ n ih =>
    show max (mxx f n) (f n) = 0 ∨ _
    by_cases q : mxx f n ≤ f n
    · exact Or.inr ⟨n, by omega, by show max (mxx f n) (f n) = f n; omega⟩
    · rcases ih with h | ⟨i, hi, h⟩
      · exact Or.inl (by omega)
      · exact Or.inr ⟨i, by omega, by show max (mxx f n) (f n) = f i; omega⟩
theorem mxx_ge {f : Nat → Int} : ∀ n i, i < n → f i ≤ mxx f n := by
  intro n
  induction n with
  | zero => intro i hi; omega
  | succ n ih =>
    intro i hi
    show _ ≤ max (mxx f n) (f n)
    by_cases q : i = n
    · subst q; omega
    · have := ih i (by omega); omega
theorem mnn_at {f : Nat → Int} : ∀ n, mnn f n = 9 ∨ ∃ i, i < n ∧ mnn f n = f i := by
  intro n
  induction n with
  | zero => exact Or.inl rfl
  | succ n ih =>
    show min (mnn f n) (f n) = 9 ∨ _
    by_cases q : f n ≤ mnn f n
    · exact Or.inr ⟨n, by omega, by show min (mnn f n) (f n) = f n; omega⟩
    · rcases ih with h | ⟨i, hi, h⟩
      · exact Or.inl (by omega)
      · exact Or.inr ⟨i, by omega, by show min (mnn f n) (f n) = f i; omega⟩
theorem mnn_le {f : Nat → Int} : ∀ n i, i < n → mnn f n ≤ f i := by
  intro n
  induction n with
  | zero => intro i hi; omega
  | succ n ih =>
    intro i hi
    show min (mnn f n) (f n) ≤ _
    by_cases q : i = n
    · subst q; omega
    · have := ih i (by omega); omega
-- steps that lie one behind the other within the hour
def sq (B : Nat → Int) (d : Nat) (b l : Nat → Int) : Prop := (∀ k, k < nO B d → 0 ≤ b k ∧ 1 ≤ l k ∧ b k + l k ≤ 60) ∧ ∀ k, k + 1 < nO B d → b k + l k ≤ b (k + 1)
section SQ
variable {B : Nat → Int} {d : Nat} {b l : Nat → Int}
theorem sq_lt (h : sq B d b l) : ∀ j k, k + j + 1 < nO B d → b k + l k ≤ b (k + j + 1) := by
  intro j
  induction j with
  | zero => intro k hk; exact h.2 k hk
  | succ j ih =>
    intro k hk
    have h1 := ih k (by omega)
    have h2 := h.2 (k + j + 1) (by omega)
    have h3 := h.1 (k + j + 1) (by omega)
    show _ ≤ b (k + j + 1 + 1)
    omega
theorem sq_dj (h : sq B d b l) {i k : Nat} (hi : i < nO B d) (hk : k < nO B d) {m : Int} (h1 : b i ≤ m ∧ m < b i + l i) (h2 : b k ≤ m ∧ m < b k + l k) : i = k := by
  rcases Nat.lt_trichotomy i k with q | q | q
  · have := sq_lt h (k - i - 1) i (by omega)
    rw [show i + (k - i - 1) + 1 = k by omega] at this
    omega
  · exact q
  · have := sq_lt h (i - k - 1) k (by omega)
    rw [show k + (i - k - 1) + 1 = i by omega] at this
    omega
theorem ub_1 {w s m : Nat} {x y : Int} (h : ub B w s x y m = 1) : x ≤ m ∧ (m : Int) < x + y := by
  unfold ub at h
  repeat' split at h
  all_goals first | omega | (exfalso; omega)
theorem sm_one {f : Nat → Int} (h01 : ∀ i, 0 ≤ f i ∧ f i ≤ 1) : ∀ n, (∀ i k, i < n → k < n → f i = 1 → f k = 1 → i = k) → sm f n ≤ 1 ∧ (sm f n = 1 ↔ ∃ i, i < n ∧ f i = 1) := by
  intro n
  induction n with
  | zero => intro _; refine ⟨by show (0 : Int) ≤ 1; omega, ⟨fun q => absurd (show (0 : Int) = 1 from q) (by omega), fun ⟨i, hi, _⟩ => by omega⟩⟩
  | succ n ih =>
    intro hu
    obtain ⟨h1, h2⟩ := ih fun i k hi hk => hu i k (by omega) (by omega)
    have hn := sm_nn (f := f) (fun i => (h01 i).1) n
    have h3 := h01 n
    have e : sm f (n + 1) = sm f n + f n := rfl
    by_cases q : f n = 1
    · have : ¬ sm f n = 1 := by
        intro g
        obtain ⟨i, hi, hf⟩ := h2.1 g
        have := hu i n (by omega) (by omega) hf q
        omega
      exact ⟨by omega, ⟨fun _ => ⟨n, by omega, q⟩, fun _ => by omega⟩⟩
    · refine ⟨by omega, ⟨fun g => ?_, fun ⟨i, hi, hf⟩ => ?_⟩⟩
      · obtain ⟨i, hi, hf⟩ := h2.1 (by omega)
        exact ⟨i, by omega, hf⟩
      · by_cases e2 : i = n
        · subst e2; exact absurd hf q
        · have := h2.2 ⟨i, by omega, hf⟩
          omega
theorem ud_1 (h : sq B d b l) {w m : Nat} (hw : w < 4) : ud B w d b l m ≤ 1 ∧ (ud B w d b l m = 1 ↔ ∃ k, k < nO B d ∧ ub B w (nF B d + k) (b k) (l k) m = 1) := by
  unfold ud
  rw [if_neg (by omega)]
  exact sm_one (fun i => ub_b) (nO B d) fun i k hi hk h1 h2 => sq_dj h hi hk (ub_1 h1) (ub_1 h2)
theorem ud_4 {m : Nat} : ud B 4 d b l m ≤ 1 ∧ (ud B 4 d b l m = 1 ↔ bPan B d = 1 ∧ b 0 ≤ m ∧ (m : Int) < b (nO B d - 1) + l (nO B d - 1)) := by
  unfold ud
  rw [if_pos rfl]
  by_cases q : bPan B d = 1 ∧ b 0 ≤ m ∧ (m : Int) < b (nO B d - 1) + l (nO B d - 1)
  · rw [if_pos q]; exact ⟨Int.le_refl 1, ⟨fun _ => q, fun _ => rfl⟩⟩
  · rw [if_neg q]; exact ⟨by omega, ⟨fun g => absurd g (by omega), fun g => absurd g q⟩⟩
theorem ud_01 (h : sq B d b l) {w m : Nat} (hw : w < 5) : 0 ≤ ud B w d b l m ∧ ud B w d b l m ≤ 1 := by
  refine ⟨ud_nn, ?_⟩
  by_cases q : w = 4
  · subst q; exact ud_4.1
  · exact (ud_1 h (by omega)).1
end SQ
theorem sq_bg {B : Nat → Int} {t : Int} {d c : Nat} (h : WF B) (hd : (d : Int) < B 16) (hc : c < chn B d) (ht : 1 ≤ t ∧ t ≤ 60) (h0 : 0 ≤ bg B t d c 0) : sq B d (bg B t d c) (lgs B d) := by
  refine ⟨fun k hk => ?_, fun k hk => ?_⟩
  · have := bg_in h hd hc ht h0 hk
    unfold lgs
    omega
  · have := bg_in h hd hc ht h0 (k := k) (by omega)
    unfold lgs
    omega
-- the oven
def ov (B : Nat → Int) (D e : Nat) (x : Nat × Nat) : Prop := x.1 < e ∧ D.testBit x.1 = true ∧ x.2 < nO B x.1 ∧ kd B (nF B x.1 + x.2) = 2
def wrm (B : Nat → Int) (d : Nat) (b : Nat → Int) : Prop := ∀ k, k < nO B d → kd B (nF B d + k) = 2 → on B (nF B d + k) ≤ B 3 * (b k + 1)
def agd (B : Nat → Int) (d e : Nat) (b l b2 l2 : Nat → Int) : Prop := ∀ k j, k < nO B d → j < nO B e → kd B (nF B d + k) = 2 → kd B (nF B e + j) = 2 →
  agr (B 3) (B 4) (b k) (b k + l k) (on B (nF B d + k)) (tw B (nF B d + k)) (b2 j) (b2 j + l2 j) (on B (nF B e + j)) (tw B (nF B e + j))
theorem heats_2 {B : Nat → Int} {D e : Nat} {b l : Nat → Nat → Int} (h : WF B) (he : ∀ d, d < e → D.testBit d = true → (d : Int) < B 16) (hs : ∀ d, d < e → D.testBit d = true → sq B d (b d) (l d)) :
    (∀ m : Nat, m < 60 → hL (B 4) (tlo B D b l e) m ≤ hM (B 3) (thi B D b l e) m) ↔ (∀ d, d < e → D.testBit d = true → wrm B d (b d)) ∧ ∀ d f, d < e → D.testBit d = true → f < e → D.testBit f = true → agd B d f (b d) (l d) (b f) (l f) := by
  have k1 := h.1
  have H := heat_iff (ι := Nat × Nat) (P := ov B D e) (b := fun x => b x.1 x.2) (e := fun x => b x.1 x.2 + l x.1 x.2) (l := fun x => on B (nF B x.1 + x.2)) (h := fun x => tw B (nF B x.1 + x.2)) (lo := tlo B D b l e) (hi := thi B D b l e) (w := B 3) (c := B 4) (by omega) (by omega)
    (fun x px => by have := (hs x.1 px.1 px.2.1).1 x.2 px.2.2.1; omega)
    (fun x px => by have := (wf_s h (he x.1 px.1 px.2.1) px.2.2.1).2.2.2.2.2.1 px.2.2.2; omega)
    (fun m hm => by
      rcases mxx_at (f := fun d => if D.testBit d then ld B d (b d) (l d) m else 0) e with g | ⟨d, hd, g⟩
      · exact Or.inl g
      · by_cases q : D.testBit d = true
        · simp only [q, if_true] at g
          rcases mxx_at (f := fun k => ol B (nF B d + k) (b d k) (l d k) m) (nO B d) with g2 | ⟨k, hk, g2⟩
          · exact Or.inl (g.trans g2)
          · by_cases q2 : kd B (nF B d + k) = 2 ∧ b d k ≤ m ∧ (m : Int) < b d k + l d k
            · refine Or.inr ⟨(d, k), ⟨hd, q, hk, q2.1⟩, q2.2.1, q2.2.2, ?_⟩
              have g3 : ol B (nF B d + k) (b d k) (l d k) m = on B (nF B d + k) := if_pos q2
              exact g.trans (g2.trans g3)
            · have g3 : ol B (nF B d + k) (b d k) (l d k) m = 0 := if_neg q2
              exact Or.inl (g.trans (g2.trans g3))
        · simp only [q, if_false] at g
          exact Or.inl g)
    (fun m hm => mxx_nn _)
    (fun m x hm px h1 h2 => by
      have g1 := mxx_ge (f := fun d => if D.testBit d then ld B d (b d) (l d) m else 0) e x.1 px.1
      simp only [px.2.1, if_true] at g1
      have g2 := mxx_ge (f := fun k => ol B (nF B x.1 + k) (b x.1 k) (l x.1 k) m) (nO B x.1) x.2 px.2.2.1
      have g3 : ol B (nF B x.1 + x.2) (b x.1 x.2) (l x.1 x.2) m = on B (nF B x.1 + x.2) := if_pos ⟨px.2.2.2, h1, h2⟩
      have g4 : ld B x.1 (b x.1) (l x.1) m = mxx (fun k => ol B (nF B x.1 + k) (b x.1 k) (l x.1 k) m) (nO B x.1) := rfl
      have g5 : tlo B D b l e m = mxx (fun d => if D.testBit d then ld B d (b d) (l d) m else 0) e := rfl
      omega)
    (fun m hm => by
      rcases mnn_at (f := fun d => if D.testBit d then hd B d (b d) (l d) m else 9) e with g | ⟨d, hd, g⟩
      · exact Or.inl g
      · by_cases q : D.testBit d = true
        · simp only [q, if_true] at g
          rcases mnn_at (f := fun k => oh B (nF B d + k) (b d k) (l d k) m) (nO B d) with g2 | ⟨k, hk, g2⟩
          · exact Or.inl (g.trans g2)
          · by_cases q2 : kd B (nF B d + k) = 2 ∧ b d k ≤ m ∧ (m : Int) < b d k + l d k
            · refine Or.inr ⟨(d, k), ⟨hd, q, hk, q2.1⟩, q2.2.1, q2.2.2, ?_⟩
              have g3 : oh B (nF B d + k) (b d k) (l d k) m = tw B (nF B d + k) := if_pos q2
              exact g.trans (g2.trans g3)
            · have g3 : oh B (nF B d + k) (b d k) (l d k) m = 9 := if_neg q2
              exact Or.inl (g.trans (g2.trans g3))
        · simp only [q, if_false] at g
          exact Or.inl g)
    (fun m hm => mnn_9 _)
    (fun m x hm px h1 h2 => by
      have g1 := mnn_le (f := fun d => if D.testBit d then hd B d (b d) (l d) m else 9) e x.1 px.1
      simp only [px.2.1, if_true] at g1
      have g2 := mnn_le (f := fun k => oh B (nF B x.1 + k) (b x.1 k) (l x.1 k) m) (nO B x.1) x.2 px.2.2.1
      have g3 : oh B (nF B x.1 + x.2) (b x.1 x.2) (l x.1 x.2) m = tw B (nF B x.1 + x.2) := if_pos ⟨px.2.2.2, h1, h2⟩
      have g4 : hd B x.1 (b x.1) (l x.1) m = mnn (fun k => oh B (nF B x.1 + k) (b x.1 k) (l x.1 k) m) (nO B x.1) := rfl
      have g5 : thi B D b l e m = mnn (fun d => if D.testBit d then hd B d (b d) (l d) m else 9) e := rfl
      omega)
  rw [H]
  constructor
  · rintro ⟨h1, h2⟩
    exact ⟨fun d hd hm k hk q => h1 (d, k) ⟨hd, hm, hk, q⟩, fun d f hd hm hf hn k j hk hj q1 q2 => h2 (d, k) (f, j) ⟨hd, hm, hk, q1⟩ ⟨hf, hn, hj, q2⟩⟩
  · rintro ⟨h1, h2⟩
    exact ⟨fun x px => h1 x.1 px.1 px.2.1 x.2 px.2.2.1 px.2.2.2, fun x y px py => h2 x.1 y.1 px.1 px.2.1 py.1 py.2.1 x.2 y.2 px.2.2.1 py.2.2.1 px.2.2.2 py.2.2.2⟩
theorem agr_sy {w c b1 e1 l1 h1 b2 e2 l2 h2 : Int} (h : agr w c b1 e1 l1 h1 b2 e2 l2 h2) : agr w c b2 e2 l2 h2 b1 e1 l1 h1 := ⟨fun q => ⟨(h.2.1 q).2, (h.2.1 q).1⟩, fun q => ⟨(h.1 q).2, (h.1 q).1⟩, fun q1 q2 => ⟨(h.2.2 q2 q1).2, (h.2.2 q2 q1).1⟩⟩
theorem agd_sy {B : Nat → Int} {d e : Nat} {b l b2 l2 : Nat → Int} (h : agd B d e b l b2 l2) : agd B e d b2 l2 b l := fun k j hk hj q1 q2 => agr_sy (h j k hj hk q2 q1)

