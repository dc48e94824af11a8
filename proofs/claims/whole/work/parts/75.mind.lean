/-! ===== the pair mind ===== -/
section MN
variable {b : Nat → Int} {q x y : Int} {i j : Nat}
def mnP (b : Nat → Int) (q : Int) (i : Nat) (x : Int) : Prop := (x = -1000000 ∧ ∀ l, l < i → b l < q) ∨ ∃ j : Nat, x = j ∧ j < i ∧ q ≤ b j ∧ ∀ l, l < i → q ≤ b l → b j < b l ∨ (b j = b l ∧ j ≤ l)
theorem mn_0 : mnP b q 0 (-1000000) := Or.inl ⟨rfl, fun l hl => absurd hl (Nat.not_lt_zero _)⟩
theorem mn_a (h : mnP b q i x) (hb : b i < q) : mnP b q (i + 1) x := by
  rcases h with ⟨h1, h2⟩ | ⟨j, h1, h2, h3, h4⟩
  · refine Or.inl ⟨h1, fun l hl => ?_⟩
    by_cases z : l = i
    · rw [z]; exact hb
    · exact h2 l (by omega)
  · refine Or.inr ⟨j, h1, by omega, h3, fun l hl hq => ?_⟩
    by_cases z : l = i
    · rw [z] at hq; omega
    · exact h4 l (by omega) hq
theorem mn_b (h : mnP b q i (-1000000)) (hb : q ≤ b i) : mnP b q (i + 1) i := by
  rcases h with ⟨_, h2⟩ | ⟨j, h1, _⟩
  · refine Or.inr ⟨i, rfl, by omega, hb, fun l hl hq => ?_⟩
    by_cases z : l = i
    · rw [z]; exact Or.inr ⟨rfl, Nat.le_refl _⟩
    · have := h2 l (by omega); omega
  · omega
theorem mn_c (h : mnP b q i (j : Int)) (hl : b j ≤ b i) : mnP b q (i + 1) (j : Int) := by
  rcases h with ⟨h1, _⟩ | ⟨k, h1, h2, h3, h4⟩
  · omega
  · have : k = j := by omega
    subst this
    refine Or.inr ⟨k, rfl, by omega, h3, fun l hl2 hq => ?_⟩
    by_cases z : l = i
    · rw [z]; omega
    · exact h4 l (by omega) hq
theorem mn_d (h : mnP b q i (j : Int)) (hb : q ≤ b i) (hl : b i < b j) : mnP b q (i + 1) (i : Int) := by
  rcases h with ⟨h1, _⟩ | ⟨k, h1, h2, h3, h4⟩
  · omega
  · have : k = j := by omega
    subst this
    refine Or.inr ⟨i, rfl, by omega, hb, fun l hl2 hq => ?_⟩
    by_cases z : l = i
    · rw [z]; exact Or.inr ⟨rfl, Nat.le_refl _⟩
    · have := h4 l (by omega) hq; omega
theorem mn_u (h1 : mnP b q i x) (h2 : mnP b q i y) : x = y := by
  rcases h1 with ⟨a1, a2⟩ | ⟨j, a1, a2, a3, a4⟩
  · rcases h2 with ⟨c1, c2⟩ | ⟨k, c1, c2, c3, c4⟩
    · omega
    · have := a2 k c2; omega
  · rcases h2 with ⟨c1, c2⟩ | ⟨k, c1, c2, c3, c4⟩
    · have := c2 j a2; omega
    · have := a4 k c2 c3
      have := c4 j a2 a3
      omega
theorem mn_r (h : mnP b q i x) : x = -1000000 ∨ ∃ j : Nat, x = j ∧ j < i := by
  rcases h with ⟨h1, _⟩ | ⟨j, h1, h2, _⟩
  · exact Or.inl h1
  · exact Or.inr ⟨j, h1, h2⟩
end MN
theorem rb_e (B : Nat → Int) (D : Nat) (f : Nat → Nat → Int) (j : Nat) : ∃ y : Int, ∀ d k, D.testBit d = true → k < nO B d → j = ps B D d + k → y = f d k := by
  by_cases h : ∃ d k, D.testBit d = true ∧ k < nO B d ∧ j = ps B D d + k
  · obtain ⟨d, k, h1, h2, h3⟩ := h
    refine ⟨f d k, fun e l y1 y2 y3 => ?_⟩
    obtain ⟨z1, z2⟩ := ps_in (B := B) h1 y1 h2 y2 (by omega)
    rw [z1, z2]
  · exact ⟨0, fun d k h1 h2 h3 => absurd ⟨d, k, h1, h2, h3⟩ h⟩
noncomputable def rbF (B : Nat → Int) (D : Nat) (f : Nat → Nat → Int) (j : Nat) : Int := Classical.choose (rb_e B D f j)
theorem rb_s {B : Nat → Int} {D d k : Nat} {f : Nat → Nat → Int} (h1 : D.testBit d = true) (h2 : k < nO B d) : rbF B D f (ps B D d + k) = f d k := Classical.choose_spec (rb_e B D f _) d k h1 h2 rfl
theorem SK_pl {B : Nat → Int} {t h o : Int} {X : Nat → Nat → Prop} {D : Nat} {any : Bool} {c : Nat → Nat} (q : SK B t h o X D any = some c) : PLp B t h o X D 8 c := by
  rcases exS_res 8 0 (fun _ => 0) none c q with z | ⟨z, _⟩
  · cases z
  · exact z
def MC (B : Nat → Int) (D : Nat) (t q : Int) (c : Nat → Nat) (v : Int32) : Prop := ∃ x, v = iz x ∧ mnP (rbF B D (fun d k => bg B t d (c d) k)) q (ps B D 8) x
theorem MC_u {B : Nat → Int} {D : Nat} {t q : Int} {c : Nat → Nat} {v w : Int32} (h1 : MC B D t q c v) (h2 : MC B D t q c w) : v = w := by
  obtain ⟨x, rfl, hx⟩ := h1
  obtain ⟨y, rfl, hy⟩ := h2
  rw [mn_u hx hy]
theorem rb_b {B : Nat → Int} {t : Nat} {D : Nat} {c : Nat → Nat} (hW : WF B) (hD2 : D < 2 ^ (B 16).toNat) (d2 : (B 202).toNat = D) (ht : 1 ≤ t ∧ t ≤ 60) (hS : SK0 B t = some c) : ∀ j, j < ps B D 8 → 0 ≤ rbF B D (fun d k => bg B t d (c d) k) j ∧ rbF B D (fun d k => bg B t d (c d) k) j < 60 := by
  intro j hj
  unfold SK0 at hS
  rw [d2] at hS
  obtain ⟨d, k, y1, y2, y3, rfl⟩ := ps_ex 8 hj
  have hd := mem_lt hW hD2 d y2
  rw [rb_s y2 y3]
  have hp := (SK_pl hS).1 d y1 y2
  have hc := SK_in hS d y1 y2
  have hb := bg_in hW hd hc (t := t) (by omega) hp.1 y3
  have hl := (wf_s hW hd y3)
  first | omega | exact ⟨hb.1, by have := hb.2; omega⟩
theorem x_min {T : St} {m : Int} (h : -2147483648 ≤ m ∧ m < 2147483648) : (x_x_isMinute T (iz m) = 0) ↔ ¬ (0 ≤ m ∧ m < 60) := by
  unfold x_x_isMinute
  simp (disch := omega) only [z_60, lt0, iz_le]
  by_cases h1 : m < 0
  · rw [if_pos h1]; exact ⟨fun _ => by omega, fun _ => rfl⟩
  · rw [if_neg h1]
    by_cases h2 : 60 ≤ m
    · rw [if_pos h2]; exact ⟨fun _ => by omega, fun _ => rfl⟩
    · rw [if_neg h2]
      refine ⟨fun q => absurd q (by decide), fun q => by omega⟩
theorem m_min {T : St} {m : Int} (h : -2147483648 ≤ m ∧ m < 2147483648) : (x_m_isMinute T (iz m) = 0) ↔ ¬ (0 ≤ m ∧ m < 60) := by
  unfold x_m_isMinute
  rw [lz_w h, y_0, y_59, m_in (by omega)]
  omega
