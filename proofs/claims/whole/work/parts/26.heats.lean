/-! ===== heats: forth minute by minute, or two by two ===== -/
def hL (c : Int) (lo : Nat → Int) : Nat → Int
  | 0 => max (lo 0) (0 - c)
  | m + 1 => max (lo (m + 1)) (hL c lo m - c)
def hM (w : Int) (hi : Nat → Int) : Nat → Int
  | 0 => min (hi 0) (0 + w)
  | m + 1 => min (hi (m + 1)) (hM w hi m + w)
theorem hL_ge {c : Int} {lo : Nat → Int} : ∀ m k : Nat, lo k - c * (m : Int) ≤ hL c lo (k + m) := by
  intro m
  induction m with
  | zero =>
    intro k
    rw [show c * ((0 : Nat) : Int) = 0 from Int.mul_zero c]
    cases k with
    | zero => show _ ≤ max (lo 0) (0 - c); omega
    | succ k => show _ ≤ max (lo (k + 1)) (hL c lo k - c); omega
  | succ m ih =>
    intro k
    have h := ih k
    have h2 : c * ((m + 1 : Nat) : Int) = c * (m : Int) + c := by rw [Int.natCast_add, Int.mul_add]; simp
    show _ ≤ max (lo (k + m + 1)) (hL c lo (k + m) - c)
    omega
theorem hL_at {c : Int} {lo : Nat → Int} (hc : 0 ≤ c) (h0 : 0 ≤ lo 0) : ∀ m : Nat, ∃ k j : Nat, k + j = m ∧ hL c lo m = lo k - c * (j : Int) := by
  intro m
  induction m with
  | zero => exact ⟨0, 0, rfl, by show max (lo 0) (0 - c) = lo 0 - c * ((0 : Nat) : Int); rw [show c * ((0 : Nat) : Int) = 0 from Int.mul_zero c]; omega⟩
  | succ m ih =>
    obtain ⟨k, j, e, h⟩ := ih
    by_cases q : hL c lo m - c ≤ lo (m + 1)
    · exact ⟨m + 1, 0, rfl, by show max (lo (m + 1)) (hL c lo m - c) = _; rw [show c * ((0 : Nat) : Int) = 0 from Int.mul_zero c]; omega⟩
    · refine ⟨k, j + 1, by omega, ?_⟩
      have h2 : c * ((j + 1 : Nat) : Int) = c * (j : Int) + c := by rw [Int.natCast_add, Int.mul_add]; simp
      show max (lo (m + 1)) (hL c lo m - c) = _
      omega
theorem hM_le {w : Int} {hi : Nat → Int} : ∀ m k : Nat, hM w hi (k + m) ≤ hi k + w * (m : Int) := by
  intro m
  induction m with
  | zero =>
    intro k
    rw [show w * ((0 : Nat) : Int) = 0 from Int.mul_zero w]
    cases k with
    | zero => show min (hi 0) (0 + w) ≤ _; omega
    | succ k => show min (hi (k + 1)) (hM w hi k + w) ≤ _; omega
  | succ m ih =>
    intro k
    have h := ih k
    have h2 : w * ((m + 1 : Nat) : Int) = w * (m : Int) + w := by rw [Int.natCast_add, Int.mul_add]; simp
    show min (hi (k + m + 1)) (hM w hi (k + m) + w) ≤ _
    omega
theorem hM_0 {w : Int} {hi : Nat → Int} : ∀ m : Nat, hM w hi m ≤ w * ((m : Int) + 1) := by
  intro m
  induction m with
  | zero => show min (hi 0) (0 + w) ≤ w * (((0 : Nat) : Int) + 1); rw [show w * (((0 : Nat) : Int) + 1) = w by simp]; omega
  | succ m ih =>
    have h2 : w * (((m + 1 : Nat) : Int) + 1) = w * ((m : Int) + 1) + w := by rw [Int.natCast_add, Int.mul_add, Int.mul_add, Int.mul_add]; simp
    show min (hi (m + 1)) (hM w hi m + w) ≤ _
    omega
theorem hM_at {w : Int} {hi : Nat → Int} : ∀ m : Nat, hM w hi m = w * ((m : Int) + 1) ∨ ∃ k j : Nat, k + j = m ∧ hM w hi m = hi k + w * (j : Int) := by
  intro m
  induction m with
  | zero =>
    by_cases q : hi 0 ≤ 0 + w
    · refine Or.inr ⟨0, 0, rfl, ?_⟩
      show min (hi 0) (0 + w) = _
      rw [show w * ((0 : Nat) : Int) = 0 from Int.mul_zero w]; omega
    · refine Or.inl ?_
      show min (hi 0) (0 + w) = w * (((0 : Nat) : Int) + 1)
      rw [show w * (((0 : Nat) : Int) + 1) = w by simp]; omega
  | succ m ih =>
    by_cases q : hi (m + 1) ≤ hM w hi m + w
    · refine Or.inr ⟨m + 1, 0, rfl, ?_⟩
      show min (hi (m + 1)) (hM w hi m + w) = _
      rw [show w * ((0 : Nat) : Int) = 0 from Int.mul_zero w]; omega
    · rcases ih with h | ⟨k, j, e, h⟩
      · refine Or.inl ?_
        have h2 : w * (((m + 1 : Nat) : Int) + 1) = w * ((m : Int) + 1) + w := by rw [Int.natCast_add, Int.mul_add, Int.mul_add, Int.mul_add]; simp
        show min (hi (m + 1)) (hM w hi m + w) = _
        omega
      · refine Or.inr ⟨k, j + 1, by omega, ?_⟩
        have h2 : w * ((j + 1 : Nat) : Int) = w * (j : Int) + w := by rw [Int.natCast_add, Int.mul_add]; simp
        show min (hi (m + 1)) (hM w hi m + w) = _
        omega
theorem hL_mono {c : Int} {lo lo2 : Nat → Int} (h : ∀ m, lo m ≤ lo2 m) : ∀ m, hL c lo m ≤ hL c lo2 m := by
  intro m
  induction m with
  | zero => have := h 0; show max (lo 0) (0 - c) ≤ max (lo2 0) (0 - c); omega
  | succ m ih => have := h (m + 1); show max (lo (m + 1)) (hL c lo m - c) ≤ max (lo2 (m + 1)) (hL c lo2 m - c); omega
theorem hM_mono {w : Int} {hi hi2 : Nat → Int} (h : ∀ m, hi m ≤ hi2 m) : ∀ m, hM w hi m ≤ hM w hi2 m := by
  intro m
  induction m with
  | zero => have := h 0; show min (hi 0) (0 + w) ≤ min (hi2 0) (0 + w); omega
  | succ m ih => have := h (m + 1); show min (hi (m + 1)) (hM w hi m + w) ≤ min (hi2 (m + 1)) (hM w hi2 m + w); omega
theorem hL_eq {c : Int} {lo lo2 : Nat → Int} : ∀ m, (∀ k, k ≤ m → lo k = lo2 k) → hL c lo m = hL c lo2 m := by
  intro m
  induction m with
  | zero => intro h; show max (lo 0) (0 - c) = max (lo2 0) (0 - c); rw [h 0 (Nat.le_refl 0)]
  | succ m ih => intro h; show max (lo (m + 1)) (hL c lo m - c) = max (lo2 (m + 1)) (hL c lo2 m - c); rw [h (m + 1) (Nat.le_refl _), ih fun k hk => h k (by omega)]
theorem hM_eq {w : Int} {hi hi2 : Nat → Int} : ∀ m, (∀ k, k ≤ m → hi k = hi2 k) → hM w hi m = hM w hi2 m := by
  intro m
  induction m with
  | zero => intro h; show min (hi 0) (0 + w) = min (hi2 0) (0 + w); rw [h 0 (Nat.le_refl 0)]
  | succ m ih => intro h; show min (hi (m + 1)) (hM w hi m + w) = min (hi2 (m + 1)) (hM w hi2 m + w); rw [h (m + 1) (Nat.le_refl _), ih fun k hk => h k (by omega)]
-- two wants of the oven agree (the first: from b to e, of l to h; w, c: how fast it warms and cools)
def agr (w c b1 e1 l1 h1 b2 e2 l2 h2 : Int) : Prop :=
  (e1 ≤ b2 → l2 ≤ h1 + w * (b2 - (e1 - 1)) ∧ l1 ≤ h2 + c * (b2 - (e1 - 1))) ∧
  (e2 ≤ b1 → l2 ≤ h1 + c * (b1 - (e2 - 1)) ∧ l1 ≤ h2 + w * (b1 - (e2 - 1))) ∧
  (b2 < e1 → b1 < e2 → l2 ≤ h1 ∧ l1 ≤ h2)
theorem heat_iff {ι : Type} {P : ι → Prop} {b e l h : ι → Int} {lo hi : Nat → Int} {w c : Int} (hw : 0 ≤ w) (hc : 0 ≤ c)
    (hb : ∀ x, P x → 0 ≤ b x ∧ b x < e x ∧ e x ≤ 60) (hl : ∀ x, P x → 0 ≤ l x ∧ l x ≤ 9 ∧ 0 ≤ h x ∧ h x ≤ 9)
    (lo1 : ∀ m : Nat, m < 60 → lo m = 0 ∨ ∃ x, P x ∧ b x ≤ m ∧ (m : Int) < e x ∧ lo m = l x) (lo2 : ∀ m : Nat, m < 60 → 0 ≤ lo m) (lo3 : ∀ (m : Nat) x, m < 60 → P x → b x ≤ m → (m : Int) < e x → l x ≤ lo m)
    (hi1 : ∀ m : Nat, m < 60 → hi m = 9 ∨ ∃ x, P x ∧ b x ≤ m ∧ (m : Int) < e x ∧ hi m = h x) (hi2 : ∀ m : Nat, m < 60 → hi m ≤ 9) (hi3 : ∀ (m : Nat) x, m < 60 → P x → b x ≤ m → (m : Int) < e x → hi m ≤ h x) :
    (∀ m : Nat, m < 60 → hL c lo m ≤ hM w hi m) ↔ (∀ x, P x → l x ≤ w * (b x + 1)) ∧ ∀ x y, P x → P y → agr w c (b x) (e x) (l x) (h x) (b y) (e y) (l y) (h y) := by
  constructor
  · intro H
    -- two minutes, and what lies at them
    have K : ∀ x y, P x → P y → ∀ p q : Nat, p ≤ 59 → q ≤ 59 → b x ≤ p → (p : Int) < e x → b y ≤ q → (q : Int) < e y → ∀ m : Nat, m < 60 → ∀ j1 j2 : Nat, p + j1 = m → q + j2 = m → l x ≤ h y + c * (j1 : Int) + w * (j2 : Int) := by
      intro x y px py p q hp hq a1 a2 a3 a4 m hm j1 j2 e1 e2
      have g1 := hL_ge (c := c) (lo := lo) j1 p
      have g2 := hM_le (w := w) (hi := hi) j2 q
      rw [e1] at g1
      rw [e2] at g2
      have g3 := H m hm
      have g4 := lo3 p x (by omega) px a1 a2
      have g5 := hi3 q y (by omega) py a3 a4
      omega
    refine ⟨fun x px => ?_, fun x y px py => ⟨fun hh => ?_, fun hh => ?_, fun h1 h2 => ?_⟩⟩
    · have hx := hb x px
      have e1 : ((b x).toNat : Int) = b x := Int.toNat_of_nonneg hx.1
      have g1 := hL_ge (c := c) (lo := lo) 0 (b x).toNat
      rw [show c * ((0 : Nat) : Int) = 0 from Int.mul_zero c] at g1
      have g2 := hM_0 (w := w) (hi := hi) (b x).toNat
      have g3 := H (b x).toNat (by omega)
      have g4 := lo3 (b x).toNat x (by omega) px (by omega) (by omega)
      rw [e1] at g2
      rw [Nat.add_zero] at g1
      omega
    · have hx := hb x px
      have hy := hb y py
      have e1 : ((e x - 1).toNat : Int) = e x - 1 := Int.toNat_of_nonneg (by omega)
      have e2 : ((b y).toNat : Int) = b y := Int.toNat_of_nonneg hy.1
      have e3 : (((b y).toNat - (e x - 1).toNat : Nat) : Int) = b y - (e x - 1) := by omega
      have g1 := K y x py px (b y).toNat (e x - 1).toNat (by omega) (by omega) (by omega) (by omega) (by omega) (by omega) (b y).toNat (by omega) 0 ((b y).toNat - (e x - 1).toNat) (by omega) (by omega)
      have g2 := K x y px py (e x - 1).toNat (b y).toNat (by omega) (by omega) (by omega) (by omega) (by omega) (by omega) (b y).toNat (by omega) ((b y).toNat - (e x - 1).toNat) 0 (by omega) (by omega)
      rw [e3, show c * ((0 : Nat) : Int) = 0 from Int.mul_zero c] at g1
      rw [e3, show w * ((0 : Nat) : Int) = 0 from Int.mul_zero w] at g2
      constructor <;> omega
    · have hx := hb x px
      have hy := hb y py
      have e1 : ((e y - 1).toNat : Int) = e y - 1 := Int.toNat_of_nonneg (by omega)
      have e2 : ((b x).toNat : Int) = b x := Int.toNat_of_nonneg hx.1
      have e3 : (((b x).toNat - (e y - 1).toNat : Nat) : Int) = b x - (e y - 1) := by omega
      have g1 := K x y px py (b x).toNat (e y - 1).toNat (by omega) (by omega) (by omega) (by omega) (by omega) (by omega) (b x).toNat (by omega) 0 ((b x).toNat - (e y - 1).toNat) (by omega) (by omega)
      have g2 := K y x py px (e y - 1).toNat (b x).toNat (by omega) (by omega) (by omega) (by omega) (by omega) (by omega) (b x).toNat (by omega) ((b x).toNat - (e y - 1).toNat) 0 (by omega) (by omega)
      rw [e3, show c * ((0 : Nat) : Int) = 0 from Int.mul_zero c] at g1
      rw [e3, show w * ((0 : Nat) : Int) = 0 from Int.mul_zero w] at g2
      constructor <;> omega
    · have hx := hb x px
      have hy := hb y py
      have e1 : (((max (b x) (b y)).toNat : Nat) : Int) = max (b x) (b y) := Int.toNat_of_nonneg (by omega)
      have g1 := K x y px py (max (b x) (b y)).toNat (max (b x) (b y)).toNat (by omega) (by omega) (by omega) (by omega) (by omega) (by omega) (max (b x) (b y)).toNat (by omega) 0 0 (by omega) (by omega)
      have g2 := K y x py px (max (b x) (b y)).toNat (max (b x) (b y)).toNat (by omega) (by omega) (by omega) (by omega) (by omega) (by omega) (max (b x) (b y)).toNat (by omega) 0 0 (by omega) (by omega)
      rw [show w * ((0 : Nat) : Int) = 0 from Int.mul_zero w, show c * ((0 : Nat) : Int) = 0 from Int.mul_zero c] at g1 g2
      constructor <;> omega
  · rintro ⟨H1, H2⟩ m hm
    have cn : ∀ j : Nat, 0 ≤ c * (j : Int) := fun j => Int.mul_nonneg hc (Int.natCast_nonneg j)
    have wn : ∀ j : Nat, 0 ≤ w * (j : Int) := fun j => Int.mul_nonneg hw (Int.natCast_nonneg j)
    obtain ⟨p, j1, e1, g1⟩ := hL_at (c := c) (lo := lo) hc (lo2 0 (by omega)) m
    have q1 := cn j1
    rw [g1]
    rcases hM_at (w := w) (hi := hi) m with g2 | ⟨q, j2, e2, g2⟩
    · rw [g2]
      have q2 : 0 ≤ w * ((m : Int) + 1) := Int.mul_nonneg hw (by omega)
      rcases lo1 p (by omega) with g3 | ⟨x, px, a1, a2, g3⟩
      · omega
      · have q3 := H1 x px
        have q4 : w * (b x + 1) ≤ w * ((m : Int) + 1) := Int.mul_le_mul_of_nonneg_left (by omega) hw
        omega
    · rw [g2]
      have q2 := wn j2
      have q5 := hi2 q (by omega)
      have q6 := lo2 p (by omega)
      have r1 : 0 ≤ hi q := by
        rcases hi1 q (by omega) with g4 | ⟨y, py, b1, b2, g4⟩
        · omega
        · have := hl y py; omega
      rcases lo1 p (by omega) with g3 | ⟨x, px, a1, a2, g3⟩
      · omega
      · have hx := hb x px
        have lx := hl x px
        rcases hi1 q (by omega) with g4 | ⟨y, py, b1, b2, g4⟩
        · omega
        · have hy := hb y py
          have A := H2 x y px py
          by_cases c1 : e x ≤ b y
          · have q7 := (A.1 c1).2
            have q8 : c * (b y - (e x - 1)) ≤ c * (j1 : Int) := Int.mul_le_mul_of_nonneg_left (by omega) hc
            omega
          · by_cases c2 : e y ≤ b x
            · have q7 := (A.2.1 c2).2
              have q8 : w * (b x - (e y - 1)) ≤ w * (j2 : Int) := Int.mul_le_mul_of_nonneg_left (by omega) hw
              omega
            · have q7 := (A.2.2 (by omega) (by omega)).2
              omega
