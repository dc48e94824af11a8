/-! ===== 32-bit ints as whole numbers: iz is a ring map; what is seen of it is seen within its range ===== -/
def iz (z : Int) : Int32 := Int32.ofInt z
theorem iz_t {z : Int} (h : -2147483648 ≤ z ∧ z < 2147483648) : (iz z).toInt = z := by
  unfold iz
  rw [Int32.toInt_ofInt]
  exact i_bm h.1 h.2
theorem iz_self (x : Int32) : iz x.toInt = x := Int32.ofInt_toInt x
theorem iz_ex (x : Int32) : ∃ z : Int, (-2147483648 ≤ z ∧ z < 2147483648) ∧ x = iz z := ⟨x.toInt, i_rg x, (iz_self x).symm⟩
theorem iz_of (n : Nat) : (OfNat.ofNat n : Int32) = iz (OfNat.ofNat n : Int) := rfl
theorem iz_0 : (0 : Int32) = iz 0 := rfl
theorem iz_1 : (1 : Int32) = iz 1 := rfl
theorem iz_add (a b : Int) : iz a + iz b = iz (a + b) := (Int32.ofInt_add a b).symm
theorem iz_sub (a b : Int) : iz a - iz b = iz (a - b) := (Int32.ofInt_sub a b).symm
theorem iz_mul (a b : Int) : iz a * iz b = iz (a * b) := (Int32.ofInt_mul a b).symm
theorem iz_neg (a : Int) : -iz a = iz (-a) := (Int32.ofInt_neg a).symm
theorem iz_nat (n : Nat) : Int32.ofNat n = iz (n : Int) := rfl
theorem iz_nI (n : Nat) : nI n = iz (n : Int) := rfl
theorem iz_lt {a b : Int} (h : -2147483648 ≤ a ∧ a < 2147483648 ∧ -2147483648 ≤ b ∧ b < 2147483648) : (iz a < iz b) ↔ a < b := by
  rw [i_lt, iz_t ⟨h.1, h.2.1⟩, iz_t ⟨h.2.2.1, h.2.2.2⟩]
theorem iz_le {a b : Int} (h : -2147483648 ≤ a ∧ a < 2147483648 ∧ -2147483648 ≤ b ∧ b < 2147483648) : (iz a ≤ iz b) ↔ a ≤ b := by
  rw [i_le, iz_t ⟨h.1, h.2.1⟩, iz_t ⟨h.2.2.1, h.2.2.2⟩]
theorem iz_eq {a b : Int} (h : -2147483648 ≤ a ∧ a < 2147483648 ∧ -2147483648 ≤ b ∧ b < 2147483648) : (iz a = iz b) ↔ a = b := by
  rw [i_eq, iz_t ⟨h.1, h.2.1⟩, iz_t ⟨h.2.2.1, h.2.2.2⟩]
theorem iz_in {a : Int} {n : Nat} (h : -2147483648 ≤ a ∧ a < 2147483648) : vp_in (iz a) n ↔ 0 ≤ a ∧ a < n := by
  rw [i_in, iz_t h]
theorem iz_n {a : Int} (h : -2147483648 ≤ a ∧ a < 2147483648) : (iz a).toNatClampNeg = a.toNat := by
  rw [i_cl, iz_t h]
theorem iz_l {a : Int} (h : -2147483648 ≤ a ∧ a < 2147483648) : (iz a).toInt64.toInt = a := by
  rw [j_w, iz_t h]
theorem iz_div {a b : Int} (h : 0 ≤ a ∧ a < 2147483648 ∧ 0 < b ∧ b < 2147483648) : iz a / iz b = iz (a / b) := by
  have h2 : 0 ≤ a / b := Int.ediv_nonneg h.1 (by omega)
  have h3 : a / b ≤ a := Int.ediv_le_self b h.1
  rw [← Int32.toInt_inj, Int32.toInt_div, iz_t (by omega), iz_t (by omega), iz_t (by omega), Int.tdiv_eq_ediv_of_nonneg h.1]
  exact i_bm (by omega) (by omega)
-- the eight bits of a set
theorem bt_t : ∀ D : Nat, D < 256 → ∀ d : Nat, d < 8 → ((iz D >>> (iz d &&& 31)) &&& 1) = if D.testBit d then (1 : Int32) else 0 := by decide +kernel
theorem bt_1 : ∀ d : Nat, d < 9 → ((1 : Int32) <<< (iz d &&& 31)) = iz (2 ^ d : Nat) := by decide +kernel
theorem bt_or : ∀ D : Nat, D < 256 → ∀ d : Nat, d < 8 → (iz D ||| iz (2 ^ d : Nat)) = iz ((D ||| 2 ^ d : Nat) : Int) := by decide +kernel
-- tests that answer 1 or 0
theorem b1_eq0 {p : Prop} [Decidable p] : ((if p then (1 : Int32) else 0) = 0) ↔ ¬ p := i_b10 p
theorem b0_eq0 {p : Prop} [Decidable p] : ((if p then (0 : Int32) else 1) = 0) ↔ p := by by_cases h : p <;> simp [h]
theorem b1_eq1 {p : Prop} [Decidable p] : ((if p then (1 : Int32) else 0) = 1) ↔ p := by by_cases h : p <;> simp [h]
-- sums, greatest, least of the first n
def sm (f : Nat → Int) : Nat → Int
  | 0 => 0
  | n + 1 => sm f n + f n
theorem sm_nn {f : Nat → Int} (h : ∀ i, 0 ≤ f i) : ∀ n, 0 ≤ sm f n := by
  intro n
  induction n with
  | zero => exact Int.le_refl 0
  | succ n ih => have := h n; show 0 ≤ sm f n + f n; omega
theorem sm_mono {f g : Nat → Int} : ∀ n, (∀ i, i < n → f i ≤ g i) → sm f n ≤ sm g n := by
  intro n
  induction n with
  | zero => intro _; exact Int.le_refl 0
  | succ n ih => intro h; have h1 := ih fun i hi => h i (by omega); have h2 := h n (by omega); show sm f n + f n ≤ sm g n + g n; omega
theorem sm_eq {f g : Nat → Int} : ∀ n, (∀ i, i < n → f i = g i) → sm f n = sm g n := by
  intro n
  induction n with
  | zero => intro _; rfl
  | succ n ih => intro h; show sm f n + f n = sm g n + g n; rw [ih fun i hi => h i (by omega), h n (by omega)]
theorem sm_le {f : Nat → Int} (h : ∀ i, 0 ≤ f i) : ∀ n k, sm f n ≤ sm f (n + k) := by
  intro n k
  induction k with
  | zero => exact Int.le_refl _
  | succ k ih => have := h (n + k); show sm f n ≤ sm f (n + k) + f (n + k); omega
theorem sm_ub {f : Nat → Int} {u : Int} (h : ∀ i, f i ≤ u) : ∀ n : Nat, sm f n ≤ n * u := by
  intro n
  induction n with
  | zero => show (0 : Int) ≤ _; omega
  | succ n ih => have := h n; show sm f n + f n ≤ _; rw [Int.natCast_add, Int.add_mul]; omega
