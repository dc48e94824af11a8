/-! ===== minutes as bits ===== -/
theorem lb_or (x y : Int64) (m : Nat) : lb (x ||| y) m = (lb x m || lb y m) := by
  unfold lb
  rw [Int64.toBitVec_or, BitVec.getLsbD_or]
theorem lb_and (x y : Int64) (m : Nat) : lb (x &&& y) m = (lb x m && lb y m) := by
  unfold lb
  rw [Int64.toBitVec_and, BitVec.getLsbD_and]
theorem lb_not (x : Int64) (m : Nat) : lb (~~~x) m = (decide (m < 64) && !lb x m) := by
  unfold lb
  rw [Int64.toBitVec_not, BitVec.getLsbD_not]
theorem lb_0 (m : Nat) : lb 0 m = false := by
  unfold lb
  show (0#64).getLsbD m = false
  exact BitVec.getLsbD_zero
theorem lb_m1 {m : Nat} (h : m < 64) : lb (-1) m = true := (by decide +kernel : ∀ m, m < 64 → lb (-1) m = true) m h
theorem lb_z {x : Int64} : x = 0 ↔ ∀ m, m < 64 → lb x m = false := by
  constructor
  · intro h m _; rw [h]; exact lb_0 m
  · intro h
    rw [← Int64.toBitVec_inj]
    refine BitVec.eq_of_getLsbD_eq fun i hi => ?_
    show lb x i = lb 0 i
    rw [h i hi, lb_0]
theorem and_z {x y : Int64} : (lg_cmp (x &&& y) 0 = 0) ↔ ∀ m, m < 64 → lb y m = true → lb x m = false := by
  rw [lg_eq, lb_z]
  constructor
  · intro h m hm q
    have := h m hm
    rw [lb_and, q, Bool.and_true] at this
    exact this
  · intro h m hm
    rw [lb_and]
    cases q : lb y m
    · rw [Bool.and_false]
    · rw [h m hm q]; rfl
theorem sp_1 : ∀ n : Nat, n < 61 → 1 ≤ n → (((1 : Int64) <<< ((iz n).toInt64 &&& 63)) - 1).toBitVec = BitVec.ofNat 64 (2 ^ n - 1) := by decide +kernel
theorem sp_2 : ∀ a : Nat, a < 60 → (((iz a).toInt64 &&& 63).toBitVec.smod 64).toNat = a := by decide +kernel
theorem sp_b {T : St} {a n : Int} (ha : -2147483648 ≤ a ∧ a < 1073741824) (hn : -2147483648 ≤ n ∧ n < 1073741824) (m : Nat) : lb (x_x_span T (iz a) (iz n)) m = true ↔ 0 ≤ a ∧ 1 ≤ n ∧ a + n ≤ 60 ∧ a ≤ m ∧ (m : Int) < a + n := by
  unfold x_x_span
  simp (disch := omega) only [z_0, z_60, iz_lt, iz_le, iz_add]
  by_cases q : a < 0
  · rw [if_pos q, lb_0]; exact ⟨fun h => absurd h (by decide), fun h => by omega⟩
  rw [if_neg q]
  by_cases q : n ≤ 0
  · rw [if_pos q, lb_0]; exact ⟨fun h => absurd h (by decide), fun h => by omega⟩
  rw [if_neg q]
  by_cases q : a + n ≤ 60
  · rw [if_pos q]
    obtain ⟨k, rfl⟩ : ∃ k : Nat, a = k := ⟨a.toNat, by omega⟩
    obtain ⟨j, rfl⟩ : ∃ j : Nat, n = j := ⟨n.toNat, by omega⟩
    unfold lb
    rw [Int64.toBitVec_shiftLeft, BitVec.shiftLeft_eq', sp_2 k (by omega), sp_1 j (by omega) (by omega), BitVec.getLsbD_shiftLeft, BitVec.getLsbD_ofNat, Nat.testBit_two_pow_sub_one]
    simp only [Bool.and_eq_true, Bool.not_eq_true', decide_eq_true_eq, decide_eq_false_iff_not]
    omega
  · rw [if_neg q, lb_0]; exact ⟨fun h => absurd h (by decide), fun h => by omega⟩
theorem shf_1 : ∀ m : Nat, m < 60 → ((1 : Int64) <<< ((iz m).toInt64 &&& 63)).toBitVec = BitVec.twoPow 64 m := by decide +kernel
theorem shf_b {x : Int64} {m : Nat} (hm : m < 60) : (lg_cmp (x &&& ((1 : Int64) <<< ((iz m).toInt64 &&& 63))) 0 = 0) ↔ lb x m = false := by
  rw [and_z]
  have h : ∀ k, lb ((1 : Int64) <<< ((iz m).toInt64 &&& 63)) k = decide (k < 64 ∧ k = m) := by
    intro k
    unfold lb
    rw [shf_1 m hm, BitVec.getLsbD_twoPow]
    simp only [Bool.decide_and]
    rw [show decide (m = k) = decide (k = m) from decide_eq_decide.2 ⟨Eq.symm, Eq.symm⟩]
    by_cases e : k = m
    · subst e; rfl
    · simp [e]
  constructor
  · intro g; exact g m (by omega) (by rw [h]; exact decide_eq_true ⟨by omega, rfl⟩)
  · intro g k hk q
    rw [h] at q
    have := of_decide_eq_true q
    rw [this.2]; exact g
-- what a kitchen gives is fewer than n
def fll (B : Nat → Int) (h o : Int) (w m : Nat) (c : Nat) : Prop := gv B h o w m < 1 ∨ (gv B h o w m < 2 ∧ 1 ≤ c) ∨ (gv B h o w m < 3 ∧ 2 ≤ c) ∨ (gv B h o w m < 4 ∧ 3 ≤ c)
theorem awy_nn {B : Nat → Int} {m : Nat} : ∀ n, 0 ≤ awy B m n := fun n => sm_nn (fun i => by split <;> omega) n
theorem gv_nn {B : Nat → Int} {h o : Int} {w m : Nat} (hB : WF B) (ho : o < 60 → 1 ≤ B 1) (hm : m < 60) : 0 ≤ gv B h o w m := by
  have k1 := hB.1
  unfold gv
  have : (m : Int) < o ∨ 1 ≤ B 1 := by
    by_cases q : o < 60
    · exact Or.inr (ho q)
    · exact Or.inl (by omega)
  repeat' split
  all_goals omega
theorem fll_i {B : Nat → Int} {h o : Int} {w m c : Nat} (hB : WF B) (ho : o < 60 → 1 ≤ B 1) (hm : m < 60) (hc : c ≤ 3) : fll B h o w m c ↔ gv B h o w m ≤ c := by
  have := gv_nn (h := h) (w := w) hB ho hm
  unfold fll
  omega
def TyX (T : St) (a : Nat) (B : Nat → Int) (h o : Int) (f : Nat → Nat → Nat) : Prop := ∀ w m : Nat, w < 5 → m < 60 → (lb (T.2.2.2 (a + 1) w) m = true ↔ 1 ≤ f w m) ∧ (lb (T.2.2.2 (a + 2) w) m = true ↔ 2 ≤ f w m) ∧ (lb (T.2.2.2 (a + 3) w) m = true ↔ 3 ≤ f w m) ∧ (lb (T.2.2.2 (a + 4) w) m = true ↔ fll B h o w m (f w m))
def BiX (T : St) (q : Nat) (P : Nat → Nat → Prop) : Prop := ∀ w m : Nat, w < 5 → m < 64 → (lb (T.2.2.2 q w) m = true ↔ m < 60 ∧ P w m)
theorem s_hasRoom {T : St} {a q : Nat} {B : Nat → Int} {h o : Int} {f : Nat → Nat → Nat} {P : Nat → Nat → Prop} (h1 : TyX T a B h o f) (h2 : BiX T q P) : (x_ta_hasRoom T a q = 0) ↔ ¬ ∀ w m : Nat, w < 5 → m < 60 → P w m → ¬ fll B h o w m (f w m) := by
  have key : ∀ w, w < 5 → ((lg_cmp (T.2.2.2 (a + 4) w &&& T.2.2.2 q w) 0 = 0) ↔ ∀ m, m < 60 → P w m → ¬ fll B h o w m (f w m)) := by
    intro w hw
    rw [and_z]
    constructor
    · intro g m hm hp hf
      have := g m (by omega) ((h2 w m hw (by omega)).2 ⟨hm, hp⟩)
      rw [((h1 w m hw hm).2.2.2).2 hf] at this
      cases this
    · intro g m hm hq
      obtain ⟨h3, h4⟩ := (h2 w m hw hm).1 hq
      cases e : lb (T.2.2.2 (a + 4) w) m
      · rfl
      · exact absurd (((h1 w m hw h3).2.2.2).1 e) (g m h3 h4)
  unfold x_ta_hasRoom
  simp only [n_0, n_1, n_2, n_3, n_4]
  have sp : (∀ w m : Nat, w < 5 → m < 60 → P w m → ¬ fll B h o w m (f w m)) ↔ (∀ m, m < 60 → P 0 m → ¬ fll B h o 0 m (f 0 m)) ∧ (∀ m, m < 60 → P 1 m → ¬ fll B h o 1 m (f 1 m)) ∧ (∀ m, m < 60 → P 2 m → ¬ fll B h o 2 m (f 2 m)) ∧ (∀ m, m < 60 → P 3 m → ¬ fll B h o 3 m (f 3 m)) ∧ (∀ m, m < 60 → P 4 m → ¬ fll B h o 4 m (f 4 m)) := by
    constructor
    · intro g; exact ⟨fun m => g 0 m (by omega), fun m => g 1 m (by omega), fun m => g 2 m (by omega), fun m => g 3 m (by omega), fun m => g 4 m (by omega)⟩
    · rintro ⟨g0, g1, g2, g3, g4⟩ w m hw
      rcases (show w = 0 ∨ w = 1 ∨ w = 2 ∨ w = 3 ∨ w = 4 by omega) with rfl | rfl | rfl | rfl | rfl
      · exact g0 m
      · exact g1 m
      · exact g2 m
      · exact g3 m
      · exact g4 m
  rw [sp, ← key 0 (by omega), ← key 1 (by omega), ← key 2 (by omega), ← key 3 (by omega), ← key 4 (by omega)]
  by_cases c0 : lg_cmp (T.2.2.2 (a + 4) 0 &&& T.2.2.2 q 0) 0 = 0
  · by_cases c1 : lg_cmp (T.2.2.2 (a + 4) 1 &&& T.2.2.2 q 1) 0 = 0
    · by_cases c2 : lg_cmp (T.2.2.2 (a + 4) 2 &&& T.2.2.2 q 2) 0 = 0
      · by_cases c3 : lg_cmp (T.2.2.2 (a + 4) 3 &&& T.2.2.2 q 3) 0 = 0
        · by_cases c4 : lg_cmp (T.2.2.2 (a + 4) 4 &&& T.2.2.2 q 4) 0 = 0
          · simp [c0, c1, c2, c3, c4]
          · simp [c0, c1, c2, c3, c4]
        · simp [c0, c1, c2, c3]
      · simp [c0, c1, c2]
    · simp [c0, c1]
  · simp [c0]

