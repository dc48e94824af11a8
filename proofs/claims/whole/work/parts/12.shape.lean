/-! ===== the cells as they stand once both objects are made: 602 of them, at fixed numbers; what changes are ints, longs and four references ===== -/
-- ints and booleans in fields (cell, slot); the four references that change; ints in arrays (cell, place); longs in arrays
abbrev St : Type := (Nat → Nat → Int32) × (Nat → Nat) × (Nat → Nat → Int32) × (Nat → Nat → Int64)
def sh_1 : List ((Nat × Nat) ⊕ Nat) := [.inr 11, .inr 8, .inl (0, 8), .inl (0, 8), .inl (6, 8), .inl (0, 40), .inl (0, 40), .inl (0, 40), .inl (0, 40), .inl (0, 40), .inl (0, 40), .inl (0, 40), .inl (0, 40), .inr 6, .inl (0, 600), .inl (3, 2), .inr 1, .inl (0, 7), .inl (0, 4), .inl (0, 4), .inl (0, 8), .inl (0, 8), .inl (0, 8), .inl (0, 8), .inl (0, 8), .inl (0, 24), .inl (0, 24), .inl (0, 24), .inl (0, 24), .inl (0, 24), .inl (0, 24), .inr 1, .inl (0, 7), .inl (0, 4), .inl (0, 4), .inl (0, 8), .inl (0, 8), .inl (0, 8), .inl (0, 8), .inl (0, 8), .inl (0, 24), .inl (0, 24), .inl (0, 24), .inl (0, 24), .inl (0, 24), .inl (0, 24), .inr 1, .inl (0, 7), .inl (0, 4), .inl (0, 4), .inl (0, 8), .inl (0, 8), .inl (0, 8), .inl (0, 8), .inl (0, 8), .inl (0, 24), .inl (0, 24), .inl (0, 24), .inl (0, 24), .inl (0, 24), .inl (0, 24), .inr 1, .inl (0, 7), .inl (0, 4), .inl (0, 4), .inl (0, 8), .inl (0, 8), .inl (0, 8), .inl (0, 8), .inl (0, 8), .inl (0, 24), .inl (0, 24), .inl (0, 24), .inl (0, 24), .inl (0, 24), .inl (0, 24), .inr 3, .inl (1, 25), .inr 3, .inl (1, 25), .inr 5, .inl (4, 96), .inl (0, 8), .inl (0, 8), .inl (7, 8), .inl (1, 5), .inl (1, 5), .inl (1, 5), .inl (1, 5), .inl (1, 5), .inl (1, 5), .inl (1, 5), .inl (1, 5), .inl (5, 4), .inl (0, 4), .inl (0, 4), .inl (0, 4), .inl (0, 5), .inl (0, 768), .inl (6, 5), .inl (0, 4), .inl (0, 4), .inl (0, 4), .inl (0, 4), .inl (0, 4), .inl (2, 256), .inr 1, .inl (0, 7), .inl (0, 4), .inl (0, 4), .inl (0, 8), .inl (0, 8), .inl (0, 8), .inl (0, 8), .inl (0, 8), .inl (0, 24), .inl (0, 24), .inl (0, 24), .inl (0, 24), .inl (0, 24), .inl (0, 24), .inr 3, .inl (1, 25)]
def sh_2 : List ((Nat × Nat) ⊕ Nat) := [.inr 9, .inl (1, 5), .inl (1, 5), .inl (1, 5), .inl (1, 5), .inr 9, .inl (1, 5), .inl (1, 5), .inl (1, 5), .inl (1, 5), .inr 9, .inl (1, 5), .inl (1, 5), .inl (1, 5), .inl (1, 5), .inr 9, .inl (1, 5), .inl (1, 5), .inl (1, 5), .inl (1, 5), .inr 2, .inr 4, .inl (0, 60), .inl (0, 60), .inl (0, 60), .inl (4, 4), .inr 9, .inl (1, 5), .inl (1, 5), .inl (1, 5), .inl (1, 5), .inl (1, 5), .inr 10, .inl (0, 3), .inl (0, 3), .inl (1, 5), .inr 10, .inl (0, 3), .inl (0, 3), .inl (1, 5), .inr 10, .inl (0, 3), .inl (0, 3), .inl (1, 5), .inr 10, .inl (0, 3), .inl (0, 3), .inl (1, 5), .inr 0, .inl (0, 16), .inr 7, .inl (0, 4), .inl (0, 4), .inl (0, 12), .inl (0, 12), .inl (0, 12), .inl (0, 12), .inr 7, .inl (0, 4), .inl (0, 4), .inl (0, 12), .inl (0, 12), .inl (0, 12), .inl (0, 12), .inr 12, .inl (0, 8), .inl (0, 8), .inl (0, 320), .inl (0, 204), .inl (0, 204), .inl (0, 600), .inl (0, 300), .inl (0, 300), .inl (0, 300), .inl (0, 300), .inl (0, 300), .inl (0, 300), .inl (0, 300), .inl (0, 4), .inl (0, 5), .inl (0, 5), .inl (0, 12), .inl (0, 4), .inl (0, 12), .inl (0, 12), .inl (0, 4), .inl (0, 12), .inl (0, 12), .inl (0, 12), .inl (0, 12), .inl (0, 61), .inl (0, 61), .inl (2, 2), .inl (0, 408), .inl (0, 16)]
def sh_w (j : Nat) : (Nat × Nat) ⊕ Nat := if j = 0 then .inr 10 else if j = 3 then .inl (1, 5) else .inl (0, 3)
def sh (a : Nat) : (Nat × Nat) ⊕ Nat := if a < 123 then sh_1.getD a (.inl (9, 0)) else if a < 507 then sh_w ((a - 123) % 4) else sh_2.getD (a - 507) (.inl (9, 0))
def rfa (a j : Nat) : Option Nat :=
  if a = 4 then (if j < 8 then some (5 + j) else none) else if a = 15 then (if j < 2 then some (16 + 15 * j) else none) else if a = 81 then (if j < 96 then some (123 + 4 * j) else none) else if a = 84 then (if j < 8 then some (85 + j) else none) else if a = 93 then (if j < 4 then some (507 + 5 * j) else none) else if a = 99 then (if j < 5 then some (100 + j) else none) else if a = 532 then (if j < 4 then some (539 + 4 * j) else none) else none
def flds (T : St) (a ci : Nat) : List Value := match ci with
  | 0 => [.ref (556 : Nat), .int (T.1 a 1)]
  | 1 => [.ref (a + 1), .int (T.1 a 1), .ref (a + 2), .ref (a + 3), .int (T.1 a 4), .ref (a + 4), .ref (a + 5), .ref (a + 6), .ref (a + 7), .ref (a + 8), .int (T.1 a 10), .ref (a + 9), .ref (a + 10), .ref (a + 11), .ref (a + 12), .ref (a + 13), .ref (a + 14), .int (T.1 a 17), .int (T.1 a 18)]
  | 2 => [.ref (528 : Nat), .ref (532 : Nat), .ref (533 : Nat), .ref (538 : Nat)]
  | 3 => [.ref (a + 1)]
  | 4 => [.ref (529 : Nat), .ref (530 : Nat), .ref (531 : Nat)]
  | 5 => [.ref (81 : Nat), .ref (82 : Nat), .ref (83 : Nat), .ref (84 : Nat), .ref (93 : Nat), .ref (94 : Nat), .ref (95 : Nat), .ref (96 : Nat), .ref (97 : Nat), .ref (98 : Nat), .ref (99 : Nat), .ref (105 : Nat), .int (T.1 a 12), .int (T.1 a 13), .int (T.1 a 14), .ref (T.2.1 2), .ref (T.2.1 3), .int (T.1 a 17), .int (T.1 a 18), .int (T.1 a 19)]
  | 6 => [.ref (14 : Nat), .int (T.1 a 1), .int (T.1 a 2), .int (T.1 a 3), .int (T.1 a 4), .int (T.1 a 5), .int (T.1 a 6)]
  | 7 => [.int (T.1 a 0), .int (T.1 a 1), .ref (a + 1), .ref (a + 2), .ref (a + 3), .ref (a + 4), .ref (a + 5), .ref (a + 6)]
  | 8 => [.ref (2 : Nat), .ref (3 : Nat), .ref (4 : Nat)]
  | 9 => [.ref (a + 1), .ref (a + 2), .ref (a + 3), .ref (a + 4)]
  | 10 => [.ref (a + 1), .ref (a + 2), .ref (a + 3), .int (T.1 a 3), .int (T.1 a 4), .int (T.1 a 5), .int (T.1 a 6)]
  | 11 => [.ref (1 : Nat), .ref (13 : Nat), .ref (15 : Nat), .ref (76 : Nat), .ref (78 : Nat), .ref (80 : Nat), .ref (527 : Nat), .ref (555 : Nat), .ref (557 : Nat), .ref (564 : Nat), .ref (T.2.1 0), .ref (T.2.1 1), .int (T.1 a 12), .int (T.1 a 13), .int (T.1 a 14), .int (T.1 a 15), .int (T.1 a 16)]
  | _ => [.int (T.1 a 0), .int (T.1 a 1), .ref (572 : Nat), .ref (573 : Nat), .ref (574 : Nat), .ref (575 : Nat), .ref (576 : Nat), .int (T.1 a 7), .ref (577 : Nat), .int (T.1 a 9), .int (T.1 a 10), .int (T.1 a 11), .int (T.1 a 12), .int (T.1 a 13), .int (T.1 a 14), .int (T.1 a 15), .int (T.1 a 16), .int (T.1 a 17), .ref (578 : Nat), .ref (579 : Nat), .ref (580 : Nat), .ref (581 : Nat), .ref (582 : Nat), .ref (583 : Nat), .ref (584 : Nat), .ref (585 : Nat), .ref (586 : Nat), .ref (587 : Nat), .ref (588 : Nat), .ref (589 : Nat), .ref (590 : Nat), .int (T.1 a 31), .int (T.1 a 32), .ref (591 : Nat), .int (T.1 a 34), .int (T.1 a 35), .int (T.1 a 36), .ref (592 : Nat), .ref (593 : Nat), .int (T.1 a 39), .ref (594 : Nat), .ref (595 : Nat), .ref (596 : Nat), .ref (597 : Nat), .ref (598 : Nat), .ref (599 : Nat), .ref (600 : Nat), .ref (601 : Nat), .int (T.1 a 48)]
def conc (T : St) (a : Nat) : mx_C := match sh a with
  | .inr ci => .inr (ci, flds T a ci)
  | .inl (0, n) => .inl (0, n, .inl (T.2.2.1 a))
  | .inl (1, n) => .inl (1, n, .inr (.inl (T.2.2.2 a)))
  | .inl (2, n) => .inl (2, n, .inl (T.2.2.1 a))
  | .inl (9, _) => .inl (0, 0, .inl (fun _ => 0))
  | .inl (t, n) => .inl (t, n, .inr (.inr (.inr (.inr (rfa a)))))
def NN : Nat := 602
def SS : Nat := 9800
def u2 {α : Type} (f : Nat → Nat → α) (a k : Nat) (x : α) : Nat → Nat → α := fun b j => if b = a ∧ j = k then x else f b j
def u1 {α : Type} (f : Nat → Nat → α) (a : Nat) (x : Nat → α) : Nat → Nat → α := fun b j => if b = a then x j else f b j
theorem u1_self {α : Type} (f : Nat → Nat → α) (a : Nat) (x : Nat → α) : u1 f a x a = x := funext fun j => if_pos rfl
theorem u1_ne {α : Type} (f : Nat → Nat → α) {a b : Nat} (x : Nat → α) (h : b ≠ a) : u1 f a x b = f b := funext fun j => if_neg h
theorem u2_ne {α : Type} (f : Nat → Nat → α) {a b : Nat} (k : Nat) (x : α) (h : b ≠ a) : u2 f a k x b = f b := funext fun j => if_neg (fun z => h z.1)
def sF (T : St) (a k : Nat) (x : Int32) : St := (u2 T.1 a k x, T.2)
def sR (T : St) (c b : Nat) : St := (T.1, va_up T.2.1 c b, T.2.2)
def sA (T : St) (a k : Nat) (x : Int32) : St := (T.1, T.2.1, u2 T.2.2.1 a k x, T.2.2.2)
def sAr (T : St) (a : Nat) (f : Nat → Int32) : St := (T.1, T.2.1, u1 T.2.2.1 a f, T.2.2.2)
def sL (T : St) (a k : Nat) (x : Int64) : St := (T.1, T.2.1, T.2.2.1, u2 T.2.2.2 a k x)
theorem sh_lt {a : Nat} (h : sh a ≠ .inl (9, 0)) : a < 602 := by
  unfold sh at h
  rcases Nat.lt_or_ge a 602 with q | q
  · exact q
  · rw [if_neg (by omega), if_neg (by omega), List.getD_eq_getElem?_getD, List.getElem?_eq_none (by show 95 ≤ a - 507; omega)] at h
    exact absurd rfl h
theorem conc_o {T : St} {a ci : Nat} (h : sh a = .inr ci) : conc T a = .inr (ci, flds T a ci) := by unfold conc; rw [h]
theorem conc_i {T : St} {a n : Nat} (h : sh a = .inl (0, n)) : conc T a = .inl (0, n, .inl (T.2.2.1 a)) := by unfold conc; rw [h]; rfl
theorem conc_l {T : St} {a n : Nat} (h : sh a = .inl (1, n)) : conc T a = .inl (1, n, .inr (.inl (T.2.2.2 a))) := by unfold conc; rw [h]; rfl
theorem conc_z {T : St} {a n : Nat} (h : sh a = .inl (2, n)) : conc T a = .inl (2, n, .inl (T.2.2.1 a)) := by unfold conc; rw [h]; rfl
theorem conc_r {T : St} {a t n : Nat} (h : sh a = .inl (t, n)) (h3 : 3 ≤ t) (h8 : t < 8) : conc T a = .inl (t, n, .inr (.inr (.inr (.inr (rfa a))))) := by
  unfold conc
  rw [h]
  rcases (show t = 3 ∨ t = 4 ∨ t = 5 ∨ t = 6 ∨ t = 7 by omega) with rfl | rfl | rfl | rfl | rfl <;> rfl
def isI (ci k : Nat) : Bool := match ci with
  | 0 => decide (k ∈ ([1] : List Nat))
  | 1 => decide (k ∈ ([1, 4, 10, 17, 18] : List Nat))
  | 2 => decide (k ∈ ([] : List Nat))
  | 3 => decide (k ∈ ([] : List Nat))
  | 4 => decide (k ∈ ([] : List Nat))
  | 5 => decide (k ∈ ([12, 13, 14, 17, 18, 19] : List Nat))
  | 6 => decide (k ∈ ([1, 2, 3, 4, 5, 6] : List Nat))
  | 7 => decide (k ∈ ([0, 1] : List Nat))
  | 8 => decide (k ∈ ([] : List Nat))
  | 9 => decide (k ∈ ([] : List Nat))
  | 10 => decide (k ∈ ([3, 4, 5, 6] : List Nat))
  | 11 => decide (k ∈ ([12, 13, 14, 15, 16] : List Nat))
  | 12 => decide (k ∈ ([0, 1, 7, 9, 10, 11, 12, 13, 14, 15, 16, 17, 31, 32, 34, 35, 36, 39, 48] : List Nat))
  | _ => false
-- ahead: a field that is written
theorem flds_F {T : St} {a ci k : Nat} {x : Int32} (h : isI ci k = true) : flds (sF T a k x) a ci = (flds T a ci).set k (.int x) := by
  unfold isI at h
  split at h
  · simp only [List.mem_cons, List.not_mem_nil, or_false, decide_eq_true_eq] at h
    subst h; simp [flds, sF, u2, List.set]
  · simp only [List.mem_cons, List.not_mem_nil, or_false, decide_eq_true_eq] at h
    rcases h with rfl | rfl | rfl | rfl | rfl <;> simp [flds, sF, u2, List.set]
  · simp at h
  · simp at h
  · simp at h
  · simp only [List.mem_cons, List.not_mem_nil, or_false, decide_eq_true_eq] at h
    rcases h with rfl | rfl | rfl | rfl | rfl | rfl <;> simp [flds, sF, u2, List.set]
  · simp only [List.mem_cons, List.not_mem_nil, or_false, decide_eq_true_eq] at h
    rcases h with rfl | rfl | rfl | rfl | rfl | rfl <;> simp [flds, sF, u2, List.set]
  · simp only [List.mem_cons, List.not_mem_nil, or_false, decide_eq_true_eq] at h
    rcases h with rfl | rfl <;> simp [flds, sF, u2, List.set]
  · simp at h
  · simp at h
  · simp only [List.mem_cons, List.not_mem_nil, or_false, decide_eq_true_eq] at h
    rcases h with rfl | rfl | rfl | rfl <;> simp [flds, sF, u2, List.set]
  · simp only [List.mem_cons, List.not_mem_nil, or_false, decide_eq_true_eq] at h
    rcases h with rfl | rfl | rfl | rfl | rfl <;> simp [flds, sF, u2, List.set]
  · simp only [List.mem_cons, List.not_mem_nil, or_false, decide_eq_true_eq] at h
    rcases h with rfl | rfl | rfl | rfl | rfl | rfl | rfl | rfl | rfl | rfl | rfl | rfl | rfl | rfl | rfl | rfl | rfl | rfl | rfl <;> simp [flds, sF, u2, List.set]
  · simp at h
theorem flds_ne {T : St} {a b ci k : Nat} {x : Int32} (h : b ≠ a) : flds (sF T a k x) b ci = flds T b ci := by
  unfold flds sF u2
  simp only [h, false_and, if_false]
theorem conc_sF {T : St} {a ci k : Nat} {x : Int32} (hs : sh a = .inr ci) (h : isI ci k = true) : va_up (conc T) a (.inr (ci, (flds T a ci).set k (.int x))) = conc (sF T a k x) := by
  funext b
  unfold va_up
  by_cases e : b = a
  · subst e
    rw [if_pos rfl, conc_o hs, flds_F h]
  · rw [if_neg e]
    unfold conc
    split <;> first | (rw [flds_ne e]; done) | rfl
theorem conc_sA0 {T : St} {a n : Nat} (f : Nat → Int32) (hs : sh a = .inl (0, n)) : va_up (conc T) a (.inl (0, n, .inl f)) = conc (sAr T a f) := by
  funext b
  unfold va_up
  by_cases e : b = a
  · subst e
    rw [if_pos rfl, conc_i hs]
    show _ = Sum.inl (_, n, Sum.inl (u1 T.2.2.1 b f b))
    rw [u1_self]
  · rw [if_neg e]
    unfold conc
    split <;> first | rfl | (simp only [sAr, u1_ne _ _ e]; done) | (simp [sAr, u1_ne _ _ e, flds]; done)
theorem conc_sZ {T : St} {a n : Nat} (f : Nat → Int32) (hs : sh a = .inl (2, n)) : va_up (conc T) a (.inl (2, n, .inl f)) = conc (sAr T a f) := by
  funext b
  unfold va_up
  by_cases e : b = a
  · subst e
    rw [if_pos rfl, conc_z hs]
    show _ = Sum.inl (_, n, Sum.inl (u1 T.2.2.1 b f b))
    rw [u1_self]
  · rw [if_neg e]
    unfold conc
    split <;> first | rfl | (simp only [sAr, u1_ne _ _ e]; done) | (simp [sAr, u1_ne _ _ e, flds]; done)
theorem sAr_upd (T : St) (a k : Nat) (x : Int32) : sAr T a (upd (T.2.2.1 a) k x) = sA T a k x := by
  unfold sAr sA u1 u2 upd
  congr 3
  funext b j
  by_cases e : b = a
  · subst e; simp
  · simp [e]
theorem conc_sL {T : St} {a n k : Nat} {x : Int64} (hs : sh a = .inl (1, n)) : va_up (conc T) a (.inl (1, n, .inr (.inl (vp_updL (T.2.2.2 a) k x)))) = conc (sL T a k x) := by
  funext b
  unfold va_up
  by_cases e : b = a
  · subst e
    rw [if_pos rfl, conc_l hs]
    simp only [sL]
    congr 5
    funext j
    simp [u2, vp_updL]
  · rw [if_neg e]
    unfold conc
    split <;> first | rfl | (simp only [sL, u2_ne _ _ _ e]; done) | (simp [sL, u2_ne _ _ _ e, flds]; done)
-- the four references
def vr (ci k : Nat) : Option Nat := if ci = 11 then (if k = 10 then some 0 else if k = 11 then some 1 else none) else if ci = 5 then (if k = 15 then some 2 else if k = 16 then some 3 else none) else none
theorem sh_11 {a : Nat} (h : sh a = .inr 11) : a = 0 := by
  have h2 : a < 602 := sh_lt (by rw [h]; exact fun z => by cases z)
  exact (by decide +kernel : ∀ a, a < 602 → sh a = .inr 11 → a = 0) a h2 h
theorem sh_5 {a : Nat} (h : sh a = .inr 5) : a = 80 := by
  have h2 : a < 602 := sh_lt (by rw [h]; exact fun z => by cases z)
  exact (by decide +kernel : ∀ a, a < 602 → sh a = .inr 5 → a = 80) a h2 h
theorem flds_R {T : St} {a b ci c : Nat} (h : ¬ (ci = 11 ∧ c < 2)) (h2 : ¬ (ci = 5 ∧ 2 ≤ c)) (h4 : c < 4) (hc : ci < 13) : flds (sR T c b) a ci = flds T a ci := by
  rcases (show ci = 0 ∨ ci = 1 ∨ ci = 2 ∨ ci = 3 ∨ ci = 4 ∨ ci = 5 ∨ ci = 6 ∨ ci = 7 ∨ ci = 8 ∨ ci = 9 ∨ ci = 10 ∨ ci = 11 ∨ ci = 12 by omega) with rfl | rfl | rfl | rfl | rfl | rfl | rfl | rfl | rfl | rfl | rfl | rfl | rfl <;> first | rfl | skip
  · have h5 : c = 0 ∨ c = 1 := by omega
    rcases h5 with rfl | rfl <;> rfl
  · have h5 : c = 2 ∨ c = 3 := by omega
    rcases h5 with rfl | rfl <;> rfl
theorem sh_ci {a ci : Nat} (h : sh a = .inr ci) : ci < 13 := by
  have h2 : a < 602 := sh_lt (by rw [h]; exact fun z => by cases z)
  have h3 := (by decide +kernel : ∀ a, a < 602 → (match sh a with | .inr c => decide (c < 13) | .inl _ => true) = true) a h2
  rw [h] at h3
  exact of_decide_eq_true h3
theorem conc_sR {T : St} {a ci k c b : Nat} (hs : sh a = .inr ci) (h : vr ci k = some c) : va_up (conc T) a (.inr (ci, (flds T a ci).set k (.ref b))) = conc (sR T c b) := by
  have hcc : (ci = 11 ∧ ((k = 10 ∧ c = 0) ∨ (k = 11 ∧ c = 1))) ∨ (ci = 5 ∧ ((k = 15 ∧ c = 2) ∨ (k = 16 ∧ c = 3))) := by
    unfold vr at h
    split at h
    · split at h
      · cases h; exact Or.inl ⟨by assumption, Or.inl ⟨by assumption, rfl⟩⟩
      · split at h
        · cases h; exact Or.inl ⟨by assumption, Or.inr ⟨by assumption, rfl⟩⟩
        · cases h
    · split at h
      · split at h
        · cases h; exact Or.inr ⟨by assumption, Or.inl ⟨by assumption, rfl⟩⟩
        · split at h
          · cases h; exact Or.inr ⟨by assumption, Or.inr ⟨by assumption, rfl⟩⟩
          · cases h
      · cases h
  funext d
  unfold va_up
  by_cases e : d = a
  · subst e
    rw [if_pos rfl, conc_o hs]
    rcases hcc with ⟨rfl, ⟨rfl, rfl⟩ | ⟨rfl, rfl⟩⟩ | ⟨rfl, ⟨rfl, rfl⟩ | ⟨rfl, rfl⟩⟩ <;> rfl
  · rw [if_neg e]
    unfold conc
    split
    · rename_i ci2 h2
      have h9 := sh_ci h2
      rw [flds_R (by rintro ⟨rfl, q⟩; rcases hcc with ⟨rfl, -⟩ | ⟨rfl, ⟨-, rfl⟩ | ⟨-, rfl⟩⟩ <;> first | omega | exact e ((sh_11 h2).trans (sh_11 hs).symm)) (by rintro ⟨rfl, q⟩; rcases hcc with ⟨rfl, ⟨-, rfl⟩ | ⟨-, rfl⟩⟩ | ⟨rfl, -⟩ <;> first | omega | exact e ((sh_5 h2).trans (sh_5 hs).symm)) (by omega) h9]
    all_goals rfl
