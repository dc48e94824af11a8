/-! ===== a small machine over numbered cells: what a method does, as a relation; and that the machine itself does it ===== -/
-- a cell: an array (number of its kind, length, contents) or an object (number of its class, fields); references are the cells' numbers
abbrev mx_C : Type := (Nat × vp_A) ⊕ (Nat × List Value)
-- cells, how many, how many slots they have
abbrev mx_Hp : Type := (Nat → mx_C) × Nat × Nat
abbrev mx_Lo : Type := List (Option Value)
abbrev mx_Fr : Type := Nat × mx_Lo × List Value × mx_Hp
-- a method: its name, bytes, locals, answer
abbrev mx_M : Type := MethodName × ByteArray × Nat × Option FieldType
def mx_B : Nat := 1000000
def mx_1i {α : Type} (S : List Value) (k : Int32 → List Value → Option α) : Option α := match S with
  | .int x :: r => k x r
  | _ => none
def mx_2i {α : Type} (S : List Value) (k : Int32 → Int32 → List Value → Option α) : Option α := match S with
  | .int y :: .int x :: r => k y x r
  | _ => none
def mx_1l {α : Type} (S : List Value) (k : Int64 → List Value → Option α) : Option α := match S with
  | .long x :: r => k x r
  | _ => none
def mx_2l {α : Type} (S : List Value) (k : Int64 → Int64 → List Value → Option α) : Option α := match S with
  | .long y :: .long x :: r => k y x r
  | _ => none
def mx_il {α : Type} (S : List Value) (k : Int32 → Int64 → List Value → Option α) : Option α := match S with
  | .int y :: .long x :: r => k y x r
  | _ => none
def mx_1r {α : Type} (S : List Value) (k : Nat → List Value → Option α) : Option α := match S with
  | .ref x :: r => k x r
  | _ => none
def mx_1v {α : Type} (S : List Value) (k : Value → List Value → Option α) : Option α := match S with
  | x :: r => k x r
  | _ => none
def mx_li {α : Type} (L : mx_Lo) (i : Nat) (k : Int32 → Option α) : Option α := match L[i]? with
  | some (some (.int x)) => k x
  | _ => none
def mx_ll {α : Type} (L : mx_Lo) (i : Nat) (k : Int64 → Option α) : Option α := match L[i]? with
  | some (some (.long x)) => k x
  | _ => none
def mx_lr {α : Type} (L : mx_Lo) (i : Nat) (k : Nat → Option α) : Option α := match L[i]? with
  | some (some (.ref x)) => k x
  | _ => none
theorem mx_1i_inv {α : Type} {S : List Value} {k : Int32 → List Value → Option α} {a : α} (h : mx_1i S k = some a) : ∃ x r, S = .int x :: r ∧ k x r = some a := by
  unfold mx_1i at h
  split at h
  · exact ⟨_, _, rfl, h⟩
  · cases h
theorem mx_2i_inv {α : Type} {S : List Value} {k : Int32 → Int32 → List Value → Option α} {a : α} (h : mx_2i S k = some a) : ∃ y x r, S = .int y :: .int x :: r ∧ k y x r = some a := by
  unfold mx_2i at h
  split at h
  · exact ⟨_, _, _, rfl, h⟩
  · cases h
theorem mx_1l_inv {α : Type} {S : List Value} {k : Int64 → List Value → Option α} {a : α} (h : mx_1l S k = some a) : ∃ x r, S = .long x :: r ∧ k x r = some a := by
  unfold mx_1l at h
  split at h
  · exact ⟨_, _, rfl, h⟩
  · cases h
theorem mx_2l_inv {α : Type} {S : List Value} {k : Int64 → Int64 → List Value → Option α} {a : α} (h : mx_2l S k = some a) : ∃ y x r, S = .long y :: .long x :: r ∧ k y x r = some a := by
  unfold mx_2l at h
  split at h
  · exact ⟨_, _, _, rfl, h⟩
  · cases h
theorem mx_il_inv {α : Type} {S : List Value} {k : Int32 → Int64 → List Value → Option α} {a : α} (h : mx_il S k = some a) : ∃ y x r, S = .int y :: .long x :: r ∧ k y x r = some a := by
  unfold mx_il at h
  split at h
  · exact ⟨_, _, _, rfl, h⟩
  · cases h
theorem mx_1r_inv {α : Type} {S : List Value} {k : Nat → List Value → Option α} {a : α} (h : mx_1r S k = some a) : ∃ x r, S = .ref x :: r ∧ k x r = some a := by
  unfold mx_1r at h
  split at h
  · exact ⟨_, _, rfl, h⟩
  · cases h
theorem mx_1v_inv {α : Type} {S : List Value} {k : Value → List Value → Option α} {a : α} (h : mx_1v S k = some a) : ∃ x r, S = x :: r ∧ k x r = some a := by
  unfold mx_1v at h
  split at h
  · exact ⟨_, _, rfl, h⟩
  · cases h
theorem mx_li_inv {α : Type} {L : mx_Lo} {i : Nat} {k : Int32 → Option α} {a : α} (h : mx_li L i k = some a) : ∃ x, L[i]? = some (some (.int x)) ∧ k x = some a := by
  unfold mx_li at h
  split at h
  · exact ⟨_, by assumption, h⟩
  · cases h
theorem mx_ll_inv {α : Type} {L : mx_Lo} {i : Nat} {k : Int64 → Option α} {a : α} (h : mx_ll L i k = some a) : ∃ x, L[i]? = some (some (.long x)) ∧ k x = some a := by
  unfold mx_ll at h
  split at h
  · exact ⟨_, by assumption, h⟩
  · cases h
theorem mx_lr_inv {α : Type} {L : mx_Lo} {i : Nat} {k : Nat → Option α} {a : α} (h : mx_lr L i k = some a) : ∃ x, L[i]? = some (some (.ref x)) ∧ k x = some a := by
  unfold mx_lr at h
  split at h
  · exact ⟨_, by assumption, h⟩
  · cases h
def mx_go {α : Type} (pc : Nat) (off : Int) (k : Nat → Option α) : Option α := if 0 ≤ (pc : Int) + off then k ((pc : Int) + off).toNat else none
theorem mx_go_inv {α : Type} {pc : Nat} {off : Int} {k : Nat → Option α} {a : α} (h : mx_go pc off k = some a) : ∃ t : Nat, (pc : Int) + off = (t : Int) ∧ k t = some a := by
  unfold mx_go at h
  split at h
  · exact ⟨_, (Int.toNat_of_nonneg (by assumption)).symm, h⟩
  · cases h
-- a local's slot is written: a long whose second half it was is gone
def mx_kill (L : mx_Lo) (i : Nat) : mx_Lo := match i with
  | 0 => L
  | j + 1 => match L[j]? with
    | some (some v) => if v.category = 2 then L.set j none else L
    | _ => L
def mx_s1 (L : mx_Lo) (i : Nat) (v : Value) : mx_Lo := (mx_kill L i).set i (some v)
def mx_s2 (L : mx_Lo) (i : Nat) (v : Value) : mx_Lo := ((mx_kill L i).set i (some v)).set (i + 1) none
theorem mx_kill_len (L : mx_Lo) (i : Nat) : (mx_kill L i).length = L.length := by
  unfold mx_kill
  split
  · rfl
  · split
    · split <;> simp
    · rfl
theorem mx_kill_get {L : mx_Lo} {i j : Nat} {v : Value} (h : (mx_kill L i)[j]? = some (some v)) : L[j]? = some (some v) ∧ ¬ (j + 1 = i ∧ v.category = 2) := by
  unfold mx_kill at h
  split at h
  · exact ⟨h, fun z => by omega⟩
  · rename_i i k
    split at h
    · rename_i w hw
      split at h
      · by_cases e : k = j
        · subst e
          have hk : k < L.length := (List.getElem?_eq_some_iff.mp hw).1
          rw [List.getElem?_set_self hk] at h
          cases h
        · rw [List.getElem?_set_ne e] at h
          exact ⟨h, fun z => e (by omega)⟩
      · rename_i hc
        refine ⟨h, fun z => ?_⟩
        have e : k = j := by omega
        subst e
        rw [hw] at h
        cases h
        exact hc z.2
    · rename_i hn
      refine ⟨h, fun z => ?_⟩
      have e : k = j := by omega
      subst e
      exact hn v h
theorem mx_s1_get {L : mx_Lo} {i j : Nat} {v w : Value} (h : (mx_s1 L i v)[j]? = some (some w)) : (j = i ∧ w = v) ∨ (j ≠ i ∧ L[j]? = some (some w) ∧ ¬ (j + 1 = i ∧ w.category = 2)) := by
  unfold mx_s1 at h
  by_cases e : i = j
  · subst e
    have hk : i < (mx_kill L i).length := by
      have := (List.getElem?_eq_some_iff.mp h).1
      simpa using this
    rw [List.getElem?_set_self hk] at h
    cases h
    exact Or.inl ⟨rfl, rfl⟩
  · rw [List.getElem?_set_ne e] at h
    exact Or.inr ⟨fun z => e z.symm, mx_kill_get h⟩
theorem mx_s2_get {L : mx_Lo} {i j : Nat} {v w : Value} (h : (mx_s2 L i v)[j]? = some (some w)) : (j = i ∧ w = v) ∨ (j ≠ i ∧ j ≠ i + 1 ∧ L[j]? = some (some w) ∧ ¬ (j + 1 = i ∧ w.category = 2)) := by
  unfold mx_s2 at h
  by_cases e : i + 1 = j
  · subst e
    have hk : i + 1 < ((mx_kill L i).set i (some v)).length := by
      have := (List.getElem?_eq_some_iff.mp h).1
      simpa using this
    rw [List.getElem?_set_self hk] at h
    cases h
  · rw [List.getElem?_set_ne e] at h
    rcases mx_s1_get (L := L) h with ⟨h1, h2⟩ | ⟨h1, h2, h3⟩
    · exact Or.inl ⟨h1, h2⟩
    · exact Or.inr ⟨h1, fun z => e z.symm, h2, h3⟩
theorem mx_s1_len (L : mx_Lo) (i : Nat) (v : Value) : (mx_s1 L i v).length = L.length := by simp [mx_s1, mx_kill_len]
theorem mx_s2_len (L : mx_Lo) (i : Nat) (v : Value) : (mx_s2 L i v).length = L.length := by simp [mx_s2, mx_kill_len]
-- from numbers to addresses
def mx_rv (ρ : Nat → Nat) (v : Value) : Value := match v with
  | .ref a => .ref (ρ a)
  | w => w
theorem mx_rv_cat (ρ : Nat → Nat) (v : Value) : (mx_rv ρ v).category = v.category := by cases v <;> rfl
-- the locals
def mx_prs (ρ : Nat → Nat) (L : mx_Lo) : List (Nat × Value) := (List.range L.length).filterMap fun j => match L[j]? with
  | some (some v) => some (j, mx_rv ρ v)
  | _ => none
theorem mx_prs_mem {ρ : Nat → Nat} {L : mx_Lo} {q : Nat × Value} : q ∈ mx_prs ρ L ↔ ∃ v, L[q.1]? = some (some v) ∧ q.2 = mx_rv ρ v := by
  unfold mx_prs
  rw [List.mem_filterMap]
  constructor
  · rintro ⟨j, -, hj⟩
    split at hj
    · rename_i v hv
      cases hj
      exact ⟨v, hv, rfl⟩
    · cases hj
  · rintro ⟨v, hv, e⟩
    refine ⟨q.1, List.mem_range.mpr (List.getElem?_eq_some_iff.mp hv).1, ?_⟩
    rw [hv]
    show some (q.1, mx_rv ρ v) = some q
    rw [← e]
def mx_L (ρ : Nat → Nat) (ls : Array Slot) (L : mx_Lo) : Prop := lv_has ls L.length (mx_prs ρ L)
theorem mx_L.at {ρ : Nat → Nat} {ls : Array Slot} {L : mx_Lo} {i : Nat} {v : Value} (h : mx_L ρ ls L) (hv : L[i]? = some (some v)) : ls[i]? = some (.val (mx_rv ρ v)) := h.2.2 (i, mx_rv ρ v) (mx_prs_mem.mpr ⟨v, hv, rfl⟩)
theorem mx_L.s1 {ρ : Nat → Nat} {ls' : Array Slot} {L : mx_Lo} {i : Nat} {v : Value} (h : lv_has ls' L.length ((i, mx_rv ρ v) :: (mx_prs ρ L).filter (fun q => !(q.1 == i) && !(q.1 + 1 == i && q.2.category == 2)))) : mx_L ρ ls' (mx_s1 L i v) := by
  unfold mx_L
  rw [mx_s1_len]
  refine ⟨h.1, h.2.1, fun q hq => h.2.2 q ?_⟩
  obtain ⟨w, hw, e⟩ := mx_prs_mem.mp hq
  obtain ⟨j, z⟩ := q
  simp only at hw e
  subst e
  rcases mx_s1_get hw with ⟨h1, h2⟩ | ⟨h1, h2, h3⟩
  · subst h1; subst h2
    exact List.mem_cons_self
  · refine List.mem_cons_of_mem _ (List.mem_filter.mpr ⟨mx_prs_mem.mpr ⟨w, h2, rfl⟩, ?_⟩)
    simp only [Bool.and_eq_true, Bool.not_eq_true', beq_eq_false_iff_ne, ne_eq, Bool.and_eq_false_iff, mx_rv_cat]
    refine ⟨h1, ?_⟩
    by_cases e1 : j + 1 = i
    · exact Or.inr fun e2 => h3 ⟨e1, e2⟩
    · exact Or.inl e1
theorem mx_L.s2 {ρ : Nat → Nat} {ls' : Array Slot} {L : mx_Lo} {i : Nat} {v : Value} (h : lv_has ls' L.length ((i, mx_rv ρ v) :: (mx_prs ρ L).filter (fun q => !(q.1 == i) && (!(q.1 == i + 1) && !(q.1 + 1 == i && q.2.category == 2))))) : mx_L ρ ls' (mx_s2 L i v) := by
  unfold mx_L
  rw [mx_s2_len]
  refine ⟨h.1, h.2.1, fun q hq => h.2.2 q ?_⟩
  obtain ⟨w, hw, e⟩ := mx_prs_mem.mp hq
  obtain ⟨j, z⟩ := q
  simp only at hw e
  subst e
  rcases mx_s2_get hw with ⟨h1, h2⟩ | ⟨h1, h1', h2, h3⟩
  · subst h1; subst h2
    exact List.mem_cons_self
  · refine List.mem_cons_of_mem _ (List.mem_filter.mpr ⟨mx_prs_mem.mpr ⟨w, h2, rfl⟩, ?_⟩)
    simp only [Bool.and_eq_true, Bool.not_eq_true', beq_eq_false_iff_ne, ne_eq, Bool.and_eq_false_iff, mx_rv_cat]
    refine ⟨h1, h1', ?_⟩
    by_cases e1 : j + 1 = i
    · exact Or.inr fun e2 => h3 ⟨e1, e2⟩
    · exact Or.inl e1
-- what a method finds in its locals
def mx_sl : List Value → mx_Lo
  | [] => []
  | v :: r => if v.category = 2 then some v :: none :: mx_sl r else some v :: mx_sl r
def mx_ent (as : List Value) (n : Nat) : mx_Lo := mx_sl as ++ List.replicate (n - (mx_sl as).length) none
theorem mx_sl_len (ρ : Nat → Nat) (as : List Value) : (lg_sl (as.map (mx_rv ρ))).length = (mx_sl as).length := by
  induction as with
  | nil => rfl
  | cons v r ih =>
    unfold lg_sl at ih
    simp only [List.map_cons, lg_sl, List.flatMap_cons, mx_rv_cat, mx_sl]
    split <;> simp [ih]
theorem mx_sl_args (ρ : Nat → Nat) : ∀ (as : List Value) (b j : Nat) (v : Value), (mx_sl as)[j]? = some (some v) → (b + j, mx_rv ρ v) ∈ lv_args b (as.map (mx_rv ρ)) := by
  intro as
  induction as with
  | nil => intro b j v h; simp [mx_sl] at h
  | cons w r ih =>
    intro b j v h
    simp only [List.map_cons, lv_args, mx_rv_cat]
    unfold mx_sl at h
    by_cases c : w.category = 2
    · rw [if_pos c] at h ⊢
      match j, h with
      | 0, h =>
        simp only [List.getElem?_cons_zero, Option.some.injEq] at h
        subst h
        exact List.mem_cons_self
      | 1, h => simp at h
      | j + 2, h =>
        simp only [List.getElem?_cons_succ] at h
        have := ih (b + 2) j v h
        rw [show b + 2 + j = b + (j + 2) by omega] at this
        exact List.mem_cons_of_mem _ this
    · rw [if_neg c] at h ⊢
      match j, h with
      | 0, h =>
        simp only [List.getElem?_cons_zero, Option.some.injEq] at h
        subst h
        exact List.mem_cons_self
      | j + 1, h =>
        simp only [List.getElem?_cons_succ] at h
        have := ih (b + 1) j v h
        rw [show b + 1 + j = b + (j + 1) by omega] at this
        exact List.mem_cons_of_mem _ this
theorem mx_ent_len {as : List Value} {n : Nat} (h : (mx_sl as).length ≤ n) : (mx_ent as n).length = n := by
  unfold mx_ent
  simp
  omega
theorem mx_ent_L (ρ : Nat → Nat) {as : List Value} {n : Nat} (h : (mx_sl as).length ≤ n) : mx_L ρ ((lg_sl (as.map (mx_rv ρ)) ++ List.replicate (n - (lg_sl (as.map (mx_rv ρ))).length) Slot.unset).toArray) (mx_ent as n) := by
  have e := lv_entry (as.map (mx_rv ρ)) (n := n) (by rw [mx_sl_len]; exact h)
  unfold mx_L
  rw [mx_ent_len h]
  refine ⟨e.1, e.2.1, fun q hq => e.2.2 q ?_⟩
  obtain ⟨v, hv, e2⟩ := mx_prs_mem.mp hq
  obtain ⟨j, z⟩ := q
  simp only at hv e2
  subst e2
  unfold mx_ent at hv
  have hj : j < (mx_sl as).length := by
    rcases Nat.lt_or_ge j (mx_sl as).length with q | q
    · exact q
    · rw [List.getElem?_append_right q] at hv
      have := List.mem_of_getElem? hv
      have := (List.mem_replicate.mp this).2
      cases this
  rw [List.getElem?_append_left hj] at hv
  have := mx_sl_args ρ as 0 j v hv
  rwa [Nat.zero_add] at this
