/-! ===== a search through all choices, as both programs do it ===== -/
section SEEK
variable {R : Type}
def lpF (f : Nat → R → R) : Nat → Nat → R → R
  | 0, _, b => b
  | k + 1, i, b => lpF f k (i + 1) (f i b)
theorem lpF_id {f : Nat → R → R} {b : R} : ∀ k i, (∀ j, i ≤ j → j < i + k → f j b = b) → lpF f k i b = b := by
  intro k
  induction k with
  | zero => intro i _; rfl
  | succ k ih =>
    intro i h
    show lpF f k (i + 1) (f i b) = b
    rw [h i (Nat.le_refl i) (by omega)]
    exact ih (i + 1) fun j h1 h2 => h j (by omega) (by omega)
theorem lpF_eq {f g : Nat → R → R} : ∀ k i b, (∀ j x, i ≤ j → j < i + k → f j x = g j x) → lpF f k i b = lpF g k i b := by
  intro k
  induction k with
  | zero => intro i b _; rfl
  | succ k ih =>
    intro i b h
    show lpF f k (i + 1) (f i b) = lpF g k (i + 1) (g i b)
    rw [h i b (Nat.le_refl i) (by omega)]
    exact ih (i + 1) _ fun j x h1 h2 => h j x (by omega) (by omega)
def upc (c : Nat → Nat) (d i : Nat) : Nat → Nat := fun e => if e = d then i else c e
theorem upc_s (c : Nat → Nat) (d i : Nat) : upc c d i d = i := if_pos rfl
theorem upc_n (c : Nat → Nat) {d e : Nat} (i : Nat) (h : e ≠ d) : upc c d i e = c e := if_neg h
theorem upc_u (c : Nat → Nat) (d i j : Nat) : upc (upc c d i) d j = upc c d j := by
  funext e
  unfold upc
  split <;> rfl
def exS (mem : Nat → Bool) (ch : Nat → Nat) (leaf : (Nat → Nat) → R → R) : Nat → Nat → (Nat → Nat) → R → R
  | 0, _, c, b => leaf c b
  | r + 1, d, c, b => if mem d then lpF (fun i x => exS mem ch leaf r (d + 1) (upc c d i) x) (ch d) 0 b else exS mem ch leaf r (d + 1) c b
variable {mem : Nat → Bool} {ch : Nat → Nat} {leaf : (Nat → Nat) → R → R}
theorem exS_m {r d : Nat} {c : Nat → Nat} {b : R} (h : mem d = true) : exS mem ch leaf (r + 1) d c b = lpF (fun i x => exS mem ch leaf r (d + 1) (upc c d i) x) (ch d) 0 b := if_pos h
theorem exS_n {r d : Nat} {c : Nat → Nat} {b : R} (h : mem d = false) : exS mem ch leaf (r + 1) d c b = exS mem ch leaf r (d + 1) c b := if_neg (by rw [h]; exact Bool.false_ne_true)
theorem exS_id {b : R} : ∀ r d c, (∀ c' : Nat → Nat, (∀ e, e < d → c' e = c e) → (∀ e, d ≤ e → e < d + r → mem e = true → c' e < ch e) → leaf c' b = b) → exS mem ch leaf r d c b = b := by
  intro r
  induction r with
  | zero => intro d c h; exact h c (fun _ _ => rfl) (fun e h1 h2 => by omega)
  | succ r ih =>
    intro d c h
    cases hm : mem d with
    | true =>
      rw [exS_m hm]
      refine lpF_id _ _ fun j _ hj => ih (d + 1) _ fun c' h1 h2 => h c' (fun e he => ?_) (fun e h3 h4 h5 => ?_)
      · rw [h1 e (by omega), upc_n c j (by omega)]
      · by_cases e1 : e = d
        · subst e1
          rw [h1 e (by omega), upc_s]; omega
        · exact h2 e (by omega) (by omega) h5
    | false =>
      rw [exS_n hm]
      refine ih (d + 1) c fun c' h1 h2 => h c' (fun e he => h1 e (by omega)) (fun e h3 h4 h5 => ?_)
      by_cases e1 : e = d
      · subst e1; rw [hm] at h5; exact absurd h5 (by decide)
      · exact h2 e (by omega) (by omega) h5
-- dishes that aren't of the set are passed over
theorem exS_sk {c : Nat → Nat} {b : R} : ∀ k r d, (∀ e, d ≤ e → e < d + k → mem e = false) → exS mem ch leaf (k + r) d c b = exS mem ch leaf r (d + k) c b := by
  intro k
  induction k with
  | zero => intro r d _; rw [Nat.zero_add, Nat.add_zero]
  | succ k ih =>
    intro r d h
    rw [show k + 1 + r = (k + r) + 1 by omega, exS_n (h d (Nat.le_refl d) (by omega)), ih r (d + 1) fun e h1 h2 => h e (by omega) (by omega)]
    rw [show d + 1 + k = d + (k + 1) by omega]
-- what is left to do at a dish from a choice on, and behind that at the dishes ahead of it
def pend (mem : Nat → Bool) (ch : Nat → Nat) (leaf : (Nat → Nat) → R → R) (n d i : Nat) (c : Nat → Nat) (b : R) : R := lpF (fun i x => exS mem ch leaf (n - d - 1) (d + 1) (upc c d i) x) (ch d - i) i b
def unw (mem : Nat → Bool) (ch : Nat → Nat) (leaf : (Nat → Nat) → R → R) (n : Nat) : Nat → (Nat → Nat) → R → R
  | 0, _, b => b
  | d + 1, c, b => if mem d then unw mem ch leaf n d c (pend mem ch leaf n d (c d + 1) c b) else unw mem ch leaf n d c b
variable {n : Nat}
theorem pend_z {d i : Nat} {c : Nat → Nat} {b : R} (h : ch d ≤ i) : pend mem ch leaf n d i c b = b := by
  unfold pend
  rw [show ch d - i = 0 by omega]
  rfl
theorem pend_s {d i : Nat} {c : Nat → Nat} {b : R} (h : i < ch d) : pend mem ch leaf n d i c b = pend mem ch leaf n d (i + 1) c (exS mem ch leaf (n - d - 1) (d + 1) (upc c d i) b) := by
  unfold pend
  rw [show ch d - i = (ch d - (i + 1)) + 1 by omega]
  rfl
theorem pend_0 {d : Nat} {c : Nat → Nat} {b : R} (hd : d < n) (h : mem d = true) : exS mem ch leaf (n - d) d c b = pend mem ch leaf n d 0 c b := by
  rw [show n - d = (n - d - 1) + 1 by omega, exS_m h]
  rfl
theorem pend_u {d i j : Nat} {c : Nat → Nat} {b : R} : pend mem ch leaf n d i (upc c d j) b = pend mem ch leaf n d i c b := by
  unfold pend
  exact lpF_eq _ _ _ fun k x _ _ => by rw [upc_u]
theorem exS_ov : ∀ r d (c c2 : Nat → Nat) (b : R), (∀ e, (e < d ∨ mem e = false ∨ d + r ≤ e) → c e = c2 e) → exS mem ch leaf r d c b = exS mem ch leaf r d c2 b := by
  intro r
  induction r with
  | zero =>
    intro d c c2 b h
    rw [show c = c2 from funext fun e => h e (by omega)]
  | succ r ih =>
    intro d c c2 b h
    cases hm : mem d with
    | true =>
      rw [exS_m hm, exS_m hm]
      refine lpF_eq _ _ _ fun j x _ _ => ih (d + 1) _ _ x fun e he => ?_
      by_cases e1 : e = d
      · subst e1; rw [upc_s, upc_s]
      · rw [upc_n c j e1, upc_n c2 j e1]
        refine h e ?_
        rcases he with he | he | he
        · exact Or.inl (by omega)
        · exact Or.inr (Or.inl he)
        · exact Or.inr (Or.inr (by omega))
    | false =>
      rw [exS_n hm, exS_n hm]
      refine ih (d + 1) _ _ b fun e he => ?_
      by_cases e1 : e = d
      · subst e1; exact h e (Or.inr (Or.inl hm))
      · refine h e ?_
        rcases he with he | he | he
        · exact Or.inl (by omega)
        · exact Or.inr (Or.inl he)
        · exact Or.inr (Or.inr (by omega))
theorem pend_ov {e i k j : Nat} {c : Nat → Nat} {x : R} (h : e < k) (hk : k < n) (hm : mem k = true) : pend mem ch leaf n e i (upc c k j) x = pend mem ch leaf n e i c x := by
  unfold pend
  refine lpF_eq _ _ _ fun i2 y _ _ => exS_ov _ _ _ _ _ fun z hz => ?_
  have h1 : z ≠ k := by
    rintro rfl
    rcases hz with hz | hz | hz
    · omega
    · rw [hm] at hz; cases hz
    · omega
  by_cases e1 : z = e
  · subst e1; rw [upc_s, upc_s]
  · rw [upc_n _ _ e1, upc_n _ _ e1, upc_n _ _ h1]
theorem unw_u {k j : Nat} (hk : k < n) (hm : mem k = true) : ∀ d (c : Nat → Nat) (b : R), d ≤ k → unw mem ch leaf n d (upc c k j) b = unw mem ch leaf n d c b := by
  intro d
  induction d with
  | zero => intro c b _; rfl
  | succ d ih =>
    intro c b h
    unfold unw
    rw [upc_n c j (show d ≠ k by omega), pend_ov (by omega) hk hm]
    split
    · exact ih c _ (by omega)
    · exact ih c _ (by omega)
theorem unw_m {d : Nat} {c : Nat → Nat} {b : R} (h : mem d = true) : unw mem ch leaf n (d + 1) c b = unw mem ch leaf n d c (pend mem ch leaf n d (c d + 1) c b) := if_pos h
theorem unw_sk {c : Nat → Nat} {b : R} : ∀ k d, (∀ e, d ≤ e → e < d + k → mem e = false) → unw mem ch leaf n (d + k) c b = unw mem ch leaf n d c b := by
  intro k
  induction k with
  | zero => intro d _; rfl
  | succ k ih =>
    intro d h
    have h1 : unw mem ch leaf n (d + (k + 1)) c b = unw mem ch leaf n (d + k) c b := if_neg (by have h2 : mem (d + k) = false := h (d + k) (by omega) (by omega); show ¬ mem (d + k) = true; rw [h2]; exact Bool.false_ne_true)
    rw [h1]
    exact ih d fun e h1 h2 => h e h1 (by omega)
end SEEK
-- the first of the least, or any
noncomputable def lfP (PL : (Nat → Nat) → Prop) (cost : (Nat → Nat) → Int) (any : Bool) (c : Nat → Nat) (b : Option (Nat → Nat)) : Option (Nat → Nat) :=
  @ite _ (PL c ∧ ∀ c0, b = some c0 → any = false ∧ cost c < cost c0) (Classical.propDecidable _) (some c) b
section LEAF
variable {PL : (Nat → Nat) → Prop} {cost : (Nat → Nat) → Int} {any : Bool} {mem : Nat → Bool} {ch : Nat → Nat}
theorem lfP_y {c : Nat → Nat} {b : Option (Nat → Nat)} (h : PL c) (h2 : ∀ c0, b = some c0 → any = false ∧ cost c < cost c0) : lfP PL cost any c b = some c := by
  unfold lfP
  exact if_pos ⟨h, h2⟩
theorem lfP_n {c : Nat → Nat} {b : Option (Nat → Nat)} (h : PL c → ∃ c0, b = some c0 ∧ (any = false → cost c0 ≤ cost c)) : lfP PL cost any c b = b := by
  unfold lfP
  refine if_neg fun q => ?_
  obtain ⟨c0, e, h2⟩ := h q.1
  have h3 := q.2 c0 e
  have h4 := h2 h3.1
  omega
theorem lfP_ne {c : Nat → Nat} {b : Option (Nat → Nat)} (h : b ≠ none) : lfP PL cost any c b ≠ none := by
  by_cases q : PL c ∧ ∀ c0, b = some c0 → any = false ∧ cost c < cost c0
  · rw [lfP_y q.1 q.2]; exact fun z => by cases z
  · unfold lfP; rw [if_neg q]; exact h
theorem lfP_cs (c : Nat → Nat) (b : Option (Nat → Nat)) : (lfP PL cost any c b = some c ∧ PL c) ∨ lfP PL cost any c b = b := by
  by_cases q : PL c ∧ ∀ c0, b = some c0 → any = false ∧ cost c < cost c0
  · exact Or.inl ⟨lfP_y q.1 q.2, q.1⟩
  · exact Or.inr (by unfold lfP; rw [if_neg q])
-- what is found is a plan
theorem exS_res : ∀ r d c b c', exS mem ch (lfP PL cost any) r d c b = some c' → b = some c' ∨ (PL c' ∧ (∀ e, e < d → c' e = c e) ∧ (∀ e, d ≤ e → e < d + r → mem e = true → c' e < ch e)) := by
  intro r
  induction r with
  | zero =>
    intro d c b c' h
    rcases lfP_cs (PL := PL) (cost := cost) (any := any) c b with ⟨h1, h2⟩ | h1
    · have h3 : some c = some c' := h1.symm.trans h
      cases h3
      exact Or.inr ⟨h2, fun _ _ => rfl, fun e h4 h5 => by omega⟩
    · exact Or.inl (h1.symm.trans h)
  | succ r ih =>
    intro d c b c' h
    cases hm : mem d with
    | true =>
      rw [exS_m hm] at h
      have lp : ∀ k i b, i + k ≤ ch d → lpF (fun i x => exS mem ch (lfP PL cost any) r (d + 1) (upc c d i) x) k i b = some c' → b = some c' ∨ (PL c' ∧ (∀ e, e < d → c' e = c e) ∧ (∀ e, d ≤ e → e < d + (r + 1) → mem e = true → c' e < ch e)) := by
        intro k
        induction k with
        | zero => intro i b _ h; exact Or.inl h
        | succ k ihk =>
          intro i b hi h
          rcases ihk (i + 1) _ (by omega) h with h1 | h1
          · rcases ih (d + 1) _ _ _ h1 with h2 | ⟨h2, h3, h4⟩
            · exact Or.inl h2
            · refine Or.inr ⟨h2, fun e he => ?_, fun e h5 h6 h7 => ?_⟩
              · rw [h3 e (by omega), upc_n c i (by omega)]
              · by_cases e1 : e = d
                · subst e1
                  rw [h3 e (by omega), upc_s]; omega
                · exact h4 e (by omega) (by omega) h7
          · exact Or.inr h1
      exact lp (ch d) 0 b (by omega) h
    | false =>
      rw [exS_n hm] at h
      rcases ih (d + 1) _ _ _ h with h2 | ⟨h2, h3, h4⟩
      · exact Or.inl h2
      · refine Or.inr ⟨h2, fun e he => h3 e (by omega), fun e h5 h6 h7 => ?_⟩
        by_cases e1 : e = d
        · subst e1; rw [hm] at h7; exact absurd h7 (by decide)
        · exact h4 e (by omega) (by omega) h7
theorem exS_ne : ∀ r d c b, b ≠ none → exS mem ch (lfP PL cost any) r d c b ≠ none := by
  intro r
  induction r with
  | zero => intro d c b h; exact lfP_ne h
  | succ r ih =>
    intro d c b h
    cases hm : mem d with
    | true =>
      rw [exS_m hm]
      have lp : ∀ k i b, b ≠ none → lpF (fun i x => exS mem ch (lfP PL cost any) r (d + 1) (upc c d i) x) k i b ≠ none := by
        intro k
        induction k with
        | zero => intro i b h; exact h
        | succ k ihk => intro i b h; exact ihk (i + 1) _ (ih (d + 1) _ _ h)
      exact lp _ _ _ h
    | false =>
      rw [exS_n hm]
      exact ih _ _ _ h
-- where there is a plan one is found
theorem exS_has : ∀ (r d : Nat) (c : Nat → Nat) (b : Option (Nat → Nat)) (c' : Nat → Nat), (∀ c2 : Nat → Nat, (∀ e, e < d + r → (e < d → c2 e = c e) ∧ (d ≤ e → mem e = true → c2 e = c' e)) → PL c2) → (∀ e, d ≤ e → e < d + r → mem e = true → c' e < ch e) → exS mem ch (lfP PL cost any) r d c b ≠ none := by
  intro r
  induction r with
  | zero =>
    intro d c b c' h _
    have h1 : PL c := h c fun e he => ⟨fun _ => rfl, fun h2 => by omega⟩
    show lfP PL cost any c b ≠ none
    by_cases q : ∀ c0, b = some c0 → any = false ∧ cost c < cost c0
    · rw [lfP_y h1 q]; exact fun z => by cases z
    · refine lfP_ne fun z => q fun c0 e => ?_
      rw [z] at e; cases e
  | succ r ih =>
    intro d c b c' h hv
    cases hm : mem d with
    | true =>
      rw [exS_m hm]
      have lp : ∀ k i b, i + k = ch d → (c' d < i → b ≠ none) → lpF (fun i x => exS mem ch (lfP PL cost any) r (d + 1) (upc c d i) x) k i b ≠ none := by
        intro k
        induction k with
        | zero => intro i b hi hb; exact hb (by have := hv d (Nat.le_refl d) (by omega) hm; omega)
        | succ k ihk =>
          intro i b hi hb
          refine ihk (i + 1) _ (by omega) fun hlt => ?_
          by_cases e1 : c' d = i
          · refine ih (d + 1) _ _ c' (fun c2 h2 => h c2 fun e he => ⟨fun h3 => ?_, fun h3 h4 => ?_⟩) (fun e h3 h4 h5 => hv e (by omega) (by omega) h5)
            · rw [(h2 e (by omega)).1 (by omega), upc_n c i (by omega)]
            · by_cases e2 : e = d
              · subst e2; rw [(h2 e (by omega)).1 (by omega), upc_s, e1]
              · exact (h2 e (by omega)).2 (by omega) h4
          · exact exS_ne _ _ _ _ (hb (by omega))
      exact lp (ch d) 0 b (by omega) (by omega)
    | false =>
      rw [exS_n hm]
      refine ih (d + 1) _ _ c' (fun c2 h2 => h c2 fun e he => ⟨fun h3 => (h2 e (by omega)).1 (by omega), fun h3 h4 => ?_⟩) (fun e h3 h4 h5 => hv e (by omega) (by omega) h5)
      by_cases e2 : e = d
      · subst e2; rw [hm] at h4; exact absurd h4 (by decide)
      · exact (h2 e (by omega)).2 (by omega) h4
end LEAF
