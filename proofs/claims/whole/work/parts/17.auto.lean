/-! ===== what the decompiler needs ===== -/
theorem nar_b {x : Int32} (h : x = 0 ∨ x = 1) : narrow .boolean (.int x) = .int x := by rcases h with rfl | rfl <;> rfl
theorem fit_b {x : Int32} (h : x = 0 ∨ x = 1) : fits .boolean (.int x) = true := by rcases h with rfl | rfl <;> rfl
def cpok (sp dp c : Int32) (nb na : Nat) : Prop := ¬ sp < 0 ∧ ¬ dp < 0 ∧ ¬ c < 0 ∧ sp.toNatClampNeg + c.toNatClampNeg ≤ nb ∧ dp.toNatClampNeg + c.toNatClampNeg ≤ na
def jn {α : Type} {β : Sort _} (t : α → β) (k : α) : β := t k
theorem in_c {i : Int32} {n : Nat} (h : ¬ (i < 0 ∨ n ≤ i.toNatClampNeg)) : vp_in i n := h
section RE
def rI (r : Int32 × St) : Option Value × St := (some (.int r.1), r.2)
def rIp (T : St) (r : Int32) : Option Value × St := (some (.int r), T)
def rJ (r : Int64 × St) : Option Value × St := (some (.long r.1), r.2)
def rJp (T : St) (r : Int64) : Option Value × St := (some (.long r), T)
def rV (r : St) : Option Value × St := (none, r)
def rVp (T : St) (r : Unit) : Option Value × St := (none, T)
variable {X : Nat × (Nat → Int32)} {d pc : Nat} {M : mx_M} {L : mx_Lo} {S : List Value} {T : St} {ρ : Type}
theorem tC_orI (r : Int32 × St) {as : List Value} (hL : mx_ent as M.2.2.1 = L) (h : tR X d M 0 L [] T (rI r).1 (rI r).2) : tC X (d + 1) M as T (some (.int r.1)) (r.2) := by subst hL; exact h
theorem tC_orIp (r : Int32) {as : List Value} (hL : mx_ent as M.2.2.1 = L) (h : tR X d M 0 L [] T (rIp T r).1 (rIp T r).2) : tC X (d + 1) M as T (some (.int r)) (T) := by subst hL; exact h
theorem tC_orJ (r : Int64 × St) {as : List Value} (hL : mx_ent as M.2.2.1 = L) (h : tR X d M 0 L [] T (rJ r).1 (rJ r).2) : tC X (d + 1) M as T (some (.long r.1)) (r.2) := by subst hL; exact h
theorem tC_orJp (r : Int64) {as : List Value} (hL : mx_ent as M.2.2.1 = L) (h : tR X d M 0 L [] T (rJp T r).1 (rJp T r).2) : tC X (d + 1) M as T (some (.long r)) (T) := by subst hL; exact h
theorem tC_orV (r : St) {as : List Value} (hL : mx_ent as M.2.2.1 = L) (h : tR X d M 0 L [] T (rV r).1 (rV r).2) : tC X (d + 1) M as T (none) (r) := by subst hL; exact h
theorem tC_orVp (r : Unit) {as : List Value} (hL : mx_ent as M.2.2.1 = L) (h : tR X d M 0 L [] T (rVp T r).1 (rVp T r).2) : tC X (d + 1) M as T none T := by subst hL; exact h
theorem r_ip (R : ρ → Option Value × St) {c : Prop} [Decidable c] {a b : ρ} (h : c) (k : tR X d M pc L S T (R a).1 (R a).2) : tR X d M pc L S T (R (if c then a else b)).1 (R (if c then a else b)).2 := by rw [if_pos h]; exact k
theorem r_in (R : ρ → Option Value × St) {c : Prop} [Decidable c] {a b : ρ} (h : ¬ c) (k : tR X d M pc L S T (R b).1 (R b).2) : tR X d M pc L S T (R (if c then a else b)).1 (R (if c then a else b)).2 := by rw [if_neg h]; exact k
theorem r_nI (R : ρ → Option Value × St) {x x' : Int32} {f : Int32 → ρ} {g : Int32 → Prop} (e : x' = x) (kk : jn g x) (k : ∀ y, g y → tR X d M pc L (.int y :: S) T (R (f y)).1 (R (f y)).2) : tR X d M pc L (.int x' :: S) T (R (jn f x)).1 (R (jn f x)).2 := by subst e; exact k _ kk
theorem r_nI0 (R : ρ → Option Value × St) {x x' : Int32} {f : Int32 → ρ} (e : x' = x) (k : ∀ y, tR X d M pc L (.int y :: S) T (R (f y)).1 (R (f y)).2) : tR X d M pc L (.int x' :: S) T (R (jn f x)).1 (R (jn f x)).2 := by subst e; exact k x'
theorem r_nJ (R : ρ → Option Value × St) {x x' : Int64} {f : Int64 → ρ} {g : Int64 → Prop} (e : x' = x) (kk : jn g x) (k : ∀ y, g y → tR X d M pc L (.long y :: S) T (R (f y)).1 (R (f y)).2) : tR X d M pc L (.long x' :: S) T (R (jn f x)).1 (R (jn f x)).2 := by subst e; exact k _ kk
theorem r_nJ0 (R : ρ → Option Value × St) {x x' : Int64} {f : Int64 → ρ} (e : x' = x) (k : ∀ y, tR X d M pc L (.long y :: S) T (R (f y)).1 (R (f y)).2) : tR X d M pc L (.long x' :: S) T (R (jn f x)).1 (R (jn f x)).2 := by subst e; exact k x'
theorem r_nR (R : ρ → Option Value × St) {x x' : Nat} {f : Nat → ρ} {g : Nat → Prop} (e : x' = x) (kk : jn g x) (k : ∀ y, g y → tR X d M pc L (.ref y :: S) T (R (f y)).1 (R (f y)).2) : tR X d M pc L (.ref x' :: S) T (R (jn f x)).1 (R (jn f x)).2 := by subst e; exact k _ kk
theorem r_nR0 (R : ρ → Option Value × St) {x x' : Nat} {f : Nat → ρ} (e : x' = x) (k : ∀ y, tR X d M pc L (.ref y :: S) T (R (f y)).1 (R (f y)).2) : tR X d M pc L (.ref x' :: S) T (R (jn f x)).1 (R (jn f x)).2 := by subst e; exact k x'
theorem r_nT (R : ρ → Option Value × St) {x x' : St} {f : St → ρ} {g : St → Prop} (e : x' = x) (kk : jn g x) (k : ∀ y, g y → tR X d M pc L S y (R (f y)).1 (R (f y)).2) : tR X d M pc L S x' (R (jn f x)).1 (R (jn f x)).2 := by subst e; exact k _ kk
theorem r_nT0 (R : ρ → Option Value × St) {x x' : St} {f : St → ρ} (e : x' = x) (k : ∀ y, tR X d M pc L S y (R (f y)).1 (R (f y)).2) : tR X d M pc L S x' (R (jn f x)).1 (R (jn f x)).2 := by subst e; exact k x'
theorem r_qI {x x' : Int32} {T' : St} {ty : FieldType} (hd : decode M.2.1 pc = .ok (.ireturn, 1)) (ht : M.2.2.2 = some ty) (hn : narrow ty (.int x') = .int x') (e1 : x' = x) (e2 : T' = T) : tR X d M pc L [.int x'] T' (rI (x, T)).1 (rI (x, T)).2 := by subst e1; subst e2; exact r_ri hd ht hn rfl rfl
theorem r_qIp {x x' : Int32} {ty : FieldType} (hd : decode M.2.1 pc = .ok (.ireturn, 1)) (ht : M.2.2.2 = some ty) (hn : narrow ty (.int x') = .int x') (e1 : x' = x) : tR X d M pc L [.int x'] T (rIp T x).1 (rIp T x).2 := by subst e1; exact r_ri hd ht hn rfl rfl
theorem r_qJ {x x' : Int64} {T' : St} (hd : decode M.2.1 pc = .ok (.lreturn, 1)) (ht : M.2.2.2 = some .long) (e1 : x' = x) (e2 : T' = T) : tR X d M pc L [.long x'] T' (rJ (x, T)).1 (rJ (x, T)).2 := by subst e1; subst e2; exact r_rl hd ht rfl rfl
theorem r_qJp {x x' : Int64} (hd : decode M.2.1 pc = .ok (.lreturn, 1)) (ht : M.2.2.2 = some .long) (e1 : x' = x) : tR X d M pc L [.long x'] T (rJp T x).1 (rJp T x).2 := by subst e1; exact r_rl hd ht rfl rfl
theorem r_qV {T' : St} (hd : decode M.2.1 pc = .ok (.return_, 1)) (ht : M.2.2.2 = none) (e2 : T' = T) : tR X d M pc L [] T' (rV T).1 (rV T).2 := by subst e2; exact r_rv hd ht rfl rfl
theorem r_qVp (hd : decode M.2.1 pc = .ok (.return_, 1)) (ht : M.2.2.2 = none) : tR X d M pc L [] T (rVp T ()).1 (rVp T ()).2 := r_rv hd ht rfl rfl
theorem r_jn (R : ρ → Option Value × St) {κ ο : Type} {f : κ → ρ} {g : ο → Prop} {K0 : κ} {O0 : ο} {J : κ → ο → Prop} (kk : jn g O0) (hJ : J K0 O0) (k : ∀ K O, J K O → g O → tR X d M pc L S T (R (f K)).1 (R (f K)).2) : tR X d M pc L S T (R (jn f K0)).1 (R (jn f K0)).2 := k K0 O0 hJ kk
theorem r_jn0 (R : ρ → Option Value × St) {κ : Type} {f : κ → ρ} {K0 : κ} {J : κ → Prop} (hJ : J K0) (k : ∀ K, J K → tR X d M pc L S T (R (f K)).1 (R (f K)).2) : tR X d M pc L S T (R (jn f K0)).1 (R (jn f K0)).2 := k K0 hJ
end RE
theorem rf4 {i : Int32} (h : vp_in i 8) : rfa 4 i.toNatClampNeg = some (5 + i.toNatClampNeg) := by simp [rfa, in_lt h]
theorem rf15 {i : Int32} (h : vp_in i 2) : rfa 15 i.toNatClampNeg = some (16 + 15 * i.toNatClampNeg) := by simp [rfa, in_lt h]
theorem rf81 {i : Int32} (h : vp_in i 96) : rfa 81 i.toNatClampNeg = some (123 + 4 * i.toNatClampNeg) := by simp [rfa, in_lt h]
theorem rf84 {i : Int32} (h : vp_in i 8) : rfa 84 i.toNatClampNeg = some (85 + i.toNatClampNeg) := by simp [rfa, in_lt h]
theorem rf93 {i : Int32} (h : vp_in i 4) : rfa 93 i.toNatClampNeg = some (507 + 5 * i.toNatClampNeg) := by simp [rfa, in_lt h]
theorem rf99 {i : Int32} (h : vp_in i 5) : rfa 99 i.toNatClampNeg = some (100 + i.toNatClampNeg) := by simp [rfa, in_lt h]
theorem rf532 {i : Int32} (h : vp_in i 4) : rfa 532 i.toNatClampNeg = some (539 + 4 * i.toNatClampNeg) := by simp [rfa, in_lt h]
theorem shi1 {a : Nat} (h : sh a = .inr 1) : a < 602 := by
  by_cases l : a < 602
  · exact l
  · unfold sh at h
    rw [if_neg (by omega), if_neg (by omega), List.getD_eq_getElem?_getD, List.getElem?_eq_none (by show 95 ≤ a - 507; omega)] at h
    exact absurd h (by decide)
theorem shl1_1 {a : Nat} (h : sh a = .inr 1) : sh (a + 1) = .inl (0, 7) := (by decide +kernel : ∀ a, a < 602 → sh a = .inr 1 → sh (a + 1) = .inl (0, 7)) a (shi1 h) h
theorem shl1_2 {a : Nat} (h : sh a = .inr 1) : sh (a + 2) = .inl (0, 4) := (by decide +kernel : ∀ a, a < 602 → sh a = .inr 1 → sh (a + 2) = .inl (0, 4)) a (shi1 h) h
theorem shl1_3 {a : Nat} (h : sh a = .inr 1) : sh (a + 3) = .inl (0, 4) := (by decide +kernel : ∀ a, a < 602 → sh a = .inr 1 → sh (a + 3) = .inl (0, 4)) a (shi1 h) h
theorem shl1_4 {a : Nat} (h : sh a = .inr 1) : sh (a + 4) = .inl (0, 8) := (by decide +kernel : ∀ a, a < 602 → sh a = .inr 1 → sh (a + 4) = .inl (0, 8)) a (shi1 h) h
theorem shl1_5 {a : Nat} (h : sh a = .inr 1) : sh (a + 5) = .inl (0, 8) := (by decide +kernel : ∀ a, a < 602 → sh a = .inr 1 → sh (a + 5) = .inl (0, 8)) a (shi1 h) h
theorem shl1_6 {a : Nat} (h : sh a = .inr 1) : sh (a + 6) = .inl (0, 8) := (by decide +kernel : ∀ a, a < 602 → sh a = .inr 1 → sh (a + 6) = .inl (0, 8)) a (shi1 h) h
theorem shl1_7 {a : Nat} (h : sh a = .inr 1) : sh (a + 7) = .inl (0, 8) := (by decide +kernel : ∀ a, a < 602 → sh a = .inr 1 → sh (a + 7) = .inl (0, 8)) a (shi1 h) h
theorem shl1_8 {a : Nat} (h : sh a = .inr 1) : sh (a + 8) = .inl (0, 8) := (by decide +kernel : ∀ a, a < 602 → sh a = .inr 1 → sh (a + 8) = .inl (0, 8)) a (shi1 h) h
theorem shl1_9 {a : Nat} (h : sh a = .inr 1) : sh (a + 9) = .inl (0, 24) := (by decide +kernel : ∀ a, a < 602 → sh a = .inr 1 → sh (a + 9) = .inl (0, 24)) a (shi1 h) h
theorem shl1_10 {a : Nat} (h : sh a = .inr 1) : sh (a + 10) = .inl (0, 24) := (by decide +kernel : ∀ a, a < 602 → sh a = .inr 1 → sh (a + 10) = .inl (0, 24)) a (shi1 h) h
theorem shl1_11 {a : Nat} (h : sh a = .inr 1) : sh (a + 11) = .inl (0, 24) := (by decide +kernel : ∀ a, a < 602 → sh a = .inr 1 → sh (a + 11) = .inl (0, 24)) a (shi1 h) h
theorem shl1_12 {a : Nat} (h : sh a = .inr 1) : sh (a + 12) = .inl (0, 24) := (by decide +kernel : ∀ a, a < 602 → sh a = .inr 1 → sh (a + 12) = .inl (0, 24)) a (shi1 h) h
theorem shl1_13 {a : Nat} (h : sh a = .inr 1) : sh (a + 13) = .inl (0, 24) := (by decide +kernel : ∀ a, a < 602 → sh a = .inr 1 → sh (a + 13) = .inl (0, 24)) a (shi1 h) h
theorem shl1_14 {a : Nat} (h : sh a = .inr 1) : sh (a + 14) = .inl (0, 24) := (by decide +kernel : ∀ a, a < 602 → sh a = .inr 1 → sh (a + 14) = .inl (0, 24)) a (shi1 h) h
theorem shi3 {a : Nat} (h : sh a = .inr 3) : a < 602 := by
  by_cases l : a < 602
  · exact l
  · unfold sh at h
    rw [if_neg (by omega), if_neg (by omega), List.getD_eq_getElem?_getD, List.getElem?_eq_none (by show 95 ≤ a - 507; omega)] at h
    exact absurd h (by decide)
theorem shl3_1 {a : Nat} (h : sh a = .inr 3) : sh (a + 1) = .inl (1, 25) := (by decide +kernel : ∀ a, a < 602 → sh a = .inr 3 → sh (a + 1) = .inl (1, 25)) a (shi3 h) h
theorem shi7 {a : Nat} (h : sh a = .inr 7) : a < 602 := by
  by_cases l : a < 602
  · exact l
  · unfold sh at h
    rw [if_neg (by omega), if_neg (by omega), List.getD_eq_getElem?_getD, List.getElem?_eq_none (by show 95 ≤ a - 507; omega)] at h
    exact absurd h (by decide)
theorem shl7_1 {a : Nat} (h : sh a = .inr 7) : sh (a + 1) = .inl (0, 4) := (by decide +kernel : ∀ a, a < 602 → sh a = .inr 7 → sh (a + 1) = .inl (0, 4)) a (shi7 h) h
theorem shl7_2 {a : Nat} (h : sh a = .inr 7) : sh (a + 2) = .inl (0, 4) := (by decide +kernel : ∀ a, a < 602 → sh a = .inr 7 → sh (a + 2) = .inl (0, 4)) a (shi7 h) h
theorem shl7_3 {a : Nat} (h : sh a = .inr 7) : sh (a + 3) = .inl (0, 12) := (by decide +kernel : ∀ a, a < 602 → sh a = .inr 7 → sh (a + 3) = .inl (0, 12)) a (shi7 h) h
theorem shl7_4 {a : Nat} (h : sh a = .inr 7) : sh (a + 4) = .inl (0, 12) := (by decide +kernel : ∀ a, a < 602 → sh a = .inr 7 → sh (a + 4) = .inl (0, 12)) a (shi7 h) h
theorem shl7_5 {a : Nat} (h : sh a = .inr 7) : sh (a + 5) = .inl (0, 12) := (by decide +kernel : ∀ a, a < 602 → sh a = .inr 7 → sh (a + 5) = .inl (0, 12)) a (shi7 h) h
theorem shl7_6 {a : Nat} (h : sh a = .inr 7) : sh (a + 6) = .inl (0, 12) := (by decide +kernel : ∀ a, a < 602 → sh a = .inr 7 → sh (a + 6) = .inl (0, 12)) a (shi7 h) h
theorem shi9 {a : Nat} (h : sh a = .inr 9) : a < 602 := by
  by_cases l : a < 602
  · exact l
  · unfold sh at h
    rw [if_neg (by omega), if_neg (by omega), List.getD_eq_getElem?_getD, List.getElem?_eq_none (by show 95 ≤ a - 507; omega)] at h
    exact absurd h (by decide)
theorem shl9_1 {a : Nat} (h : sh a = .inr 9) : sh (a + 1) = .inl (1, 5) := (by decide +kernel : ∀ a, a < 602 → sh a = .inr 9 → sh (a + 1) = .inl (1, 5)) a (shi9 h) h
theorem shl9_2 {a : Nat} (h : sh a = .inr 9) : sh (a + 2) = .inl (1, 5) := (by decide +kernel : ∀ a, a < 602 → sh a = .inr 9 → sh (a + 2) = .inl (1, 5)) a (shi9 h) h
theorem shl9_3 {a : Nat} (h : sh a = .inr 9) : sh (a + 3) = .inl (1, 5) := (by decide +kernel : ∀ a, a < 602 → sh a = .inr 9 → sh (a + 3) = .inl (1, 5)) a (shi9 h) h
theorem shl9_4 {a : Nat} (h : sh a = .inr 9) : sh (a + 4) = .inl (1, 5) := (by decide +kernel : ∀ a, a < 602 → sh a = .inr 9 → sh (a + 4) = .inl (1, 5)) a (shi9 h) h
theorem shi10 {a : Nat} (h : sh a = .inr 10) : a < 602 := by
  by_cases l : a < 602
  · exact l
  · unfold sh at h
    rw [if_neg (by omega), if_neg (by omega), List.getD_eq_getElem?_getD, List.getElem?_eq_none (by show 95 ≤ a - 507; omega)] at h
    exact absurd h (by decide)
theorem shl10_1 {a : Nat} (h : sh a = .inr 10) : sh (a + 1) = .inl (0, 3) := (by decide +kernel : ∀ a, a < 602 → sh a = .inr 10 → sh (a + 1) = .inl (0, 3)) a (shi10 h) h
theorem shl10_2 {a : Nat} (h : sh a = .inr 10) : sh (a + 2) = .inl (0, 3) := (by decide +kernel : ∀ a, a < 602 → sh a = .inr 10 → sh (a + 2) = .inl (0, 3)) a (shi10 h) h
theorem shl10_3 {a : Nat} (h : sh a = .inr 10) : sh (a + 3) = .inl (1, 5) := (by decide +kernel : ∀ a, a < 602 → sh a = .inr 10 → sh (a + 3) = .inl (1, 5)) a (shi10 h) h
theorem shr4 {i : Int32} (h : vp_in i 8) : sh (5 + i.toNatClampNeg) = .inl (0, 40) := (by decide +kernel : ∀ a, a < 8 → sh (5 + a) = .inl (0, 40)) _ (in_lt h)
theorem shr15 {i : Int32} (h : vp_in i 2) : sh (16 + 15 * i.toNatClampNeg) = .inr 1 := (by decide +kernel : ∀ a, a < 2 → sh (16 + 15 * a) = .inr 1) _ (in_lt h)
theorem shr81 {i : Int32} (h : vp_in i 96) : sh (123 + 4 * i.toNatClampNeg) = .inr 10 := (by decide +kernel : ∀ a, a < 96 → sh (123 + 4 * a) = .inr 10) _ (in_lt h)
theorem shr84 {i : Int32} (h : vp_in i 8) : sh (85 + i.toNatClampNeg) = .inl (1, 5) := (by decide +kernel : ∀ a, a < 8 → sh (85 + a) = .inl (1, 5)) _ (in_lt h)
theorem shr93 {i : Int32} (h : vp_in i 4) : sh (507 + 5 * i.toNatClampNeg) = .inr 9 := (by decide +kernel : ∀ a, a < 4 → sh (507 + 5 * a) = .inr 9) _ (in_lt h)
theorem shr99 {i : Int32} (h : vp_in i 5) : sh (100 + i.toNatClampNeg) = .inl (0, 4) := (by decide +kernel : ∀ a, a < 5 → sh (100 + a) = .inl (0, 4)) _ (in_lt h)
theorem shr532 {i : Int32} (h : vp_in i 4) : sh (539 + 4 * i.toNatClampNeg) = .inr 10 := (by decide +kernel : ∀ a, a < 4 → sh (539 + 4 * a) = .inr 10) _ (in_lt h)
def aln (a : Nat) : Nat := match sh a with
  | .inl q => q.2
  | .inr _ => 0
theorem aln_eq {a t n : Nat} (h : sh a = .inl (t, n)) : aln a = n := by unfold aln; rw [h]
theorem aln_lt (a : Nat) : aln a < 2 ^ 31 := by
  by_cases h : a < 602
  · exact Nat.lt_of_le_of_lt ((by decide +kernel : ∀ a, a < 602 → aln a ≤ 1000) a h) (by decide)
  · unfold aln sh
    rw [if_neg (by omega), if_neg (by omega), List.getD_eq_getElem?_getD, List.getElem?_eq_none (by show 95 ≤ a - 507; omega)]
    decide
def x_fillI (T : St) (a : Nat) (x : Int32) : St := sAr T a (fun j => if j < aln a then x else T.2.2.1 a j)
def ok_fillI (T : St) (a : Nat) (x : Int32) : Prop := sh a = .inl (0, aln a)
theorem c_fillI {X : Nat × (Nat → Int32)} {T : St} (a : Nat) (x : Int32) (kk : ok_fillI T a x) : tC X 1 mJ7_fill_53178 [.ref a, .int x] T none (x_fillI T a x) := c_fill kk (aln_lt a)
def sLr (T : St) (a : Nat) (f : Nat → Int64) : St := (T.1, T.2.1, T.2.2.1, u1 T.2.2.2 a f)
def x_fillJ (T : St) (a : Nat) (x : Int64) : St := sLr T a (fun j => if j < aln a then x else T.2.2.2 a j)
def ok_fillJ (T : St) (a : Nat) (x : Int64) : Prop := sh a = .inl (1, aln a)
theorem sLr_sL (T : St) (a k : Nat) (f : Nat → Int64) (x : Int64) : sL (sLr T a f) a k x = sLr T a (fun j => if j = k then x else f j) := by
  unfold sL sLr u1 u2
  congr 3
  funext b j
  by_cases e : b = a
  · subst e; simp
  · simp [e]
theorem sLr_self (T : St) (a : Nat) : sLr T a (T.2.2.2 a) = T := by
  unfold sLr u1
  obtain ⟨F, R, A, L⟩ := T
  simp only
  congr 3
  funext b j
  by_cases e : b = a
  · subst e; simp
  · simp [e]
theorem c_fillJ {X : Nat × (Nat → Int32)} {T : St} (a : Nat) (x : Int64) (kk : ok_fillJ T a x) : tC X 1 mJ7_fill_d0a16 [.ref a, .long x] T none (x_fillJ T a x) := by
  have hn := aln_lt a
  have hs : sh a = .inl (1, aln a) := kk
  unfold x_fillJ
  generalize aln a = n at hn hs ⊢
  have lp : ∀ i, i ≤ n → tR X 0 mJ7_fill_d0a16 6 [some (.ref a), some (.long x), none, some (.int (nI i)), some (.int (nI n))] [] (sLr T a (fun j => if j < i then x else T.2.2.2 a j)) none (sLr T a (fun j => if j < n then x else T.2.2.2 a j)) := by
    refine lp_up n ?_ (fun i hi ih => ?_)
    · refine r_p dJ7_fill_d0a16_6 rfl rfl ?_
      refine r_p dJ7_fill_d0a16_7 rfl rfl ?_
      refine r_cge dJ7_fill_d0a16_9 rfl (fun c9 => ?_) (fun c9 => ?_)
      · exact r_rv dJ7_fill_d0a16_22 rfl rfl rfl
      · exact absurd (nI_le (Nat.le_refl n) hn) c9
    · refine r_p dJ7_fill_d0a16_6 rfl rfl ?_
      refine r_p dJ7_fill_d0a16_7 rfl rfl ?_
      refine r_cge dJ7_fill_d0a16_9 rfl (fun c9 => ?_) (fun c9 => ?_)
      · exact absurd c9 (nI_ge hi hn)
      · refine r_p dJ7_fill_d0a16_12 rfl rfl ?_
        refine r_p dJ7_fill_d0a16_13 rfl rfl ?_
        refine r_p dJ7_fill_d0a16_14 rfl rfl ?_
        refine r_las dJ7_fill_d0a16_15 hs (vp_in_nI hi hn) ?_
        rw [sLr_sL, nI_clamp (by omega)]
        refine r_inc (y := 1) dJ7_fill_d0a16_16 rfl rfl rfl ?_
        refine r_go dJ7_fill_d0a16_19 rfl ?_
        refine r_T ?_ (r_L ?_ rfl ih)
        · refine congrArg (sLr T a) (funext fun j => ?_)
          by_cases e : j = i
          · rw [if_pos e, if_pos (by omega)]
          · by_cases h : j < i
            · rw [if_neg e, if_pos h, if_pos (by omega)]
            · rw [if_neg e, if_neg h, if_neg (by omega)]
        · show ([some (.ref a), some (.long x), none, some (.int (nI i + 1)), some (.int (nI n))] : mx_Lo) = _
          rw [nI_1]
  refine tC_of ?_
  refine r_ci (x := 0) dJ7_fill_d0a16_0 rfl ?_
  refine r_p dJ7_fill_d0a16_1 rfl rfl ?_
  refine r_p dJ7_fill_d0a16_2 rfl rfl ?_
  refine r_al dJ7_fill_d0a16_3 hs (by decide) ?_
  refine r_p dJ7_fill_d0a16_4 rfl rfl ?_
  refine r_T (T1 := sLr T a (fun j => if j < 0 then x else T.2.2.2 a j)) ?_ (r_L ?_ rfl (lp 0 (Nat.zero_le _)))
  · simp only [Nat.not_lt_zero, if_false]
    exact (sLr_self T a).symm
  · rfl
/-! ===== text constants ===== -/
theorem c_coder {X : Nat × (Nat → Int32)} {T : St} {j : Nat} (hj : j < 8) : tC X 1 mJ0_coder_7d493 [.ref (mx_B + (10 + j))] T (some (.int 0)) T := by
  refine tC_of ?_
  refine r_gcs dJ0_coder_7d493_0 gsJ0_38 ?_
  refine r_ieq dJ0_coder_7d493_3 rfl (fun c3 => ?_) (fun c3 => ?_)
  · exact absurd c3 (by decide)
  · refine r_p dJ0_coder_7d493_6 rfl rfl ?_
    refine r_gstr dJ0_coder_7d493_7 (by assumption) gsJ0_15 ?_
    refine r_go dJ0_coder_7d493_10 rfl ?_
    exact r_ri dJ0_coder_7d493_14 rfl rfl rfl rfl
theorem c_isLatin1 {X : Nat × (Nat → Int32)} {T : St} {j : Nat} (hj : j < 8) : tC X 1 mJ0_isLatin1_aae02 [.ref (mx_B + (10 + j))] T (some (.int 1)) T := by
  refine tC_of ?_
  refine r_gcs dJ0_isLatin1_aae02_0 gsJ0_38 ?_
  refine r_ieq dJ0_isLatin1_aae02_3 rfl (fun c3 => ?_) (fun c3 => ?_)
  · exact absurd c3 (by decide)
  · refine r_p dJ0_isLatin1_aae02_6 rfl rfl ?_
    refine r_gstr dJ0_isLatin1_aae02_7 (by assumption) gsJ0_15 ?_
    refine r_ine dJ0_isLatin1_aae02_10 rfl (fun c10 => ?_) (fun c10 => ?_)
    · exact absurd rfl c10
    · refine r_ci (x := 1) dJ0_isLatin1_aae02_13 rfl ?_
      refine r_go dJ0_isLatin1_aae02_14 rfl ?_
      exact r_ri dJ0_isLatin1_aae02_18 rfl rfl rfl rfl
def x_slen (T : St) (j : Nat) : Int32 := Int32.ofNat (mx_slen.getD j 0)
def ok_slen (T : St) (j : Nat) : Prop := j < 8
theorem c_slen {X : Nat × (Nat → Int32)} {T : St} (j : Nat) (kk : ok_slen T j) : tC X 2 mJ0_length_8abf5 [.ref (mx_B + (10 + j))] T (some (.int (x_slen T j))) T := by
  have hj : j < 8 := kk
  refine tC_of ?_
  refine r_p dJ0_length_8abf5_0 rfl rfl ?_
  refine r_gsv dJ0_length_8abf5_1 (by assumption) gsJ0_9 ?_
  refine r_bl dJ0_length_8abf5_4 (by assumption) ?_
  refine r_p dJ0_length_8abf5_5 rfl rfl ?_
  refine r_cvs (d1 := 1) dJ0_length_8abf5_6 cvJ0_335 rfl rfl (by assumption) rfl (Nat.le_of_ble_eq_true rfl) (Nat.le_of_ble_eq_true rfl) (Nat.le_of_ble_eq_true rfl) (c_coder hj) ?_
  refine r_p dJ0_length_8abf5_9 rfl rfl ?_
  exact r_ri dJ0_length_8abf5_10 rfl rfl (by unfold x_slen; exact congrArg (fun z => some (Value.int z)) (sb_shr0 _).symm) rfl
def x_sch (T : St) (j : Nat) (i : Int32) : Int32 := (((mx_sbyt.getD j []).getD i.toNatClampNeg 0 &&& 255).toUInt32 % 65536).toInt32
def ok_sch (T : St) (j : Nat) (i : Int32) : Prop := j < 8 ∧ vp_in i (mx_slen.getD j 0)
theorem c_pci {X : Nat × (Nat → Int32)} {T : St} (i n : Int32) (y : Value) (hy : y.category = 1) (h0 : ¬ i < 0) (h1 : i < n) : tC X 1 mJ3_checkIndex_8e157 [.int i, .int n, y] T (some (.int i)) T := by
  refine tC_of ?_
  refine r_L (L1 := [some (.int i), some (.int n), some y]) (by cases y <;> first | rfl | (simp [Value.category] at hy)) rfl ?_
  refine r_p dJ3_checkIndex_8e157_0 rfl rfl ?_
  refine r_ilt dJ3_checkIndex_8e157_1 rfl (fun c1 => ?_) (fun c1 => ?_)
  · exact absurd c1 h0
  · refine r_p dJ3_checkIndex_8e157_4 rfl rfl ?_
    refine r_p dJ3_checkIndex_8e157_5 rfl rfl ?_
    refine r_clt dJ3_checkIndex_8e157_6 rfl (fun c6 => ?_) (fun c6 => ?_)
    · refine r_p dJ3_checkIndex_8e157_16 rfl rfl ?_
      exact r_ri dJ3_checkIndex_8e157_17 rfl rfl rfl rfl
    · exact absurd h1 c6
theorem c_sci {X : Nat × (Nat → Int32)} {T : St} (i n : Int32) (h0 : ¬ i < 0) (h1 : i < n) : tC X 2 mJ0_checkIndex_df160 [.int i, .int n] T none T := by
  refine tC_of ?_
  refine r_p dJ0_checkIndex_df160_0 rfl rfl ?_
  refine r_p dJ0_checkIndex_df160_1 rfl rfl ?_
  by_cases hz : X.2 1000000 = 0
  · refine r_gq (y := .null) dJ0_checkIndex_df160_2 gsJ0_1053 (if_pos hz) ?_
    refine r_cs (d1 := 1) dJ0_checkIndex_df160_5 csJ0_1059 rfl rfl (Nat.le_of_ble_eq_true rfl) (Nat.le_of_ble_eq_true rfl) (Nat.le_of_ble_eq_true rfl) (c_pci i n .null rfl h0 h1) ?_
    refine r_p dJ0_checkIndex_df160_8 rfl rfl ?_
    exact r_rv dJ0_checkIndex_df160_9 rfl rfl rfl
  · refine r_gq (y := .ref (mx_B + 101)) dJ0_checkIndex_df160_2 gsJ0_1053 (if_neg hz) ?_
    refine r_cs (d1 := 1) dJ0_checkIndex_df160_5 csJ0_1059 rfl rfl (Nat.le_of_ble_eq_true rfl) (Nat.le_of_ble_eq_true rfl) (Nat.le_of_ble_eq_true rfl) (c_pci i n (.ref (mx_B + 101)) rfl h0 h1) ?_
    refine r_p dJ0_checkIndex_df160_8 rfl rfl ?_
    exact r_rv dJ0_checkIndex_df160_9 rfl rfl rfl
theorem c_lch {X : Nat × (Nat → Int32)} {T : St} (j : Nat) (i : Int32) (hj : j < 8) (hi : vp_in i (mx_slen.getD j 0)) : tC X 3 mJ1_charAt_3b067 [.ref (mx_B + (30 + j)), .int i] T (some (.int (x_sch T j i))) T := by
  have hl : mx_slen.getD j 0 < 2 ^ 31 := Nat.lt_of_le_of_lt ((by decide : ∀ j, j < 8 → mx_slen.getD j 0 ≤ 7) j hj) (by decide)
  have g1 := (i_in i _).mp hi
  have g2 : i < Int32.ofNat (mx_slen.getD j 0) := by rw [i_lt, show (Int32.ofNat (mx_slen.getD j 0)).toInt = _ from nI_t hl]; exact g1.2
  refine tC_of ?_
  refine r_p dJ1_charAt_3b067_0 rfl rfl ?_
  refine r_p dJ1_charAt_3b067_1 rfl rfl ?_
  refine r_bl dJ1_charAt_3b067_2 (by assumption) ?_
  refine r_cs (d1 := 2) dJ1_charAt_3b067_3 csJ1_9 rfl rfl (Nat.le_of_ble_eq_true rfl) (Nat.le_of_ble_eq_true rfl) (Nat.le_of_ble_eq_true rfl) (c_sci _ _ (fun q => hi (Or.inl q)) g2) ?_
  refine r_p dJ1_charAt_3b067_6 rfl rfl ?_
  refine r_p dJ1_charAt_3b067_7 rfl rfl ?_
  refine r_ba dJ1_charAt_3b067_8 (by assumption) hi ?_
  refine r_csi (x := 255) dJ1_charAt_3b067_9 rfl ?_
  refine r_p dJ1_charAt_3b067_12 rfl rfl ?_
  refine r_p dJ1_charAt_3b067_13 rfl rfl ?_
  exact r_ri dJ1_charAt_3b067_14 rfl (pk_nc _) rfl rfl
theorem c_sch {X : Nat × (Nat → Int32)} {T : St} (j : Nat) (i : Int32) (kk : ok_sch T j i) : tC X 4 mJ0_charAt_5068e [.ref (mx_B + (10 + j)), .int i] T (some (.int (x_sch T j i))) T := by
  have hj : j < 8 := kk.1
  refine tC_of ?_
  refine r_p dJ0_charAt_5068e_0 rfl rfl ?_
  refine r_cvs (d1 := 1) dJ0_charAt_5068e_1 cvJ0_492 rfl rfl (by assumption) rfl (Nat.le_of_ble_eq_true rfl) (Nat.le_of_ble_eq_true rfl) (Nat.le_of_ble_eq_true rfl) (c_isLatin1 hj) ?_
  refine r_ieq dJ0_charAt_5068e_4 rfl (fun c4 => ?_) (fun c4 => ?_)
  · exact absurd c4 (by decide)
  · refine r_p dJ0_charAt_5068e_7 rfl rfl ?_
    refine r_gsv dJ0_charAt_5068e_8 (by assumption) gsJ0_9 ?_
    refine r_p dJ0_charAt_5068e_11 rfl rfl ?_
    refine r_cs (d1 := 3) dJ0_charAt_5068e_12 csJ0_495 rfl rfl (Nat.le_of_ble_eq_true rfl) (Nat.le_of_ble_eq_true rfl) (Nat.le_of_ble_eq_true rfl) (c_lch j i hj kk.2) ?_
    exact r_ri dJ0_charAt_5068e_15 rfl (pk_nc _) rfl rfl
