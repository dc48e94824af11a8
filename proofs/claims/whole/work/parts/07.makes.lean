/-! ===== rules: what is made ===== -/
def mx_dfs (ci N : Nat) : List Value := (List.range N).map fun k => defaultValue (mx_tyF ci k)
def mx_arr0 (t N : Nat) : vp_A := match t with
  | 1 => (N, .inr (.inl (fun _ => 0)))
  | 0 => (N, .inl (fun _ => 0))
  | 2 => (N, .inl (fun _ => 0))
  | _ => (N, .inr (.inr (.inr (.inr (fun _ => none)))))
def mx_stN (M : mx_M) (pc : Nat) (L : mx_Lo) (S : List Value) (hp : mx_Hp) (f2 : mx_Fr) : Prop :=
  (∃ (idx ci : Nat) (q : vw_C), decode M.2.1 pc = .ok (.new idx, 3) ∧ mx_cls[ci]? = some q ∧ Cond.classLink M.1.cls idx q.1 ∈ mx_gd ∧ Cond.instantiable q.1 q.2.2 ∈ mx_gd ∧ Cond.initialized q.1 ∈ mx_gd ∧ f2 = (pc + 3, L, .ref hp.2.1 :: S, (va_up hp.1 hp.2.1 (.inr (ci, mx_dfs ci q.2.2)), hp.2.1 + 1, hp.2.2 + q.2.2))) ∨
  (∃ (atype : ArrayType) (t N : Nat) (n : Int32) (r : List Value), decode M.2.1 pc = .ok (.newarray atype, 2) ∧ t < 3 ∧ newarray.typeOf atype = mx_ty t ∧ Cond.arrayClass (mx_ty t) ∈ mx_gd ∧ S = .int n :: r ∧ ¬ n < 0 ∧ n.toNatClampNeg = N ∧ N ≤ 10000 ∧ f2 = (pc + 2, L, .ref hp.2.1 :: r, (va_up hp.1 hp.2.1 (.inl (t, mx_arr0 t N)), hp.2.1 + 1, hp.2.2 + N))) ∨
  (∃ (idx t N : Nat) (C : String) (n : Int32) (r : List Value), decode M.2.1 pc = .ok (.anewarray idx, 3) ∧ 3 ≤ t ∧ t < 6 ∧ mx_ty t = .object C ∧ Cond.classLink M.1.cls idx C ∈ mx_gd ∧ S = .int n :: r ∧ ¬ n < 0 ∧ n.toNatClampNeg = N ∧ N ≤ 10000 ∧ f2 = (pc + 3, L, .ref hp.2.1 :: r, (va_up hp.1 hp.2.1 (.inl (t, mx_arr0 t N)), hp.2.1 + 1, hp.2.2 + N)))
theorem mx_rv_dv (ρ : Nat → Nat) (ty : FieldType) : mx_rv ρ (defaultValue ty) = defaultValue ty := by cases ty <;> rfl
section MXN
variable {D : va_G} {κ : Nat → ClassId} {base : Nat} {cst : Nat → Nat} {X : Nat × (Nat → Int32)} {p : Program} {l : Launch} {e : Env} {R : Room} {s : State} {m : MethodId} {args : Array Value} {below : List Frame} {meth : Method} {c : Code} {Q : State → Prop}
variable {M : mx_M} {n0 sl0 pc : Nat} {L : mx_Lo} {S : List Value} {hp : mx_Hp} {f2 : mx_Fr}
theorem mx_fresh {q n cells slots : Nat} {x : va_E} {h : Nat → mx_C} {H : Heap} {locs : List Loc} {g : JFrame} (hsz : s.heap.size = base + n0) (hc : n0 + cells = n) (hn : n < mx_B) (hP : va_P D mx_cls (mx_w (mx_ρ base cst) κ h n ++ [(q, x)]) H) (hD : va_D (fun q => base ≤ q) (mx_w (mx_ρ base cst) κ h n ++ [(q, x)]))
    (k : q = mx_ρ base cst n → W p l e R s m args below meth c H locs (cells + 1) slots Q g) : W p l e R s m args below meth c H locs (cells + 1) slots Q g := by
  intro T hT Xs
  have hq : (mx_w (mx_ρ base cst) κ h n ++ [(q, x)])[n]? = some (q, x) := by
    rw [List.getElem?_append_right (by rw [mx_w_len]; exact Nat.le_refl n), mx_w_len, Nat.sub_self]
    rfl
  have h1 : q < H.size := (hP n _ hq).lt
  have h2 : base ≤ q := hD.2 n _ hq
  have h3 := Xs.heapSize
  rw [hT] at h3
  have h4 : ∀ i, i < n → q ≠ base + i := by
    intro i hi e
    have hi2 : (mx_w (mx_ρ base cst) κ h n ++ [(q, x)])[i]? = some (mx_ρ base cst i, mx_rc (mx_ρ base cst) κ (h i)) := by
      rw [List.getElem?_append_left (by rw [mx_w_len]; exact hi), mx_w_get hi]
    have := hD.1 i n _ _ hi2 hq (by show mx_ρ base cst i = q; rw [mx_ρ_lt (by omega)]; omega)
    omega
  have h5 : q = base + n := by
    rcases Nat.lt_or_ge q (base + n) with z | z
    · exact absurd (show q = base + (q - base) by omega) (h4 (q - base) (by omega))
    · omega
  exact k (by rw [mx_ρ_lt hn]; exact h5) T hT Xs
theorem mx_N_ok (C : mx_Me D κ base cst X p s m args meth c M n0) (hB : f2.2.2.2.2.1 ≤ mx_B) (hRc : f2.2.2.2.2.1 ≤ n0 + R.cells) (hRs : f2.2.2.2.2.2 ≤ sl0 + R.slots) (h : mx_stN M pc L S hp f2) (k : mx_Go D κ base cst p l e R s m args below meth c Q M n0 sl0 f2) : mx_Go D κ base cst p l e R s m args below meth c Q M n0 sl0 (pc, L, S, hp) := by
  obtain ⟨hx, hb, hml, hown, hts, hmn, hE, hsz⟩ := C
  intro H locs ls cells slots I
  obtain ⟨iL, iN, iP, iS, iC, iQ⟩ := id I
  simp only at iC iQ
  have hK := hE.1
  have hA : ∀ q : Nat, s.heap.size ≤ q → (fun q => base ≤ q) q := fun q h => by show base ≤ q; omega
  have uniq : ∀ {t : Nat} {cA : ClassId}, t < 6 → va_RA s cA (mx_ty t) → cA = κ t := by
    intro t cA ht h
    have h2 := (hK.2 t _ (mx_tys_get κ (show t < 8 by omega))).2
    rcases (show t = 0 ∨ t = 1 ∨ t = 2 ∨ t = 3 ∨ t = 4 ∨ t = 5 by omega) with rfl | rfl | rfl | rfl | rfl | rfl
    · exact Option.some.inj (Eq.trans (Eq.symm h) h2)
    · exact Option.some.inj (Eq.trans (Eq.symm h) h2)
    · exact Option.some.inj (Eq.trans (Eq.symm h) h2)
    · obtain ⟨_, _, _, _, _, a1⟩ := h; obtain ⟨_, _, _, _, _, a2⟩ := h2; exact Option.some.inj (Eq.trans (Eq.symm a1) a2)
    · obtain ⟨_, _, _, _, _, a1⟩ := h; obtain ⟨_, _, _, _, _, a2⟩ := h2; exact Option.some.inj (Eq.trans (Eq.symm a1) a2)
    · obtain ⟨_, _, _, _, _, a1⟩ := h; obtain ⟨_, _, _, _, _, a2⟩ := h2; exact Option.some.inj (Eq.trans (Eq.symm a1) a2)
  rcases h with ⟨idx, ci, q, hd, hq, w1, w2, w3, rfl⟩ | ⟨atype, t, N, n, r, hd, ht, hty, w1, rfl, hn, hN, hN2, rfl⟩ | ⟨idx, t, N, Cn, n, r, hd, ht3, ht6, hty, w1, rfl, hn, hN, hN2, rfl⟩
  · simp only at hB hRc hRs
    have iD := mx_D (base := base) (cst := cst) (κ := κ) (h := hp.1) (show hp.2.1 ≤ mx_B by omega)
    have hfs : ∀ j, j < q.2.2 → defaultValue (mx_tyF ci j) = vp_V ((mx_dfs ci q.2.2).map (mx_rv (mx_ρ base cst))) j := by
      intro j hj
      unfold vp_V mx_dfs
      simp [List.getElem?_range hj, mx_rv_dv]
    refine va_new (C := q.1) (T := q.2.1) (N := q.2.2) hx hb hts (mx_u_gd hq) (mx_tyF ci) (mx_cls_ok ci q hq).2.1 hown (hts _ w1) (hts _ w2) (hts _ w3) hK iP iD iS hA hq hfs (by omega) (by omega) hd (fun q1 H1 hP1 hD1 hS1 => ?_)
    refine mx_fresh hsz iC (by omega) hP1 hD1 (fun e1 => ?_)
    subst e1
    rw [show (.inr (ci, (mx_dfs ci q.2.2).map (mx_rv (mx_ρ base cst))) : va_E) = mx_rc (mx_ρ base cst) κ (.inr (ci, mx_dfs ci q.2.2)) from rfl, mx_w_push] at hP1
    exact k H1 locs ls (cells + 1) (slots + q.2.2) ⟨iL, iN, hP1, hS1, by show n0 + (cells + 1) = hp.2.1 + 1; omega, by show sl0 + (slots + q.2.2) = hp.2.2 + q.2.2; omega⟩
  · simp only at hB hRc hRs
    have iD := mx_D (base := base) (cst := cst) (κ := κ) (h := hp.1) (show hp.2.1 ≤ mx_B by omega)
    have hb4 : N * componentBytes (mx_ty t) ≤ 536870912 := by
      rcases (show t = 0 ∨ t = 1 ∨ t = 2 by omega) with rfl | rfl | rfl
      · exact Nat.le_trans (Nat.mul_le_mul hN2 (show componentBytes (mx_ty 0) ≤ 100 by decide)) (by decide)
      · exact Nat.le_trans (Nat.mul_le_mul hN2 (show componentBytes (mx_ty 1) ≤ 100 by decide)) (by decide)
      · exact Nat.le_trans (Nat.mul_le_mul hN2 (show componentBytes (mx_ty 2) ≤ 100 by decide)) (by decide)
    have hcell : ∀ cA : ClassId, vp_cell cA (mx_arr0 t N) = arrV cA N (fun _ => defaultValue (mx_ty t)) := by
      intro cA
      rcases (show t = 0 ∨ t = 1 ∨ t = 2 by omega) with rfl | rfl | rfl <;> rfl
    have hra : ∀ cA : ClassId, cA = κ t → (.inl (cA, mx_arr0 t N) : va_E) = mx_rc (mx_ρ base cst) κ (.inl (t, mx_arr0 t N)) := by
      intro cA e1
      subst e1
      rcases (show t = 0 ∨ t = 1 ∨ t = 2 by omega) with rfl | rfl | rfl <;> rfl
    refine va_newa hx hb (by rw [hty]; exact hts _ w1) hty hK iP iD iS hA hcell hn hN hb4 (by omega) (by omega) hd (fun q1 cA H1 hK1 hP1 hD1 hS1 => ?_)
    have e2 : cA = κ t := uniq (by omega) (hK1.2 8 (cA, mx_ty t) (by rw [List.getElem?_append_right (by simp [mx_tys])]; simp [mx_tys])).2
    refine mx_fresh hsz iC (by omega) hP1 hD1 (fun e1 => ?_)
    subst e1
    rw [hra cA e2, mx_w_push] at hP1
    exact k H1 locs ls (cells + 1) (slots + N) ⟨iL, iN, hP1, hS1, by show n0 + (cells + 1) = hp.2.1 + 1; omega, by show sl0 + (slots + N) = hp.2.2 + N; omega⟩
  · simp only at hB hRc hRs
    have iD := mx_D (base := base) (cst := cst) (κ := κ) (h := hp.1) (show hp.2.1 ≤ mx_B by omega)
    have hao : va_AO Cn s := by
      rcases (show t = 3 ∨ t = 4 ∨ t = 5 by omega) with rfl | rfl | rfl
      · cases hty; exact hE.2.2.1.1
      · cases hty; exact hE.2.2.1.2.2
      · cases hty; exact hE.2.2.1.2.1
    have hra : ∀ cA : ClassId, cA = κ t → (.inl (cA, N, .inr (.inr (.inr (.inr (fun _ => none))))) : va_E) = mx_rc (mx_ρ base cst) κ (.inl (t, mx_arr0 t N)) := by
      intro cA e1
      subst e1
      rcases (show t = 3 ∨ t = 4 ∨ t = 5 by omega) with rfl | rfl | rfl <;> rfl
    refine va_newq hx hb hown (hts _ w1) hao hK iP iD iS hA hn hN (by omega) (by omega) (by omega) hd (fun q1 cA H1 hK1 hP1 hD1 hS1 => ?_)
    have e2 : cA = κ t := uniq ht6 (by rw [hty]; exact (hK1.2 8 (cA, .object Cn) (by rw [List.getElem?_append_right (by simp [mx_tys])]; simp [mx_tys])).2)
    refine mx_fresh hsz iC (by omega) hP1 hD1 (fun e1 => ?_)
    subst e1
    rw [hra cA e2, mx_w_push] at hP1
    exact k H1 locs ls (cells + 1) (slots + N) ⟨iL, iN, hP1, hS1, by show n0 + (cells + 1) = hp.2.1 + 1; omega, by show sl0 + (slots + N) = hp.2.2 + N; omega⟩
end MXN
