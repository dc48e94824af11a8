/-! ===== rules: what is made ===== -/
def mx_dfs (ci N : Nat) : List Value := (List.range N).map fun k => defaultValue (mx_tyF ci k)
def mx_arr0 (t N : Nat) : vp_A := match t with
  | 1 => (N, .inr (.inl (fun _ => 0)))
  | 0 => (N, .inl (fun _ => 0))
  | 2 => (N, .inl (fun _ => 0))
  | _ => (N, .inr (.inr (.inr (.inr (fun _ => none)))))
def mx_stN (M : mx_M) (pc : Nat) (L : mx_Lo) (S : List Value) (hp : mx_Hp) (f2 : mx_Fr) : Prop :=
  (∃ (idx ci : Nat) (q : vw_C), decode M.2.1 pc = .ok (.new idx, 3) ∧ mx_cls[ci]? = some q ∧ Cond.classLink M.1.cls idx q.1 ∈ mx_gd ∧ Cond.instantiable q.1 q.2.2 ∈ mx_gd ∧ Cond.initialized q.1 ∈ mx_gd ∧ f2 = (pc + 3, L, .ref hp.2.1 :: S, (va_up hp.1 hp.2.1 (.inr (ci, mx_dfs ci q.2.2)), hp.2.1 + 1, hp.2.2 + q.2.2))) ∨
  (∃ (atype : ArrayType) (t N : Nat) (n : Int32) (r : List Value), decode M.2.1 pc = .ok (.newarray atype, 2) ∧ t < 3 ∧ newarray.typeOf atype = mx_ty t ∧ Cond.arrayClass (mx_ty t) ∈ mx_gd ∧ S = .int n :: r ∧ ¬ n < 0 ∧ n.toNatClampNeg = N ∧ N ≤ 10000 ∧ f2 = (pc + 2, L, .ref hp.2.1 :: r, (va_up hp.1 hp.2.1 (.inl (t, mx_arr0 t N)), hp.2.1 + 1, hp.2.2 + N))) ∨
  (∃ (idx t N : Nat) (C : String) (n : Int32) (r : List Value), decode M.2.1 pc = .ok (.anewarray idx, 3) ∧ 3 ≤ t ∧ t < 6 ∧ mx_ty t = .object C ∧ Cond.classLink M.1.cls idx C ∈ mx_gd ∧ S = .int n :: r ∧ ¬ n < 0 ∧ n.toNatClampNeg = N ∧ N ≤ 10000 ∧ f2 = (pc + 3, L, .ref hp.2.1 :: r, (va_up hp.1 hp.2.1 (.inl (t, mx_arr0 t N)), hp.2.1 + 1, hp.2.2 + N)))
-- an array of arrays: the outer one, then its rows
def mx_grid (h : Nat → mx_C) (n t N K : Nat) : Nat → mx_C := fun i => if i = n then .inl (t, N, .inr (.inr (.inr (.inr (fun j => if j < N then some (n + 1 + j) else none))))) else if n < i ∧ i < n + 1 + N then .inl (t - 6, mx_arr0 (t - 6) K) else h i
def mx_stM (M : mx_M) (pc : Nat) (L : mx_Lo) (S : List Value) (hp : mx_Hp) (f2 : mx_Fr) : Prop :=
  ∃ (idx t N K : Nat) (n k : Int32) (r : List Value), decode M.2.1 pc = .ok (.multianewarray idx 2, 4) ∧ (t = 6 ∨ t = 7) ∧ Cond.classLink M.1.cls idx ("[" ++ (mx_ty t).toString) ∈ mx_gd ∧ Cond.arrayClass (mx_ty (t - 6)) ∈ mx_gd ∧ S = .int k :: .int n :: r ∧ ¬ n < 0 ∧ ¬ k < 0 ∧ n.toNatClampNeg = N ∧ k.toNatClampNeg = K ∧ N ≤ 10000 ∧ K ≤ 10000 ∧ f2 = (pc + 4, L, .ref hp.2.1 :: r, (mx_grid hp.1 hp.2.1 t N K, hp.2.1 + 1 + N, hp.2.2 + N + N * K))
theorem mx_rv_dv (ρ : Nat → Nat) (ty : FieldType) : mx_rv ρ (defaultValue ty) = defaultValue ty := by cases ty <;> rfl
section MXN
variable {D : va_G} {κ : Nat → ClassId} {base : Nat} {cst : Nat → Nat} {X : Nat × (Nat → Int32)} {p : Program} {l : Launch} {e : Env} {R : Room} {s : State} {m : MethodId} {args : Array Value} {below : List Frame} {meth : Method} {c : Code} {Q : State → Prop}
variable {M : mx_M} {n0 sl0 pc : Nat} {L : mx_Lo} {S : List Value} {hp : mx_Hp} {f2 : mx_Fr}
theorem mx_fresh {q n cells slots : Nat} {x : va_E} {h : Nat → mx_C} {H : Heap} {locs : List Loc} {g : JFrame} (hsz : s.heap.size = base + n0) (hc : n0 + cells = n) (hn : n < mx_B) (hP : va_P D mx_cls (mx_w (mx_ρ base cst) κ h n ++ [(q, x)]) H) (hD : va_D (fun q => base ≤ q) (mx_w (mx_ρ base cst) κ h n ++ [(q, x)]))
    (k : q = mx_ρ base cst n → W p l e R s m args below meth c H locs (cells + 1) slots Q g) : W p l e R s m args below meth c H locs (cells + 1) slots Q g := by
  intro T hT Xs
  have hq : (mx_w (mx_ρ base cst) κ h n ++ [(q, x)])[n]? = some (q, x) := by
    rw [List.getElem?_append_right (by rw [mx_w_len]; exact Nat.le_refl n), mx_w_len, Nat.sub_self]
    rfl
  have h1 : q < H.size := (hP n _ hq).lt
  have h2 : base ≤ q := hD.2 n _ hq
  have h3 := Xs.heapSize
  rw [hT] at h3
  have h4 : ∀ i, i < n → q ≠ base + i := by
    intro i hi e
    have hi2 : (mx_w (mx_ρ base cst) κ h n ++ [(q, x)])[i]? = some (mx_ρ base cst i, mx_rc (mx_ρ base cst) κ (h i)) := by
      rw [List.getElem?_append_left (by rw [mx_w_len]; exact hi), mx_w_get hi]
    have := hD.1 i n _ _ hi2 hq (by show mx_ρ base cst i = q; rw [mx_ρ_lt (by omega)]; omega)
    omega
  have h5 : q = base + n := by
    rcases Nat.lt_or_ge q (base + n) with z | z
    · exact absurd (show q = base + (q - base) by omega) (h4 (q - base) (by omega))
    · omega
  exact k (by rw [mx_ρ_lt hn]; exact h5) T hT Xs
theorem mx_N_ok (C : mx_Me D κ base cst X p s m args meth c M n0) (hB : f2.2.2.2.2.1 ≤ mx_B) (hRc : f2.2.2.2.2.1 ≤ n0 + R.cells) (hRs : f2.2.2.2.2.2 ≤ sl0 + R.slots) (h : mx_stN M pc L S hp f2) (k : mx_Go D κ base cst p l e R s m args below meth c Q M n0 sl0 f2) : mx_Go D κ base cst p l e R s m args below meth c Q M n0 sl0 (pc, L, S, hp) := by
  obtain ⟨hx, hb, hml, hown, hts, hmn, hE, hsz⟩ := C
  intro H locs ls cells slots I
  obtain ⟨iL, iN, iP, iS, iC, iQ⟩ := id I
  simp only at iC iQ
  have hK := hE.1
  have hA : ∀ q : Nat, s.heap.size ≤ q → (fun q => base ≤ q) q := fun q h => by show base ≤ q; omega
  have uniq : ∀ {t : Nat} {cA : ClassId}, t < 6 → va_RA s cA (mx_ty t) → cA = κ t := by
    intro t cA ht h
    have h2 := (hK.2 t _ (mx_tys_get κ (show t < 8 by omega))).2
    rcases (show t = 0 ∨ t = 1 ∨ t = 2 ∨ t = 3 ∨ t = 4 ∨ t = 5 by omega) with rfl | rfl | rfl | rfl | rfl | rfl
    · exact Option.some.inj (Eq.trans (Eq.symm h) h2)
    · exact Option.some.inj (Eq.trans (Eq.symm h) h2)
    · exact Option.some.inj (Eq.trans (Eq.symm h) h2)
    · obtain ⟨_, _, _, _, _, a1⟩ := h; obtain ⟨_, _, _, _, _, a2⟩ := h2; exact Option.some.inj (Eq.trans (Eq.symm a1) a2)
    · obtain ⟨_, _, _, _, _, a1⟩ := h; obtain ⟨_, _, _, _, _, a2⟩ := h2; exact Option.some.inj (Eq.trans (Eq.symm a1) a2)
    · obtain ⟨_, _, _, _, _, a1⟩ := h; obtain ⟨_, _, _, _, _, a2⟩ := h2; exact Option.some.inj (Eq.trans (Eq.symm a1) a2)
  rcases h with ⟨idx, ci, q, hd, hq, w1, w2, w3, rfl⟩ | ⟨atype, t, N, n, r, hd, ht, hty, w1, rfl, hn, hN, hN2, rfl⟩ | ⟨idx, t, N, Cn, n, r, hd, ht3, ht6, hty, w1, rfl, hn, hN, hN2, rfl⟩
  · simp only at hB hRc hRs
    have iD := mx_D (base := base) (cst := cst) (κ := κ) (h := hp.1) (show hp.2.1 ≤ mx_B by omega)
    have hfs : ∀ j, j < q.2.2 → defaultValue (mx_tyF ci j) = vp_V ((mx_dfs ci q.2.2).map (mx_rv (mx_ρ base cst))) j := by
      intro j hj
      unfold vp_V mx_dfs
      simp [List.getElem?_range hj, mx_rv_dv]
    refine va_new (C := q.1) (T := q.2.1) (N := q.2.2) hx hb hts (mx_u_gd hq) (mx_tyF ci) (mx_cls_ok ci q hq).2.1 hown (hts _ w1) (hts _ w2) (hts _ w3) hK iP iD iS hA hq hfs (by omega) (by omega) hd (fun q1 H1 hP1 hD1 hS1 => ?_)
    refine mx_fresh hsz iC (by omega) hP1 hD1 (fun e1 => ?_)
    subst e1
    rw [show (.inr (ci, (mx_dfs ci q.2.2).map (mx_rv (mx_ρ base cst))) : va_E) = mx_rc (mx_ρ base cst) κ (.inr (ci, mx_dfs ci q.2.2)) from rfl, mx_w_push] at hP1
    exact k H1 locs ls (cells + 1) (slots + q.2.2) ⟨iL, iN, hP1, hS1, by show n0 + (cells + 1) = hp.2.1 + 1; omega, by show sl0 + (slots + q.2.2) = hp.2.2 + q.2.2; omega⟩
  · simp only at hB hRc hRs
    have iD := mx_D (base := base) (cst := cst) (κ := κ) (h := hp.1) (show hp.2.1 ≤ mx_B by omega)
    have hb4 : N * componentBytes (mx_ty t) ≤ 536870912 := by
      rcases (show t = 0 ∨ t = 1 ∨ t = 2 by omega) with rfl | rfl | rfl
      · exact Nat.le_trans (Nat.mul_le_mul hN2 (show componentBytes (mx_ty 0) ≤ 100 by decide)) (by decide)
      · exact Nat.le_trans (Nat.mul_le_mul hN2 (show componentBytes (mx_ty 1) ≤ 100 by decide)) (by decide)
      · exact Nat.le_trans (Nat.mul_le_mul hN2 (show componentBytes (mx_ty 2) ≤ 100 by decide)) (by decide)
    have hcell : ∀ cA : ClassId, vp_cell cA (mx_arr0 t N) = arrV cA N (fun _ => defaultValue (mx_ty t)) := by
      intro cA
      rcases (show t = 0 ∨ t = 1 ∨ t = 2 by omega) with rfl | rfl | rfl <;> rfl
    have hra : ∀ cA : ClassId, cA = κ t → (.inl (cA, mx_arr0 t N) : va_E) = mx_rc (mx_ρ base cst) κ (.inl (t, mx_arr0 t N)) := by
      intro cA e1
      subst e1
      rcases (show t = 0 ∨ t = 1 ∨ t = 2 by omega) with rfl | rfl | rfl <;> rfl
    refine va_newa hx hb (by rw [hty]; exact hts _ w1) hty hK iP iD iS hA hcell hn hN hb4 (by omega) (by omega) hd (fun q1 cA H1 hK1 hP1 hD1 hS1 => ?_)
    have e2 : cA = κ t := uniq (by omega) (hK1.2 8 (cA, mx_ty t) (by rw [List.getElem?_append_right (by simp [mx_tys])]; simp [mx_tys])).2
    refine mx_fresh hsz iC (by omega) hP1 hD1 (fun e1 => ?_)
    subst e1
    rw [hra cA e2, mx_w_push] at hP1
    exact k H1 locs ls (cells + 1) (slots + N) ⟨iL, iN, hP1, hS1, by show n0 + (cells + 1) = hp.2.1 + 1; omega, by show sl0 + (slots + N) = hp.2.2 + N; omega⟩
  · simp only at hB hRc hRs
    have iD := mx_D (base := base) (cst := cst) (κ := κ) (h := hp.1) (show hp.2.1 ≤ mx_B by omega)
    have hao : va_AO Cn s := by
      rcases (show t = 3 ∨ t = 4 ∨ t = 5 by omega) with rfl | rfl | rfl
      · cases hty; exact hE.2.2.1.1
      · cases hty; exact hE.2.2.1.2.2.1
      · cases hty; exact hE.2.2.1.2.1
    have hra : ∀ cA : ClassId, cA = κ t → (.inl (cA, N, .inr (.inr (.inr (.inr (fun _ => none))))) : va_E) = mx_rc (mx_ρ base cst) κ (.inl (t, mx_arr0 t N)) := by
      intro cA e1
      subst e1
      rcases (show t = 3 ∨ t = 4 ∨ t = 5 by omega) with rfl | rfl | rfl <;> rfl
    refine va_newq hx hb hown (hts _ w1) hao hK iP iD iS hA hn hN (by omega) (by omega) (by omega) hd (fun q1 cA H1 hK1 hP1 hD1 hS1 => ?_)
    have e2 : cA = κ t := uniq ht6 (by rw [hty]; exact (hK1.2 8 (cA, .object Cn) (by rw [List.getElem?_append_right (by simp [mx_tys])]; simp [mx_tys])).2)
    refine mx_fresh hsz iC (by omega) hP1 hD1 (fun e1 => ?_)
    subst e1
    rw [hra cA e2, mx_w_push] at hP1
    exact k H1 locs ls (cells + 1) (slots + N) ⟨iL, iN, hP1, hS1, by show n0 + (cells + 1) = hp.2.1 + 1; omega, by show sl0 + (slots + N) = hp.2.2 + N; omega⟩
theorem mx_outer (c : ClassId) (N h0 : Nat) : ∀ i : Nat, Jvm.Free.Multi.outerC c N h0 i = arrV c N (fun j => va_rf (if j < i then some (h0 + 1 + j) else none)) := by
  intro i
  induction i with
  | zero =>
    show ({ cls := c, slots := Array.replicate N .null, vm := .none } : Cell) = _
    rw [arrV_new]
    congr 1
  | succ i ih =>
    show (Jvm.Free.Multi.outerC c N h0 i).setSlot i (.ref (h0 + 1 + i)) = _
    rw [ih, arrV_store]
    congr 1
    funext j
    unfold updV
    by_cases e1 : j = i
    · subst e1
      simp [va_rf]
    · by_cases e2 : j < i
      · simp [e1, e2, Nat.lt_succ_of_lt e2]
      · simp [e1, e2, show ¬ j < i + 1 by omega]
theorem mx_M_ok (C : mx_Me D κ base cst X p s m args meth c M n0) (hB : f2.2.2.2.2.1 ≤ mx_B) (hRc : f2.2.2.2.2.1 ≤ n0 + R.cells) (hRs : f2.2.2.2.2.2 ≤ sl0 + R.slots) (h : mx_stM M pc L S hp f2) (k : mx_Go D κ base cst p l e R s m args below meth c Q M n0 sl0 f2) : mx_Go D κ base cst p l e R s m args below meth c Q M n0 sl0 (pc, L, S, hp) := by
  obtain ⟨hx, hb, hml, hown, hts, hmn, hE, hsz⟩ := C
  intro H locs ls cells slots I
  obtain ⟨iL, iN, iP, iS, iC, iQ⟩ := id I
  simp only at iC iQ iP
  have hK := hE.1
  obtain ⟨idx, t, N, K, n, kk, r, hd, ht, w1, w2, rfl, hn, hk, hN, hKK, hN2, hK2, rfl⟩ := h
  simp only at hB hRc hRs
  have hts6 : mx_ty t = .array (mx_ty (t - 6)) := by rcases ht with rfl | rfl <;> rfl
  have hover : (Cond.arrayOver (.array (mx_ty (t - 6)))).before args s = true := by
    rcases ht with rfl | rfl
    · exact hE.2.2.1.2.2.2.1
    · exact hE.2.2.1.2.2.2.2
  have hcb : componentBytes (mx_ty (t - 6)) ≤ 100 := by rcases ht with rfl | rfl <;> decide
  have hb2 : K * componentBytes (mx_ty (t - 6)) ≤ 536870912 := Nat.le_trans (Nat.mul_le_mul hK2 hcb) (by decide)
  have hdf : fits (mx_ty (t - 6)) (defaultValue (mx_ty (t - 6))) = true := by rcases ht with rfl | rfl <;> rfl
  have hdd : (defaultValue (mx_ty (t - 6))).isDefault = true := by rcases ht with rfl | rfl <;> rfl
  intro T hT Xs
  subst hN; subst hKK
  obtain ⟨vm₁, cA, comp, -, fA, fC, -, -, X', step⟩ := Xs.multianewarray2F hx hown (ty := mx_ty (t - 6)) (by rw [← hts6]; exact hts _ w1) hover (hts _ w2) (g := F0 m pc ls (.int kk :: .int n :: r.map (mx_rv (mx_ρ base cst)))) rfl (by rw [hb]; exact hd) rfl hn hk (by omega) hb2 (by omega) hdf hdd (by omega) (by omega)
  have h3 := Xs.heapSize
  have hTs : T.heap.size = base + hp.2.1 := by
    rw [hT] at h3 ⊢
    have h4 : base + hp.2.1 ≤ H.size := by
      rcases Nat.eq_zero_or_pos hp.2.1 with z | z
      · have := iS.1
        omega
      · have h5 := (iP (hp.2.1 - 1) _ (mx_w_get (show hp.2.1 - 1 < hp.2.1 by omega))).lt
        simp only at h5
        rw [mx_ρ_lt (by omega)] at h5
        omega
    omega
  have eA : cA = κ t := by
    have h2 := (hK.2 t _ (mx_tys_get κ (show t < 8 by omega))).2
    rcases ht with rfl | rfl
    · exact Option.some.inj (Eq.trans (Eq.symm fA) h2)
    · exact Option.some.inj (Eq.trans (Eq.symm fA) h2)
  have eC : comp = κ (t - 6) := by
    have h2 := (hK.2 (t - 6) _ (mx_tys_get κ (show t - 6 < 8 by omega))).2
    rcases ht with rfl | rfl
    · exact Option.some.inj (Eq.trans (Eq.symm fC) h2)
    · exact Option.some.inj (Eq.trans (Eq.symm fC) h2)
  subst eA; subst eC
  obtain ⟨g1, g2, -, -⟩ := Jvm.Free.Multi.fill_facts (T.setVm vm₁) (κ t) (κ (t - 6)) n.toNatClampNeg kk.toNatClampNeg (defaultValue (mx_ty (t - 6))) n.toNatClampNeg
  have hTv : (T.setVm vm₁).heap = T.heap := rfl
  rw [hTv] at g1 g2
  have hP2 : va_P D mx_cls (mx_w (mx_ρ base cst) κ (mx_grid hp.1 hp.2.1 t n.toNatClampNeg kk.toNatClampNeg) (hp.2.1 + 1 + n.toNatClampNeg)) (Jvm.Free.Multi.fill (T.setVm vm₁) (κ t) (κ (t - 6)) n.toNatClampNeg kk.toNatClampNeg (defaultValue (mx_ty (t - 6))) n.toNatClampNeg).heap := by
    intro i q hq
    obtain ⟨hi, rfl⟩ := mx_w_lt hq
    rcases Nat.lt_trichotomy i hp.2.1 with c1 | c1 | c1
    · have e1 : mx_grid hp.1 hp.2.1 t n.toNatClampNeg kk.toNatClampNeg i = hp.1 i := by
        unfold mx_grid
        rw [if_neg (by omega), if_neg (by omega)]
      rw [e1]
      refine (iP i _ (mx_w_get c1)).kept ?_
      show _ = H[mx_ρ base cst i]?
      rw [mx_ρ_lt (by omega), ← hT]
      exact Jvm.Free.Multi.fill_old (T.setVm vm₁) (κ t) (κ (t - 6)) _ _ _ (by show base + i < T.heap.size; omega) _
    · subst c1
      have e1 : mx_grid hp.1 hp.2.1 t n.toNatClampNeg kk.toNatClampNeg hp.2.1 = .inl (t, n.toNatClampNeg, .inr (.inr (.inr (.inr (fun j => if j < n.toNatClampNeg then some (hp.2.1 + 1 + j) else none))))) := if_pos rfl
      rw [e1, mx_ρ_lt (by omega), ← hTs]
      show _ = some (vp_cell _ _)
      rw [g2, mx_outer]
      show some _ = some (arrV (κ t) n.toNatClampNeg (fun j => va_rf ((if j < n.toNatClampNeg then some (hp.2.1 + 1 + j) else none : Option Nat).map (mx_ρ base cst))))
      refine congrArg some (congrArg (arrV (κ t) n.toNatClampNeg) (funext fun j => ?_))
      by_cases hj : j < n.toNatClampNeg
      · rw [if_pos hj, if_pos hj]
        show va_rf (some _) = va_rf (some (mx_ρ base cst (hp.2.1 + 1 + j)))
        rw [mx_ρ_lt (by omega), hTs, show base + hp.2.1 + 1 + j = base + (hp.2.1 + 1 + j) by omega]
      · rw [if_neg hj, if_neg hj]
        rfl
    · obtain ⟨j, rfl⟩ : ∃ j, i = hp.2.1 + 1 + j := ⟨i - (hp.2.1 + 1), by omega⟩
      have e1 : mx_grid hp.1 hp.2.1 t n.toNatClampNeg kk.toNatClampNeg (hp.2.1 + 1 + j) = .inl (t - 6, mx_arr0 (t - 6) kk.toNatClampNeg) := by
        unfold mx_grid
        rw [if_neg (by omega), if_pos (by omega)]
      have g3 := Jvm.Free.Multi.fill_inner (T.setVm vm₁) (κ t) (κ (t - 6)) n.toNatClampNeg kk.toNatClampNeg (defaultValue (mx_ty (t - 6))) n.toNatClampNeg j (by omega)
      rw [hTv, hTs] at g3
      rw [e1, mx_ρ_lt (by omega), show base + (hp.2.1 + 1 + j) = base + hp.2.1 + 1 + j by omega]
      show _ = some (vp_cell _ _)
      rw [g3]
      refine congrArg some ?_
      show ({ cls := κ (t - 6), slots := Array.replicate kk.toNatClampNeg (defaultValue (mx_ty (t - 6))), vm := .none } : Cell) = _
      rw [arrV_new]
      rcases ht with rfl | rfl <;> rfl
  have hS2 : va_S (fun q => base ≤ q) s.heap (Jvm.Free.Multi.fill (T.setVm vm₁) (κ t) (κ (t - 6)) n.toNatClampNeg kk.toNatClampNeg (defaultValue (mx_ty (t - 6))) n.toNatClampNeg).heap locs := by
    refine ⟨by rw [g1, hTs]; omega, fun q h1 h2 => ?_, iS.2.2⟩
    rw [Jvm.Free.Multi.fill_old (T.setVm vm₁) (κ t) (κ (t - 6)) _ _ _ (by show q < T.heap.size; omega) _]
    show T.heap[q]? = _
    rw [hT]
    exact iS.2.1 q h1 h2
  obtain ⟨t2, a1, b1⟩ := k _ locs ls (cells + 1 + n.toNatClampNeg) (slots + n.toNatClampNeg + n.toNatClampNeg * kk.toNatClampNeg) ⟨iL, iN, hP2, hS2, by show n0 + (cells + 1 + n.toNatClampNeg) = hp.2.1 + 1 + n.toNatClampNeg; omega, by show sl0 + (slots + n.toNatClampNeg + n.toNatClampNeg * kk.toNatClampNeg) = hp.2.2 + n.toNatClampNeg + n.toNatClampNeg * kk.toNatClampNeg; omega⟩ _ rfl X'
  refine ⟨t2, step t2 ?_, b1⟩
  rw [hTs]
  have e5 : mx_rv (mx_ρ base cst) (.ref hp.2.1) = .ref (base + hp.2.1) := by
    show Value.ref (mx_ρ base cst hp.2.1) = _
    rw [mx_ρ_lt (by omega)]
  simp only [List.map_cons, e5] at a1
  exact a1
end MXN
