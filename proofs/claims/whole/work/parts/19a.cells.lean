/-! ===== rows over any cells; a block of cells that grows ===== -/
def gR (X : Nat × (Nat → Int32)) (d : Nat) (M : mx_M) (pc : Nat) (L : mx_Lo) (S : List Value) (H : mx_Hp) (v : Option Value) (H2 : mx_Hp) : Prop := ∃ k, mx_run X (mx_call X d) M k (pc, L, S, H) (v, H2)
-- cells from a on are those of l
def pu (h : Nat → mx_C) (a : Nat) (l : List mx_C) : Nat → mx_C := fun i => if i < a then h i else (l[i - a]?).getD (h i)
theorem pu_lt {h : Nat → mx_C} {a i : Nat} {l : List mx_C} (hi : i < a) : pu h a l i = h i := if_pos hi
theorem pu_ge {h : Nat → mx_C} {a j : Nat} {l : List mx_C} : pu h a l (a + j) = (l[j]?).getD (h (a + j)) := by
  unfold pu
  rw [if_neg (by omega), Nat.add_sub_cancel_left]
theorem pu_at {h : Nat → mx_C} {a j : Nat} {l : List mx_C} {c : mx_C} (hj : l[j]? = some c) : pu h a l (a + j) = c := by rw [pu_ge, hj]; rfl
theorem pu_set {h : Nat → mx_C} {a j : Nat} {l : List mx_C} {c : mx_C} (hj : j < l.length) : va_up (pu h a l) (a + j) c = pu h a (l.set j c) := by
  funext i
  unfold va_up
  by_cases e : i = a + j
  · subst e
    rw [if_pos rfl, pu_ge, List.getElem?_set_self hj]; rfl
  · rw [if_neg e]
    unfold pu
    by_cases g : i < a
    · rw [if_pos g, if_pos g]
    · rw [if_neg g, if_neg g, List.getElem?_set_ne (by omega)]
theorem pu_pu {h : Nat → mx_C} {a : Nat} {l m : List mx_C} : pu (pu h a l) (a + l.length) m = pu h a (l ++ m) := by
  funext i
  unfold pu
  by_cases g : i < a
  · rw [if_pos g, if_pos (by omega), if_pos g]
  · rw [if_neg g]
    by_cases g2 : i < a + l.length
    · rw [if_pos g2, if_neg g, List.getElem?_append_left (by omega)]
    · rw [if_neg g2, if_neg g, List.getElem?_append_right (by omega), List.getElem?_eq_none (by omega : l.length ≤ i - a), show i - a - l.length = i - (a + l.length) by omega]
      rfl
theorem pu_nil {h : Nat → mx_C} {a : Nat} : pu h a [] = h := by
  funext i
  unfold pu
  split <;> rfl
theorem pu_new {h : Nat → mx_C} {a n : Nat} {l : List mx_C} {c : mx_C} (hn : a + l.length = n) : va_up (pu h a l) n c = pu h a (l ++ [c]) := by
  subst hn
  rw [← pu_pu]
  funext i
  unfold va_up
  by_cases e : i = a + l.length
  · subst e
    rw [if_pos rfl, show pu (pu h a l) (a + l.length) [c] (a + l.length) = _ from pu_at (j := 0) (l := [c]) rfl]
  · rw [if_neg e]
    conv => rhs; unfold pu
    split
    · rfl
    · rw [List.getElem?_eq_none (by show 1 ≤ _; omega)]; rfl
def gc (n t N K : Nat) : List mx_C := (.inl (t, N, .inr (.inr (.inr (.inr (fun j => if j < N then some (n + 1 + j) else none)))))) :: List.replicate N (.inl (t - 6, mx_arr0 (t - 6) K))
theorem pu_grid {h : Nat → mx_C} {a n t N K : Nat} {l : List mx_C} (hn : a + l.length = n) : mx_grid (pu h a l) n t N K = pu h a (l ++ gc n t N K) := by
  subst hn
  rw [← pu_pu]
  funext i
  unfold mx_grid
  by_cases e : i = a + l.length
  · subst e
    rw [if_pos rfl, show pu (pu h a l) (a + l.length) (gc (a + l.length) t N K) (a + l.length) = _ from pu_at (j := 0) rfl]
  · rw [if_neg e]
    conv => rhs; unfold pu
    by_cases g : i < a + l.length
    · rw [if_neg (by omega), if_pos g]; rfl
    · rw [if_neg g]
      obtain ⟨j, rfl⟩ : ∃ j, i = a + l.length + 1 + j := ⟨i - (a + l.length + 1), by omega⟩
      rw [show a + l.length + 1 + j - (a + l.length) = j + 1 by omega]
      show _ = (((List.replicate N _)[j]?).getD _)
      rw [List.getElem?_replicate]
      by_cases q : j < N
      · rw [if_pos (by omega), if_pos q]; rfl
      · rw [if_neg (by omega), if_neg q]; rfl
section GR
variable {X : Nat × (Nat → Int32)} {d pc pc2 n idx a b s : Nat} {M M2 : mx_M} {L L2 : mx_Lo} {S S2 r : List Value} {H H1 H2 : mx_Hp} {h : Nat → mx_C} {l bl : List mx_C} {v w : Option Value}
theorem g_s (hs : mx_step X (mx_call X d) M (pc, L, S, H) (pc2, L2, S2, H1)) (k : gR X d M pc2 L2 S2 H1 v H2) : gR X d M pc L S H v H2 := by
  obtain ⟨j, hj⟩ := k
  exact ⟨j + 1, Or.inr ⟨_, hs, hj⟩⟩
theorem g_p {i : Instr} (hd : decode M.2.1 pc = .ok (i, n)) (hn : mx_len i = n) (hp : mx_pure pc L S i = some (pc2, L2, S2)) (k : gR X d M pc2 L2 S2 H v H2) : gR X d M pc L S H v H2 := by
  subst hn
  exact g_s (Or.inl ⟨i, hd, hp, rfl⟩) k
theorem g_go {off : Int} {t : Nat} (hd : decode M.2.1 pc = .ok (.goto off, 3)) (ht : (pc : Int) + off = (t : Int)) (k : gR X d M t L S H v H2) : gR X d M pc L S H v H2 := by
  refine g_p hd rfl ?_ k
  show mx_go pc off (fun t => some (t, L, S)) = _
  unfold mx_go
  rw [if_pos (by omega), ht]
  rfl
theorem g_cge {off : Int} {t : Nat} {x y : Int32} (hd : decode M.2.1 pc = .ok (.if_icmp .ge off, 3)) (ht : (pc : Int) + off = (t : Int)) (kt : y ≤ x → gR X d M t L r H v H2) (kf : ¬ y ≤ x → gR X d M (pc + 3) L r H v H2) : gR X d M pc L (.int y :: .int x :: r) H v H2 := by
  by_cases c : y ≤ x
  · refine g_p hd rfl (L2 := L) (S2 := r) (pc2 := t) ?_ (kt c)
    show mx_go pc off (fun t => some (if mx_c2 .ge x y then t else pc + 3, L, r)) = _
    unfold mx_go
    rw [if_pos (by omega), ht]
    dsimp only
    rw [if_pos (show mx_c2 .ge x y = true from decide_eq_true c)]
    rfl
  · refine g_p hd rfl (L2 := L) (S2 := r) (pc2 := pc + 3) ?_ (kf c)
    show mx_go pc off (fun t => some (if mx_c2 .ge x y then t else pc + 3, L, r)) = _
    unfold mx_go
    rw [if_pos (by omega), ht]
    dsimp only
    rw [if_neg (show ¬ mx_c2 .ge x y = true from fun z => c (of_decide_eq_true z))]
theorem g_inc {z : Int} {x y : Int32} (hd : decode M.2.1 pc = .ok (.iinc n z, 3)) (hy : Int32.ofInt z = y) (hx : L[n]? = some (some (.int x))) (hl : mx_s1 L n (.int (x + y)) = L2) (k : gR X d M (pc + 3) L2 S H v H2) : gR X d M pc L S H v H2 := by
  subst hy; subst hl
  refine g_p hd rfl ?_ k
  show mx_li L n _ = _
  unfold mx_li
  rw [hx]
  dsimp only
  have hn : n < L.length := by
    rcases Nat.lt_or_ge n L.length with q | q
    · exact q
    · rw [List.getElem?_eq_none q] at hx; cases hx
  rw [if_pos hn]
theorem g_k {i : Instr} {x : Int32} {m : Nat} (z : Int32) (hd : decode M.2.1 pc = .ok (i, m)) (hn : mx_len i = m) (hp : mx_pure pc L S i = some (pc2, L, .int z :: S)) (hz : z = x) (k : gR X d M pc2 L (.int x :: S) H v H2) : gR X d M pc L S H v H2 := by
  subst hz
  exact g_p hd hn hp k
theorem g_get {ci k : Nat} {fs : List Value} {x : Value} (hd : decode M.2.1 pc = .ok (.getfield idx, 3)) (hk : mx_fk M.1.cls idx ci k) (hb : b < H.2.1) (hB : b < mx_B) (hc : H.1 b = .inr (ci, fs)) (hv : fs[k]? = some x) (kk : gR X d M (pc + 3) L (x :: r) H v H2) : gR X d M pc L (.ref b :: r) H v H2 :=
  g_s (Or.inr (Or.inr (Or.inr (Or.inl (Or.inl ⟨idx, ci, k, b, fs, x, r, hd, hk, rfl, hb, hB, hc, hv, rfl⟩))))) kk
theorem fp_i {ci k : Nat} {q : vw_C} (hq : mx_cls[ci]? = some q) (hk : mx_fk M.1.cls idx ci k) (hf : (q.2.1 k).2.2.2 = false ∨ ((q.2.1 k).2.2.2 = true ∧ M.1.name = "<init>" ∧ q.1 = M.1.cls)) : mx_fp M idx ci k := by
  obtain ⟨r, h1, h2, h3, h4⟩ := hk
  rw [hq] at h1
  cases h1
  exact ⟨q, hq, h2, h3, h4, hf⟩
theorem g_put {ci k : Nat} {fs : List Value} {x : Value} {tl : List mx_C} (hd : decode M.2.1 pc = .ok (.putfield idx, 3)) (hk : mx_fp M idx ci k) (hn : a < n) (hl : k < fs.length) (h1 : narrow (mx_tyF ci k) x = x) (h2 : fits (mx_tyF ci k) x = true) (kk : gR X d M (pc + 3) L r (pu h a (.inr (ci, fs.set k x) :: tl), n, s) v H2) : gR X d M pc L (x :: .ref a :: r) (pu h a (.inr (ci, fs) :: tl), n, s) v H2 := by
  refine g_s (Or.inr (Or.inr (Or.inr (Or.inr (Or.inr (Or.inl (Or.inl ⟨idx, ci, k, a, fs, x, r, hd, hk, rfl, hn, ?_, hl, h1, h2, ?_⟩))))))) kk
  · exact pu_at (j := 0) rfl
  · show (_, _, _, (_, _, _)) = (_, _, _, (_, _, _))
    rw [show va_up (pu h a (.inr (ci, fs) :: tl)) a _ = _ from pu_set (j := 0) (Nat.zero_lt_succ _)]
    rfl
def mx_nw (own : String) (idx ci N : Nat) : Prop := ∃ q : vw_C, mx_cls[ci]? = some q ∧ q.2.2 = N ∧ Cond.classLink own idx q.1 ∈ mx_gd ∧ Cond.instantiable q.1 q.2.2 ∈ mx_gd ∧ Cond.initialized q.1 ∈ mx_gd
theorem g_new {ci N : Nat} (hd : decode M.2.1 pc = .ok (.new idx, 3)) (hw : mx_nw M.1.cls idx ci N) (hn : a + l.length = n) (kk : gR X d M (pc + 3) L (.ref n :: S) (pu h a (l ++ [.inr (ci, mx_dfs ci N)]), n + 1, s + N) v H2) : gR X d M pc L S (pu h a l, n, s) v H2 := by
  obtain ⟨q, q1, q2, q3, q4, q5⟩ := hw
  subst q2
  rw [← pu_new hn] at kk
  exact g_s (Or.inr (Or.inr (Or.inr (Or.inr (Or.inr (Or.inr (Or.inl (Or.inl ⟨idx, ci, q, hd, q1, q3, q4, q5, rfl⟩)))))))) kk
theorem g_na {t N : Nat} {x : Int32} {y : ArrayType} (hd : decode M.2.1 pc = .ok (.newarray y, 2)) (ht : t < 3) (hy : newarray.typeOf y = mx_ty t) (hw : Cond.arrayClass (mx_ty t) ∈ mx_gd) (h0 : ¬ x < 0) (hN : x.toNatClampNeg = N) (h1 : N ≤ 10000) (hn : a + l.length = n) (kk : gR X d M (pc + 2) L (.ref n :: r) (pu h a (l ++ [.inl (t, mx_arr0 t N)]), n + 1, s + N) v H2) : gR X d M pc L (.int x :: r) (pu h a l, n, s) v H2 := by
  rw [← pu_new hn] at kk
  exact g_s (Or.inr (Or.inr (Or.inr (Or.inr (Or.inr (Or.inr (Or.inl (Or.inr (Or.inl ⟨y, t, N, x, r, hd, ht, hy, hw, rfl, h0, hN, h1, rfl⟩))))))))) kk
theorem g_an {t N : Nat} {C : String} {x : Int32} (hd : decode M.2.1 pc = .ok (.anewarray idx, 3)) (h3 : 3 ≤ t) (ht : t < 6) (hy : mx_ty t = .object C) (hw : Cond.classLink M.1.cls idx C ∈ mx_gd) (h0 : ¬ x < 0) (hN : x.toNatClampNeg = N) (h1 : N ≤ 10000) (hn : a + l.length = n) (kk : gR X d M (pc + 3) L (.ref n :: r) (pu h a (l ++ [.inl (t, mx_arr0 t N)]), n + 1, s + N) v H2) : gR X d M pc L (.int x :: r) (pu h a l, n, s) v H2 := by
  rw [← pu_new hn] at kk
  exact g_s (Or.inr (Or.inr (Or.inr (Or.inr (Or.inr (Or.inr (Or.inl (Or.inr (Or.inr ⟨idx, t, N, C, x, r, hd, h3, ht, hy, hw, rfl, h0, hN, h1, rfl⟩))))))))) kk
theorem g_mn {t N K : Nat} {x y : Int32} (hd : decode M.2.1 pc = .ok (.multianewarray idx 2, 4)) (ht : t = 6 ∨ t = 7) (hw : Cond.classLink M.1.cls idx ("[" ++ (mx_ty t).toString) ∈ mx_gd) (hw2 : Cond.arrayClass (mx_ty (t - 6)) ∈ mx_gd) (h0 : ¬ x < 0) (h9 : ¬ y < 0) (hN : x.toNatClampNeg = N) (hK : y.toNatClampNeg = K) (h1 : N ≤ 10000) (h2 : K ≤ 10000) (hn : a + l.length = n) (kk : gR X d M (pc + 4) L (.ref n :: r) (pu h a (l ++ gc n t N K), n + 1 + N, s + N + N * K) v H2) : gR X d M pc L (.int y :: .int x :: r) (pu h a l, n, s) v H2 := by
  rw [← pu_grid hn] at kk
  exact g_s (Or.inr (Or.inr (Or.inr (Or.inr (Or.inr (Or.inr (Or.inr (Or.inl ⟨idx, t, N, K, x, y, r, hd, ht, hw, hw2, rfl, h0, h9, hN, hK, h1, h2, rfl⟩)))))))) kk
theorem g_ob (hd : decode M.2.1 pc = .ok (.invokespecial idx, 3)) (w1 : Cond.methodLink M.1.cls idx objectInit ∈ mx_gd) (w2 : Cond.instanceMethod objectInit ∈ mx_gd) (w3 : Cond.code objectInit ⟨#[0xb1]⟩ 1 none ∈ mx_gd) (hc : (r.map fun v => v.category).sum ≤ 8) (kk : gR X d M (pc + 3) L r H v H2) : gR X d M pc L (.ref b :: r) H v H2 :=
  g_s (Or.inr (Or.inr (Or.inr (Or.inr (Or.inr (Or.inr (Or.inr (Or.inr (Or.inl (Or.inl ⟨idx, b, r, hd, w1, w2, w3, rfl, hc, rfl⟩)))))))))) kk
-- a constructor: what it makes of an object at a, and behind it
def iC (X : Nat × (Nat → Int32)) (d : Nat) (M : mx_M) (a ci N : Nat) (bl : List mx_C) (sl : Nat) : Prop := ∀ (h : Nat → mx_C) (s : Nat), mx_call X d M [.ref a] (pu h a [.inr (ci, mx_dfs ci N)], a + 1, s) (none, (pu h a bl, a + bl.length, s + sl))
def mx_iw (own : String) (idx : Nat) (M2 : mx_M) : Prop := mx_mok M2 ∧ (Cond.methodLink own idx M2.1 ∈ mx_gd ∨ ∃ host, Cond.methodLinkNest own idx M2.1 host ∈ mx_nest) ∧ Cond.instanceMethod M2.1 ∈ mx_gd ∧ M2.1.name = "<init>" ∧ M2.2.2.2 = none ∧ (parseMethodDescriptor M2.1.desc).map (fun d => d.parameters.length) = some 0 ∧ 1 ≤ M2.2.2.1
theorem g_sp {d1 : Nat} (hd : decode M.2.1 pc = .ok (.invokespecial idx, 3)) (hw : mx_iw M.1.cls idx M2) (hcat : (r.map fun v => v.category).sum ≤ 8) (hle : d1 ≤ d) (hc : mx_call X d1 M2 [.ref b] H (none, H1)) (kk : gR X d M (pc + 3) L r H1 v H2) : gR X d M pc L (.ref b :: r) H v H2 := by
  obtain ⟨w1, w2, w3, w4, w5, w6, w7⟩ := hw
  refine g_s (Or.inr (Or.inr (Or.inr (Or.inr (Or.inr (Or.inr (Or.inr (Or.inr (Or.inr ⟨M2, [.ref b], r, idx, none, H1, w1, rfl, hcat, w7, mx_call_le hle hc, rfl, ?_⟩))))))))) kk
  rcases w2 with w2 | ⟨host, w2⟩
  · exact Or.inr (Or.inr (Or.inr (Or.inl ⟨b, [], rfl, hd, w2, w3, w4, w5, w6⟩)))
  · exact Or.inr (Or.inr (Or.inr (Or.inr ⟨b, [], host, rfl, hd, w2, w3, w4, w5, w6⟩)))
-- new, dup, its constructor
theorem g_mk {d1 ci N sl idx2 : Nat} (hd : decode M.2.1 pc = .ok (.new idx, 3)) (hd2 : decode M.2.1 (pc + 3) = .ok (.dup, 1)) (hd3 : decode M.2.1 (pc + 4) = .ok (.invokespecial idx2, 3)) (hw : mx_nw M.1.cls idx ci N) (hw2 : mx_iw M.1.cls idx2 M2) (hn : a + l.length = n) (hcat : ((Value.ref n :: S).map fun v => v.category).sum ≤ 8) (hle : d1 ≤ d) (hc : iC X d1 M2 n ci N bl sl) (kk : gR X d M (pc + 7) L (.ref n :: S) (pu h a (l ++ bl), n + bl.length, s + N + sl) v H2) : gR X d M pc L S (pu h a l, n, s) v H2 := by
  refine g_new hd hw hn ?_
  refine g_p (S2 := .ref n :: .ref n :: S) hd2 rfl rfl ?_
  subst hn
  rw [← pu_pu]
  rw [← pu_pu] at kk
  exact g_sp hd3 hw2 hcat hle (hc _ _) kk
-- the same, put into an array
theorem g_mkst {d1 ci N sl idx2 t j m : Nat} {q : vw_C} {vs : List Value} {i : Int32} {f : Nat → Option Nat} (hd : decode M.2.1 pc = .ok (.new idx, 3)) (hd2 : decode M.2.1 (pc + 3) = .ok (.dup, 1)) (hd3 : decode M.2.1 (pc + 4) = .ok (.invokespecial idx2, 3)) (hd4 : decode M.2.1 (pc + 7) = .ok (.aastore, 1)) (hw : mx_nw M.1.cls idx ci N) (hw2 : mx_iw M.1.cls idx2 M2) (hn : a + l.length = n) (hcat : ((Value.ref n :: .int i :: .ref (a + j) :: S).map fun v => v.category).sum ≤ 8) (hle : d1 ≤ d) (hc : iC X d1 M2 n ci N bl sl) (hq : mx_cls[ci]? = some q) (ht : t < 8) (hty : mx_ty t = .object q.1) (hj : l[j]? = some (.inl (t, m, .inr (.inr (.inr (.inr f)))))) (hbl : bl[0]? = some (.inr (ci, vs))) (hi : vp_in i m) (kk : gR X d M (pc + 8) L S (pu h a (l.set j (.inl (t, m, .inr (.inr (.inr (.inr (va_up f i.toNatClampNeg (some n))))))) ++ bl), n + bl.length, s + N + sl) v H2) : gR X d M pc L (.int i :: .ref (a + j) :: S) (pu h a l, n, s) v H2 := by
  refine g_mk hd hd2 hd3 hw hw2 hn hcat hle hc ?_
  have hjl : j < l.length := by
    rcases Nat.lt_or_ge j l.length with q | q
    · exact q
    · rw [List.getElem?_eq_none q] at hj; cases hj
  have hb0 : 0 < bl.length := by
    rcases Nat.lt_or_ge 0 bl.length with q | q
    · exact q
    · rw [List.getElem?_eq_none q] at hbl; cases hbl
  refine g_s (Or.inr (Or.inr (Or.inr (Or.inr (Or.inr (Or.inl (Or.inr (Or.inr (Or.inr (Or.inr (Or.inl ⟨i, a + j, n, m, t, ci, q, vs, f, S, hd4, rfl, ?_, ?_, ht, hq, hty, ?_, ?_, hi, rfl⟩))))))))))) ?_
  · show a + j < n + bl.length
    omega
  · show n < n + bl.length
    omega
  · exact pu_at (by rw [List.getElem?_append_left hjl]; exact hj)
  · subst hn
    exact pu_at (by rw [List.getElem?_append_right (Nat.le_refl _), Nat.sub_self]; exact hbl)
  · rw [← List.set_append_left _ _ hjl, ← pu_set (by rw [List.length_append]; omega)] at kk
    exact kk
theorem g_rv {h2 : Nat → mx_C} {n2 s2 : Nat} (hd : decode M.2.1 pc = .ok (.return_, 1)) (ht : M.2.2.2 = none) (e1 : h = h2) (e2 : n = n2) (e3 : s = s2) : gR X d M pc L [] (h, n, s) none (h2, n2, s2) := by
  subst e1; subst e2; subst e3
  exact ⟨1, Or.inl (Or.inr (Or.inr ⟨hd, ht, rfl, rfl⟩))⟩
theorem iC_of {ci N sl : Nat} (hh : ∀ (h : Nat → mx_C) (s : Nat), gR X d M 0 (mx_ent [.ref a] M.2.2.1) [] (pu h a [.inr (ci, mx_dfs ci N)], a + 1, s) none (pu h a bl, a + bl.length, s + sl)) : iC X (d + 1) M a ci N bl sl := fun h s => hh h s
theorem g_ias {f : Nat → Int32} {j m : Nat} {i x : Int32} (hd : decode M.2.1 pc = .ok (.iastore, 1)) (hj : l[j]? = some (.inl (0, m, .inl f))) (hn : a + j < n) (hi : vp_in i m) (kk : gR X d M (pc + 1) L r (pu h a (l.set j (.inl (0, m, .inl (upd f i.toNatClampNeg x)))), n, s) v H2) : gR X d M pc L (.int x :: .int i :: .ref (a + j) :: r) (pu h a l, n, s) v H2 := by
  have hjl : j < l.length := by
    rcases Nat.lt_or_ge j l.length with q | q
    · exact q
    · rw [List.getElem?_eq_none q] at hj; cases hj
  rw [← pu_set hjl] at kk
  exact g_s (Or.inr (Or.inr (Or.inr (Or.inr (Or.inr (Or.inl (Or.inr (Or.inl ⟨i, x, a + j, m, f, r, hd, rfl, hn, pu_at hj, hi, rfl⟩)))))))) kk
end GR
theorem ob_w2 : Cond.instanceMethod objectInit ∈ mx_gd := (mx_in1 (mt1 (List.mem_of_getElem? (i := 28) rfl)) rfl)
theorem ob_w3 : Cond.code objectInit ⟨#[0xb1]⟩ 1 none ∈ mx_gd := (mx_in1 (mt1 (List.mem_of_getElem? (i := 29) rfl)) rfl)
theorem ac0 : Cond.arrayClass (mx_ty 0) ∈ mx_gd := (mx_in1 (mt1 (List.mem_of_getElem? (i := 53) rfl)) rfl)
theorem ac1 : Cond.arrayClass (mx_ty 1) ∈ mx_gd := (mx_in1 (mt1 (List.mem_of_getElem? (i := 223) rfl)) rfl)
theorem ac2 : Cond.arrayClass (mx_ty 2) ∈ mx_gd := (mx_in1 (mt2 (List.mem_of_getElem? (i := 36) rfl)) rfl)
theorem obX0_1 : Cond.methodLink "HotAtSeven$Asker" 1 objectInit ∈ mx_gd := (mx_in1 (mt2 (List.mem_of_getElem? (i := 166) rfl)) rfl)
theorem obX1_3 : Cond.methodLink "HotAtSeven$Book" 3 objectInit ∈ mx_gd := (mx_in1 (mt1 (List.mem_of_getElem? (i := 91) rfl)) rfl)
theorem obX2_3 : Cond.methodLink "HotAtSeven$Judge" 3 objectInit ∈ mx_gd := (mx_in1 (mt2 (List.mem_of_getElem? (i := 125) rfl)) rfl)
theorem nwX2_9 : mx_nw "HotAtSeven$Judge" 9 4 3 := ⟨(RX4, TX4, 3), rfl, rfl, (mx_in1 (mt2 (List.mem_of_getElem? (i := 126) rfl)) rfl), (mx_in1 (mt2 (List.mem_of_getElem? (i := 127) rfl)) rfl), (mx_in1 (mt1 (List.mem_of_getElem? (i := 11) rfl)) rfl)⟩
theorem iwX2_11 : mx_iw "HotAtSeven$Judge" 11 mX4_init := ⟨oX4_init, Or.inr ⟨"HotAtSeven", by decide +kernel⟩, (mx_in1 (mt2 (List.mem_of_getElem? (i := 129) rfl)) rfl), rfl, rfl, by decide +kernel, by decide⟩
theorem cwX2_18 : Cond.classLink "HotAtSeven$Judge" 18 "HotAtSeven$Way" ∈ mx_gd := (mx_in1 (mt2 (List.mem_of_getElem? (i := 143) rfl)) rfl)
theorem nwX2_24 : mx_nw "HotAtSeven$Judge" 24 9 4 := ⟨(RX9, TX9, 4), rfl, rfl, (mx_in1 (mt2 (List.mem_of_getElem? (i := 144) rfl)) rfl), (mx_in1 (mt2 (List.mem_of_getElem? (i := 37) rfl)) rfl), (mx_in1 (mt1 (List.mem_of_getElem? (i := 9) rfl)) rfl)⟩
theorem iwX2_26 : mx_iw "HotAtSeven$Judge" 26 mX9_init := ⟨oX9_init, Or.inr ⟨"HotAtSeven", by decide +kernel⟩, (mx_in1 (mt2 (List.mem_of_getElem? (i := 39) rfl)) rfl), rfl, rfl, by decide +kernel, by decide⟩
theorem nwX2_18 : mx_nw "HotAtSeven$Judge" 18 10 7 := ⟨(RX10, TX10, 7), rfl, rfl, (mx_in1 (mt2 (List.mem_of_getElem? (i := 143) rfl)) rfl), (mx_in1 (mt2 (List.mem_of_getElem? (i := 1) rfl)) rfl), (mx_in1 (mt1 (List.mem_of_getElem? (i := 8) rfl)) rfl)⟩
theorem iwX2_35 : mx_iw "HotAtSeven$Judge" 35 mX10_init := ⟨oX10_init, Or.inr ⟨"HotAtSeven", by decide +kernel⟩, (mx_in1 (mt2 (List.mem_of_getElem? (i := 3) rfl)) rfl), rfl, rfl, by decide +kernel, by decide⟩
theorem obX3_3 : Cond.methodLink "HotAtSeven$Kitchen" 3 objectInit ∈ mx_gd := (mx_in1 (mt1 (List.mem_of_getElem? (i := 218) rfl)) rfl)
theorem obX4_3 : Cond.methodLink "HotAtSeven$Oven" 3 objectInit ∈ mx_gd := (mx_in1 (mt2 (List.mem_of_getElem? (i := 131) rfl)) rfl)
theorem obX5_3 : Cond.methodLink "HotAtSeven$Planner" 3 objectInit ∈ mx_gd := (mx_in1 (mt1 (List.mem_of_getElem? (i := 229) rfl)) rfl)
theorem cwX5_9 : Cond.classLink "HotAtSeven$Planner" 9 "HotAtSeven$Way" ∈ mx_gd := (mx_in1 (mt1 (List.mem_of_getElem? (i := 230) rfl)) rfl)
theorem cwX5_24 : Cond.classLink "HotAtSeven$Planner" 24 ("[" ++ (mx_ty 7).toString) ∈ mx_gd := (mx_in1 (mt1 (List.mem_of_getElem? (i := 232) rfl)) rfl)
theorem cwX5_29 : Cond.classLink "HotAtSeven$Planner" 29 "HotAtSeven$Tally" ∈ mx_gd := (mx_in1 (mt1 (List.mem_of_getElem? (i := 234) rfl)) rfl)
theorem cwX5_50 : Cond.classLink "HotAtSeven$Planner" 50 ("[" ++ (mx_ty 6).toString) ∈ mx_gd := (mx_in1 (mt1 (List.mem_of_getElem? (i := 236) rfl)) rfl)
theorem nwX5_59 : mx_nw "HotAtSeven$Planner" 59 1 19 := ⟨(RX1, TX1, 19), rfl, rfl, (mx_in1 (mt1 (List.mem_of_getElem? (i := 237) rfl)) rfl), (mx_in1 (mt1 (List.mem_of_getElem? (i := 87) rfl)) rfl), (mx_in1 (mt1 (List.mem_of_getElem? (i := 5) rfl)) rfl)⟩
theorem iwX5_61 : mx_iw "HotAtSeven$Planner" 61 mX1_init := ⟨oX1_init, Or.inr ⟨"HotAtSeven", by decide +kernel⟩, (mx_in1 (mt1 (List.mem_of_getElem? (i := 89) rfl)) rfl), rfl, rfl, by decide +kernel, by decide⟩
theorem nwX5_66 : mx_nw "HotAtSeven$Planner" 66 3 1 := ⟨(RX3, TX3, 1), rfl, rfl, (mx_in1 (mt1 (List.mem_of_getElem? (i := 239) rfl)) rfl), (mx_in1 (mt1 (List.mem_of_getElem? (i := 214) rfl)) rfl), (mx_in1 (mt1 (List.mem_of_getElem? (i := 6) rfl)) rfl)⟩
theorem iwX5_68 : mx_iw "HotAtSeven$Planner" 68 mX3_init := ⟨oX3_init, Or.inr ⟨"HotAtSeven", by decide +kernel⟩, (mx_in1 (mt1 (List.mem_of_getElem? (i := 216) rfl)) rfl), rfl, rfl, by decide +kernel, by decide⟩
theorem nwX5_9 : mx_nw "HotAtSeven$Planner" 9 10 7 := ⟨(RX10, TX10, 7), rfl, rfl, (mx_in1 (mt1 (List.mem_of_getElem? (i := 230) rfl)) rfl), (mx_in1 (mt2 (List.mem_of_getElem? (i := 1) rfl)) rfl), (mx_in1 (mt1 (List.mem_of_getElem? (i := 8) rfl)) rfl)⟩
theorem iwX5_73 : mx_iw "HotAtSeven$Planner" 73 mX10_init := ⟨oX10_init, Or.inr ⟨"HotAtSeven", by decide +kernel⟩, (mx_in1 (mt2 (List.mem_of_getElem? (i := 3) rfl)) rfl), rfl, rfl, by decide +kernel, by decide⟩
theorem nwX5_29 : mx_nw "HotAtSeven$Planner" 29 9 4 := ⟨(RX9, TX9, 4), rfl, rfl, (mx_in1 (mt1 (List.mem_of_getElem? (i := 234) rfl)) rfl), (mx_in1 (mt2 (List.mem_of_getElem? (i := 37) rfl)) rfl), (mx_in1 (mt1 (List.mem_of_getElem? (i := 9) rfl)) rfl)⟩
theorem iwX5_74 : mx_iw "HotAtSeven$Planner" 74 mX9_init := ⟨oX9_init, Or.inr ⟨"HotAtSeven", by decide +kernel⟩, (mx_in1 (mt2 (List.mem_of_getElem? (i := 39) rfl)) rfl), rfl, rfl, by decide +kernel, by decide⟩
theorem obX6_3 : Cond.methodLink "HotAtSeven$Reader" 3 objectInit ∈ mx_gd := (mx_in1 (mt1 (List.mem_of_getElem? (i := 59) rfl)) rfl)
theorem obX7_3 : Cond.methodLink "HotAtSeven$Row" 3 objectInit ∈ mx_gd := (mx_in1 (mt2 (List.mem_of_getElem? (i := 181) rfl)) rfl)
theorem obX8_1 : Cond.methodLink "HotAtSeven$Sheets" 1 objectInit ∈ mx_gd := (mx_in1 (mt1 (List.mem_of_getElem? (i := 35) rfl)) rfl)
theorem cwX8_16 : Cond.classLink "HotAtSeven$Sheets" 16 ("[" ++ (mx_ty 6).toString) ∈ mx_gd := (mx_in1 (mt1 (List.mem_of_getElem? (i := 36) rfl)) rfl)
theorem obX9_3 : Cond.methodLink "HotAtSeven$Tally" 3 objectInit ∈ mx_gd := (mx_in1 (mt2 (List.mem_of_getElem? (i := 41) rfl)) rfl)
theorem obX10_3 : Cond.methodLink "HotAtSeven$Way" 3 objectInit ∈ mx_gd := (mx_in1 (mt2 (List.mem_of_getElem? (i := 5) rfl)) rfl)
theorem obX11_1 : Cond.methodLink "HotAtSeven" 1 objectInit ∈ mx_gd := (mx_in1 (mt1 (List.mem_of_getElem? (i := 27) rfl)) rfl)
theorem nwX11_7 : mx_nw "HotAtSeven" 7 8 3 := ⟨(RX8, TX8, 3), rfl, rfl, (mx_in1 (mt1 (List.mem_of_getElem? (i := 30) rfl)) rfl), (mx_in1 (mt1 (List.mem_of_getElem? (i := 31) rfl)) rfl), (mx_in1 (mt1 (List.mem_of_getElem? (i := 2) rfl)) rfl)⟩
theorem iwX11_9 : mx_iw "HotAtSeven" 9 mX8_init := ⟨oX8_init, Or.inl (mx_in1 (mt1 (List.mem_of_getElem? (i := 32) rfl)) rfl), (mx_in1 (mt1 (List.mem_of_getElem? (i := 33) rfl)) rfl), rfl, rfl, by decide +kernel, by decide⟩
theorem nwX11_16 : mx_nw "HotAtSeven" 16 6 7 := ⟨(RX6, TX6, 7), rfl, rfl, (mx_in1 (mt1 (List.mem_of_getElem? (i := 54) rfl)) rfl), (mx_in1 (mt1 (List.mem_of_getElem? (i := 55) rfl)) rfl), (mx_in1 (mt1 (List.mem_of_getElem? (i := 4) rfl)) rfl)⟩
theorem iwX11_18 : mx_iw "HotAtSeven" 18 mX6_init := ⟨oX6_init, Or.inr ⟨"HotAtSeven", by decide +kernel⟩, (mx_in1 (mt1 (List.mem_of_getElem? (i := 57) rfl)) rfl), rfl, rfl, by decide +kernel, by decide⟩
theorem cwX11_23 : Cond.classLink "HotAtSeven" 23 "HotAtSeven$Book" ∈ mx_gd := (mx_in1 (mt1 (List.mem_of_getElem? (i := 85) rfl)) rfl)
theorem nwX11_23 : mx_nw "HotAtSeven" 23 1 19 := ⟨(RX1, TX1, 19), rfl, rfl, (mx_in1 (mt1 (List.mem_of_getElem? (i := 85) rfl)) rfl), (mx_in1 (mt1 (List.mem_of_getElem? (i := 87) rfl)) rfl), (mx_in1 (mt1 (List.mem_of_getElem? (i := 5) rfl)) rfl)⟩
theorem iwX11_25 : mx_iw "HotAtSeven" 25 mX1_init := ⟨oX1_init, Or.inr ⟨"HotAtSeven", by decide +kernel⟩, (mx_in1 (mt1 (List.mem_of_getElem? (i := 89) rfl)) rfl), rfl, rfl, by decide +kernel, by decide⟩
theorem nwX11_37 : mx_nw "HotAtSeven" 37 3 1 := ⟨(RX3, TX3, 1), rfl, rfl, (mx_in1 (mt1 (List.mem_of_getElem? (i := 213) rfl)) rfl), (mx_in1 (mt1 (List.mem_of_getElem? (i := 214) rfl)) rfl), (mx_in1 (mt1 (List.mem_of_getElem? (i := 6) rfl)) rfl)⟩
theorem iwX11_39 : mx_iw "HotAtSeven" 39 mX3_init := ⟨oX3_init, Or.inr ⟨"HotAtSeven", by decide +kernel⟩, (mx_in1 (mt1 (List.mem_of_getElem? (i := 216) rfl)) rfl), rfl, rfl, by decide +kernel, by decide⟩
theorem nwX11_47 : mx_nw "HotAtSeven" 47 5 20 := ⟨(RX5, TX5, 20), rfl, rfl, (mx_in1 (mt1 (List.mem_of_getElem? (i := 224) rfl)) rfl), (mx_in1 (mt1 (List.mem_of_getElem? (i := 225) rfl)) rfl), (mx_in1 (mt1 (List.mem_of_getElem? (i := 7) rfl)) rfl)⟩
theorem iwX11_49 : mx_iw "HotAtSeven" 49 mX5_init := ⟨oX5_init, Or.inl (mx_in1 (mt1 (List.mem_of_getElem? (i := 226) rfl)) rfl), (mx_in1 (mt1 (List.mem_of_getElem? (i := 227) rfl)) rfl), rfl, rfl, by decide +kernel, by decide⟩
theorem nwX11_54 : mx_nw "HotAtSeven" 54 2 4 := ⟨(RX2, TX2, 4), rfl, rfl, (mx_in1 (mt2 (List.mem_of_getElem? (i := 120) rfl)) rfl), (mx_in1 (mt2 (List.mem_of_getElem? (i := 121) rfl)) rfl), (mx_in1 (mt1 (List.mem_of_getElem? (i := 10) rfl)) rfl)⟩
theorem iwX11_56 : mx_iw "HotAtSeven" 56 mX2_init := ⟨oX2_init, Or.inl (mx_in1 (mt2 (List.mem_of_getElem? (i := 122) rfl)) rfl), (mx_in1 (mt2 (List.mem_of_getElem? (i := 123) rfl)) rfl), rfl, rfl, by decide +kernel, by decide⟩
theorem nwX11_61 : mx_nw "HotAtSeven" 61 0 2 := ⟨(RX0, TX0, 2), rfl, rfl, (mx_in1 (mt2 (List.mem_of_getElem? (i := 161) rfl)) rfl), (mx_in1 (mt2 (List.mem_of_getElem? (i := 162) rfl)) rfl), (mx_in1 (mt1 (List.mem_of_getElem? (i := 12) rfl)) rfl)⟩
theorem iwX11_63 : mx_iw "HotAtSeven" 63 mX0_init := ⟨oX0_init, Or.inr ⟨"HotAtSeven", by decide +kernel⟩, (mx_in1 (mt2 (List.mem_of_getElem? (i := 164) rfl)) rfl), rfl, rfl, by decide +kernel, by decide⟩
theorem nwX11_68 : mx_nw "HotAtSeven" 68 7 8 := ⟨(RX7, TX7, 8), rfl, rfl, (mx_in1 (mt2 (List.mem_of_getElem? (i := 176) rfl)) rfl), (mx_in1 (mt2 (List.mem_of_getElem? (i := 177) rfl)) rfl), (mx_in1 (mt1 (List.mem_of_getElem? (i := 13) rfl)) rfl)⟩
theorem iwX11_70 : mx_iw "HotAtSeven" 70 mX7_init := ⟨oX7_init, Or.inr ⟨"HotAtSeven", by decide +kernel⟩, (mx_in1 (mt2 (List.mem_of_getElem? (i := 179) rfl)) rfl), rfl, rfl, by decide +kernel, by decide⟩
theorem obX12_1 : Cond.methodLink "HotAtSevenModel" 1 objectInit ∈ mx_gd := (mx_in1 (mt5 (List.mem_of_getElem? (i := 192) rfl)) rfl)
theorem nwL_7 : mx_nw "HotAtSevenLaw" 7 11 17 := ⟨(RX11, TX11, 17), rfl, rfl, (mx_in1 (mt1 (List.mem_of_getElem? (i := 22) rfl)) rfl), (mx_in1 (mt1 (List.mem_of_getElem? (i := 23) rfl)) rfl), (mx_in1 (mt1 (List.mem_of_getElem? (i := 1) rfl)) rfl)⟩
theorem iwL_9 : mx_iw "HotAtSevenLaw" 9 mX11_init := ⟨oX11_init, Or.inl (mx_in1 (mt1 (List.mem_of_getElem? (i := 24) rfl)) rfl), (mx_in1 (mt1 (List.mem_of_getElem? (i := 25) rfl)) rfl), rfl, rfl, by decide +kernel, by decide⟩
theorem nwL_10 : mx_nw "HotAtSevenLaw" 10 12 49 := ⟨(RX12, TX12, 49), rfl, rfl, (mx_in1 (mt5 (List.mem_of_getElem? (i := 187) rfl)) rfl), (mx_in1 (mt5 (List.mem_of_getElem? (i := 188) rfl)) rfl), (mx_in1 (mt1 (List.mem_of_getElem? (i := 14) rfl)) rfl)⟩
theorem iwL_12 : mx_iw "HotAtSevenLaw" 12 mX12_init := ⟨oX12_init, Or.inl (mx_in1 (mt5 (List.mem_of_getElem? (i := 189) rfl)) rfl), (mx_in1 (mt5 (List.mem_of_getElem? (i := 190) rfl)) rfl), rfl, rfl, by decide +kernel, by decide⟩
