/-! ===== rows over the typed cells ===== -/
def tC (X : Nat × (Nat → Int32)) (d : Nat) (M : mx_M) (as : List Value) (T : St) (v : Option Value) (T2 : St) : Prop := mx_call X d M as (conc T, NN, SS) (v, (conc T2, NN, SS))
def tR (X : Nat × (Nat → Int32)) (d : Nat) (M : mx_M) (pc : Nat) (L : mx_Lo) (S : List Value) (T : St) (v : Option Value) (T2 : St) : Prop := ∃ k, mx_run X (mx_call X d) M k (pc, L, S, (conc T, NN, SS)) (v, (conc T2, NN, SS))
theorem mx_step_call {X : Nat × (Nat → Int32)} {c1 c2 : mx_M → List Value → mx_Hp → mx_Rs → Prop} (hc : ∀ M as hp r, c1 M as hp r → c2 M as hp r) {M : mx_M} {f f2 : mx_Fr} (h : mx_step X c1 M f f2) : mx_step X c2 M f f2 := by
  rcases h with h | h | h | h | h | h | h | h | h | h
  · exact Or.inl h
  · exact Or.inr (Or.inl h)
  · exact Or.inr (Or.inr (Or.inl h))
  · exact Or.inr (Or.inr (Or.inr (Or.inl h)))
  · exact Or.inr (Or.inr (Or.inr (Or.inr (Or.inl h))))
  · exact Or.inr (Or.inr (Or.inr (Or.inr (Or.inr (Or.inl h)))))
  · exact Or.inr (Or.inr (Or.inr (Or.inr (Or.inr (Or.inr (Or.inl h))))))
  · exact Or.inr (Or.inr (Or.inr (Or.inr (Or.inr (Or.inr (Or.inr (Or.inl h)))))))
  · exact Or.inr (Or.inr (Or.inr (Or.inr (Or.inr (Or.inr (Or.inr (Or.inr (Or.inl h))))))))
  · obtain ⟨M2, as, r, idx, v, hp2, a1, a2, a3, a4, a5, a6⟩ := h
    exact Or.inr (Or.inr (Or.inr (Or.inr (Or.inr (Or.inr (Or.inr (Or.inr (Or.inr ⟨M2, as, r, idx, v, hp2, a1, a2, a3, a4, hc _ _ _ _ a5, a6⟩))))))))
theorem mx_run_call {X : Nat × (Nat → Int32)} {c1 c2 : mx_M → List Value → mx_Hp → mx_Rs → Prop} (hc : ∀ M as hp r, c1 M as hp r → c2 M as hp r) {M : mx_M} : ∀ (k : Nat) (f : mx_Fr) (r : mx_Rs), mx_run X c1 M k f r → mx_run X c2 M k f r := by
  intro k
  induction k with
  | zero => intro f r h; exact h.elim
  | succ k ih =>
    intro f r h
    rcases h with h | ⟨f2, h1, h2⟩
    · exact Or.inl h
    · exact Or.inr ⟨f2, mx_step_call hc h1, ih f2 r h2⟩
theorem mx_call_succ {X : Nat × (Nat → Int32)} : ∀ (d : Nat) (M : mx_M) (as : List Value) (hp : mx_Hp) (r : mx_Rs), mx_call X d M as hp r → mx_call X (d + 1) M as hp r := by
  intro d
  induction d with
  | zero => intro M as hp r h; exact h.elim
  | succ d ih =>
    intro M as hp r h
    obtain ⟨k, hk⟩ := h
    exact ⟨k, mx_run_call ih k _ _ hk⟩
theorem mx_call_le {X : Nat × (Nat → Int32)} {d d2 : Nat} (h : d ≤ d2) {M : mx_M} {as : List Value} {hp : mx_Hp} {r : mx_Rs} (hc : mx_call X d M as hp r) : mx_call X d2 M as hp r := by
  obtain ⟨j, rfl⟩ := Nat.le.dest h
  clear h
  induction j with
  | zero => exact hc
  | succ j ih => exact mx_call_succ _ _ _ _ _ ih
theorem tC_le {X : Nat × (Nat → Int32)} {d d2 : Nat} (h : d ≤ d2) {M : mx_M} {as : List Value} {T T2 : St} {v : Option Value} (hc : tC X d M as T v T2) : tC X d2 M as T v T2 := mx_call_le h hc
theorem mx_in1 {w : Cond} (h : w ∈ tables_1) (hg : goodWord w = true) : w ∈ mx_gd := List.mem_filter.mpr ⟨List.mem_append_right _ h, hg⟩
theorem mx_inP {w : Cond} (h : w ∈ k2_sels lw_privs) (hg : goodWord w = true) : w ∈ mx_gd := List.mem_filter.mpr ⟨List.mem_append_left _ h, hg⟩
def mx_cv (own : String) (idx : Nat) (M2 : mx_M) (n : Nat) : Prop := mx_mok M2 ∧ Cond.methodLink own idx M2.1 ∈ mx_gd ∧ Cond.instanceMethod M2.1 ∈ mx_gd ∧ Cond.selects M2.1.cls M2.1 M2.1 ∈ mx_gd ∧ (parseMethodDescriptor M2.1.desc).map (fun d => d.parameters.length) = some n
def mx_cs (own : String) (idx : Nat) (M2 : mx_M) (n : Nat) : Prop := mx_mok M2 ∧ (Cond.methodLink own idx M2.1 ∈ mx_gd ∨ ∃ host, Cond.methodLinkNest own idx M2.1 host ∈ mx_nest) ∧ Cond.static M2.1 ∈ mx_gd ∧ (parseMethodDescriptor M2.1.desc).map (fun d => d.parameters.length) = some n
def mx_cn (ci : Nat) : String := match mx_cls[ci]? with
  | some r => r.1
  | none => ""
section TR
variable {X : Nat × (Nat → Int32)} {d pc pc2 n idx a b : Nat} {M M2 : mx_M} {L L2 : mx_Lo} {S S2 r : List Value} {T T1 T2 : St} {v w : Option Value}
theorem tC_of {as : List Value} (h : tR X d M 0 (mx_ent as M.2.2.1) [] T v T2) : tC X (d + 1) M as T v T2 := h
theorem r_s (h : mx_step X (mx_call X d) M (pc, L, S, (conc T, NN, SS)) (pc2, L2, S2, (conc T1, NN, SS))) (k : tR X d M pc2 L2 S2 T1 v T2) : tR X d M pc L S T v T2 := by
  obtain ⟨j, hj⟩ := k
  exact ⟨j + 1, Or.inr ⟨_, h, hj⟩⟩
theorem r_p {i : Instr} (hd : decode M.2.1 pc = .ok (i, n)) (hn : mx_len i = n) (h : mx_pure pc L S i = some (pc2, L2, S2)) (k : tR X d M pc2 L2 S2 T v T2) : tR X d M pc L S T v T2 := by
  subst hn
  exact r_s (Or.inl ⟨i, hd, h, rfl⟩) k
theorem r_go {off : Int} {t : Nat} (hd : decode M.2.1 pc = .ok (.goto off, 3)) (ht : (pc : Int) + off = (t : Int)) (k : tR X d M t L S T v T2) : tR X d M pc L S T v T2 := by
  refine r_p hd rfl ?_ k
  show mx_go pc off (fun t => some (t, L, S)) = _
  unfold mx_go
  rw [if_pos (by omega), ht]
  rfl
theorem r_ieq {off : Int} {t : Nat} {x : Int32} (hd : decode M.2.1 pc = .ok (.ifCond .eq off, 3)) (ht : (pc : Int) + off = (t : Int)) (kt : x = 0 → tR X d M t L r T v T2) (kf : ¬ x = 0 → tR X d M (pc + 3) L r T v T2) : tR X d M pc L (.int x :: r) T v T2 := by
  by_cases c : x = 0
  · refine r_p hd rfl (L2 := L) (S2 := r) (pc2 := t) ?_ (kt c)
    show mx_go pc off (fun t => some (if mx_c0 .eq x then t else pc + 3, L, r)) = _
    unfold mx_go
    rw [if_pos (by omega), ht]
    dsimp only
    rw [if_pos (show mx_c0 .eq x = true from decide_eq_true c)]
    rfl
  · refine r_p hd rfl (L2 := L) (S2 := r) (pc2 := pc + 3) ?_ (kf c)
    show mx_go pc off (fun t => some (if mx_c0 .eq x then t else pc + 3, L, r)) = _
    unfold mx_go
    rw [if_pos (by omega), ht]
    dsimp only
    rw [if_neg (show ¬ mx_c0 .eq x = true from fun z => c (of_decide_eq_true z))]
theorem r_ceq {off : Int} {t : Nat} {x y : Int32} (hd : decode M.2.1 pc = .ok (.if_icmp .eq off, 3)) (ht : (pc : Int) + off = (t : Int)) (kt : x = y → tR X d M t L r T v T2) (kf : ¬ x = y → tR X d M (pc + 3) L r T v T2) : tR X d M pc L (.int y :: .int x :: r) T v T2 := by
  by_cases c : x = y
  · refine r_p hd rfl (L2 := L) (S2 := r) (pc2 := t) ?_ (kt c)
    show mx_go pc off (fun t => some (if mx_c2 .eq x y then t else pc + 3, L, r)) = _
    unfold mx_go
    rw [if_pos (by omega), ht]
    dsimp only
    rw [if_pos (show mx_c2 .eq x y = true from decide_eq_true c)]
    rfl
  · refine r_p hd rfl (L2 := L) (S2 := r) (pc2 := pc + 3) ?_ (kf c)
    show mx_go pc off (fun t => some (if mx_c2 .eq x y then t else pc + 3, L, r)) = _
    unfold mx_go
    rw [if_pos (by omega), ht]
    dsimp only
    rw [if_neg (show ¬ mx_c2 .eq x y = true from fun z => c (of_decide_eq_true z))]
theorem r_ine {off : Int} {t : Nat} {x : Int32} (hd : decode M.2.1 pc = .ok (.ifCond .ne off, 3)) (ht : (pc : Int) + off = (t : Int)) (kt : ¬ x = 0 → tR X d M t L r T v T2) (kf : x = 0 → tR X d M (pc + 3) L r T v T2) : tR X d M pc L (.int x :: r) T v T2 := by
  by_cases c : ¬ x = 0
  · refine r_p hd rfl (L2 := L) (S2 := r) (pc2 := t) ?_ (kt c)
    show mx_go pc off (fun t => some (if mx_c0 .ne x then t else pc + 3, L, r)) = _
    unfold mx_go
    rw [if_pos (by omega), ht]
    dsimp only
    rw [if_pos (show mx_c0 .ne x = true from decide_eq_true c)]
    rfl
  · refine r_p hd rfl (L2 := L) (S2 := r) (pc2 := pc + 3) ?_ (kf (Decidable.not_not.mp c))
    show mx_go pc off (fun t => some (if mx_c0 .ne x then t else pc + 3, L, r)) = _
    unfold mx_go
    rw [if_pos (by omega), ht]
    dsimp only
    rw [if_neg (show ¬ mx_c0 .ne x = true from fun z => c (of_decide_eq_true z))]
theorem r_cne {off : Int} {t : Nat} {x y : Int32} (hd : decode M.2.1 pc = .ok (.if_icmp .ne off, 3)) (ht : (pc : Int) + off = (t : Int)) (kt : ¬ x = y → tR X d M t L r T v T2) (kf : x = y → tR X d M (pc + 3) L r T v T2) : tR X d M pc L (.int y :: .int x :: r) T v T2 := by
  by_cases c : ¬ x = y
  · refine r_p hd rfl (L2 := L) (S2 := r) (pc2 := t) ?_ (kt c)
    show mx_go pc off (fun t => some (if mx_c2 .ne x y then t else pc + 3, L, r)) = _
    unfold mx_go
    rw [if_pos (by omega), ht]
    dsimp only
    rw [if_pos (show mx_c2 .ne x y = true from decide_eq_true c)]
    rfl
  · refine r_p hd rfl (L2 := L) (S2 := r) (pc2 := pc + 3) ?_ (kf (Decidable.not_not.mp c))
    show mx_go pc off (fun t => some (if mx_c2 .ne x y then t else pc + 3, L, r)) = _
    unfold mx_go
    rw [if_pos (by omega), ht]
    dsimp only
    rw [if_neg (show ¬ mx_c2 .ne x y = true from fun z => c (of_decide_eq_true z))]
theorem r_ilt {off : Int} {t : Nat} {x : Int32} (hd : decode M.2.1 pc = .ok (.ifCond .lt off, 3)) (ht : (pc : Int) + off = (t : Int)) (kt : x < 0 → tR X d M t L r T v T2) (kf : ¬ x < 0 → tR X d M (pc + 3) L r T v T2) : tR X d M pc L (.int x :: r) T v T2 := by
  by_cases c : x < 0
  · refine r_p hd rfl (L2 := L) (S2 := r) (pc2 := t) ?_ (kt c)
    show mx_go pc off (fun t => some (if mx_c0 .lt x then t else pc + 3, L, r)) = _
    unfold mx_go
    rw [if_pos (by omega), ht]
    dsimp only
    rw [if_pos (show mx_c0 .lt x = true from decide_eq_true c)]
    rfl
  · refine r_p hd rfl (L2 := L) (S2 := r) (pc2 := pc + 3) ?_ (kf c)
    show mx_go pc off (fun t => some (if mx_c0 .lt x then t else pc + 3, L, r)) = _
    unfold mx_go
    rw [if_pos (by omega), ht]
    dsimp only
    rw [if_neg (show ¬ mx_c0 .lt x = true from fun z => c (of_decide_eq_true z))]
theorem r_clt {off : Int} {t : Nat} {x y : Int32} (hd : decode M.2.1 pc = .ok (.if_icmp .lt off, 3)) (ht : (pc : Int) + off = (t : Int)) (kt : x < y → tR X d M t L r T v T2) (kf : ¬ x < y → tR X d M (pc + 3) L r T v T2) : tR X d M pc L (.int y :: .int x :: r) T v T2 := by
  by_cases c : x < y
  · refine r_p hd rfl (L2 := L) (S2 := r) (pc2 := t) ?_ (kt c)
    show mx_go pc off (fun t => some (if mx_c2 .lt x y then t else pc + 3, L, r)) = _
    unfold mx_go
    rw [if_pos (by omega), ht]
    dsimp only
    rw [if_pos (show mx_c2 .lt x y = true from decide_eq_true c)]
    rfl
  · refine r_p hd rfl (L2 := L) (S2 := r) (pc2 := pc + 3) ?_ (kf c)
    show mx_go pc off (fun t => some (if mx_c2 .lt x y then t else pc + 3, L, r)) = _
    unfold mx_go
    rw [if_pos (by omega), ht]
    dsimp only
    rw [if_neg (show ¬ mx_c2 .lt x y = true from fun z => c (of_decide_eq_true z))]
theorem r_ige {off : Int} {t : Nat} {x : Int32} (hd : decode M.2.1 pc = .ok (.ifCond .ge off, 3)) (ht : (pc : Int) + off = (t : Int)) (kt : 0 ≤ x → tR X d M t L r T v T2) (kf : ¬ 0 ≤ x → tR X d M (pc + 3) L r T v T2) : tR X d M pc L (.int x :: r) T v T2 := by
  by_cases c : 0 ≤ x
  · refine r_p hd rfl (L2 := L) (S2 := r) (pc2 := t) ?_ (kt c)
    show mx_go pc off (fun t => some (if mx_c0 .ge x then t else pc + 3, L, r)) = _
    unfold mx_go
    rw [if_pos (by omega), ht]
    dsimp only
    rw [if_pos (show mx_c0 .ge x = true from decide_eq_true c)]
    rfl
  · refine r_p hd rfl (L2 := L) (S2 := r) (pc2 := pc + 3) ?_ (kf c)
    show mx_go pc off (fun t => some (if mx_c0 .ge x then t else pc + 3, L, r)) = _
    unfold mx_go
    rw [if_pos (by omega), ht]
    dsimp only
    rw [if_neg (show ¬ mx_c0 .ge x = true from fun z => c (of_decide_eq_true z))]
theorem r_cge {off : Int} {t : Nat} {x y : Int32} (hd : decode M.2.1 pc = .ok (.if_icmp .ge off, 3)) (ht : (pc : Int) + off = (t : Int)) (kt : y ≤ x → tR X d M t L r T v T2) (kf : ¬ y ≤ x → tR X d M (pc + 3) L r T v T2) : tR X d M pc L (.int y :: .int x :: r) T v T2 := by
  by_cases c : y ≤ x
  · refine r_p hd rfl (L2 := L) (S2 := r) (pc2 := t) ?_ (kt c)
    show mx_go pc off (fun t => some (if mx_c2 .ge x y then t else pc + 3, L, r)) = _
    unfold mx_go
    rw [if_pos (by omega), ht]
    dsimp only
    rw [if_pos (show mx_c2 .ge x y = true from decide_eq_true c)]
    rfl
  · refine r_p hd rfl (L2 := L) (S2 := r) (pc2 := pc + 3) ?_ (kf c)
    show mx_go pc off (fun t => some (if mx_c2 .ge x y then t else pc + 3, L, r)) = _
    unfold mx_go
    rw [if_pos (by omega), ht]
    dsimp only
    rw [if_neg (show ¬ mx_c2 .ge x y = true from fun z => c (of_decide_eq_true z))]
theorem r_igt {off : Int} {t : Nat} {x : Int32} (hd : decode M.2.1 pc = .ok (.ifCond .gt off, 3)) (ht : (pc : Int) + off = (t : Int)) (kt : 0 < x → tR X d M t L r T v T2) (kf : ¬ 0 < x → tR X d M (pc + 3) L r T v T2) : tR X d M pc L (.int x :: r) T v T2 := by
  by_cases c : 0 < x
  · refine r_p hd rfl (L2 := L) (S2 := r) (pc2 := t) ?_ (kt c)
    show mx_go pc off (fun t => some (if mx_c0 .gt x then t else pc + 3, L, r)) = _
    unfold mx_go
    rw [if_pos (by omega), ht]
    dsimp only
    rw [if_pos (show mx_c0 .gt x = true from decide_eq_true c)]
    rfl
  · refine r_p hd rfl (L2 := L) (S2 := r) (pc2 := pc + 3) ?_ (kf c)
    show mx_go pc off (fun t => some (if mx_c0 .gt x then t else pc + 3, L, r)) = _
    unfold mx_go
    rw [if_pos (by omega), ht]
    dsimp only
    rw [if_neg (show ¬ mx_c0 .gt x = true from fun z => c (of_decide_eq_true z))]
theorem r_cgt {off : Int} {t : Nat} {x y : Int32} (hd : decode M.2.1 pc = .ok (.if_icmp .gt off, 3)) (ht : (pc : Int) + off = (t : Int)) (kt : y < x → tR X d M t L r T v T2) (kf : ¬ y < x → tR X d M (pc + 3) L r T v T2) : tR X d M pc L (.int y :: .int x :: r) T v T2 := by
  by_cases c : y < x
  · refine r_p hd rfl (L2 := L) (S2 := r) (pc2 := t) ?_ (kt c)
    show mx_go pc off (fun t => some (if mx_c2 .gt x y then t else pc + 3, L, r)) = _
    unfold mx_go
    rw [if_pos (by omega), ht]
    dsimp only
    rw [if_pos (show mx_c2 .gt x y = true from decide_eq_true c)]
    rfl
  · refine r_p hd rfl (L2 := L) (S2 := r) (pc2 := pc + 3) ?_ (kf c)
    show mx_go pc off (fun t => some (if mx_c2 .gt x y then t else pc + 3, L, r)) = _
    unfold mx_go
    rw [if_pos (by omega), ht]
    dsimp only
    rw [if_neg (show ¬ mx_c2 .gt x y = true from fun z => c (of_decide_eq_true z))]
theorem r_ile {off : Int} {t : Nat} {x : Int32} (hd : decode M.2.1 pc = .ok (.ifCond .le off, 3)) (ht : (pc : Int) + off = (t : Int)) (kt : x ≤ 0 → tR X d M t L r T v T2) (kf : ¬ x ≤ 0 → tR X d M (pc + 3) L r T v T2) : tR X d M pc L (.int x :: r) T v T2 := by
  by_cases c : x ≤ 0
  · refine r_p hd rfl (L2 := L) (S2 := r) (pc2 := t) ?_ (kt c)
    show mx_go pc off (fun t => some (if mx_c0 .le x then t else pc + 3, L, r)) = _
    unfold mx_go
    rw [if_pos (by omega), ht]
    dsimp only
    rw [if_pos (show mx_c0 .le x = true from decide_eq_true c)]
    rfl
  · refine r_p hd rfl (L2 := L) (S2 := r) (pc2 := pc + 3) ?_ (kf c)
    show mx_go pc off (fun t => some (if mx_c0 .le x then t else pc + 3, L, r)) = _
    unfold mx_go
    rw [if_pos (by omega), ht]
    dsimp only
    rw [if_neg (show ¬ mx_c0 .le x = true from fun z => c (of_decide_eq_true z))]
theorem r_cle {off : Int} {t : Nat} {x y : Int32} (hd : decode M.2.1 pc = .ok (.if_icmp .le off, 3)) (ht : (pc : Int) + off = (t : Int)) (kt : x ≤ y → tR X d M t L r T v T2) (kf : ¬ x ≤ y → tR X d M (pc + 3) L r T v T2) : tR X d M pc L (.int y :: .int x :: r) T v T2 := by
  by_cases c : x ≤ y
  · refine r_p hd rfl (L2 := L) (S2 := r) (pc2 := t) ?_ (kt c)
    show mx_go pc off (fun t => some (if mx_c2 .le x y then t else pc + 3, L, r)) = _
    unfold mx_go
    rw [if_pos (by omega), ht]
    dsimp only
    rw [if_pos (show mx_c2 .le x y = true from decide_eq_true c)]
    rfl
  · refine r_p hd rfl (L2 := L) (S2 := r) (pc2 := pc + 3) ?_ (kf c)
    show mx_go pc off (fun t => some (if mx_c2 .le x y then t else pc + 3, L, r)) = _
    unfold mx_go
    rw [if_pos (by omega), ht]
    dsimp only
    rw [if_neg (show ¬ mx_c2 .le x y = true from fun z => c (of_decide_eq_true z))]
theorem r_tin {dflt lo hi off : Int} {offs : Array Int} {len t : Nat} {x : Int32} (hd : decode M.2.1 pc = .ok (.tableswitch dflt lo hi offs, len)) (h1 : ¬ x.toInt < lo) (h2 : ¬ hi < x.toInt) (ho : offs[(x.toInt - lo).toNat]? = some off) (ht : (pc : Int) + off = (t : Int)) (k : tR X d M t L r T v T2) : tR X d M pc L (.int x :: r) T v T2 :=
  r_s (Or.inr (Or.inl ⟨dflt, lo, hi, offs, len, x, r, t, hd, rfl, Or.inr ⟨h1, h2, off, ho, ht⟩, rfl⟩)) k
theorem r_tout {dflt lo hi : Int} {offs : Array Int} {len t : Nat} {x : Int32} (hd : decode M.2.1 pc = .ok (.tableswitch dflt lo hi offs, len)) (h1 : x.toInt < lo ∨ hi < x.toInt) (ht : (pc : Int) + dflt = (t : Int)) (k : tR X d M t L r T v T2) : tR X d M pc L (.int x :: r) T v T2 :=
  r_s (Or.inr (Or.inl ⟨dflt, lo, hi, offs, len, x, r, t, hd, rfl, Or.inl ⟨h1, ht⟩, rfl⟩)) k
theorem r_k {x : Int32} (hd : decode M.2.1 pc = .ok (.ldc idx, 2)) (hw : Cond.constant M.1.cls idx x ∈ mx_gd) (k : tR X d M (pc + 2) L (.int x :: S) T v T2) : tR X d M pc L S T v T2 :=
  r_s (Or.inr (Or.inr (Or.inl (Or.inl ⟨idx, x, hd, hw, rfl⟩)))) k
theorem r_kw {x : Int32} (hd : decode M.2.1 pc = .ok (.ldc_w idx, 3)) (hw : Cond.constant M.1.cls idx x ∈ mx_gd) (k : tR X d M (pc + 3) L (.int x :: S) T v T2) : tR X d M pc L S T v T2 :=
  r_s (Or.inr (Or.inr (Or.inl (Or.inr (Or.inl ⟨idx, x, hd, hw, rfl⟩))))) k
theorem r_kl {x : Int64} (hd : decode M.2.1 pc = .ok (.ldc2_w idx, 3)) (hw : Cond.constantLong M.1.cls idx x ∈ mx_gd) (k : tR X d M (pc + 3) L (.long x :: S) T v T2) : tR X d M pc L S T v T2 :=
  r_s (Or.inr (Or.inr (Or.inl (Or.inr (Or.inr (Or.inl ⟨idx, x, hd, hw, rfl⟩)))))) k
theorem r_ks (j : Nat) {q : Nat × String} (hq : mx_str[j]? = some q) (hd : decode M.2.1 pc = .ok (.ldc q.1, 2)) (hc : M.1.cls = RX6) (k : tR X d M (pc + 2) L (.ref (mx_B + (10 + j)) :: S) T v T2) : tR X d M pc L S T v T2 :=
  r_s (Or.inr (Or.inr (Or.inl (Or.inr (Or.inr (Or.inr (Or.inl ⟨j, q, hq, hc, hd, rfl⟩))))))) k
theorem r_gs (j : Nat) {q : String × String × List Int32} (hq : mx_sta[j]? = some q) (hd : decode M.2.1 pc = .ok (.getstatic idx, 3)) (hw : Cond.fieldLink M.1.cls idx q.1 q.2.1 "[I" ∈ mx_gd) (k : tR X d M (pc + 3) L (.ref (mx_B + j) :: S) T v T2) : tR X d M pc L S T v T2 :=
  r_s (Or.inr (Or.inr (Or.inl (Or.inr (Or.inr (Or.inr (Or.inr (Or.inl ⟨idx, j, q, hq, hw, hd, rfl⟩)))))))) k
theorem r_gcs (hd : decode M.2.1 pc = .ok (.getstatic idx, 3)) (hw : Cond.fieldLink M.1.cls idx "java/lang/String" "COMPACT_STRINGS" "Z" ∈ mx_gd) (k : tR X d M (pc + 3) L (.int 1 :: S) T v T2) : tR X d M pc L S T v T2 :=
  r_s (Or.inr (Or.inr (Or.inl (Or.inr (Or.inr (Or.inr (Or.inr (Or.inr (Or.inl ⟨idx, hw, hd, rfl⟩))))))))) k
theorem r_gq {y : Value} (hd : decode M.2.1 pc = .ok (.getstatic idx, 3)) (hw : Cond.fieldLink M.1.cls idx "jdk/internal/util/Preconditions" "SIOOBE_FORMATTER" "Ljava/util/function/BiFunction;" ∈ mx_gd) (hy : (if X.2 1000000 = 0 then .null else .ref (mx_B + 101)) = y) (k : tR X d M (pc + 3) L (y :: S) T v T2) : tR X d M pc L S T v T2 := by
  subst hy
  exact r_s (Or.inr (Or.inr (Or.inl (Or.inr (Or.inr (Or.inr (Or.inr (Or.inr (Or.inr ⟨idx, hw, hd, rfl⟩))))))))) k
theorem sh_o {ci : Nat} (h : sh a = .inr ci) : a < NN ∧ a < mx_B := by
  have h2 : a < 602 := sh_lt (by rw [h]; exact fun z => by cases z)
  exact ⟨h2, Nat.lt_trans h2 (by decide)⟩
theorem sh_i {t : Nat} (h : sh a = .inl (t, n)) (ht : t < 9) : a < NN ∧ a < mx_B := by
  have h2 : a < 602 := sh_lt (by rw [h]; exact fun z => by cases z; omega)
  exact ⟨h2, Nat.lt_trans h2 (by decide)⟩
theorem r_get {ci k : Nat} {x : Value} (hd : decode M.2.1 pc = .ok (.getfield idx, 3)) (hk : mx_fk M.1.cls idx ci k) (hs : sh a = .inr ci) (hv : (flds T a ci)[k]? = some x) (kk : tR X d M (pc + 3) L (x :: r) T v T2) : tR X d M pc L (.ref a :: r) T v T2 :=
  r_s (Or.inr (Or.inr (Or.inr (Or.inl (Or.inl ⟨idx, ci, k, a, flds T a ci, x, r, hd, hk, rfl, (sh_o hs).1, (sh_o hs).2, conc_o hs, hv, rfl⟩))))) kk
theorem r_gstr {j : Nat} (hd : decode M.2.1 pc = .ok (.getfield idx, 3)) (hj : j < 8) (hw : Cond.fieldLink M.1.cls idx "java/lang/String" "coder" "B" ∈ mx_gd) (kk : tR X d M (pc + 3) L (.int 0 :: r) T v T2) : tR X d M pc L (.ref (mx_B + (10 + j)) :: r) T v T2 :=
  r_s (Or.inr (Or.inr (Or.inr (Or.inl (Or.inr ⟨idx, j, r, hd, hj, rfl, Or.inl ⟨hw, rfl⟩⟩))))) kk
theorem r_gsv {j : Nat} (hd : decode M.2.1 pc = .ok (.getfield idx, 3)) (hj : j < 8) (hw : Cond.fieldLink M.1.cls idx "java/lang/String" "value" "[B" ∈ mx_gd) (kk : tR X d M (pc + 3) L (.ref (mx_B + (30 + j)) :: r) T v T2) : tR X d M pc L (.ref (mx_B + (10 + j)) :: r) T v T2 :=
  r_s (Or.inr (Or.inr (Or.inr (Or.inl (Or.inr ⟨idx, j, r, hd, hj, rfl, Or.inr ⟨hw, rfl⟩⟩))))) kk
theorem r_ia {i : Int32} (hd : decode M.2.1 pc = .ok (.iaload, 1)) (hs : sh a = .inl (0, n)) (hi : vp_in i n) (kk : tR X d M (pc + 1) L (.int (T.2.2.1 a i.toNatClampNeg) :: r) T v T2) : tR X d M pc L (.int i :: .ref a :: r) T v T2 :=
  r_s (Or.inr (Or.inr (Or.inr (Or.inr (Or.inl (Or.inl ⟨i, a, n, T.2.2.1 a, r, hd, rfl, (sh_i hs (by omega)).1, (sh_i hs (by omega)).2, conc_i hs, hi, rfl⟩)))))) kk
theorem r_la {i : Int32} (hd : decode M.2.1 pc = .ok (.laload, 1)) (hs : sh a = .inl (1, n)) (hi : vp_in i n) (kk : tR X d M (pc + 1) L (.long (T.2.2.2 a i.toNatClampNeg) :: r) T v T2) : tR X d M pc L (.int i :: .ref a :: r) T v T2 :=
  r_s (Or.inr (Or.inr (Or.inr (Or.inr (Or.inl (Or.inr (Or.inl ⟨i, a, n, T.2.2.2 a, r, hd, rfl, (sh_i hs (by omega)).1, (sh_i hs (by omega)).2, conc_l hs, hi, rfl⟩))))))) kk
theorem r_za {i : Int32} (hd : decode M.2.1 pc = .ok (.baload, 1)) (hs : sh a = .inl (2, n)) (hi : vp_in i n) (kk : tR X d M (pc + 1) L (.int (T.2.2.1 a i.toNatClampNeg) :: r) T v T2) : tR X d M pc L (.int i :: .ref a :: r) T v T2 :=
  r_s (Or.inr (Or.inr (Or.inr (Or.inr (Or.inl (Or.inr (Or.inr (Or.inl ⟨i, a, n, T.2.2.1 a, r, hd, rfl, (sh_i hs (by omega)).1, (sh_i hs (by omega)).2, conc_z hs, hi, rfl⟩)))))))) kk
theorem r_aa {i : Int32} {t : Nat} (hd : decode M.2.1 pc = .ok (.aaload, 1)) (hs : sh a = .inl (t, n)) (ht : 3 ≤ t ∧ t < 8) (hi : vp_in i n) (hb : rfa a i.toNatClampNeg = some b) (kk : tR X d M (pc + 1) L (.ref b :: r) T v T2) : tR X d M pc L (.int i :: .ref a :: r) T v T2 :=
  r_s (Or.inr (Or.inr (Or.inr (Or.inr (Or.inl (Or.inr (Or.inr (Or.inr (Or.inl ⟨i, a, n, t, b, rfa a, r, hd, rfl, (sh_i hs (by omega)).1, (sh_i hs (by omega)).2, ht.1, ht.2, conc_r hs ht.1 ht.2, hi, hb, rfl⟩))))))))) kk
theorem r_al {t : Nat} (hd : decode M.2.1 pc = .ok (.arraylength, 1)) (hs : sh a = .inl (t, n)) (ht : t < 8) (kk : tR X d M (pc + 1) L (.int (Int32.ofNat n) :: r) T v T2) : tR X d M pc L (.ref a :: r) T v T2 := by
  have hc : ∃ y : vp_A, conc T a = .inl (t, y) ∧ y.1 = n := by
    rcases Nat.lt_or_ge t 3 with q | q
    · rcases (show t = 0 ∨ t = 1 ∨ t = 2 by omega) with rfl | rfl | rfl
      · exact ⟨_, conc_i hs, rfl⟩
      · exact ⟨_, conc_l hs, rfl⟩
      · exact ⟨_, conc_z hs, rfl⟩
    · exact ⟨_, conc_r hs q ht, rfl⟩
  obtain ⟨y, h1, h2⟩ := hc
  exact r_s (Or.inr (Or.inr (Or.inr (Or.inr (Or.inl (Or.inr (Or.inr (Or.inr (Or.inr (Or.inl ⟨a, n, t, y, r, hd, rfl, (sh_i hs (by omega)).1, (sh_i hs (by omega)).2, ht, h1, h2, rfl⟩)))))))))) kk
theorem r_ta {i : Int32} {j : Nat} {q : String × String × List Int32} (hq : mx_sta[j]? = some q) (hd : decode M.2.1 pc = .ok (.iaload, 1)) (hi : vp_in i q.2.2.length) (kk : tR X d M (pc + 1) L (.int (q.2.2.getD i.toNatClampNeg 0) :: r) T v T2) : tR X d M pc L (.int i :: .ref (mx_B + j) :: r) T v T2 :=
  r_s (Or.inr (Or.inr (Or.inr (Or.inr (Or.inl (Or.inr (Or.inr (Or.inr (Or.inr (Or.inr (Or.inl ⟨i, j, q, r, hd, rfl, hq, hi, rfl⟩))))))))))) kk
theorem r_tl {j : Nat} {q : String × String × List Int32} (hq : mx_sta[j]? = some q) (hd : decode M.2.1 pc = .ok (.arraylength, 1)) (kk : tR X d M (pc + 1) L (.int (Int32.ofNat q.2.2.length) :: r) T v T2) : tR X d M pc L (.ref (mx_B + j) :: r) T v T2 :=
  r_s (Or.inr (Or.inr (Or.inr (Or.inr (Or.inl (Or.inr (Or.inr (Or.inr (Or.inr (Or.inr (Or.inr (Or.inl ⟨j, q, r, hd, rfl, hq, rfl⟩)))))))))))) kk
theorem r_ba {i : Int32} {j : Nat} (hd : decode M.2.1 pc = .ok (.baload, 1)) (hj : j < 8) (hi : vp_in i (mx_slen.getD j 0)) (kk : tR X d M (pc + 1) L (.int ((mx_sbyt.getD j []).getD i.toNatClampNeg 0) :: r) T v T2) : tR X d M pc L (.int i :: .ref (mx_B + (30 + j)) :: r) T v T2 :=
  r_s (Or.inr (Or.inr (Or.inr (Or.inr (Or.inl (Or.inr (Or.inr (Or.inr (Or.inr (Or.inr (Or.inr (Or.inr (Or.inl ⟨i, j, r, hd, rfl, hj, hi, rfl⟩))))))))))))) kk
theorem r_bl {j : Nat} (hd : decode M.2.1 pc = .ok (.arraylength, 1)) (hj : j < 8) (kk : tR X d M (pc + 1) L (.int (Int32.ofNat (mx_slen.getD j 0)) :: r) T v T2) : tR X d M pc L (.ref (mx_B + (30 + j)) :: r) T v T2 :=
  r_s (Or.inr (Or.inr (Or.inr (Or.inr (Or.inl (Or.inr (Or.inr (Or.inr (Or.inr (Or.inr (Or.inr (Or.inr (Or.inr (Or.inl ⟨j, r, hd, rfl, hj, rfl⟩)))))))))))))) kk
theorem r_xa {i : Int32} (hd : decode M.2.1 pc = .ok (.iaload, 1)) (hi : vp_in i X.1) (kk : tR X d M (pc + 1) L (.int (X.2 i.toNatClampNeg) :: r) T v T2) : tR X d M pc L (.int i :: .ref (mx_B + 100) :: r) T v T2 :=
  r_s (Or.inr (Or.inr (Or.inr (Or.inr (Or.inl (Or.inr (Or.inr (Or.inr (Or.inr (Or.inr (Or.inr (Or.inr (Or.inr (Or.inr (Or.inl ⟨i, r, hd, rfl, hi, rfl⟩))))))))))))))) kk
theorem r_xl (hd : decode M.2.1 pc = .ok (.arraylength, 1)) (kk : tR X d M (pc + 1) L (.int (Int32.ofNat X.1) :: r) T v T2) : tR X d M pc L (.ref (mx_B + 100) :: r) T v T2 :=
  r_s (Or.inr (Or.inr (Or.inr (Or.inr (Or.inl (Or.inr (Or.inr (Or.inr (Or.inr (Or.inr (Or.inr (Or.inr (Or.inr (Or.inr (Or.inr ⟨r, hd, rfl, rfl⟩))))))))))))))) kk
-- writes
def mx_nf (ci k : Nat) : Bool := match mx_cls[ci]? with
  | some r => !(r.2.1 k).2.2.2
  | none => false
theorem mx_fp_of {ci k : Nat} (hk : mx_fk M.1.cls idx ci k) (hf : mx_nf ci k = true) : mx_fp M idx ci k := by
  obtain ⟨q, h1, h2, h3, h4⟩ := hk
  refine ⟨q, h1, h2, h3, h4, Or.inl ?_⟩
  unfold mx_nf at hf
  rw [h1] at hf
  simpa using hf
theorem r_put {ci k : Nat} {x : Int32} (hd : decode M.2.1 pc = .ok (.putfield idx, 3)) (hk : mx_fk M.1.cls idx ci k) (hf : mx_nf ci k = true) (hs : sh a = .inr ci) (hi : isI ci k = true) (hl : k < (flds T a ci).length) (hn : narrow (mx_tyF ci k) (.int x) = .int x) (hft : fits (mx_tyF ci k) (.int x) = true) (kk : tR X d M (pc + 3) L r (sF T a k x) v T2) : tR X d M pc L (.int x :: .ref a :: r) T v T2 := by
  refine r_s (Or.inr (Or.inr (Or.inr (Or.inr (Or.inr (Or.inl (Or.inl ⟨idx, ci, k, a, flds T a ci, .int x, r, hd, mx_fp_of hk hf, rfl, (sh_o hs).1, conc_o hs, hl, hn, hft, ?_⟩))))))) kk
  rw [conc_sF hs hi]
theorem r_putr {ci k c : Nat} (hd : decode M.2.1 pc = .ok (.putfield idx, 3)) (hk : mx_fk M.1.cls idx ci k) (hf : mx_nf ci k = true) (hs : sh a = .inr ci) (hi : vr ci k = some c) (hl : k < (flds T a ci).length) (hft : fits (mx_tyF ci k) (.ref b) = true) (hn : narrow (mx_tyF ci k) (.ref b) = .ref b) (kk : tR X d M (pc + 3) L r (sR T c b) v T2) : tR X d M pc L (.ref b :: .ref a :: r) T v T2 := by
  refine r_s (Or.inr (Or.inr (Or.inr (Or.inr (Or.inr (Or.inl (Or.inl ⟨idx, ci, k, a, flds T a ci, .ref b, r, hd, mx_fp_of hk hf, rfl, (sh_o hs).1, conc_o hs, hl, hn, hft, ?_⟩))))))) kk
  rw [conc_sR hs hi]
theorem r_ias {i x : Int32} (hd : decode M.2.1 pc = .ok (.iastore, 1)) (hs : sh a = .inl (0, n)) (hi : vp_in i n) (kk : tR X d M (pc + 1) L r (sA T a i.toNatClampNeg x) v T2) : tR X d M pc L (.int x :: .int i :: .ref a :: r) T v T2 := by
  refine r_s (Or.inr (Or.inr (Or.inr (Or.inr (Or.inr (Or.inl (Or.inr (Or.inl ⟨i, x, a, n, T.2.2.1 a, r, hd, rfl, (sh_i hs (by omega)).1, conc_i hs, hi, ?_⟩)))))))) kk
  rw [conc_sA0 _ hs, sAr_upd]
theorem r_las {i : Int32} {x : Int64} (hd : decode M.2.1 pc = .ok (.lastore, 1)) (hs : sh a = .inl (1, n)) (hi : vp_in i n) (kk : tR X d M (pc + 1) L r (sL T a i.toNatClampNeg x) v T2) : tR X d M pc L (.long x :: .int i :: .ref a :: r) T v T2 := by
  refine r_s (Or.inr (Or.inr (Or.inr (Or.inr (Or.inr (Or.inl (Or.inr (Or.inr (Or.inl ⟨i, x, a, n, T.2.2.2 a, r, hd, rfl, (sh_i hs (by omega)).1, conc_l hs, hi, ?_⟩))))))))) kk
  rw [conc_sL hs]
theorem r_zas {i x : Int32} (hd : decode M.2.1 pc = .ok (.bastore, 1)) (hs : sh a = .inl (2, n)) (hi : vp_in i n) (kk : tR X d M (pc + 1) L r (sA T a i.toNatClampNeg (vp_nar .boolean x)) v T2) : tR X d M pc L (.int x :: .int i :: .ref a :: r) T v T2 := by
  refine r_s (Or.inr (Or.inr (Or.inr (Or.inr (Or.inr (Or.inl (Or.inr (Or.inr (Or.inr (Or.inl ⟨i, x, a, n, T.2.2.1 a, r, hd, rfl, (sh_i hs (by omega)).1, conc_z hs, hi, ?_⟩)))))))))) kk
  rw [conc_sZ _ hs, sAr_upd]
def mx_cpw (own : String) (idx : Nat) : Prop := Cond.methodLink own idx arraycopyName ∈ mx_gd ∧ Cond.native arraycopyName ∈ mx_gd ∧ Cond.static arraycopyName ∈ mx_gd ∧ Cond.initialized "java/lang/System" ∈ mx_gd
theorem r_cpy {sp dp c : Int32} {na nb : Nat} (hd : decode M.2.1 pc = .ok (.invokestatic idx, 3)) (hw : mx_cpw M.1.cls idx) (hs : sh a = .inl (0, na)) (hsb : sh b = .inl (0, nb)) (h1 : ¬ sp < 0) (h2 : ¬ dp < 0) (h3 : ¬ c < 0) (h4 : sp.toNatClampNeg + c.toNatClampNeg ≤ nb) (h5 : dp.toNatClampNeg + c.toNatClampNeg ≤ na) (hcat : (r.map fun v => v.category).sum ≤ 8) (kk : tR X d M (pc + 3) L r (sAr T a (va_cpy (T.2.2.1 b) (T.2.2.1 a) sp.toNatClampNeg dp.toNatClampNeg c.toNatClampNeg)) v T2) : tR X d M pc L (.int c :: .int dp :: .ref a :: .int sp :: .ref b :: r) T v T2 := by
  refine r_s (Or.inr (Or.inr (Or.inr (Or.inr (Or.inr (Or.inl (Or.inr (Or.inr (Or.inr (Or.inr (Or.inr ⟨idx, sp, dp, c, a, b, na, nb, T.2.2.1 b, T.2.2.1 a, r, hd, hw.1, hw.2.1, hw.2.2.1, hw.2.2.2, rfl, (sh_i hs (by omega)).1, (sh_i hsb (by omega)).1, conc_i hsb, conc_i hs, h1, h2, h3, h4, h5, hcat, ?_⟩))))))))))) kk
  rw [conc_sA0 _ hs]
-- calls
theorem r_cv {d1 ci : Nat} (hd : decode M.2.1 pc = .ok (.invokevirtual idx, 3)) (hc : mx_cv M.1.cls idx M2 n) (hS : S.drop n = .ref b :: r) (hln : (S.take n).length = n) (hb : sh b = .inr ci) (hci : mx_cn ci = M2.1.cls) (hcat : (r.map fun v => v.category).sum ≤ 8) (hl : (mx_sl (.ref b :: (S.take n).reverse)).length ≤ M2.2.2.1) (hle : d1 ≤ d) (hcall : tC X d1 M2 (.ref b :: (S.take n).reverse) T w T1) (k : tR X d M (pc + 3) L (w.toList ++ r) T1 v T2) : tR X d M pc L S T v T2 := by
  obtain ⟨h1, h2, h3, h4, h5⟩ := hc
  refine r_s (Or.inr (Or.inr (Or.inr (Or.inr (Or.inr (Or.inr (Or.inr (Or.inr (Or.inr ⟨M2, .ref b :: (S.take n).reverse, r, idx, w, (conc T1, NN, SS), h1, ?_, hcat, hl, tC_le hle hcall, rfl, Or.inl ⟨b, (S.take n).reverse, rfl, hd, h2, h3, h4, ?_, Or.inl ?_⟩⟩))))))))) k
  · show S = _
    rw [List.reverse_cons, List.reverse_reverse, List.append_assoc, List.singleton_append, ← hS, List.take_append_drop]
  · rw [h5, List.length_reverse, hln]
  · have h9 := sh_ci hb
    cases hq : mx_cls[ci]? with
    | none => exact absurd (List.getElem?_eq_none_iff.mp hq) (by show ¬ 13 ≤ ci; omega)
    | some q =>
      refine ⟨ci, q, flds T b ci, (sh_o hb).1, conc_o hb, hq, ?_⟩
      rw [← hci]
      unfold mx_cn
      rw [hq]
theorem r_cvs {d1 j : Nat} (hd : decode M.2.1 pc = .ok (.invokevirtual idx, 3)) (hc : mx_cv M.1.cls idx M2 n) (hS : S.drop n = .ref (mx_B + (10 + j)) :: r) (hln : (S.take n).length = n) (hj : j < 8) (hci : M2.1.cls = "java/lang/String") (hcat : (r.map fun v => v.category).sum ≤ 8) (hl : (mx_sl (.ref (mx_B + (10 + j)) :: (S.take n).reverse)).length ≤ M2.2.2.1) (hle : d1 ≤ d) (hcall : tC X d1 M2 (.ref (mx_B + (10 + j)) :: (S.take n).reverse) T w T1) (k : tR X d M (pc + 3) L (w.toList ++ r) T1 v T2) : tR X d M pc L S T v T2 := by
  obtain ⟨h1, h2, h3, h4, h5⟩ := hc
  refine r_s (Or.inr (Or.inr (Or.inr (Or.inr (Or.inr (Or.inr (Or.inr (Or.inr (Or.inr ⟨M2, .ref (mx_B + (10 + j)) :: (S.take n).reverse, r, idx, w, (conc T1, NN, SS), h1, ?_, hcat, hl, tC_le hle hcall, rfl, Or.inl ⟨mx_B + (10 + j), (S.take n).reverse, rfl, hd, h2, h3, h4, ?_, Or.inr ⟨j, hj, rfl, hci⟩⟩⟩))))))))) k
  · show S = _
    rw [List.reverse_cons, List.reverse_reverse, List.append_assoc, List.singleton_append, ← hS, List.take_append_drop]
  · rw [h5, List.length_reverse, hln]
theorem r_cs {d1 : Nat} (hd : decode M.2.1 pc = .ok (.invokestatic idx, 3)) (hc : mx_cs M.1.cls idx M2 n) (hS : S.drop n = r) (hln : (S.take n).length = n) (hcat : (r.map fun v => v.category).sum ≤ 8) (hl : (mx_sl (S.take n).reverse).length ≤ M2.2.2.1) (hle : d1 ≤ d) (hcall : tC X d1 M2 (S.take n).reverse T w T1) (k : tR X d M (pc + 3) L (w.toList ++ r) T1 v T2) : tR X d M pc L S T v T2 := by
  obtain ⟨h1, h2, h3, h5⟩ := hc
  refine r_s (Or.inr (Or.inr (Or.inr (Or.inr (Or.inr (Or.inr (Or.inr (Or.inr (Or.inr ⟨M2, (S.take n).reverse, r, idx, w, (conc T1, NN, SS), h1, ?_, hcat, hl, tC_le hle hcall, rfl, ?_⟩))))))))) k
  · show S = _
    rw [List.reverse_reverse, ← hS, List.take_append_drop]
  · rcases h2 with h2 | ⟨host, h2⟩
    · exact Or.inr (Or.inl ⟨hd, h2, h3, by rw [h5, List.length_reverse, hln]⟩)
    · exact Or.inr (Or.inr (Or.inl ⟨host, hd, h2, h3, by rw [h5, List.length_reverse, hln]⟩))
def mx_mxw (own : String) (idx : Nat) : Prop := Cond.methodLink own idx Lib.Math.max.name ∈ mx_gd ∧ Cond.static Lib.Math.max.name ∈ mx_gd ∧ Cond.initialized "java/lang/Math" ∈ mx_gd ∧ Cond.code Lib.Math.max.name Lib.Math.max.code 2 (some .int) ∈ mx_gd
def mx_mnw (own : String) (idx : Nat) : Prop := Cond.methodLink own idx Lib.Math.min.name ∈ mx_gd ∧ Cond.static Lib.Math.min.name ∈ mx_gd ∧ Cond.initialized "java/lang/Math" ∈ mx_gd ∧ Cond.code Lib.Math.min.name Lib.Math.min.code 2 (some .int) ∈ mx_gd
theorem r_max {x y : Int32} (hd : decode M.2.1 pc = .ok (.invokestatic idx, 3)) (hw : mx_mxw M.1.cls idx) (hcat : (r.map fun v => v.category).sum ≤ 8) (k : tR X d M (pc + 3) L (.int (if x < y then y else x) :: r) T v T2) : tR X d M pc L (.int y :: .int x :: r) T v T2 :=
  r_s (Or.inr (Or.inr (Or.inr (Or.inr (Or.inr (Or.inr (Or.inr (Or.inr (Or.inl (Or.inr (Or.inl ⟨idx, x, y, r, hd, hw.1, hw.2.1, hw.2.2.1, hw.2.2.2, rfl, hcat, rfl⟩))))))))))) k
theorem r_min {x y : Int32} (hd : decode M.2.1 pc = .ok (.invokestatic idx, 3)) (hw : mx_mnw M.1.cls idx) (hcat : (r.map fun v => v.category).sum ≤ 8) (k : tR X d M (pc + 3) L (.int (if y < x then y else x) :: r) T v T2) : tR X d M pc L (.int y :: .int x :: r) T v T2 :=
  r_s (Or.inr (Or.inr (Or.inr (Or.inr (Or.inr (Or.inr (Or.inr (Or.inr (Or.inl (Or.inr (Or.inr ⟨idx, x, y, r, hd, hw.1, hw.2.1, hw.2.2.1, hw.2.2.2, rfl, hcat, rfl⟩))))))))))) k
-- ends
theorem r_ri {x : Int32} {ty : FieldType} (hd : decode M.2.1 pc = .ok (.ireturn, 1)) (ht : M.2.2.2 = some ty) (hn : narrow ty (.int x) = .int x) (he : v = some (.int x)) (hT : T2 = T) : tR X d M pc L [.int x] T v T2 := by
  subst he; subst hT
  exact ⟨1, Or.inl (Or.inl ⟨x, ty, hd, ht, hn, rfl, rfl⟩)⟩
theorem r_rl {x : Int64} (hd : decode M.2.1 pc = .ok (.lreturn, 1)) (ht : M.2.2.2 = some .long) (he : v = some (.long x)) (hT : T2 = T) : tR X d M pc L [.long x] T v T2 := by
  subst he; subst hT
  exact ⟨1, Or.inl (Or.inr (Or.inl ⟨x, hd, ht, rfl, rfl⟩))⟩
theorem r_rv (hd : decode M.2.1 pc = .ok (.return_, 1)) (ht : M.2.2.2 = none) (he : v = none) (hT : T2 = T) : tR X d M pc L [] T v T2 := by
  subst he; subst hT
  exact ⟨1, Or.inl (Or.inr (Or.inr ⟨hd, ht, rfl, rfl⟩))⟩
end TR
