/-! ===== rules: switches, constants, what is read ===== -/
def mx_stP (M : mx_M) (pc : Nat) (L : mx_Lo) (S : List Value) (hp : mx_Hp) (f2 : mx_Fr) : Prop := ∃ i : Instr, decode M.2.1 pc = .ok (i, mx_len i) ∧ mx_pure pc L S i = some (f2.1, f2.2.1, f2.2.2.1) ∧ f2.2.2.2 = hp
def mx_stT (M : mx_M) (pc : Nat) (L : mx_Lo) (S : List Value) (hp : mx_Hp) (f2 : mx_Fr) : Prop := ∃ (dflt lo hi : Int) (offs : Array Int) (len : Nat) (x : Int32) (r : List Value) (t : Nat), decode M.2.1 pc = .ok (.tableswitch dflt lo hi offs, len) ∧ S = .int x :: r ∧ (((x.toInt < lo ∨ hi < x.toInt) ∧ (pc : Int) + dflt = (t : Int)) ∨ (¬ x.toInt < lo ∧ ¬ hi < x.toInt ∧ ∃ off : Int, offs[(x.toInt - lo).toNat]? = some off ∧ (pc : Int) + off = (t : Int))) ∧ f2 = (t, L, r, hp)
def mx_stK (X : Nat × (Nat → Int32)) (M : mx_M) (pc : Nat) (L : mx_Lo) (S : List Value) (hp : mx_Hp) (f2 : mx_Fr) : Prop :=
  (∃ (idx : Nat) (v : Int32), decode M.2.1 pc = .ok (.ldc idx, 2) ∧ Cond.constant M.1.cls idx v ∈ mx_gd ∧ f2 = (pc + 2, L, .int v :: S, hp)) ∨
  (∃ (idx : Nat) (v : Int32), decode M.2.1 pc = .ok (.ldc_w idx, 3) ∧ Cond.constant M.1.cls idx v ∈ mx_gd ∧ f2 = (pc + 3, L, .int v :: S, hp)) ∨
  (∃ (idx : Nat) (v : Int64), decode M.2.1 pc = .ok (.ldc2_w idx, 3) ∧ Cond.constantLong M.1.cls idx v ∈ mx_gd ∧ f2 = (pc + 3, L, .long v :: S, hp)) ∨
  (∃ (k : Nat) (q : Nat × String), mx_str[k]? = some q ∧ M.1.cls = RX6 ∧ decode M.2.1 pc = .ok (.ldc q.1, 2) ∧ f2 = (pc + 2, L, .ref (mx_B + (10 + k)) :: S, hp)) ∨
  (∃ (idx k : Nat) (q : String × String × List Int32), mx_sta[k]? = some q ∧ Cond.fieldLink M.1.cls idx q.1 q.2.1 "[I" ∈ mx_gd ∧ decode M.2.1 pc = .ok (.getstatic idx, 3) ∧ f2 = (pc + 3, L, .ref (mx_B + k) :: S, hp)) ∨
  (∃ idx : Nat, Cond.fieldLink M.1.cls idx "java/lang/String" "COMPACT_STRINGS" "Z" ∈ mx_gd ∧ decode M.2.1 pc = .ok (.getstatic idx, 3) ∧ f2 = (pc + 3, L, .int 1 :: S, hp)) ∨
  (∃ idx : Nat, Cond.fieldLink M.1.cls idx "jdk/internal/util/Preconditions" "SIOOBE_FORMATTER" "Ljava/util/function/BiFunction;" ∈ mx_gd ∧ decode M.2.1 pc = .ok (.getstatic idx, 3) ∧ f2 = (pc + 3, L, (if X.2 1000000 = 0 then .null else .ref (mx_B + 101)) :: S, hp))
-- a field of an own class, as a method's class names it
def mx_fk (own : String) (idx ci k : Nat) : Prop := ∃ r : vw_C, mx_cls[ci]? = some r ∧ k < r.2.2 ∧ Cond.fieldLink own idx r.1 (r.2.1 k).2.1 (r.2.1 k).2.2.1 ∈ mx_gd ∧ (r.2.1 k).1 = r.1
def mx_stG (M : mx_M) (pc : Nat) (L : mx_Lo) (S : List Value) (hp : mx_Hp) (f2 : mx_Fr) : Prop :=
  (∃ (idx ci k a : Nat) (fs : List Value) (v : Value) (r : List Value), decode M.2.1 pc = .ok (.getfield idx, 3) ∧ mx_fk M.1.cls idx ci k ∧ S = .ref a :: r ∧ a < hp.2.1 ∧ a < mx_B ∧ hp.1 a = .inr (ci, fs) ∧ fs[k]? = some v ∧ f2 = (pc + 3, L, v :: r, hp)) ∨
  (∃ (idx k : Nat) (r : List Value), decode M.2.1 pc = .ok (.getfield idx, 3) ∧ k < 8 ∧ S = .ref (mx_B + (10 + k)) :: r ∧ ((Cond.fieldLink M.1.cls idx "java/lang/String" "coder" "B" ∈ mx_gd ∧ f2 = (pc + 3, L, .int 0 :: r, hp)) ∨ (Cond.fieldLink M.1.cls idx "java/lang/String" "value" "[B" ∈ mx_gd ∧ f2 = (pc + 3, L, .ref (mx_B + (30 + k)) :: r, hp))))
def mx_stA (X : Nat × (Nat → Int32)) (M : mx_M) (pc : Nat) (L : mx_Lo) (S : List Value) (hp : mx_Hp) (f2 : mx_Fr) : Prop :=
  (∃ (i : Int32) (a n : Nat) (f : Nat → Int32) (r : List Value), decode M.2.1 pc = .ok (.iaload, 1) ∧ S = .int i :: .ref a :: r ∧ a < hp.2.1 ∧ a < mx_B ∧ hp.1 a = .inl (0, n, .inl f) ∧ vp_in i n ∧ f2 = (pc + 1, L, .int (f i.toNatClampNeg) :: r, hp)) ∨
  (∃ (i : Int32) (a n : Nat) (f : Nat → Int64) (r : List Value), decode M.2.1 pc = .ok (.laload, 1) ∧ S = .int i :: .ref a :: r ∧ a < hp.2.1 ∧ a < mx_B ∧ hp.1 a = .inl (1, n, .inr (.inl f)) ∧ vp_in i n ∧ f2 = (pc + 1, L, .long (f i.toNatClampNeg) :: r, hp)) ∨
  (∃ (i : Int32) (a n : Nat) (f : Nat → Int32) (r : List Value), decode M.2.1 pc = .ok (.baload, 1) ∧ S = .int i :: .ref a :: r ∧ a < hp.2.1 ∧ a < mx_B ∧ hp.1 a = .inl (2, n, .inl f) ∧ vp_in i n ∧ f2 = (pc + 1, L, .int (f i.toNatClampNeg) :: r, hp)) ∨
  (∃ (i : Int32) (a n t b : Nat) (f : Nat → Option Nat) (r : List Value), decode M.2.1 pc = .ok (.aaload, 1) ∧ S = .int i :: .ref a :: r ∧ a < hp.2.1 ∧ a < mx_B ∧ 3 ≤ t ∧ t < 8 ∧ hp.1 a = .inl (t, n, .inr (.inr (.inr (.inr f)))) ∧ vp_in i n ∧ f i.toNatClampNeg = some b ∧ f2 = (pc + 1, L, .ref b :: r, hp)) ∨
  (∃ (a n t : Nat) (y : vp_A) (r : List Value), decode M.2.1 pc = .ok (.arraylength, 1) ∧ S = .ref a :: r ∧ a < hp.2.1 ∧ a < mx_B ∧ t < 8 ∧ hp.1 a = .inl (t, y) ∧ y.1 = n ∧ f2 = (pc + 1, L, .int (Int32.ofNat n) :: r, hp)) ∨
  (∃ (i : Int32) (k : Nat) (q : String × String × List Int32) (r : List Value), decode M.2.1 pc = .ok (.iaload, 1) ∧ S = .int i :: .ref (mx_B + k) :: r ∧ mx_sta[k]? = some q ∧ vp_in i q.2.2.length ∧ f2 = (pc + 1, L, .int (q.2.2.getD i.toNatClampNeg 0) :: r, hp)) ∨
  (∃ (k : Nat) (q : String × String × List Int32) (r : List Value), decode M.2.1 pc = .ok (.arraylength, 1) ∧ S = .ref (mx_B + k) :: r ∧ mx_sta[k]? = some q ∧ f2 = (pc + 1, L, .int (Int32.ofNat q.2.2.length) :: r, hp)) ∨
  (∃ (i : Int32) (k : Nat) (r : List Value), decode M.2.1 pc = .ok (.baload, 1) ∧ S = .int i :: .ref (mx_B + (30 + k)) :: r ∧ k < 8 ∧ vp_in i (mx_slen.getD k 0) ∧ f2 = (pc + 1, L, .int ((mx_sbyt.getD k []).getD i.toNatClampNeg 0) :: r, hp)) ∨
  (∃ (k : Nat) (r : List Value), decode M.2.1 pc = .ok (.arraylength, 1) ∧ S = .ref (mx_B + (30 + k)) :: r ∧ k < 8 ∧ f2 = (pc + 1, L, .int (Int32.ofNat (mx_slen.getD k 0)) :: r, hp)) ∨
  (∃ (i : Int32) (r : List Value), decode M.2.1 pc = .ok (.iaload, 1) ∧ S = .int i :: .ref (mx_B + 100) :: r ∧ vp_in i X.1 ∧ f2 = (pc + 1, L, .int (X.2 i.toNatClampNeg) :: r, hp)) ∨
  (∃ r : List Value, decode M.2.1 pc = .ok (.arraylength, 1) ∧ S = .ref (mx_B + 100) :: r ∧ f2 = (pc + 1, L, .int (Int32.ofNat X.1) :: r, hp))
-- a method's standing: the machine, its code, the words, what stands at its start
def mx_Me (D : va_G) (κ : Nat → ClassId) (base : Nat) (cst : Nat → Nat) (X : Nat × (Nat → Int32)) (p : Program) (s : State) (m : MethodId) (args : Array Value) (meth : Method) (c : Code) (M : mx_M) (n0 : Nat) : Prop :=
  p.tables.exec = Jvm.exec ∧ c.code = M.2.1 ∧ c.maxLocals = M.2.2.1 ∧ s.vm.findClass M.1.cls = some m.cls ∧ (∀ w ∈ mx_gd, w.before args s = true) ∧ meth.name = M.1.name ∧ mx_E D κ base cst X s s.heap ∧ s.heap.size = base + n0
def mx_In (D : va_G) (κ : Nat → ClassId) (base : Nat) (cst : Nat → Nat) (s : State) (M : mx_M) (n0 sl0 : Nat) (L : mx_Lo) (hp : mx_Hp) (H : Heap) (locs : List Loc) (ls : Array Slot) (cells slots : Nat) : Prop :=
  mx_L (mx_ρ base cst) ls L ∧ L.length = M.2.2.1 ∧ va_P D mx_cls (mx_w (mx_ρ base cst) κ hp.1 hp.2.1) H ∧ va_S (fun q => base ≤ q) s.heap H locs ∧ n0 + cells = hp.2.1 ∧ sl0 + slots = hp.2.2
def mx_Go (D : va_G) (κ : Nat → ClassId) (base : Nat) (cst : Nat → Nat) (p : Program) (l : Launch) (e : Env) (R : Room) (s : State) (m : MethodId) (args : Array Value) (below : List Frame) (meth : Method) (c : Code) (Q : State → Prop) (M : mx_M) (n0 sl0 : Nat) (f : mx_Fr) : Prop :=
  ∀ (H : Heap) (locs : List Loc) (ls : Array Slot) (cells slots : Nat), mx_In D κ base cst s M n0 sl0 f.2.1 f.2.2.2 H locs ls cells slots → W p l e R s m args below meth c H locs cells slots Q (F0 m f.1 ls (f.2.2.1.map (mx_rv (mx_ρ base cst))))
section MXR
variable {D : va_G} {κ : Nat → ClassId} {base : Nat} {cst : Nat → Nat} {X : Nat × (Nat → Int32)} {p : Program} {l : Launch} {e : Env} {R : Room} {s : State} {m : MethodId} {args : Array Value} {below : List Frame} {meth : Method} {c : Code} {Q : State → Prop}
variable {M : mx_M} {n0 sl0 pc : Nat} {L : mx_Lo} {S : List Value} {hp : mx_Hp} {f2 : mx_Fr}
theorem mx_P_ok (C : mx_Me D κ base cst X p s m args meth c M n0) (h : mx_stP M pc L S hp f2) (k : mx_Go D κ base cst p l e R s m args below meth c Q M n0 sl0 f2) : mx_Go D κ base cst p l e R s m args below meth c Q M n0 sl0 (pc, L, S, hp) := by
  obtain ⟨hx, hb, hml, hown, hts, hmn, hE, hsz⟩ := C
  obtain ⟨i, hd, hpu, rfl⟩ := h
  intro H locs ls cells slots I
  obtain ⟨iL, iN, iP, iS, iC, iQ⟩ := I
  exact mx_pure_ok hx hb hd hpu iL (fun ls2 h2 => k H locs ls2 cells slots ⟨h2, (mx_pure_len hpu).trans iN, iP, iS, iC, iQ⟩)
theorem mx_T_ok (C : mx_Me D κ base cst X p s m args meth c M n0) (h : mx_stT M pc L S hp f2) (k : mx_Go D κ base cst p l e R s m args below meth c Q M n0 sl0 f2) : mx_Go D κ base cst p l e R s m args below meth c Q M n0 sl0 (pc, L, S, hp) := by
  obtain ⟨hx, hb, hml, hown, hts, hmn, hE, hsz⟩ := C
  obtain ⟨dflt, lo, hi, offs, len, x, r, t, hd, rfl, hc, rfl⟩ := h
  intro H locs ls cells slots I
  rcases hc with ⟨h1, h2⟩ | ⟨h1, h2, off, h3, h4⟩
  · exact lv_tableOut hx hb hd h1 h2 (k H locs ls cells slots I)
  · exact lv_tableIn hx hb hd h1 h2 h3 h4 (k H locs ls cells slots I)
theorem mx_K_ok (C : mx_Me D κ base cst X p s m args meth c M n0) (h : mx_stK X M pc L S hp f2) (k : mx_Go D κ base cst p l e R s m args below meth c Q M n0 sl0 f2) : mx_Go D κ base cst p l e R s m args below meth c Q M n0 sl0 (pc, L, S, hp) := by
  obtain ⟨hx, hb, hml, hown, hts, hmn, hE, hsz⟩ := C
  intro H locs ls cells slots I
  have iS := I.2.2.2.1
  obtain ⟨-, -, -, c1, c2, c3, c4, c5, c6, c7⟩ := hE
  rcases h with ⟨idx, v, hd, hw, rfl⟩ | ⟨idx, v, hd, hw, rfl⟩ | ⟨idx, v, hd, hw, rfl⟩ | ⟨i, q, hq, hc, hd, rfl⟩ | ⟨idx, i, q, hq, hw, hd, rfl⟩ | ⟨idx, hw, hd, rfl⟩ | ⟨idx, hw, hd, rfl⟩
  · exact lv_ldc hx hb hown (hts _ hw) hd (k H locs ls cells slots I)
  · exact lv_ldcw hx hb hown (hts _ hw) hd (k H locs ls cells slots I)
  · exact lv_ldc2 hx hb hown (hts _ hw) hd (k H locs ls cells slots I)
  · have kk := k H locs ls cells slots I
    rw [List.map_cons, show mx_rv (mx_ρ base cst) (.ref (mx_B + (10 + i))) = .ref (cst (10 + i)) by simp [mx_rv, mx_ρ_c]] at kk
    exact va_ldcS hx hb (own := RX6) (by rw [← hc]; exact hown) (c3 i q hq) hd kk
  · have kk := k H locs ls cells slots I
    rw [List.map_cons, show mx_rv (mx_ρ base cst) (.ref (mx_B + i)) = .ref (cst i) by simp [mx_rv, mx_ρ_c]] at kk
    exact va_gets hx hb (c1 i q hq).1 iS hown (hts _ hw) (fun _ h9 => h9) hd kk
  · exact va_gets hx hb c2 iS hown (hts _ hw) (fun _ h9 => h9) hd (k H locs ls cells slots I)
  · have kk := k H locs ls cells slots I
    rw [List.map_cons, show mx_rv (mx_ρ base cst) (if X.2 1000000 = 0 then .null else .ref (mx_B + 101)) = (if X.2 1000000 = 0 then .null else .ref (cst 101)) by split <;> simp [mx_rv, mx_ρ_c]] at kk
    exact va_gets hx hb c7 iS hown (hts _ hw) (fun _ h9 => h9) hd kk
theorem mx_G_ok (C : mx_Me D κ base cst X p s m args meth c M n0) (h : mx_stG M pc L S hp f2) (k : mx_Go D κ base cst p l e R s m args below meth c Q M n0 sl0 f2) : mx_Go D κ base cst p l e R s m args below meth c Q M n0 sl0 (pc, L, S, hp) := by
  obtain ⟨hx, hb, hml, hown, hts, hmn, hE, hsz⟩ := C
  intro H locs ls cells slots I
  obtain ⟨iL, iN, iP, iS, iC, iQ⟩ := id I
  obtain ⟨hK, -, -, c1, c2, c3, c4, c5, c6, -⟩ := hE
  rcases h with ⟨idx, ci, k0, a, fs, v, r, hd, ⟨q, hq, hk, hw, hT⟩, rfl, ha, haB, hc, hv, rfl⟩ | ⟨idx, i, r, hd, hi, rfl, hh⟩
  · have kk := k H locs ls cells slots I
    have he : (mx_w (mx_ρ base cst) κ hp.1 hp.2.1)[a]? = some (mx_ρ base cst a, .inr (ci, fs.map (mx_rv (mx_ρ base cst)))) := by
      rw [mx_w_get ha, hc]; rfl
    exact va_get (C := q.1) (T := q.2.1) (N := q.2.2) hx hb hts (mx_u_gd hq) hown hK iP a he hq k0 hk (hts _ hw) (fun x h9 => by rw [hT] at h9; exact h9) (v := mx_rv (mx_ρ base cst) v) (by rw [List.getElem?_map, hv]; rfl) hd kk
  · obtain ⟨o1, o2⟩ := c4
    have hr : mx_rv (mx_ρ base cst) (.ref (mx_B + (10 + i))) = .ref (cst (10 + i)) := by simp [mx_rv, mx_ρ_c]
    show W p l e R s m args below meth c H locs cells slots Q (F0 m pc ls (mx_rv (mx_ρ base cst) (.ref (mx_B + (10 + i))) :: r.map (mx_rv (mx_ρ base cst))))
    rw [hr]
    rcases hh with ⟨hw, rfl⟩ | ⟨hw, rfl⟩
    · exact va_getX (N := 8) (i := i) (v := fun _ => .int 0) (ad := fun i => cst (10 + i)) hx hb (fun j hj => (o1 j hj).2.1) hi iS hown (hts _ hw) (fun _ h9 => h9) hd (k H locs ls cells slots I)
    · have kk := k H locs ls cells slots I
      rw [List.map_cons, show mx_rv (mx_ρ base cst) (.ref (mx_B + (30 + i))) = .ref (cst (30 + i)) by simp [mx_rv, mx_ρ_c]] at kk
      exact va_getX (N := 8) (i := i) (v := fun i => .ref (cst (30 + i))) (ad := fun i => cst (10 + i)) hx hb (fun j hj => (o1 j hj).2.2.1) hi iS hown (hts _ hw) (fun _ h9 => h9) hd kk
theorem mx_A_ok (C : mx_Me D κ base cst X p s m args meth c M n0) (h : mx_stA X M pc L S hp f2) (k : mx_Go D κ base cst p l e R s m args below meth c Q M n0 sl0 f2) : mx_Go D κ base cst p l e R s m args below meth c Q M n0 sl0 (pc, L, S, hp) := by
  obtain ⟨hx, hb, hml, hown, hts, hmn, hE, hsz⟩ := C
  intro H locs ls cells slots I
  obtain ⟨iL, iN, iP, iS, iC, iQ⟩ := id I
  obtain ⟨hK, -, -, c1, c2, c3, c4, c5, c6, -⟩ := hE
  have he : ∀ {a : Nat} {x : mx_C}, a < hp.2.1 → hp.1 a = x → (mx_w (mx_ρ base cst) κ hp.1 hp.2.1)[a]? = some (mx_ρ base cst a, mx_rc (mx_ρ base cst) κ x) := fun ha hc => by rw [mx_w_get ha, hc]
  have hr : ∀ i : Nat, mx_rv (mx_ρ base cst) (.ref (mx_B + i)) = .ref (cst i) := fun i => by simp [mx_rv, mx_ρ_c]
  rcases h with ⟨i, a, n, f, r, hd, rfl, ha, haB, hc, hin, rfl⟩ | ⟨i, a, n, f, r, hd, rfl, ha, haB, hc, hin, rfl⟩ | ⟨i, a, n, f, r, hd, rfl, ha, haB, hc, hin, rfl⟩ | ⟨i, a, n, t, b, f, r, hd, rfl, ha, haB, ht, ht8, hc, hin, hf, rfl⟩ | ⟨a, n, t, y, r, hd, rfl, ha, haB, ht8, hc, hn, rfl⟩ | ⟨i, j, q, r, hd, rfl, hq, hin, rfl⟩ | ⟨j, q, r, hd, rfl, hq, rfl⟩ | ⟨i, j, r, hd, rfl, hj, hin, rfl⟩ | ⟨j, r, hd, rfl, hj, rfl⟩ | ⟨i, r, hd, rfl, hin, rfl⟩ | ⟨r, hd, rfl, rfl⟩
  · exact va_iald hx hb hK iP a 0 (he ha hc) (mx_tys_get κ (by omega)) hin hd (k H locs ls cells slots I)
  · exact va_lald hx hb hK iP a 1 (he ha hc) (mx_tys_get κ (by omega)) hin hd (k H locs ls cells slots I)
  · exact va_zald hx hb hK iP a 2 (he ha hc) (mx_tys_get κ (by omega)) hin hd (k H locs ls cells slots I)
  · have hlt : i.toNatClampNeg < n := Nat.not_le.mp fun q => hin (Or.inr q)
    refine W.aald (v := .ref (mx_ρ base cst b)) (ty := mx_ty t) hx hb (iP a _ (he ha hc)) ((hK.2 t _ (mx_tys_get κ ht8)).1 n (fun j => va_rf ((f j).map (mx_ρ base cst)))) ?_ (fun q => by cases q) (by show ¬ (i < 0 ∨ (arrV _ _ _).slots.size ≤ _); rw [arrV_size]; exact hin) ?_ rfl rfl hd (k H locs ls cells slots I)
    · rcases (show t = 3 ∨ t = 4 ∨ t = 5 ∨ t = 6 ∨ t = 7 by omega) with rfl | rfl | rfl | rfl | rfl <;> rfl
    · show (arrV (κ t) n (fun j => va_rf ((f j).map (mx_ρ base cst)))).slots[i.toNatClampNeg]? = _
      rw [arrV_read _ _ hlt, hf]
      rfl
  · exact va_alen hx hb hK iP a t (he ha hc) (mx_tys_get κ ht8) (show Int32.ofNat y.1 = _ by rw [hn]) hd (k H locs ls cells slots I)
  · show W p l e R s m args below meth c H locs cells slots Q (F0 m pc ls (.int i :: mx_rv (mx_ρ base cst) (.ref (mx_B + j)) :: r.map (mx_rv (mx_ρ base cst))))
    rw [hr]
    exact va_ti hx hb (c1 j q hq).2 iS hin rfl hd (k H locs ls cells slots I)
  · show W p l e R s m args below meth c H locs cells slots Q (F0 m pc ls (mx_rv (mx_ρ base cst) (.ref (mx_B + j)) :: r.map (mx_rv (mx_ρ base cst))))
    rw [hr]
    exact va_tlen hx hb (c1 j q hq).2 iS rfl hd (k H locs ls cells slots I)
  · show W p l e R s m args below meth c H locs cells slots Q (F0 m pc ls (.int i :: mx_rv (mx_ρ base cst) (.ref (mx_B + (30 + j))) :: r.map (mx_rv (mx_ρ base cst))))
    rw [hr]
    exact va_tb hx hb (c4.1 j hj).2.2.2 iS hin rfl hd (k H locs ls cells slots I)
  · show W p l e R s m args below meth c H locs cells slots Q (F0 m pc ls (mx_rv (mx_ρ base cst) (.ref (mx_B + (30 + j))) :: r.map (mx_rv (mx_ρ base cst))))
    rw [hr]
    exact va_tlen hx hb (c4.1 j hj).2.2.2 iS rfl hd (k H locs ls cells slots I)
  · show W p l e R s m args below meth c H locs cells slots Q (F0 m pc ls (.int i :: mx_rv (mx_ρ base cst) (.ref (mx_B + 100)) :: r.map (mx_rv (mx_ρ base cst))))
    rw [hr]
    have hlt : cst 100 < s.heap.size := by
      obtain ⟨scr, e1, -⟩ := c5
      exact (Array.getElem?_eq_some_iff.mp e1).1
    exact va_sld hx hb c5 hlt c6 iS hin hd (k H locs ls cells slots I)
  · show W p l e R s m args below meth c H locs cells slots Q (F0 m pc ls (mx_rv (mx_ρ base cst) (.ref (mx_B + 100)) :: r.map (mx_rv (mx_ρ base cst))))
    rw [hr]
    have hlt : cst 100 < s.heap.size := by
      obtain ⟨scr, e1, -⟩ := c5
      exact (Array.getElem?_eq_some_iff.mp e1).1
    exact va_slen hx hb c5 hlt c6 iS hd (k H locs ls cells slots I)
end MXR
