/-! ===== the cells: from numbered ones to the machine's heap ===== -/
def mx_cls : List vw_C := [(RX0, TX0, 2), (RX1, TX1, 19), (RX2, TX2, 4), (RX3, TX3, 1), (RX4, TX4, 3), (RX5, TX5, 20), (RX6, TX6, 7), (RX7, TX7, 8), (RX8, TX8, 3), (RX9, TX9, 4), (RX10, TX10, 7), (RX11, TX11, 17), (RX12, TX12, 49)]
def mx_tyF (ci : Nat) : Nat → FieldType := match ci with
  | 0 => tyX0 | 1 => tyX1 | 2 => tyX2 | 3 => tyX3 | 4 => tyX4 | 5 => tyX5 | 6 => tyX6 | 7 => tyX7 | 8 => tyX8 | 9 => tyX9 | 10 => tyX10 | 11 => tyX11 | _ => tyX12
-- kinds of arrays
def mx_ty (t : Nat) : FieldType := match t with
  | 0 => .int
  | 1 => .long
  | 2 => .boolean
  | 3 => .object RX1
  | 4 => .object RX10
  | 5 => .object RX9
  | 6 => .array .int
  | _ => .array .long
def mx_tys (κ : Nat → ClassId) : List (ClassId × FieldType) := (List.range 8).map fun t => (κ t, mx_ty t)
theorem mx_tys_get (κ : Nat → ClassId) {t : Nat} (h : t < 8) : (mx_tys κ)[t]? = some (κ t, mx_ty t) := by
  unfold mx_tys
  rw [List.getElem?_map, List.getElem?_range h]
  rfl
theorem mx_cls_ok : ∀ (ci : Nat) (r : vw_C), mx_cls[ci]? = some r → (∀ w ∈ u_ws r.1 r.2.1 r.2.2, w ∈ lw_tbl) ∧ (∀ k, k < r.2.2 → parseFieldDescriptor (r.2.1 k).2.2.1 = some (mx_tyF ci k)) ∧ (∀ a, a < r.2.2 → ∀ b, b < r.2.2 → a ≠ b → (r.2.1 a).2.1 ≠ (r.2.1 b).2.1)
  | 0, _, h => by cases h; exact ⟨inX0, tyX0_ok, nmX0⟩
  | 1, _, h => by cases h; exact ⟨inX1, tyX1_ok, nmX1⟩
  | 2, _, h => by cases h; exact ⟨inX2, tyX2_ok, nmX2⟩
  | 3, _, h => by cases h; exact ⟨inX3, tyX3_ok, nmX3⟩
  | 4, _, h => by cases h; exact ⟨inX4, tyX4_ok, nmX4⟩
  | 5, _, h => by cases h; exact ⟨inX5, tyX5_ok, nmX5⟩
  | 6, _, h => by cases h; exact ⟨inX6, tyX6_ok, nmX6⟩
  | 7, _, h => by cases h; exact ⟨inX7, tyX7_ok, nmX7⟩
  | 8, _, h => by cases h; exact ⟨inX8, tyX8_ok, nmX8⟩
  | 9, _, h => by cases h; exact ⟨inX9, tyX9_ok, nmX9⟩
  | 10, _, h => by cases h; exact ⟨inX10, tyX10_ok, nmX10⟩
  | 11, _, h => by cases h; exact ⟨inX11, tyX11_ok, nmX11⟩
  | 12, _, h => by cases h; exact ⟨inX12, tyX12_ok, nmX12⟩
  | _ + 13, _, h => by simp [mx_cls] at h
-- the words that stay good
def mx_gd : List Cond := lw_tbl.filter goodWord
theorem mx_gd_in {w : Cond} (h : w ∈ mx_gd) : w ∈ lw_tbl := (List.mem_filter.mp h).1
theorem mx_gd_good {w : Cond} (h : w ∈ mx_gd) : goodWord w = true := (List.mem_filter.mp h).2
theorem mx_u_good (C : String) (T : u_T) (k : Nat) : goodWord (u_lay C T k) = true := by
  unfold u_lay
  split <;> rfl
theorem mx_u_gd {ci : Nat} {r : vw_C} (h : mx_cls[ci]? = some r) : ∀ w ∈ u_ws r.1 r.2.1 r.2.2, w ∈ mx_gd := by
  intro w hw
  refine List.mem_filter.mpr ⟨(mx_cls_ok ci r h).1 w hw, ?_⟩
  unfold u_ws at hw
  obtain ⟨k, -, rfl⟩ := List.mem_map.mp hw
  exact mx_u_good _ _ _
def mx_ρ (base : Nat) (cst : Nat → Nat) (i : Nat) : Nat := if i < mx_B then base + i else cst (i - mx_B)
theorem mx_ρ_lt {base : Nat} {cst : Nat → Nat} {i : Nat} (h : i < mx_B) : mx_ρ base cst i = base + i := if_pos h
theorem mx_ρ_c (base : Nat) (cst : Nat → Nat) (k : Nat) : mx_ρ base cst (mx_B + k) = cst k := by
  unfold mx_ρ
  rw [if_neg (by omega), Nat.add_sub_cancel_left]
def mx_ra (ρ : Nat → Nat) (a : vp_A) : vp_A := (a.1, match a.2 with
  | .inr (.inr (.inr (.inr f))) => .inr (.inr (.inr (.inr (fun j => (f j).map ρ))))
  | c => c)
def mx_rc (ρ : Nat → Nat) (κ : Nat → ClassId) (x : mx_C) : va_E := match x with
  | .inl a => .inl (κ a.1, mx_ra ρ a.2)
  | .inr o => .inr (o.1, o.2.map (mx_rv ρ))
def mx_w (ρ : Nat → Nat) (κ : Nat → ClassId) (h : Nat → mx_C) (n : Nat) : va_W := (List.range n).map fun i => (ρ i, mx_rc ρ κ (h i))
theorem mx_w_len (ρ : Nat → Nat) (κ : Nat → ClassId) (h : Nat → mx_C) (n : Nat) : (mx_w ρ κ h n).length = n := by simp [mx_w]
theorem mx_w_get {ρ : Nat → Nat} {κ : Nat → ClassId} {h : Nat → mx_C} {n i : Nat} (hi : i < n) : (mx_w ρ κ h n)[i]? = some (ρ i, mx_rc ρ κ (h i)) := by
  unfold mx_w
  rw [List.getElem?_map, List.getElem?_range hi]
  rfl
theorem mx_w_lt {ρ : Nat → Nat} {κ : Nat → ClassId} {h : Nat → mx_C} {n i : Nat} {q : Nat × va_E} (hq : (mx_w ρ κ h n)[i]? = some q) : i < n ∧ q = (ρ i, mx_rc ρ κ (h i)) := by
  have hi : i < n := by
    have := (List.getElem?_eq_some_iff.mp hq).1
    rwa [mx_w_len] at this
  rw [mx_w_get hi] at hq
  exact ⟨hi, (Option.some.inj hq).symm⟩
theorem mx_w_set {ρ : Nat → Nat} {κ : Nat → ClassId} {h : Nat → mx_C} {n i : Nat} (x : mx_C) : (mx_w ρ κ h n).set i (ρ i, mx_rc ρ κ x) = mx_w ρ κ (va_up h i x) n := by
  apply List.ext_getElem?
  intro j
  by_cases hj : j < n
  · rw [mx_w_get hj]
    by_cases e : i = j
    · subst e
      rw [List.getElem?_set_self (by rw [mx_w_len]; exact hj), va_up_self]
    · rw [List.getElem?_set_ne e, mx_w_get hj, show va_up h i x j = h j from if_neg (fun z => e z.symm)]
  · rw [List.getElem?_eq_none (by simp [mx_w_len]; omega), List.getElem?_eq_none (by rw [mx_w_len]; omega)]
theorem mx_w_push {ρ : Nat → Nat} {κ : Nat → ClassId} {h : Nat → mx_C} {n : Nat} (x : mx_C) : mx_w ρ κ h n ++ [(ρ n, mx_rc ρ κ x)] = mx_w ρ κ (va_up h n x) (n + 1) := by
  unfold mx_w
  rw [List.range_succ, List.map_append]
  congr 1
  · apply List.map_congr_left
    intro i hi
    have : i < n := List.mem_range.mp hi
    rw [show va_up h n x i = h i from if_neg (by omega)]
  · simp [va_up_self]
theorem mx_D {base : Nat} {cst : Nat → Nat} {κ : Nat → ClassId} {h : Nat → mx_C} {n : Nat} (hn : n ≤ mx_B) : va_D (fun q => base ≤ q) (mx_w (mx_ρ base cst) κ h n) := by
  refine ⟨fun i j p q hp hq e => ?_, fun k q hq => ?_⟩
  · obtain ⟨h1, rfl⟩ := mx_w_lt hp
    obtain ⟨h2, rfl⟩ := mx_w_lt hq
    simp only at e
    rw [mx_ρ_lt (by omega), mx_ρ_lt (by omega)] at e
    omega
  · obtain ⟨h1, rfl⟩ := mx_w_lt hq
    show base ≤ _
    rw [mx_ρ_lt (by omega)]
    omega
theorem mx_rv_nar (ρ : Nat → Nat) (ty : FieldType) (v : Value) (h : narrow ty v = v) : narrow ty (mx_rv ρ v) = mx_rv ρ v := by
  cases v with
  | ref a => cases ty <;> rfl
  | _ => exact h
theorem mx_rv_fits (ρ : Nat → Nat) (ty : FieldType) (v : Value) (h : fits ty v = true) : fits ty (mx_rv ρ v) = true := by
  cases v with
  | ref a => cases ty <;> first | rfl | exact h
  | _ => exact h
-- what stands at the start and is never written
def mx_sta : List (String × String × List Int32) := [("HotAtSeven", "WANTED", [3, 0, 2, 4]), ("HotAtSeven$Reader", "KITCHEN_LEAST", [0, 0, 0, 0, 0, 1, 0]), ("HotAtSeven$Reader", "KITCHEN_MOST", [3, 3, 3, 9, 9, 3, 9]), ("HotAtSeven$Asker", "ABOVE", [0, 0, 0, 0, 0, 4, 1])]
def mx_str : List (Nat × String) := [(52, "kitchen"), (37, "away"), (82, "dish"), (135, "ring"), (137, "oven"), (139, "hand"), (141, "rest"), (143, "keep")]
def mx_slen : List Nat := [7, 4, 4, 4, 4, 4, 4, 4]
def mx_sbyt : List (List Int32) := [[107, 105, 116, 99, 104, 101, 110], [97, 119, 97, 121], [100, 105, 115, 104], [114, 105, 110, 103], [111, 118, 101, 110], [104, 97, 110, 100], [114, 101, 115, 116], [107, 101, 101, 112]]
def mx_nest : List Cond := lw_tbl.filter fun w => match w with
  | .methodLinkNest _ _ _ _ => true
  | _ => false
def mx_AO (ty : FieldType) (U : State) : Prop := (Cond.arrayOver (.array ty)).before #[] U = true
theorem mx_AO.spec {ty : FieldType} {args : Array Value} {s : State} (h : (Cond.arrayOver (.array ty)).before args s = true) : ∃ (comp c : ClassId) (k : Class), s.vm.findClass (FieldType.array ty).toString = some comp ∧ (s.vm.classes.findIdx? fun (x : Class) => match x.kind with | .array component _ => component == comp | _ => false) = some c ∧ s.vm.classes[c]? = some k ∧ (∃ cp : ClassId, k.kind = .array cp (.array ty)) ∧ s.vm.findClass ("[" ++ (FieldType.array ty).toString) = some c := by
  simp only [Cond.before, Cond.holds, Cond.value, beq_iff_eq] at h
  cases hc : s.vm.findClass (FieldType.array ty).toString with
  | none => simp [hc] at h
  | some comp =>
    simp only [hc, Option.bind_some, Option.bind_eq_some_iff, Option.map_eq_some_iff] at h
    obtain ⟨c, hi, k, hk, hb⟩ := h
    cases hkind : k.kind with
    | array component t2 =>
      rw [hkind] at hb
      simp at hb
      obtain ⟨rfl, hb2⟩ := hb
      exact ⟨comp, c, k, rfl, hi, hk, ⟨component, hkind⟩, hb2⟩
    | _ => rw [hkind] at hb; simp at hb
theorem mx_AO.moved {ty : FieldType} {u U : State} (hvm : u.vm.Alike U.vm) (h : mx_AO ty u) : mx_AO ty U := by
  obtain ⟨comp, c, k, h1, h2, h3, ⟨cp, h4⟩, h5⟩ := mx_AO.spec h
  obtain ⟨k', hk', he⟩ := hvm.2.2 _ _ h3
  have hi : (U.vm.classes.findIdx? fun (x : Class) => match x.kind with | .array component _ => component == comp | _ => false) = some c := by
    have e0 : U.vm.bare.classes = u.vm.bare.classes := by first | rw [hvm.bare_eq] | rw [← hvm.bare_eq]
    have a := va_idx_bare U.vm comp
    have b := va_idx_bare u.vm comp
    rw [e0] at a
    exact (a.symm.trans b).trans h2
  have hkind : k'.kind = .array cp (.array ty) := by rw [he]; exact h4
  have f1 : U.vm.findClass (FieldType.array ty).toString = some comp := by rw [hvm.findClass]; exact h1
  have f2 : U.vm.findClass ("[" ++ (FieldType.array ty).toString) = some c := by rw [hvm.findClass]; exact h5
  unfold mx_AO Cond.before Cond.holds
  simp only [Cond.value, f1, Option.bind_some, beq_iff_eq, Option.bind_eq_some_iff, Option.map_eq_some_iff]
  exact ⟨c, hi, k', hk', by rw [hkind]; simp [f2]⟩
def mx_Cs (base : Nat) (cst : Nat → Nat) (X : Nat × (Nat → Int32)) (U : State) (H : Heap) : Prop :=
  (∀ (k : Nat) (q : String × String × List Int32), mx_sta[k]? = some q → va_Z q.1 q.2.1 "[I" (.ref (cst k)) (fun q => base ≤ q) U H ∧ va_T .int (cst k) q.2.2.length (fun j => .int (q.2.2.getD j 0)) (fun q => base ≤ q) U H) ∧
  va_Z "java/lang/String" "COMPACT_STRINGS" "Z" (.int 1) (fun q => base ≤ q) U H ∧
  (∀ (k : Nat) (q : Nat × String), mx_str[k]? = some q → vk_R RX6 q.1 q.2 (cst (10 + k)) U) ∧
  vk_S 8 mx_slen mx_sbyt (fun i => cst (10 + i)) (fun i => cst (30 + i)) (fun q => base ≤ q) U H ∧
  va_X (cst 100) X.1 X.2 U H ∧ ¬ base ≤ cst 100 ∧
  va_Z "jdk/internal/util/Preconditions" "SIOOBE_FORMATTER" "Ljava/util/function/BiFunction;" (if X.2 1000000 = 0 then .null else .ref (cst 101)) (fun q => base ≤ q) U H
def mx_E (D : va_G) (κ : Nat → ClassId) (base : Nat) (cst : Nat → Nat) (X : Nat × (Nat → Int32)) (U : State) (H : Heap) : Prop :=
  va_K D mx_cls (mx_tys κ) U ∧ (∀ w ∈ mx_nest, va_Nw w U) ∧ (va_AO RX1 U ∧ va_AO RX9 U ∧ va_AO RX10 U ∧ mx_AO .int U ∧ mx_AO .long U) ∧ mx_Cs base cst X U H
theorem mx_Cs.moved {base : Nat} {cst : Nat → Nat} {X : Nat × (Nat → Int32)} {s U : State} {H H1 : Heap} (hW : s.WarmedH U.vm) (hq : ∀ a : Nat, a < H.size → ¬ base ≤ a → H1[a]? = H[a]?) (h : mx_Cs base cst X s H) : mx_Cs base cst X U H1 := by
  obtain ⟨h1, h2, h3, h4, h5, h6, h7⟩ := h
  refine ⟨fun k q hk => ⟨((h1 k q hk).1.kept hq).moved hW.alike, ((h1 k q hk).2.kept hq).moved hW.alike⟩, (h2.kept hq).moved hW.alike, fun k q hk => (h3 k q hk).warm hW, (h4.kept hq).moved hW.alike, ?_, h6, (h7.kept hq).moved hW.alike⟩
  have hlt : cst 100 < H.size := by
    obtain ⟨scr, e, -⟩ := h5
    exact (Array.getElem?_eq_some_iff.mp e).1
  exact (h5.kept (hq _ hlt h6)).moved hW.alike
theorem mx_E.moved {D : va_G} {κ : Nat → ClassId} {base : Nat} {cst : Nat → Nat} {X : Nat × (Nat → Int32)} {s U : State} {H H1 : Heap} (hW : s.WarmedH U.vm) (hq : ∀ a : Nat, a < H.size → ¬ base ≤ a → H1[a]? = H[a]?) (h : mx_E D κ base cst X s H) : mx_E D κ base cst X U H1 := by
  obtain ⟨h1, h2, h3, h4⟩ := h
  refine ⟨h1.moved hW.alike, fun w hw => ?_, ⟨h3.1.moved hW.alike, h3.2.1.moved hW.alike, h3.2.2.1.moved hW.alike, h3.2.2.2.1.moved hW.alike, h3.2.2.2.2.moved hW.alike⟩, h4.moved hW hq⟩
  have hm := (List.mem_filter.mp hw).2
  have h0 := h2 w hw
  cases w <;> first | exact va_Nw.warmM hW h0 | simp at hm
