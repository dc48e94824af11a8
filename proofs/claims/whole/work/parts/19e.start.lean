/-! ===== the cells at the start, as typed cells; the law's first steps ===== -/
def T0 : St := (fun a k => if k = 18 ∧ sh a = .inr 1 then 60 else 0, fun c => if c = 0 then 46 else if c = 1 then 61 else if c = 2 then 106 else if c = 3 then 121 else 0, fun a => if a = 2 ∨ a = 572 then lane0 else fun _ => 0, fun _ _ => 0)
def seg (a k : Nat) : List mx_C := (List.range' a k).map (conc T0)
theorem seg_add (a k m : Nat) : seg a k ++ seg (a + k) m = seg a (k + m) := by
  unfold seg
  rw [← List.map_append, List.range'_append_1]
theorem seg_4 (a : Nat) : seg a 4 = [conc T0 a, conc T0 (a + 1), conc T0 (a + 2), conc T0 (a + 3)] := rfl
theorem wb_seg {bk : Nat → List mx_C} {base st : Nat} (n : Nat) (hb : ∀ j, j < n → bk (base + st * j) = seg (base + st * j) st) : ∀ i, i ≤ n → wb bk base st i = seg base (st * i) := by
  intro i
  induction i with
  | zero => intro _; rfl
  | succ i ih => intro hi; rw [wb_s, ih (by omega), hb i (by omega), seg_add, Nat.mul_succ]
theorem T0_i {a k : Nat} (h : k ≠ 18) : T0.1 a k = 0 := if_neg fun q => h q.1
theorem T0_a {a : Nat} (h : a ≠ 2) (h2 : a ≠ 572) : T0.2.2.1 a = fun _ => 0 := if_neg fun q => q.elim h h2
theorem way_seg {b : Nat} (h : sh b = .inr 10) : bX10 b = seg b 4 := by
  have e1 : b ≠ 1 := fun e => by subst e; exact absurd h (by decide)
  have e2 : b ≠ 571 := fun e => by subst e; exact absurd h (by decide)
  have e3 : b ≠ 0 := fun e => by subst e; exact absurd h (by decide)
  have e4 : b ≠ 570 := fun e => by subst e; exact absurd h (by decide)
  rw [seg_4, conc_o h, conc_i (shl10_1 h), conc_i (shl10_2 h), conc_l (shl10_3 h), T0_a (by omega) (by omega), T0_a (by omega) (by omega)]
  unfold bX10 flds
  rw [T0_i (by decide), T0_i (by decide), T0_i (by decide), T0_i (by decide)]
  rfl
theorem pu_seg {l : List mx_C} (h : l = seg 0 602) : pu mx_h0 0 l = conc T0 := by
  subst h
  funext i
  unfold pu
  rw [if_neg (by omega), Nat.sub_zero]
  by_cases g : i < 602
  · unfold seg
    rw [List.getElem?_map, List.getElem?_range' g, Nat.zero_add, Nat.one_mul]
    rfl
  · rw [List.getElem?_eq_none (by unfold seg; rw [List.length_map, List.length_range']; omega)]
    show mx_h0 i = conc T0 i
    have e : sh i = .inl (9, 0) := by
      by_cases q : sh i = .inl (9, 0)
      · exact q
      · exact absurd (sh_lt q) g
    unfold conc
    rw [e]
    rfl
theorem sg8 : bX8 1 = seg 1 12 := rfl
theorem sg6 : bX6 13 = seg 13 2 := rfl
theorem sgi : [wa 3 2 16 15 2] = seg 15 1 := rfl
theorem sgb0 : bX1 16 = seg 16 15 := rfl
theorem sgb1 : bX1 31 = seg 31 15 := rfl
theorem sgb2 : bX1 46 = seg 46 15 := rfl
theorem sgb3 : bX1 61 = seg 61 15 := rfl
theorem sgk0 : bX3 76 = seg 76 2 := rfl
theorem sgk1 : bX3 78 = seg 78 2 := rfl
theorem sg5a : (bX5a.set 1 (wa 4 96 123 4 96)).set 13 (wa 5 4 507 5 4) = seg 80 43 := rfl
theorem sg5t : wb bX9 507 5 4 = seg 507 20 := rfl
theorem sg5w : wb bX10 123 4 96 = seg 123 384 := wb_seg 96 (fun j hj => way_seg ((by decide +kernel : ∀ a, a < 96 → sh (123 + 4 * a) = .inr 10) j hj)) 96 (Nat.le_refl _)
theorem sg5 : bX5 = seg 80 447 := by
  unfold bX5
  rw [List.set_append_left _ _ (by decide), sg5a, sg5w, sg5t, show (123 : Nat) = 80 + 43 from rfl, seg_add, show (507 : Nat) = 80 + (43 + 384) from rfl, seg_add]
theorem sg2 : bX2 = seg 527 28 := rfl
theorem sg0 : bX0 555 = seg 555 2 := rfl
theorem sg7a : bX7 557 = seg 557 7 := rfl
theorem sg7b : bX7 564 = seg 564 7 := rfl
theorem sg12 : bX12 571 = seg 571 31 := rfl
theorem sg11 : bX11 = seg 0 571 := by
  unfold bX11
  rw [sg8, sg6, sgi, sgb0, sgb1, sgb2, sgb3, sgk0, sgk1, sg5, sg2, sg0, sg7a, sg7b]
  have e : ∀ a k m b n, a + k = b → k + m = n → seg a k ++ seg b m = seg a n := fun a k m b n h1 h2 => by subst h1; subst h2; exact seg_add a k m
  rw [e 1 12 2 13 14 rfl rfl, e 1 14 1 15 15 rfl rfl, e 1 15 15 16 30 rfl rfl, e 1 30 15 31 45 rfl rfl, e 1 45 15 46 60 rfl rfl, e 1 60 15 61 75 rfl rfl, e 1 75 2 76 77 rfl rfl, e 1 77 2 78 79 rfl rfl, e 1 79 447 80 526 rfl rfl, e 1 526 28 527 554 rfl rfl, e 1 554 2 555 556 rfl rfl, e 1 556 7 557 563 rfl rfl, e 1 563 7 564 570 rfl rfl]
  rfl
theorem sg_all : ([] ++ bX11) ++ bX12 571 = seg 0 602 := by
  rw [List.nil_append, sg11, sg12]
  exact seg_add 0 571 31
theorem law_start {X : Nat × (Nat → Int32)} {d : Nat} {v : Option Value} {T2 : St} (hd : 3 ≤ d) (k : tR X d mx_law 18 [some (.ref (mx_B + 100)), some (.ref (0 : Nat)), some (.ref (571 : Nat)), some (.int 0)] [] T0 v T2) : ∃ j, mx_run X (mx_call X d) mx_law j (0, mx_ent [.ref (mx_B + 100)] 4, [], (mx_h0, 0, 0)) (v, (conc T2, NN, SS)) := by
  show gR X d mx_law 0 [some (.ref (mx_B + 100)), none, none, none] [] (mx_h0, 0, 0) v (conc T2, NN, SS)
  rw [← pu_nil (h := mx_h0) (a := 0)]
  refine g_mk (d1 := 3) (n := 0) dL_law_0 dL_law_3 dL_law_4 nwL_7 iwL_9 rfl (Nat.le_of_ble_eq_true rfl) hd k_X11 ?_
  rw [show 0 + bX11.length = 571 from by rw [bX11_len]]
  refine g_p (L2 := [some (.ref (mx_B + 100)), some (.ref (0 : Nat)), none, none]) dL_law_7 rfl rfl ?_
  refine g_mk (d1 := 1) (n := 571) dL_law_8 dL_law_11 dL_law_12 nwL_10 iwL_12 (by rw [List.nil_append, bX11_len]) (Nat.le_of_ble_eq_true rfl) (by omega) (k_X12 571) ?_
  refine g_p (L2 := [some (.ref (mx_B + 100)), some (.ref (0 : Nat)), some (.ref (571 : Nat)), none]) dL_law_15 rfl rfl ?_
  refine g_k 0 dL_law_16 rfl rfl rfl ?_
  refine g_p (L2 := [some (.ref (mx_B + 100)), some (.ref (0 : Nat)), some (.ref (571 : Nat)), some (.int 0)]) dL_law_17 rfl rfl ?_
  rw [pu_seg sg_all]
  exact k
