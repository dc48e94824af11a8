/-! ===== what stands at the start ===== -/
theorem mx_inst : ∀ (ci : Nat) (r : vw_C), mx_cls[ci]? = some r → Cond.instantiable r.1 r.2.2 ∈ lw_tbl
  | 0, _, h => by cases h; exact (by decide +kernel : Cond.instantiable RX0 2 ∈ lw_tbl)
  | 1, _, h => by cases h; exact (by decide +kernel : Cond.instantiable RX1 19 ∈ lw_tbl)
  | 2, _, h => by cases h; exact (by decide +kernel : Cond.instantiable RX2 4 ∈ lw_tbl)
  | 3, _, h => by cases h; exact (by decide +kernel : Cond.instantiable RX3 1 ∈ lw_tbl)
  | 4, _, h => by cases h; exact (by decide +kernel : Cond.instantiable RX4 3 ∈ lw_tbl)
  | 5, _, h => by cases h; exact (by decide +kernel : Cond.instantiable RX5 20 ∈ lw_tbl)
  | 6, _, h => by cases h; exact (by decide +kernel : Cond.instantiable RX6 7 ∈ lw_tbl)
  | 7, _, h => by cases h; exact (by decide +kernel : Cond.instantiable RX7 8 ∈ lw_tbl)
  | 8, _, h => by cases h; exact (by decide +kernel : Cond.instantiable RX8 3 ∈ lw_tbl)
  | 9, _, h => by cases h; exact (by decide +kernel : Cond.instantiable RX9 4 ∈ lw_tbl)
  | 10, _, h => by cases h; exact (by decide +kernel : Cond.instantiable RX10 7 ∈ lw_tbl)
  | 11, _, h => by cases h; exact (by decide +kernel : Cond.instantiable RX11 17 ∈ lw_tbl)
  | 12, _, h => by cases h; exact (by decide +kernel : Cond.instantiable RX12 49 ∈ lw_tbl)
  | _ + 13, _, h => by simp [mx_cls] at h
theorem mx_aov {ty : FieldType} {args : Array Value} {s : State} (h : (Cond.arrayOver (.array ty)).before args s = true) : ∃ (comp c : ClassId) (k : Class), s.vm.classes[c]? = some k ∧ k.kind = .array comp (.array ty) ∧ s.vm.findClass ("[" ++ (FieldType.array ty).toString) = some c := by
  simp only [Cond.before, Cond.holds, Cond.value, beq_iff_eq] at h
  cases hc : s.vm.findClass (FieldType.array ty).toString with
  | none => simp [hc] at h
  | some comp =>
    simp only [hc, Option.bind_some, Option.bind_eq_some_iff, Option.map_eq_some_iff] at h
    obtain ⟨c, hi, k, hk, hb⟩ := h
    cases hkind : k.kind with
    | array component t2 =>
      rw [hkind] at hb
      simp at hb
      obtain ⟨rfl, hb2⟩ := hb
      exact ⟨component, c, k, hk, hkind, hb2⟩
    | _ => rw [hkind] at hb; simp at hb
theorem mx_startK {s : State} {args : Array Value} (hts : ∀ w ∈ lw_tbl, w.before args s = true) : ∃ (D : va_G) (κ : Nat → ClassId), va_K D mx_cls (mx_tys κ) s := by
  have h1 : ∀ ci : Nat, ∃ q : ClassId × (Nat → Nat), ∀ r : vw_C, mx_cls[ci]? = some r → u_Kn s r.1 r.2.1 r.2.2 q.1 q.2 := by
    intro ci
    cases hc : mx_cls[ci]? with
    | none => exact ⟨(0, fun _ => 0), fun r h => by cases h⟩
    | some r =>
      obtain ⟨cC, iS, hk⟩ := u_known (C := r.1) (T := r.2.1) (N := r.2.2) (n := r.2.2) hts (mx_cls_ok ci r hc).1 (hts _ (mx_inst ci r hc))
      exact ⟨(cC, iS), fun r2 h => by cases h; exact hk⟩
  obtain ⟨g, hg⟩ := Classical.axiomOfChoice h1
  have h2 : ∀ t : Nat, ∃ cA : ClassId, t < 8 → ArrOfT s cA (mx_ty t) ∧ va_RA s cA (mx_ty t) := by
    intro t
    by_cases ht : t < 8
    · rcases (show t = 0 ∨ t = 1 ∨ t = 2 ∨ t = 3 ∨ t = 4 ∨ t = 5 ∨ t = 6 ∨ t = 7 by omega) with rfl | rfl | rfl | rfl | rfl | rfl | rfl | rfl
      · obtain ⟨c, k, comp, a1, a2, a3⟩ := Cond.arrayClass_spec (hts (.arrayClass .int) (by decide +kernel))
        exact ⟨c, fun _ => ⟨fun n z => ⟨fun k h => (by cases h), k, a2, comp, a3⟩, a1⟩⟩
      · obtain ⟨c, k, comp, a1, a2, a3⟩ := Cond.arrayClass_spec (hts (.arrayClass .long) (by decide +kernel))
        exact ⟨c, fun _ => ⟨fun n z => ⟨fun k h => (by cases h), k, a2, comp, a3⟩, a1⟩⟩
      · obtain ⟨c, k, comp, a1, a2, a3⟩ := Cond.arrayClass_spec (hts (.arrayClass .boolean) (by decide +kernel))
        exact ⟨c, fun _ => ⟨fun n z => ⟨fun k h => (by cases h), k, a2, comp, a3⟩, a1⟩⟩
      · obtain ⟨comp, c, k, a0, -, a2, a3, a1⟩ := Cond.arrayOver_spec (hts (.arrayOver (.object RX1)) (by decide +kernel))
        exact ⟨c, fun _ => ⟨fun n z => ⟨fun k h => (by cases h), k, a2, comp, a3⟩, ⟨k, comp, a2, a3, a0, a1⟩⟩⟩
      · obtain ⟨comp, c, k, a0, -, a2, a3, a1⟩ := Cond.arrayOver_spec (hts (.arrayOver (.object RX10)) (by decide +kernel))
        exact ⟨c, fun _ => ⟨fun n z => ⟨fun k h => (by cases h), k, a2, comp, a3⟩, ⟨k, comp, a2, a3, a0, a1⟩⟩⟩
      · obtain ⟨comp, c, k, a0, -, a2, a3, a1⟩ := Cond.arrayOver_spec (hts (.arrayOver (.object RX9)) (by decide +kernel))
        exact ⟨c, fun _ => ⟨fun n z => ⟨fun k h => (by cases h), k, a2, comp, a3⟩, ⟨k, comp, a2, a3, a0, a1⟩⟩⟩
      · obtain ⟨comp, c, k, a2, a3, a1⟩ := mx_aov (hts (.arrayOver (.array .int)) (by decide +kernel))
        exact ⟨c, fun _ => ⟨fun n z => ⟨fun k h => (by cases h), k, a2, comp, a3⟩, a1⟩⟩
      · obtain ⟨comp, c, k, a2, a3, a1⟩ := mx_aov (hts (.arrayOver (.array .long)) (by decide +kernel))
        exact ⟨c, fun _ => ⟨fun n z => ⟨fun k h => (by cases h), k, a2, comp, a3⟩, a1⟩⟩
    · exact ⟨0, fun h => absurd h ht⟩
  obtain ⟨κ, hκ⟩ := Classical.axiomOfChoice h2
  refine ⟨(fun ci => (g ci).1, fun ci => (g ci).2), κ, fun ci q hq => hg ci q hq, fun t q hq => ?_⟩
  have ht : t < 8 := by
    have := (List.getElem?_eq_some_iff.mp hq).1
    simpa [mx_tys] using this
  rw [mx_tys_get κ ht] at hq
  cases hq
  exact hκ t ht
def mx_sm (i : Nat) : Term := .string RX6 (mx_str.getD i (0, "")).1
theorem mx_startC {s : State} {b L : Nat} {xs : Nat → Int32} (hL : L ≤ 384) (hts : ∀ w ∈ lw_tbl, w.before #[Value.ref b] s = true) (hg : (Jvm.Cond.and given_1 narrow_1).before #[Value.ref b] s = true) (hX : va_X b L xs s s.heap) (hbl : b < s.heap.size) : ∃ (cst : Nat → Nat) (ys : Nat → Int32), cst 100 = b ∧ mx_Cs s.heap.size cst (L, ys) s s.heap := by
  have hs := flat_of_before _ hg
  have hA : ∀ a : Nat, a < s.heap.size → ¬ (fun q => s.heap.size ≤ q) a := fun a h z => absurd z (Nat.not_le.mpr h)
  obtain ⟨t0, v0, T0⟩ := va_Tof (args := #[Value.ref b]) (s := s) (tm := .static "HotAtSeven" "WANTED" "[I") (ty := .int) (N := 4) (f := fun j => .int (([3, 0, 2, 4] : List Int32).getD j 0)) (A := fun q => s.heap.size ≤ q) (by decide) (hs _ (by decide +kernel)) (va_eqt (z := Int32.ofNat 4) (hs _ (by decide +kernel))) (fun j hj => va_eqt (hs _ ((by decide +kernel : ∀ j, j < 4 → Cond.eq (.elem (.static "HotAtSeven" "WANTED" "[I") (.int (Int32.ofNat j))) (.int (([3, 0, 2, 4] : List Int32).getD j 0)) ∈ flatC (Jvm.Cond.and given_1 narrow_1)) j hj))) hA
  have Z0 := va_Zof (hts (.laysStatic "HotAtSeven" "WANTED" "[I") (by decide +kernel)) (hts (.initialized "HotAtSeven") (by decide +kernel)) v0 hA
  obtain ⟨t1, v1, T1⟩ := va_Tof (args := #[Value.ref b]) (s := s) (tm := .static "HotAtSeven$Reader" "KITCHEN_LEAST" "[I") (ty := .int) (N := 7) (f := fun j => .int (([0, 0, 0, 0, 0, 1, 0] : List Int32).getD j 0)) (A := fun q => s.heap.size ≤ q) (by decide) (hs _ (by decide +kernel)) (va_eqt (z := Int32.ofNat 7) (hs _ (by decide +kernel))) (fun j hj => va_eqt (hs _ ((by decide +kernel : ∀ j, j < 7 → Cond.eq (.elem (.static "HotAtSeven$Reader" "KITCHEN_LEAST" "[I") (.int (Int32.ofNat j))) (.int (([0, 0, 0, 0, 0, 1, 0] : List Int32).getD j 0)) ∈ flatC (Jvm.Cond.and given_1 narrow_1)) j hj))) hA
  have Z1 := va_Zof (hts (.laysStatic "HotAtSeven$Reader" "KITCHEN_LEAST" "[I") (by decide +kernel)) (hts (.initialized "HotAtSeven$Reader") (by decide +kernel)) v1 hA
  obtain ⟨t2, v2, T2⟩ := va_Tof (args := #[Value.ref b]) (s := s) (tm := .static "HotAtSeven$Reader" "KITCHEN_MOST" "[I") (ty := .int) (N := 7) (f := fun j => .int (([3, 3, 3, 9, 9, 3, 9] : List Int32).getD j 0)) (A := fun q => s.heap.size ≤ q) (by decide) (hs _ (by decide +kernel)) (va_eqt (z := Int32.ofNat 7) (hs _ (by decide +kernel))) (fun j hj => va_eqt (hs _ ((by decide +kernel : ∀ j, j < 7 → Cond.eq (.elem (.static "HotAtSeven$Reader" "KITCHEN_MOST" "[I") (.int (Int32.ofNat j))) (.int (([3, 3, 3, 9, 9, 3, 9] : List Int32).getD j 0)) ∈ flatC (Jvm.Cond.and given_1 narrow_1)) j hj))) hA
  have Z2 := va_Zof (hts (.laysStatic "HotAtSeven$Reader" "KITCHEN_MOST" "[I") (by decide +kernel)) (hts (.initialized "HotAtSeven$Reader") (by decide +kernel)) v2 hA
  obtain ⟨t3, v3, T3⟩ := va_Tof (args := #[Value.ref b]) (s := s) (tm := .static "HotAtSeven$Asker" "ABOVE" "[I") (ty := .int) (N := 7) (f := fun j => .int (([0, 0, 0, 0, 0, 4, 1] : List Int32).getD j 0)) (A := fun q => s.heap.size ≤ q) (by decide) (hs _ (by decide +kernel)) (va_eqt (z := Int32.ofNat 7) (hs _ (by decide +kernel))) (fun j hj => va_eqt (hs _ ((by decide +kernel : ∀ j, j < 7 → Cond.eq (.elem (.static "HotAtSeven$Asker" "ABOVE" "[I") (.int (Int32.ofNat j))) (.int (([0, 0, 0, 0, 0, 4, 1] : List Int32).getD j 0)) ∈ flatC (Jvm.Cond.and given_1 narrow_1)) j hj))) hA
  have Z3 := va_Zof (hts (.laysStatic "HotAtSeven$Asker" "ABOVE" "[I") (by decide +kernel)) (hts (.initialized "HotAtSeven$Asker") (by decide +kernel)) v3 hA
  have ZC := va_Zof (hts (.laysStatic "java/lang/String" "COMPACT_STRINGS" "Z") (by decide +kernel)) (hts (.initialized "java/lang/String") (by decide +kernel)) (va_eqi (z := 1) (hs _ (by decide +kernel))) hA
  obtain ⟨w, tz, hw0, ZF⟩ : ∃ (w : Int32) (tz : Nat), True ∧ va_Z "jdk/internal/util/Preconditions" "SIOOBE_FORMATTER" "Ljava/util/function/BiFunction;" (if w = 0 then .null else .ref tz) (fun q => s.heap.size ≤ q) s s.heap := by
    rcases va_Zqof (hts (.laysStatic "jdk/internal/util/Preconditions" "SIOOBE_FORMATTER" "Ljava/util/function/BiFunction;") (by decide +kernel)) (hts (.initialized "jdk/internal/util/Preconditions") (by decide +kernel)) (hs _ (by decide +kernel)) hA with h | ⟨t, h⟩
    · exact ⟨0, 0, trivial, h⟩
    · exact ⟨1, t, trivial, h⟩
  have hX2 : va_X b L (fun j => if j = 1000000 then w else xs j) s s.heap := by
    obtain ⟨scr, e1, e2, e3, e4, e5⟩ := hX
    refine ⟨scr, e1, e2, e3, e4, fun j hj => ?_⟩
    show _ = some (Value.int (if j = 1000000 then w else xs j))
    rw [if_neg (by omega)]
    exact e5 j hj
  obtain ⟨adK, adV, hS, hev⟩ := vk_Sof (args := #[Value.ref b]) (s := s) (N := 8) (tm := mx_sm) (len := mx_slen) (byt := mx_sbyt) (A := fun q => s.heap.size ≤ q) (by decide) (fun i hi => hs _ ((by decide +kernel : ∀ i, i < 8 → Cond.exactly (mx_sm i) "java/lang/String" ∈ flatC (Jvm.Cond.and given_1 narrow_1)) i hi)) (fun i hi => hs _ ((by decide +kernel : ∀ i, i < 8 → Cond.eq (.field (mx_sm i) "java/lang/String" "coder" "B") (.int 0) ∈ flatC (Jvm.Cond.and given_1 narrow_1)) i hi)) (fun i hi => hs _ ((by decide +kernel : ∀ i, i < 8 → Cond.arrayOf (.field (mx_sm i) "java/lang/String" "value" "[B") .byte ∈ flatC (Jvm.Cond.and given_1 narrow_1)) i hi)) (fun i hi => hs _ ((by decide +kernel : ∀ i, i < 8 → Cond.eq (.length (.field (mx_sm i) "java/lang/String" "value" "[B")) (.int (Int32.ofNat (mx_slen.getD i 0))) ∈ flatC (Jvm.Cond.and given_1 narrow_1)) i hi)) (fun i hi j hj => hs _ ((by decide +kernel : ∀ i, i < 8 → ∀ j, j < mx_slen.getD i 0 → Cond.eq (.elem (.field (mx_sm i) "java/lang/String" "value" "[B") (.int (Int32.ofNat j))) (.int ((mx_sbyt.getD i []).getD j 0)) ∈ flatC (Jvm.Cond.and given_1 narrow_1)) i hi j hj)) (fun i j hi hj hne => ((by decide +kernel : ∀ i, i < 8 → ∀ j, j < 8 → i ≠ j → (Cond.not (Cond.eq (mx_sm i) (mx_sm j)) ∈ flatC (Jvm.Cond.and given_1 narrow_1) ∨ Cond.not (Cond.eq (mx_sm j) (mx_sm i)) ∈ flatC (Jvm.Cond.and given_1 narrow_1))) i hi j hj hne).imp (fun h => hs _ h) (fun h => hs _ h)) hA
  have hR : ∀ (k : Nat) (q : Nat × String), mx_str[k]? = some q → vk_R RX6 q.1 q.2 (adK k) s
    | 0, _, h => by cases h; exact vk_R.of (hts (.stringRef RX6 52 "kitchen") (by decide +kernel)) (hev 0 (by omega))
    | 1, _, h => by cases h; exact vk_R.of (hts (.stringRef RX6 37 "away") (by decide +kernel)) (hev 1 (by omega))
    | 2, _, h => by cases h; exact vk_R.of (hts (.stringRef RX6 82 "dish") (by decide +kernel)) (hev 2 (by omega))
    | 3, _, h => by cases h; exact vk_R.of (hts (.stringRef RX6 135 "ring") (by decide +kernel)) (hev 3 (by omega))
    | 4, _, h => by cases h; exact vk_R.of (hts (.stringRef RX6 137 "oven") (by decide +kernel)) (hev 4 (by omega))
    | 5, _, h => by cases h; exact vk_R.of (hts (.stringRef RX6 139 "hand") (by decide +kernel)) (hev 5 (by omega))
    | 6, _, h => by cases h; exact vk_R.of (hts (.stringRef RX6 141 "rest") (by decide +kernel)) (hev 6 (by omega))
    | 7, _, h => by cases h; exact vk_R.of (hts (.stringRef RX6 143 "keep") (by decide +kernel)) (hev 7 (by omega))
    | _ + 8, _, h => by simp [mx_str] at h
  refine ⟨fun j => if j = 0 then t0 else if j = 1 then t1 else if j = 2 then t2 else if j = 3 then t3 else if j = 100 then b else if j = 101 then tz else if j < 30 then adK (j - 10) else adV (j - 30), fun j => if j = 1000000 then w else xs j, rfl, ?_, ZC, ?_, ?_, hX2, Nat.not_le.mpr hbl, ZF⟩
  · intro k q hq
    match k, hq with
    | 0, hq => cases hq; exact ⟨Z0, T0⟩
    | 1, hq => cases hq; exact ⟨Z1, T1⟩
    | 2, hq => cases hq; exact ⟨Z2, T2⟩
    | 3, hq => cases hq; exact ⟨Z3, T3⟩
    | k + 4, hq => simp [mx_sta] at hq
  · intro k q hq
    have hk : k < 8 := by
      have := (List.getElem?_eq_some_iff.mp hq).1
      simpa [mx_str] using this
    simp only
    rw [if_neg (by omega), if_neg (by omega), if_neg (by omega), if_neg (by omega), if_neg (by omega), if_neg (by omega), if_pos (by omega), Nat.add_sub_cancel_left]
    exact hR k q hq
  · have e1 : ∀ i, i < 8 → (fun i => (fun j => if j = 0 then t0 else if j = 1 then t1 else if j = 2 then t2 else if j = 3 then t3 else if j = 100 then b else if j = 101 then tz else if j < 30 then adK (j - 10) else adV (j - 30)) (10 + i)) i = adK i := by
      intro i hi
      simp only
      rw [if_neg (by omega), if_neg (by omega), if_neg (by omega), if_neg (by omega), if_neg (by omega), if_neg (by omega), if_pos (by omega), Nat.add_sub_cancel_left]
    have e2 : ∀ i, i < 8 → (fun i => (fun j => if j = 0 then t0 else if j = 1 then t1 else if j = 2 then t2 else if j = 3 then t3 else if j = 100 then b else if j = 101 then tz else if j < 30 then adK (j - 10) else adV (j - 30)) (30 + i)) i = adV i := by
      intro i hi
      simp only
      rw [if_neg (by omega), if_neg (by omega), if_neg (by omega), if_neg (by omega), if_neg (by omega), if_neg (by omega), if_neg (by omega), Nat.add_sub_cancel_left]
    refine ⟨fun i hi => ?_, fun i j hi hj e3 => ?_⟩
    · rw [e1 i hi, e2 i hi]
      exact hS.1 i hi
    · rw [e1 i hi, e1 j hj] at e3
      exact hS.2 i j hi hj e3
theorem mx_startE {s : State} {b L : Nat} {xs : Nat → Int32} (hL : L ≤ 384) (hts : ∀ w ∈ lw_tbl, w.before #[Value.ref b] s = true) (hg : (Jvm.Cond.and given_1 narrow_1).before #[Value.ref b] s = true) (hX : va_X b L xs s s.heap) (hbl : b < s.heap.size) : ∃ (D : va_G) (κ : Nat → ClassId) (cst : Nat → Nat) (ys : Nat → Int32), cst 100 = b ∧ mx_E D κ s.heap.size cst (L, ys) s s.heap := by
  obtain ⟨D, κ, hK⟩ := mx_startK hts
  obtain ⟨cst, ys, hc, hC⟩ := mx_startC hL hts hg hX hbl
  refine ⟨D, κ, cst, ys, hc, hK, fun w hw => ?_, ⟨va_AO.of (hts (.arrayOver (.object RX1)) (by decide +kernel)), va_AO.of (hts (.arrayOver (.object RX9)) (by decide +kernel)), va_AO.of (hts (.arrayOver (.object RX10)) (by decide +kernel)), hts (.arrayOver (.array .int)) (by decide +kernel), hts (.arrayOver (.array .long)) (by decide +kernel)⟩, hC⟩
  obtain ⟨h1, h2⟩ := List.mem_filter.mp hw
  have h3 := hts w h1
  cases w <;> first | exact va_Nw.of rfl h3 | simp at h2
