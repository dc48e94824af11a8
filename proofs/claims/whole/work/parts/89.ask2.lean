/-! ===== the pair ask, the reference and both ===== -/
theorem iso_t : ∀ k : Nat, k < 7 → (x_m_isOf tz (iz k) 1 = if k = 1 ∨ k = 6 then 1 else 0) ∧ (x_m_isOf tz (iz k) 4 = if k = 4 ∨ k = 5 then 1 else 0) := by decide +kernel
theorem iso_1 {U : St} {k : Nat} (hk : k < 7) : x_m_isOf U (iz k) 1 = if k = 1 ∨ k = 6 then 1 else 0 := (iso_t k hk).1
theorem iso_4 {U : St} {k : Nat} (hk : k < 7) : x_m_isOf U (iz k) 4 = if k = 4 ∨ k = 5 then 1 else 0 := (iso_t k hk).2
section AM
variable {T : St} {s : Nat} {B : Nat → Int} {p : Nat × (Nat → Nat)}
theorem m_mark1 (hs : s < 24) (h : AsM T B p) (hp : p.1 < 8) : ok_m_markOf T (iz s) (iz 1) ∧ (fun r : Int32 × St => r.1 = iz ((s : Int)) ∧ AsM r.2 B ((ad p 20))) (x_m_markOf T (iz s) (iz 1)) := by
  refine so_m_markOf (Q := fun r : Int32 × St => r.1 = iz ((s : Int)) ∧ AsM r.2 B ((ad p 20))) _ _ ?_
  have i4 : ∀ U : St, x_m_isOf U (iz 1) 4 = 0 := fun U => iso_4 (k := 1) (by omega)
  have i1 : True := trivial
  obtain ⟨o0, g0⟩ := m_beg (x := 20) (y := 20) rfl h (by show p.1 < 16; omega)
  unfold wp_m_markOf
  simp (decide := true) only [jn, i1, i4, true_implies, false_implies, not_true_eq_false, not_false_eq_true, and_true, true_and]
  exact ⟨o0, g0⟩
theorem m_mark2 (hs : s < 24) (h : AsM T B p) (hp : p.1 < 8) : ok_m_markOf T (iz s) (iz 2) ∧ (fun r : Int32 × St => r.1 = iz ((s : Int)) ∧ AsM r.2 B ((ad p 20))) (x_m_markOf T (iz s) (iz 2)) := by
  refine so_m_markOf (Q := fun r : Int32 × St => r.1 = iz ((s : Int)) ∧ AsM r.2 B ((ad p 20))) _ _ ?_
  have i4 : ∀ U : St, x_m_isOf U (iz 2) 4 = 0 := fun U => iso_4 (k := 2) (by omega)
  have i1 : True := trivial
  obtain ⟨o0, g0⟩ := m_beg (x := 20) (y := 20) rfl h (by show p.1 < 16; omega)
  unfold wp_m_markOf
  simp (decide := true) only [jn, i1, i4, true_implies, false_implies, not_true_eq_false, not_false_eq_true, and_true, true_and]
  exact ⟨o0, g0⟩
theorem m_mark3 (hs : s < 24) (h : AsM T B p) (hp : p.1 < 8) : ok_m_markOf T (iz s) (iz 3) ∧ (fun r : Int32 × St => r.1 = iz ((s : Int) + lg B s) ∧ AsM r.2 B ((ad (ad (ad p 23) 20) 10))) (x_m_markOf T (iz s) (iz 3)) := by
  refine so_m_markOf (Q := fun r : Int32 × St => r.1 = iz ((s : Int) + lg B s) ∧ AsM r.2 B ((ad (ad (ad p 23) 20) 10))) _ _ ?_
  have i4 : ∀ U : St, x_m_isOf U (iz 3) 4 = 0 := fun U => iso_4 (k := 3) (by omega)
  have i1 : True := trivial
  obtain ⟨o0, g0⟩ := m_beg (x := 23) (y := 23) rfl h (by show p.1 < 16; omega)
  obtain ⟨o1, g1⟩ := m_beg (x := 20) (y := 20) rfl g0 (by show p.1 + 1 < 16; omega)
  obtain ⟨o2, g2⟩ := m_beg (x := 10) (y := 10) rfl g1 (by show p.1 + 1 + 1 < 16; omega)
  unfold wp_m_markOf
  simp (decide := true) only [jn, i1, i4, true_implies, false_implies, not_true_eq_false, not_false_eq_true, and_true, true_and]
  refine ⟨o0, o1, o2, oks1 (by omega), ?_, g2⟩
  rw [ms1 g2.2 (by omega), Int.toNat_natCast, iz_add]
theorem m_mark4 (hs : s < 24) (h : AsM T B p) (hp : p.1 < 8) : ok_m_markOf T (iz s) (iz 4) ∧ (fun r : Int32 × St => r.1 = iz ((s : Int) + 50) ∧ AsM r.2 B ((ad (ad p 21) 20))) (x_m_markOf T (iz s) (iz 4)) := by
  refine so_m_markOf (Q := fun r : Int32 × St => r.1 = iz ((s : Int) + 50) ∧ AsM r.2 B ((ad (ad p 21) 20))) _ _ ?_
  have i4 : ∀ U : St, x_m_isOf U (iz 4) 4 = 1 := fun U => iso_4 (k := 4) (by omega)
  have i1 : True := trivial
  obtain ⟨o0, g0⟩ := m_beg (x := 21) (y := 21) rfl h (by show p.1 < 16; omega)
  obtain ⟨o1, g1⟩ := m_beg (x := 20) (y := 20) rfl g0 (by show p.1 + 1 < 16; omega)
  unfold wp_m_markOf
  simp (decide := true) only [jn, i1, i4, true_implies, false_implies, not_true_eq_false, not_false_eq_true, and_true, true_and]
  refine ⟨o0, o1, ?_, g1⟩
  rw [z_50, iz_add]
theorem m_mark5 (hs : s < 24) (h : AsM T B p) (hp : p.1 < 8) : ok_m_markOf T (iz s) (iz 5) ∧ (fun r : Int32 × St => r.1 = iz ((s : Int) + 50 + on B s) ∧ AsM r.2 B ((ad (ad (ad p 22) 21) 20))) (x_m_markOf T (iz s) (iz 5)) := by
  refine so_m_markOf (Q := fun r : Int32 × St => r.1 = iz ((s : Int) + 50 + on B s) ∧ AsM r.2 B ((ad (ad (ad p 22) 21) 20))) _ _ ?_
  have i4 : ∀ U : St, x_m_isOf U (iz 5) 4 = 1 := fun U => iso_4 (k := 5) (by omega)
  have i1 : True := trivial
  obtain ⟨o0, g0⟩ := m_beg (x := 22) (y := 22) rfl h (by show p.1 < 16; omega)
  obtain ⟨o1, g1⟩ := m_beg (x := 21) (y := 21) rfl g0 (by show p.1 + 1 < 16; omega)
  obtain ⟨o2, g2⟩ := m_beg (x := 20) (y := 20) rfl g1 (by show p.1 + 1 + 1 < 16; omega)
  unfold wp_m_markOf
  simp (decide := true) only [jn, i1, i4, true_implies, false_implies, not_true_eq_false, not_false_eq_true, and_true, true_and]
  refine ⟨o0, o1, o2, oks4 (by omega), ?_, g2⟩
  rw [ms4 g2.2 (by omega), Int.toNat_natCast, z_50, iz_add, iz_add]
theorem m_mark6 (hs : s < 24) (h : AsM T B p) (hp : p.1 < 8) : ok_m_markOf T (iz s) (iz 6) ∧ (fun r : Int32 × St => r.1 = iz (-(s : Int)) ∧ AsM r.2 B ((ad (ad p 24) 20))) (x_m_markOf T (iz s) (iz 6)) := by
  refine so_m_markOf (Q := fun r : Int32 × St => r.1 = iz (-(s : Int)) ∧ AsM r.2 B ((ad (ad p 24) 20))) _ _ ?_
  have i4 : ∀ U : St, x_m_isOf U (iz 6) 4 = 0 := fun U => iso_4 (k := 6) (by omega)
  have i1 : True := trivial
  obtain ⟨o0, g0⟩ := m_beg (x := 24) (y := 24) rfl h (by show p.1 < 16; omega)
  obtain ⟨o1, g1⟩ := m_beg (x := 20) (y := 20) rfl g0 (by show p.1 + 1 < 16; omega)
  unfold wp_m_markOf
  simp (decide := true) only [jn, i1, i4, true_implies, false_implies, not_true_eq_false, not_false_eq_true, and_true, true_and]
  refine ⟨o0, o1, ?_, g1⟩
  rw [iz_neg]
theorem m_size1 (hs : s < 24) (h : AsM T B p) (hp : p.1 < 6) : ok_m_sizeOf T (iz s) (iz 1) ∧ (fun r : Int32 × St => r.1 = iz (lg B s + 10 * on B s) ∧ AsM r.2 B ((ad (ad p 11) 10))) (x_m_sizeOf T (iz s) (iz 1)) := by
  refine so_m_sizeOf (Q := fun r : Int32 × St => r.1 = iz (lg B s + 10 * on B s) ∧ AsM r.2 B ((ad (ad p 11) 10))) _ _ ?_
  have i1 : ∀ U : St, x_m_isOf U (iz 1) 1 = 1 := fun U => iso_1 (k := 1) (by omega)
  have i4 : True := trivial
  obtain ⟨o0, g0⟩ := m_beg (x := 11) (y := 11) rfl h (by show p.1 < 16; omega)
  obtain ⟨o1, g1⟩ := m_beg (x := 10) (y := 10) rfl g0 (by show p.1 + 1 < 16; omega)
  unfold wp_m_sizeOf
  simp (decide := true) only [jn, i1, i4, true_implies, false_implies, not_true_eq_false, not_false_eq_true, and_true, true_and]
  refine ⟨o0, o1, oks1 (by omega), oks4 (by omega), ?_, g1⟩
  rw [ms1 g1.2 (by omega), ms4 g1.2 (by omega), Int.toNat_natCast, z_10, iz_mul, iz_add]
theorem m_size2 (hs : s < 24) (h : AsM T B p) (hp : p.1 < 6) : ok_m_sizeOf T (iz s) (iz 2) ∧ (fun r : Int32 × St => r.1 = iz (lg B s + tw B s - on B s) ∧ AsM r.2 B ((ad (ad p 13) 10))) (x_m_sizeOf T (iz s) (iz 2)) := by
  refine so_m_sizeOf (Q := fun r : Int32 × St => r.1 = iz (lg B s + tw B s - on B s) ∧ AsM r.2 B ((ad (ad p 13) 10))) _ _ ?_
  have i1 : ∀ U : St, x_m_isOf U (iz 2) 1 = 0 := fun U => iso_1 (k := 2) (by omega)
  have i4 : True := trivial
  obtain ⟨o0, g0⟩ := m_beg (x := 13) (y := 13) rfl h (by show p.1 < 16; omega)
  obtain ⟨o1, g1⟩ := m_beg (x := 10) (y := 10) rfl g0 (by show p.1 + 1 < 16; omega)
  unfold wp_m_sizeOf
  simp (decide := true) only [jn, i1, i4, true_implies, false_implies, not_true_eq_false, not_false_eq_true, and_true, true_and]
  refine ⟨o0, o1, oks1 (by omega), oks5 (by omega), oks4 (by omega), ?_, g1⟩
  rw [ms1 g1.2 (by omega), ms4 g1.2 (by omega), ms5 g1.2 (by omega), Int.toNat_natCast, add0, iz_add, iz_sub]
theorem m_size3 (hs : s < 24) (h : AsM T B p) (hp : p.1 < 6) : ok_m_sizeOf T (iz s) (iz 3) ∧ (fun r : Int32 × St => r.1 = iz (lg B s) ∧ AsM r.2 B ((ad p 10))) (x_m_sizeOf T (iz s) (iz 3)) := by
  refine so_m_sizeOf (Q := fun r : Int32 × St => r.1 = iz (lg B s) ∧ AsM r.2 B ((ad p 10))) _ _ ?_
  have i1 : ∀ U : St, x_m_isOf U (iz 3) 1 = 0 := fun U => iso_1 (k := 3) (by omega)
  have i4 : True := trivial
  obtain ⟨o0, g0⟩ := m_beg (x := 10) (y := 10) rfl h (by show p.1 < 16; omega)
  unfold wp_m_sizeOf
  simp (decide := true) only [jn, i1, i4, true_implies, false_implies, not_true_eq_false, not_false_eq_true, and_true, true_and]
  refine ⟨o0, oks1 (by omega), ?_, g0⟩
  rw [ms1 g0.2 (by omega), Int.toNat_natCast, add0]
theorem m_size4 (hs : s < 24) (h : AsM T B p) (hp : p.1 < 6) : ok_m_sizeOf T (iz s) (iz 4) ∧ (fun r : Int32 × St => r.1 = iz (lg B s) ∧ AsM r.2 B ((ad p 10))) (x_m_sizeOf T (iz s) (iz 4)) := by
  refine so_m_sizeOf (Q := fun r : Int32 × St => r.1 = iz (lg B s) ∧ AsM r.2 B ((ad p 10))) _ _ ?_
  have i1 : ∀ U : St, x_m_isOf U (iz 4) 1 = 0 := fun U => iso_1 (k := 4) (by omega)
  have i4 : True := trivial
  obtain ⟨o0, g0⟩ := m_beg (x := 10) (y := 10) rfl h (by show p.1 < 16; omega)
  unfold wp_m_sizeOf
  simp (decide := true) only [jn, i1, i4, true_implies, false_implies, not_true_eq_false, not_false_eq_true, and_true, true_and]
  refine ⟨o0, oks1 (by omega), ?_, g0⟩
  rw [ms1 g0.2 (by omega), Int.toNat_natCast, add0]
theorem m_size5 (hs : s < 24) (h : AsM T B p) (hp : p.1 < 6) : ok_m_sizeOf T (iz s) (iz 5) ∧ (fun r : Int32 × St => r.1 = iz (lg B s - ((s : Int) + 50 + on B s)) ∧ AsM r.2 B ((ad (ad (ad (ad (ad p 14) 10) 22) 21) 20))) (x_m_sizeOf T (iz s) (iz 5)) := by
  refine so_m_sizeOf (Q := fun r : Int32 × St => r.1 = iz (lg B s - ((s : Int) + 50 + on B s)) ∧ AsM r.2 B ((ad (ad (ad (ad (ad p 14) 10) 22) 21) 20))) _ _ ?_
  have i1 : ∀ U : St, x_m_isOf U (iz 5) 1 = 0 := fun U => iso_1 (k := 5) (by omega)
  have i4 : True := trivial
  obtain ⟨o0, g0⟩ := m_beg (x := 14) (y := 14) rfl h (by show p.1 < 16; omega)
  obtain ⟨o1, g1⟩ := m_beg (x := 10) (y := 10) rfl g0 (by show p.1 + 1 < 16; omega)
  obtain ⟨om, em, gm⟩ := m_mark5 (T := x_m_began (x_m_began T 14) 10) hs g1 (by show p.1 + 1 + 1 < 8; omega)
  unfold wp_m_sizeOf
  simp (decide := true) only [jn, i1, i4, true_implies, false_implies, not_true_eq_false, not_false_eq_true, and_true, true_and]
  refine ⟨o0, o1, oks1 (by omega), om, ?_, gm⟩
  rw [ms1 g1.2 (by omega), em, Int.toNat_natCast, add0, iz_sub]
theorem m_size6 (hs : s < 24) (h : AsM T B p) (hp : p.1 < 6) : ok_m_sizeOf T (iz s) (iz 6) ∧ (fun r : Int32 × St => r.1 = iz (2 * (lg B s + 10 * on B s)) ∧ AsM r.2 B ((ad (ad (ad p 12) 11) 10))) (x_m_sizeOf T (iz s) (iz 6)) := by
  refine so_m_sizeOf (Q := fun r : Int32 × St => r.1 = iz (2 * (lg B s + 10 * on B s)) ∧ AsM r.2 B ((ad (ad (ad p 12) 11) 10))) _ _ ?_
  have i1 : ∀ U : St, x_m_isOf U (iz 6) 1 = 1 := fun U => iso_1 (k := 6) (by omega)
  have i4 : True := trivial
  obtain ⟨o0, g0⟩ := m_beg (x := 12) (y := 12) rfl h (by show p.1 < 16; omega)
  obtain ⟨o1, g1⟩ := m_beg (x := 11) (y := 11) rfl g0 (by show p.1 + 1 < 16; omega)
  obtain ⟨o2, g2⟩ := m_beg (x := 10) (y := 10) rfl g1 (by show p.1 + 1 + 1 < 16; omega)
  unfold wp_m_sizeOf
  simp (decide := true) only [jn, i1, i4, true_implies, false_implies, not_true_eq_false, not_false_eq_true, and_true, true_and]
  refine ⟨o0, o1, o2, oks1 (by omega), oks4 (by omega), ?_, g2⟩
  rw [ms1 g2.2 (by omega), ms4 g2.2 (by omega), Int.toNat_natCast, z_10, iz_mul, iz_add, z_2, iz_mul]
theorem m_mark (hs : s < 24) (hW : WFs B s) (h : AsM T B p) (hp : p.1 < 6) : ok_m_markOf T (iz s) (iz (kv B s)) ∧ (x_m_markOf T (iz s) (iz (kv B s))).1 = iz (mkV B s) ∧ AsM (x_m_markOf T (iz s) (iz (kv B s))).2 B (mkT (kv B s) p) := by
  have kb := kv_b2 hW
  unfold mkV mkT
  rcases (show kv B s = 1 ∨ kv B s = 2 ∨ kv B s = 3 ∨ kv B s = 4 ∨ kv B s = 5 ∨ kv B s = 6 by omega) with e | e | e | e | e | e <;> rw [e]
  · exact m_mark1 hs h (by omega)
  · exact m_mark2 hs h (by omega)
  · exact m_mark3 hs h (by omega)
  · exact m_mark4 hs h (by omega)
  · exact m_mark5 hs h (by omega)
  · exact m_mark6 hs h (by omega)
theorem m_size (hs : s < 24) (hW : WFs B s) (h : AsM T B p) (hp : p.1 < 6) : ok_m_sizeOf T (iz s) (iz (kv B s)) ∧ (x_m_sizeOf T (iz s) (iz (kv B s))).1 = iz (szV B s) ∧ AsM (x_m_sizeOf T (iz s) (iz (kv B s))).2 B (szT (kv B s) p) := by
  have kb := kv_b2 hW
  unfold szV szT
  rcases (show kv B s = 1 ∨ kv B s = 2 ∨ kv B s = 3 ∨ kv B s = 4 ∨ kv B s = 5 ∨ kv B s = 6 by omega) with e | e | e | e | e | e <;> rw [e]
  · exact m_size1 hs h (by omega)
  · exact m_size2 hs h (by omega)
  · exact m_size3 hs h (by omega)
  · exact m_size4 hs h (by omega)
  · exact m_size5 hs h (by omega)
  · exact m_size6 hs h (by omega)
end AM
theorem tr_len (k : Int) : (szT k tr0).1 ≤ 16 ∧ (mkT k tr0).1 ≤ 16 := by
  unfold szT mkT
  refine ⟨?_, ?_⟩ <;> (repeat' split) <;> decide
theorem Inv_tr {W : Nat → Prop} {T V : St} (h : Fr W T V) (n : ∀ c, W c → c = 556 ∨ c = 601 ∨ c = 65501 ∨ c = 67148 ∨ c = 67100) (i : Inv T) (ht : iTr V) : Inv V :=
  ⟨iSh_fr h (fun c hc hw => by have := n c hw; omega) i.1, iTp_fr h (fun c hc hw => by have := n c hw; omega) i.2.1, ht, iBk_fr h (fun c hc hw => by have := n c hw; omega) i.2.2.2.1, iIm_fr h (fun c hc hw => by have := n c hw; omega) i.2.2.2.2⟩
theorem i_ask : P_ask Inv := pw_ask fun T hI p0 p1 => by
  obtain ⟨a, ha, rfl⟩ := iz_ex p0
  obtain ⟨c, hc, rfl⟩ := iz_ex p1
  obtain ⟨h46, hM, ⟨hc10, hn, hf⟩, _⟩ := I_cnt hI
  obtain ⟨hb, hb2⟩ := b_46 h46
  have tt := Inv_t 0 hI
  have hM2 : MkX (sF T 571 0 0) (nB T) := hM
  have mbad : ¬ ((0 ≤ a ∧ a < nB T 17) ∧ 0 ≤ c ∧ c ≤ 1) → wp_m_ask T (iz a) (iz c) (fun q => (-1000001) = q.1 ∧ Inv q.2) := fun q => by
    unfold wp_m_ask
    rw [m_ist hM2 ha hn, lz_w hc, y_0, y_1, m_in (by omega)]
    exact ⟨fun _ => ⟨rfl, tt⟩, fun q1 => ⟨fun _ => ⟨rfl, tt⟩, fun q2 => absurd (by omega) q⟩⟩
  have e1 : (iz c ≤ 1) ↔ c ≤ 1 := by rw [z_1, iz_le (by omega)]
  unfold wp_x_ask
  rw [x_has ha hn hc10, lt0 (by omega), e1]
  refine ⟨fun _ => ⟨hb, trivial⟩, hb, fun q => mbad (fun z => absurd z.1 q), fun q => ⟨fun q2 => mbad (by omega), fun q2 => ⟨fun q3 => ?_, fun q3 => mbad (by omega)⟩⟩⟩
  have qa : 0 ≤ a ∧ a < nB T 17 := Classical.byContradiction q
  obtain ⟨hW, hX⟩ := I_has hI (by omega)
  obtain ⟨n, rfl⟩ : ∃ n : Nat, a = n := ⟨a.toNat, by omega⟩
  obtain ⟨f0, f1, _, f3, f4, f5⟩ := hf n qa.2
  have hs : WFs (nB T) n := hW.2.2.2.2.2.1 n qa.2
  have hx0 : AsX (sF T 555 1 0) (T.2.1 0) (nB T) n tr0 := ⟨⟨rfl, fun j hj => absurd hj (Nat.not_lt_zero _)⟩, f0, f1, f3, f4, f5⟩
  have xs : ok_ask_answer T (T.2.1 0) (iz n) (iz c) ∧ (fun r : Int32 × St => (c = 0 → r.1 = iz (szV (nB T) n) ∧ AsX r.2 (T.2.1 0) (nB T) n (szT (kv (nB T) n) tr0)) ∧ (¬ c = 0 → r.1 = iz (mkV (nB T) n) ∧ AsX r.2 (T.2.1 0) (nB T) n (mkT (kv (nB T) n) tr0))) (x_ask_answer T (T.2.1 0) (iz n) (iz c)) := by
    refine so_ask_answer (Q := fun r : Int32 × St => (c = 0 → r.1 = iz (szV (nB T) n) ∧ AsX r.2 (T.2.1 0) (nB T) n (szT (kv (nB T) n) tr0)) ∧ (¬ c = 0 → r.1 = iz (mkV (nB T) n) ∧ AsX r.2 (T.2.1 0) (nB T) n (mkT (kv (nB T) n) tr0))) _ _ _ ?_
    unfold wp_ask_answer
    rw [eq0 (by omega)]
    refine ⟨fun z => ?_, fun z => ?_⟩
    · obtain ⟨o, e, g⟩ := a_size (d := 0) (by decide) (by decide) hb hb2 (by omega) hs hx0 (by decide)
      exact ⟨o, fun _ => ⟨e, g⟩, fun y => absurd z y⟩
    · obtain ⟨o, e, g⟩ := a_mark (d := 0) (by decide) (by decide) (by decide) hb hb2 (by omega) hs hx0 (by decide)
      exact ⟨o, fun y => absurd y z, fun _ => ⟨e, g⟩⟩
  obtain ⟨ok, xs⟩ := xs
  have fr1 : Fr _ T (x_ask_answer T (T.2.1 0) (iz n) (iz c)).2 := fr_ask_answer _ _ _ ok
  refine ⟨ok, ?_⟩
  show wp_m_ask (x_ask_answer T (T.2.1 0) (iz n) (iz c)).2 (iz n) (iz c) (fun q => (x_ask_answer T (T.2.1 0) (iz n) (iz c)).1 = q.1 ∧ Inv q.2)
  generalize (x_ask_answer T (T.2.1 0) (iz n) (iz c)).1 = v at *
  generalize (x_ask_answer T (T.2.1 0) (iz n) (iz c)).2 = U at *
  have hU : MkX U (nB T) := MkX_fr fr1 (by unfold W_ask_answer; omega) hM
  have hU0 : AsM (sF (sF U 571 0 0) 571 48 0) (nB T) tr0 := ⟨⟨rfl, fun j hj => absurd hj (Nat.not_lt_zero _)⟩, hU⟩
  obtain ⟨ok2, k2⟩ := s_kindM (T := sF (sF U 571 0 0) 571 48 0) hU (by omega) hs
  unfold wp_m_ask
  rw [m_ist (T := sF U 571 0 0) hU ha hn, lz_w hc, y_0, y_1, m_in (by omega), eq0 (by omega), k2]
  refine ⟨fun z => absurd qa z, fun _ => ⟨fun z => absurd (by omega) z, fun _ => ⟨fun z => ?_, fun z => ?_⟩⟩⟩
  · obtain ⟨o, e, g⟩ := m_size (by omega) hs hU0 (by decide)
    have fr2 : Fr _ (sF (sF U 571 0 0) 571 48 0) (x_m_sizeOf (sF (sF U 571 0 0) 571 48 0) (iz n) (iz (kv (nB T) n))).2 := fr_m_sizeOf _ _ o
    obtain ⟨x1, x2⟩ := xs.1 z
    refine ⟨ok2, o, jo ⟨x1.trans e.symm, ?_⟩⟩
    have frT := fr_ww fr1 (fr_ww (fr_ww fr_1 fr_1) fr2)
    have frU := fr_ww (fr_ww fr_1 fr_1) fr2
    refine Inv_tr frT (fun c hc => by unfold W_ask_answer W_m_sizeOf at hc; omega) hI ⟨_, (tr_len (kv (nB T) n)).1, ?_, g.1.1, fun j hj => ?_⟩
    · rw [q_F frU (by unfold W_m_sizeOf; omega)]; exact x2.1.1
    · rw [q_A frU (by unfold W_m_sizeOf; omega)]; exact (x2.1.2 j hj).trans (g.1.2 j hj).symm
  · obtain ⟨o, e, g⟩ := m_mark (by omega) hs hU0 (by decide)
    have fr2 : Fr _ (sF (sF U 571 0 0) 571 48 0) (x_m_markOf (sF (sF U 571 0 0) 571 48 0) (iz n) (iz (kv (nB T) n))).2 := fr_m_markOf _ _ o
    obtain ⟨x1, x2⟩ := xs.2 z
    refine ⟨ok2, o, x1.trans e.symm, ?_⟩
    have frT := fr_ww fr1 (fr_ww (fr_ww fr_1 fr_1) fr2)
    have frU := fr_ww (fr_ww fr_1 fr_1) fr2
    refine Inv_tr frT (fun c hc => by unfold W_ask_answer W_m_markOf at hc; omega) hI ⟨_, (tr_len (kv (nB T) n)).2, ?_, g.1.1, fun j hj => ?_⟩
    · show (x_m_markOf (sF (sF U 571 0 0) 571 48 0) (iz n) (iz (kv (nB T) n))).2.1 555 1 = _
      rw [q_F frU (by unfold W_m_markOf; omega)]; exact x2.1.1
    · show (x_m_markOf (sF (sF U 571 0 0) 571 48 0) (iz n) (iz (kv (nB T) n))).2.2.2.1 556 j = _
      rw [q_A frU (by unfold W_m_markOf; omega)]; exact (x2.1.2 j hj).trans (g.1.2 j hj).symm
