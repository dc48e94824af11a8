/-! ===== the pair ask ===== -/
def ad (p : Nat × (Nat → Nat)) (x : Nat) : Nat × (Nat → Nat) := (p.1 + 1, fun j => if j = p.1 then x else p.2 j)
def tr0 : Nat × (Nat → Nat) := (0, fun _ => 0)
def TrP (c f k : Nat) (T : St) (p : Nat × (Nat → Nat)) : Prop := T.1 f k = iz p.1 ∧ ∀ j, j < p.1 → T.2.2.1 c j = iz (p.2 j)
def AsX (T : St) (b : Nat) (B : Nat → Int) (s : Nat) (p : Nat × (Nat → Nat)) : Prop := TrP 556 555 1 T p ∧ T.2.2.1 (b + 9) s = iz (kd B s - 1) ∧ T.2.2.1 (b + 10) s = iz (lg B s) ∧ T.2.2.1 (b + 12) s = iz (sr B s) ∧ T.2.2.1 (b + 13) s = iz (on B s) ∧ T.2.2.1 (b + 14) s = iz (tw B s)
def AsM (T : St) (B : Nat → Int) (p : Nat × (Nat → Nat)) : Prop := TrP 601 571 48 T p ∧ MkX T B
theorem TrP_ad {c f k x : Nat} {T : St} {p : Nat × (Nat → Nat)} {y : Int32} (hy : y = iz x) (hp : p.1 < 16) (h : TrP c f k T p) : TrP c f k (sF (sA T c (T.1 f k).toNatClampNeg y) f k ((sA T c (T.1 f k).toNatClampNeg y).1 f k + 1)) (ad p x) := by
  obtain ⟨h1, h2⟩ := h
  rw [gA_F, h1, ix_nat (by omega), hy]
  refine ⟨?_, fun j hj => ?_⟩
  · rw [gF_F, if_pos ⟨rfl, rfl⟩, z_1, iz_add]; exact iz_inj (by show (p.1 : Int) + 1 = ((p.1 + 1 : Nat) : Int); omega)
  · have hj' : j < p.1 + 1 := hj
    rw [gF_A, gA_A]
    show _ = iz ((if j = p.1 then x else p.2 j : Nat) : Int)
    by_cases e : j = p.1
    · rw [if_pos ⟨rfl, e⟩, if_pos e]
    · rw [if_neg (by omega), if_neg e]; exact h2 j (by omega)
theorem a_beg {T : St} {b s x : Nat} {B : Nat → Int} {p : Nat × (Nat → Nat)} {y : Int32} (hy : y = iz x) (hb2 : b + 14 < 76) (h : AsX T b B s p) (hp : p.1 < 16) : ok_ask_begin T y ∧ AsX (x_ask_begin T y) b B s (ad p x) := by
  have h1 := h.1.1
  have h16 : ¬ (16 : Int32) ≤ T.1 555 1 := by rw [h1, z_16, iz_le (by omega)]; omega
  unfold ok_ask_begin x_ask_begin
  rw [if_neg h16]
  refine ⟨fun _ => ⟨by rw [h1]; exact in_nat (by omega) (by omega), trivial⟩, TrP_ad hy hp h.1, ?_⟩
  simp only [gF_A, gA_A]
  rw [if_neg (by omega), if_neg (by omega), if_neg (by omega), if_neg (by omega), if_neg (by omega)]
  exact h.2
theorem m_beg {T : St} {x : Nat} {B : Nat → Int} {p : Nat × (Nat → Nat)} {y : Int32} (hy : y = iz x) (h : AsM T B p) (hp : p.1 < 16) : ok_m_began T y ∧ AsM (x_m_began T y) B (ad p x) := by
  have h1 := h.1.1
  have h16 : ¬ (16 : Int32) ≤ T.1 571 48 := by rw [h1, z_16, iz_le (by omega)]; omega
  unfold ok_m_began x_m_began
  rw [if_neg h16]
  refine ⟨fun _ => ⟨by rw [h1]; exact in_nat (by omega) (by omega), trivial⟩, TrP_ad hy hp h.1, fun j hj => ?_⟩
  rw [gF_A, gA_A, if_neg (by omega)]
  exact h.2 j hj
def szV (B : Nat → Int) (s : Nat) : Int := if kv B s = 1 then lg B s + 10 * on B s else if kv B s = 2 then lg B s + tw B s - on B s else if kv B s = 5 then lg B s - ((s : Int) + 50 + on B s) else if kv B s = 6 then 2 * (lg B s + 10 * on B s) else lg B s
def szT (k : Int) (p : Nat × (Nat → Nat)) : Nat × (Nat → Nat) := if k = 1 then ad (ad p 11) 10 else if k = 2 then ad (ad p 13) 10 else if k = 5 then ad (ad (ad (ad (ad p 14) 10) 22) 21) 20 else if k = 6 then ad (ad (ad p 12) 11) 10 else ad p 10
def mkV (B : Nat → Int) (s : Nat) : Int := if kv B s = 3 then (s : Int) + lg B s else if kv B s = 4 then (s : Int) + 50 else if kv B s = 5 then (s : Int) + 50 + on B s else if kv B s = 6 then -(s : Int) else s
def mkT (k : Int) (p : Nat × (Nat → Nat)) : Nat × (Nat → Nat) := if k = 3 then ad (ad (ad p 23) 20) 10 else if k = 4 then ad (ad p 21) 20 else if k = 5 then ad (ad (ad p 22) 21) 20 else if k = 6 then ad (ad p 24) 20 else ad p 20
section AX
variable {T : St} {b s : Nat} {B : Nat → Int} {p : Nat × (Nat → Nat)} {d : Int32}
theorem a_any (hb : sh b = .inr 1) (hb2 : b + 14 < 76) (hs : s < 24) (h : AsX T b B s p) (hp : p.1 < 16) : ok_ask_sizeOfAny T b (iz s) ∧ (x_ask_sizeOfAny T b (iz s)).1 = iz (lg B s) ∧ AsX (x_ask_sizeOfAny T b (iz s)).2 b B s (ad p 10) := by
  obtain ⟨o, g⟩ := a_beg (x := 10) (y := 10) rfl hb2 h hp
  refine ⟨⟨o, hb, in_nat (by omega) (by omega), trivial⟩, ?_, g⟩
  show (x_ask_begin T 10).2.2.1 (b + 10) (iz (s : Int)).toNatClampNeg = _
  rw [ix_nat (by omega)]
  exact g.2.2.1
theorem a_rng (hb : sh b = .inr 1) (hb2 : b + 14 < 76) (hs : s < 24) (h : AsX T b B s p) (hp : p.1 < 15) : ok_ask_sizeOfRinged T b (iz s) ∧ (x_ask_sizeOfRinged T b (iz s)).1 = iz (lg B s + 10 * on B s) ∧ AsX (x_ask_sizeOfRinged T b (iz s)).2 b B s (ad (ad p 11) 10) := by
  obtain ⟨o, g⟩ := a_beg (x := 11) (y := 11) rfl hb2 h (by omega)
  obtain ⟨o2, e2, g2⟩ := a_any hb hb2 hs g (by show p.1 + 1 < 16; omega)
  refine ⟨⟨o, o2, hb, in_nat (by omega) (by omega), trivial⟩, ?_, g2⟩
  show (x_ask_sizeOfAny (x_ask_begin T 11) b (iz s)).1 + 10 * (x_ask_sizeOfAny (x_ask_begin T 11) b (iz s)).2.2.2.1 (b + 13) (iz (s : Int)).toNatClampNeg = _
  rw [ix_nat (by omega), e2, g2.2.2.2.2.1, z_10, iz_mul, iz_add]
theorem a_man (hb2 : b + 14 < 76) (h : AsX T b B s p) (hp : p.1 < 16) : ok_ask_markOfAny T (iz s) ∧ (x_ask_markOfAny T (iz s)).1 = iz s ∧ AsX (x_ask_markOfAny T (iz s)).2 b B s (ad p 20) := by
  obtain ⟨o, g⟩ := a_beg (x := 20) (y := 20) rfl hb2 h hp
  exact ⟨⟨o, trivial⟩, rfl, g⟩
theorem a_mre (hb2 : b + 14 < 76) (h : AsX T b B s p) (hp : p.1 < 15) : ok_ask_markOfRested T (iz s) ∧ (x_ask_markOfRested T (iz s)).1 = iz ((s : Int) + 50) ∧ AsX (x_ask_markOfRested T (iz s)).2 b B s (ad (ad p 21) 20) := by
  obtain ⟨o, g⟩ := a_beg (x := 21) (y := 21) rfl hb2 h (by omega)
  obtain ⟨o2, e2, g2⟩ := a_man hb2 g (by show p.1 + 1 < 16; omega)
  refine ⟨⟨o, o2, trivial⟩, ?_, g2⟩
  show (x_ask_markOfAny (x_ask_begin T 21) (iz s)).1 + 50 = _
  rw [e2, z_50, iz_add]
theorem kv_b2 (hW : WFs B s) : 1 ≤ kv B s ∧ kv B s ≤ 6 := by have := kv_b hW; omega
theorem a_kd (hb : sh b = .inr 1) (hs : s < 24) (hW : WFs B s) (h : AsX T b B s p) : ok_bk_kindOf T b (iz s) ∧ x_bk_kindOf T b (iz s) = iz (kv B s) := s_kindX hb hs hW h.2.1 h.2.2.2.1
theorem a_mk0 (hd : d ≤ 8) (hb : sh b = .inr 1) (hb2 : b + 14 < 76) (hs : s < 24) (hW : WFs B s) (h : AsX T b B s p) (hp : p.1 < 13) (hk : kv B s = 5) : ok_ask_markOf0 T b (iz s) d ∧ (fun r : Int32 × St => r.1 = iz ((s : Int) + 50 + on B s) ∧ AsX r.2 b B s (ad (ad (ad p 22) 21) 20)) (x_ask_markOf0 T b (iz s) d) := by
  refine so_ask_markOf0 (Q := fun r : Int32 × St => r.1 = iz ((s : Int) + 50 + on B s) ∧ AsX r.2 b B s (ad (ad (ad p 22) 21) 20)) _ _ _ ?_
  obtain ⟨ok, ek⟩ := a_kd hb hs hW h
  obtain ⟨o, g⟩ := a_beg (x := 22) (y := 22) rfl hb2 h (by omega)
  obtain ⟨o2, e2, g2⟩ := a_mre hb2 g (by show p.1 + 1 < 15; omega)
  unfold wp_ask_markOf0
  rw [ek, hk]
  refine ⟨fun _ => ⟨ok, hb, fun z => absurd z (by decide), fun _ => ⟨fun z => absurd z (by decide), fun _ => ⟨fun _ => ⟨o, o2, in_nat (by omega) (by omega), ?_, g2⟩, fun z => absurd rfl z⟩⟩⟩, fun z => absurd hd z⟩
  show (x_ask_markOfRested (x_ask_begin T 22) (iz s)).1 + (x_ask_markOfRested (x_ask_begin T 22) (iz s)).2.2.2.1 (b + 13) (iz (s : Int)).toNatClampNeg = _
  rw [ix_nat (by omega), e2, g2.2.2.2.2.1, iz_add]
theorem a_size (hd : d ≤ 8) (hd2 : d + 1 ≤ 8) (hb : sh b = .inr 1) (hb2 : b + 14 < 76) (hs : s < 24) (hW : WFs B s) (h : AsX T b B s p) (hp : p.1 < 8) : ok_ask_sizeOf T b (iz s) d ∧ (fun r : Int32 × St => r.1 = iz (szV B s) ∧ AsX r.2 b B s (szT (kv B s) p)) (x_ask_sizeOf T b (iz s) d) := by
  refine so_ask_sizeOf (Q := fun r : Int32 × St => r.1 = iz (szV B s) ∧ AsX r.2 b B s (szT (kv B s) p)) _ _ _ ?_
  obtain ⟨ok, ek⟩ := a_kd hb hs hW h
  have kb := kv_b2 hW
  unfold wp_ask_sizeOf szV szT
  rw [ek]
  have e1 : (iz (kv B s) = 1) ↔ kv B s = 1 := by rw [z_1, iz_eq (by omega)]
  have e2 : (iz (kv B s) = 2) ↔ kv B s = 2 := by rw [z_2, iz_eq (by omega)]
  have e3 : (iz (kv B s) = 3) ↔ kv B s = 3 := by rw [z_3, iz_eq (by omega)]
  have e4 : (iz (kv B s) = 4) ↔ kv B s = 4 := by rw [z_4, iz_eq (by omega)]
  have e5 : (iz (kv B s) = 5) ↔ kv B s = 5 := by rw [z_5, iz_eq (by omega)]
  have e6 : (iz (kv B s) = 6) ↔ kv B s = 6 := by rw [z_6, iz_eq (by omega)]
  rw [e1, e2, e3, e4, e5, e6]
  refine ⟨fun _ => ⟨ok, hb, fun q => ?_, fun q1 => ⟨fun q => ?_, fun q2 => ⟨fun q => ?_, fun q3 => ⟨fun q => ?_, fun q4 => ⟨fun q => ?_, fun q5 => ⟨fun q => ?_, fun q6 => absurd (by omega) q6⟩⟩⟩⟩⟩⟩, fun z => absurd hd z⟩
  · rw [if_pos q, if_pos q]
    obtain ⟨o, e, g⟩ := a_rng hb hb2 hs h (by omega)
    exact ⟨o, e, g⟩
  · rw [if_neg q1, if_neg q1, if_pos q, if_pos q]
    obtain ⟨o, g⟩ := a_beg (x := 13) (y := 13) rfl hb2 h (by omega)
    obtain ⟨o2, e, g2⟩ := a_any hb hb2 hs g (by show p.1 + 1 < 16; omega)
    refine ⟨o, o2, in_nat (by omega) (by omega), ?_, g2⟩
    show (x_ask_sizeOfAny (x_ask_begin T 13) b (iz s)).1 + (x_ask_sizeOfAny (x_ask_begin T 13) b (iz s)).2.2.2.1 (b + 14) (iz (s : Int)).toNatClampNeg - (x_ask_sizeOfAny (x_ask_begin T 13) b (iz s)).2.2.2.1 (b + 13) (iz (s : Int)).toNatClampNeg = _
    rw [ix_nat (by omega), e, g2.2.2.2.2.1, g2.2.2.2.2.2, iz_add, iz_sub]
  · rw [if_neg q1, if_neg q1, if_neg q2, if_neg q2, if_neg (by omega), if_neg (by omega), if_neg (by omega), if_neg (by omega)]
    obtain ⟨o2, e, g2⟩ := a_any hb hb2 hs h (by omega)
    exact ⟨o2, e, g2⟩
  · rw [if_neg q1, if_neg q1, if_neg q2, if_neg q2, if_neg (by omega), if_neg (by omega), if_neg (by omega), if_neg (by omega)]
    obtain ⟨o2, e, g2⟩ := a_any hb hb2 hs h (by omega)
    exact ⟨o2, e, g2⟩
  · rw [if_neg q1, if_neg q1, if_neg q2, if_neg q2, if_pos q, if_pos q]
    obtain ⟨o, g⟩ := a_beg (x := 14) (y := 14) rfl hb2 h (by omega)
    obtain ⟨o2, e, g2⟩ := a_any hb hb2 hs g (by show p.1 + 1 < 16; omega)
    obtain ⟨o3, e4, g3⟩ := a_mk0 hd2 hb hb2 hs hW g2 (by show p.1 + 1 + 1 < 13; omega) q
    refine ⟨o, o2, o3, ?_, g3⟩
    show (x_ask_sizeOfAny (x_ask_begin T 14) b (iz s)).1 - (x_ask_markOf0 (x_ask_sizeOfAny (x_ask_begin T 14) b (iz s)).2 b (iz s) (d + 1)).1 = _
    rw [e, e4, iz_sub]
  · rw [if_neg q1, if_neg q1, if_neg q2, if_neg q2, if_neg q5, if_neg q5, if_pos q, if_pos q]
    obtain ⟨o, g⟩ := a_beg (x := 12) (y := 12) rfl hb2 h (by omega)
    obtain ⟨o2, e, g2⟩ := a_rng hb hb2 hs g (by show p.1 + 1 < 15; omega)
    refine ⟨o, o2, ?_, g2⟩
    show 2 * (x_ask_sizeOfRinged (x_ask_begin T 12) b (iz s)).1 = _
    rw [e, z_2, iz_mul]
theorem a_mark (hd : d ≤ 8) (hd2 : d + 1 ≤ 8) (hd3 : d + 1 + 1 ≤ 8) (hb : sh b = .inr 1) (hb2 : b + 14 < 76) (hs : s < 24) (hW : WFs B s) (h : AsX T b B s p) (hp : p.1 < 6) : ok_ask_markOf T b (iz s) d ∧ (fun r : Int32 × St => r.1 = iz (mkV B s) ∧ AsX r.2 b B s (mkT (kv B s) p)) (x_ask_markOf T b (iz s) d) := by
  refine so_ask_markOf (Q := fun r : Int32 × St => r.1 = iz (mkV B s) ∧ AsX r.2 b B s (mkT (kv B s) p)) _ _ _ ?_
  obtain ⟨ok, ek⟩ := a_kd hb hs hW h
  have kb := kv_b2 hW
  unfold wp_ask_markOf mkV mkT
  rw [ek]
  have e3 : (iz (kv B s) = 3) ↔ kv B s = 3 := by rw [z_3, iz_eq (by omega)]
  have e4 : (iz (kv B s) = 4) ↔ kv B s = 4 := by rw [z_4, iz_eq (by omega)]
  have e5 : (iz (kv B s) = 5) ↔ kv B s = 5 := by rw [z_5, iz_eq (by omega)]
  have e6 : (iz (kv B s) = 6) ↔ kv B s = 6 := by rw [z_6, iz_eq (by omega)]
  rw [e3, e4, e5, e6]
  refine ⟨fun _ => ⟨ok, hb, fun q => ?_, fun q3 => ⟨fun q => ?_, fun q4 => ⟨fun q => ?_, fun q5 => ⟨fun q => ?_, fun q6 => ?_⟩⟩⟩⟩, fun z => absurd hd z⟩
  · rw [if_pos q, if_pos q]
    obtain ⟨o, g⟩ := a_beg (x := 23) (y := 23) rfl hb2 h (by omega)
    obtain ⟨o2, e, g2⟩ := a_man hb2 g (by show p.1 + 1 < 16; omega)
    obtain ⟨o3, y1, y2⟩ := a_size hd2 hd3 hb hb2 hs hW g2 (by show p.1 + 1 + 1 < 8; omega)
    unfold szV at y1
    unfold szT at y2
    rw [q] at y1 y2
    refine ⟨o, o2, o3, ?_, y2⟩
    show (x_ask_markOfAny (x_ask_begin T 23) (iz s)).1 + (x_ask_sizeOf (x_ask_markOfAny (x_ask_begin T 23) (iz s)).2 b (iz s) (d + 1)).1 = _
    rw [e, show (x_ask_sizeOf (x_ask_markOfAny (x_ask_begin T 23) (iz s)).2 b (iz s) (d + 1)).1 = iz (lg B s) from y1, iz_add]
  · rw [if_neg q3, if_neg q3, if_pos q, if_pos q]
    obtain ⟨o2, e, g2⟩ := a_mre hb2 h (by omega)
    exact ⟨o2, e, g2⟩
  · rw [if_neg q3, if_neg q3, if_neg q4, if_neg q4, if_pos q, if_pos q]
    obtain ⟨o, g⟩ := a_beg (x := 22) (y := 22) rfl hb2 h (by omega)
    obtain ⟨o2, e2, g2⟩ := a_mre hb2 g (by show p.1 + 1 < 15; omega)
    refine ⟨o, o2, in_nat (by omega) (by omega), ?_, g2⟩
    show (x_ask_markOfRested (x_ask_begin T 22) (iz s)).1 + (x_ask_markOfRested (x_ask_begin T 22) (iz s)).2.2.2.1 (b + 13) (iz (s : Int)).toNatClampNeg = _
    rw [ix_nat (by omega), e2, g2.2.2.2.2.1, iz_add]
  · rw [if_neg q3, if_neg q3, if_neg q4, if_neg q4, if_neg q5, if_neg q5, if_pos q, if_pos q]
    obtain ⟨o, g⟩ := a_beg (x := 24) (y := 24) rfl hb2 h (by omega)
    obtain ⟨o2, e, g2⟩ := a_man hb2 g (by show p.1 + 1 < 16; omega)
    refine ⟨o, o2, ?_, g2⟩
    show -(x_ask_markOfAny (x_ask_begin T 24) (iz s)).1 = _
    rw [e, iz_neg]
  · rw [if_neg q3, if_neg q3, if_neg q4, if_neg q4, if_neg q5, if_neg q5, if_neg q6, if_neg q6]
    obtain ⟨o2, e, g2⟩ := a_man hb2 h (by omega)
    exact ⟨o2, e, g2⟩
end AX
