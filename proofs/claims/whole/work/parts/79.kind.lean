/-! ===== the pair kind ===== -/
def kv (B : Nat → Int) (s : Nat) : Int := if kd B s = 1 then (if sr B s = 2 then 6 else 1) else kd B s
theorem kv_b {B : Nat → Int} {s : Nat} (h : WFs B s) : 1 ≤ kv B s ∧ kv B s ≤ 6 := by
  have := h.1
  unfold kv
  split
  · split <;> omega
  · omega
theorem s_kindX {T : St} {b s : Nat} {B : Nat → Int} (hb : sh b = .inr 1) (hs : s < 24) (h : WFs B s) (f0 : T.2.2.1 (b + 9) s = iz (kd B s - 1)) (f3 : T.2.2.1 (b + 12) s = iz (sr B s)) : ok_bk_kindOf T b (iz s) ∧ x_bk_kindOf T b (iz s) = iz (kv B s) := by
  have h1 := h.1
  have h4 := h.2.2.2.1
  refine so_bk_kindOf (Q := fun r => r = iz (kv B s)) _ _ ?_
  unfold wp_bk_kindOf
  rw [ix_nat (by omega), f0, f3, eq0 (by omega), z_1, z_2, z_3, iz_eq (by omega), iz_eq (by omega), iz_eq (by omega), iz_eq (by omega)]
  refine ⟨hb, in_nat (by omega) (by omega), fun w => ⟨fun w2 => ?_, fun w2 => ?_⟩, fun w => ⟨fun w1 => ?_, fun w1 => ⟨fun w2 => ?_, fun w2 => ⟨fun w3 => ?_, fun w3 => ?_⟩⟩⟩⟩
  · unfold kv; rw [if_pos (by omega), if_pos w2]; rfl
  · unfold kv; rw [if_pos (by omega), if_neg w2]
  · unfold kv; rw [if_neg (by omega), show kd B s = 2 by omega]
  · unfold kv; rw [if_neg (by omega), show kd B s = 3 by omega]
  · unfold kv; rw [if_neg (by omega), show kd B s = 4 by omega]; rfl
  · unfold kv; rw [if_neg (by omega), show kd B s = 5 by omega]; rfl
theorem s_kindM {T : St} {s : Nat} {B : Nat → Int} (hM : MkX T B) (hs : s < 24) (h : WFs B s) : ok_m_kindOf T (iz s) ∧ x_m_kindOf T (iz s) = iz (kv B s) := by
  have h1 := h.1
  have h4 := h.2.2.2.1
  refine so_m_kindOf (Q := fun r => r = iz (kv B s)) _ ?_
  unfold wp_m_kindOf
  rw [ms0 hM (by omega), ms3 hM (by omega), Int.toNat_natCast, z_1, z_2, iz_eq (by omega), iz_eq (by omega)]
  refine ⟨oks0 (by omega), fun w => ⟨oks3 (by omega), fun w2 => ?_, fun w2 => ?_⟩, fun w => ?_⟩
  · unfold kv; rw [if_pos w, if_pos w2]; rfl
  · unfold kv; rw [if_pos w, if_neg w2, w]
  · unfold kv; rw [if_neg w]
theorem i_kind : P_kind Inv := pw_kind fun T hI p0 => by
  obtain ⟨a, ha, rfl⟩ := iz_ex p0
  obtain ⟨h46, hM, ⟨hc10, hn, hf⟩, _⟩ := I_cnt hI
  obtain ⟨hb, hb2⟩ := b_46 h46
  have tt := Inv_t 0 hI
  have hM2 : MkX (sF T 571 0 0) (nB T) := hM
  unfold wp_x_kind wp_m_kind
  rw [x_has ha hn hc10, m_ist hM2 ha hn]
  refine ⟨fun _ => ⟨hb, trivial⟩, hb, fun q => ⟨fun _ => ⟨rfl, tt⟩, fun q2 => absurd q q2⟩, fun q => ?_⟩
  have qa : 0 ≤ a ∧ a < nB T 17 := Classical.byContradiction q
  obtain ⟨hW, hX⟩ := I_has hI (by omega)
  obtain ⟨n, rfl⟩ : ∃ n : Nat, a = n := ⟨a.toNat, by omega⟩
  obtain ⟨f0, _, _, f3, _, _⟩ := hf n qa.2
  have hs : WFs (nB T) n := hW.2.2.2.2.2.1 n qa.2
  obtain ⟨o1, k1⟩ := s_kindX (T := T) hb (by omega) hs f0 f3
  obtain ⟨o2, k2⟩ := s_kindM (T := sF T 571 0 0) hM2 (by omega) hs
  rw [k1, k2]
  exact ⟨o1, fun q2 => absurd q2 q, fun _ => ⟨o2, rfl, tt⟩⟩
