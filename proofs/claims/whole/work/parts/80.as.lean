/-! ===== the pair as ===== -/
theorem Inv_st {W : Nat → Prop} {T U : St} (h : Fr W T U) (n : ∀ c, W c → c = 10012 ∨ c = 67100 ∨ c = 67101) (e : U.1 0 12 = U.1 571 1) (i : Inv T) : Inv U := by
  refine ⟨⟨e, fun s hs => ?_⟩, iTp_fr h (fun c hc hw => by have := n c hw; omega) i.2.1, iTr_fr h (fun c hc hw => by have := n c hw; omega) i.2.2.1, iBk_fr h (fun c hc hw => by have := n c hw; omega) i.2.2.2.1, iIm_fr h (fun c hc hw => by have := n c hw; omega) i.2.2.2.2⟩
  have nn : ∀ c, c < 1000 → ¬ W c := fun c hc hw => by have := n c hw; omega
  have := i.1.2 s hs
  rw [q_A h (nn 572 (by omega)), q_A h (nn 573 (by omega)), q_A h (nn 2 (by omega)), q_A h (nn 3 (by omega))]
  refine ⟨this.1, this.2.1, this.2.2.1, this.2.2.2.1, fun k hk => ?_⟩
  rw [q_A h (nn 574 (by omega)), q_A h (nn (5 + s) (by omega))]
  exact this.2.2.2.2 k hk
theorem kinds : ∀ k : Nat, k < 7 → ∀ p : Nat, p < 7 → x_ask_isKind tz (iz k) (iz p) = x_m_isOf tz (iz k) (iz p) := by decide +kernel
theorem kinds2 {T U : St} {k p : Nat} (hk : k < 7) (hp : p < 7) : x_ask_isKind T (iz k) (iz p) = x_m_isOf U (iz k) (iz p) := kinds k hk p hp
theorem i_as : P_as Inv := pw_as fun T hI p0 p1 => by
  obtain ⟨a, ha, rfl⟩ := iz_ex p0
  obtain ⟨c, hc, rfl⟩ := iz_ex p1
  obtain ⟨h46, hM, ⟨hc10, hn, hf⟩, _⟩ := I_cnt hI
  obtain ⟨hb, hb2⟩ := b_46 h46
  have tt := Inv_t 0 hI
  have hM2 : MkX (sF T 571 0 0) (nB T) := hM
  have mbad : ¬ ((0 ≤ a ∧ a < nB T 17) ∧ 0 ≤ c ∧ c < 7) → wp_m_as T (iz a) (iz c) (fun q => (-1000001) = q.1 ∧ Inv q.2) := fun q => by
    unfold wp_m_as
    rw [m_ist hM2 ha hn, lz_w hc, y_0, y_6, m_in (by omega)]
    exact ⟨fun _ => ⟨rfl, tt⟩, fun q1 => ⟨fun _ => ⟨rfl, tt⟩, fun q2 => absurd (by omega) q⟩⟩
  have e7 : (iz c < 7) ↔ c < 7 := by rw [z_7, iz_lt (by omega)]
  unfold wp_x_as
  rw [x_has ha hn hc10, lt0 (by omega), e7]
  refine ⟨fun _ => ⟨hb, trivial⟩, hb, fun q => mbad (fun z => absurd z.1 q), fun q => ⟨fun q2 => mbad (by omega), fun q2 => ⟨fun q3 => ?_, fun q3 => mbad (by omega)⟩⟩⟩
  have qa : 0 ≤ a ∧ a < nB T 17 := Classical.byContradiction q
  obtain ⟨hW, hX⟩ := I_has hI (by omega)
  obtain ⟨n, rfl⟩ : ∃ n : Nat, a = n := ⟨a.toNat, by omega⟩
  obtain ⟨p, rfl⟩ : ∃ p : Nat, c = p := ⟨c.toNat, by omega⟩
  obtain ⟨f0, _, _, f3, _, _⟩ := hf n qa.2
  have hs : WFs (nB T) n := hW.2.2.2.2.2.1 n qa.2
  have kb := kv_b hs
  obtain ⟨k, hk⟩ : ∃ k : Nat, kv (nB T) n = k := ⟨(kv (nB T) n).toNat, by omega⟩
  obtain ⟨o1, k1⟩ := s_kindX (T := T) hb (by omega) hs f0 f3
  rw [k1, hk]
  have go : ∀ (U : St) (v : Int32), MkX U (nB T) → (x_m_isOf tz (iz k) (iz p) = 0 → v = (-1000010) - 3 ∧ Inv (sF (sF (sF U 571 0 0) 571 1 0) 571 1 3)) → (¬ x_m_isOf tz (iz k) (iz p) = 0 → v = iz n ∧ Inv (sF (sF U 571 0 0) 571 1 0)) → wp_m_as U (iz n) (iz p) (fun q => v = q.1 ∧ Inv q.2) := fun U v hU g1 g2 => by
    obtain ⟨o2, k2⟩ := s_kindM (T := sF (sF U 571 0 0) 571 1 0) hU (by omega) hs
    unfold wp_m_as
    rw [m_ist (T := sF U 571 0 0) hU ha hn, lz_w hc, y_0, y_6, m_in (by omega), k2, hk]
    exact ⟨fun z => absurd qa z, fun _ => ⟨fun z => absurd (by omega) z, fun _ => ⟨o2, fun z => g1 z, fun z => g2 z⟩⟩⟩
  have ek : x_ask_isKind T (iz k) (iz p) = x_m_isOf tz (iz k) (iz p) := kinds2 (by omega) (by omega)
  rw [ek]
  refine ⟨o1, fun _ => ⟨in_nat (by omega) (by omega), trivial⟩, fun z => ?_, fun z => ?_⟩
  · refine go (sF T 0 12 3) _ hM (fun _ => ⟨rfl, ?_⟩) (fun y => absurd z y)
    refine Inv_st (W := fun c => c = 10012 ∨ c = 67100 ∨ c = 67101) (T := T) (fr_sF (fr_sF (fr_sF (fr_sF fr_rfl (by omega)) (by omega)) (by omega)) (by omega)) (fun c h => h) ?_ hI
    rfl
  · refine go (sF T 0 12 0) _ hM (fun y => absurd y z) (fun _ => ⟨rfl, ?_⟩)
    refine Inv_st (W := fun c => c = 10012 ∨ c = 67100 ∨ c = 67101) (T := T) (fr_sF (fr_sF (fr_sF fr_rfl (by omega)) (by omega)) (by omega)) (fun c h => h) ?_ hI
    rfl
