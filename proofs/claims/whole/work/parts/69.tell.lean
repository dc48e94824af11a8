/-! ===== the class's plan told ===== -/
def TlQ (T : St) (r : Nat) (B : Nat → Int) (t : Int) (D : Nat) (c0 : Nat → Nat) (U : St) : Prop := U.1 = T.1 ∧ U.2.1 = T.2.1 ∧ (∀ y z, y ≠ r + 2 → y ≠ r + 5 → U.2.2.1 y z = T.2.2.1 y z) ∧ RowX U r B D ∧ RowB U r B D (fun d => bg B t d (c0 d)) ∧ ∀ d, d < 8 → D.testBit d = true → U.2.2.1 (r + 2) (sn D d) = iz (c0 d)
theorem RowX_eq {T U : St} {r D : Nat} {B : Nat → Int} (hF : U.1 = T.1) (hA : ∀ y z, y ≠ r + 2 → y ≠ r + 5 → U.2.2.1 y z = T.2.2.1 y z) (h : RowX T r B D) : RowX U r B D := by
  obtain ⟨h1, h2, h3⟩ := h
  refine ⟨by rw [hF]; exact h1, by rw [hF]; exact h2, fun d hd hm => ?_⟩
  rw [hA _ _ (by omega) (by omega)]
  refine ⟨(h3 d hd hm).1, fun k hk => ?_⟩
  rw [hA (r + 3) _ (by omega) (by omega), hA (r + 4) _ (by omega) (by omega), hA (r + 6) _ (by omega) (by omega)]
  exact (h3 d hd hm).2 k hk
theorem s_tell {T : St} {r b D : Nat} {B : Nat → Int} {t : Int} {c0 : Nat → Nat} (hr : sh r = .inr 7) (hr2 : 527 ≤ r) (hb : sh b = .inr 1) (hb2 : b + 14 < 76) (hP : BkP T b B) (hR2 : T.2.1 2 = b) (hW : WF B) (hD2 : D < 2 ^ (B 16).toNat) (hn : sn D 8 ≤ 4) (hX : RowX T r B D) (h12 : T.1 80 12 = iz (sn D 8))
    (hc : ∀ d, d < 8 → D.testBit d = true → c0 d < chn B d ∧ T.2.2.1 96 (sn D d) = iz ((12 * d + c0 d : Nat) : Int) ∧ T.2.2.1 94 (sn D d) = iz d)
    (hw : ∀ d, d < 8 → D.testBit d = true → ∀ k, k < nO B d → T.2.2.1 (wc d (c0 d) + 1) k = iz (bg B t d (c0 d) k)) : ok_pl_tell T r ∧ TlQ T r B t D c0 (x_pl_tell T r) := by
  have h8 := hW.2.2.1
  have p12 := ps_3 hW hD2 8
  refine so_pl_tell (Q := TlQ T r B t D c0) _ ?_
  unfold wp_pl_tell
  refine wr_pl_tell_2 _ (fun v U => ∃ i : Nat, i ≤ sn D 8 ∧ v = iz i ∧ U.1 = T.1 ∧ U.2.1 = T.2.1 ∧ (∀ y z, y ≠ r + 2 → U.2.2.1 y z = T.2.2.1 y z) ∧ ∀ d, d < 8 → D.testBit d = true → sn D d < i → U.2.2.1 (r + 2) (sn D d) = iz (c0 d)) (fun v U => 4 - v.toInt.toNat) ?_ _ _ _ ?_ ?_
  · rintro _ U ⟨i, g1, rfl, u1, u2, u3, u4⟩
    unfold bd_pl_tell_2
    rw [u1, hX.1, h12, iz_le (by omega)]
    refine ⟨hr, fun q => ?_, fun q => ⟨fun q2 => absurd q2 q, fun _ => ?_⟩⟩
    · have hi : i = sn D 8 := by omega
      subst hi
      refine wr_pl_tell_48 _ (fun v V => ∃ i : Nat, i ≤ ps B D 8 ∧ v = iz i ∧ V.1 = T.1 ∧ V.2.1 = T.2.1 ∧ (∀ y z, y ≠ r + 5 → V.2.2.1 y z = U.2.2.1 y z) ∧ ∀ d, d < 8 → D.testBit d = true → ∀ k, k < nO B d → ps B D d + k < i → V.2.2.1 (r + 5) (ps B D d + k) = iz (bg B t d (c0 d) k)) (fun v U => 12 - v.toInt.toNat) ?_ _ _ _ ?_ ?_
      · rintro _ V ⟨i, w1, rfl, v1, v2, v3, v4⟩
        unfold bd_pl_tell_48
        rw [v1, hX.2.1, iz_le (by omega)]
        refine ⟨hr, fun q => ?_, fun q => ?_⟩
        · have hi : i = ps B D 8 := by omega
          subst hi
          have eA : ∀ y z, y ≠ r + 2 → y ≠ r + 5 → V.2.2.1 y z = T.2.2.1 y z := fun y z y1 y2 => by rw [v3 y z y2, u3 y z y1]
          refine ⟨v1, v2, eA, RowX_eq v1 eA hX, fun d hd hm k hk => v4 d hd hm k hk ?_, fun d hd hm => ?_⟩
          · have := ps_lt (B := B) (e := 8) hm hd; omega
          · rw [v3 _ _ (by omega)]
            exact u4 d hd hm (by have := sn_lt (e := 8) hm hd; omega)
        · have hi : i < ps B D 8 := by omega
          obtain ⟨d, k, d1, d2, d3, rfl⟩ := ps_ex 8 hi
          have VT : ∀ y z, y ≠ r + 2 → y ≠ r + 5 → V.2.2.1 y z = T.2.2.1 y z := fun y z y1 y2 => by rw [v3 y z y2, u3 y z y1]
          have hd := mem_lt hW hD2 d d2
          have sl := sn_lt (D := D) (e := 8) d2 d1
          obtain ⟨n1, n2, n3⟩ := wf_n hW hd
          have f1 := (wf_f hW hd).1
          obtain ⟨c1, c2, c3⟩ := hc d d1 d2
          have cb := ch_b hW hd
          obtain ⟨fk1, fk2⟩ := wf_fk hW hd d3
          obtain ⟨_, x2⟩ := hX.2.2 d d1 d2
          obtain ⟨x3, x4, _⟩ := x2 k d3
          obtain ⟨_, _, _, _, p8⟩ := hP.2.1.2 d hd
          have nx : iz ((ps B D d + k : Nat) : Int) + 1 = iz ((ps B D d + k + 1 : Nat) : Int) := by rw [z_1, iz_add]; exact iz_inj (by omega)
          refine ⟨in_nat (by omega) (by omega), jo ?_⟩
          rw [v2, hR2, ix_nat (by omega), VT (r + 4) _ (by omega) (by omega), VT (r + 3) _ (by omega) (by omega), x3, x4, ix_nat (by omega), VT 96 _ (by omega) (by omega), VT 94 _ (by omega) (by omega), c2, c3, ix_nat (by omega), ix_nat (by omega), VT (b + 8) _ (by omega) (by omega), p8, iz_sub, show ((nF B d + k : Nat) : Int) - bFst B d = (k : Int) by omega, ix_nat (by omega), show 123 + 4 * (12 * d + c0 d) = wc d (c0 d) from rfl, VT (wc d (c0 d) + 1) _ (by unfold wc; omega) (by unfold wc; omega), hw d d1 d2 k d3, nx]
          refine ⟨in_nat (by omega) (by omega), in_nat (by omega) (by omega), hb, in_nat (by omega) (by omega), shl10_1 (sh_wc d1 (by omega)), in_nat (by omega) (by omega), jo ⟨⟨ps B D d + k + 1, by omega, rfl, v1, v2, fun y z hy => ?_, fun e he hme l hl hlt => ?_⟩, ?_⟩⟩
          · rw [gA_A, if_neg (by omega)]; exact v3 y z hy
          · rw [gA_A]
            by_cases z : ps B D e + l = ps B D d + k
            · rw [if_pos ⟨rfl, z⟩]
              obtain ⟨z1, z2⟩ := ps_in hme d2 hl d3 z
              rw [z1, z2]
            · rw [if_neg (by omega)]; exact v4 e he hme l hl (by omega)
          · show 12 - (iz ((ps B D d + k + 1 : Nat) : Int)).toInt.toNat < 12 - (iz ((ps B D d + k : Nat) : Int)).toInt.toNat
            rw [iz_t (by omega), iz_t (by omega)]; omega
      · show 12 - (0 : Int32).toInt.toNat < 1000
        omega
      · exact ⟨0, Nat.zero_le _, rfl, u1, u2, fun _ _ _ => rfl, fun d _ _ k _ hk => absurd hk (Nat.not_lt_zero _)⟩
    · have hi : i < sn D 8 := by omega
      obtain ⟨d, d1, d2, d3⟩ := sn_ex 8 hi
      obtain ⟨c1, c2, c3⟩ := hc d d1 d2
      have hd := mem_lt hW hD2 d d2
      have cb := ch_b hW hd
      have nx : iz (i : Int) + 1 = iz ((i + 1 : Nat) : Int) := by rw [z_1, iz_add]; exact iz_inj (by omega)
      rw [ix_nat (by omega), u3 96 _ (by omega), u3 94 _ (by omega), ← d3, c2, c3, z_12, iz_mul, iz_sub, show ((12 * d + c0 d : Nat) : Int) - (d : Int) * 12 = (c0 d : Int) by omega, d3, nx]
      refine ⟨in_nat (by omega) (by omega), jo ⟨⟨i + 1, by omega, rfl, u1, u2, fun y z hy => ?_, fun e he hme hlt => ?_⟩, ?_⟩⟩
      · rw [gA_A, if_neg (by omega)]; exact u3 y z hy
      · rw [gA_A]
        by_cases z : sn D e = i
        · rw [if_pos ⟨rfl, z⟩]
          have : e = d := sn_in hme d2 (by omega)
          rw [this]
        · rw [if_neg (by omega)]; exact u4 e he hme (by omega)
      · show 4 - (iz ((i + 1 : Nat) : Int)).toInt.toNat < 4 - (iz (i : Int)).toInt.toNat
        rw [iz_t (by omega), iz_t (by omega)]; omega
  · show 4 - (0 : Int32).toInt.toNat < 1000
    omega
  · exact ⟨0, Nat.zero_le _, rfl, rfl, rfl, fun _ _ _ => rfl, fun d _ _ hk => absurd hk (Nat.not_lt_zero _)⟩
