/-! ===== the pair copy ===== -/
theorem m_cp1 {S : St} {a i b j n : Nat} {Q : Int32 × St → Prop} (ha : a < 8) (hb : b < 8) (hi : i + n ≤ 40) (hj : j + n ≤ 40) (hu : j ≤ i) (fin : ∀ V, Fr (fun c => c = 574) S V → (∀ x, V.2.2.1 574 x = if 40 * b + j ≤ x ∧ x < 40 * b + j + n then S.2.2.1 574 (40 * a + i + (x - (40 * b + j))) else S.2.2.1 574 x) → Q (iz n, V)) : wp_m_copy_143 (iz a) (iz i) (iz b) (iz j) (iz n) 1 (fun w T201 => Q (iz n, T201)) Q 1000 0 S := by
  refine wr_m_copy_143 _ _ _ _ _ _ (fun v V => ∃ k : Nat, k ≤ n ∧ v = iz k ∧ Fr (fun c => c = 574) S V ∧ ∀ x, V.2.2.1 574 x = if 40 * b + j ≤ x ∧ x < 40 * b + j + k then S.2.2.1 574 (40 * a + i + (x - (40 * b + j))) else S.2.2.1 574 x) (fun v V => 40 - v.toInt.toNat) ?_ _ _ _ ?_ ?_
  · rintro _ V ⟨k, k1, rfl, v1, v2⟩
    unfold bd_m_copy_143
    rw [iz_le (by omega)]
    refine ⟨fun q => ?_, fun q => jo ?_⟩
    · have ek : k = n := by omega
      subst ek
      refine fin V v1 (fun x => ?_)
      exact v2 x
    · have nx : iz (k : Int) + 1 = iz ((k + 1 : Nat) : Int) := by rw [z_1, iz_add]; exact iz_inj (by omega)
      have ea : ∀ y : Nat, ((40 : Int32) * iz (a : Int) + iz (i : Int)) + iz (y : Int) = iz ((40 * a + i + y : Nat) : Int) := fun y => by rw [z_40, iz_mul, iz_add, iz_add]; exact iz_inj (by omega)
      have eb : ∀ y : Nat, ((40 : Int32) * iz (b : Int) + iz (j : Int)) + iz (y : Int) = iz ((40 * b + j + y : Nat) : Int) := fun y => by rw [z_40, iz_mul, iz_add, iz_add]; exact iz_inj (by omega)
      have dn : (iz (n : Int) - 1) - iz (k : Int) = iz ((n - 1 - k : Nat) : Int) := by rw [z_1, iz_sub, iz_sub]; exact iz_inj (by omega)
      have st : (vp_in (((40 : Int32) * iz (a : Int) + iz (i : Int)) + iz ((k : Nat) : Int)) 320) ∧ (vp_in (((40 : Int32) * iz (b : Int) + iz (j : Int)) + iz ((k : Nat) : Int)) 320) ∧ (fun uv uT => (∃ k : Nat, k ≤ n ∧ uv = iz k ∧ Fr (fun c => c = 574) S uT ∧ ∀ x, uT.2.2.1 574 x = if 40 * b + j ≤ x ∧ x < 40 * b + j + k then S.2.2.1 574 (40 * a + i + (x - (40 * b + j))) else S.2.2.1 574 x) ∧ 40 - uv.toInt.toNat < 40 - (iz (k : Int)).toInt.toNat) (iz (k : Int) + 1) (sA V 574 ((((40 : Int32) * iz (b : Int) + iz (j : Int)) + iz ((k : Nat) : Int))).toNatClampNeg (V.2.2.1 574 ((((40 : Int32) * iz (a : Int) + iz (i : Int)) + iz ((k : Nat) : Int))).toNatClampNeg)) := by
        rw [ea, eb, nx, ix_nat (by omega), ix_nat (by omega)]
        refine ⟨in_nat (by omega) (by omega), in_nat (by omega) (by omega), ⟨k + 1, by omega, rfl, fr_tr v1 fr_1A (fun c hc => hc), fun x => ?_⟩, ?_⟩
        · rw [gA_A]
          by_cases e : x = 40 * b + j + (k)
          · rw [if_pos ⟨rfl, e⟩, if_pos (by omega), v2, if_neg (by omega), show 40 * a + i + (x - (40 * b + j)) = 40 * a + i + (k) by omega]
          · rw [if_neg (by omega), v2]
            by_cases e2 : 40 * b + j ≤ x ∧ x < 40 * b + j + k
            · rw [if_pos e2, if_pos (by omega)]
            · rw [if_neg e2, if_neg (by omega)]
        · rw [iz_t (by omega), iz_t (by omega)]; omega
      exact ⟨fun z => absurd z (by decide), fun _ => st⟩
  · show 40 - (0 : Int32).toInt.toNat < 1000
    omega
  · exact ⟨0, by omega, rfl, fr_rfl, fun x => by rw [if_neg (by omega)]⟩
theorem m_cp0 {S : St} {a i b j n : Nat} {Q : Int32 × St → Prop} (ha : a < 8) (hb : b < 8) (hi : i + n ≤ 40) (hj : j + n ≤ 40) (hu : i < j) (fin : ∀ V, Fr (fun c => c = 574) S V → (∀ x, V.2.2.1 574 x = if 40 * b + j ≤ x ∧ x < 40 * b + j + n then S.2.2.1 574 (40 * a + i + (x - (40 * b + j))) else S.2.2.1 574 x) → Q (iz n, V)) : wp_m_copy_143 (iz a) (iz i) (iz b) (iz j) (iz n) 0 (fun w T201 => Q (iz n, T201)) Q 1000 0 S := by
  refine wr_m_copy_143 _ _ _ _ _ _ (fun v V => ∃ k : Nat, k ≤ n ∧ v = iz k ∧ Fr (fun c => c = 574) S V ∧ ∀ x, V.2.2.1 574 x = if 40 * b + j + n - k ≤ x ∧ x < 40 * b + j + n then S.2.2.1 574 (40 * a + i + (x - (40 * b + j))) else S.2.2.1 574 x) (fun v V => 40 - v.toInt.toNat) ?_ _ _ _ ?_ ?_
  · rintro _ V ⟨k, k1, rfl, v1, v2⟩
    unfold bd_m_copy_143
    rw [iz_le (by omega)]
    refine ⟨fun q => ?_, fun q => jo ?_⟩
    · have ek : k = n := by omega
      subst ek
      refine fin V v1 (fun x => ?_)
      refine (v2 x).trans ?_
      by_cases e : 40 * b + j ≤ x ∧ x < 40 * b + j + k
      · rw [if_pos (by omega), if_pos e]
      · rw [if_neg (by omega), if_neg e]
    · have nx : iz (k : Int) + 1 = iz ((k + 1 : Nat) : Int) := by rw [z_1, iz_add]; exact iz_inj (by omega)
      have ea : ∀ y : Nat, ((40 : Int32) * iz (a : Int) + iz (i : Int)) + iz (y : Int) = iz ((40 * a + i + y : Nat) : Int) := fun y => by rw [z_40, iz_mul, iz_add, iz_add]; exact iz_inj (by omega)
      have eb : ∀ y : Nat, ((40 : Int32) * iz (b : Int) + iz (j : Int)) + iz (y : Int) = iz ((40 * b + j + y : Nat) : Int) := fun y => by rw [z_40, iz_mul, iz_add, iz_add]; exact iz_inj (by omega)
      have dn : (iz (n : Int) - 1) - iz (k : Int) = iz ((n - 1 - k : Nat) : Int) := by rw [z_1, iz_sub, iz_sub]; exact iz_inj (by omega)
      have st : (vp_in (((40 : Int32) * iz (a : Int) + iz (i : Int)) + iz ((n - 1 - k : Nat) : Int)) 320) ∧ (vp_in (((40 : Int32) * iz (b : Int) + iz (j : Int)) + iz ((n - 1 - k : Nat) : Int)) 320) ∧ (fun uv uT => (∃ k : Nat, k ≤ n ∧ uv = iz k ∧ Fr (fun c => c = 574) S uT ∧ ∀ x, uT.2.2.1 574 x = if 40 * b + j + n - k ≤ x ∧ x < 40 * b + j + n then S.2.2.1 574 (40 * a + i + (x - (40 * b + j))) else S.2.2.1 574 x) ∧ 40 - uv.toInt.toNat < 40 - (iz (k : Int)).toInt.toNat) (iz (k : Int) + 1) (sA V 574 ((((40 : Int32) * iz (b : Int) + iz (j : Int)) + iz ((n - 1 - k : Nat) : Int))).toNatClampNeg (V.2.2.1 574 ((((40 : Int32) * iz (a : Int) + iz (i : Int)) + iz ((n - 1 - k : Nat) : Int))).toNatClampNeg)) := by
        rw [ea, eb, nx, ix_nat (by omega), ix_nat (by omega)]
        refine ⟨in_nat (by omega) (by omega), in_nat (by omega) (by omega), ⟨k + 1, by omega, rfl, fr_tr v1 fr_1A (fun c hc => hc), fun x => ?_⟩, ?_⟩
        · rw [gA_A]
          by_cases e : x = 40 * b + j + (n - 1 - k)
          · rw [if_pos ⟨rfl, e⟩, if_pos (by omega), v2, if_neg (by omega), show 40 * a + i + (x - (40 * b + j)) = 40 * a + i + (n - 1 - k) by omega]
          · rw [if_neg (by omega), v2]
            by_cases e2 : 40 * b + j + n - k ≤ x ∧ x < 40 * b + j + n
            · rw [if_pos e2, if_pos (by omega)]
            · rw [if_neg e2, if_neg (by omega)]
        · rw [iz_t (by omega), iz_t (by omega)]; omega
      exact ⟨fun _ => by rw [dn]; exact st, fun z => absurd rfl z⟩
  · show 40 - (0 : Int32).toInt.toNat < 1000
    omega
  · exact ⟨0, by omega, rfl, fr_rfl, fun x => by rw [if_neg (by omega)]⟩
theorem i_copy : P_copy Inv := pw_copy fun T hI p0 p1 p2 p3 p4 => by
  obtain ⟨a, ha, rfl⟩ := iz_ex p0
  obtain ⟨i, hi, rfl⟩ := iz_ex p1
  obtain ⟨b, hb, rfl⟩ := iz_ex p2
  obtain ⟨j, hj, rfl⟩ := iz_ex p3
  obtain ⟨n, hn, rfl⟩ := iz_ex p4
  have tt := Inv_t 0 hI
  unfold wp_x_copy
  rw [sh_one ha, sh_one hb]
  have bad : ¬ ((0 ≤ a ∧ a < 8) ∧ 0 ≤ b ∧ b < 8) → wp_m_copy T (iz a) (iz i) (iz b) (iz j) (iz n) (fun q => (-1000001) = q.1 ∧ Inv q.2) := fun q => by
    unfold wp_m_copy
    rw [m_she ha, m_she hb]
    exact ⟨fun _ => ⟨rfl, tt⟩, fun q1 => ⟨fun _ => ⟨rfl, tt⟩, fun q2 => absurd (by omega) q⟩⟩
  refine ⟨fun q => bad (by omega), fun q => ⟨fun q2 => bad (by omega), fun q2 => ?_⟩⟩
  obtain ⟨a, rfl⟩ : ∃ k : Nat, a = k := ⟨a.toNat, by omega⟩
  obtain ⟨b, rfl⟩ : ∃ k : Nat, b = k := ⟨b.toNat, by omega⟩
  have ia : vp_in (iz a) 8 := in_nat (by omega) (by omega)
  have ib : vp_in (iz b) 8 := in_nat (by omega) (by omega)
  obtain ⟨s1, s2, ⟨la, s3, s4⟩, ⟨na, s5, s6⟩, s7⟩ := hI.1.2 a (by omega)
  obtain ⟨t1, t2, ⟨lb, t3, t4⟩, ⟨nb, t5, t6⟩, t7⟩ := hI.1.2 b (by omega)
  obtain ⟨o1, o2⟩ := sh_mis s3 (by omega) s4
  obtain ⟨u1, u2⟩ := sh_mis t3 (by omega) t4
  obtain ⟨o3, o4⟩ := sh_rea (i := i) (k := n) s5 (by omega) s6 hi hn
  obtain ⟨u3, u4⟩ := sh_rea (i := j) (k := n) t5 (by omega) t6 hj hn
  have go : ∀ (U : St) (r : Int32), (∀ s, U.2.2.1 572 s = T.2.2.1 572 s) → (∀ s, U.2.2.1 573 s = T.2.2.1 573 s) → ((la < 0 ∨ lb < 0) → r = -1000010 - 1 ∧ Inv (sF (sF (sF U 571 0 0) 571 1 0) 571 1 1)) → (0 ≤ la → 0 ≤ lb → la ≠ lb → r = -1000010 - 5 ∧ Inv (sF (sF (sF U 571 0 0) 571 1 0) 571 1 5)) → (0 ≤ la → 0 ≤ lb → la = lb → ¬ (0 ≤ i ∧ 0 ≤ j ∧ 0 ≤ n ∧ i + n ≤ na ∧ j + n ≤ nb) → r = -1000010 - 2 ∧ Inv (sF (sF (sF U 571 0 0) 571 1 0) 571 1 2)) → (0 ≤ la → 0 ≤ lb → la = lb → (0 ≤ i ∧ 0 ≤ j ∧ 0 ≤ n ∧ i + n ≤ na ∧ j + n ≤ nb) → (i < j → wp_m_copy_143 (iz a) (iz i) (iz b) (iz j) (iz n) 0 (fun w T201 => r = (iz n, T201).1 ∧ Inv (iz n, T201).2) (fun q => r = q.1 ∧ Inv q.2) 1000 0 (sF (sF U 571 0 0) 571 1 0)) ∧ (¬ i < j → wp_m_copy_143 (iz a) (iz i) (iz b) (iz j) (iz n) 1 (fun w T201 => r = (iz n, T201).1 ∧ Inv (iz n, T201).2) (fun q => r = q.1 ∧ Inv q.2) 1000 0 (sF (sF U 571 0 0) 571 1 0))) → wp_m_copy U (iz a) (iz i) (iz b) (iz j) (iz n) (fun q => r = q.1 ∧ Inv q.2) := by
    intro U r e2 e3 g1 g5 g2 g0
    have ea : (sF (sF U 571 0 0) 571 1 0).2.2.1 572 (iz (a : Int)).toNatClampNeg = iz la := by rw [ix_nat (by omega)]; exact (e2 a).trans (s1.trans s3)
    have eb : (sF (sF U 571 0 0) 571 1 0).2.2.1 572 (iz (b : Int)).toNatClampNeg = iz lb := by rw [ix_nat (by omega)]; exact (e2 b).trans (t1.trans t3)
    have ema : (sF (sF U 571 0 0) 571 1 0).2.2.1 573 (iz (a : Int)).toNatClampNeg = iz na := by rw [ix_nat (by omega)]; exact (e3 a).trans (s2.trans s5)
    have emb : (sF (sF U 571 0 0) 571 1 0).2.2.1 573 (iz (b : Int)).toNatClampNeg = iz nb := by rw [ix_nat (by omega)]; exact (e3 b).trans (t2.trans t5)
    unfold wp_m_copy
    rw [m_she ha, m_she hb, ea, eb, ema, emb, lt0 (by omega), le0 (by omega), iz_eq (by omega), lt0 (by omega), lt0 (by omega), lt0 (by omega), lz_w hi, lz_w hn, lz_w hj, lz_w (by omega), lz_w (by omega), lz_add, lz_add, lg_gt0 (by omega), lg_le0 (by omega), iz_lt (by omega)]
    refine ⟨fun y => absurd (by omega) y, fun _ => ⟨fun y => absurd (by omega) y, fun _ => ⟨ia, fun c1 => g1 (Or.inl c1), fun c1 => ⟨ib, fun c2 => ⟨fun c3 => ⟨fun c4 => g2 (by omega) c2 c3 (by omega), fun c4 => ⟨fun c5 => g2 (by omega) c2 c3 (by omega), fun c5 => ⟨fun c6 => g2 (by omega) c2 c3 (by omega), fun c6 => ⟨fun c7 => g2 (by omega) c2 c3 (by omega), fun c7 => ⟨fun c8 => jo ⟨fun c9 => (g0 (by omega) c2 c3 (by omega)).1 c9, fun c9 => (g0 (by omega) c2 c3 (by omega)).2 c9⟩, fun c8 => g2 (by omega) c2 c3 (by omega)⟩⟩⟩⟩⟩, fun c3 => g5 (by omega) c2 c3⟩, fun c2 => g1 (Or.inr (by omega))⟩⟩⟩⟩
  have bd2 : la ≤ 2 := s4.2
  refine ⟨o1, fun c1 => ⟨u1, fun c2 => ⟨ia, ib, ?_⟩, fun c2 => ?_⟩, fun c1 => ?_⟩
  · have l1 := o2.1 c1
    have l2 := u2.1 c2
    rw [ix_nat (by omega), ix_nat (by omega), s3, t3, iz_eq (by omega)]
    refine ⟨fun c3 => ⟨o3, fun c4 => ?_, fun c4 => ⟨u3, fun c5 => ?_, fun c5 => ?_⟩⟩, fun c3 => ?_⟩
    · have := o4.1 c4
      exact go (sF T 0 12 2) _ (fun _ => rfl) (fun _ => rfl) (fun y => by omega) (fun _ _ y => absurd c3 y) (fun _ _ _ _ => ⟨rfl, Inv_fd 2 hI⟩) (fun _ _ _ y => absurd ⟨y.1, y.2.2.1, y.2.2.2.1⟩ this)
    · have := u4.1 c5
      exact go (sF T 0 12 2) _ (fun _ => rfl) (fun _ => rfl) (fun y => by omega) (fun _ _ y => absurd c3 y) (fun _ _ _ _ => ⟨rfl, Inv_fd 2 hI⟩) (fun _ _ _ y => absurd ⟨y.2.1, y.2.2.1, y.2.2.2.2⟩ this)
    · have r1 : 0 ≤ i ∧ 0 ≤ n ∧ i + n ≤ na := Classical.byContradiction fun h => c4 (o4.2 h)
      have r2 : 0 ≤ j ∧ 0 ≤ n ∧ j + n ≤ nb := Classical.byContradiction fun h => c5 (u4.2 h)
      obtain ⟨i, rfl⟩ : ∃ k : Nat, i = k := ⟨i.toNat, by omega⟩
      obtain ⟨j, rfl⟩ : ∃ k : Nat, j = k := ⟨j.toNat, by omega⟩
      obtain ⟨n, rfl⟩ : ∃ k : Nat, n = k := ⟨n.toNat, by omega⟩
      rw [ix_nat (by omega), ix_nat (by omega), ix_nat (by omega)]
      refine ⟨⟨by rw [lt0 (by omega)]; omega, by rw [lt0 (by omega)]; omega, by rw [lt0 (by omega)]; omega, by rw [ix_nat (by omega), ix_nat (by omega)]; omega, by rw [ix_nat (by omega), ix_nat (by omega)]; omega⟩, jo ?_⟩
      have fin : ∀ V, Fr (fun c => c = 574) (sF (sF (sF (sAr T (5 + b) (va_cpy (T.2.2.1 (5 + a)) (T.2.2.1 (5 + b)) i j n)) 0 12 0) 571 0 0) 571 1 0) V → (∀ x, V.2.2.1 574 x = if 40 * b + j ≤ x ∧ x < 40 * b + j + n then (sF (sF (sF (sAr T (5 + b) (va_cpy (T.2.2.1 (5 + a)) (T.2.2.1 (5 + b)) i j n)) 0 12 0) 571 0 0) 571 1 0).2.2.1 574 (40 * a + i + (x - (40 * b + j))) else (sF (sF (sF (sAr T (5 + b) (va_cpy (T.2.2.1 (5 + a)) (T.2.2.1 (5 + b)) i j n)) 0 12 0) 571 0 0) 571 1 0).2.2.1 574 x) → (iz n = iz n ∧ Inv V) := by
        intro V v1 v2
        have e574 : ∀ x, (sF (sF (sF (sAr T (5 + b) (va_cpy (T.2.2.1 (5 + a)) (T.2.2.1 (5 + b)) i j n)) 0 12 0) 571 0 0) 571 1 0).2.2.1 574 x = T.2.2.1 574 x := fun x => by
          show (if 574 = 5 + b then _ else T.2.2.1 574 x) = _
          rw [if_neg (by omega)]
        have frA : Fr (fun c => c = 5 + b) T (sAr T (5 + b) (va_cpy (T.2.2.1 (5 + a)) (T.2.2.1 (5 + b)) i j n)) := fr_sAr fr_rfl rfl
        have frS : Fr _ T (sF (sF (sF (sAr T (5 + b) (va_cpy (T.2.2.1 (5 + a)) (T.2.2.1 (5 + b)) i j n)) 0 12 0) 571 0 0) 571 1 0) := fr_ww (fr_ww (fr_ww frA fr_1) fr_1) fr_1
        have frV := fr_ww frS v1
        have v12 : V.1 0 12 = 0 := by rw [q_F v1 (by omega)]; rfl
        have v11 : V.1 571 1 = 0 := by rw [q_F v1 (by omega)]; rfl
        have vb : ∀ x, V.2.2.1 (5 + b) x = if j ≤ x ∧ x < j + n then T.2.2.1 (5 + a) (i + (x - j)) else T.2.2.1 (5 + b) x := fun x => by
          rw [q_A v1 (by omega)]
          show (if 5 + b = 5 + b then _ else T.2.2.1 (5 + b) x) = _
          rw [if_pos rfl]
          rfl
        refine ⟨rfl, Inv_ok frV hI (fun c hc => by unfold irr; omega) (by rw [v12, v11]) (fun s hs => ?_)⟩
        obtain ⟨w1, w2, w3, w5, w6⟩ := hI.1.2 s hs
        rw [q_A frV (c := 572) (by omega), q_A frV (c := 573) (by omega), q_A frV (c := 2) (by omega), q_A frV (c := 3) (by omega)]
        refine ⟨w1, w2, w3, w5, fun x hx => ?_⟩
        rw [v2, e574, e574]
        by_cases e : s = b
        · subst e
          rw [vb]
          by_cases e2 : j ≤ x ∧ x < j + n
          · rw [if_pos e2, if_pos (by omega), ← s7 _ (by omega)]
            exact congrArg (T.2.2.1 574) (by omega)
          · rw [if_neg e2, if_neg (by omega)]; exact w6 x hx
        · rw [if_neg (by omega), q_A frV (by omega)]; exact w6 x hx
      exact go (sF (sAr T (5 + b) (va_cpy (T.2.2.1 (5 + a)) (T.2.2.1 (5 + b)) i j n)) 0 12 0) _ (fun s => by show (if 572 = 5 + b then _ else T.2.2.1 572 s) = _; rw [if_neg (by omega)]) (fun s => by show (if 573 = 5 + b then _ else T.2.2.1 573 s) = _; rw [if_neg (by omega)]) (fun y => by omega) (fun _ _ y => absurd c3 y) (fun _ _ _ y => absurd (by omega) y) (fun _ _ _ _ => ⟨fun y => m_cp0 (a := a) (i := i) (b := b) (j := j) (n := n) (Q := fun q => iz n = q.1 ∧ Inv q.2) (by omega) (by omega) (by omega) (by omega) (by omega) fin, fun y => m_cp1 (a := a) (i := i) (b := b) (j := j) (n := n) (Q := fun q => iz n = q.1 ∧ Inv q.2) (by omega) (by omega) (by omega) (by omega) (by omega) fin⟩)
    · exact go (sF T 0 12 5) _ (fun _ => rfl) (fun _ => rfl) (fun y => by omega) (fun _ _ _ => ⟨rfl, Inv_fd 5 hI⟩) (fun _ _ y => absurd y c3) (fun _ _ y => absurd y c3)
  · have l2 : ¬ 0 ≤ lb := fun y => c2 (u2.2 y)
    exact go (sF T 0 12 1) _ (fun _ => rfl) (fun _ => rfl) (fun y => ⟨rfl, Inv_fd 1 hI⟩) (fun _ y => absurd y l2) (fun _ y => absurd y l2) (fun _ y => absurd y l2)
  · have l2 : ¬ 0 ≤ la := fun y => c1 (o2.2 y)
    exact go (sF T 0 12 1) _ (fun _ => rfl) (fun _ => rfl) (fun y => ⟨rfl, Inv_fd 1 hI⟩) (fun y => absurd y l2) (fun y => absurd y l2) (fun y => absurd y l2)
