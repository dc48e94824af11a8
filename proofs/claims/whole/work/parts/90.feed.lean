/-! ===== the pair feed ===== -/
def bt (w : Int64) (i : Int) : Int32 := ((w >>> (((8 * iz i) : Int32).toInt64 &&& 63)).toInt32) &&& 255
theorem bt_m {w : Int64} {i : Int} : (((w >>> (((8 * iz i) : Int32).toInt64 &&& 63)) &&& 255 : Int64).toInt32) = bt w i := by
  unfold bt
  rw [Int64.toInt32_and]
  rfl
theorem an_255 (y : Int32) : ∃ c : Nat, c < 256 ∧ (y &&& 255) = iz c := by
  have h1 : (y &&& 255).toBitVec.toNat ≤ 255 := by
    rw [Int32.toBitVec_and, BitVec.toNat_and]
    exact Nat.and_le_right
  have h6 : (y &&& 255).toInt = ((y &&& 255).toBitVec.toNat : Int) := BitVec.toInt_eq_toNat_of_lt (by omega)
  refine ⟨(y &&& 255).toBitVec.toNat, by omega, ?_⟩
  rw [← h6, iz_self]
theorem s_put {T : St} {w : Int64} {L n : Nat} (h : T.1 13 1 = iz L) (hn : L + n ≤ 600) (hn8 : n ≤ 8) : ok_rd_put T w (iz n) ∧ (fun U : St => U.1 13 1 = iz ((L + n : Nat) : Int) ∧ ∀ x, U.2.2.1 14 x = if L ≤ x ∧ x < L + n then bt w ((n : Int) - 1 - ((x : Int) - L)) else T.2.2.1 14 x) (x_rd_put T w (iz n)) := by
  refine so_rd_put (Q := fun U : St => U.1 13 1 = iz ((L + n : Nat) : Int) ∧ ∀ x, U.2.2.1 14 x = if L ≤ x ∧ x < L + n then bt w ((n : Int) - 1 - ((x : Int) - L)) else T.2.2.1 14 x) _ _ ?_
  unfold wp_rd_put
  refine wr_rd_put_5 w (iz n) (fun v U => ∃ j : Nat, j ≤ n ∧ v = iz ((n : Int) - 1 - j) ∧ U.1 13 1 = iz ((L + j : Nat) : Int) ∧ ∀ x, U.2.2.1 14 x = if L ≤ x ∧ x < L + j then bt w ((n : Int) - 1 - ((x : Int) - L)) else T.2.2.1 14 x) (fun v U => (v.toInt + 1).toNat) ?_ _ _ _ ?_ ?_
  · rintro _ U ⟨j, j1, rfl, u1, u2⟩
    unfold bd_rd_put_5
    simp only [gA_F]
    rw [lt0 (by omega), u1, z_600, iz_le (by omega)]
    refine ⟨fun q => ?_, fun q => ⟨fun q2 => absurd q2 (by omega), fun q2 => ⟨in_nat (by omega) (by omega), jo ?_⟩⟩⟩
    · have : j = n := by omega
      subst this
      exact ⟨rfl, u2⟩
    · try dsimp only
      rw [gA_F, u1, ix_nat (by omega), show (-1 : Int32) = iz (-1) from rfl, iz_add, z_1, iz_add]
      refine ⟨⟨j + 1, by omega, iz_inj (by omega), ?_, fun x => ?_⟩, ?_⟩
      · rw [gF_F, if_pos ⟨rfl, rfl⟩]; exact iz_inj (by omega)
      · rw [gF_A, gA_A]
        by_cases e : x = L + j
        · rw [if_pos ⟨rfl, e⟩, if_pos (by omega)]
          unfold bt
          rw [show (n : Int) - 1 - ((x : Int) - L) = (n : Int) - 1 - j by omega]
        · rw [if_neg (by omega), u2]
          by_cases e2 : L ≤ x ∧ x < L + j
          · rw [if_pos e2, if_pos (by omega)]
          · rw [if_neg e2, if_neg (by omega)]
      · rw [iz_t (by omega), iz_t (by omega)]; omega
  · rw [z_1, iz_sub, iz_t (by omega)]; omega
  · refine ⟨0, by omega, by rw [z_1, iz_sub]; exact iz_inj (by omega), by rw [h]; rfl, fun x => by rw [if_neg (by omega)]⟩
theorem i_feed : P_feed Inv := pw_feed fun T hI w p1 => by
  obtain ⟨a, ha, rfl⟩ := iz_ex p1
  have tt := Inv_t 0 hI
  obtain ⟨L, hL, t1, t2, t3⟩ := hI.2.1.2
  have go : ∀ r : Int32, (¬ (1 ≤ a ∧ a ≤ 8) → r = -1000001) → ((1 ≤ a ∧ a ≤ 8) → 600 < (L : Int) + a → r = -1000003) → (¬ (1 ≤ a ∧ a ≤ 8) ∨ 600 < (L : Int) + a) → wp_m_feed T w (iz a) (fun q => r = q.1 ∧ Inv q.2) := by
    intro r g1 g2 g3
    unfold wp_m_feed
    rw [lz_w ha, y_1, y_8, m_in (by omega), show (sF T 571 0 0).1 571 9 = T.1 571 9 from rfl, t2, iz_add]
    refine ⟨fun q => ⟨g1 q, tt⟩, fun q => ?_⟩
    have q' : 1 ≤ a ∧ a ≤ 8 := Classical.byContradiction q
    rw [z_600, iz_le (by omega)]
    refine ⟨fun q2 => ?_, fun q2 => ⟨g2 q' (by omega), tt⟩⟩
    rcases g3 with y | y
    · exact absurd y q
    · omega
  unfold wp_x_feed
  rw [z_1, iz_lt (by omega), z_8, iz_le (by omega)]
  refine ⟨fun q => go _ (fun _ => rfl) (fun y => by omega) (Or.inl (by omega)), fun q => ⟨fun q2 => ?_, fun q2 => go _ (fun _ => rfl) (fun y => by omega) (Or.inl (by omega))⟩⟩
  have hr : (x_rd_hasRoom T (iz a) = 0) ↔ 600 < (L : Int) + a := by
    unfold x_rd_hasRoom
    rw [t1, iz_add, z_600]
    simp (disch := omega) only [iz_lt]
    by_cases y : 600 < (L : Int) + a
    · rw [if_pos y]; exact ⟨fun _ => y, fun _ => rfl⟩
    · rw [if_neg y]; exact ⟨fun z => absurd z (by decide), fun z => absurd z y⟩
  rw [hr]
  refine ⟨fun q3 => go _ (fun y => absurd (by omega) y) (fun _ _ => rfl) (Or.inr q3), fun q3 => ?_⟩
  obtain ⟨n, rfl⟩ : ∃ n : Nat, a = n := ⟨a.toNat, by omega⟩
  obtain ⟨ok, x1, x2⟩ := s_put (T := T) (w := w) (L := L) (n := n) t1 (by omega) (by omega)
  have fr1 : Fr _ T _ := fr_rd_put _ _ ok
  refine ⟨ok, ?_⟩
  show wp_m_feed (x_rd_put T w (iz n)) w (iz n) (fun q => (x_rd_put T w (iz n)).1 13 1 = q.1 ∧ Inv q.2)
  generalize x_rd_put T w (iz n) = U at *
  have u9 : U.1 571 9 = iz L := by rw [q_F fr1 (by unfold W_rd_put; omega)]; exact t2
  have u577 : ∀ j, U.2.2.1 577 j = T.2.2.1 577 j := fun j => q_A fr1 (by unfold W_rd_put; omega)
  unfold wp_m_feed
  rw [lz_w ha, y_1, y_8, m_in (by omega), show (sF U 571 0 0).1 571 9 = U.1 571 9 from rfl, u9, iz_add, z_600, iz_le (by omega)]
  refine ⟨fun y => absurd (by omega) y, fun _ => ⟨fun _ => ?_, fun y => absurd (by omega) y⟩⟩
  refine wr_m_feed_40 w (iz n) (fun v V => ∃ j : Nat, j ≤ n ∧ v = iz ((n : Int) - 1 - j) ∧ Fr (fun c => c = 577 ∨ c = 67100 ∨ c = 67109) U V ∧ V.1 571 9 = iz ((L + j : Nat) : Int) ∧ ∀ x, V.2.2.1 577 x = if L ≤ x ∧ x < L + j then bt w ((n : Int) - 1 - ((x : Int) - L)) else T.2.2.1 577 x) (fun v V => (v.toInt + 1).toNat) ?_ _ _ _ ?_ ?_
  · rintro _ V ⟨j, j1, rfl, v0, v1, v2⟩
    unfold bd_m_feed_40
    rw [lt0 (by omega), v1]
    refine ⟨fun q => ?_, fun q => ⟨in_nat (by omega) (by omega), jo ?_⟩⟩
    · have ej : j = n := by omega
      subst ej
      refine ⟨?_, ?_⟩
      · show U.1 13 1 = V.1 571 9
        rw [x1, v1]
      · show Inv V
        have frV := fr_ww fr1 v0
        refine ⟨iSh_fr frV (fun c hc hw => by unfold W_rd_put at hw; omega) hI.1, ⟨?_, L + j, by omega, ?_, v1, fun x hx => ?_⟩, iTr_fr frV (fun c hc hw => by unfold W_rd_put at hw; omega) hI.2.2.1, iBk_fr frV (fun c hc hw => by unfold W_rd_put at hw; omega) hI.2.2.2.1, iIm_fr frV (fun c hc hw => by unfold W_rd_put at hw; omega) hI.2.2.2.2⟩
        · rw [q_F frV (by unfold W_rd_put; omega), q_F frV (by unfold W_rd_put; omega)]; exact hI.2.1.1
        · rw [q_F v0 (by omega)]; exact x1
        · rw [q_A v0 (by omega), x2, v2]
          by_cases e : L ≤ x
          · rw [if_pos (by omega), if_pos (by omega)]
            obtain ⟨c, c1, c2⟩ := an_255 ((w >>> (((8 * iz ((j : Int) - 1 - ((x : Int) - L))) : Int32).toInt64 &&& 63)).toInt32)
            exact ⟨c, c1, c2, c2⟩
          · rw [if_neg (by omega), if_neg (by omega)]; exact t3 x (by omega)
    · try dsimp only
      rw [gA_F, v1, ix_nat (by omega), show (-1 : Int32) = iz (-1) from rfl, iz_add, z_1, iz_add, bt_m]
      refine ⟨⟨j + 1, by omega, iz_inj (by omega), ?_, ?_, fun x => ?_⟩, ?_⟩
      · exact fr_sF (fr_sA v0 (by omega)) (by omega)
      · rw [gF_F, if_pos ⟨rfl, rfl⟩]; exact iz_inj (by omega)
      · rw [gF_A, gA_A]
        by_cases e : x = L + j
        · rw [if_pos ⟨rfl, e⟩, if_pos (by omega), show (n : Int) - 1 - ((x : Int) - L) = (n : Int) - 1 - j by omega]
        · rw [if_neg (by omega), v2]
          by_cases e2 : L ≤ x ∧ x < L + j
          · rw [if_pos e2, if_pos (by omega)]
          · rw [if_neg e2, if_neg (by omega)]
      · rw [iz_t (by omega), iz_t (by omega)]; omega
  · rw [z_1, iz_sub, iz_t (by omega)]; omega
  · refine ⟨0, by omega, by rw [z_1, iz_sub]; exact iz_inj (by omega), fr_le fr_1 (fun c hc => by omega), by rw [gF_F, if_neg (by omega)]; exact u9, fun x => by rw [if_neg (by omega), gF_A]; exact u577 x⟩
