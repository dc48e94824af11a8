/-! ===== the pairs dinner and out ===== -/
theorem al_m : ∀ n : Nat, n < 9 → ∀ i : Nat, i < 32 → n ≤ i → ((((1 : Int32) <<< (iz (n : Int) &&& 31)) - 1) ^^^ (-1)).toBitVec.getLsbD i = true := by decide +kernel
theorem al_2 : ∀ n : Nat, n < 9 → ∀ D : Nat, D < 256 → D < 2 ^ n → (iz (D : Int) &&& ((((1 : Int32) <<< (iz (n : Int) &&& 31)) - 1) ^^^ (-1))) = 0 := by decide +kernel
theorem al_1 {x : Int32} {n : Nat} (hn : n < 9) (h : (x &&& ((((1 : Int32) <<< (iz (n : Int) &&& 31)) - 1) ^^^ (-1))) = 0) : 0 ≤ x.toInt ∧ x.toInt < ((2 ^ n : Nat) : Int) := by
  have h1 : (x &&& ((((1 : Int32) <<< (iz (n : Int) &&& 31)) - 1) ^^^ (-1))).toBitVec = 0#32 := by rw [h]; rfl
  have h3 : x.toBitVec.toNat < 2 ^ n := by
    refine Nat.lt_pow_two_of_testBit _ fun i hi => ?_
    rcases Nat.lt_or_ge i 32 with h32 | h32
    · have h2 : (x &&& ((((1 : Int32) <<< (iz (n : Int) &&& 31)) - 1) ^^^ (-1))).toBitVec.getLsbD i = false := by rw [h1]; exact BitVec.getLsbD_zero
      rw [Int32.toBitVec_and, BitVec.getLsbD_and, al_m n hn i h32 hi, Bool.and_true] at h2
      exact h2
    · exact Nat.testBit_lt_two_pow (Nat.lt_of_lt_of_le x.toBitVec.isLt (Nat.pow_le_pow_right (by decide) h32))
  have h4 : 2 ^ n ≤ 2 ^ 8 := Nat.pow_le_pow_right (by decide) (by omega)
  have h5 : (2 : Nat) ^ 8 = 256 := rfl
  have h6 : x.toInt = (x.toBitVec.toNat : Int) := BitVec.toInt_eq_toNat_of_lt (by omega)
  rw [h6]
  omega
theorem bc_p : ∀ D : Nat, D < 256 → 1 ≤ D → 1 ≤ bc8 D := by decide +kernel
def upB (B : Nat → Int) (k : Nat) (v : Int) : Nat → Int := fun j => if j = k then v else B j
theorem upB_s {B : Nat → Int} {k : Nat} {v : Int} : upB B k v k = v := if_pos rfl
theorem upB_n {B : Nat → Int} {k j : Nat} {v : Int} (h : j ≠ k) : upB B k v j = B j := if_neg h
theorem i_dinner : P_dinner Inv := pw_dinner fun T hI p0 => by
  obtain ⟨a, ha, rfl⟩ := iz_ex p0
  obtain ⟨h46, hM, _, ⟨h4, hn16, _⟩, _, _⟩ := I_cnt hI
  obtain ⟨hb, hb2⟩ := b_46 h46
  have tt := Inv_t 0 hI
  obtain ⟨n, hn⟩ : ∃ n : Nat, nB T 16 = n := ⟨(nB T 16).toNat, by omega⟩
  have hn9 : n < 9 := by omega
  have p8 : 2 ^ n ≤ 256 := (Nat.pow_le_pow_right (by decide) (by omega) : 2 ^ n ≤ 2 ^ 8)
  have p1 : 1 ≤ 2 ^ n := Nat.one_le_two_pow
  have hin : ∀ U : St, U.2.2.1 575 16 = iz n → ((x_m_in U ((iz a).toInt64) 1 (((1 <<< ((U.2.2.1 575 (16 : Int32).toNatClampNeg) &&& 31)) - 1 : Int32).toInt64) = 0) ↔ ¬ (1 ≤ a ∧ a < ((2 ^ n : Nat) : Int))) := fun U hU => by
    rw [n_16, hU, bt_1 n hn9, z_1, iz_sub, lz_w ha, lz_w (by omega), y_1, m_in (by omega)]
    omega
  have h575 : T.2.2.1 575 16 = iz n := by rw [hM 16 (by omega), hn]
  have bad : ¬ (1 ≤ a ∧ a < ((2 ^ n : Nat) : Int) ∧ bc8 a.toNat ≤ 4) → wp_m_dinner T (iz a) (fun q => (-1000001) = q.1 ∧ Inv q.2) := by
    intro hq
    unfold wp_m_dinner
    rw [hin (sF T 571 0 0) h575]
    refine ⟨fun _ => ⟨rfl, tt⟩, fun q => ?_⟩
    have q' : 1 ≤ a ∧ a < ((2 ^ n : Nat) : Int) := Classical.byContradiction q
    obtain ⟨D, rfl⟩ : ∃ D : Nat, a = D := ⟨a.toNat, by omega⟩
    rw [Int.toNat_natCast] at hq
    have b8 := bc_8 D (by omega)
    obtain ⟨ob, eb⟩ := s_bits (T := sF T 571 0 0) (D := D) (by omega)
    rw [eb, z_4, iz_le (by omega)]
    exact ⟨ob, fun q2 => absurd (by omega) hq, fun _ => ⟨rfl, tt⟩⟩
  have bcx : 1 ≤ a ∧ a < ((2 ^ n : Nat) : Int) → x_J_bitCount T (iz a) = iz (bc8 a.toNat) := fun q => by
    obtain ⟨D, rfl⟩ : ∃ D : Nat, a = D := ⟨a.toNat, by omega⟩
    rw [Int.toNat_natCast]; exact bc_x (by omega)
  have bcb : 1 ≤ a ∧ a < ((2 ^ n : Nat) : Int) → bc8 a.toNat ≤ 8 ∧ 1 ≤ bc8 a.toNat := fun q => ⟨(bc_8 _ (by omega)).1, bc_p _ (by omega) (by omega)⟩
  unfold wp_x_dinner
  refine ⟨fun q => bad (fun y => ?_), fun q1 => ⟨fun q => bad (fun y => ?_), fun q2 => ⟨⟨hb, trivial⟩, hb, fun q3 => ?_, fun q3 => bad (fun y => ?_)⟩⟩⟩
  · have := bcb ⟨y.1, y.2.1⟩
    rw [bcx ⟨y.1, y.2.1⟩, z_1, iz_lt (by omega)] at q
    omega
  · have := bcb ⟨y.1, y.2.1⟩
    rw [bcx ⟨y.1, y.2.1⟩, z_4, iz_lt (by omega)] at q
    omega
  · have e3 : (iz a &&& ((((1 : Int32) <<< (iz (n : Int) &&& 31)) - 1) ^^^ (-1))) = 0 := by
      have : x_bk_allDishes T (T.2.1 0) = ((1 : Int32) <<< (iz (n : Int) &&& 31)) - 1 := by
        show (1 : Int32) <<< ((T.1 (T.2.1 0) 4) &&& 31) - 1 = _
        rw [h4, hn]
      rw [← this]; exact q3
    have r0 := al_1 hn9 e3
    rw [iz_t ha] at r0
    obtain ⟨D, rfl⟩ : ∃ D : Nat, a = D := ⟨a.toNat, by omega⟩
    have hD8 : D < 256 := by omega
    have b8 := bc_8 D hD8
    rw [bc_x hD8] at q1 q2 ⊢
    rw [z_1, iz_lt (by omega)] at q1
    rw [z_4, iz_lt (by omega)] at q2
    have hD1 : 1 ≤ D := by
      rcases Nat.eq_zero_or_pos D with y | y
      · have := b8.2 y; omega
      · exact y
    have n1 : 0 < n := by
      rcases Nat.eq_zero_or_pos n with y | y
      · subst y; have : (2 : Nat) ^ 0 = 1 := rfl; omega
      · exact y
    obtain ⟨hW, hX⟩ := I_has hI (by omega)
    have c7 : T.1 571 7 = 1 := by
      rcases hI.2.2.2.1.2.2 with ⟨_, g2, _⟩ | ⟨g1, _⟩
      · rw [g2 16 (by omega)] at h575
        have h0 := (eq0 (a := (n : Int)) (by omega)).1 h575.symm
        omega
      · exact g1
    have hW' : WF (upB (nB T) 202 D) := WF_ext (fun j hj => upB_n (by omega)) hW (by rw [upB_s, upB_n (by omega), hn, Int.toNat_natCast, Int.toNat_natCast]; omega) (by rw [upB_n (by omega), upB_n (by omega)]; exact hW.2.2.2.2.2.2.2)
    have hX1 : BkX (sF T (T.2.1 0) 17 (iz D)) (T.2.1 0) (upB (nB T) 202 D) := BkX_cp hW hX (fun j hj => upB_n (by omega)) (fun _ _ _ _ _ => rfl) (fun k hk => by rw [gF_F, if_neg (by omega)]) (by rw [gF_F, if_pos ⟨rfl, rfl⟩, upB_s]) (by rw [gF_F, if_neg (by omega), upB_n (by omega)]; exact hX.2.2.2.2.2)
    obtain ⟨ok, hK, k14, k16⟩ := s_changed (T := sF T (T.2.1 0) 17 (iz D)) (B := upB (nB T) 202 D) h46 hX1 hW'
    have fr1 : Fr _ (sF T (T.2.1 0) 17 (iz D)) _ := fr_x_changed ok
    have fr0 : Fr _ T (sF T (T.2.1 0) 17 (iz D)) := fr_1
    have fr2 := fr_ww fr0 fr1
    have hX2 : BkX (x_x_changed (sF T (T.2.1 0) 17 (iz D))) (T.2.1 0) (upB (nB T) 202 D) := BkX_fr fr1 (fun c hc hw => by unfold W_x_changed at hw; omega) hX1
    refine ⟨ok, ?_⟩
    show wp_m_dinner (x_x_changed (sF T (T.2.1 0) 17 (iz D))) (iz D) (fun q => iz (bc8 D) = q.1 ∧ Inv q.2)
    generalize x_x_changed (sF T (T.2.1 0) 17 (iz D)) = U at *
    have u575 : ∀ j, U.2.2.1 575 j = T.2.2.1 575 j := fun j => q_A fr2 (by unfold W_x_changed; omega)
    obtain ⟨ob, eb⟩ := s_bits (T := sF U 571 0 0) (D := D) hD8
    obtain ⟨ob2, eb2⟩ := s_bits (T := x_m_forget (sA (sF U 571 0 0) 575 (202 : Int32).toNatClampNeg (iz D))) (D := D) hD8
    unfold wp_m_dinner
    rw [hin (sF U 571 0 0) (by rw [gF_A, u575]; exact h575), eb, eb2, z_4, iz_le (by omega)]
    refine ⟨fun y => absurd (by omega) y, fun _ => ⟨ob, fun _ => ⟨ob2, rfl, ?_⟩, fun y => absurd (by omega) y⟩⟩
    show Inv (sF (sF (sA (sF U 571 0 0) 575 202 (iz D)) 571 34 (-1000000)) 571 32 0)
    have frV : Fr _ T (sF (sF (sA (sF U 571 0 0) 575 202 (iz D)) 571 34 (-1000000)) 571 32 0) := fr_ww (fr_ww (fr_ww (fr_ww fr2 fr_1) fr_1A) fr_1) fr_1
    have frU : Fr _ U (sF (sF (sA (sF U 571 0 0) 575 202 (iz D)) 571 34 (-1000000)) 571 32 0) := fr_ww (fr_ww (fr_ww fr_1 fr_1A) fr_1) fr_1
    have eR : ∀ j, j < 2 → (sF (sF (sA (sF U 571 0 0) 575 202 (iz D)) 571 34 (-1000000)) 571 32 0).2.1 j = T.2.1 j := fun j hj => by show U.2.1 j = _; rw [q_R fr2 (by unfold W_x_changed; omega)]
    refine Inv_new (B := upB (nB T) 202 D) hI frV (fun c hc hw => by unfold W_x_changed at hc; omega) (iTp_fr frV (fun c hc hw => by unfold W_x_changed at hw; omega) hI.2.1) ?_ ?_ ?_ (fun j hj => ?_) hW' ?_ ?_ ?_ ?_ ?_
    · rw [eR 0 (by omega), eR 1 (by omega)]; exact hI.2.2.2.1.1
    · rw [gF_F, if_pos ⟨rfl, rfl⟩]
    · rw [gF_F, if_neg (by omega), gF_F, if_neg (by omega), gA_F, gF_F, if_neg (by omega), q_F fr2 (by unfold W_x_changed; omega)]; exact c7
    · show (if 575 = 575 ∧ j = 202 then iz (D : Int) else U.2.2.1 575 j).toInt = _
      by_cases e : j = 202
      · rw [if_pos ⟨rfl, e⟩, e, upB_s, iz_t (by omega)]
      · rw [if_neg (by omega), u575, upB_n e]; rfl
    · rw [eR 0 (by omega)]; exact BkX_fr frU (fun c hc hw => by omega) hX2
    · exact KitX_fr frU (by omega) hK
    · rw [q_F frU (by omega)]; exact k14
    · rw [q_F frU (by omega)]; exact k16
    · rw [gF_F, if_neg (by omega), gF_F, if_pos ⟨rfl, rfl⟩]
  · obtain ⟨D, rfl⟩ : ∃ D : Nat, a = D := ⟨a.toNat, by omega⟩
    refine q3 ?_
    have : x_bk_allDishes T (T.2.1 0) = ((1 : Int32) <<< (iz (n : Int) &&& 31)) - 1 := by
      show (1 : Int32) <<< ((T.1 (T.2.1 0) 4) &&& 31) - 1 = _
      rw [h4, hn]
    rw [this]
    exact al_2 n hn9 D (by omega) (by omega)
theorem i_out : P_out Inv := pw_out fun T hI p0 => by
  obtain ⟨a, ha, rfl⟩ := iz_ex p0
  obtain ⟨h46, hM, _, _, _, _⟩ := I_cnt hI
  obtain ⟨hb, hb2⟩ := b_46 h46
  have tt := Inv_t 0 hI
  have m1 : T.2.2.1 575 1 = iz (nB T 1) := hM 1 (by omega)
  have go : ∀ r : Int32, (¬ (0 ≤ a ∧ a ≤ 60) → r = -1000001) → ((0 ≤ a ∧ a ≤ 60) → (T.1 571 7 = 0 ∨ iz (nB T 1) = 0) → r = -1000002) → (¬ (0 ≤ a ∧ a ≤ 60) ∨ T.1 571 7 = 0 ∨ iz (nB T 1) = 0) → wp_m_out T (iz a) (fun q => r = q.1 ∧ Inv q.2) := by
    intro r g1 g2 g3
    unfold wp_m_out
    rw [lz_w ha, y_0, y_60, m_in (by omega), show (sF T 571 0 0).1 571 7 = T.1 571 7 from rfl, n_1, show (sF T 571 0 0).2.2.1 575 1 = T.2.2.1 575 1 from rfl, m1]
    refine ⟨fun q => ⟨g1 q, tt⟩, fun q => ⟨fun q2 => ⟨g2 (by omega) (Or.inl q2), tt⟩, fun q2 => ⟨fun q3 => ⟨g2 (by omega) (Or.inr q3), tt⟩, fun q3 => ?_⟩⟩⟩
    rcases g3 with y | y | y
    · exact absurd y q
    · exact absurd y q2
    · exact absurd y q3
  unfold wp_x_out
  rw [lt0 (by omega), z_60, iz_le (by omega), x_read hI]
  refine ⟨fun q => go _ (fun _ => rfl) (fun y => by omega) (Or.inl (by omega)), fun q => ⟨fun q1 => ⟨⟨hb, trivial⟩, hb, fun q2 => go _ (fun y => absurd (by omega) y) (fun _ _ => rfl) (Or.inr (Or.inl q2)), fun q2 => ?_⟩, fun q1 => go _ (fun _ => rfl) (fun y => by omega) (Or.inl (by omega))⟩⟩
  obtain ⟨hW, hX, _, _, _⟩ := I_there hI q2
  have w0 := hW.1
  rw [n_1, hX.1 1 (by omega)]
  refine ⟨fun q3 => go _ (fun y => absurd (by omega) y) (fun _ _ => rfl) (Or.inr (Or.inr q3)), fun q3 => ?_⟩
  have b1 : ¬ nB T 1 = 0 := fun y => q3 (by rw [y]; rfl)
  have c7 : T.1 571 7 = 1 := by
    rcases hI.2.2.2.1.2.2 with ⟨g1, _⟩ | ⟨g1, _⟩
    · exact absurd g1 q2
    · exact g1
  have hW' : WF (upB (nB T) 203 a) := WF_ext (fun j hj => upB_n (by omega)) hW (by rw [upB_n (by omega), upB_n (by omega)]; exact hW.2.2.2.2.2.2.1) (by rw [upB_s, upB_n (by omega)]; omega)
  have hX1 : BkX (sF T (T.2.1 0) 18 (iz a)) (T.2.1 0) (upB (nB T) 203 a) := BkX_cp hW hX (fun j hj => upB_n (by omega)) (fun _ _ _ _ _ => rfl) (fun k hk => by rw [gF_F, if_neg (by omega)]) (by rw [gF_F, if_neg (by omega), upB_n (by omega)]; exact hX.2.2.2.2.1) (by rw [gF_F, if_pos ⟨rfl, rfl⟩, upB_s])
  obtain ⟨ok, hK, k14, k16⟩ := s_changed (T := sF T (T.2.1 0) 18 (iz a)) (B := upB (nB T) 203 a) h46 hX1 hW'
  have fr1 : Fr _ (sF T (T.2.1 0) 18 (iz a)) _ := fr_x_changed ok
  have fr0 : Fr _ T (sF T (T.2.1 0) 18 (iz a)) := fr_1
  have fr2 := fr_ww fr0 fr1
  have hX2 : BkX (x_x_changed (sF T (T.2.1 0) 18 (iz a))) (T.2.1 0) (upB (nB T) 203 a) := BkX_fr fr1 (fun c hc hw => by unfold W_x_changed at hw; omega) hX1
  refine ⟨ok, ?_⟩
  show wp_m_out (x_x_changed (sF T (T.2.1 0) 18 (iz a))) (iz a) (fun q => 1 = q.1 ∧ Inv q.2)
  generalize x_x_changed (sF T (T.2.1 0) 18 (iz a)) = U at *
  have u575 : ∀ j, U.2.2.1 575 j = T.2.2.1 575 j := fun j => q_A fr2 (by unfold W_x_changed; omega)
  have u7 : U.1 571 7 = T.1 571 7 := q_F fr2 (by unfold W_x_changed; omega)
  unfold wp_m_out
  rw [lz_w ha, y_0, y_60, m_in (by omega), show (sF U 571 0 0).1 571 7 = U.1 571 7 from rfl, u7, n_1, show (sF U 571 0 0).2.2.1 575 1 = U.2.2.1 575 1 from rfl, u575, m1]
  refine ⟨fun y => absurd (by omega) y, fun _ => ⟨fun y => absurd y q2, fun _ => ⟨fun y => absurd y q3, fun _ => ⟨rfl, ?_⟩⟩⟩⟩
  show Inv (sF (sF (sA (sF U 571 0 0) 575 203 (iz a)) 571 34 (-1000000)) 571 32 0)
  have frV : Fr _ T (sF (sF (sA (sF U 571 0 0) 575 203 (iz a)) 571 34 (-1000000)) 571 32 0) := fr_ww (fr_ww (fr_ww (fr_ww fr2 fr_1) fr_1A) fr_1) fr_1
  have frU : Fr _ U (sF (sF (sA (sF U 571 0 0) 575 203 (iz a)) 571 34 (-1000000)) 571 32 0) := fr_ww (fr_ww (fr_ww fr_1 fr_1A) fr_1) fr_1
  have eR : ∀ j, j < 2 → (sF (sF (sA (sF U 571 0 0) 575 203 (iz a)) 571 34 (-1000000)) 571 32 0).2.1 j = T.2.1 j := fun j hj => by show U.2.1 j = _; rw [q_R fr2 (by unfold W_x_changed; omega)]
  refine Inv_new (B := upB (nB T) 203 a) hI frV (fun c hc hw => by unfold W_x_changed at hc; omega) (iTp_fr frV (fun c hc hw => by unfold W_x_changed at hw; omega) hI.2.1) ?_ ?_ ?_ (fun j hj => ?_) hW' ?_ ?_ ?_ ?_ ?_
  · rw [eR 0 (by omega), eR 1 (by omega)]; exact hI.2.2.2.1.1
  · rw [gF_F, if_pos ⟨rfl, rfl⟩]
  · rw [gF_F, if_neg (by omega), gF_F, if_neg (by omega), gA_F, gF_F, if_neg (by omega), u7]; exact c7
  · show (if 575 = 575 ∧ j = 203 then iz a else U.2.2.1 575 j).toInt = _
    by_cases e : j = 203
    · rw [if_pos ⟨rfl, e⟩, e, upB_s, iz_t (by omega)]
    · rw [if_neg (by omega), u575, upB_n e]; rfl
  · rw [eR 0 (by omega)]; exact BkX_fr frU (fun c hc hw => by omega) hX2
  · exact KitX_fr frU (by omega) hK
  · rw [q_F frU (by omega)]; exact k14
  · rw [q_F frU (by omega)]; exact k16
  · rw [gF_F, if_neg (by omega), gF_F, if_pos ⟨rfl, rfl⟩]
