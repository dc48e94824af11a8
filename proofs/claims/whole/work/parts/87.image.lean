/-! ===== the pairs image and restore ===== -/
-- what is kept was read: a book is there
def Inv2 (T : St) : Prop := Inv T ∧ ∀ k : Nat, k < 2 → T.2.2.1 599 k = 1 → T.1 571 7 = 1
theorem sh_im {k : Nat} (h : k < 2) : sh (16 + 15 * k) = .inr 1 := by
  rcases (show k = 0 ∨ k = 1 by omega) with rfl | rfl <;> decide
theorem nar1 : vp_nar .boolean 1 = 1 := by decide
theorem i_image : P_image Inv2 := pw_image fun T hI2 p0 => by
  obtain ⟨hI, hk⟩ := hI2
  obtain ⟨a, ha, rfl⟩ := iz_ex p0
  obtain ⟨o0, r0, _⟩ := x_ref hI 0
  obtain ⟨o1, _, r1, r2⟩ := x_ref hI 1
  have tt : Inv2 (sF T 571 0 0) := ⟨Inv_t 0 hI, hk⟩
  have mb : ¬ (0 ≤ a ∧ a ≤ 1) → wp_m_image T (iz a) (fun q => (-1000001) = q.1 ∧ Inv2 q.2) := fun hb => by
    unfold wp_m_image
    rw [lz_w ha, y_0, y_1, m_in (by omega)]
    exact ⟨fun _ => ⟨rfl, tt⟩, fun q => absurd hb q⟩
  have no : ¬ (0 ≤ a ∧ a ≤ 1) → ∀ P : Prop, ok_x_refusal T 0 ∧ ((x_x_refusal T 0 = 0 → P) ∧ (¬ x_x_refusal T 0 = 0 → wp_m_image T (iz a) (fun q => x_x_refusal T 0 = q.1 ∧ Inv2 q.2))) := fun q P => ⟨o0, fun z => absurd z (by rw [r0 rfl]; decide), fun _ => by rw [r0 rfl]; exact mb q⟩
  unfold wp_x_image
  refine jo ?_
  try dsimp only
  rw [lt0 (by omega), z_2, iz_le (by omega)]
  refine ⟨fun q => no (by omega) _, fun q => ⟨fun q2 => no (by omega) _, fun q2 => ⟨o1, fun z => ?_, fun z => ?_⟩⟩⟩
  · have h7 : ¬ T.1 571 7 = 0 := fun y => by rw [r1 (by decide) y] at z; exact absurd z (by decide)
    obtain ⟨hW, hX, _, _, h46⟩ := I_there hI h7
    obtain ⟨hb, hb2⟩ := b_46 h46
    have c7 : T.1 571 7 = 1 := by
      rcases hI.2.2.2.1.2.2 with ⟨g1, _⟩ | ⟨g1, _⟩
      · exact absurd g1 h7
      · exact g1
    obtain ⟨k, rfl⟩ : ∃ k : Nat, a = k := ⟨a.toNat, by omega⟩
    rw [ix_nat (by omega)]
    obtain ⟨ok, t1, t2⟩ := s_take (T := T) (a := 16 + 15 * k) (p := T.2.1 0) (sh_im (by omega)) hb (by omega)
    have fr1 : Fr _ T _ := fr_bk_take _ _ ok
    refine ⟨in_nat (by omega) (by omega), ok, ?_⟩
    show wp_m_image (x_bk_take T (16 + 15 * k) (T.2.1 0)) (iz k) (fun q => 1 = q.1 ∧ Inv2 q.2)
    generalize x_bk_take T (16 + 15 * k) (T.2.1 0) = U at *
    have u7 : U.1 571 7 = T.1 571 7 := q_F fr1 (by unfold W_bk_take; omega)
    have u575 : ∀ j, U.2.2.1 575 j = T.2.2.1 575 j := fun j => q_A fr1 (by unfold W_bk_take; omega)
    unfold wp_m_image
    rw [lz_w (by omega), y_0, y_1, m_in (by omega), show (sF U 571 0 0).1 571 7 = U.1 571 7 from rfl, u7]
    refine ⟨fun y => absurd (by omega) y, fun _ => ⟨fun y => absurd y h7, fun _ => ?_⟩⟩
    refine wr_m_image_30 (iz k) (fun v V => ∃ i : Nat, i ≤ 204 ∧ v = iz i ∧ Fr (fun c => W_bk_take T (16 + 15 * k) (T.2.1 0) c ∨ c = 600 ∨ c = 67100) T V ∧ (∀ y z, y ≠ 600 → V.2.2.1 y z = U.2.2.1 y z) ∧ (∀ y z, y < 571 → V.1 y z = U.1 y z) ∧ ∀ j, V.2.2.1 600 j = if 204 * k ≤ j ∧ j < 204 * k + i then T.2.2.1 575 (j - 204 * k) else T.2.2.1 600 j) (fun v V => 204 - v.toInt.toNat) ?_ _ _ _ ?_ ?_
    · rintro _ V ⟨i, g1, rfl, v1, v2, v3, v4⟩
      unfold bd_m_image_30
      rw [z_204, iz_le (by omega)]
      refine ⟨fun c => ⟨in_nat (by omega) (by omega), ?_⟩, fun c => ?_⟩
      · have ei : i = 204 := by omega
        subst ei
        rw [ix_nat (by omega), nar1]
        refine ⟨rfl, ?_⟩
        show Inv2 (sA V 599 k 1)
        have frZ : Fr _ T (sA V 599 k 1) := fr_ww v1 fr_1A
        have z7 : (sA V 599 k 1).1 571 7 = T.1 571 7 := q_F frZ (by unfold W_bk_take; omega)
        refine ⟨⟨iSh_fr frZ (fun c hc hw => by unfold W_bk_take at hw; omega) hI.1, iTp_fr frZ (fun c hc hw => by unfold W_bk_take at hw; omega) hI.2.1, iTr_fr frZ (fun c hc hw => by unfold W_bk_take at hw; omega) hI.2.2.1, iBk_fr frZ (fun c hc hw => by unfold W_bk_take at hw; omega) hI.2.2.2.1, fun k' hk' => ?_⟩, fun k' _ _ => by rw [z7]; exact c7⟩
        by_cases e : k' = k
        · subst e
          have ek : ∀ j, j < 204 → kB (sA V 599 k' 1) k' j = nB T j := fun j hj => by
            unfold kB nB
            rw [gA_A, if_neg (by omega), v4, if_pos (by omega), Nat.add_sub_cancel_left]
          have hW' : WF (kB (sA V 599 k' 1) k') := WF_ext (fun j hj => ek j (by omega)) hW (by rw [ek 202 (by omega), ek 16 (by omega)]; exact hW.2.2.2.2.2.2.1) (by rw [ek 203 (by omega), ek 1 (by omega)]; exact hW.2.2.2.2.2.2.2)
          refine Or.inr ⟨by rw [gA_A, if_pos ⟨rfl, rfl⟩], hW', BkX_cp hW hX (fun j hj => ek j (by omega)) (fun i h1 h2 j hj => ?_) (fun y hy => ?_) ?_ ?_⟩
          · rw [gA_A, if_neg (by omega), v2 _ _ (by omega)]; exact t1 i h1 h2 j hj
          · rw [gA_F, v3 _ _ (by omega)]; exact t2 y (by omega)
          · rw [gA_F, v3 _ _ (by omega), t2 17 (by omega), ek 202 (by omega)]; exact hX.2.2.2.2.1
          · rw [gA_F, v3 _ _ (by omega), t2 18 (by omega), ek 203 (by omega)]; exact hX.2.2.2.2.2
        · have ek : ∀ j, j < 204 → kB (sA V 599 k 1) k' j = kB T k' j := fun j hj => by
            unfold kB
            rw [gA_A, if_neg (by omega), v4, if_neg (by omega)]
          have e599 : (sA V 599 k 1).2.2.1 599 k' = T.2.2.1 599 k' := by rw [gA_A, if_neg (by omega), q_A v1 (by unfold W_bk_take; omega)]
          have ef : ∀ y, y < 100 → (sA V 599 k 1).1 (16 + 15 * k') y = T.1 (16 + 15 * k') y := fun y hy => by
            rw [gA_F, v3 _ _ (by omega)]
            exact fr1.1 _ _ (by unfold W_bk_take; omega)
          rw [e599]
          rcases hI.2.2.2.2 k' hk' with ⟨g1, g2⟩ | ⟨g1, g2, g3⟩
          · exact Or.inl ⟨g1, by rw [ef 4 (by omega)]; exact g2⟩
          · refine Or.inr ⟨g1, WF_ext (fun j hj => ek j (by omega)) g2 (by rw [ek 202 (by omega), ek 16 (by omega)]; exact g2.2.2.2.2.2.2.1) (by rw [ek 203 (by omega), ek 1 (by omega)]; exact g2.2.2.2.2.2.2.2), BkX_cp g2 g3 (fun j hj => ek j (by omega)) (fun i h1 h2 j hj => ?_) (fun y hy => ef y (by omega)) ?_ ?_⟩
            · exact q_A frZ (by unfold W_bk_take; omega)
            · rw [ef 17 (by omega), ek 202 (by omega)]; exact g3.2.2.2.2.1
            · rw [ef 18 (by omega), ek 203 (by omega)]; exact g3.2.2.2.2.2
      · have nx : iz (i : Int) + 1 = iz ((i + 1 : Nat) : Int) := by rw [z_1, iz_add]; exact iz_inj (by omega)
        have ix : (iz 204 * iz (k : Int) + iz (i : Int)) = iz ((204 * k + i : Nat) : Int) := by rw [iz_mul, iz_add]; exact iz_inj (by omega)
        rw [nx, ix, ix_nat (by omega), ix_nat (by omega)]
        refine ⟨in_nat (by omega) (by omega), in_nat (by omega) (by omega), ⟨i + 1, by omega, rfl, fr_tr v1 fr_1A (fun c hc => by omega), fun y z hy => ?_, fun y z hy => v3 y z hy, fun j => ?_⟩, ?_⟩
        · rw [gA_A, if_neg (by omega)]; exact v2 y z hy
        · rw [gA_A]
          by_cases e : j = 204 * k + i
          · rw [if_pos ⟨rfl, e⟩, if_pos (by omega), v2 _ _ (by omega), u575, e, Nat.add_sub_cancel_left]
          · rw [if_neg (by omega), v4]
            by_cases e2 : 204 * k ≤ j ∧ j < 204 * k + i
            · rw [if_pos e2, if_pos (by omega)]
            · rw [if_neg e2, if_neg (by omega)]
        · rw [iz_t (by omega), iz_t (by omega)]; omega
    · show 204 - (0 : Int32).toInt.toNat < 1000
      omega
    · refine ⟨0, by omega, rfl, ?_, fun _ _ _ => rfl, fun y z hy => by rw [gF_F, if_neg (by omega)], fun j => ?_⟩
      · exact fr_le (fr_ww fr1 fr_1) (fun c hc => hc.elim (fun h => Or.inl h) (fun h => Or.inr (Or.inr h)))
      · rw [if_neg (by omega), gF_A]; exact q_A fr1 (by unfold W_bk_take; omega)
  · have h7 : T.1 571 7 = 0 := Classical.byContradiction fun y => z (r2 (by decide) y)
    rw [r1 (by decide) h7]
    unfold wp_m_image
    rw [lz_w ha, y_0, y_1, m_in (by omega), show (sF T 571 0 0).1 571 7 = T.1 571 7 from rfl]
    exact ⟨fun y => absurd (by omega) y, fun _ => ⟨fun _ => ⟨rfl, tt⟩, fun y => absurd h7 y⟩⟩
theorem i_restore : P_restore Inv2 := pw_restore fun T hI2 p0 => by
  obtain ⟨hI, hk⟩ := hI2
  obtain ⟨a, ha, rfl⟩ := iz_ex p0
  have tt : Inv2 (sF T 571 0 0) := ⟨Inv_t 0 hI, hk⟩
  have mb : ¬ (0 ≤ a ∧ a ≤ 1) → wp_m_restore T (iz a) (fun q => (-1000001) = q.1 ∧ Inv2 q.2) := fun hb => by
    unfold wp_m_restore
    rw [lz_w ha, y_0, y_1, m_in (by omega)]
    exact ⟨fun _ => ⟨rfl, tt⟩, fun q => absurd hb q⟩
  unfold wp_x_restore
  rw [lt0 (by omega), z_2, iz_lt (by omega)]
  refine ⟨fun q => mb (by omega), fun q => ⟨fun q2 => ?_, fun q2 => mb (by omega)⟩⟩
  obtain ⟨k, rfl⟩ : ∃ k : Nat, a = k := ⟨a.toNat, by omega⟩
  rw [ix_nat (by omega)]
  have hs := sh_im (k := k) (by omega)
  have hbr : (x_bk_isRead T (16 + 15 * k) = 0) ↔ T.2.2.1 599 k = 0 := by
    unfold x_bk_isRead
    rcases hI.2.2.2.2 k (by omega) with ⟨g1, g2⟩ | ⟨g1, g2, g3⟩
    · rw [g2, g1]; exact ⟨fun _ => rfl, fun _ => rfl⟩
    · have h8 := g2.2.2.1
      rw [g3.2.2.1.1, g1, if_neg (fun y => by have := (ge0 (by omega)).1 y; omega)]
  rw [hbr]
  refine ⟨in_nat (by omega) (by omega), ⟨hs, trivial⟩, fun q3 => ?_, fun q3 => ?_⟩
  · show wp_m_restore T (iz k) (fun q => (-1000002) = q.1 ∧ Inv2 q.2)
    unfold wp_m_restore
    rw [lz_w ha, y_0, y_1, m_in (by omega), ix_nat (by omega), show (sF T 571 0 0).2.2.1 599 k = T.2.2.1 599 k from rfl]
    exact ⟨fun y => absurd (by omega) y, fun _ => ⟨in_nat (by omega) (by omega), fun _ => ⟨rfl, tt⟩, fun y => absurd q3 y⟩⟩
  · obtain ⟨h46, hM, _, _, _, _⟩ := I_cnt hI
    obtain ⟨hb, hb2⟩ := b_46 h46
    obtain ⟨g1, hW, hX⟩ : T.2.2.1 599 k = 1 ∧ WF (kB T k) ∧ BkX T (16 + 15 * k) (kB T k) := by
      rcases hI.2.2.2.2 k (by omega) with ⟨g1, g2⟩ | g
      · exact absurd g1 q3
      · exact g
    have c7 : T.1 571 7 = 1 := hk k (by omega) g1
    obtain ⟨ok, t1, t2⟩ := s_take (T := T) (a := T.2.1 0) (p := 16 + 15 * k) hb hs (by omega)
    have fr1 : Fr _ T _ := fr_bk_take _ _ ok
    have hX1 : BkX (x_bk_take T (T.2.1 0) (16 + 15 * k)) (T.2.1 0) (kB T k) := BkX_cp hW hX (fun j _ => rfl) t1 (fun y hy => t2 y (by omega)) (by rw [t2 17 (by omega)]; exact hX.2.2.2.2.1) (by rw [t2 18 (by omega)]; exact hX.2.2.2.2.2)
    have e01 : (x_bk_take T (T.2.1 0) (16 + 15 * k)).2.1 0 = T.2.1 0 := q_R fr1 (by unfold W_bk_take; omega)
    refine ⟨ok, hb, ?_⟩
    generalize x_bk_take T (T.2.1 0) (16 + 15 * k) = S at *
    obtain ⟨ok2, hK, k14, k16⟩ := s_changed (T := S) (B := kB T k) (by rw [e01]; exact h46) (by rw [e01]; exact hX1) hW
    have fr3 : Fr _ S _ := fr_x_changed ok2
    have fr2 := fr_ww fr1 fr3
    have hX2 : BkX (x_x_changed S) (T.2.1 0) (kB T k) := BkX_fr fr3 (fun c hc hw => by unfold W_x_changed at hw; omega) hX1
    refine ⟨ok2, ?_⟩
    show wp_m_restore (x_x_changed S) (iz k) (fun q => 1 = q.1 ∧ Inv2 q.2)
    generalize x_x_changed S = U at *
    have u600 : ∀ j, U.2.2.1 600 j = T.2.2.1 600 j := fun j => q_A fr2 (by unfold W_x_changed W_bk_take; omega)
    have u599 : ∀ j, U.2.2.1 599 j = T.2.2.1 599 j := fun j => q_A fr2 (by unfold W_x_changed W_bk_take; omega)
    have uR : ∀ j, j < 2 → U.2.1 j = T.2.1 j := fun j hj => q_R fr2 (by unfold W_x_changed W_bk_take; omega)
    unfold wp_m_restore
    rw [lz_w ha, y_0, y_1, m_in (by omega), ix_nat (by omega), show (sF U 571 0 0).2.2.1 599 k = U.2.2.1 599 k from rfl, u599]
    refine ⟨fun y => absurd (by omega) y, fun _ => ⟨in_nat (by omega) (by omega), fun y => absurd y q3, fun _ => ?_⟩⟩
    refine wr_m_restore_32 (iz k) (fun v V => ∃ i : Nat, i ≤ 204 ∧ v = iz i ∧ Fr (fun c => c = 575 ∨ c = 67100) U V ∧ ∀ j, j < i → V.2.2.1 575 j = T.2.2.1 600 (204 * k + j)) (fun v V => 204 - v.toInt.toNat) ?_ _ _ _ ?_ ?_
    · rintro _ V ⟨i, i1, rfl, v1, v2⟩
      unfold bd_m_restore_32
      rw [z_204, iz_le (by omega)]
      refine ⟨fun c => ⟨rfl, ?_⟩, fun c => ?_⟩
      · have ei : i = 204 := by omega
        subst ei
        show Inv2 (sF (sF V 571 34 (-1000000)) 571 32 0)
        have frU : Fr _ U (sF (sF V 571 34 (-1000000)) 571 32 0) := fr_ww (fr_ww v1 fr_1) fr_1
        have frV := fr_ww fr2 frU
        have eR : ∀ j, j < 2 → (sF (sF V 571 34 (-1000000)) 571 32 0).2.1 j = T.2.1 j := fun j hj => by rw [q_R frU (by omega), uR j hj]
        have z7 : (sF (sF V 571 34 (-1000000)) 571 32 0).1 571 7 = 1 := by rw [q_F frV (by unfold W_x_changed W_bk_take; omega)]; exact c7
        refine ⟨Inv_new (B := kB T k) hI frV (fun c hc hw => by unfold W_x_changed W_bk_take at hc; omega) (iTp_fr frV (fun c hc hw => by unfold W_x_changed W_bk_take at hw; omega) hI.2.1) ?_ ?_ z7 (fun j hj => ?_) hW ?_ ?_ ?_ ?_ ?_, fun _ _ _ => z7⟩
        · rw [eR 0 (by omega), eR 1 (by omega)]; exact hI.2.2.2.1.1
        · rw [gF_F, if_pos ⟨rfl, rfl⟩]
        · show (V.2.2.1 575 j).toInt = (T.2.2.1 600 (204 * k + j)).toInt
          rw [v2 j hj]
        · rw [eR 0 (by omega)]; exact BkX_fr frU (fun c hc hw => by omega) hX2
        · exact KitX_fr frU (by omega) hK
        · rw [q_F frU (by omega)]; exact k14
        · rw [q_F frU (by omega)]; exact k16
        · rw [gF_F, if_neg (by omega), gF_F, if_pos ⟨rfl, rfl⟩]
      · have nx : iz (i : Int) + 1 = iz ((i + 1 : Nat) : Int) := by rw [z_1, iz_add]; exact iz_inj (by omega)
        have ix : (iz 204 * iz (k : Int) + iz (i : Int)) = iz ((204 * k + i : Nat) : Int) := by rw [iz_mul, iz_add]; exact iz_inj (by omega)
        rw [nx, ix, ix_nat (by omega), ix_nat (by omega)]
        refine ⟨in_nat (by omega) (by omega), in_nat (by omega) (by omega), ⟨i + 1, by omega, rfl, fr_tr v1 fr_1A (fun c hc => by omega), fun j hj => ?_⟩, ?_⟩
        · rw [gA_A]
          by_cases e : j = i
          · rw [if_pos ⟨rfl, e⟩, q_A v1 (by omega), u600, e]
          · rw [if_neg (by omega)]; exact v2 j (by omega)
        · rw [iz_t (by omega), iz_t (by omega)]; omega
    · show 204 - (0 : Int32).toInt.toNat < 1000
      omega
    · exact ⟨0, by omega, rfl, fr_le fr_1 (fun c hc => by omega), fun j hj => absurd hj (Nat.not_lt_zero _)⟩
