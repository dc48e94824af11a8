/-! ===== know; the pairs least and begins ===== -/
theorem s_know {T : St} {B : Nat → Int} {t : Nat} (hM : MkX T B) (hW : WF B) (m0 : T.1 571 32 = 0) (ht : 1 ≤ t ∧ t ≤ 60) (hx : cM T B) : ok_m_know T (iz t) ∧ KnQ B t (x_m_know T (iz t)) := by
  obtain ⟨D, d1, d2, d3, d4⟩ := WF_D hW
  obtain ⟨w1, w2, w3⟩ := WF_h hW
  have sk0 : SK0 B t = SK B t (B 5) (B 203) (fun _ _ => True) D false := by unfold SK0; rw [d2]
  refine so_m_know (Q := KnQ B t) _ ?_
  unfold wp_m_know
  refine jo ?_
  try dsimp only
  refine ⟨fun q => kn_fin hM hW m0 ht hx q, fun q => ?_⟩
  rw [sF_id m0, n_5, show (202 : Int32).toNatClampNeg = 202 from rfl, show (203 : Int32).toNatClampNeg = 203 from rfl, hM 202 (by omega), hM 203 (by omega), hM 5 (by omega), d1]
  have sk : ok_m_seek T (iz D) (iz t) (iz (B 5)) (iz (B 203)) 0 0 ∧ SkF (x_m_seek T (iz D) (iz t) (iz (B 5)) (iz (B 203)) 0 0).2 B D t (SK B t (B 5) (B 203) (fun _ _ => True) D false) (x_m_seek T (iz D) (iz t) (iz (B 5)) (iz (B 203)) 0 0).1 := s_seek (any := false) (ne := false) (μ := 0) hM hW d3 d4 (by omega) (by omega) w2 (by omega) m0 (fun d c hm hc h0 => ⟨fun z => ⟨fun y => (by cases y), gk_0 hW (mem_lt hW d3 d hm) hc (by omega) h0⟩, fun z => trivial⟩)
  have fs : Fr _ T _ := fr_m_seek _ _ _ _ _ _ sk.1
  have hM2 : MkX (x_m_seek T (iz D) (iz t) (iz (B 5)) (iz (B 203)) 0 0).2 B := MkX_fr fs (by unfold W_m_seek; omega) hM
  have m2 : (x_m_seek T (iz D) (iz t) (iz (B 5)) (iz (B 203)) 0 0).2.1 571 32 = 0 := by rw [q_F fs (by unfold W_m_seek; omega)]; exact m0
  refine ⟨sk.1, jo ⟨SkF01 sk.2, jo ?_⟩⟩
  obtain ⟨_, sk⟩ := sk
  try dsimp only
  generalize (x_m_seek T (iz D) (iz t) (iz (B 5)) (iz (B 203)) 0 0).1 = v at *
  generalize (x_m_seek T (iz D) (iz t) (iz (B 5)) (iz (B 203)) 0 0).2 = V at *
  have e31 : (sF (sF V 571 35 v) 571 34 (iz t)).1 571 31 = V.1 571 31 := by rw [gF_F, if_neg (by omega), gF_F, if_neg (by omega)]
  rw [e31]
  have sA1 : (sF (sF (sF V 571 35 v) 571 34 (iz t)) 571 36 (V.1 571 31)).2.2.1 = V.2.2.1 := rfl
  have s32 : (sF (sF (sF V 571 35 v) 571 34 (iz t)) 571 36 (V.1 571 31)).1 571 32 = 0 := by rw [gF_F, if_neg (by omega), gF_F, if_neg (by omega), gF_F, if_neg (by omega)]; exact m2
  have s34 : (sF (sF (sF V 571 35 v) 571 34 (iz t)) 571 36 (V.1 571 31)).1 571 34 = iz t := by rw [gF_F, if_neg (by omega), gF_F, if_pos ⟨rfl, rfl⟩]
  have s35 : (sF (sF (sF V 571 35 v) 571 34 (iz t)) 571 36 (V.1 571 31)).1 571 35 = v := by rw [gF_F, if_neg (by omega), gF_F, if_neg (by omega), gF_F, if_pos ⟨rfl, rfl⟩]
  have s36 : (sF (sF (sF V 571 35 v) 571 34 (iz t)) 571 36 (V.1 571 31)).1 571 36 = V.1 571 31 := by rw [gF_F, if_pos ⟨rfl, rfl⟩]
  generalize sF (sF (sF V 571 35 v) 571 34 (iz t)) 571 36 (V.1 571 31) = S at *
  refine wr_m_know_61 _ (fun x U => ∃ i : Nat, i ≤ 4 ∧ x = iz i ∧ U.1 = S.1 ∧ (∀ y z, y ≠ 592 → U.2.2.1 y z = S.2.2.1 y z) ∧ ∀ j, j < i → U.2.2.1 592 j = S.2.2.1 589 j) (fun x U => 4 - x.toInt.toNat) ?_ _ _ _ ?_ ?_
  · rintro _ U ⟨i, g1, rfl, u1, u2, u3⟩
    have nx : iz (i : Int) + 1 = iz ((i + 1 : Nat) : Int) := by rw [z_1, iz_add]; exact iz_inj (by omega)
    unfold bd_m_know_61
    rw [z_4, iz_le (by omega)]
    refine ⟨fun q => ?_, fun q => ?_⟩
    · have hi : i = 4 := by omega
      subst hi
      refine wr_m_know_86 _ (fun x W => ∃ i : Nat, i ≤ 12 ∧ x = iz i ∧ W.1 = S.1 ∧ (∀ y z, y ≠ 593 → W.2.2.1 y z = U.2.2.1 y z) ∧ ∀ j, j < i → W.2.2.1 593 j = S.2.2.1 590 j) (fun x U => 12 - x.toInt.toNat) ?_ _ _ _ ?_ ?_
      · rintro _ W ⟨i, k1, rfl, v1, v2, v3⟩
        have nx : iz (i : Int) + 1 = iz ((i + 1 : Nat) : Int) := by rw [z_1, iz_add]; exact iz_inj (by omega)
        unfold bd_m_know_86
        rw [z_12, iz_le (by omega)]
        refine ⟨fun q => ?_, fun q => ?_⟩
        · have hi : i = 12 := by omega
          subst hi
          refine kn_fin (fun j hj => ?_) hW (by rw [v1]; exact s32) ht (Or.inr ⟨t, ht.1, ht.2, by rw [v1]; exact s34, fun hn => ?_, fun c hc => ?_⟩) (by rw [v1]; exact s34)
          · rw [v2 _ _ (by omega), u2 _ _ (by omega), sA1]; exact hM2 j hj
          · rw [v1, s35]
            rw [sk0] at hn
            rcases sk with ⟨_, g⟩ | ⟨c0, g, _⟩
            · exact g
            · rw [hn] at g; cases g
          · rw [sk0] at hc
            rw [d2, v1, s35, s36]
            rcases sk with ⟨g, _⟩ | ⟨c0, g, y1, y2, y3⟩
            · rw [hc] at g; cases g
            · rw [hc] at g
              injection g with g
              subst g
              refine ⟨y1, y2, fun d hd hm => ?_⟩
              have sl := sn_lt (D := D) (e := 8) hm hd
              obtain ⟨_, q2, q3⟩ := y3 d hd hm
              refine ⟨?_, fun k hk => ?_⟩
              · rw [v2 _ _ (by omega), u3 _ (by omega), sA1]; exact q2
              · have n3 := wf_n hW (mem_lt hW d3 d hm)
                rw [v3 _ (by omega), sA1]; exact q3 k hk
        · rw [nx, ix_nat (by omega)]
          refine ⟨in_nat (by omega) (by omega), ⟨i + 1, by omega, rfl, v1, fun y z hy => ?_, fun j hj => ?_⟩, ?_⟩
          · rw [gA_A, if_neg (by omega)]; exact v2 y z hy
          · rw [gA_A]
            by_cases z : j = i
            · rw [if_pos ⟨rfl, z⟩, v2 _ _ (by omega), u2 _ _ (by omega), z]
            · rw [if_neg (by omega)]; exact v3 j (by omega)
          · show 12 - (iz ((i + 1 : Nat) : Int)).toInt.toNat < 12 - (iz (i : Int)).toInt.toNat
            rw [iz_t (by omega), iz_t (by omega)]; omega
      · show 12 - (0 : Int32).toInt.toNat < 1000
        omega
      · exact ⟨0, by omega, rfl, u1, fun _ _ _ => rfl, fun j hj => absurd hj (Nat.not_lt_zero _)⟩
    · rw [nx, ix_nat (by omega)]
      refine ⟨in_nat (by omega) (by omega), ⟨i + 1, by omega, rfl, u1, fun y z hy => ?_, fun j hj => ?_⟩, ?_⟩
      · rw [gA_A, if_neg (by omega)]; exact u2 y z hy
      · rw [gA_A]
        by_cases z : j = i
        · rw [if_pos ⟨rfl, z⟩, u2 _ _ (by omega), z]
        · rw [if_neg (by omega)]; exact u3 j (by omega)
      · show 4 - (iz ((i + 1 : Nat) : Int)).toInt.toNat < 4 - (iz (i : Int)).toInt.toNat
        rw [iz_t (by omega), iz_t (by omega)]; omega
  · show 4 - (0 : Int32).toInt.toNat < 1000
    omega
  · exact ⟨0, by omega, rfl, rfl, fun _ _ _ => rfl, fun j hj => absurd hj (Nat.not_lt_zero _)⟩
-- both leave Inv
theorem I_fplan {T : St} {t : Nat} (hI : Inv T) (h7 : ¬ T.1 571 7 = 0) (ht : 1 ≤ t ∧ t ≤ 60) : Inv (x_x_findsPlan T (iz t)).2 ∧ nB (x_x_findsPlan T (iz t)).2 = nB T ∧ (x_x_findsPlan T (iz t)).2.1 571 7 = T.1 571 7 := by
  obtain ⟨ok, f⟩ := s_fplan hI h7 ht
  have fx : Fr _ T _ := fr_x_findsPlan _ ok
  refine ⟨Inv_pl fx (fun c hc => by unfold W_x_findsPlan at hc; unfold irr; omega) hI h7 ?_ f.1 (cM_fr fx (fun c hc hw => by unfold W_x_findsPlan at hw; omega) (I_cc hI h7).2), nB_fr fx (by unfold W_x_findsPlan; omega), q_F fx (by unfold W_x_findsPlan; omega)⟩
  rw [q_F fx (by unfold W_x_findsPlan; omega)]; exact hI.2.2.2.1.2.1
theorem I_know {T : St} {t : Nat} (hI : Inv T) (h7 : ¬ T.1 571 7 = 0) (ht : 1 ≤ t ∧ t ≤ 60) : ok_m_know T (iz t) ∧ KnQ (nB T) t (x_m_know T (iz t)) ∧ Inv (x_m_know T (iz t)).2 ∧ nB (x_m_know T (iz t)).2 = nB T ∧ (x_m_know T (iz t)).2.1 571 7 = T.1 571 7 := by
  obtain ⟨hW, hX, hK, hM, h46⟩ := I_there hI h7
  obtain ⟨ok, f⟩ := s_know hM hW hI.2.2.2.1.2.1 ht (I_cc hI h7).2
  have fx : Fr _ T _ := fr_m_know _ ok
  refine ⟨ok, f, Inv_pl fx (fun c hc => by unfold W_m_know at hc; unfold irr; omega) hI h7 f.2.1 (cX_fr fx (fun c hc hw => by unfold W_m_know at hw; omega) (I_cc hI h7).1) f.2.2.1, nB_fr fx (by unfold W_m_know; omega), q_F fx (by unfold W_m_know; omega)⟩
