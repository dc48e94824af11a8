/-! ===== the pair earliest ===== -/
def erP (B : Nat → Int) (t : Nat) : Prop := SK B t (B 5) (B 203) (fun _ _ => True) (B 202).toNat true ≠ none
def ErQ (T : St) (v : Int32) : Prop := (T.1 571 7 = 0 → v = -1000002) ∧ (¬ T.1 571 7 = 0 → (∃ t : Nat, 1 ≤ t ∧ t ≤ 60 ∧ erP (nB T) t ∧ (∀ t' : Nat, 1 ≤ t' → t' < t → ¬ erP (nB T) t') ∧ v = iz t) ∨ ((∀ t : Nat, 1 ≤ t → t ≤ 60 → ¬ erP (nB T) t) ∧ v = -1000000))
theorem ErQ_u {T : St} {v w : Int32} (h1 : ErQ T v) (h2 : ErQ T w) : v = w := by
  by_cases q : T.1 571 7 = 0
  · rw [h1.1 q, h2.1 q]
  · rcases h1.2 q with ⟨t, a1, a2, a3, a4, a5⟩ | ⟨a1, a2⟩
    · rcases h2.2 q with ⟨t', b1, b2, b3, b4, b5⟩ | ⟨b1, b2⟩
      · have : t = t' := by
          rcases Nat.lt_trichotomy t t' with z | z | z
          · exact absurd a3 (b4 t a1 z)
          · exact z
          · exact absurd b3 (a4 t' b1 z)
        rw [a5, b5, this]
      · exact absurd a3 (b1 t a1 a2)
    · rcases h2.2 q with ⟨t', b1, b2, b3, b4, b5⟩ | ⟨b1, b2⟩
      · exact absurd b3 (a1 t' b1 b2)
      · rw [a2, b2]
theorem I_canBe {W : St} {a b c : Int32} (hI : Inv W) (ok : ok_m_canBe W a b c) : Inv (x_m_canBe W a b c).2 ∧ nB (x_m_canBe W a b c).2 = nB W ∧ (x_m_canBe W a b c).2.1 571 7 = W.1 571 7 := by
  have m0 : W.1 571 32 = 0 := hI.2.2.2.1.2.1
  have fr : Fr _ W _ := fr_m_canBe _ _ _ ok
  have hq : x_m_canBe W a b c = ((x_m_seek W a b c (W.2.2.1 575 (203 : Int32).toNatClampNeg) 0 1).1, (x_m_seek W a b c (W.2.2.1 575 (203 : Int32).toNatClampNeg) 0 1).2) := by
    unfold x_m_canBe
    rw [sF_id m0]
  have ok2 : ok_m_seek W a b c (W.2.2.1 575 (203 : Int32).toNatClampNeg) 0 1 := by
    have := ok.1
    rw [sF_id m0] at this
    exact this
  refine ⟨?_, nB_fr fr (by unfold W_m_canBe; omega), q_F fr (by unfold W_m_canBe; omega)⟩
  rw [hq]
  exact Inv_irr (fr_m_seek _ _ _ _ _ _ ok2) (fun c hc => by unfold W_m_seek at hc; unfold irr; omega) hI
theorem BkP_nAw {T : St} {b : Nat} {B : Nat → Int} (h : BkP T b B) : BkP T b (nAw B) := by
  have e := nAw_e (B := B)
  unfold BkP at h ⊢
  rw [x_bK e, x_bC e, x_bP e, x_bO e, x_bF e, x_kd e, x_lg e, x_wt e, x_sr e, x_on e, x_tw e, e 16 (by omega), e 17 (by omega)]
  exact ⟨fun i hi => by rw [e i (by omega)]; exact h.1 i hi, h.2⟩
theorem lx_earliest {T : St} (hI : Inv T) : ok_x_earliest T ∧ (fun r : Int32 × St => ErQ T r.1) (x_x_earliest T) := by
  refine so_x_earliest (Q := fun r : Int32 × St => ErQ T r.1) ?_
  obtain ⟨h46, _⟩ := I_cnt hI
  obtain ⟨hb, hb2⟩ := b_46 h46
  unfold wp_x_earliest
  rw [x_read hI]
  refine ⟨⟨hb, trivial⟩, hb, fun q => ⟨fun _ => rfl, fun z => absurd q z⟩, fun q => ?_⟩
  obtain ⟨hW, hX, hK, hM, _⟩ := I_there hI q
  obtain ⟨D, d1, d2, d3, d4⟩ := WF_D hW
  obtain ⟨w1, w2, w3⟩ := WF_h hW
  have e17 : T.1 (T.2.1 0) 17 = iz D := by rw [hX.2.2.2.2.1, d1]
  rw [n_5, hX.1 5 (by omega)]
  obtain ⟨ok1, ⟨a1, a2, a3⟩, a4, hK1⟩ := s_giveAll2 (T := T) (a := 78) (b := T.2.1 0) (B := nB T) (h := nB T 5) (by decide) hb hX.1 hW w1
  have e0 : (x_ki_giveAll T 78 (T.2.1 0) (iz (nB T 5))).2.1 0 = T.2.1 0 := by rw [a2]
  have e171 : (x_ki_giveAll T 78 (T.2.1 0) (iz (nB T 5))).1 (T.2.1 0) 17 = iz D := by rw [a1]; exact e17
  have hP1 : BkP (x_ki_giveAll T 78 (T.2.1 0) (iz (nB T 5))) (T.2.1 0) (nB T) := BkP_fr (BkP_X hX) (by rw [a1]) (fun y z _ _ => by rw [a3])
  have hK76 : KitX (x_ki_giveAll T 78 (T.2.1 0) (iz (nB T 5))) 76 (nB T) (nB T 5) (nB T 203) := by
    intro w n m h1 h2 h3 h4
    rw [a4 _ _ (by omega)]
    exact hK w n m h1 h2 h3 h4
  refine ⟨ok1, ?_⟩
  rw [e0]
  generalize x_ki_giveAll T 78 (T.2.1 0) (iz (nB T 5)) = L at *
  rw [e171]
  have hW' := nAw_WF hW
  have e16 : nAw (nB T) 16 = nB T 16 := nAw_e 16 (by omega)
  obtain ⟨ok2, ep⟩ := s_poss (T := L) (B := nAw (nB T)) (t := 60) (h := nB T 5) (o := 60) (ki := 78) (D := D) (by rw [e0]; exact h46) (by decide) (by omega) hW' (by rw [e0]; exact BkP_nAw hP1) hK1 (fun z => by omega) (by omega) (by rw [e16]; exact d3) d4
  have fr2 : Fr _ L _ := fr_x_isPossible _ _ _ ok2
  have ok2' : ok_x_isPossible L 78 (iz D) 60 := ok2
  have ep' : (x_x_isPossible L 78 (iz D) 60).1 = 0 ↔ SK (nAw (nB T)) 60 (nB T 5) 60 (fun _ _ => True) D true = none := ep
  have fr2' : Fr _ L (x_x_isPossible L 78 (iz D) 60).2 := fr2
  refine ⟨hb, ok2', jo ?_⟩
  try dsimp only
  refine ⟨fun z => ⟨fun y => absurd y q, fun _ => Or.inr ⟨fun t t1 t2 hp => ?_, rfl⟩⟩, fun _ => ?_⟩
  · unfold erP at hp
    rw [d2] at hp
    exact SK_all hW (by omega) (by omega) d3 hp (ep'.1 z)
  · have u1 : (x_x_isPossible L 78 (iz D) 60).2.2.1 0 = T.2.1 0 := by rw [q_R fr2' (by unfold W_x_isPossible; omega)]; exact e0
    have u2 : (x_x_isPossible L 78 (iz D) 60).2.1 (T.2.1 0) 17 = iz D := by rw [q_F fr2' (by unfold W_x_isPossible; omega)]; exact e171
    have u3 : BkP (x_x_isPossible L 78 (iz D) 60).2 (T.2.1 0) (nB T) := BkP_fr hP1 (q_F fr2' (by unfold W_x_isPossible; omega)) (fun y z h1 h2 => q_A fr2' (by unfold W_x_isPossible; omega))
    have u4 : KitX (x_x_isPossible L 78 (iz D) 60).2 76 (nB T) (nB T 5) (nB T 203) := KitX_fr fr2' (by unfold W_x_isPossible; omega) hK76
    generalize (x_x_isPossible L 78 (iz D) 60).2 = S at *
    refine wr_x_earliest_58 (fun v U => ∃ t : Nat, 1 ≤ t ∧ t ≤ 61 ∧ v = iz t ∧ (∀ t' : Nat, 1 ≤ t' → t' < t → ¬ erP (nB T) t') ∧ U.2.1 0 = T.2.1 0 ∧ U.1 (T.2.1 0) 17 = iz D ∧ BkP U (T.2.1 0) (nB T) ∧ KitX U 76 (nB T) (nB T 5) (nB T 203)) (fun v U => 61 - v.toInt.toNat) ?_ _ _ _ ?_ ?_
    · rintro _ U ⟨t, t1, t2, rfl, g, v1, v2, v3, v4⟩
      unfold bd_x_earliest_58
      rw [v1, v2, z_60, iz_lt (by omega)]
      refine ⟨fun z => ⟨fun y => absurd y q, fun _ => Or.inr ⟨fun t' a b => g t' a (by omega), rfl⟩⟩, fun z => ?_⟩
      obtain ⟨ok3, ep3⟩ := s_poss (T := U) (B := nB T) (t := t) (ki := 76) (D := D) (by rw [v1]; exact h46) (by decide) (by omega) hW (by rw [v1]; exact v3) v4 w3 (by omega) d3 d4
      have fr3 : Fr _ U _ := fr_x_isPossible _ _ _ ok3
      have nx : iz (t : Int) + 1 = iz ((t + 1 : Nat) : Int) := by rw [z_1, iz_add]; exact iz_inj (by omega)
      have me : erP (nB T) t ↔ ¬ SK (nB T) t (nB T 5) (nB T 203) (fun _ _ => True) D true = none := by unfold erP; rw [d2]
      rw [nx]
      refine ⟨hb, ok3, fun y => ⟨⟨t + 1, by omega, by omega, rfl, fun t' a b => ?_, ?_, ?_, ?_, ?_⟩, ?_⟩, fun y => ⟨fun w => absurd w q, fun _ => Or.inl ⟨t, t1, by omega, me.2 fun w => y (ep3.2 w), g, rfl⟩⟩⟩
      · by_cases e : t' = t
        · subst e; rw [me]; exact fun w => w (ep3.1 y)
        · exact g t' a (by omega)
      · rw [q_R fr3 (by unfold W_x_isPossible; omega)]; exact v1
      · rw [q_F fr3 (by unfold W_x_isPossible; omega)]; exact v2
      · exact BkP_fr v3 (q_F fr3 (by unfold W_x_isPossible; omega)) (fun y z h1 h2 => q_A fr3 (by unfold W_x_isPossible; omega))
      · exact KitX_fr fr3 (by unfold W_x_isPossible; omega) v4
      · rw [iz_t (by omega), iz_t (by omega)]; omega
    · show 61 - (1 : Int32).toInt.toNat < 1000
      omega
    · exact ⟨1, by omega, by omega, rfl, fun t' a b => by omega, u1, u2, u3, u4⟩
theorem lm_earliest {T U : St} (x2 : Inv U) (x3 : nB U = nB T) (x4 : U.1 571 7 = T.1 571 7) : ok_m_earliest U ∧ (fun r : Int32 × St => ErQ T r.1 ∧ Inv r.2) (x_m_earliest U) := by
  refine so_m_earliest (Q := fun r : Int32 × St => ErQ T r.1 ∧ Inv r.2) ?_
  have tt := Inv_t 0 x2
  have e7' : (sF U 571 0 0).1 571 7 = T.1 571 7 := by rw [gF_F, if_neg (by omega)]; exact x4
  have eB' : nB (sF U 571 0 0) = nB T := x3
  unfold wp_m_earliest
  rw [e7']
  refine ⟨fun q => ⟨⟨fun _ => rfl, fun z => absurd q z⟩, tt⟩, fun q => ?_⟩
  generalize sF U 571 0 0 = V at *
  obtain ⟨hW, _, _, _, _⟩ := I_there tt (by rw [e7']; exact q)
  rw [eB'] at hW
  obtain ⟨D, d1, d2, d3, d4⟩ := WF_D hW
  obtain ⟨w1, w2, w3⟩ := WF_h hW
  refine wr_m_earliest_17 (fun v W => ∃ t : Nat, 1 ≤ t ∧ t ≤ 61 ∧ v = iz t ∧ (∀ t' : Nat, 1 ≤ t' → t' < t → ¬ erP (nB T) t') ∧ Inv W ∧ nB W = nB T) (fun v W => 61 - v.toInt.toNat) ?_ _ _ _ ?_ ⟨1, by omega, by omega, rfl, fun t' a b => by omega, tt, eB'⟩
  · rintro _ W ⟨t, t1, t2, rfl, g, i1, i2⟩
    have hM : MkX W (nB T) := fun j _ => by rw [← i2]; exact (iz_self _).symm
    have m0 : W.1 571 32 = 0 := i1.2.2.2.1.2.1
    unfold bd_m_earliest_17
    rw [show (202 : Int32).toNatClampNeg = 202 from rfl, n_5, hM 202 (by omega), hM 5 (by omega), d1, z_61, iz_le (by omega)]
    refine ⟨fun z => ⟨⟨fun y => absurd y q, fun _ => Or.inr ⟨fun t' a b => g t' a (by omega), rfl⟩⟩, i1⟩, fun z => ?_⟩
    obtain ⟨ok, ep, _⟩ := s_canBe (V := W) (t := t) (h := nB T 5) (D := D) hM hW m0 (by omega) (by omega) d3 d4
    obtain ⟨j1, j2, _⟩ := I_canBe i1 ok
    have nx : iz (t : Int) + 1 = iz ((t + 1 : Nat) : Int) := by rw [z_1, iz_add]; exact iz_inj (by omega)
    have me : erP (nB T) t ↔ ¬ SK (nB T) t (nB T 5) (nB T 203) (fun _ _ => True) D true = none := by unfold erP; rw [d2]
    rw [nx]
    refine ⟨ok, jo ⟨fun y => ⟨⟨t + 1, by omega, by omega, rfl, fun t' a b => ?_, j1, j2.trans i2⟩, ?_⟩, fun y => ⟨⟨fun w => absurd w q, fun _ => Or.inl ⟨t, t1, by omega, me.2 fun w => y (ep.2 w), g, rfl⟩⟩, j1⟩⟩⟩
    · by_cases e : t' = t
      · subst e; rw [me]; exact fun w => w (ep.1 y)
      · exact g t' a (by omega)
    · rw [iz_t (by omega), iz_t (by omega)]; omega
  · show 61 - (1 : Int32).toInt.toNat < 1000
    omega
theorem i_earliest : P_earliest Inv := by
  intro T hI
  have xs := lx_earliest hI
  have fx : Fr _ T _ := fr_x_earliest xs.1
  have hI2 : Inv (x_x_earliest T).2 := Inv_irr fx (fun c hc => by unfold W_x_earliest at hc; unfold irr; omega) hI
  have ms := lm_earliest (T := T) hI2 (nB_fr fx (by unfold W_x_earliest; omega)) (q_F fx (by unfold W_x_earliest; omega))
  have x1 : ErQ T (x_x_earliest T).1 := xs.2
  have m1 : ErQ T (x_m_earliest (x_x_earliest T).2).1 := ms.2.1
  have m2 : Inv (x_m_earliest (x_x_earliest T).2).2 := ms.2.2
  exact ⟨xs.1, ms.1, ErQ_u x1 m1, m2⟩
