/-! ===== the pair seven ===== -/
theorem WF_D {B : Nat → Int} (hW : WF B) : ∃ D : Nat, B 202 = (D : Int) ∧ (B 202).toNat = D ∧ D < 2 ^ (B 16).toNat ∧ 1 ≤ sn D 8 ∧ sn D 8 ≤ 4 := by
  obtain ⟨h1, h2, h3, h4⟩ := hW.2.2.2.2.2.2.1
  refine ⟨(B 202).toNat, by omega, rfl, h3, ?_, by rw [sn_8]; exact h4⟩
  rcases Nat.eq_zero_or_pos (sn (B 202).toNat 8) with z | z
  · exfalso
    have hg := sn_gap (D := (B 202).toNat) (d := 0) (e := 8) (by rw [z]; rfl)
    have : (B 202).toNat = 0 := by
      refine Nat.eq_of_testBit_eq fun i => ?_
      rw [Nat.zero_testBit]
      rcases Nat.lt_or_ge i 8 with y | y
      · exact hg i (Nat.zero_le i) y
      · exact tb_hi h3 (by have := hW.2.2.1; omega)
    omega
  · exact z
theorem gk_0 {B : Nat → Int} {t : Int} {d c : Nat} {F : Nat → Int} (hW : WF B) (hd : (d : Int) < B 16) (hc : c < chn B d) (ht : 1 ≤ t ∧ t ≤ 60) (h0 : 0 ≤ bg B t d c 0) : ∀ k, k < nO B d → gk 0 F (bg B t d c) k := by
  intro k hk
  unfold gk
  rw [if_neg (by omega)]
  exact (bg_in hW hd hc ht h0 hk).1
theorem WF_h {B : Nat → Int} (hW : WF B) : (0 ≤ B 5 ∧ B 5 ≤ 3) ∧ (0 ≤ B 203 ∧ B 203 ≤ 60) ∧ (B 203 < 60 → 1 ≤ B 1) := ⟨by have := hW.1; omega, by have := hW.2.2.2.2.2.2.2; omega, fun z => by have := hW.2.2.2.2.2.2.2; exact this.2.2 z⟩
theorem i_seven : P_seven Inv := by
  intro T hI p0
  obtain ⟨t, htr, rfl⟩ := iz_ex p0
  obtain ⟨v, hv⟩ : ∃ v : Int32, v = @ite _ (¬ (1 ≤ t ∧ t ≤ 60)) (Classical.propDecidable _) (-1000001) (@ite _ (T.1 571 7 = 0) (Classical.propDecidable _) (-1000002) (@ite _ (SK (nB T) t (nB T 5) (nB T 203) (fun d c => cE (nB T) d c = 0) (nB T 202).toNat true = none) (Classical.propDecidable _) 0 1)) := ⟨_, rfl⟩
  obtain ⟨rf, r1, r2, r3⟩ := x_ref hI (x_x_isTime T (iz t))
  have xs : ok_x_seven T (iz t) ∧ (x_x_seven T (iz t)).1 = v := by
    refine so_x_seven (Q := fun r => r.1 = v) _ ?_
    unfold wp_x_seven
    refine ⟨rf, jo ?_⟩
    by_cases c1 : 1 ≤ t ∧ t ≤ 60
    · have nt : ¬ x_x_isTime T (iz t) = 0 := fun z => (x_time htr).1 z c1
      by_cases c7 : T.1 571 7 = 0
      · rw [r2 nt c7]
        refine ⟨fun z => absurd z (by decide), fun _ => ?_⟩
        rw [hv, if_neg (fun y => y c1), if_pos c7]
      · rw [r3 nt c7]
        refine ⟨fun _ => ?_, fun z => absurd rfl z⟩
        obtain ⟨hW, hX, hK, hM, h46⟩ := I_there hI c7
        obtain ⟨hb, hb2⟩ := b_46 h46
        obtain ⟨D, d1, d2, d3, d4⟩ := WF_D hW
        obtain ⟨w1, w2, w3⟩ := WF_h hW
        have e17 : T.1 (T.2.1 0) 17 = iz D := by rw [hX.2.2.2.2.1, d1]
        have hP := BkP_X hX
        obtain ⟨ok1, l1⟩ := s_lay (t := t) (D := D) hb hb2 (show sh 76 = .inr 3 by decide) (by omega) hP hK hW d3 c1
        have fr1 : Fr _ T _ := fr_pl_lay _ _ _ _ ok1
        rw [e17]
        have hP1 : BkP (x_pl_lay T (T.2.1 0) 76 (iz D) (iz t)) (T.2.1 0) (nB T) := BkP_fr hP (q_F fr1 (by unfold W_pl_lay; omega)) (fun y z h1 h2 => q_A fr1 (by unfold W_pl_lay; omega))
        have hK1 : KitX (x_pl_lay T (T.2.1 0) 76 (iz D) (iz t)) 76 (nB T) (nB T 5) (nB T 203) := KitX_fr fr1 (by unfold W_pl_lay; omega) hK
        have e0 : (x_pl_lay T (T.2.1 0) 76 (iz D) (iz t)).2.1 0 = T.2.1 0 := q_R fr1 (by unfold W_pl_lay; omega)
        have e171 : (x_pl_lay T (T.2.1 0) 76 (iz D) (iz t)).1 (T.2.1 0) 17 = iz D := by rw [q_F fr1 (by unfold W_pl_lay; omega)]; exact e17
        refine ⟨hb, ok1, ?_⟩
        generalize x_pl_lay T (T.2.1 0) 76 (iz D) (iz t) = L1 at *
        obtain ⟨ok2, s1, s2, s3⟩ := s_strikeE hW d3 l1
        refine ⟨ok2, ?_⟩
        have hP2 : BkP (x_pl_strikeEarly L1) (T.2.1 0) (nB T) := BkP_fr hP1 (s1 _ _ (by omega)) (fun y z h1 h2 => by rw [show (x_pl_strikeEarly L1).2.2.1 = L1.2.2.1 from congrArg (fun p => p.2.1) s2])
        have hK2 : KitX (x_pl_strikeEarly L1) 76 (nB T) (nB T 5) (nB T 203) := by
          intro w n m h1 h2 h3 h4
          rw [show (x_pl_strikeEarly L1).2.2.2 = L1.2.2.2 from congrArg (fun p => p.2.2) s2]
          exact hK1 w n m h1 h2 h3 h4
        have e02 : (x_pl_strikeEarly L1).2.1 0 = T.2.1 0 := by rw [show (x_pl_strikeEarly L1).2.1 = L1.2.1 from congrArg Prod.fst s2]; exact e0
        have e172 : (x_pl_strikeEarly L1).1 (T.2.1 0) 17 = iz D := by rw [s1 _ _ (by omega)]; exact e171
        rw [e02, e172]
        refine ⟨hb, ?_⟩
        generalize x_pl_strikeEarly L1 = L2 at *
        obtain ⟨ok3, pl⟩ := s_pset (cn := cnX (nB T) t (nB T 5) (nB T 203) (fun d c => cE (nB T) d c = 0)) hb hb2 (show 76 + 1 < 80 by omega) hW d3 hP2 hK2 (LayQ_cg (fun d c => Iff.rfl) s3)
        have fr3 : Fr _ L2 _ := fr_pl_settle _ ok3
        have e03 : (x_pl_settle L2 (iz D)).2.1 0 = T.2.1 0 := by rw [q_R fr3 (by unfold W_pl_settle; omega)]; exact e02
        have e173 : (x_pl_settle L2 (iz D)).1 (T.2.1 0) 17 = iz D := by rw [q_F fr3 (by unfold W_pl_settle; omega)]; exact e172
        refine ⟨ok3, jo ?_⟩
        try dsimp only
        generalize x_pl_settle L2 (iz D) = L3 at *
        rw [e03, e173]
        have fn : ok_pl_finds L3 (iz D) 1 ∧ FnQ (nB T) t (nB T 5) (nB T 203) (fun d c => cE (nB T) d c = 0) D (T.2.1 0) 76 D true (x_pl_finds L3 (iz D) 1) := s_finds (any := true) hb hb2 (show sh 76 = .inr 3 by decide) (by omega) hW d3 (fun _ h => h) d3 d4 c1 w3 pl
        obtain ⟨ok4, f1, f2, f3⟩ := fn
        refine ⟨hb, ok4, fun z => ?_, fun z => ?_⟩
        · rw [hv, if_neg (fun y => y c1), if_neg c7, d2]
          cases hS : SK (nB T) t (nB T 5) (nB T 203) (fun d c => cE (nB T) d c = 0) D true with
          | none => rw [if_pos rfl]
          | some c0 => rw [(f3 c0 hS).1] at z; exact absurd z (by decide)
        · rw [hv, if_neg (fun y => y c1), if_neg c7, d2]
          cases hS : SK (nB T) t (nB T 5) (nB T 203) (fun d c => cE (nB T) d c = 0) D true with
          | none => exact absurd (f2 hS).1 z
          | some c0 => rw [if_neg (by intro y; cases y)]
    · rw [r1 ((x_time htr).2 c1)]
      refine ⟨fun z => absurd z (by decide), fun _ => ?_⟩
      rw [hv, if_pos c1]
  have hI2 : Inv (x_x_seven T (iz t)).2 := Inv_irr (fr_x_seven _ xs.1) (fun c hc => by unfold W_x_seven at hc; unfold irr; omega) hI
  have fx : Fr _ T _ := fr_x_seven _ xs.1
  have e7 : (x_x_seven T (iz t)).2.1 571 7 = T.1 571 7 := q_F fx (by unfold W_x_seven; omega)
  have eB : nB (x_x_seven T (iz t)).2 = nB T := nB_fr fx (by unfold W_x_seven; omega)
  have ms : ok_m_seven (x_x_seven T (iz t)).2 (iz t) ∧ (fun r : Int32 × St => r.1 = v ∧ Inv r.2) (x_m_seven (x_x_seven T (iz t)).2 (iz t)) := by
    refine so_m_seven (Q := fun r : Int32 × St => r.1 = v ∧ Inv r.2) _ ?_
    generalize (x_x_seven T (iz t)).2 = U at *
    have tt := Inv_t 0 hI2
    have e7' : (sF U 571 0 0).1 571 7 = T.1 571 7 := by rw [gF_F, if_neg (by omega)]; exact e7
    have eB' : nB (sF U 571 0 0) = nB T := eB
    unfold wp_m_seven
    rw [m_by htr, e7']
    refine ⟨fun c1 => ⟨by rw [hv, if_pos c1], tt⟩, fun c1 => ⟨fun c7 => ⟨by rw [hv, if_neg c1, if_pos c7], tt⟩, fun c7 => ?_⟩⟩
    have c1' : 1 ≤ t ∧ t ≤ 60 := Classical.byContradiction c1
    have m0 : (sF U 571 0 0).1 571 32 = 0 := tt.2.2.2.1.2.1
    rw [sF_id m0]
    generalize sF U 571 0 0 = V at *
    obtain ⟨hW, _, _, hM, _⟩ := I_there tt (by rw [e7']; exact c7)
    rw [eB'] at hW hM
    obtain ⟨D, d1, d2, d3, d4⟩ := WF_D hW
    obtain ⟨w1, w2, w3⟩ := WF_h hW
    rw [show (202 : Int32).toNatClampNeg = 202 from rfl, show (203 : Int32).toNatClampNeg = 203 from rfl, n_5, hM 202 (by omega), hM 203 (by omega), hM 5 (by omega), d1]
    have sk : ok_m_seek V (iz D) (iz t) (iz (nB T 5)) (iz (nB T 203)) 1 1 ∧ SkF (x_m_seek V (iz D) (iz t) (iz (nB T 5)) (iz (nB T 203)) 1 1).2 (nB T) D t (SK (nB T) t (nB T 5) (nB T 203) (fun d c => cE (nB T) d c = 0) D true) (x_m_seek V (iz D) (iz t) (iz (nB T 5)) (iz (nB T 203)) 1 1).1 := s_seek (any := true) (ne := true) (μ := 0) hM hW d3 d4 c1' (by omega) w2 (by omega) m0 (fun d c hm hc h0 => ⟨fun z => ⟨fun _ => z, gk_0 hW (mem_lt hW d3 d hm) hc c1' h0⟩, fun z => z.1 rfl⟩)
    have fs : Fr _ V _ := fr_m_seek _ _ _ _ _ _ sk.1
    have iS : Inv (x_m_seek V (iz D) (iz t) (iz (nB T 5)) (iz (nB T 203)) 1 1).2 := Inv_irr fs (fun c hc => by unfold W_m_seek at hc; unfold irr; omega) tt
    refine ⟨sk.1, jo ⟨fun z => ⟨?_, iS⟩, fun z => ⟨?_, iS⟩⟩⟩
    · rw [hv, if_neg c1, if_neg c7, d2]
      rcases sk.2 with ⟨g, _⟩ | ⟨c0, g, g2, _⟩
      · rw [if_pos g]
      · rw [g2] at z; exact absurd z (by decide)
    · rw [hv, if_neg c1, if_neg c7, d2]
      rcases sk.2 with ⟨_, g⟩ | ⟨c0, g, _⟩
      · exact absurd g z
      · rw [if_neg (by rw [g]; intro y; cases y)]
  exact ⟨xs.1, ms.1, xs.2.trans ms.2.1.symm, ms.2.2⟩
