/-! ===== the class's plan found ===== -/
theorem SK_in {B : Nat → Int} {t h o : Int} {X : Nat → Nat → Prop} {D : Nat} {any : Bool} {c : Nat → Nat} (q : SK B t h o X D any = some c) : ∀ d, d < 8 → D.testBit d = true → c d < chn B d := by
  rcases exS_res 8 0 (fun _ => 0) none c q with z | ⟨_, _, z3⟩
  · cases z
  · exact fun d hd hm => z3 d (Nat.zero_le d) (by omega) hm
theorem Inv_pl {W : Nat → Prop} {T T' : St} (h : Fr W T T') (n : ∀ c, W c → irr c ∨ c = 10014 ∨ c = 10015 ∨ (558 ≤ c ∧ c < 564) ∨ (65700 ≤ c ∧ c < 65800) ∨ (67134 ≤ c ∧ c < 67137) ∨ c = 592 ∨ c = 593 ∨ c = 67132) (i : Inv T) (h7 : ¬ T.1 571 7 = 0) (m0 : T'.1 571 32 = 0) (hx : cX T' (nB T)) (hm : cM T' (nB T)) : Inv T' := by
  unfold irr at n
  refine ⟨iSh_fr h (fun c hc hw => by have := n c hw; omega) i.1, iTp_fr h (fun c hc hw => by have := n c hw; omega) i.2.1, iTr_fr h (fun c hc hw => by have := n c hw; omega) i.2.2.1, ?_, iIm_fr h (fun c hc hw => by have := n c hw; omega) i.2.2.2.2⟩
  have n2 : ∀ c, (c = 10016 ∨ c = 18018 ∨ c = 18019 ∨ c = 5000 ∨ c = 5001 ∨ c = 575 ∨ c = 77 ∨ c = 67107 ∨ (47 ≤ c ∧ c < 76 ∧ c ≠ 61) ∨ (14600 ≤ c ∧ c < 14700) ∨ (16100 ≤ c ∧ c < 16200)) → ¬ W c := fun c hc hw => by have := n c hw; omega
  obtain ⟨h1, h2, h3⟩ := i.2.2.2.1
  unfold iBk
  rw [q_R h (n2 5000 (by omega)), q_R h (n2 5001 (by omega)), q_F (c := 571) (k := 7) h (n2 67107 (by omega)), nB_fr h (n2 575 (by omega))]
  refine ⟨h1, m0, ?_⟩
  rcases h3 with ⟨g1, _⟩ | ⟨g1, g2, g3, g4, g5, g6, g7⟩
  · exact absurd g1 h7
  · exact Or.inr ⟨g1, g2, BkX_fr h (fun c hc => n2 c (by omega)) g3, KitX_fr h (n2 _ (by omega)) g4, hx, hm, cC_fr h (fun c hc => n2 c (by omega)) g7⟩
theorem I_cc {T : St} (hI : Inv T) (h7 : ¬ T.1 571 7 = 0) : cX T (nB T) ∧ cM T (nB T) := by
  rcases hI.2.2.2.1.2.2 with ⟨g1, _⟩ | ⟨_, _, _, _, g5, g6, _⟩
  · exact absurd g1 h7
  · exact ⟨g5, g6⟩
def FpQ (B : Nat → Int) (t : Nat) (r : Int32 × St) : Prop := cX r.2 B ∧ (SK0 B t = none → r.1 = 0) ∧ ∀ c, SK0 B t = some c → r.1 = 1 ∧ r.2.1 0 15 = iz (csm B (B 202).toNat 8 c) ∧ RowX r.2 557 B (B 202).toNat ∧ RowB r.2 557 B (B 202).toNat (fun d => bg B t d (c d)) ∧ ∀ d : Nat, d < 8 → (B 202).toNat.testBit d = true → r.2.2.2.1 559 (sn (B 202).toNat d) = iz (c d)
theorem fp_fin {U : St} {B : Nat → Int} {t : Nat} (hW : WF B) (ht : 1 ≤ t ∧ t ≤ 60) (hx : cX U B) (h14 : U.1 0 14 = iz t) : ((U.1 0 15 = -1000000) → FpQ B t (0, U)) ∧ (¬ (U.1 0 15 = -1000000) → FpQ B t (1, U)) := by
  obtain ⟨D, d1, d2, d3, d4⟩ := WF_D hW
  have key : (SK0 B t = none → U.1 0 15 = iz (-1000000)) ∧ ∀ c, SK0 B t = some c → U.1 0 15 = iz (csm B (B 202).toNat 8 c) ∧ RowX U 557 B (B 202).toNat ∧ RowB U 557 B (B 202).toNat (fun d => bg B t d (c d)) ∧ ∀ d : Nat, d < 8 → (B 202).toNat.testBit d = true → U.2.2.1 559 (sn (B 202).toNat d) = iz (c d) := by
    rcases hx with z | ⟨t', h1, h2, h3, h4, h5⟩
    · rw [h14, z_0, iz_eq (by omega)] at z; omega
    · rw [h14, iz_eq (by omega)] at h3
      have : t' = t := by omega
      subst this
      exact ⟨h4, h5⟩
  refine ⟨fun z => ⟨hx, fun _ => rfl, fun c hc => ?_⟩, fun z => ⟨hx, fun hn => absurd (key.1 hn) z, fun c hc => ⟨rfl, key.2 c hc⟩⟩⟩
  have k1 := (key.2 c hc).1
  have cb := csm_b (c := c) hW (by rw [d2]; exact d3) 8 (SK_in hc)
  rw [d2] at k1 cb
  rw [show U.1 0 15 = iz (-1000000) from z, iz_eq (by omega)] at k1
  omega
theorem s_fplan {T : St} {t : Nat} (hI : Inv T) (h7 : ¬ T.1 571 7 = 0) (ht : 1 ≤ t ∧ t ≤ 60) : ok_x_findsPlan T (iz t) ∧ FpQ (nB T) t (x_x_findsPlan T (iz t)) := by
  refine so_x_findsPlan (Q := FpQ (nB T) t) _ ?_
  unfold wp_x_findsPlan
  refine jo ?_
  try dsimp only
  obtain ⟨hW, hX, hK, hM, h46⟩ := I_there hI h7
  obtain ⟨hb, hb2⟩ := b_46 h46
  obtain ⟨D, d1, d2, d3, d4⟩ := WF_D hW
  obtain ⟨w1, w2, w3⟩ := WF_h hW
  have e17 : T.1 (T.2.1 0) 17 = iz D := by rw [hX.2.2.2.2.1, d1]
  refine ⟨fun q => fp_fin hW ht (I_cc hI h7).1 q, fun q => ?_⟩
  have hP := BkP_X hX
  obtain ⟨ok1, l1⟩ := s_lay (t := t) (D := D) hb hb2 (show sh 76 = .inr 3 by decide) (by omega) hP hK hW d3 (by omega)
  have fr1 : Fr _ T _ := fr_pl_lay _ _ _ _ ok1
  rw [e17]
  have hP1 : BkP (x_pl_lay T (T.2.1 0) 76 (iz D) (iz t)) (T.2.1 0) (nB T) := BkP_fr hP (q_F fr1 (by unfold W_pl_lay; omega)) (fun y z h1 h2 => q_A fr1 (by unfold W_pl_lay; omega))
  have hK1 : KitX (x_pl_lay T (T.2.1 0) 76 (iz D) (iz t)) 76 (nB T) (nB T 5) (nB T 203) := KitX_fr fr1 (by unfold W_pl_lay; omega) hK
  have e0 : (x_pl_lay T (T.2.1 0) 76 (iz D) (iz t)).2.1 0 = T.2.1 0 := q_R fr1 (by unfold W_pl_lay; omega)
  have e171 : (x_pl_lay T (T.2.1 0) 76 (iz D) (iz t)).1 (T.2.1 0) 17 = iz D := by rw [q_F fr1 (by unfold W_pl_lay; omega)]; exact e17
  refine ⟨hb, ok1, ?_⟩
  generalize x_pl_lay T (T.2.1 0) 76 (iz D) (iz t) = L1 at *
  rw [e0, e171]
  obtain ⟨ok3, pl⟩ := s_pset (cn := cnX (nB T) t (nB T 5) (nB T 203) (fun _ _ => True)) hb hb2 (show 76 + 1 < 80 by omega) hW d3 hP1 hK1 (LayQ_cg (fun d c => ⟨fun z => ⟨z, trivial⟩, fun z => z.1⟩) l1)
  have fr3 : Fr _ L1 _ := fr_pl_settle _ ok3
  have e03 : (x_pl_settle L1 (iz D)).2.1 0 = T.2.1 0 := by rw [q_R fr3 (by unfold W_pl_settle; omega)]; exact e0
  have e173 : (x_pl_settle L1 (iz D)).1 (T.2.1 0) 17 = iz D := by rw [q_F fr3 (by unfold W_pl_settle; omega)]; exact e171
  refine ⟨hb, ok3, jo ?_⟩
  try dsimp only
  generalize x_pl_settle L1 (iz D) = L2 at *
  have pl3 : PlQ (sF L2 0 15 (-1000000)) (nB T) t (nB T 5) (nB T 203) (cnX (nB T) t (nB T 5) (nB T 203) (fun _ _ => True)) D (T.2.1 0) 76 := by
    obtain ⟨q1, q2, q3, q4, q5, q6⟩ := pl
    refine ⟨q1, q2, BkP_fr q3 (by rw [gF_F, if_neg (by omega)]) (fun _ _ _ _ => rfl), q4, fun d hd hm => SgQ_fr hW (mem_lt hW d3 d hm) (q5 d hd hm) (fun y z y1 y2 _ => by rw [gF_F, if_neg (by omega)]) (fun _ _ _ => rfl) (fun _ _ _ => rfl), q6⟩
  have e04 : (sF L2 0 15 (-1000000)).2.1 0 = T.2.1 0 := e03
  have e174 : (sF L2 0 15 (-1000000)).1 (T.2.1 0) 17 = iz D := by rw [gF_F, if_neg (by omega)]; exact e173
  have e15 : (sF L2 0 15 (-1000000)).1 0 15 = iz (-1000000) := by rw [gF_F, if_pos ⟨rfl, rfl⟩]; rfl
  rw [e04, e174]
  generalize sF L2 0 15 (-1000000) = L3 at *
  have fn : ok_pl_finds L3 (iz D) 0 ∧ FnQ (nB T) t (nB T 5) (nB T 203) (fun _ _ => True) D (T.2.1 0) 76 D false (x_pl_finds L3 (iz D) 0) := s_finds (any := false) hb hb2 (show sh 76 = .inr 3 by decide) (by omega) hW d3 (fun _ h => h) d3 d4 (by omega) w3 pl3
  obtain ⟨ok4, f1, f2, f3⟩ := fn
  have fr4 : Fr _ L3 _ := fr_pl_finds _ _ ok4
  have e05 : (x_pl_finds L3 (iz D) 0).2.2.1 0 = T.2.1 0 := by rw [q_R fr4 (by unfold W_pl_finds; omega)]; exact e04
  have e175 : (x_pl_finds L3 (iz D) 0).2.1 (T.2.1 0) 17 = iz D := by rw [q_F fr4 (by unfold W_pl_finds; omega)]; exact e174
  have e155 : (x_pl_finds L3 (iz D) 0).2.1 0 15 = iz (-1000000) := by rw [q_F fr4 (by unfold W_pl_finds; omega)]; exact e15
  have sk0 : SK0 (nB T) t = SK (nB T) t (nB T 5) (nB T 203) (fun _ _ => True) D false := by unfold SK0; rw [d2]
  refine ⟨hb, ok4, jo ⟨fun z => ?_, fun z => ?_⟩⟩
  · refine fp_fin hW ht (Or.inr ⟨t, ht.1, ht.2, ?_, fun _ => ?_, fun c hc => ?_⟩) ?_
    · rw [gF_F, if_pos ⟨rfl, rfl⟩]
    · rw [gF_F, if_neg (by omega)]; exact e155
    · rw [sk0] at hc
      rw [(f3 c hc).1] at z
      exact absurd z (by decide)
    · rw [gF_F, if_pos ⟨rfl, rfl⟩]
  · cases hS : SK (nB T) t (nB T 5) (nB T 203) (fun _ _ => True) D false with
    | none => exact absurd (f2 hS).1 z
    | some c =>
      obtain ⟨g1, g2, g3, g4⟩ := f3 c hS
      obtain ⟨r1, r2, r3, r4, r5, r6⟩ := f1
      generalize (x_pl_finds L3 (iz D) 0).2 = L4 at *
      rw [show (sF L4 0 15 (L4.1 80 17)).2.1 0 = T.2.1 0 from e05, g2]
      have k1 : BkP (sF L4 0 15 (iz (csm (nB T) D 8 c))) (T.2.1 0) (nB T) := BkP_fr r3 (by rw [gF_F, if_neg (by omega)]) (fun _ _ _ _ => rfl)
      have k2 : (sF L4 0 15 (iz (csm (nB T) D 8 c))).1 (T.2.1 0) 17 = iz D := by rw [gF_F, if_neg (by omega)]; exact e175
      have k3 : (sF L4 0 15 (iz (csm (nB T) D 8 c))).1 0 15 = iz (csm (nB T) D 8 c) := by rw [gF_F, if_pos ⟨rfl, rfl⟩]
      have k4 : (sF L4 0 15 (iz (csm (nB T) D 8 c))).1 80 12 = iz (sn D 8) := by rw [gF_F, if_neg (by omega)]; exact g3
      have k5 : ∀ d, d < 8 → D.testBit d = true → c d < chn (nB T) d ∧ (sF L4 0 15 (iz (csm (nB T) D 8 c))).2.2.1 96 (sn D d) = iz ((12 * d + c d : Nat) : Int) ∧ (sF L4 0 15 (iz (csm (nB T) D 8 c))).2.2.1 94 (sn D d) = iz d := g4
      have k6 : ∀ d, d < 8 → D.testBit d = true → ∀ k, k < nO (nB T) d → (sF L4 0 15 (iz (csm (nB T) D 8 c))).2.2.1 (wc d (c d) + 1) k = iz (bg (nB T) t d (c d) k) := fun d hd hm k hk => ((r5 d hd hm).2.2.2 (c d) (g4 d hd hm).1).2.2.1 k hk
      have k7 : (sF L4 0 15 (iz (csm (nB T) D 8 c))).2.1 2 = T.2.1 0 := r1
      generalize sF L4 0 15 (iz (csm (nB T) D 8 c)) = L5 at *
      obtain ⟨ok6, rx⟩ := s_fill (T := L5) (a := 557) (D := D) (by decide) hb hb2 (by omega) k1 hW d3 d4.2 k2
      have fr6 : Fr _ L5 _ := fr_ro_fill _ _ ok6
      have j1 : BkP (x_ro_fill L5 557 (T.2.1 0)) (T.2.1 0) (nB T) := BkP_fr k1 (q_F fr6 (by unfold W_ro_fill; omega)) (fun y z h1 h2 => q_A fr6 (by unfold W_ro_fill; omega))
      have j3 : (x_ro_fill L5 557 (T.2.1 0)).1 0 15 = iz (csm (nB T) D 8 c) := by rw [q_F fr6 (by unfold W_ro_fill; omega)]; exact k3
      have j4 : (x_ro_fill L5 557 (T.2.1 0)).1 80 12 = iz (sn D 8) := by rw [q_F fr6 (by unfold W_ro_fill; omega)]; exact k4
      have j5 : ∀ d, d < 8 → D.testBit d = true → c d < chn (nB T) d ∧ (x_ro_fill L5 557 (T.2.1 0)).2.2.1 96 (sn D d) = iz ((12 * d + c d : Nat) : Int) ∧ (x_ro_fill L5 557 (T.2.1 0)).2.2.1 94 (sn D d) = iz d := fun d hd hm => by
        rw [q_A fr6 (by unfold W_ro_fill; omega), q_A fr6 (by unfold W_ro_fill; omega)]; exact k5 d hd hm
      have j6 : ∀ d, d < 8 → D.testBit d = true → ∀ k, k < nO (nB T) d → (x_ro_fill L5 557 (T.2.1 0)).2.2.1 (wc d (c d) + 1) k = iz (bg (nB T) t d (c d) k) := fun d hd hm k hk => by
        have cb := ch_b hW (mem_lt hW d3 d hm)
        have := (k5 d hd hm).1
        rw [q_A fr6 (by unfold W_ro_fill wc; omega)]; exact k6 d hd hm k hk
      have j7 : (x_ro_fill L5 557 (T.2.1 0)).2.1 2 = T.2.1 0 := by rw [q_R fr6 (by unfold W_ro_fill; omega)]; exact k7
      refine ⟨ok6, ?_⟩
      generalize x_ro_fill L5 557 (T.2.1 0) = L6 at *
      obtain ⟨ok7, v1, v2, v3, v4, v5, v6⟩ := s_tell (T := L6) (r := 557) (c0 := c) (t := t) (by decide) (by omega) hb hb2 j1 j7 hW d3 d4.2 rx j4 j5 j6
      refine ⟨ok7, jo ?_⟩
      try dsimp only
      generalize x_pl_tell L6 557 = L7 at *
      have fz : Fr _ L7 (sF L7 0 14 (iz t)) := fr_1
      refine fp_fin hW ht (Or.inr ⟨t, ht.1, ht.2, ?_, fun hn => ?_, fun c' hc => ?_⟩) ?_
      · rw [gF_F, if_pos ⟨rfl, rfl⟩]
      · rw [sk0, hS] at hn; cases hn
      · rw [sk0, hS] at hc
        injection hc with hc
        subst hc
        rw [d2]
        refine ⟨?_, RowX_fr fz (fun c hc => by omega) v4, v5, v6⟩
        rw [gF_F, if_neg (by omega), v1]; exact j3
      · rw [gF_F, if_pos ⟨rfl, rfl⟩]
