/-! ===== the pair dinners ===== -/
theorem Inv_cC {W : Nat → Prop} {T T' : St} (h : Fr W T T') (n : ∀ c, W c → irr c ∨ c = 10016 ∨ c = 18018 ∨ c = 18019) (i : Inv T) (h7 : ¬ T.1 571 7 = 0) (hc : cC T' (nB T)) : Inv T' := by
  unfold irr at n
  refine ⟨iSh_fr h (fun c hc hw => by have := n c hw; omega) i.1, iTp_fr h (fun c hc hw => by have := n c hw; omega) i.2.1, iTr_fr h (fun c hc hw => by have := n c hw; omega) i.2.2.1, ?_, iIm_fr h (fun c hc hw => by have := n c hw; omega) i.2.2.2.2⟩
  have n2 : ∀ c, (c = 10014 ∨ c = 10015 ∨ (558 ≤ c ∧ c < 564) ∨ (65700 ≤ c ∧ c < 65702) ∨ (67134 ≤ c ∧ c < 67137) ∨ c = 592 ∨ c = 593 ∨ c = 5000 ∨ c = 5001 ∨ c = 575 ∨ c = 77 ∨ c = 67107 ∨ c = 67132 ∨ (47 ≤ c ∧ c < 76 ∧ c ≠ 61) ∨ (14600 ≤ c ∧ c < 14700) ∨ (16100 ≤ c ∧ c < 16200)) → ¬ W c := fun c hc hw => by have := n c hw; omega
  obtain ⟨h1, h2, h3⟩ := i.2.2.2.1
  unfold iBk
  rw [q_R h (n2 5000 (by omega)), q_R h (n2 5001 (by omega)), q_F (c := 571) (k := 7) h (n2 67107 (by omega)), q_F (c := 571) (k := 32) h (n2 67132 (by omega)), nB_fr h (n2 575 (by omega))]
  refine ⟨h1, h2, ?_⟩
  rcases h3 with ⟨g1, _⟩ | ⟨g1, g2, g3, g4, g5, g6, g7⟩
  · exact absurd g1 h7
  · exact Or.inr ⟨g1, g2, BkX_fr h (fun c hc => n2 c (by omega)) g3, KitX_fr h (n2 _ (by omega)) g4, cX_fr h (fun c hc => n2 c (by omega)) g5, cM_fr h (fun c hc => n2 c (by omega)) g6, hc⟩
noncomputable def dnV (B : Nat → Int) (h t w : Int) : Int32 := if w = 0 then iz ((dnF (PE B t h) (2 ^ (B 16).toNat)).1 : Int) else iz (dnF (PE B t h) (2 ^ (B 16).toNat)).2
def dnG (h t w : Int) : Prop := (1 ≤ h ∧ h ≤ 3) ∧ (1 ≤ t ∧ t ≤ 60) ∧ 0 ≤ w ∧ w ≤ 1
def DnQ (T : St) (h t w : Int) (v : Int32) : Prop := (¬ dnG h t w → v = -1000001) ∧ (dnG h t w → T.1 571 7 = 0 → v = -1000002) ∧ (dnG h t w → ¬ T.1 571 7 = 0 → v = dnV (nB T) h t w)
theorem DnQ_u {T : St} {h t w : Int} {v u : Int32} (h1 : DnQ T h t w v) (h2 : DnQ T h t w u) : v = u := by
  by_cases q : dnG h t w
  · by_cases q2 : T.1 571 7 = 0
    · rw [h1.2.1 q q2, h2.2.1 q q2]
    · rw [h1.2.2 q q2, h2.2.2 q q2]
  · rw [h1.1 q, h2.1 q]
theorem DnQ_1 {T : St} {h t w : Int} (g : ¬ dnG h t w) : DnQ T h t w (-1000001) := ⟨fun _ => rfl, fun z => absurd z g, fun z => absurd z g⟩
theorem DnQ_2 {T : St} {h t w : Int} (g : dnG h t w) (h7 : T.1 571 7 = 0) : DnQ T h t w (-1000002) := ⟨fun z => absurd g z, fun _ _ => rfl, fun _ z => absurd h7 z⟩
theorem DnQ_3 {T : St} {h t w : Int} {v : Int32} (g : dnG h t w) (h7 : ¬ T.1 571 7 = 0) (e : v = dnV (nB T) h t w) : DnQ T h t w v := ⟨fun z => absurd g z, fun _ z => absurd z h7, fun _ _ => e⟩
def DnX (T : St) (h t w : Int) (r : Int32 × St) : Prop := DnQ T h t w r.1 ∧ Inv r.2 ∧ nB r.2 = nB T ∧ r.2.1 571 7 = T.1 571 7
theorem lx_dinners {T : St} {h t w : Int} (hI : Inv T) (hhr : -2147483648 ≤ h ∧ h < 2147483648) (htr : -2147483648 ≤ t ∧ t < 2147483648) (hwr : -2147483648 ≤ w ∧ w < 2147483648) : ok_x_dinners T (iz h) (iz t) (iz w) ∧ DnX T h t w (x_x_dinners T (iz h) (iz t) (iz w)) := by
  refine so_x_dinners (Q := DnX T h t w) _ _ _ ?_
  unfold wp_x_dinners
  refine jo ?_
  try dsimp only
  obtain ⟨o0, r0, _⟩ := x_ref hI 0
  obtain ⟨o1, _, r1, r2⟩ := x_ref hI 1
  have no : ¬ dnG h t w → ∀ P : Prop, ok_x_refusal T 0 ∧ ((x_x_refusal T 0 = 0 → P) ∧ (¬ x_x_refusal T 0 = 0 → DnX T h t w (x_x_refusal T 0, T))) := fun q P => ⟨o0, fun z => absurd z (by rw [r0 rfl]; decide), fun _ => by rw [r0 rfl]; exact ⟨DnQ_1 q, hI, rfl, rfl⟩⟩
  rw [x_time htr, z_1, iz_lt (by omega), z_3, iz_lt (by omega), lt0 (by omega), iz_lt (by omega)]
  refine ⟨fun q => no (by unfold dnG; omega) _, fun q1 => ⟨fun q => no (by unfold dnG; omega) _, fun q2 => ⟨fun q => no (by unfold dnG; omega) _, fun q3 => ⟨fun q => no (by unfold dnG; omega) _, fun q4 => ⟨fun q => no (by unfold dnG; omega) _, fun q5 => ⟨o1, fun z => ?_, fun z => ?_⟩⟩⟩⟩⟩⟩
  · have h7 : ¬ T.1 571 7 = 0 := fun y => by rw [← z_1, r1 (by decide) y] at z; exact absurd z (by decide)
    have hg : dnG h t w := by unfold dnG; omega
    obtain ⟨n, rfl⟩ : ∃ n : Nat, t = n := ⟨t.toNat, by omega⟩
    obtain ⟨hh, rfl⟩ : ∃ n : Nat, h = n := ⟨h.toNat, by omega⟩
    obtain ⟨hW, hX, hK, hM, h46⟩ := I_there hI h7
    obtain ⟨hb, hb2⟩ := b_46 h46
    obtain ⟨w1, w2, w3⟩ := WF_h hW
    have h16 := hW.2.2.1
    obtain ⟨nn, hnn⟩ : ∃ n : Nat, nB T 16 = n := ⟨(nB T 16).toNat, by omega⟩
    have ask : iz (hh : Int) * 61 + iz (n : Int) = iz ((hh * 61 + n : Nat) : Int) := by rw [z_61, iz_mul, iz_add]; exact iz_inj (by omega)
    have p8 : 2 ^ nn ≤ 256 := (Nat.pow_le_pow_right (by decide) (by omega) : 2 ^ nn ≤ 2 ^ 8)
    have p1 : 1 ≤ 2 ^ nn := Nat.one_le_two_pow
    have fin : ∀ U : St, Inv U → nB U = nB T → U.1 571 7 = T.1 571 7 → U.1 80 18 = iz ((dnF (PE (nB T) n hh) (2 ^ (nB T 16).toNat)).1 : Int) → U.1 80 19 = iz (dnF (PE (nB T) n hh) (2 ^ (nB T 16).toNat)).2 → ((iz w = 0 → DnX T hh n w (U.1 80 18, U)) ∧ (¬ iz w = 0 → DnX T hh n w (U.1 80 19, U))) := by
      intro U i1 i2 i3 e1 e2
      rw [eq0 (by omega)]
      refine ⟨fun y => ⟨DnQ_3 hg h7 ?_, i1, i2, i3⟩, fun y => ⟨DnQ_3 hg h7 ?_, i1, i2, i3⟩⟩
      · unfold dnV; rw [if_pos y]; exact e1
      · unfold dnV; rw [if_neg y]; exact e2
    have hcC : cC T (nB T) := by
      rcases hI.2.2.2.1.2.2 with ⟨g1, _⟩ | ⟨_, _, _, _, _, _, g7⟩
      · exact absurd g1 h7
      · exact g7
    rw [ask]
    refine jo ⟨fun y => ?_, fun y => ?_⟩
    · rcases hcC with c | ⟨h', t', a1, a2, a3, a4, a5, a6, a7⟩
      · rw [c, z_0, iz_eq (by omega)] at y; omega
      · rw [a5, iz_eq (by omega)] at y
        have e1 : h' = hh := by omega
        have e2 : t' = n := by omega
        subst e1; subst e2
        exact fin T hI rfl rfl a6 a7
    · rw [hX.2.2.2.2.2]
      obtain ⟨ok1, ⟨a1, a2, a3⟩, a4, hK1⟩ := s_fit (T := T) (a := 78) (b := T.2.1 0) (B := nB T) (h := hh) (o := nB T 203) (by decide) hb hX hW (by omega) w2
      have fr1 : Fr _ T _ := fr_ki_fit _ _ _ _ ok1
      refine ⟨hb, ok1, ?_⟩
      have hP1 : BkP (x_ki_fit T 78 (T.2.1 0) (iz (hh : Int)) (iz (nB T 203))) (T.2.1 0) (nB T) := BkP_fr (BkP_X hX) (by rw [a1]) (fun y z _ _ => by rw [a3])
      have e0 : (x_ki_fit T 78 (T.2.1 0) (iz (hh : Int)) (iz (nB T 203))).2.1 0 = T.2.1 0 := by rw [a2]
      rw [e0]
      generalize x_ki_fit T 78 (T.2.1 0) (iz (hh : Int)) (iz (nB T 203)) = L0 at *
      have al : ∀ V : St, V.1 (T.2.1 0) 4 = iz nn → x_bk_allDishes V (T.2.1 0) = iz ((2 ^ nn - 1 : Nat) : Int) := fun V hV => by
        show (1 : Int32) <<< ((V.1 (T.2.1 0) 4) &&& 31) - 1 = _
        rw [hV, bt_1 nn (by omega), z_1, iz_sub]; exact iz_inj (by omega)
      have hS2 : 2 ^ nn - 1 < 2 ^ (nB T 16).toNat := by rw [hnn, Int.toNat_natCast]; omega
      rw [al L0 (by rw [hP1.2.1.1, hnn])]
      obtain ⟨ok2, l1⟩ := s_lay (t := n) (D := 2 ^ nn - 1) hb hb2 (show sh 78 = .inr 3 by decide) (by omega) hP1 hK1 hW hS2 (by omega)
      have fr2 : Fr _ L0 _ := fr_pl_lay _ _ _ _ ok2
      have hP2 : BkP (x_pl_lay L0 (T.2.1 0) 78 (iz ((2 ^ nn - 1 : Nat) : Int)) (iz n)) (T.2.1 0) (nB T) := BkP_fr hP1 (q_F fr2 (by unfold W_pl_lay; omega)) (fun y z h1 h2 => q_A fr2 (by unfold W_pl_lay; omega))
      have hK2 : KitX (x_pl_lay L0 (T.2.1 0) 78 (iz ((2 ^ nn - 1 : Nat) : Int)) (iz n)) 78 (nB T) hh (nB T 203) := KitX_fr fr2 (by unfold W_pl_lay; omega) hK1
      have e02 : (x_pl_lay L0 (T.2.1 0) 78 (iz ((2 ^ nn - 1 : Nat) : Int)) (iz n)).2.1 0 = T.2.1 0 := by rw [q_R fr2 (by unfold W_pl_lay; omega)]; exact e0
      refine ⟨⟨hb, trivial⟩, hb, ok2, jo ?_⟩
      try dsimp only
      generalize x_pl_lay L0 (T.2.1 0) 78 (iz ((2 ^ nn - 1 : Nat) : Int)) (iz n) = L1 at *
      rw [e02, al L1 (by rw [hP2.2.1.1, hnn])]
      obtain ⟨ok4, pl⟩ := s_pset (cn := cnX (nB T) n hh (nB T 203) (fun _ _ => True)) hb hb2 (show 78 + 1 < 80 by omega) hW hS2 hP2 hK2 (LayQ_cg (fun d c => ⟨fun z => ⟨z, trivial⟩, fun z => z.1⟩) l1)
      have fr4 : Fr _ L1 _ := fr_pl_settle _ ok4
      refine ⟨⟨hb, trivial⟩, hb, ok4, ?_⟩
      generalize x_pl_settle L1 (iz ((2 ^ nn - 1 : Nat) : Int)) = L2 at *
      obtain ⟨ok5, c1, c2⟩ := s_count (T := L2) (B := nB T) (t := n) (h := hh) (n := nn) hb hb2 (show sh 78 = .inr 3 by decide) (by omega) hW (by omega) hnn pl
      have fr5 : Fr _ L2 _ := fr_pl_countDinners ok5
      refine ⟨ok5, jo ?_⟩
      have frA := fr_ww (fr_ww (fr_ww (fr_ww fr1 fr2) fr4) fr5) (fr_1 (T := x_pl_countDinners L2) (a := 0) (k := 16) (x := iz ((hh * 61 + n : Nat) : Int)))
      generalize x_pl_countDinners L2 = L3 at *
      have z18 : (sF L3 0 16 (iz ((hh * 61 + n : Nat) : Int))).1 80 18 = iz ((dnF (PE (nB T) n hh) (2 ^ (nB T 16).toNat)).1 : Int) := by rw [gF_F, if_neg (by omega), hnn, Int.toNat_natCast]; exact c1
      have z19 : (sF L3 0 16 (iz ((hh * 61 + n : Nat) : Int))).1 80 19 = iz (dnF (PE (nB T) n hh) (2 ^ (nB T 16).toNat)).2 := by rw [gF_F, if_neg (by omega), hnn, Int.toNat_natCast]; exact c2
      refine fin _ ?_ (nB_fr frA (by unfold W_ki_fit W_pl_lay W_pl_settle W_pl_countDinners; omega)) (q_F frA (by unfold W_ki_fit W_pl_lay W_pl_settle W_pl_countDinners; omega)) z18 z19
      refine Inv_cC frA (fun c hc => by unfold W_ki_fit W_pl_lay W_pl_settle W_pl_countDinners at hc; unfold irr; omega) hI h7 (Or.inr ⟨hh, n, by omega, by omega, by omega, by omega, ?_, z18, z19⟩)
      rw [gF_F, if_pos ⟨rfl, rfl⟩]
  · rw [← z_1] at z
    have h7 : T.1 571 7 = 0 := Classical.byContradiction fun y => z (r2 (by decide) y)
    rw [← z_1, r1 (by decide) h7]
    exact ⟨DnQ_2 (by unfold dnG; omega) h7, hI, rfl, rfl⟩
theorem lm_dinners {T U : St} {h t w : Int} (x2 : Inv U) (x3 : nB U = nB T) (x4 : U.1 571 7 = T.1 571 7) (hhr : -2147483648 ≤ h ∧ h < 2147483648) (htr : -2147483648 ≤ t ∧ t < 2147483648) (hwr : -2147483648 ≤ w ∧ w < 2147483648) : ok_m_dinners U (iz h) (iz t) (iz w) ∧ (fun r : Int32 × St => DnQ T h t w r.1 ∧ Inv r.2) (x_m_dinners U (iz h) (iz t) (iz w)) := by
  refine so_m_dinners (Q := fun r : Int32 × St => DnQ T h t w r.1 ∧ Inv r.2) _ _ _ ?_
  have tt := Inv_t 0 x2
  have e7' : (sF U 571 0 0).1 571 7 = T.1 571 7 := by rw [gF_F, if_neg (by omega)]; exact x4
  have eB' : nB (sF U 571 0 0) = nB T := x3
  unfold wp_m_dinners
  rw [m_by htr, e7', lz_w hhr, lz_w hwr, y_1, y_3, y_0, m_in (by omega), m_in (by omega)]
  generalize sF U 571 0 0 = V at *
  refine ⟨fun q => ⟨DnQ_1 (by unfold dnG; omega), tt⟩, fun q1 => ⟨fun q => ⟨DnQ_1 (by unfold dnG; omega), tt⟩, fun q2 => ⟨fun q => ⟨DnQ_1 (by unfold dnG; omega), tt⟩, fun q3 => ⟨fun q => ⟨DnQ_2 (by unfold dnG; omega) q, tt⟩, fun q4 => ?_⟩⟩⟩⟩
  have hg : dnG h t w := by unfold dnG; omega
  obtain ⟨n, rfl⟩ : ∃ n : Nat, t = n := ⟨t.toNat, by omega⟩
  obtain ⟨hh, rfl⟩ : ∃ n : Nat, h = n := ⟨h.toNat, by omega⟩
  obtain ⟨hW, _, _, _, _⟩ := I_there tt (by rw [e7']; exact q4)
  rw [eB'] at hW
  have h16 := hW.2.2.1
  obtain ⟨nn, hnn⟩ : ∃ n : Nat, nB T 16 = n := ⟨(nB T 16).toNat, by omega⟩
  have p8 : 2 ^ nn ≤ 256 := (Nat.pow_le_pow_right (by decide) (by omega) : 2 ^ nn ≤ 2 ^ 8)
  have p1 : 2 ≤ 2 ^ nn := (Nat.pow_le_pow_right (by decide) (by omega) : 2 ^ 1 ≤ 2 ^ nn)
  have hv : dnV (nB T) hh n w = if w = 0 then iz ((dnF (PE (nB T) n hh) (2 ^ nn)).1 : Int) else iz (dnF (PE (nB T) n hh) (2 ^ nn)).2 := by unfold dnV; rw [hnn, Int.toNat_natCast]
  generalize hPd : PE (nB T) n hh = P at *
  refine wr_m_dinners_57 _ _ _ (fun v4 v5 v6 W => ∃ k : Nat, 1 ≤ k ∧ k ≤ 2 ^ nn ∧ v6 = iz k ∧ v4 = iz ((dnF P k).1 : Int) ∧ v5 = iz (dnF P k).2 ∧ Inv W ∧ nB W = nB T) (fun v4 v5 v6 W => 256 - v6.toInt.toNat) ?_ _ _ _ _ _ ?_ ⟨1, by omega, by omega, rfl, by rw [dn_1]; rfl, by rw [dn_1]; rfl, tt, eB'⟩
  · rintro _ _ _ W ⟨k, k1, k2, rfl, rfl, rfl, i1, i2⟩
    have hM : MkX W (nB T) := fun j _ => by rw [← i2]; exact (iz_self _).symm
    have m0 : W.1 571 32 = 0 := i1.2.2.2.1.2.1
    have db := dn_b (P := P) k
    unfold bd_m_dinners_57
    rw [n_16, hM 16 (by omega), hnn, bt_1 nn (by omega), iz_le (by omega)]
    refine ⟨fun z => ?_, fun z => ?_⟩
    · have ek : k = 2 ^ nn := by omega
      try dsimp only
      rw [eq0 (by omega)]
      refine ⟨fun y => ⟨DnQ_3 hg q4 ?_, i1⟩, fun y => ⟨DnQ_3 hg q4 ?_, i1⟩⟩
      · rw [hv, if_pos y, ek]
      · rw [hv, if_neg y, ek]
    · have hk256 : k < 256 := by omega
      have b8 := bc_8 k hk256
      have nx : iz (k : Int) + 1 = iz ((k + 1 : Nat) : Int) := by rw [z_1, iz_add]; exact iz_inj (by omega)
      have ms : 256 - (iz ((k + 1 : Nat) : Int)).toInt.toNat < 256 - (iz (k : Int)).toInt.toNat := by rw [iz_t (by omega), iz_t (by omega)]; omega
      obtain ⟨ob, eb⟩ := s_bits (T := W) hk256
      rw [eb, nx, z_5, iz_le (by omega)]
      refine ⟨ob, fun y => ⟨⟨k + 1, by omega, by omega, rfl, by rw [dn_n (by omega)], by rw [dn_n (by omega)], i1, i2⟩, ms⟩, fun y => ?_⟩
      obtain ⟨ok, ep, _⟩ := s_canBe (V := W) (t := n) (h := hh) (D := k) hM hW m0 (by omega) (by omega) (by rw [hnn, Int.toNat_natCast]; omega) (by rw [sn_8]; exact ⟨bc_p k hk256 k1, by omega⟩)
      obtain ⟨j1, j2, _⟩ := I_canBe i1 ok
      have hpk : P k ↔ ¬ SK (nB T) n hh (nB T 203) (fun _ _ => True) k true = none := by rw [← hPd]; rfl
      refine ⟨ok, fun y2 => ?_, fun y2 => ?_⟩
      · have np : ¬ (1 ≤ k ∧ bc8 k ≤ 4 ∧ P k) := fun z => hpk.1 z.2.2 (ep.1 y2)
        exact ⟨⟨k + 1, by omega, by omega, rfl, by rw [dn_n np], by rw [dn_n np], j1, j2.trans i2⟩, ms⟩
      · have yes : 1 ≤ k ∧ bc8 k ≤ 4 ∧ P k := ⟨k1, by omega, hpk.2 fun z => y2 (ep.2 z)⟩
        have d1 : iz ((dnF P k).1 : Int) + 1 = iz ((dnF P (k + 1)).1 : Int) := by rw [dn_y yes, z_1, iz_add]; exact iz_inj (by show ((dnF P k).1 : Int) + 1 = (((dnF P k).1 + 1 : Nat) : Int); omega)
        have d2 : (dnF P (k + 1)).2 = if (dnF P k).2 = -1000000 ∨ bc8 (dnF P k).2.toNat < bc8 k then (k : Int) else (dnF P k).2 := by rw [dn_y yes]
        generalize (x_m_canBe W (iz k) (iz n) (iz hh)).2 = S at *
        rw [d1]
        rcases db.2 with z2 | z2
        · rw [z2] at d2 ⊢
          refine jo ⟨fun _ => ⟨⟨k + 1, by omega, by omega, rfl, rfl, by rw [d2, if_pos (Or.inl rfl)], j1, j2.trans i2⟩, ms⟩, fun z3 => absurd rfl z3⟩
        · obtain ⟨s, hs⟩ : ∃ s : Nat, (dnF P k).2 = s := ⟨(dnF P k).2.toNat, by omega⟩
          rw [hs] at d2 z2 ⊢
          have b82 := bc_8 s (by omega)
          obtain ⟨ob2, eb2⟩ := s_bits (T := S) (D := s) (by omega)
          obtain ⟨ob3, eb3⟩ := s_bits (T := S) (D := k) hk256
          rw [eb2, eb3, show (-1000000 : Int32) = iz (-1000000) from rfl, iz_eq (by omega), iz_le (by omega)]
          rw [Int.toNat_natCast] at d2
          refine jo ⟨fun z3 => by omega, fun z3 => ⟨ob3, ob2, fun z4 => ⟨⟨k + 1, by omega, by omega, rfl, rfl, ?_, j1, j2.trans i2⟩, ms⟩, fun z4 => ⟨⟨k + 1, by omega, by omega, rfl, rfl, ?_, j1, j2.trans i2⟩, ms⟩⟩⟩
          · rw [d2, if_neg (by omega)]
          · rw [d2, if_pos (by omega)]
  · show 256 - (1 : Int32).toInt.toNat < 1000
    omega
theorem i_dinners : P_dinners Inv := by
  intro T hI p0 p1 p2
  obtain ⟨h, hhr, rfl⟩ := iz_ex p0
  obtain ⟨t, htr, rfl⟩ := iz_ex p1
  obtain ⟨w, hwr, rfl⟩ := iz_ex p2
  have xs := lx_dinners hI hhr htr hwr
  have ms := lm_dinners xs.2.2.1 xs.2.2.2.1 xs.2.2.2.2 hhr htr hwr
  have x1 : DnQ T h t w (x_x_dinners T (iz h) (iz t) (iz w)).1 := xs.2.1
  have m1 : DnQ T h t w (x_m_dinners (x_x_dinners T (iz h) (iz t) (iz w)).2 (iz h) (iz t) (iz w)).1 := ms.2.1
  have m2 : Inv (x_m_dinners (x_x_dinners T (iz h) (iz t) (iz w)).2 (iz h) (iz t) (iz w)).2 := ms.2.2
  exact ⟨xs.1, ms.1, DnQ_u x1 m1, m2⟩
