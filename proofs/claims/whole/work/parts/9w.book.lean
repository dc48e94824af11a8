/-! ===== the pair book ===== -/
def bkB (tp : Nat → Nat) (n : Nat) : Nat → Int := fun j => (iz (upB (upB (p_all tp n).2.2 202 1) 203 60 j)).toInt
theorem bk_of {tp : Nat → Nat} {n b c1 c4 c10 : Nat} {U : St} {S : Nat × Nat × (Nat → Int)} {B : Nat → Int} (r : CR tp n b c1 c4 c10 (KB 7 c1 c4 c10) U S) (h0 : S.1 = 0) (e : ∀ j, j < 202 → iz (S.2.2 j) = iz (B j)) (h7 : B 7 = c1) (h16 : B 16 = c4) (h17 : B 17 = c10) (h2 : B 202 = 1) (h3 : B 203 = 60) (k1 : c1 ≤ 4) (k4 : c4 ≤ 8) (k10 : c10 ≤ 24) : BkX U b B := by
  obtain ⟨_, _, _, ⟨f1, f4, f10, f17, f18⟩, dat⟩ := r
  have dat := dat h0
  have g : ∀ j a i, KB 7 c1 c4 c10 j → aj j = a → ij j = i → ofj j = 0 → j < 202 → U.2.2.1 (b + a) i = iz (B j) := fun j a i hK ha hi ho hj => by
    have := (dat j hK).2
    rw [ha, hi, ho, Int.sub_zero, e j hj] at this
    exact this
  refine ⟨fun i hi => ?_, ⟨by rw [f1, h7], fun i hi => ?_⟩, ⟨by rw [f4, h16], fun d hd => ?_⟩, ⟨by rw [f10, h17], fun s hs => ?_⟩, by rw [f17, h2]; rfl, by rw [f18, h3]; rfl⟩
  · have o : aj i = 1 ∧ ij i = i ∧ ofj i = 0 := by
      unfold aj ij ofj
      simp (disch := omega) only [if_pos, if_neg]
      exact ⟨trivial, trivial, trivial⟩
    exact g i 1 i (Or.inl hi) o.1 o.2.1 o.2.2 (by omega)
  · rw [h7] at hi
    have a := aj_w (i := i) (k := 0) (by omega) (by omega)
    have a' := aj_w (i := i) (k := 1) (by omega) (by omega)
    exact ⟨g (8 + 2 * i + 0) 2 i (by unfold KB; omega) a.1 a.2.1 a.2.2.1 (by omega), g (8 + 2 * i + 1) 3 i (by unfold KB; omega) a'.1 a'.2.1 a'.2.2.1 (by omega)⟩
  · rw [h16] at hd
    have a := fun k hk => aj_d (i := d) (k := k) (by omega) hk
    exact ⟨g (18 + 5 * d + 0) 4 d (by unfold KB; omega) (a 0 (by omega)).1 (a 0 (by omega)).2.1 (a 0 (by omega)).2.2.1 (by omega), g (18 + 5 * d + 1) 5 d (by unfold KB; omega) (a 1 (by omega)).1 (a 1 (by omega)).2.1 (a 1 (by omega)).2.2.1 (by omega), g (18 + 5 * d + 2) 6 d (by unfold KB; omega) (a 2 (by omega)).1 (a 2 (by omega)).2.1 (a 2 (by omega)).2.2.1 (by omega), g (18 + 5 * d + 3) 7 d (by unfold KB; omega) (a 3 (by omega)).1 (a 3 (by omega)).2.1 (a 3 (by omega)).2.2.1 (by omega), g (18 + 5 * d + 4) 8 d (by unfold KB; omega) (a 4 (by omega)).1 (a 4 (by omega)).2.1 (a 4 (by omega)).2.2.1 (by omega)⟩
  · rw [h17] at hs
    have a := fun k hk => aj_s (i := s) (k := k) (by omega) hk
    refine ⟨?_, g (58 + 6 * s + 1) 10 s (by unfold KB; omega) (a 1 (by omega)).1 (a 1 (by omega)).2.1 (a 1 (by omega)).2.2.1 (by omega), g (58 + 6 * s + 2) 11 s (by unfold KB; omega) (a 2 (by omega)).1 (a 2 (by omega)).2.1 (a 2 (by omega)).2.2.1 (by omega), g (58 + 6 * s + 3) 12 s (by unfold KB; omega) (a 3 (by omega)).1 (a 3 (by omega)).2.1 (a 3 (by omega)).2.2.1 (by omega), g (58 + 6 * s + 4) 13 s (by unfold KB; omega) (a 4 (by omega)).1 (a 4 (by omega)).2.1 (a 4 (by omega)).2.2.1 (by omega), g (58 + 6 * s + 5) 14 s (by unfold KB; omega) (a 5 (by omega)).1 (a 5 (by omega)).2.1 (a 5 (by omega)).2.2.1 (by omega)⟩
    have t := (dat (58 + 6 * s + 0) (by unfold KB; omega)).2
    rw [(a 0 (by omega)).1, (a 0 (by omega)).2.1, (a 0 (by omega)).2.2.1, if_pos rfl, ← iz_sub, e _ (by omega), iz_sub] at t
    exact t
theorem iBk_f2 {W : Nat → Prop} {T T' : St} (h : Fr W T T') (n : ∀ c, (c = 10014 ∨ c = 10015 ∨ c = 10016 ∨ c = 18018 ∨ c = 18019 ∨ (558 ≤ c ∧ c < 564) ∨ (65700 ≤ c ∧ c < 65702) ∨ (67134 ≤ c ∧ c < 67137) ∨ c = 592 ∨ c = 593 ∨ c = 5000 ∨ c = 5001 ∨ c = 575 ∨ c = 77 ∨ c = 67107 ∨ c = 67132 ∨ (T.2.1 0 < c ∧ c < T.2.1 0 + 15) ∨ (10000 + 100 * T.2.1 0 ≤ c ∧ c < 10000 + 100 * T.2.1 0 + 100)) → ¬ W c) (i : iBk T) : iBk T' := by
  obtain ⟨h1, h2, h3⟩ := i
  unfold iBk
  rw [q_R h (n 5000 (by omega)), q_R h (n 5001 (by omega)), q_F h (n 67132 (by omega)), q_F h (n 67107 (by omega)), nB_fr h (n 575 (by omega))]
  refine ⟨h1, h2, ?_⟩
  rcases h3 with ⟨g1, g2, g3, g4, g5, g6, g7⟩ | ⟨g1, g2, g3, g4, g5, g6, g7⟩
  · refine Or.inl ⟨g1, fun j hj => ?_, ?_, ?_, ?_, ?_, ?_⟩
    · rw [q_A h (n _ (by omega))]; exact g2 j hj
    · rw [q_F h (n _ (by omega))]; exact g3
    · rw [q_F h (n _ (by omega))]; exact g4
    · rw [q_F h (n _ (by omega))]; exact g5
    · rw [q_F h (n _ (by omega))]; exact g6
    · rw [q_F h (n _ (by omega))]; exact g7
  · exact Or.inr ⟨g1, g2, BkX_fr h (fun c hc => n c (by omega)) g3, KitX_fr h (n _ (by omega)) g4, cX_fr h (fun c hc => n c (by omega)) g5, cM_fr h (fun c hc => n c (by omega)) g6, cC_fr h (fun c hc => n c (by omega)) g7⟩
def bxQ (tp : Nat → Nat) (n : Nat) (T : St) (r : Int32 × St) : Prop :=
  (¬ (p_all tp n).1 = 0 → r.1 = iz (-1000100 - (tpl tp n (p_all tp n).2.1 : Int)) ∧ r.2.1 0 13 = iz (p_all tp n).1 ∧ r.2.1 13 1 = 0 ∧ Fr (fun c => W_rd_read T (T.2.1 1) c ∨ c = 10013) T r.2) ∧
  ((p_all tp n).1 = 0 → r.1 = iz ((p_all tp n).2.2 16) ∧ r.2.1 13 1 = 0 ∧ r.2.1 0 13 = T.1 0 13 ∧ r.2.2.1 0 = T.2.1 1 ∧ r.2.2.1 1 = T.2.1 0 ∧ WF (bkB tp n) ∧ BkX r.2 (T.2.1 1) (bkB tp n) ∧ KitX r.2 76 (bkB tp n) (bkB tp n 5) (bkB tp n 203) ∧ r.2.1 0 14 = 0 ∧ r.2.1 0 16 = 0 ∧ Fr (fun c => W_rd_read T (T.2.1 1) c ∨ c = 5000 ∨ c = 5001 ∨ c = 77 ∨ c = 10014 ∨ c = 10016) T r.2)
theorem s_xbook {tp : Nat → Nat} {n : Nat} {T : St} (hT : TX tp n T) (hb : T.2.1 1 = 46 ∨ T.2.1 1 = 61) : ok_x_book T ∧ bxQ tp n T (x_x_book T) := by
  refine so_x_book (Q := bxQ tp n T) ?_
  unfold wp_x_book
  obtain ⟨ok, V0, c1, c4, c10, eV, r, bc⟩ := c_read hT hb
  have fr := fr_rd_read _ ok
  refine ⟨ok, ?_⟩
  generalize x_rd_read T (T.2.1 1) = V at *
  have v2 : V.1 13 2 = 0 ↔ (p_all tp n).1 = 0 := by rw [eV, gF_F, if_neg (by omega)]; exact CR_0 r
  have v1 : V.1 13 1 = 0 := by rw [eV, gF_F, if_pos ⟨rfl, rfl⟩]
  have q0 : V.2.1 0 = T.2.1 0 := q_R fr (by unfold W_rd_read; omega)
  have q1 : V.2.1 1 = T.2.1 1 := q_R fr (by unfold W_rd_read; omega)
  have v13 : V.1 0 13 = T.1 0 13 := q_F fr (by unfold W_rd_read; omega)
  refine ⟨fun y => ?_, fun y => ?_⟩
  · have y := v2.1 y
    obtain ⟨hW0, h16⟩ := all_W y
    have hW2 := PW_WF hW0 h16
    have hW : WF (bkB tp n) := WF_iz (fun j hj => iz_t hj) hW2
    have eb : ∀ j, -2147483648 ≤ upB (upB (p_all tp n).2.2 202 1) 203 60 j ∧ upB (upB (p_all tp n).2.2 202 1) 203 60 j < 2147483648 → bkB tp n j = upB (upB (p_all tp n).2.2 202 1) 203 60 j := fun j hj => iz_t hj
    have u : ∀ x, x < 202 → upB (upB (p_all tp n).2.2 202 1) 203 60 x = (p_all tp n).2.2 x := fun x hx => by rw [upB_n (by omega), upB_n (by omega)]
    obtain ⟨b7, b16, b17⟩ := bc y
    have w7 := hW2.2.1
    have w16 := hW2.2.2.1
    have w17 := wf_17 hW2
    rw [u 7 (by omega)] at w7
    rw [u 16 (by omega)] at w16
    rw [u 17 (by omega)] at w17
    have hX0 : BkX V0 (T.2.1 1) (bkB tp n) := bk_of r y (fun j hj => by rw [← u j hj]; exact (iz_self _).symm) (by rw [eb 7 (by rw [u 7 (by omega)]; omega), u 7 (by omega)]; exact b7) (by rw [eb 16 (by rw [u 16 (by omega)]; omega), u 16 (by omega)]; exact b16) (by rw [eb 17 (by rw [u 17 (by omega)]; omega), u 17 (by omega)]; exact b17) (by rw [eb 202 (by rw [upB_n (by omega), upB_s]; omega), upB_n (by omega), upB_s]) (by rw [eb 203 (by rw [upB_s]; omega), upB_s]) (by omega) (by omega) (by omega)
    have hX1 : BkX V (T.2.1 1) (bkB tp n) := by rw [eV]; exact BkX_fr fr_1 (fun c hc hw => by omega) hX0
    rw [q0, q1]
    have hR0 : (sR (sR V 1 (T.2.1 0)) 0 (T.2.1 1)).2.1 0 = T.2.1 1 := by rw [gR_R, if_pos rfl]
    have hR1 : (sR (sR V 1 (T.2.1 0)) 0 (T.2.1 1)).2.1 1 = T.2.1 0 := by rw [gR_R, if_neg (by omega), gR_R, if_pos rfl]
    have hX2 : BkX (sR (sR V 1 (T.2.1 0)) 0 (T.2.1 1)) ((sR (sR V 1 (T.2.1 0)) 0 (T.2.1 1)).2.1 0) (bkB tp n) := by rw [hR0]; exact hX1
    have frY : Fr (fun c => W_rd_read T (T.2.1 1) c ∨ c = 5000 ∨ c = 5001 ∨ c = 77 ∨ c = 10014 ∨ c = 10016) T (sR (sR V 1 (T.2.1 0)) 0 (T.2.1 1)) := fr_sR (fr_sR (fr_le fr (fun c hc => Or.inl hc)) (by omega)) (by omega)
    have y1 : (sR (sR V 1 (T.2.1 0)) 0 (T.2.1 1)).1 13 1 = 0 := v1
    have y13 : (sR (sR V 1 (T.2.1 0)) 0 (T.2.1 1)).1 0 13 = T.1 0 13 := v13
    refine jo ?_
    generalize sR (sR V 1 (T.2.1 0)) 0 (T.2.1 1) = Y at *
    obtain ⟨oc, hK, k14, k16⟩ := s_changed (T := Y) (by rw [hR0]; exact hb) hX2 hW
    have fc := fr_x_changed oc
    have c0 : (x_x_changed Y).2.1 0 = T.2.1 1 := by rw [q_R fc (by unfold W_x_changed; omega)]; exact hR0
    have cc1 : (x_x_changed Y).2.1 1 = T.2.1 0 := by rw [q_R fc (by unfold W_x_changed; omega)]; exact hR1
    have hX3 : BkX (x_x_changed Y) (T.2.1 1) (bkB tp n) := by rw [hR0] at hX2; exact BkX_fr fc (fun c hc hw => by unfold W_x_changed at hw; omega) hX2
    have c13 : (x_x_changed Y).1 13 1 = 0 := by rw [q_F fc (by unfold W_x_changed; omega)]; exact y1
    have cf : (x_x_changed Y).1 0 13 = T.1 0 13 := by rw [q_F fc (by unfold W_x_changed; omega)]; exact y13
    have frZ := fr_tr frY fc (fun c hc => by unfold W_x_changed at hc; omega)
    refine ⟨oc, ?_, ?_⟩
    · rw [c0]; exact b_sh hb
    · refine ⟨fun z => absurd y z, fun _ => ⟨?_, c13, cf, c0, cc1, hW, hX3, hK, k14, k16, frZ⟩⟩
      show (x_x_changed Y).1 ((x_x_changed Y).2.1 0) 4 = _
      rw [c0, hX3.2.2.1.1]
      unfold bkB
      rw [iz_self, u 16 (by omega)]
  · have y' : ¬ (p_all tp n).1 = 0 := fun z => y (v2.2 z)
    have f2 : V.1 13 2 = iz (p_all tp n).1 := by rw [eV, gF_F, if_neg (by omega)]; exact r.1
    have f3 : V.1 13 3 = iz (tpl tp n (p_all tp n).2.1) := by rw [eV, gF_F, if_neg (by omega)]; exact r.2.2.1.2.2.1
    refine ⟨fun _ => ⟨?_, ?_, ?_, ?_⟩, fun z => absurd z y'⟩
    · show (-1000100 : Int32) - (sF V 0 13 (V.1 13 2)).1 13 3 = _
      rw [gF_F, if_neg (by omega), f3, show (-1000100 : Int32) = iz (-1000100) from rfl, iz_sub]
    · show (sF V 0 13 (V.1 13 2)).1 0 13 = _
      rw [gF_F, if_pos ⟨rfl, rfl⟩]; exact f2
    · show (sF V 0 13 (V.1 13 2)).1 13 1 = 0
      rw [gF_F, if_neg (by omega)]; exact v1
    · exact fr_sF (fr_le fr (fun c hc => Or.inl hc)) (Or.inr rfl)
theorem i_book : P_book Inv2 := by
  intro T hI2
  obtain ⟨hI, hI'⟩ := hI2
  obtain ⟨n, hn, t1, t2, t3⟩ := hI.2.1.2
  have tpE : ∃ tp : Nat → Nat, ∀ j, j < n → tp j < 256 ∧ T.2.2.1 14 j = iz (tp j) ∧ T.2.2.1 577 j = iz (tp j) := by
    refine ⟨fun j => ((T.2.2.1 14 j).toInt).toNat, fun j hj => ?_⟩
    obtain ⟨c, c1, c2, c3⟩ := t3 j hj
    have e : ((T.2.2.1 14 j).toInt).toNat = c := by rw [c2, iz_t (by omega)]; omega
    show ((T.2.2.1 14 j).toInt).toNat < 256 ∧ T.2.2.1 14 j = iz (((T.2.2.1 14 j).toInt).toNat : Nat) ∧ T.2.2.1 577 j = iz (((T.2.2.1 14 j).toInt).toNat : Nat)
    rw [e]
    exact ⟨c1, c2, c3⟩
  obtain ⟨tp, ht⟩ := tpE
  have hR := hI.2.2.2.1.1
  have hb : T.2.1 1 = 46 ∨ T.2.1 1 = 61 := by omega
  obtain ⟨ox, hx⟩ := s_xbook (tp := tp) (n := n) (T := T) ⟨hn, t1, fun j hj => ⟨(ht j hj).1, (ht j hj).2.1⟩⟩ hb
  refine ⟨ox, ?_⟩
  generalize x_x_book T = r at *
  have F0 : ∃ W : Nat → Prop, Fr W T r.2 ∧ ∀ c, W c → ¬ (c = 67109 ∨ c = 577 ∨ c = 67110) := by
    by_cases y : (p_all tp n).1 = 0
    · obtain ⟨_, _, _, _, _, _, _, _, _, _, f⟩ := hx.2 y
      exact ⟨_, f, fun c hc => by unfold W_rd_read at hc; omega⟩
    · obtain ⟨_, _, _, f⟩ := hx.1 y
      exact ⟨_, f, fun c hc => by unfold W_rd_read at hc; omega⟩
  obtain ⟨W0, F0, nW⟩ := F0
  obtain ⟨om, hm⟩ := s_mbook (tp := tp) (n := n) (V := r.2) hn (by rw [q_F F0 (fun w => nW _ w (by omega))]; exact t2) (fun j hj => ⟨(ht j hj).1, by rw [q_A F0 (fun w => nW _ w (by omega))]; exact (ht j hj).2.2⟩)
  have r10 : r.2.1 571 10 = T.1 571 10 := q_F F0 (fun w => nW _ w (by omega))
  refine ⟨om, ?_⟩
  generalize x_m_book r.2 = m at *
  by_cases y : (p_all tp n).1 = 0
  · obtain ⟨x1, x2, x3, x4, x5, hW, hX, hK, x14, x16, fx⟩ := hx.2 y
    obtain ⟨m1, m575, m7, m32, m34, m9, m10, fm⟩ := hm.2 y
    refine ⟨by rw [x1, m1], ?_, fun k _ _ => m7⟩
    have nf : ∀ c k, c < 571 → k < 100 → m.2.1 c k = r.2.1 c k := fun c k hc hk => q_F fm (by unfold WmC WmB; omega)
    have fA := fr_ww fx fm
    refine Inv_new (B := bkB tp n) hI fA (fun c hc hw => by unfold W_rd_read WmC WmB at hc; omega) ⟨?_, 0, by omega, ?_, ?_, fun j hj => absurd hj (by omega)⟩ ?_ m32 m7 (fun j hj => ?_) hW ?_ ?_ ?_ ?_ m34
    · rw [nf 0 13 (by omega) (by omega), x3, m10, r10]; exact hI.2.1.1
    · rw [nf 13 1 (by omega) (by omega), x2]; rfl
    · rw [m9]; rfl
    · rw [q_R fm (by unfold WmC WmB; omega), q_R fm (by unfold WmC WmB; omega), x4, x5]; omega
    · unfold nB bkB; rw [m575 j hj]
    · rw [q_R fm (by unfold WmC WmB; omega), x4]; exact BkX_fr fm (fun c hc hw => by unfold WmC WmB at hw; omega) hX
    · exact KitX_fr fm (by unfold WmC WmB; omega) hK
    · rw [nf 0 14 (by omega) (by omega)]; exact x14
    · rw [nf 0 16 (by omega) (by omega)]; exact x16
  · obtain ⟨x1, x2, x3, fx⟩ := hx.1 y
    obtain ⟨m1, m10, m9, fm⟩ := hm.1 y
    have nf : ∀ c k, c < 571 → k < 100 → m.2.1 c k = r.2.1 c k := fun c k hc hk => q_F fm (by unfold WmB; omega)
    have fA := fr_ww fx fm
    refine ⟨by rw [x1, m1], ⟨iSh_fr fA (fun c hc hw => by unfold W_rd_read WmB at hw; omega) hI.1, ⟨?_, 0, by omega, ?_, ?_, fun j hj => absurd hj (by omega)⟩, iTr_fr fA (fun c hc hw => by unfold W_rd_read WmB at hw; omega) hI.2.2.1, iBk_f2 fA (fun c hc hw => by unfold W_rd_read WmB at hw; omega) hI.2.2.2.1, iIm_fr fA (fun c hc hw => by unfold W_rd_read WmB at hw; omega) hI.2.2.2.2⟩, fun k hk q => ?_⟩
    · rw [nf 0 13 (by omega) (by omega), x2, m10]
    · rw [nf 13 1 (by omega) (by omega), x3]; rfl
    · rw [m9]; rfl
    · rw [q_A fA (by unfold W_rd_read WmB; omega)] at q
      rw [q_F fA (by unfold W_rd_read WmB; omega)]
      exact hI' k hk q
