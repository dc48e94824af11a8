/-! ===== the pair mend ===== -/
theorem gk_cg {μ : Int} {F G b : Nat → Int} {k : Nat} (h : F k = G k) : gk μ F b k ↔ gk μ G b k := by
  unfold gk
  rw [h]
theorem kn_34 {T : St} {t : Int32} (ok : ok_m_know T t) : (x_m_know T t).2.1 571 34 = t := by
  unfold ok_m_know at ok
  unfold x_m_know
  have fin : ∀ S U : St, Fr (fun c => c ≠ 67134) S U → S.1 571 34 = t → (ok_m_layRow U) → ((x_m_layRow U).1 571 35, x_m_layRow U).2.1 571 34 = t := by
    intro S U h e o
    show (x_m_layRow U).1 571 34 = t
    rw [q_F (fr_m_layRow o) (by unfold W_m_layRow; omega), q_F h (by omega)]; exact e
  dsimp only [jn] at ok ⊢
  by_cases q : T.1 571 34 = t
  · rw [if_pos q]
    exact fin T T fr_rfl q (ok.1 q).1
  · rw [if_neg q]
    obtain ⟨_, _, kk⟩ := ok.2 q
    generalize (x_m_seek (sF T 571 32 0) ((sF T 571 32 0).2.2.1 575 (202 : Int32).toNatClampNeg) t ((sF T 571 32 0).2.2.1 575 (5 : Int32).toNatClampNeg) ((sF T 571 32 0).2.2.1 575 (203 : Int32).toNatClampNeg) 0 0).1 = v at *
    generalize (x_m_seek (sF T 571 32 0) ((sF T 571 32 0).2.2.1 575 (202 : Int32).toNatClampNeg) t ((sF T 571 32 0).2.2.1 575 (5 : Int32).toNatClampNeg) ((sF T 571 32 0).2.2.1 575 (203 : Int32).toNatClampNeg) 0 0).2 = V at *
    have e34 : (sF (sF (sF V 571 35 v) 571 34 t) 571 36 ((sF (sF V 571 35 v) 571 34 t).1 571 31)).1 571 34 = t := by rw [gF_F, if_neg (by omega), gF_F, if_pos ⟨rfl, rfl⟩]
    generalize sF (sF (sF V 571 35 v) 571 34 t) 571 36 ((sF (sF V 571 35 v) 571 34 t).1 571 31) = S at *
    have key : FrP (fun c => c ≠ 67134) S (x_m_know_61 t (fun w3 T203 => x_m_know_86 t (fun w4 T204 => ((x_m_layRow T204).1 571 35, x_m_layRow T204)) 1000 0 T203) 1000 0 S) := fr_m_know_61 (W := fun c => c ≠ 67134) (T0 := S) t (fun c h => by unfold WL_m_know_61 at h; omega) (fun w3 T203 hT203 kk => fr_m_know_86 (W := fun c => c ≠ 67134) (T0 := S) t (fun c h => by unfold WL_m_know_86 at h; omega) (fun w4 T204 hT204 kk => frp_i (fr_tr hT204 (fr_m_layRow kk.1) (fun c h => by unfold W_m_layRow at h; omega))) 1000 0 T203 hT203 kk) 1000 0 S fr_rfl kk
    exact (q_F (frp_o key) (c := 571) (k := 34) (by omega)).trans e34
noncomputable def mdV (B : Nat → Int) (t μ : Int) : Int32 := match SK0 B t with
  | none => -1000000
  | some c => match SK B t (B 5) μ (lkX B t μ c) (B 202).toNat false with
    | none => -1000000
    | some c' => iz (csm B (B 202).toNat 8 c')
def MdQ (T : St) (t m : Int) (v : Int32) : Prop := (¬ ((1 ≤ t ∧ t ≤ 60) ∧ 0 ≤ m ∧ m < 60) → v = -1000001) ∧ ((1 ≤ t ∧ t ≤ 60) ∧ 0 ≤ m ∧ m < 60 → (T.1 571 7 = 0 ∨ nB T 1 = 0 ∨ nB T 203 < 60) → v = -1000002) ∧ ((1 ≤ t ∧ t ≤ 60) ∧ 0 ≤ m ∧ m < 60 → ¬ (T.1 571 7 = 0 ∨ nB T 1 = 0 ∨ nB T 203 < 60) → v = mdV (nB T) t m)
theorem MdQ_u {T : St} {t m : Int} {v w : Int32} (h1 : MdQ T t m v) (h2 : MdQ T t m w) : v = w := by
  by_cases q : (1 ≤ t ∧ t ≤ 60) ∧ 0 ≤ m ∧ m < 60
  · by_cases q2 : T.1 571 7 = 0 ∨ nB T 1 = 0 ∨ nB T 203 < 60
    · rw [h1.2.1 q q2, h2.2.1 q q2]
    · rw [h1.2.2 q q2, h2.2.2 q q2]
  · rw [h1.1 q, h2.1 q]
theorem MdQ_1 {T : St} {t m : Int} (h : ¬ ((1 ≤ t ∧ t ≤ 60) ∧ 0 ≤ m ∧ m < 60)) : MdQ T t m (-1000001) := ⟨fun _ => rfl, fun z => absurd z h, fun z => absurd z h⟩
theorem MdQ_2 {T : St} {t m : Int} (h : (1 ≤ t ∧ t ≤ 60) ∧ 0 ≤ m ∧ m < 60) (h2 : T.1 571 7 = 0 ∨ nB T 1 = 0 ∨ nB T 203 < 60) : MdQ T t m (-1000002) := ⟨fun z => absurd h z, fun _ _ => rfl, fun _ z => absurd h2 z⟩
theorem MdQ_3 {T : St} {t m : Int} {v : Int32} (h : (1 ≤ t ∧ t ≤ 60) ∧ 0 ≤ m ∧ m < 60) (h2 : ¬ (T.1 571 7 = 0 ∨ nB T 1 = 0 ∨ nB T 203 < 60)) (e : v = mdV (nB T) t m) : MdQ T t m v := ⟨fun z => absurd h z, fun _ z => absurd z h2, fun _ _ => e⟩
def MdX (T : St) (t m : Int) (r : Int32 × St) : Prop := MdQ T t m r.1 ∧ Inv r.2 ∧ nB r.2 = nB T ∧ r.2.1 571 7 = T.1 571 7
theorem lx_mend {T : St} {t m : Int} (hI : Inv T) (htr : -2147483648 ≤ t ∧ t < 2147483648) (hkr : -2147483648 ≤ m ∧ m < 2147483648) : ok_x_mend T (iz t) (iz m) ∧ MdX T t m (x_x_mend T (iz t) (iz m)) := by
  refine so_x_mend (Q := MdX T t m) _ _ ?_
  unfold wp_x_mend
  refine jo ?_
  try dsimp only
  obtain ⟨o0, r0, _⟩ := x_ref hI 0
  obtain ⟨o1, _, r1, r2⟩ := x_ref hI 1
  have no : ¬ ((1 ≤ t ∧ t ≤ 60) ∧ 0 ≤ m ∧ m < 60) → ∀ P : Prop, ok_x_refusal T 0 ∧ ((x_x_refusal T 0 = 0 → P) ∧ (¬ x_x_refusal T 0 = 0 → MdX T t m (x_x_refusal T 0, T))) := fun q P => ⟨o0, fun z => absurd z (by rw [r0 rfl]; decide), fun _ => by rw [r0 rfl]; exact ⟨MdQ_1 q, hI, rfl, rfl⟩⟩
  rw [x_time htr, x_min hkr]
  refine ⟨fun q => no (by omega) _, fun q => ⟨fun q2 => no (by omega) _, fun q2 => ⟨o1, fun z => ?_, fun z => ?_⟩⟩⟩
  · have h7 : ¬ T.1 571 7 = 0 := fun y => by rw [r1 (by decide) y] at z; exact absurd z (by decide)
    have hg : (1 ≤ t ∧ t ≤ 60) ∧ 0 ≤ m ∧ m < 60 := by omega
    obtain ⟨n, rfl⟩ : ∃ n : Nat, t = n := ⟨t.toNat, by omega⟩
    obtain ⟨hW, hX, hK, hM, h46⟩ := I_there hI h7
    obtain ⟨hb, hb2⟩ := b_46 h46
    obtain ⟨D, d1, d2, d3, d4⟩ := WF_D hW
    have w0 := hW.1
    have w3 := hW.2.2.2.2.2.2.2
    rw [n_1, hX.1 1 (by omega), hX.2.2.2.2.2, eq0 (by omega), z_60, iz_le (by omega)]
    refine ⟨hb, fun q3 => ⟨MdQ_2 hg (Or.inr (Or.inl q3)), hI, rfl, rfl⟩, fun q3 => ⟨fun q4 => ?_, fun q4 => ⟨MdQ_2 hg (Or.inr (Or.inr (by omega))), hI, rfl, rfl⟩⟩⟩
    have hns : ¬ (T.1 571 7 = 0 ∨ nB T 1 = 0 ∨ nB T 203 < 60) := by
      rintro (y | y | y)
      · exact h7 y
      · exact q3 y
      · omega
    obtain ⟨ok, f1, f2, f3⟩ := s_fplan (t := n) hI h7 (by omega)
    obtain ⟨i1, i2, i3⟩ := I_fplan (t := n) hI h7 (by omega)
    refine ⟨ok, fun y => ⟨MdQ_3 hg hns ?_, i1, i2, i3⟩, fun y => ?_⟩
    · cases hS : SK0 (nB T) n with
      | none => unfold mdV; rw [hS]
      | some c => rw [(f3 c hS).1] at y; exact absurd y (by decide)
    cases hS : SK0 (nB T) n with
    | none => exact absurd (f2 hS) y
    | some c =>
      obtain ⟨_, _, g2, g3, _⟩ := f3 c hS
      have hpl : ∀ d, d < 8 → D.testBit d = true → c d < chn (nB T) d ∧ 0 ≤ bg (nB T) n d (c d) 0 := by
        intro d hd hm
        have hs2 := hS
        unfold SK0 at hs2
        rw [d2] at hs2
        rcases exS_res 8 0 (fun _ => 0) none c hs2 with z | ⟨z1, _, z3⟩
        · cases z
        · exact ⟨z3 d (Nat.zero_le d) (by omega) hm, (z1.1 d hd hm).1⟩
      rw [d2] at g2 g3
      have i7 : ¬ (x_x_findsPlan T (iz n)).2.1 571 7 = 0 := by rw [i3]; exact h7
      obtain ⟨_, hX1, _, _, h461⟩ := I_there i1 i7
      rw [i2] at hX1
      generalize (x_x_findsPlan T (iz n)).2 = S at *
      obtain ⟨hb', hb2'⟩ := b_46 h461
      have e17 : S.1 (S.2.1 0) 17 = iz D := by rw [hX1.2.2.2.2.1, d1]
      rw [n_5, hX1.1 5 (by omega)]
      obtain ⟨ok1, ⟨a1, a2, a3⟩, a4, hK1⟩ := s_fit (T := S) (a := 78) (b := S.2.1 0) (B := nB T) (h := nB T 5) (o := m) (by decide) hb' hX1 hW (by omega) (by omega)
      have fr1 : Fr _ S _ := fr_ki_fit _ _ _ _ ok1
      refine ⟨hb', ok1, jo ?_⟩
      try dsimp only
      have hP1 : BkP (x_ki_fit S 78 (S.2.1 0) (iz (nB T 5)) (iz m)) (S.2.1 0) (nB T) := BkP_fr (BkP_X hX1) (by rw [a1]) (fun y z _ _ => by rw [a3])
      have e0 : (x_ki_fit S 78 (S.2.1 0) (iz (nB T 5)) (iz m)).2.1 0 = S.2.1 0 := by rw [a2]
      have e171 : (x_ki_fit S 78 (S.2.1 0) (iz (nB T 5)) (iz m)).1 (S.2.1 0) 17 = iz D := by rw [a1]; exact e17
      have rx1 : RowX (x_ki_fit S 78 (S.2.1 0) (iz (nB T 5)) (iz m)) 557 (nB T) D := RowX_fr fr1 (fun c hc hw => by unfold W_ki_fit at hw; omega) g2
      have rb1 : RowB (x_ki_fit S 78 (S.2.1 0) (iz (nB T 5)) (iz m)) 557 (nB T) D (fun d => bg (nB T) n d (c d)) := RowB_fr fr1 (by unfold W_ki_fit; omega) g3
      rw [e0]
      generalize x_ki_fit S 78 (S.2.1 0) (iz (nB T 5)) (iz m) = L0 at *
      rw [e171]
      obtain ⟨ok2, l1⟩ := s_lay (t := n) (D := D) hb' hb2' (show sh 78 = .inr 3 by decide) (by omega) hP1 hK1 hW d3 (by omega)
      have fr2 : Fr _ L0 _ := fr_pl_lay _ _ _ _ ok2
      have hP2 : BkP (x_pl_lay L0 (S.2.1 0) 78 (iz D) (iz n)) (S.2.1 0) (nB T) := BkP_fr hP1 (q_F fr2 (by unfold W_pl_lay; omega)) (fun y z h1 h2 => q_A fr2 (by unfold W_pl_lay; omega))
      have hK2 : KitX (x_pl_lay L0 (S.2.1 0) 78 (iz D) (iz n)) 78 (nB T) (nB T 5) m := KitX_fr fr2 (by unfold W_pl_lay; omega) hK1
      have e02 : (x_pl_lay L0 (S.2.1 0) 78 (iz D) (iz n)).2.1 0 = S.2.1 0 := by rw [q_R fr2 (by unfold W_pl_lay; omega)]; exact e0
      have e172 : (x_pl_lay L0 (S.2.1 0) 78 (iz D) (iz n)).1 (S.2.1 0) 17 = iz D := by rw [q_F fr2 (by unfold W_pl_lay; omega)]; exact e171
      have rx2 : RowX (x_pl_lay L0 (S.2.1 0) 78 (iz D) (iz n)) 557 (nB T) D := RowX_fr fr2 (fun c hc hw => by unfold W_pl_lay at hw; omega) rx1
      have rb2 : RowB (x_pl_lay L0 (S.2.1 0) 78 (iz D) (iz n)) 557 (nB T) D (fun d => bg (nB T) n d (c d)) := RowB_fr fr2 (by unfold W_pl_lay; omega) rb1
      refine ⟨hb', ok2, ?_⟩
      generalize x_pl_lay L0 (S.2.1 0) 78 (iz D) (iz n) = L1 at *
      obtain ⟨ok3, s1, s2, s3⟩ := s_strikeU (μ := m) (c0 := c) (r := 557) (by decide) (by omega) hb' hb2' hW d3 d4.2 (by omega) (by omega) hP2 l1 rx2 rb2 hpl
      have fr3 : Fr _ L1 _ := fr_pl_strikeUnlike _ _ ok3
      refine ⟨ok3, ?_⟩
      have hP3 : BkP (x_pl_strikeUnlike L1 557 (iz m)) (S.2.1 0) (nB T) := BkP_fr hP2 (s1 _ _ (by omega)) (fun y z h1 h2 => by rw [show (x_pl_strikeUnlike L1 557 (iz m)).2.2.1 = L1.2.2.1 from congrArg (fun p => p.2.1) s2])
      have hK3 : KitX (x_pl_strikeUnlike L1 557 (iz m)) 78 (nB T) (nB T 5) m := by
        intro w n m h1 h2 h3 h4
        rw [show (x_pl_strikeUnlike L1 557 (iz _)).2.2.2 = L1.2.2.2 from congrArg (fun p => p.2.2) s2]
        exact hK2 w n m h1 h2 h3 h4
      have e03 : (x_pl_strikeUnlike L1 557 (iz m)).2.1 0 = S.2.1 0 := by rw [show (x_pl_strikeUnlike L1 557 (iz m)).2.1 = L1.2.1 from congrArg Prod.fst s2]; exact e02
      have e173 : (x_pl_strikeUnlike L1 557 (iz m)).1 (S.2.1 0) 17 = iz D := by rw [s1 _ _ (by omega)]; exact e172
      rw [e03, e173]
      refine ⟨hb', ?_⟩
      generalize x_pl_strikeUnlike L1 557 (iz m) = L2 at *
      obtain ⟨ok4, pl⟩ := s_pset (cn := cnX (nB T) n (nB T 5) m (lkX (nB T) n m c)) hb' hb2' (show 78 + 1 < 80 by omega) hW d3 hP3 hK3 (LayQ_cg (fun d c => Iff.rfl) s3)
      have fr4 : Fr _ L2 _ := fr_pl_settle _ ok4
      have e04 : (x_pl_settle L2 (iz D)).2.1 0 = S.2.1 0 := by rw [q_R fr4 (by unfold W_pl_settle; omega)]; exact e03
      have e174 : (x_pl_settle L2 (iz D)).1 (S.2.1 0) 17 = iz D := by rw [q_F fr4 (by unfold W_pl_settle; omega)]; exact e173
      refine ⟨ok4, jo ?_⟩
      try dsimp only
      generalize x_pl_settle L2 (iz D) = L3 at *
      rw [e04, e174]
      have fn : ok_pl_finds L3 (iz D) 0 ∧ FnQ (nB T) n (nB T 5) m (lkX (nB T) n m c) D (S.2.1 0) 78 D false (x_pl_finds L3 (iz D) 0) := s_finds (any := false) hb' hb2' (show sh 78 = .inr 3 by decide) (by omega) hW d3 (fun _ h => h) d3 d4 (by omega) (fun _ => by omega) pl
      obtain ⟨ok5, f1, f2, f3⟩ := fn
      have fr5 : Fr _ L3 _ := fr_pl_finds _ _ ok5
      have frA := fr_ww (fr_ww (fr_ww (fr_ww fr1 fr2) fr3) fr4) fr5
      have j1 : Inv (x_pl_finds L3 (iz D) 0).2 := Inv_irr frA (fun c hc => by unfold W_ki_fit W_pl_lay W_pl_strikeUnlike W_pl_settle W_pl_finds at hc; unfold irr; omega) i1
      have j2 : nB (x_pl_finds L3 (iz D) 0).2 = nB T := by rw [nB_fr frA (by unfold W_ki_fit W_pl_lay W_pl_strikeUnlike W_pl_settle W_pl_finds; omega)]; exact i2
      have j3 : (x_pl_finds L3 (iz D) 0).2.1 571 7 = T.1 571 7 := by rw [q_F frA (by unfold W_ki_fit W_pl_lay W_pl_strikeUnlike W_pl_settle W_pl_finds; omega)]; exact i3
      refine ⟨hb', ok5, fun z => ⟨MdQ_3 hg hns ?_, j1, j2, j3⟩, fun z => ⟨MdQ_3 hg hns ?_, j1, j2, j3⟩⟩
      · unfold mdV
        rw [hS, d2]
        cases hS2 : SK (nB T) n (nB T 5) m (lkX (nB T) n m c) D false with
        | none => simp only [hS2]
        | some c' => rw [(f3 c' hS2).1] at z; exact absurd z (by decide)
      · unfold mdV
        rw [hS, d2]
        cases hS2 : SK (nB T) n (nB T 5) m (lkX (nB T) n m c) D false with
        | none => exact absurd (f2 hS2).1 z
        | some c' => simp only [hS2]; exact (f3 c' hS2).2.1
  · have h7 : T.1 571 7 = 0 := Classical.byContradiction fun y => z (r2 (by decide) y)
    rw [r1 (by decide) h7]
    exact ⟨MdQ_2 (by omega) (Or.inl h7), hI, rfl, rfl⟩
theorem lm_mend {T U : St} {t m : Int} (x2 : Inv U) (x3 : nB U = nB T) (x4 : U.1 571 7 = T.1 571 7) (htr : -2147483648 ≤ t ∧ t < 2147483648) (hkr : -2147483648 ≤ m ∧ m < 2147483648) : ok_m_mend U (iz t) (iz m) ∧ (fun r : Int32 × St => MdQ T t m r.1 ∧ Inv r.2) (x_m_mend U (iz t) (iz m)) := by
  refine so_m_mend (Q := fun r : Int32 × St => MdQ T t m r.1 ∧ Inv r.2) _ _ ?_
  have tt := Inv_t 0 x2
  have e7' : (sF U 571 0 0).1 571 7 = T.1 571 7 := by rw [gF_F, if_neg (by omega)]; exact x4
  have eB' : nB (sF U 571 0 0) = nB T := x3
  have hM : MkX (sF U 571 0 0) (nB T) := by rw [← eB']; exact fun j _ => (iz_self _).symm
  unfold wp_m_mend
  rw [m_by htr, m_min hkr, e7', n_1, show (203 : Int32).toNatClampNeg = 203 from rfl, hM 1 (by omega), hM 203 (by omega)]
  generalize sF U 571 0 0 = V at *
  refine ⟨fun c1 => ⟨MdQ_1 (by omega), tt⟩, fun c1 => ⟨fun c2 => ⟨MdQ_1 (by omega), tt⟩, fun c2 => ⟨fun c7 => ⟨MdQ_2 (by omega) (Or.inl c7), tt⟩, fun c7 => ?_⟩⟩⟩
  have hg : (1 ≤ t ∧ t ≤ 60) ∧ 0 ≤ m ∧ m < 60 := by omega
  obtain ⟨n, rfl⟩ : ∃ n : Nat, t = n := ⟨t.toNat, by omega⟩
  obtain ⟨ok, ⟨q1, q2, q3, q4, q5⟩, i1, i2, i3⟩ := I_know (t := n) tt (by rw [e7']; exact c7) (by omega)
  obtain ⟨hW, _, _, _, _⟩ := I_there tt (by rw [e7']; exact c7)
  rw [eB'] at q1 q3 q4 q5 hW i2
  obtain ⟨D, d1, d2, d3, d4⟩ := WF_D hW
  have w0 := hW.1
  have w3 := hW.2.2.2.2.2.2.2
  rw [eq0 (by omega), z_60, iz_le (by omega)]
  refine ⟨fun q => ⟨MdQ_2 hg (Or.inr (Or.inl q)), tt⟩, fun q => ⟨fun q2' => ?_, fun q2' => ⟨MdQ_2 hg (Or.inr (Or.inr (by omega))), tt⟩⟩⟩
  have hns : ¬ (T.1 571 7 = 0 ∨ nB T 1 = 0 ∨ nB T 203 < 60) := by
    rintro (y | y | y)
    · exact c7 y
    · exact q y
    · omega
  refine ⟨ok, fun y => ⟨MdQ_3 hg hns ?_, i1⟩, fun y => ?_⟩
  · cases hS : SK0 (nB T) n with
    | none => unfold mdV; rw [hS]
    | some c => rw [(q5 c hS).1] at y; exact absurd y (by decide)
  have c7' : ¬ (x_m_know V (iz n)).2.1 571 7 = 0 := by rw [i3, e7']; exact c7
  cases hS : SK0 (nB T) n with
  | none => exact absurd (q4 hS) y
  | some c =>
    have hpl : ∀ d, d < 8 → D.testBit d = true → c d < chn (nB T) d ∧ 0 ≤ bg (nB T) n d (c d) 0 := by
      intro d hd hm
      have hs2 := hS
      unfold SK0 at hs2
      rw [d2] at hs2
      rcases exS_res 8 0 (fun _ => 0) none c hs2 with z | ⟨z1, _, z3⟩
      · cases z
      · exact ⟨z3 d (Nat.zero_le d) (by omega) hm, (z1.1 d hd hm).1⟩
    -- what know left of the plan
    have lb : ∀ d, d < 8 → D.testBit d = true → ∀ k, k < nO (nB T) d → (x_m_know V (iz n)).2.2.2.1 593 (3 * sn D d + k) = iz (bg (nB T) n d (c d) k) := by
      have h34 : (x_m_know V (iz n)).2.1 571 34 = iz n := kn_34 ok
      rcases q3 with (z | z) | ⟨t', h1, h2, h3, h4, h5⟩
      · rw [h34, z_0, iz_eq (by omega)] at z; omega
      · rw [h34, iz_eq (by omega)] at z; omega
      · rw [h34, iz_eq (by omega)] at h3
        have : t' = n := by omega
        subst this
        have := (h5 c hS).2.2
        rw [d2] at this
        exact fun d hd hm k hk => (this d hd hm).2 k hk
    generalize (x_m_know V (iz n)).2 = S at *
    refine wr_m_mend_67 _ _ (fun x W => ∃ i : Nat, i ≤ 12 ∧ x = iz i ∧ Fr (fun c => c = 591) S W ∧ ∀ j, j < i → W.2.2.1 591 j = S.2.2.1 593 j) (fun x U => 12 - x.toInt.toNat) ?_ _ _ _ ?_ ?_
    · rintro _ W ⟨i, k1, rfl, v1, v3⟩
      have nx : iz (i : Int) + 1 = iz ((i + 1 : Nat) : Int) := by rw [z_1, iz_add]; exact iz_inj (by omega)
      unfold bd_m_mend_67
      rw [z_12, iz_le (by omega)]
      refine ⟨fun q => ?_, fun q => ?_⟩
      · have hi : i = 12 := by omega
        subst hi
        have frW : Fr _ S (sF W 571 32 (iz m)) := fr_ww v1 fr_1
        have hMW : MkX (sF W 571 32 (iz m)) (nB T) := MkX_fr frW (by omega) q1
        have m32 : (sF W 571 32 (iz m)).1 571 32 = iz m := by rw [gF_F, if_pos ⟨rfl, rfl⟩]
        have hF : ∀ d, d < 8 → D.testBit d = true → ∀ k, k < nO (nB T) d → ((sF W 571 32 (iz m)).2.2.1 591 (3 * sn D d + k)).toInt = bg (nB T) n d (c d) k := fun d hd hm k hk => by
          have hdB := mem_lt hW d3 d hm
          have n3 := wf_n hW hdB
          have sl := sn_lt (D := D) (e := 8) hm hd
          have br := bg_r hW hdB (hpl d hd hm).1 (t := (n : Int)) (by omega) (Nat.le_of_lt hk)
          rw [gF_A, v3 _ (by omega), lb d hd hm k hk, iz_t (by omega)]
        try dsimp only
        rw [show (202 : Int32).toNatClampNeg = 202 from rfl, n_5, hMW 202 (by omega), hMW 5 (by omega), d1]
        generalize sF W 571 32 (iz m) = W2 at *
        have sk : ok_m_seek W2 (iz D) (iz n) (iz (nB T 5)) (iz m) 0 0 ∧ SkF (x_m_seek W2 (iz D) (iz n) (iz (nB T 5)) (iz m) 0 0).2 (nB T) D n (SK (nB T) n (nB T 5) m (lkX (nB T) n m c) D false) (x_m_seek W2 (iz D) (iz n) (iz (nB T 5)) (iz m) 0 0).1 := s_seek (any := false) (ne := false) (μ := m) hMW hW d3 d4 (by omega) (by omega) (by omega) (by omega) m32 (fun d c' hm hc h0 => by
          have hd : d < 8 := by have := mem_lt hW d3 d hm; have := hW.2.2.1; omega
          refine ⟨fun z => ⟨fun y => (by cases y), fun k hk => ?_⟩, fun z k hk => ?_⟩
          · exact (gk_cg (hF d hd hm k hk)).2 (z k hk)
          · exact (gk_cg (hF d hd hm k hk)).1 (z.2 k hk))
        have fs : Fr _ W2 _ := fr_m_seek _ _ _ _ _ _ sk.1
        refine ⟨sk.1, jo (jo ?_)⟩
        try dsimp only
        have frZ := fr_ww (fr_ww frW fs) (fr_1 (T := (x_m_seek W2 (iz D) (iz n) (iz (nB T 5)) (iz m) 0 0).2) (a := 571) (k := 32) (x := 0))
        have zI : Inv (sF (x_m_seek W2 (iz D) (iz n) (iz (nB T 5)) (iz m) 0 0).2 571 32 0) := by
          obtain ⟨cx, cm⟩ := I_cc i1 c7'
          exact Inv_pl frZ (fun c hc => by unfold W_m_seek at hc; unfold irr; omega) i1 c7' (by rw [gF_F, if_pos ⟨rfl, rfl⟩]) (cX_fr frZ (fun c hc hw => by unfold W_m_seek at hw; omega) cx) (cM_fr frZ (fun c hc hw => by unfold W_m_seek at hw; omega) cm)
        obtain ⟨_, sk⟩ := sk
        refine ⟨fun z => ⟨MdQ_3 hg hns ?_, zI⟩, fun z => ⟨MdQ_3 hg hns ?_, zI⟩⟩
        · unfold mdV
          rw [hS, d2]
          rcases sk with ⟨g, _⟩ | ⟨c0, _, g, _⟩
          · simp only [g]
          · rw [g] at z; exact absurd z (by decide)
        · unfold mdV
          rw [hS, d2]
          rcases sk with ⟨_, g⟩ | ⟨c0, g, _, g2, _⟩
          · exact absurd g z
          · simp only [g]
            rw [gF_F, if_neg (by omega)]; exact g2
      · rw [nx, ix_nat (by omega)]
        refine ⟨in_nat (by omega) (by omega), ⟨i + 1, by omega, rfl, fr_tr v1 fr_1A (fun c hc => hc), fun j hj => ?_⟩, ?_⟩
        · rw [gA_A]
          by_cases z : j = i
          · rw [if_pos ⟨rfl, z⟩, q_A v1 (by omega), z]
          · rw [if_neg (by omega)]; exact v3 j (by omega)
        · show 12 - (iz ((i + 1 : Nat) : Int)).toInt.toNat < 12 - (iz (i : Int)).toInt.toNat
          rw [iz_t (by omega), iz_t (by omega)]; omega
    · show 12 - (0 : Int32).toInt.toNat < 1000
      omega
    · exact ⟨0, by omega, rfl, fr_rfl, fun j hj => absurd hj (Nat.not_lt_zero _)⟩
theorem i_mend : P_mend Inv := by
  intro T hI p0 p1
  obtain ⟨t, htr, rfl⟩ := iz_ex p0
  obtain ⟨k, hkr, rfl⟩ := iz_ex p1
  have xs := lx_mend hI htr hkr
  have ms := lm_mend xs.2.2.1 xs.2.2.2.1 xs.2.2.2.2 htr hkr
  have x1 : MdQ T t k (x_x_mend T (iz t) (iz k)).1 := xs.2.1
  have m1 : MdQ T t k (x_m_mend (x_x_mend T (iz t) (iz k)).2 (iz t) (iz k)).1 := ms.2.1
  have m2 : Inv (x_m_mend (x_x_mend T (iz t) (iz k)).2 (iz t) (iz k)).2 := ms.2.2
  exact ⟨xs.1, ms.1, MdQ_u x1 m1, m2⟩
