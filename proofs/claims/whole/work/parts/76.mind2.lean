/-! ===== the pair mind, both sides ===== -/
theorem lx_mind {T : St} {t m : Int} (hI : Inv T) (htr : -2147483648 ≤ t ∧ t < 2147483648) (hkr : -2147483648 ≤ m ∧ m < 2147483648) : ok_x_mind T (iz t) (iz m) ∧ GX T (0 ≤ m ∧ m < 60) t (MC (nB T) (nB T 202).toNat t m) (x_x_mind T (iz t) (iz m)) := by
  refine so_x_mind (Q := GX T (0 ≤ m ∧ m < 60) t (MC (nB T) (nB T 202).toNat t m)) _ _ ?_
  unfold wp_x_mind
  refine jo ?_
  try dsimp only
  obtain ⟨o0, r0, _⟩ := x_ref hI 0
  obtain ⟨o1, _, r1, r2⟩ := x_ref hI 1
  have no : ¬ ((1 ≤ t ∧ t ≤ 60) ∧ 0 ≤ m ∧ m < 60) → ∀ P : Prop, ok_x_refusal T 0 ∧ ((x_x_refusal T 0 = 0 → P) ∧ (¬ x_x_refusal T 0 = 0 → GX T (0 ≤ m ∧ m < 60) t (MC (nB T) (nB T 202).toNat t m) (x_x_refusal T 0, T))) := fun q P => ⟨o0, fun z => absurd z (by rw [r0 rfl]; decide), fun _ => by rw [r0 rfl]; exact ⟨GV_1 q, hI, rfl, rfl⟩⟩
  rw [x_time htr, x_min hkr]
  refine ⟨fun q => no (by omega) _, fun q => ⟨fun q2 => no (by omega) _, fun q2 => ⟨o1, fun z => ?_, fun z => ?_⟩⟩⟩
  · have h7 : ¬ T.1 571 7 = 0 := fun y => by rw [r1 (by decide) y] at z; exact absurd z (by decide)
    have hg : (1 ≤ t ∧ t ≤ 60) ∧ 0 ≤ m ∧ m < 60 := by omega
    obtain ⟨n, rfl⟩ : ∃ n : Nat, t = n := ⟨t.toNat, by omega⟩
    obtain ⟨hW, hX, hK, hM, h46⟩ := I_there hI h7
    obtain ⟨D, d1, d2, d3, d4⟩ := WF_D hW
    have p12 := ps_3 hW d3 8
    obtain ⟨ok, f1, f2, f3⟩ := s_fplan (t := n) hI h7 (by omega)
    obtain ⟨i1, i2, i3⟩ := I_fplan (t := n) hI h7 (by omega)
    refine ⟨ok, fun y => ⟨GV_3 hg h7 (fun _ => rfl) (fun c hc => ?_), i1, i2, i3⟩, fun y => ?_⟩
    · rw [(f3 c hc).1] at y; exact absurd y (by decide)
    cases hS : SK0 (nB T) n with
    | none => exact absurd (f2 hS) y
    | some c =>
      obtain ⟨_, g1, g2, g3, g4⟩ := f3 c hS
      rw [d2] at g1 g2 g3 g4 ⊢
      have rbb := rb_b hW d3 d2 (by omega) hS
      have fin : ∀ v U, Inv U → nB U = nB T → U.1 571 7 = T.1 571 7 → MC (nB T) D n m c v → GX T (0 ≤ m ∧ m < 60) n (MC (nB T) D n m) (v, U) := fun v U a1 a2 a3 hv => ⟨GV_3 hg h7 (fun hn => by rw [hS] at hn; cases hn) (fun c' hc => by rw [hS] at hc; injection hc with hc; subst hc; exact hv), a1, a2, a3⟩
      have hr : ∀ j, j < ps (nB T) D 8 → (x_x_findsPlan T (iz n)).2.2.2.1 562 j = iz (rbF (nB T) D (fun d k => bg (nB T) n d (c d) k) j) := fun j hj => by
        obtain ⟨d, k, y1, y2, y3, rfl⟩ := ps_ex 8 hj
        rw [rb_s y2 y3]; exact g3 d y1 y2 k y3
      have hp := g2.2.1
      generalize (x_x_findsPlan T (iz n)).2 = S at *
      have mcd : ∀ v, MC (nB T) D n m c v ↔ ∃ x, v = iz x ∧ mnP (rbF (nB T) D (fun d k => bg (nB T) n d (c d) k)) m (ps (nB T) D 8) x := fun v => Iff.rfl
      generalize rbF (nB T) D (fun d k => bg (nB T) n d (c d) k) = rb at *
      refine wr_x_mind_52 _ _ _ (fun v4 v5 v6 U => (Inv U ∧ nB U = nB T ∧ U.1 571 7 = T.1 571 7) ∧ U.1 557 1 = iz (ps (nB T) D 8) ∧ (∀ j, j < ps (nB T) D 8 → U.2.2.1 562 j = iz (rb j)) ∧ ∃ (i : Nat) (x : Int), i ≤ ps (nB T) D 8 ∧ v6 = iz i ∧ v4 = iz x ∧ mnP rb m i x ∧ (x = -1000000 → v5 = 60) ∧ ∀ j : Nat, x = j → v5 = iz (rb j)) (fun v4 v5 v6 U => 12 - v6.toInt.toNat) ?_ _ _ _ _ _ ?_ ?_
      · rintro _ v5 _ U ⟨⟨a1, a2, a3⟩, u1, u2, i, x, h1, rfl, rfl, h2, h3, h4⟩
        unfold bd_x_mind_52
        rw [u1, iz_le (by omega)]
        refine ⟨fun q => fin _ _ a1 a2 a3 ((mcd _).2 ⟨x, rfl, ?_⟩), fun q => ?_⟩
        · have hi : i = ps (nB T) D 8 := by omega
          rw [← hi]; exact h2
        · have hi : i < ps (nB T) D 8 := by omega
          have hb := rbb i hi
          have nx : iz (i : Int) + 1 = iz ((i + 1 : Nat) : Int) := by rw [z_1, iz_add]; exact iz_inj (by omega)
          have ms : 12 - (iz ((i + 1 : Nat) : Int)).toInt.toNat < 12 - (iz (i : Int)).toInt.toNat := by rw [iz_t (by omega), iz_t (by omega)]; omega
          rw [ix_nat (by omega), u2 i hi, iz_lt (by omega), nx]
          refine ⟨in_nat (by omega) (by omega), fun q2 => ⟨⟨⟨a1, a2, a3⟩, u1, u2, i + 1, x, by omega, rfl, rfl, mn_a h2 q2, h3, h4⟩, ms⟩, fun q2 => ?_⟩
          rcases mn_r h2 with rfl | ⟨j, rfl, hj⟩
          · rw [h3 rfl, z_60, iz_le (by omega)]
            refine ⟨fun w => by omega, fun w => jo ⟨⟨⟨a1, a2, a3⟩, u1, u2, i + 1, i, by omega, rfl, rfl, mn_b h2 (by omega), fun e => by omega, fun j e => ?_⟩, ms⟩⟩
            have : j = i := by omega
            rw [this]
          · have hb2 := rbb j (by omega)
            rw [h4 j rfl, iz_le (by omega)]
            refine ⟨fun w => ⟨⟨⟨a1, a2, a3⟩, u1, u2, i + 1, j, by omega, rfl, rfl, mn_c h2 w, fun e => by omega, fun j' e => ?_⟩, ms⟩, fun w => jo ⟨⟨⟨a1, a2, a3⟩, u1, u2, i + 1, i, by omega, rfl, rfl, mn_d h2 (by omega) (by omega), fun e => by omega, fun j' e => ?_⟩, ms⟩⟩
            · have : j' = j := by omega
              rw [this]
            · have : j' = i := by omega
              rw [this]
      · show 12 - (0 : Int32).toInt.toNat < 1000
        omega
      · exact ⟨⟨i1, i2, i3⟩, hp, hr, 0, -1000000, Nat.zero_le _, rfl, rfl, mn_0, fun _ => rfl, fun j e => by omega⟩
  · have h7 : T.1 571 7 = 0 := Classical.byContradiction fun y => z (r2 (by decide) y)
    rw [r1 (by decide) h7]
    exact ⟨GV_2 (by omega) h7, hI, rfl, rfl⟩
theorem lm_mind {T U : St} {t m : Int} (x2 : Inv U) (x3 : nB U = nB T) (x4 : U.1 571 7 = T.1 571 7) (htr : -2147483648 ≤ t ∧ t < 2147483648) (hkr : -2147483648 ≤ m ∧ m < 2147483648) : ok_m_mind U (iz t) (iz m) ∧ (fun r : Int32 × St => GV T (0 ≤ m ∧ m < 60) t (MC (nB T) (nB T 202).toNat t m) r.1 ∧ Inv r.2) (x_m_mind U (iz t) (iz m)) := by
  refine so_m_mind (Q := fun r : Int32 × St => GV T (0 ≤ m ∧ m < 60) t (MC (nB T) (nB T 202).toNat t m) r.1 ∧ Inv r.2) _ _ ?_
  have tt := Inv_t 0 x2
  have e7' : (sF U 571 0 0).1 571 7 = T.1 571 7 := by rw [gF_F, if_neg (by omega)]; exact x4
  have eB' : nB (sF U 571 0 0) = nB T := x3
  unfold wp_m_mind
  rw [m_by htr, m_min hkr, e7']
  generalize sF U 571 0 0 = V at *
  refine ⟨fun c1 => ⟨GV_1 (by omega), tt⟩, fun c1 => ⟨fun c2 => ⟨GV_1 (by omega), tt⟩, fun c2 => ⟨fun c7 => ⟨GV_2 (by omega) c7, tt⟩, fun c7 => ?_⟩⟩⟩
  have hg : (1 ≤ t ∧ t ≤ 60) ∧ 0 ≤ m ∧ m < 60 := by omega
  obtain ⟨n, rfl⟩ : ∃ n : Nat, t = n := ⟨t.toNat, by omega⟩
  obtain ⟨hW, _, _, _, _⟩ := I_there tt (by rw [e7']; exact c7)
  rw [eB'] at hW
  obtain ⟨D, d1, d2, d3, d4⟩ := WF_D hW
  have p12 := ps_3 hW d3 8
  cases hS : SK0 (nB T) n with
  | none =>
    refine wr_m_mind_38 _ _ (fun v3 v4 W => (Inv W ∧ nB W = nB T ∧ W.1 571 7 = T.1 571 7) ∧ v3 = -1000000) (fun v3 v4 W => 0) ?_ _ _ _ _ (by show 0 < 1000; omega) ⟨⟨tt, eB', e7'⟩, rfl⟩
    rintro _ v4 W ⟨⟨a1, a2, a3⟩, rfl⟩
    obtain ⟨ok, ⟨q1, q2, q3, q4, q5⟩, i1, i2, i3⟩ := I_know (t := n) a1 (by rw [a3]; exact c7) (by omega)
    rw [a2] at q4
    unfold bd_m_mind_38
    refine ⟨ok, fun _ => ⟨GV_3 hg c7 (fun _ => rfl) (fun c hc => by rw [hS] at hc; cases hc), i1⟩, fun y => absurd (q4 hS) y⟩
  | some c =>
    have rbb := rb_b hW d3 d2 (by omega) hS
    have rbs : ∀ d, d < 8 → D.testBit d = true → ∀ k, k < nO (nB T) d → rbF (nB T) D (fun d k => bg (nB T) n d (c d) k) (ps (nB T) D d + k) = bg (nB T) n d (c d) k := fun d _ y2 k y3 => rb_s y2 y3
    have mcd : ∀ v, MC (nB T) D n m c v ↔ ∃ x, v = iz x ∧ mnP (rbF (nB T) D (fun d k => bg (nB T) n d (c d) k)) m (ps (nB T) D 8) x := fun v => Iff.rfl
    rw [d2]
    generalize rbF (nB T) D (fun d k => bg (nB T) n d (c d) k) = rb at *
    refine wr_m_mind_38 _ _ (fun v3 v4 W => (Inv W ∧ nB W = nB T ∧ W.1 571 7 = T.1 571 7) ∧ ∃ (i : Nat) (x : Int), i ≤ ps (nB T) D 8 ∧ v4 = iz i ∧ v3 = iz x ∧ mnP rb m i x) (fun v3 v4 W => 12 - v4.toInt.toNat) ?_ _ _ _ _ ?_ ⟨⟨tt, eB', e7'⟩, 0, -1000000, Nat.zero_le _, rfl, rfl, mn_0⟩
    · rintro _ _ W ⟨⟨a1, a2, a3⟩, i, x, h1, rfl, rfl, h2⟩
      obtain ⟨ok, ⟨q1, q2, q3, q4, q5⟩, i1, i2, i3⟩ := I_know (t := n) a1 (by rw [a3]; exact c7) (by omega)
      rw [a2] at q5 i2
      rw [a3] at i3
      obtain ⟨g0, _, g1, g3⟩ := q5 c hS
      rw [d2] at g1 g3
      have hr : ∀ j, j < ps (nB T) D 8 → (x_m_know W (iz n)).2.2.2.1 595 j = iz (rb j) := fun j hj => by
        obtain ⟨d, k, y1, y2, y3, rfl⟩ := ps_ex 8 hj
        rw [rbs d y1 y2 k y3]; exact ((g3 d y1 y2).2 k y3).2.1
      unfold bd_m_mind_38
      refine ⟨ok, fun y => absurd y (by rw [g0]; decide), fun _ => ?_⟩
      rw [g1, iz_le (by omega)]
      refine ⟨fun q => ⟨GV_3 hg c7 (fun hn => by rw [hS] at hn; cases hn) (fun c' hc => ?_), i1⟩, fun q => ?_⟩
      · rw [hS] at hc; injection hc with hc; subst hc
        have hi : i = ps (nB T) D 8 := by omega
        refine (mcd _).2 ⟨x, rfl, ?_⟩
        rw [← hi]; exact h2
      · have hi : i < ps (nB T) D 8 := by omega
        have hb := rbb i hi
        have nx : iz (i : Int) + 1 = iz ((i + 1 : Nat) : Int) := by rw [z_1, iz_add]; exact iz_inj (by omega)
        have ms : 12 - (iz ((i + 1 : Nat) : Int)).toInt.toNat < 12 - (iz (i : Int)).toInt.toNat := by rw [iz_t (by omega), iz_t (by omega)]; omega
        rw [ix_nat (k := i) (by omega), hr i hi, iz_lt (by omega), nx]
        refine ⟨in_nat (by omega) (by omega), fun q2 => ⟨⟨⟨i1, i2, i3⟩, i + 1, x, by omega, rfl, rfl, mn_a h2 q2⟩, ms⟩, fun q2 => ?_⟩
        rcases mn_r h2 with rfl | ⟨j, rfl, hj⟩
        · exact jo ⟨fun _ => ⟨⟨⟨i1, i2, i3⟩, i + 1, i, by omega, rfl, rfl, mn_b h2 (by omega)⟩, ms⟩, fun w => absurd (show iz (-1000000) = -1000000 from rfl) w⟩
        · have hb2 := rbb j (by omega)
          rw [ix_nat (k := j) (by omega), hr j (by omega), iz_le (by omega)]
          refine jo ⟨fun w => ?_, fun _ => ⟨in_nat (by omega) (by omega), fun w => ⟨⟨⟨i1, i2, i3⟩, i + 1, j, by omega, rfl, rfl, mn_c h2 w⟩, ms⟩, fun w => ⟨⟨⟨i1, i2, i3⟩, i + 1, i, by omega, rfl, rfl, mn_d h2 (by omega) (by omega)⟩, ms⟩⟩⟩
          rw [show (-1000000 : Int32) = iz (-1000000) from rfl, iz_eq (by omega)] at w
          omega
    · show 12 - (0 : Int32).toInt.toNat < 1000
      omega
theorem i_mind : P_mind Inv := by
  intro T hI p0 p1
  obtain ⟨t, htr, rfl⟩ := iz_ex p0
  obtain ⟨k, hkr, rfl⟩ := iz_ex p1
  have xs := lx_mind hI htr hkr
  have ms := lm_mind xs.2.2.1 xs.2.2.2.1 xs.2.2.2.2 htr hkr
  have x1 : GV T (0 ≤ k ∧ k < 60) t (MC (nB T) (nB T 202).toNat t k) (x_x_mind T (iz t) (iz k)).1 := xs.2.1
  have m1 : GV T (0 ≤ k ∧ k < 60) t (MC (nB T) (nB T 202).toNat t k) (x_m_mind (x_x_mind T (iz t) (iz k)).2 (iz t) (iz k)).1 := ms.2.1
  have m2 : Inv (x_m_mind (x_x_mind T (iz t) (iz k)).2 (iz t) (iz k)).2 := ms.2.2
  have hu : ∀ v w, GV T (0 ≤ k ∧ k < 60) t (MC (nB T) (nB T 202).toNat t k) v → GV T (0 ≤ k ∧ k < 60) t (MC (nB T) (nB T 202).toNat t k) w → v = w := fun v w a b => GV_u (g := 0 ≤ k ∧ k < 60) (C := MC (nB T) (nB T 202).toNat t k) (fun hg _ c v w h1 h2 => MC_u h1 h2) a b
  exact ⟨xs.1, ms.1, hu _ _ x1 m1, m2⟩
