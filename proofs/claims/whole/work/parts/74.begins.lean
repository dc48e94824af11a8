/-! ===== the pair begins ===== -/
theorem lx_begins {T : St} {t k : Int} (hI : Inv T) (htr : -2147483648 ≤ t ∧ t < 2147483648) (hkr : -2147483648 ≤ k ∧ k < 2147483648) : ok_x_begins T (iz t) (iz k) ∧ GX T (0 ≤ k) t (BC (nB T) (nB T 202).toNat t k) (x_x_begins T (iz t) (iz k)) := by
  refine so_x_begins (Q := GX T (0 ≤ k) t (BC (nB T) (nB T 202).toNat t k)) _ _ ?_
  unfold wp_x_begins
  refine jo ?_
  try dsimp only
  obtain ⟨o0, r0, _⟩ := x_ref hI 0
  obtain ⟨o1, _, r1, r2⟩ := x_ref hI 1
  have no : ¬ ((1 ≤ t ∧ t ≤ 60) ∧ 0 ≤ k) → ∀ P : Prop, ok_x_refusal T 0 ∧ ((x_x_refusal T 0 = 0 → P) ∧ (¬ x_x_refusal T 0 = 0 → GX T (0 ≤ k) t (BC (nB T) (nB T 202).toNat t k) (x_x_refusal T 0, T))) := fun q P => ⟨o0, fun z => absurd z (by rw [r0 rfl]; decide), fun _ => by rw [r0 rfl]; exact ⟨GV_1 q, hI, rfl, rfl⟩⟩
  rw [x_time htr, lt0 (by omega)]
  refine ⟨fun q => no (by omega) _, fun q => ⟨fun q2 => no (by omega) _, fun q2 => ⟨o1, fun z => ?_, fun z => ?_⟩⟩⟩
  · have h7 : ¬ T.1 571 7 = 0 := fun y => by rw [r1 (by decide) y] at z; exact absurd z (by decide)
    have hg : (1 ≤ t ∧ t ≤ 60) ∧ 0 ≤ k := by omega
    obtain ⟨n, rfl⟩ : ∃ n : Nat, t = n := ⟨t.toNat, by omega⟩
    obtain ⟨hW, hX, hK, hM, h46⟩ := I_there hI h7
    obtain ⟨D, d1, d2, d3, d4⟩ := WF_D hW
    have p12 := ps_3 hW d3 8
    obtain ⟨ok, f1, f2, f3⟩ := s_fplan (t := n) hI h7 (by omega)
    obtain ⟨i1, i2, i3⟩ := I_fplan (t := n) hI h7 (by omega)
    refine ⟨ok, fun y => ⟨GV_3 hg h7 (fun _ => rfl) (fun c hc => ?_), i1, i2, i3⟩, fun y => ?_⟩
    · rw [(f3 c hc).1] at y; exact absurd y (by decide)
    cases hS : SK0 (nB T) n with
    | none => exact absurd (f2 hS) y
    | some c =>
      obtain ⟨_, g1, g2, g3, g4⟩ := f3 c hS
      rw [d2] at g1 g2 g3 g4 ⊢
      have fin : ∀ v, BC (nB T) D n k c v → GX T (0 ≤ k) n (BC (nB T) D n k) (v, (x_x_findsPlan T (iz n)).2) := fun v hv => ⟨GV_3 hg h7 (fun hn => by rw [hS] at hn; cases hn) (fun c' hc => by rw [hS] at hc; injection hc with hc; subst hc; exact hv), i1, i2, i3⟩
      rw [g2.2.1, iz_le (by omega)]
      refine ⟨fun w2 => fin _ ⟨fun _ => rfl, fun d hd hm j hj x => ?_⟩, fun w2 => ?_⟩
      · have := ps_lt (B := nB T) (D := D) (e := 8) hm hd; omega
      · obtain ⟨d, j, y1, y2, y3, y4⟩ := ps_ex (B := nB T) (D := D) (j := k.toNat) 8 (by omega)
        have hk : k = ((ps (nB T) D d + j : Nat) : Int) := by omega
        subst hk
        rw [ix_nat (by omega)]
        refine ⟨in_nat (by omega) (by omega), fin _ ⟨fun x => absurd x w2, fun e he hm i hi x => ?_⟩⟩
        obtain ⟨z1, z2⟩ := ps_in (B := nB T) hm y2 hi y3 (by omega)
        subst z1; subst z2
        exact g3 e y1 y2 i y3
  · have h7 : T.1 571 7 = 0 := Classical.byContradiction fun y => z (r2 (by decide) y)
    rw [r1 (by decide) h7]
    exact ⟨GV_2 (by omega) h7, hI, rfl, rfl⟩
theorem lm_begins {T U : St} {t k : Int} (x2 : Inv U) (x3 : nB U = nB T) (x4 : U.1 571 7 = T.1 571 7) (htr : -2147483648 ≤ t ∧ t < 2147483648) (hkr : -2147483648 ≤ k ∧ k < 2147483648) : ok_m_begins U (iz t) (iz k) ∧ (fun r : Int32 × St => GV T (0 ≤ k) t (BC (nB T) (nB T 202).toNat t k) r.1 ∧ Inv r.2) (x_m_begins U (iz t) (iz k)) := by
  refine so_m_begins (Q := fun r : Int32 × St => GV T (0 ≤ k) t (BC (nB T) (nB T 202).toNat t k) r.1 ∧ Inv r.2) _ _ ?_
  have tt := Inv_t 0 x2
  have e7' : (sF U 571 0 0).1 571 7 = T.1 571 7 := by rw [gF_F, if_neg (by omega)]; exact x4
  have eB' : nB (sF U 571 0 0) = nB T := x3
  unfold wp_m_begins
  rw [m_by htr, e7', le0 (by omega)]
  generalize sF U 571 0 0 = V at *
  refine ⟨fun c1 => ⟨GV_1 (by omega), tt⟩, fun c1 => ⟨fun c2 => ⟨fun c7 => ⟨GV_2 (by omega) c7, tt⟩, fun c7 => ?_⟩, fun c2 => ⟨GV_1 (by omega), tt⟩⟩⟩
  have hg : (1 ≤ t ∧ t ≤ 60) ∧ 0 ≤ k := by omega
  obtain ⟨n, rfl⟩ : ∃ n : Nat, t = n := ⟨t.toNat, by omega⟩
  obtain ⟨ok, ⟨q1, q2, q3, q4, q5⟩, i1, i2, i3⟩ := I_know (t := n) tt (by rw [e7']; exact c7) (by omega)
  obtain ⟨hW, _, _, _, _⟩ := I_there tt (by rw [e7']; exact c7)
  rw [eB'] at q1 q4 q5 hW
  obtain ⟨D, d1, d2, d3, d4⟩ := WF_D hW
  have p12 := ps_3 hW d3 8
  refine ⟨ok, fun y => ⟨GV_3 hg c7 (fun _ => rfl) (fun c hc => ?_), i1⟩, fun y => ?_⟩
  · rw [(q5 c hc).1] at y; exact absurd y (by decide)
  cases hS : SK0 (nB T) n with
  | none => exact absurd (q4 hS) y
  | some c =>
    obtain ⟨_, _, g1, g3⟩ := q5 c hS
    rw [d2] at g1 g3 ⊢
    have fin : ∀ v, BC (nB T) D n k c v → (fun r : Int32 × St => GV T (0 ≤ k) n (BC (nB T) D n k) r.1 ∧ Inv r.2) (v, (x_m_know V (iz n)).2) := fun v hv => ⟨GV_3 hg c7 (fun hn => by rw [hS] at hn; cases hn) (fun c' hc => by rw [hS] at hc; injection hc with hc; subst hc; exact hv), i1⟩
    rw [g1, iz_le (by omega)]
    refine ⟨fun w2 => fin _ ⟨fun _ => rfl, fun d hd hm j hj x => ?_⟩, fun w2 => ?_⟩
    · have := ps_lt (B := nB T) (D := D) (e := 8) hm hd; omega
    · obtain ⟨d, j, y1, y2, y3, y4⟩ := ps_ex (B := nB T) (D := D) (j := k.toNat) 8 (by omega)
      have hk : k = ((ps (nB T) D d + j : Nat) : Int) := by omega
      subst hk
      rw [ix_nat (by omega)]
      refine ⟨in_nat (by omega) (by omega), fin _ ⟨fun x => absurd x w2, fun e he hm i hi x => ?_⟩⟩
      obtain ⟨z1, z2⟩ := ps_in (B := nB T) hm y2 hi y3 (by omega)
      subst z1; subst z2
      exact ((g3 e y1 y2).2 i y3).2.1
theorem i_begins : P_begins Inv := by
  intro T hI p0 p1
  obtain ⟨t, htr, rfl⟩ := iz_ex p0
  obtain ⟨k, hkr, rfl⟩ := iz_ex p1
  have xs := lx_begins hI htr hkr
  have ms := lm_begins xs.2.2.1 xs.2.2.2.1 xs.2.2.2.2 htr hkr
  have x1 : GV T (0 ≤ k) t (BC (nB T) (nB T 202).toNat t k) (x_x_begins T (iz t) (iz k)).1 := xs.2.1
  have m1 : GV T (0 ≤ k) t (BC (nB T) (nB T 202).toNat t k) (x_m_begins (x_x_begins T (iz t) (iz k)).2 (iz t) (iz k)).1 := ms.2.1
  have m2 : Inv (x_m_begins (x_x_begins T (iz t) (iz k)).2 (iz t) (iz k)).2 := ms.2.2
  have hu : ∀ v w, GV T (0 ≤ k) t (BC (nB T) (nB T 202).toNat t k) v → GV T (0 ≤ k) t (BC (nB T) (nB T 202).toNat t k) w → v = w := fun v w a b => GV_u (g := 0 ≤ k) (C := BC (nB T) (nB T 202).toNat t k) (fun hg _ c v w h1 h2 => BC_u hg h1 h2) a b
  exact ⟨xs.1, ms.1, hu _ _ x1 m1, m2⟩
