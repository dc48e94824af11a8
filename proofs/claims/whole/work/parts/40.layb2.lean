theorem s_layB {T : St} {B : Nat → Int} {a d c : Nat} {t μ C : Int} {F : Nat → Int} (hM : MkX T B) (hW : WF B) (hd : (d : Int) < B 16) (hc : c < chn B d) (ha : a < 4) (ht : 1 ≤ t ∧ t ≤ 60) (e5 : T.2.2.1 585 a = iz d) (e6 : T.2.2.1 586 a = iz c) (e7 : T.2.2.1 587 a = iz C) (hm : T.1 571 32 = iz μ) (hμ : 0 ≤ μ ∧ μ ≤ 60) (hF : ∀ k, k < nO B d → T.2.2.1 591 (3 * a + k) = iz (F k) ∧ -2147483648 ≤ F k ∧ F k < 2147483648) :
    ok_m_layBegins T (iz a) (iz t) ∧ (((x_m_layBegins T (iz a) (iz t)).1 = 0 ∨ (x_m_layBegins T (iz a) (iz t)).1 = 1) ∧ (¬ (x_m_layBegins T (iz a) (iz t)).1 = 0 ↔ (0 ≤ bg B t d c 0 ∧ ∀ k, k < nO B d → gk μ F (bg B t d c) k)) ∧ (∀ k, k < nO B d → (x_m_layBegins T (iz a) (iz t)).2.2.2.1 588 (3 * a + k) = iz (bg B t d c k)) ∧ (x_m_layBegins T (iz a) (iz t)).2.2.2.1 587 (a + 1) = iz (C + cst B d c) ∧ (∀ j, j < 3 * a → (x_m_layBegins T (iz a) (iz t)).2.2.2.1 588 j = T.2.2.1 588 j) ∧ (∀ j, j ≤ a → (x_m_layBegins T (iz a) (iz t)).2.2.2.1 587 j = T.2.2.1 587 j)) := by
  have h8 := hW.2.2.1
  have h1 := wf_n hW hd
  have h2 := wf_f hW hd
  have h5 := ch_e hW hd hc
  have h6 := wts_b hW hd 0
  have h7 := wts_b hW hd 1
  have hk := (wf_d hW hd).1
  have hcb := (ch_b hW hd)
  have ei : (iz (a : Int)).toNatClampNeg = a := by rw [iz_n (by omega), Int.toNat_natCast]
  have d0 := md0 hM (z := (d : Int)) (by omega)
  have d3 := md3 hM (z := (d : Int)) (by omega)
  rw [Int.toNat_natCast] at d0 d3
  have w0 := s_waits hM hW hd (k := 0) (by omega)
  have w0e : x_m_waitsOf T (iz d) 0 = iz (wts B d 0) := w0.2
  refine so_m_layBegins (Q := fun r => (r.1 = 0 ∨ r.1 = 1) ∧ (¬ r.1 = 0 ↔ (0 ≤ bg B t d c 0 ∧ ∀ k, k < nO B d → gk μ F (bg B t d c) k)) ∧ (∀ k, k < nO B d → r.2.2.2.1 588 (3 * a + k) = iz (bg B t d c k)) ∧ r.2.2.2.1 587 (a + 1) = iz (C + cst B d c) ∧ (∀ j, j < 3 * a → r.2.2.2.1 588 j = T.2.2.1 588 j) ∧ (∀ j, j ≤ a → r.2.2.2.1 587 j = T.2.2.1 587 j)) _ _ ?_
  have q1 : (c : Int) - (c : Int) / (1 + bKeep B d) * (1 + bKeep B d) = cE B d c := by unfold cE; rw [Int.emod_def, Int.mul_comm]
  have q2 : (c : Int) / (1 + bKeep B d) = cL B d c := rfl
  have cl0 : 0 ≤ cL B d c ∧ cL B d c ≤ c := ⟨Int.ediv_nonneg (by omega) (by omega), Int.ediv_le_self _ (by omega)⟩
  have q3 : cL B d c - cL B d c / wts B d 0 * wts B d 0 = cW1 B d c := by unfold cW1; rw [Int.emod_def, Int.mul_comm]
  have q4 : cL B d c / wts B d 0 = cW2 B d c := rfl
  unfold wp_m_layBegins jn
  dsimp only
  rw [ei, e5, e6, d0, d3, w0e, z_1, iz_add, iz_div (by omega), iz_mul, iz_sub, q1, q2, iz_div (by omega), iz_mul, iz_sub, q3, q4, iz_sub, iz_sub]
  refine ⟨(iz_in (by omega)).2 (by omega), okd3 (by omega), (iz_in (by omega)).2 (by omega), okd0 (by omega), by rw [eq0 (by omega)]; omega, w0.1, by rw [eq0 (by omega)]; omega, ?_⟩
  refine wr_m_layBegins_92 _ _ _ _ _ _ _ _ (fun v9 v10 v11 v12 v13 U => ∃ (j : Nat) (g : Bool), j ≤ nO B d ∧ v13 = iz ((nO B d : Int) - 1 - j) ∧ v9 = iz (bg B t d c (nO B d - j)) ∧ v10 = iz (wsr B d c j) ∧ v11 = iz (lsr B d j) ∧ v12 = (if g then 1 else 0) ∧ (g = true ↔ ∀ k, nO B d - j ≤ k → k < nO B d → gk μ F (bg B t d c) k) ∧ U.1 = T.1 ∧ (∀ e i, e ≠ 588 → U.2.2.1 e i = T.2.2.1 e i) ∧ (∀ i, i < 3 * a → U.2.2.1 588 i = T.2.2.1 588 i) ∧ ∀ k, nO B d - j ≤ k → k < nO B d → U.2.2.1 588 (3 * a + k) = iz (bg B t d c k)) (fun v9 v10 v11 v12 v13 U => (v13.toInt + 1).toNat) ?_ _ _ _ _ _ _ _ ?_ ?_
  · rintro _ _ _ _ _ U ⟨j, g, j1, rfl, rfl, rfl, rfl, rfl, j2, j3, j4, j5, j6⟩
    have hbj := bg_r (t := t) hW hd hc ht (k := nO B d - j) (by omega)
    by_cases q : j < nO B d
    · obtain ⟨k, hk⟩ : ∃ k, k = nO B d - 1 - j := ⟨_, rfl⟩
      have ek : (nO B d : Int) - 1 - j = (k : Int) := by omega
      have ek2 : nO B d - j = k + 1 := by omega
      have ek3 : nO B d - (j + 1) = k := by omega
      have hs := bg_s (B := B) (t := t) (c := c) (d := d) (k := k) (by omega)
      rw [ek, ek2]
      rw [ek2] at hbj j2 j6
      refine b_layB (F := F) (b := bg B t d c) (μ := μ) (fun i hi => by rw [j4 575 i (by omega)]; exact hM i hi) hW hd hc ha (by omega) (by rw [j3]; exact hm) hμ (by rw [j4 591 _ (by omega)]; exact (hF k (by omega)).1) (hF k (by omega)).2 (by omega) g hs (fun g' hg => ?_)
      rw [← hs]
      refine ⟨⟨j + 1, g', by omega, iz_inj (by omega), by rw [ek3], ?_, ?_, rfl, ?_, j3, fun e i he => ?_, fun i hi => ?_, fun k' h1' h2' => ?_⟩, ?_⟩
      · show iz (wsr B d c j + wv B d c k) = iz (wsr B d c j + wv B d c (nO B d - 1 - j))
        rw [hk]
      · rw [hk]; rfl
      · rw [hg, j2, ek3]
        constructor
        · rintro ⟨a1, a2⟩ k' h1' h2'
          by_cases e : k' = k
          · subst e; exact a2
          · exact a1 k' (by omega) h2'
        · intro a1; exact ⟨fun k' h1' h2' => a1 k' (by omega) h2', a1 k (by omega) (by omega)⟩
      · rw [gA_A, if_neg (fun z => he z.1)]; exact j4 e i he
      · rw [gA_A, if_neg (by omega)]; exact j5 i hi
      · rw [gA_A]
        by_cases e : k' = k
        · subst e; rw [if_pos ⟨rfl, rfl⟩]
        · rw [if_neg (by omega)]; exact j6 k' (by omega) h2'
      · show ((iz ((k : Int) - 1)).toInt + 1).toNat < ((iz (k : Int)).toInt + 1).toNat
        rw [iz_t (by omega), iz_t (by omega)]; omega
    · have ej : j = nO B d := by omega
      subst ej
      rw [Nat.sub_self] at hbj j2 j6
      unfold bd_m_layBegins_92
      refine ⟨fun _ => ?_, fun z => absurd z (by rw [lt0 (by omega)]; omega)⟩
      have hM' : MkX U B := fun i hi => by rw [j4 575 i (by omega)]; exact hM i hi
      have d1 : x_m_dishOf U (iz d) (iz 1) = iz (bCold B d) := md1 hM' (z := (d : Int)) (by omega)
      have ei1 : (iz (a : Int) + iz 1).toNatClampNeg = a + 1 := by rw [iz_add, iz_n (by omega)]; omega
      have cs : iz C + iz (cE B d c) * iz (bCold B d) + iz (wsr B d c (nO B d)) + iz (lsr B d (nO B d)) = iz (C + cst B d c) := by
        rw [iz_mul, iz_add, iz_add, iz_add, wsr_n hW hd hc]
        unfold cst
        exact iz_inj (by omega)
      refine ⟨okd1 (by omega), (by rw [iz_add, iz_in (by omega)]; omega), ?_⟩
      try dsimp only
      rw [d1, ei1, j4 587 a (by omega), e7, cs, Nat.sub_self]
      have fin : ∀ r : Int32, (¬ r = 0 ↔ (0 ≤ bg B t d c 0 ∧ ∀ k, k < nO B d → gk μ F (bg B t d c) k)) → (r = 0 ∨ r = 1) → ((r = 0 ∨ r = 1) ∧ (¬ r = 0 ↔ (0 ≤ bg B t d c 0 ∧ ∀ k, k < nO B d → gk μ F (bg B t d c) k)) ∧ (∀ k, k < nO B d → (sA U 587 (a + 1) (iz (C + cst B d c))).2.2.1 588 (3 * a + k) = iz (bg B t d c k)) ∧ (sA U 587 (a + 1) (iz (C + cst B d c))).2.2.1 587 (a + 1) = iz (C + cst B d c) ∧ (∀ j, j < 3 * a → (sA U 587 (a + 1) (iz (C + cst B d c))).2.2.1 588 j = T.2.2.1 588 j) ∧ (∀ j, j ≤ a → (sA U 587 (a + 1) (iz (C + cst B d c))).2.2.1 587 j = T.2.2.1 587 j)) := by
        intro r h1 h2
        refine ⟨h2, h1, fun k hk => ?_, ?_, fun j hj => ?_, fun j hj => ?_⟩
        · rw [gA_A, if_neg (by omega)]; exact j6 k (by omega) hk
        · rw [gA_A, if_pos ⟨rfl, rfl⟩]
        · rw [gA_A, if_neg (by omega)]; exact j5 j hj
        · rw [gA_A, if_neg (by omega)]; exact j4 587 j (by omega)
      have j2' : g = true ↔ ∀ k, k < nO B d → gk μ F (bg B t d c) k := by
        rw [j2]
        exact ⟨fun h k hk => h k (by omega) hk, fun h k _ hk => h k hk⟩
      refine ⟨fun z => fin 0 ?_ (Or.inl rfl), fun z => ⟨fun z2 => fin 0 ?_ (Or.inl rfl), fun z2 => fin 1 ?_ (Or.inr rfl)⟩⟩
      · have : ¬ g = true := by intro e; rw [e] at z; exact absurd z (by decide)
        exact ⟨fun h => absurd rfl h, fun h => absurd (j2'.2 h.2) this⟩
      · rw [lt0 (by omega)] at z2
        exact ⟨fun h => absurd rfl h, fun h => by omega⟩
      · rw [lt0 (by omega)] at z2
        have : g = true := by cases g with
          | false => exact absurd rfl z
          | true => rfl
        exact ⟨fun _ => ⟨by omega, j2'.1 this⟩, fun _ => by decide⟩
  · rw [iz_t (by omega)]; omega
  · refine ⟨0, true, by omega, iz_inj (by omega), ?_, rfl, rfl, rfl, ?_, rfl, fun _ _ _ => rfl, fun _ _ => rfl, fun k h1' h2' => by omega⟩
    · rw [Nat.sub_zero, bg_n]
    · exact ⟨fun _ k h1' h2' => by omega, fun _ => rfl⟩
