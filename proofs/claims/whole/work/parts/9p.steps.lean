/-! ===== the class reads a step ===== -/
theorem s1_eq {k s : Nat} {S : Nat × Nat × (Nat → Int)} (h : S.1 = 0) : p_s1 k s S = (0, S.2.1, upB (upB (upB (upB S.2.2 (58 + 6 * s + 0) (k : Int)) (58 + 6 * s + 3) (if k = 3 then 2 else 0)) (58 + 6 * s + 4) (-1000000)) (58 + 6 * s + 5) (-1000000)) := by
  unfold p_s1 a_st
  simp only [if_pos h, if_true]
theorem s1_0 {k s : Nat} {S : Nat × Nat × (Nat → Int)} : (p_s1 k s S).1 = 0 ↔ S.1 = 0 := by
  unfold p_s1
  rw [st_B.1, st_B.1, st_B.1, st_B.1]
theorem s1_B {k s : Nat} {S : Nat × Nat × (Nat → Int)} (h : S.1 = 0) : (p_s1 k s S).2.2 (58 + 6 * s + 0) = k ∧ (p_s1 k s S).2.2 (58 + 6 * s + 3) = (if k = 3 then 2 else 0) ∧ (p_s1 k s S).2.2 (58 + 6 * s + 4) = -1000000 ∧ (p_s1 k s S).2.2 (58 + 6 * s + 5) = -1000000 := by
  rw [s1_eq h]
  refine ⟨?_, ?_, ?_, ?_⟩
  · show upB _ _ _ _ = _
    rw [upB_n (by omega), upB_n (by omega), upB_n (by omega), upB_s]
  · show upB _ _ _ _ = _
    rw [upB_n (by omega), upB_n (by omega), upB_s]
  · show upB _ _ _ _ = _
    rw [upB_n (by omega), upB_s]
  · show upB _ _ _ _ = _
    rw [upB_s]
theorem s2_B {tp : Nat → Nat} {n k s : Nat} {S : Nat × Nat × (Nat → Int)} (h : (p_s2 tp n k s S).1 = 0) : S.1 = 0 ∧ ∃ v w, (1 ≤ v ∧ v ≤ 30) ∧ (0 ≤ w ∧ w ≤ 1) ∧ (p_s2 tp n k s S).2.2 = upB (upB (p_s1 k s S).2.2 (58 + 6 * s + 1) v) (58 + 6 * s + 2) w := by
  unfold p_s2 at h ⊢
  obtain ⟨h1, w, w1, w2, w3⟩ := nm_B h
  obtain ⟨h2, v, v1, v2, v3⟩ := nm_B h1
  exact ⟨s1_0.1 h2, v, w, ⟨v1, v2⟩, ⟨w1, w2⟩, by rw [w3, v3]⟩
theorem s2_C {tp : Nat → Nat} {n k s : Nat} {S : Nat × Nat × (Nat → Int)} (h : (p_s2 tp n k s S).1 = 0) : (p_s2 tp n k s S).2.2 (58 + 6 * s + 3) = (if k = 3 then 2 else 0) ∧ (p_s2 tp n k s S).2.2 (58 + 6 * s + 4) = -1000000 ∧ (p_s2 tp n k s S).2.2 (58 + 6 * s + 5) = -1000000 := by
  obtain ⟨h0, v, w, _, _, e⟩ := s2_B h
  obtain ⟨_, g1, g2, g3⟩ := s1_B (k := k) (s := s) h0
  rw [e]
  exact ⟨by rw [upB_n (by omega), upB_n (by omega)]; exact g1, by rw [upB_n (by omega), upB_n (by omega)]; exact g2, by rw [upB_n (by omega), upB_n (by omega)]; exact g3⟩
section CLS
variable {tp : Nat → Nat} {n : Nat} {b c1 c4 c10 : Nat} {K K2 : Nat → Prop} {U V : St} {S : Nat × Nat × (Nat → Int)}
theorem c_rstep {k s : Nat} {p2 : Int32} (h : CR tp n b c1 c4 c10 K U S) (hb : b = 46 ∨ b = 61) (hk : 1 ≤ k ∧ k ≤ 5) (hs : s < 24) (hp : p2 = iz ((k : Int) - 1)) (hK : ∀ x, K x → ¬ (58 + 6 * s ≤ x ∧ x < 58 + 6 * s + 6)) : ok_rd_readStep U b (iz s) p2 ∧ (fun V => CR tp n b c1 c4 c10 (fun x => K x ∨ (58 + 6 * s ≤ x ∧ x < 58 + 6 * s + 6)) V (a_sg tp n (p_s5 tp n k s S))) (x_rd_readStep U b (iz s) p2) := by
  refine so_rd_readStep (Q := fun V => CR tp n b c1 c4 c10 (fun x => K x ∨ (58 + 6 * s ≤ x ∧ x < 58 + 6 * s + 6)) V (a_sg tp n (p_s5 tp n k s S))) _ _ _ ?_
  unfold wp_rd_readStep
  rw [ix_nat (by omega)]
  obtain ⟨a0, i0, o0, j0⟩ := aj_s (i := s) (k := 0) hs (by omega)
  obtain ⟨a1, i1, o1, j1⟩ := aj_s (i := s) (k := 1) hs (by omega)
  obtain ⟨a2, i2, o2, j2⟩ := aj_s (i := s) (k := 2) hs (by omega)
  obtain ⟨a3, i3, o3, j3⟩ := aj_s (i := s) (k := 3) hs (by omega)
  obtain ⟨a4, i4, o4, j4⟩ := aj_s (i := s) (k := 4) hs (by omega)
  obtain ⟨a5, i5, o5, j5⟩ := aj_s (i := s) (k := 5) hs (by omega)
  have r1 : CR tp n b c1 c4 c10 K U (p_s1 k s S) := by
    unfold p_s1
    have nK : ∀ y, 58 + 6 * s ≤ y ∧ y < 58 + 6 * s + 6 → ∀ x, K x → K x ∧ x ≠ y := fun y hy x hx => ⟨hx, fun e => hK x hx (by omega)⟩
    exact CR_st (CR_st (CR_st (CR_st h (nK _ (by omega))) (nK _ (by omega))) (nK _ (by omega))) (nK _ (by omega))
  have r2 : CR tp n b c1 c4 c10 (fun x => K x ∨ x = 58 + 6 * s + 0) (sA U (b + 9) s p2) (p_s1 k s S) := CR_set (j := 58 + 6 * s + 0) r1 hb j0 (by omega) (by omega) (fun y => by rw [(s1_B (s1_0.1 y)).1, hp, o0]; rfl) (fun x hx => hx.symm)
  refine ⟨b_sh hb, in_nat (by omega) (by omega), ?_⟩
  generalize sA U (b + 9) s p2 = U1 at *
  obtain ⟨k3, r3, _, _⟩ := CR_nset (K2 := fun x => K x ∨ (58 + 6 * s ≤ x ∧ x < 58 + 6 * s + 2)) (j := 58 + 6 * s + 1) (a := b + 10) (i := s) (lo := 1) (hi := 30) (l := 1) (e := 30) r2 hb (fun _ => ⟨rfl, by omega⟩) ⟨rfl, by omega⟩ j1 o1 (by omega) (by omega) (fun x hx => by rcases hx with q | q; exact Or.inr (Or.inl q); omega)
  refine ⟨k3, jo ?_⟩
  generalize sA (x_rd_takeNumber U1 1 30).2 (b + 10) s (x_rd_takeNumber U1 1 30).1 = U2 at *
  obtain ⟨k4, r4, _, _⟩ := CR_nset (K2 := fun x => K x ∨ (58 + 6 * s ≤ x ∧ x < 58 + 6 * s + 3)) (j := 58 + 6 * s + 2) (a := b + 11) (i := s) (lo := 0) (hi := 1) (l := 0) (e := 1) r3 hb (fun _ => ⟨rfl, by omega⟩) ⟨rfl, by omega⟩ j2 o2 (by omega) (by omega) (fun x hx => by rcases hx with q | q; exact Or.inr (Or.inl q); omega)
  refine ⟨k4, jo ?_⟩
  generalize sA (x_rd_takeNumber U2 0 1).2 (b + 11) s (x_rd_takeNumber U2 0 1).1 = U3 at *
  have e2 : a_nm tp n (58 + 6 * s + 2) 0 1 (a_nm tp n (58 + 6 * s + 1) 1 30 (p_s1 k s S)) = p_s2 tp n k s S := rfl
  rw [e2] at r4
  have q0 : p2 = 0 ↔ k = 1 := by rw [hp, eq0 (by omega)]; omega
  have q1 : p2 = 1 ↔ k = 2 := by rw [hp, z_1, iz_eq (by omega)]; omega
  have q2 : p2 = 2 ↔ k = 3 := by rw [hp, z_2, iz_eq (by omega)]; omega
  have q4 : p2 = 4 ↔ k = 5 := by rw [hp, z_4, iz_eq (by omega)]; omega
  refine jk1 (fun hh => ?_) (fun n0 n1 => ?_)
  · rw [q0, q1] at hh
    obtain ⟨k5, r5, _, _⟩ := CR_nset (K2 := fun x => K x ∨ (58 + 6 * s ≤ x ∧ x < 58 + 6 * s + 4)) (j := 58 + 6 * s + 3) (a := b + 12) (i := s) (lo := 0) (hi := 2) (l := 0) (e := 2) r4 hb (fun _ => ⟨rfl, by omega⟩) ⟨rfl, by omega⟩ j3 o3 (by omega) (by omega) (fun x hx => by rcases hx with q | q; exact Or.inr (Or.inl q); omega)
    refine ⟨k5, jo (jnk ?_)⟩
    generalize sA (x_rd_takeNumber U3 0 2).2 (b + 12) s (x_rd_takeNumber U3 0 2).1 = U4 at *
    have eh : (if p2 = 0 then (1 : Int32) else 9) = iz (if k = 1 then 1 else 9) := by
      by_cases y : k = 1
      · rw [if_pos (q0.2 y), if_pos y]; rfl
      · rw [if_neg (fun z => y (q0.1 z)), if_neg y]; rfl
    rw [eh]
    obtain ⟨k6, r6, _, r6v⟩ := CR_nset (K2 := fun x => K x ∨ (58 + 6 * s ≤ x ∧ x < 58 + 6 * s + 5)) (j := 58 + 6 * s + 4) (a := b + 13) (i := s) (lo := 0) (hi := iz (if k = 1 then 1 else 9)) (l := 0) (e := if k = 1 then 1 else 9) r5 hb (fun _ => ⟨rfl, by omega⟩) ⟨rfl, by split <;> omega⟩ j4 o4 (by omega) (by omega) (fun x hx => by rcases hx with q | q; exact Or.inr (Or.inl q); omega)
    have e3 : a_nm tp n (58 + 6 * s + 4) 0 (if k = 1 then 1 else 9) (a_nm tp n (58 + 6 * s + 3) 0 2 (p_s2 tp n k s S)) = p_s3 tp n k s S := by unfold p_s3; rw [if_pos hh]
    have b3 : (p_s3 tp n k s S).1 = 0 → (p_s3 tp n k s S).2.2 (58 + 6 * s + 5) = -1000000 ∧ 0 ≤ (p_s3 tp n k s S).2.2 (58 + 6 * s + 4) ∧ (p_s3 tp n k s S).2.2 (58 + 6 * s + 4) ≤ 9 := fun y => by
      rw [← e3] at y ⊢
      obtain ⟨y1, v, v1, v2, v3⟩ := nm_B y
      obtain ⟨y2, w, _, _, w3⟩ := nm_B y1
      rw [v3, w3, upB_s, upB_n (by omega), upB_n (by omega)]
      exact ⟨(s2_C y2).2.2, v1, by split at v2 <;> omega⟩
    rw [e3] at r6 r6v
    refine ⟨k6, jo ?_⟩
    generalize x_rd_takeNumber U4 0 (iz (if k = 1 then 1 else 9)) = R at *
    generalize sA R.2 (b + 13) s R.1 = U5 at *
    rw [q1]
    refine ⟨fun y => ?_, fun y => jo ?_⟩
    · obtain ⟨k7, r7, _, _⟩ := CR_nset (K2 := fun x => K x ∨ (58 + 6 * s ≤ x ∧ x < 58 + 6 * s + 6)) (j := 58 + 6 * s + 5) (a := b + 14) (i := s) (lo := R.1) (hi := 9) (l := (p_s3 tp n k s S).2.2 (58 + 6 * s + 4)) (e := 9) r6 hb (fun z => ⟨r6v z, by have := b3 z; omega⟩) ⟨rfl, by omega⟩ j5 o5 (by omega) (by omega) (fun x hx => by rcases hx with q | q; exact Or.inr (Or.inl q); omega)
      refine ⟨k7, jo (jo ?_)⟩
      have e5 : p_s5 tp n k s S = a_nm tp n (58 + 6 * s + 5) ((p_s3 tp n k s S).2.2 (58 + 6 * s + 4)) 9 (p_s3 tp n k s S) := by unfold p_s5 p_s4; rw [if_neg (by omega), if_pos y]
      rw [e5]
      exact CR_sg r7 hb
    · have e5 : p_s5 tp n k s S = p_s3 tp n k s S := by unfold p_s5 p_s4; rw [if_neg (by omega), if_neg y]
      rw [e5]
      exact CR_sg (CR_set (j := 58 + 6 * s + 5) r6 hb j5 (by omega) (by omega) (fun z => by rw [(b3 z).1, o5]; rfl) (fun x hx => by rcases hx with q | q; exact Or.inr (Or.inl q); omega)) hb
  · have m0 : ¬ k = 1 := fun y => n0 (q0.2 y)
    have m1 : ¬ k = 2 := fun y => n1 (q1.2 y)
    refine jnk (jnk ?_)
    have r5 : CR tp n b c1 c4 c10 (fun x => K x ∨ (58 + 6 * s ≤ x ∧ x < 58 + 6 * s + 4)) (sA U3 (b + 12) s (if p2 = 2 then 2 else 0)) (p_s2 tp n k s S) := CR_set (j := 58 + 6 * s + 3) r4 hb j3 (by omega) (by omega) (fun z => by
      rw [(s2_C z).1, o3]
      by_cases y : k = 3
      · rw [if_pos (q2.2 y), if_pos y]; rfl
      · rw [if_neg (fun z => y (q2.1 z)), if_neg y]; rfl) (fun x hx => by rcases hx with q | q; exact Or.inr (Or.inl q); omega)
    generalize sA U3 (b + 12) s (if p2 = 2 then 2 else 0) = U4 at *
    have e3 : p_s4 tp n k s S = p_s2 tp n k s S := by unfold p_s4 p_s3; rw [if_neg m1, if_neg (by omega)]
    by_cases y : k = 5
    · rw [if_pos (q4.2 y)]
      refine ⟨fun z => absurd z (by decide), fun _ => ⟨fun z => absurd z n0, fun _ => ?_⟩⟩
      obtain ⟨k6, r6, _, _⟩ := CR_nset (K2 := fun x => K x ∨ (58 + 6 * s ≤ x ∧ x < 58 + 6 * s + 5)) (j := 58 + 6 * s + 4) (a := b + 13) (i := s) (lo := 0) (hi := 9) (l := 0) (e := 9) r5 hb (fun _ => ⟨rfl, by omega⟩) ⟨rfl, by omega⟩ j4 o4 (by omega) (by omega) (fun x hx => by rcases hx with q | q; exact Or.inr (Or.inl q); omega)
      refine ⟨k6, fun z => absurd z n1, fun _ => jo ?_⟩
      have e5 : p_s5 tp n k s S = a_nm tp n (58 + 6 * s + 4) 0 9 (p_s2 tp n k s S) := by unfold p_s5; rw [if_pos y, e3]
      rw [e5]
      exact CR_sg (CR_set (j := 58 + 6 * s + 5) r6 hb j5 (by omega) (by omega) (fun z => by
        obtain ⟨y2, w, _, _, w3⟩ := nm_B z
        rw [w3, upB_n (by omega), (s2_C y2).2.2, o5]; rfl) (fun x hx => by rcases hx with q | q; exact Or.inr (Or.inl q); omega)) hb
    · rw [if_neg (fun z => y (q4.1 z))]
      refine ⟨fun _ => ⟨fun z => absurd z n1, fun _ => jo ?_⟩, fun z => absurd rfl z⟩
      have e5 : p_s5 tp n k s S = p_s2 tp n k s S := by unfold p_s5; rw [if_neg y, e3]
      rw [e5]
      exact CR_sg (CR_set (j := 58 + 6 * s + 5) (K := fun x => K x ∨ (58 + 6 * s ≤ x ∧ x < 58 + 6 * s + 5)) (CR_set (j := 58 + 6 * s + 4) r5 hb j4 (by omega) (by omega) (fun z => by rw [(s2_C z).2.1, o4]; rfl) (fun x hx => by rcases hx with q | q; exact Or.inr (Or.inl q); omega)) hb j5 (by omega) (by omega) (fun z => by rw [(s2_C z).2.2, o5]; rfl) (fun x hx => by rcases hx with q | q; exact Or.inr (Or.inl q); omega)) hb
theorem kl_8 : ∀ k : Nat, k < 7 → ([0, 0, 0, 0, 0, 1, 0] : List Int32).getD k 0 = iz (klo k) ∧ ([3, 3, 3, 9, 9, 3, 9] : List Int32).getD k 0 = iz (khi k) := by decide +kernel
theorem kl_b {k : Nat} : (-1000000 ≤ klo k ∧ klo k ≤ 1000000) ∧ (-1000000 ≤ khi k ∧ khi k ≤ 1000000) := by
  unfold klo khi
  constructor
  · split <;> omega
  · split <;> omega
theorem c_kit (h : CR tp n b c1 c4 c10 (fun _ => False) U S) (hb : b = 46 ∨ b = 61) : ok_rd_readKitchen U b ∧ (fun V => CR tp n b c1 c4 c10 (fun x => x < 7) V (p_kit tp n S)) (x_rd_readKitchen U b) := by
  refine so_rd_readKitchen (Q := fun V => CR tp n b c1 c4 c10 (fun x => x < 7) V (p_kit tp n S)) _ ?_
  unfold wp_rd_readKitchen
  obtain ⟨k1, r1⟩ := CR_wd (w := 0) h hb (by omega)
  refine ⟨k1, ?_⟩
  refine wr_rd_readKitchen_8 b (fun v V => ∃ i : Nat, i ≤ 7 ∧ v = iz i ∧ CR tp n b c1 c4 c10 (fun x => x < i) V (p_kn tp n i (a_wd tp n 0 S))) (fun v _ => (10 - v.toInt).toNat) ?_ _ _ _ (by decide) ⟨0, by omega, rfl, CR_w r1 (fun x hx => absurd hx (by omega))⟩
  rintro _ V ⟨i, i1, rfl, r⟩
  unfold bd_rd_readKitchen_8
  rw [z_7, iz_le (by omega)]
  refine ⟨fun y => ?_, fun y => ⟨b_sh hb, in_nat (by omega) (by omega), ?_⟩⟩
  · have : i = 7 := by omega
    subst this
    exact CR_sg r hb
  · rw [ix_nat (by omega), (kl_8 i (by omega)).1, (kl_8 i (by omega)).2]
    have kb := kl_b (k := i)
    have o : aj i = 1 ∧ ij i = i ∧ ofj i = 0 ∧ okj i := by
      unfold aj ij ofj okj
      simp (disch := omega) only [if_pos, if_neg]
      exact ⟨trivial, trivial, trivial, by omega⟩
    obtain ⟨k2, r2, _, _⟩ := CR_nset (K2 := fun x => x < i + 1) (j := i) (a := b + 1) (i := i) (lo := iz (klo i)) (hi := iz (khi i)) (l := klo i) (e := khi i) r hb (fun _ => ⟨rfl, kb.1⟩) ⟨rfl, kb.2⟩ o.2.2.2 o.2.2.1 (by omega) (by omega) (fun x hx => by omega)
    refine ⟨k2, jo (jo ⟨⟨i + 1, by omega, by rw [z_1, iz_add]; rfl, r2⟩, ?_⟩)⟩
    try dsimp only
    rw [z_1, iz_add, iz_t (by omega), iz_t (by omega)]; omega
end CLS
