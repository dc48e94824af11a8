/-! ===== the class reads steps, dishes, a book ===== -/
section PUR
variable {tp : Nat → Nat} {n : Nat}
theorem away_B {S : Nat × Nat × (Nat → Int)} (h : (p_away tp n S).1 = 0) (hc : 0 ≤ S.2.2 7) : S.1 = 0 ∧ ¬ S.2.2 7 = 4 ∧ ∃ v w, 0 ≤ v ∧ v ≤ w ∧ w ≤ 59 ∧ (p_away tp n S).2.2 = upB (upB (upB S.2.2 (8 + 2 * (S.2.2 7).toNat) v) (8 + 2 * (S.2.2 7).toNat + 1) w) 7 (S.2.2 7 + 1) := by
  unfold p_away at h ⊢
  by_cases h4 : S.2.2 7 = 4
  · rw [if_pos h4] at h; exact absurd h (fl_B (by omega))
  · rw [if_neg h4] at h ⊢
    have h1 := st_B.1.1 h
    have h2 := sg_B.2 h1
    unfold p_aw2 at h2
    obtain ⟨h3, w, w1, w2, w3⟩ := nm_B h2
    unfold p_aw1 at h3
    obtain ⟨h5, v, v1, v2, v3⟩ := nm_B h3
    have e1 : (p_aw1 tp n (S.2.2 7).toNat S).2.2 = upB S.2.2 (8 + 2 * (S.2.2 7).toNat) v := by
      unfold p_aw1; rw [v3, nx_B.1]
    have e2 : (p_aw2 tp n (S.2.2 7).toNat S).2.2 = upB (upB S.2.2 (8 + 2 * (S.2.2 7).toNat) v) (8 + 2 * (S.2.2 7).toNat + 1) w := by
      unfold p_aw2; rw [w3, e1]
    rw [e1, upB_s] at w1
    refine ⟨nx_B.2.1 h5, h4, v, w, v1, w1, w2, ?_⟩
    rw [st_B.2 h1, sg_B.1, e2]
theorem s5_e1 {s : Nat} {S : Nat × Nat × (Nat → Int)} : p_s5 tp n 1 s S = a_nm tp n (58 + 6 * s + 4) 0 1 (a_nm tp n (58 + 6 * s + 3) 0 2 (p_s2 tp n 1 s S)) := by
  unfold p_s5
  rw [if_neg (show ¬ (1 : Nat) = 5 by decide)]
  unfold p_s4
  rw [if_neg (show ¬ (1 : Nat) = 2 by decide)]
  unfold p_s3
  rw [if_pos (show (1 : Nat) = 1 ∨ (1 : Nat) = 2 from Or.inl rfl), if_pos (show (1 : Nat) = 1 from rfl)]
theorem s5_e2 {s : Nat} {S : Nat × Nat × (Nat → Int)} : p_s5 tp n 2 s S = a_nm tp n (58 + 6 * s + 5) ((a_nm tp n (58 + 6 * s + 4) 0 9 (a_nm tp n (58 + 6 * s + 3) 0 2 (p_s2 tp n 2 s S))).2.2 (58 + 6 * s + 4)) 9 (a_nm tp n (58 + 6 * s + 4) 0 9 (a_nm tp n (58 + 6 * s + 3) 0 2 (p_s2 tp n 2 s S))) := by
  unfold p_s5
  rw [if_neg (show ¬ (2 : Nat) = 5 by decide)]
  unfold p_s4
  rw [if_pos (show (2 : Nat) = 2 from rfl)]
  unfold p_s3
  rw [if_pos (show (2 : Nat) = 1 ∨ (2 : Nat) = 2 from Or.inr rfl), if_neg (show ¬ (2 : Nat) = 1 by decide)]
theorem s5_e3 {s : Nat} {S : Nat × Nat × (Nat → Int)} : p_s5 tp n 3 s S = p_s2 tp n 3 s S := by
  unfold p_s5
  rw [if_neg (show ¬ (3 : Nat) = 5 by decide)]
  unfold p_s4
  rw [if_neg (show ¬ (3 : Nat) = 2 by decide)]
  unfold p_s3
  rw [if_neg (show ¬ ((3 : Nat) = 1 ∨ (3 : Nat) = 2) by decide)]
theorem s5_e4 {s : Nat} {S : Nat × Nat × (Nat → Int)} : p_s5 tp n 4 s S = p_s2 tp n 4 s S := by
  unfold p_s5
  rw [if_neg (show ¬ (4 : Nat) = 5 by decide)]
  unfold p_s4
  rw [if_neg (show ¬ (4 : Nat) = 2 by decide)]
  unfold p_s3
  rw [if_neg (show ¬ ((4 : Nat) = 1 ∨ (4 : Nat) = 2) by decide)]
theorem s5_e5 {s : Nat} {S : Nat × Nat × (Nat → Int)} : p_s5 tp n 5 s S = a_nm tp n (58 + 6 * s + 4) 0 9 (p_s2 tp n 5 s S) := by
  unfold p_s5
  rw [if_pos (show (5 : Nat) = 5 from rfl)]
  unfold p_s4
  rw [if_neg (show ¬ (5 : Nat) = 2 by decide)]
  unfold p_s3
  rw [if_neg (show ¬ ((5 : Nat) = 1 ∨ (5 : Nat) = 2) by decide)]
theorem s5_B {k s : Nat} {S : Nat × Nat × (Nat → Int)} (hk : 1 ≤ k ∧ k ≤ 5) (h : (p_s5 tp n k s S).1 = 0) : S.1 = 0 ∧ (∀ x, ¬ (58 + 6 * s ≤ x ∧ x < 58 + 6 * s + 6) → (p_s5 tp n k s S).2.2 x = S.2.2 x) ∧ WFs (p_s5 tp n k s S).2.2 s := by
  have base : (p_s2 tp n k s S).1 = 0 → S.1 = 0 ∧ (∀ x, ¬ (58 + 6 * s ≤ x ∧ x < 58 + 6 * s + 6) → (p_s2 tp n k s S).2.2 x = S.2.2 x) ∧ (p_s2 tp n k s S).2.2 (58 + 6 * s + 0) = k ∧ (1 ≤ (p_s2 tp n k s S).2.2 (58 + 6 * s + 1) ∧ (p_s2 tp n k s S).2.2 (58 + 6 * s + 1) ≤ 30) ∧ (0 ≤ (p_s2 tp n k s S).2.2 (58 + 6 * s + 2) ∧ (p_s2 tp n k s S).2.2 (58 + 6 * s + 2) ≤ 1) := fun y => by
    obtain ⟨y0, v, w, v1, w1, e⟩ := s2_B y
    obtain ⟨g0, _, _, _⟩ := s1_B (k := k) (s := s) y0
    rw [e]
    refine ⟨y0, fun x hx => ?_, ?_, ?_, ?_⟩
    · rw [upB_n (by omega), upB_n (by omega), s1_eq y0]
      show upB _ _ _ _ = _
      rw [upB_n (by omega), upB_n (by omega), upB_n (by omega), upB_n (by omega)]
    · rw [upB_n (by omega), upB_n (by omega)]; exact g0
    · rw [upB_n (by omega), upB_s]; exact v1
    · rw [upB_s]; exact w1
  have k5 : k = 1 ∨ k = 2 ∨ k = 3 ∨ k = 4 ∨ k = 5 := by omega
  unfold WFs kd lg wt sr on tw
  rcases k5 with rfl | rfl | rfl | rfl | rfl
  · rw [s5_e1] at h ⊢
    obtain ⟨h1, c, c1, c2, c3⟩ := nm_B h
    obtain ⟨h2, a, a1, a2, a3⟩ := nm_B h1
    obtain ⟨g0, g1, g2, g3, g4⟩ := base h2
    obtain ⟨f3, f4, f5⟩ := s2_C h2
    rw [c3, a3]
    refine ⟨g0, fun x hx => by rw [upB_n (by omega), upB_n (by omega)]; exact g1 x hx, ?_⟩
    rw [upB_s, upB_n (show 58 + 6 * s + 0 ≠ _ by omega), upB_n (show 58 + 6 * s + 0 ≠ _ by omega), upB_n (show 58 + 6 * s + 1 ≠ _ by omega), upB_n (show 58 + 6 * s + 1 ≠ _ by omega), upB_n (show 58 + 6 * s + 2 ≠ _ by omega), upB_n (show 58 + 6 * s + 2 ≠ _ by omega), upB_n (show 58 + 6 * s + 3 ≠ 58 + 6 * s + 4 by omega), upB_s, upB_n (show 58 + 6 * s + 5 ≠ _ by omega), upB_n (show 58 + 6 * s + 5 ≠ _ by omega), g2, f5]
    omega
  · rw [s5_e2] at h ⊢
    obtain ⟨h0, f, f1, f2, f3⟩ := nm_B h
    obtain ⟨h1, c, c1, c2, c3⟩ := nm_B h0
    obtain ⟨h2, a, a1, a2, a3⟩ := nm_B h1
    obtain ⟨g0, g1, g2, g3, g4⟩ := base h2
    rw [c3, upB_s] at f1
    rw [f3, c3, a3]
    refine ⟨g0, fun x hx => by rw [upB_n (by omega), upB_n (by omega), upB_n (by omega)]; exact g1 x hx, ?_⟩
    rw [upB_s, upB_n (show 58 + 6 * s + 0 ≠ _ by omega), upB_n (show 58 + 6 * s + 0 ≠ _ by omega), upB_n (show 58 + 6 * s + 0 ≠ _ by omega), upB_n (show 58 + 6 * s + 1 ≠ _ by omega), upB_n (show 58 + 6 * s + 1 ≠ _ by omega), upB_n (show 58 + 6 * s + 1 ≠ _ by omega), upB_n (show 58 + 6 * s + 2 ≠ _ by omega), upB_n (show 58 + 6 * s + 2 ≠ _ by omega), upB_n (show 58 + 6 * s + 2 ≠ _ by omega), upB_n (show 58 + 6 * s + 3 ≠ 58 + 6 * s + 5 by omega), upB_n (show 58 + 6 * s + 3 ≠ 58 + 6 * s + 4 by omega), upB_s, upB_n (show 58 + 6 * s + 4 ≠ 58 + 6 * s + 5 by omega), upB_s, g2]
    omega
  · rw [s5_e3] at h ⊢
    obtain ⟨g0, g1, g2, g3, g4⟩ := base h
    obtain ⟨f3, f4, f5⟩ := s2_C h
    rw [if_pos rfl] at f3
    refine ⟨g0, g1, ?_⟩
    rw [g2, f3, f4, f5]
    omega
  · rw [s5_e4] at h ⊢
    obtain ⟨g0, g1, g2, g3, g4⟩ := base h
    obtain ⟨f3, f4, f5⟩ := s2_C h
    rw [if_neg (by decide)] at f3
    refine ⟨g0, g1, ?_⟩
    rw [g2, f3, f4, f5]
    omega
  · rw [s5_e5] at h ⊢
    obtain ⟨h2, c, c1, c2, c3⟩ := nm_B h
    obtain ⟨g0, g1, g2, g3, g4⟩ := base h2
    obtain ⟨f3, f4, f5⟩ := s2_C h2
    rw [if_neg (by decide)] at f3
    rw [c3]
    refine ⟨g0, fun x hx => by rw [upB_n (by omega)]; exact g1 x hx, ?_⟩
    rw [upB_s, upB_n (show 58 + 6 * s + 0 ≠ _ by omega), upB_n (show 58 + 6 * s + 1 ≠ _ by omega), upB_n (show 58 + 6 * s + 2 ≠ _ by omega), upB_n (show 58 + 6 * s + 3 ≠ _ by omega), upB_n (show 58 + 6 * s + 5 ≠ _ by omega), g2, f3, f5]
    omega
theorem step_B {k d s : Nat} {S : Nat × Nat × (Nat → Int)} (hk : 1 ≤ k ∧ k ≤ 5) (hs : S.2.2 17 = s) (hd : d < 8) (h : (p_step tp n k d S).1 = 0) : S.1 = 0 ∧ ¬ S.2.2 (18 + 5 * d + 3) = 3 ∧ (p_step tp n k d S).2.2 17 = s + 1 ∧ (p_step tp n k d S).2.2 (18 + 5 * d + 3) = S.2.2 (18 + 5 * d + 3) + 1 ∧ (∀ x, x ≠ 17 → x ≠ 18 + 5 * d + 3 → ¬ (58 + 6 * s ≤ x ∧ x < 58 + 6 * s + 6) → (p_step tp n k d S).2.2 x = S.2.2 x) ∧ WFs (p_step tp n k d S).2.2 s := by
  unfold p_step at h ⊢
  by_cases h4 : S.2.2 (18 + 5 * d + 3) = 3
  · rw [if_pos h4] at h; exact absurd h (fl_B (by omega))
  · rw [if_neg h4] at h ⊢
    rw [hs, Int.toNat_natCast] at h ⊢
    unfold p_s6 at h ⊢
    have h1 := st_B.1.1 h
    have h2 := st_B.1.1 h1
    have h3 := sg_B.2 h2
    obtain ⟨h5, g1, g2⟩ := s5_B hk h3
    rw [nx_B.2] at h5
    have e : ∀ x, ¬ (58 + 6 * s ≤ x ∧ x < 58 + 6 * s + 6) → (a_sg tp n (p_s5 tp n k s (a_nx tp n S))).2.2 x = S.2.2 x := fun x hx => by rw [sg_B.1, g1 x hx, nx_B.1]
    rw [st_B.2 h1, st_B.2 h2, e 17 (by omega), e (18 + 5 * d + 3) (by omega)]
    refine ⟨h5, h4, by rw [upB_s, hs], by rw [upB_n (by omega), upB_s], fun x x1 x2 x3 => by rw [upB_n x1, upB_n x2]; exact e x x3, ?_⟩
    unfold WFs kd lg wt sr on tw at g2 ⊢
    have u : ∀ j, j < 6 → upB (upB (a_sg tp n (p_s5 tp n k s (a_nx tp n S))).2.2 (18 + 5 * d + 3) (S.2.2 (18 + 5 * d + 3) + 1)) 17 (S.2.2 17 + 1) (58 + 6 * s + j) = (p_s5 tp n k s (a_nx tp n S)).2.2 (58 + 6 * s + j) := fun j hj => by rw [upB_n (by omega), upB_n (by omega), sg_B.1]
    rw [u 0 (by omega), u 1 (by omega), u 2 (by omega), u 3 (by omega), u 4 (by omega), u 5 (by omega)]
    exact g2
end PUR
section CLS
variable {tp : Nat → Nat} {n : Nat} {b c1 c4 c10 : Nat} {K K2 : Nat → Prop} {U V : St} {S : Nat × Nat × (Nat → Int)}
theorem c_steps {d : Nat} (h : CR tp n b c1 c4 c10 K U S) (hb : b = 46 ∨ b = 61) (hd : d < 8) (hc : c10 ≤ 3 * d) (hK : ∀ x, K x → x < 58 + 6 * c10 ∧ x ≠ 17 ∧ x ≠ 18 + 5 * d + 3) (h17 : S.1 = 0 → S.2.2 17 = c10 ∧ S.2.2 (18 + 5 * d + 3) = 0 ∧ S.2.2 (18 + 5 * d + 4) = c10 ∧ S.2.2 16 = d) : ok_rd_readSteps U b ∧ (fun V => ∃ c : Nat, CR tp n b c1 c4 c (fun x => K x ∨ (58 + 6 * c10 ≤ x ∧ x < 58 + 6 * c)) V (p_d3 tp n d S) ∧ ((p_d3 tp n d S).1 = 0 → (p_d3 tp n d S).2.2 17 = c ∧ (p_d3 tp n d S).2.2 (18 + 5 * d + 3) = (c : Int) - c10 ∧ (p_d3 tp n d S).2.2 (18 + 5 * d + 4) = c10 ∧ (p_d3 tp n d S).2.2 16 = d ∧ c10 + 1 ≤ c ∧ c ≤ c10 + 3)) (x_rd_readSteps U b) := by
  refine so_rd_readSteps (Q := fun V => ∃ c : Nat, CR tp n b c1 c4 c (fun x => K x ∨ (58 + 6 * c10 ≤ x ∧ x < 58 + 6 * c)) V (p_d3 tp n d S) ∧ ((p_d3 tp n d S).1 = 0 → (p_d3 tp n d S).2.2 17 = c ∧ (p_d3 tp n d S).2.2 (18 + 5 * d + 3) = (c : Int) - c10 ∧ (p_d3 tp n d S).2.2 (18 + 5 * d + 4) = c10 ∧ (p_d3 tp n d S).2.2 16 = d ∧ c10 + 1 ≤ c ∧ c ≤ c10 + 3)) _ ?_
  unfold wp_rd_readSteps
  refine wr_rd_readSteps_2 b (fun v2 V => ∃ (v c : Nat) (S' : Nat × Nat × (Nat → Int)), v2 = iz v ∧ v ≤ 3 ∧ CR tp n b c1 c4 c (fun x => K x ∨ (58 + 6 * c10 ≤ x ∧ x < 58 + 6 * c)) V S' ∧ (v = 0 → S' = S) ∧ (1 ≤ v → p_d3 tp n d S = p_sl tp n d (4 - v) S') ∧ (S'.1 = 0 → c = c10 + v ∧ S'.2.2 17 = c ∧ S'.2.2 (18 + 5 * d + 3) = v ∧ S'.2.2 (18 + 5 * d + 4) = c10 ∧ S'.2.2 16 = d)) (fun v2 _ => (10 - v2.toInt).toNat) ?_ _ _ _ (by decide) ⟨0, c10, S, rfl, by omega, CR_w h (fun x hx => by rcases hx with q | q; exact q; omega), fun _ => rfl, fun y => absurd y (by omega), fun y => by have := h17 y; omega⟩
  rintro _ V ⟨v, c, S', rfl, v1, r, v2, v3, v4⟩
  unfold bd_rd_readSteps_2
  have k5 := kw_5 (tp := tp) (n := n) (q := S'.2.1)
  have flt : ∀ (W : St) (k : Nat), CR tp n b c1 c4 c (fun x => K x ∨ (58 + 6 * c10 ≤ x ∧ x < 58 + 6 * c)) W (a_fl k S') → 1 ≤ k → p_d3 tp n d S = a_fl k S' → ∃ c : Nat, CR tp n b c1 c4 c (fun x => K x ∨ (58 + 6 * c10 ≤ x ∧ x < 58 + 6 * c)) W (p_d3 tp n d S) ∧ ((p_d3 tp n d S).1 = 0 → (p_d3 tp n d S).2.2 17 = c ∧ (p_d3 tp n d S).2.2 (18 + 5 * d + 3) = (c : Int) - c10 ∧ (p_d3 tp n d S).2.2 (18 + 5 * d + 4) = c10 ∧ (p_d3 tp n d S).2.2 16 = d ∧ c10 + 1 ≤ c ∧ c ≤ c10 + 3) := fun W k hw hk e => by
    rw [e]
    exact ⟨c, hw, fun y => absurd y (fl_B hk)⟩
  rw [z_3, iz_lt (by omega), CR_0 r]
  refine ⟨fun y => absurd y (by omega), fun _ => ⟨fun y => ?_, fun y => ?_⟩⟩
  · obtain ⟨w1, w2, w3, w4, w5⟩ := v4 y
    obtain ⟨ow, ew⟩ := s_stW r.2.2.1
    rw [ew, show (-1 : Int32) = iz (-1) from rfl, iz_eq (by omega), eq0 (by omega), iz_eq (by omega)]
    refine ⟨ow, fun z => ⟨fun z0 => ?_, fun z0 => ?_⟩, fun z => ⟨fun z3 => ?_, fun z3 => ⟨b_sh hb, ?_⟩⟩⟩
    · have e0 := v2 (by omega)
      refine flt _ 1 (CR_fl (k := 1) r hb y (by omega)) (by omega) ?_
      unfold p_d3
      rw [← e0, if_pos ⟨y, by omega⟩, fz_sl (fl_B (by omega))]
    · have e0 : p_d3 tp n d S = S' := by
        rw [v3 (by omega), show 4 - v = (4 - v - 1) + 1 by omega]
        exact if_neg (fun q => q.2 (by omega))
      rw [e0]
      exact ⟨c, r, fun _ => by omega⟩
    · have e0 : p_d3 tp n d S = a_fl 3 S' := by
        have hv : v = 3 := by omega
        rw [v3 (by omega), hv]
        show (if S'.1 = 0 ∧ kw tp n S'.2.1 ≠ 0 then p_sl tp n d 0 (p_step tp n (kw tp n S'.2.1) d S') else S') = _
        rw [if_pos ⟨y, by omega⟩]
        show p_step tp n (kw tp n S'.2.1) d S' = _
        unfold p_step
        rw [if_pos (by omega)]
      exact flt _ 3 (CR_fl (k := 3) r hb y (by omega)) (by omega) e0
    · rw [r.2.2.2.1.2.2.1, z_24, iz_lt (by omega)]
      refine ⟨fun _ => ?_, fun q => absurd (by omega) q⟩
      obtain ⟨oa, ra⟩ := CR_adv r hb
      have ra := ra y
      generalize x_rd_advance V = V1 at *
      rw [ra.2.2.2.1.2.2.1]
      obtain ⟨os, rs⟩ := c_rstep (k := kw tp n S'.2.1) (s := c) (p2 := iz ((kw tp n S'.2.1 : Int) - 1)) ra hb (by omega) (by omega) rfl (fun x hx => by rcases hx with q | q; have := hK x q; omega; omega)
      refine ⟨oa, os, jo ?_⟩
      generalize x_rd_readStep V1 b (iz c) (iz ((kw tp n S'.2.1 : Int) - 1)) = V2 at *
      try dsimp only at rs
      rw [rs.2.2.2.1.2.2.1, z_1, iz_add, iz_add]
      have e6 : p_step tp n (kw tp n S'.2.1) d S' = p_s6 d (a_sg tp n (p_s5 tp n (kw tp n S'.2.1) c (a_nx tp n S'))) := by
        unfold p_step; rw [if_neg (by omega), w2, Int.toNat_natCast]
      refine ⟨⟨v + 1, c + 1, p_step tp n (kw tp n S'.2.1) d S', rfl, by omega, ?_, fun q => absurd q (by omega), fun _ => ?_, fun q => ?_⟩, ?_⟩
      · rw [e6]
        unfold p_s6
        refine CR_st (CR_st (K2 := fun x => (K x ∨ (58 + 6 * c10 ≤ x ∧ x < 58 + 6 * c)) ∨ (58 + 6 * c ≤ x ∧ x < 58 + 6 * c + 6)) (CR_c10 (c := c + 1) rs hb) (fun x hx => ⟨hx, fun e => ?_⟩)) (fun x hx => ⟨?_, fun e => ?_⟩)
        · rcases hx with (q | q) | q
          · exact (hK x q).2.2 e
          · omega
          · omega
        · rcases hx with q | q
          · exact Or.inl (Or.inl q)
          · omega
        · rcases hx with q | q
          · exact (hK x q).2.1 e
          · omega
      · rcases Nat.eq_zero_or_pos v with q | q
        · have e0 := v2 q
          unfold p_d3
          rw [← e0, if_neg (fun u => absurd u.2 (by omega))]
          subst q
          show (if S'.1 = 0 ∧ kw tp n S'.2.1 ≠ 0 then p_sl tp n d 3 (p_step tp n (kw tp n S'.2.1) d S') else S') = _
          rw [if_pos ⟨y, by omega⟩]
        · rw [v3 q, show 4 - v = (4 - (v + 1)) + 1 by omega]
          exact if_pos ⟨y, by omega⟩
      · obtain ⟨_, _, g1, g2, g3, _⟩ := step_B (by omega) w2 hd q
        refine ⟨by omega, by omega, by omega, ?_, ?_⟩
        · rw [g3 _ (by omega) (by omega) (by omega)]; exact w4
        · rw [g3 _ (by omega) (by omega) (by omega)]; exact w5
      · try dsimp only
        rw [iz_t (by omega), iz_t (by omega)]; omega
  · have e0 : p_d3 tp n d S = S' := by
      rcases Nat.eq_zero_or_pos v with q | q
      · have e0 := v2 q
        unfold p_d3
        rw [← e0, if_neg (fun u => y u.1), fz_sl y]
      · rw [v3 q, fz_sl y]
    rw [e0]
    exact ⟨c, r, fun q => absurd q y⟩
end CLS
