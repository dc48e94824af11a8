/-! ===== the class reads a dish, and the whole ===== -/
section CLS
variable {tp : Nat → Nat} {n : Nat} {b c1 c4 c10 : Nat} {K K2 : Nat → Prop} {U V : St} {S : Nat × Nat × (Nat → Int)}
theorem d_bad {P Q : Prop} (h : CR tp n b c1 c4 c10 K U S) (hb : b = 46 ∨ b = 61) (hz : ¬ (a_wd tp n 2 S).1 = 0) (hq : CR tp n b c1 c4 c10 K (x_rd_takeWord U 2) (a_wd tp n 2 S) → Q) : ok_rd_takeWord U 2 ∧ ((((x_rd_takeWord U 2).1 13 2 = 0) → P) ∧ (¬ ((x_rd_takeWord U 2).1 13 2 = 0) → Q)) := by
  obtain ⟨o, r⟩ := CR_wd (w := 2) h hb (by omega)
  exact ⟨o, fun y => absurd ((CR_0 r).1 y) hz, fun _ => hq r⟩
theorem c_dish (h : CR tp n b c1 c4 c10 (KB 7 c1 c4 c10) U S) (hb : b = 46 ∨ b = 61) (hc1 : c1 ≤ 4) (hS : S.1 = 0 → S.2.2 16 = c4 ∧ S.2.2 17 = c10 ∧ c4 ≤ 8 ∧ c10 ≤ 3 * c4) : ok_rd_readDish U b ∧ (fun V => ∃ d e : Nat, CR tp n b c1 d e (KB 7 c1 d e) V (p_pd tp n S) ∧ ((p_pd tp n S).1 = 0 → (p_pd tp n S).2.2 16 = d ∧ (p_pd tp n S).2.2 17 = e ∧ d ≤ 8 ∧ e ≤ 3 * d)) (x_rd_readDish U b) := by
  refine so_rd_readDish (Q := fun V => ∃ d e : Nat, CR tp n b c1 d e (KB 7 c1 d e) V (p_pd tp n S) ∧ ((p_pd tp n S).1 = 0 → (p_pd tp n S).2.2 16 = d ∧ (p_pd tp n S).2.2 17 = e ∧ d ≤ 8 ∧ e ≤ 3 * d)) _ ?_
  unfold wp_rd_readDish
  obtain ⟨ow, ew⟩ := s_isW (w := 2) h.2.2.1 (by omega)
  have bad : ∀ (W : St) (X : Nat × Nat × (Nat → Int)), CR tp n b c1 c4 c10 (KB 7 c1 c4 c10) W X → ¬ X.1 = 0 → p_pd tp n S = X → ∃ d e : Nat, CR tp n b c1 d e (KB 7 c1 d e) W (p_pd tp n S) ∧ ((p_pd tp n S).1 = 0 → (p_pd tp n S).2.2 16 = d ∧ (p_pd tp n S).2.2 17 = e ∧ d ≤ 8 ∧ e ≤ 3 * d) := fun W X r z e => by
    rw [e]; exact ⟨c4, c10, r, fun y => absurd y z⟩
  rw [CR_0 h, ew]
  refine jo ⟨fun y => ⟨ow, fun z => ?_, fun z => ⟨b_sh hb, ?_⟩⟩, fun y => ?_⟩
  · have e1 : a_wd tp n 2 S = a_fl 1 S := by unfold a_wd a_fl; rw [if_pos y, if_pos y, if_neg z]
    have nz : ¬ (a_wd tp n 2 S).1 = 0 := by rw [e1]; exact fl_B (by omega)
    exact d_bad h hb nz (fun r => bad _ _ r nz (by unfold p_pd; rw [if_pos y, if_neg z, e1]))
  · have z' : iw tp n 2 S.2.1 = true := Classical.byContradiction z
    obtain ⟨s16, s17, c8, cc⟩ := hS y
    rw [h.2.2.2.1.2.1, z_8, iz_lt (by omega)]
    refine ⟨fun q => ?_, fun q => ?_⟩
    · obtain ⟨o1, r1⟩ := CR_wd (w := 2) h hb (by omega)
      have e1 : a_wd tp n 2 S = a_nx tp n S := by unfold a_wd a_nx; rw [if_pos y, if_pos y, if_pos z']
      rw [e1] at r1
      have e0 : p_pd tp n S = p_d4 (p_d3 tp n c4 (p_d2 c4 (p_d1 tp n c4 S))) := by
        unfold p_pd p_dish; rw [if_pos y, if_pos z', if_neg (by omega), s16, Int.toNat_natCast]
      generalize x_rd_takeWord U 2 = U1 at *
      obtain ⟨a0, i0, o0, j0⟩ := aj_d (i := c4) (k := 0) (by omega) (by omega)
      obtain ⟨a1, i1, o1', j1⟩ := aj_d (i := c4) (k := 1) (by omega) (by omega)
      obtain ⟨a2, i2, o2, j2⟩ := aj_d (i := c4) (k := 2) (by omega) (by omega)
      obtain ⟨a3, i3, o3, j3⟩ := aj_d (i := c4) (k := 3) (by omega) (by omega)
      obtain ⟨a4, i4, o4, j4⟩ := aj_d (i := c4) (k := 4) (by omega) (by omega)
      refine ⟨o1, fun _ => ⟨b_sh hb, jo ?_⟩, fun w => absurd ((CR_0 r1).2 (nx_B.2.2 y)) w⟩
      rw [r1.2.2.2.1.2.1, ix_nat (by omega)]
      obtain ⟨k2, r2, _, _⟩ := CR_nset (K2 := fun x => KB 7 c1 c4 c10 x ∨ (18 + 5 * c4 ≤ x ∧ x < 18 + 5 * c4 + 1)) (j := 18 + 5 * c4 + 0) (a := b + 4) (i := c4) (lo := 0) (hi := 2) (l := 0) (e := 2) r1 hb (fun _ => ⟨rfl, by omega⟩) ⟨rfl, by omega⟩ j0 o0 (by omega) (by omega) (fun x hx => by rcases hx with q | q; exact Or.inr q; omega)
      refine ⟨k2, in_nat (by omega) (by omega), jo ?_⟩
      generalize sA (x_rd_takeNumber U1 0 2).2 (b + 4) c4 (x_rd_takeNumber U1 0 2).1 = U2 at *
      obtain ⟨k3, r3, _, _⟩ := CR_nset (K2 := fun x => KB 7 c1 c4 c10 x ∨ (18 + 5 * c4 ≤ x ∧ x < 18 + 5 * c4 + 2)) (j := 18 + 5 * c4 + 1) (a := b + 5) (i := c4) (lo := 0) (hi := 9) (l := 0) (e := 9) r2 hb (fun _ => ⟨rfl, by omega⟩) ⟨rfl, by omega⟩ j1 o1' (by omega) (by omega) (fun x hx => by rcases hx with q | q; exact Or.inr (Or.inl q); omega)
      refine ⟨k3, jo ?_⟩
      generalize sA (x_rd_takeNumber U2 0 9).2 (b + 5) c4 (x_rd_takeNumber U2 0 9).1 = U3 at *
      obtain ⟨k4, r4, _, _⟩ := CR_nset (K2 := fun x => KB 7 c1 c4 c10 x ∨ (18 + 5 * c4 ≤ x ∧ x < 18 + 5 * c4 + 3)) (j := 18 + 5 * c4 + 2) (a := b + 6) (i := c4) (lo := 0) (hi := 1) (l := 0) (e := 1) r3 hb (fun _ => ⟨rfl, by omega⟩) ⟨rfl, by omega⟩ j2 o2 (by omega) (by omega) (fun x hx => by rcases hx with q | q; exact Or.inr (Or.inl q); omega)
      refine ⟨k4, jo ?_⟩
      generalize sA (x_rd_takeNumber U3 0 1).2 (b + 6) c4 (x_rd_takeNumber U3 0 1).1 = U4 at *
      obtain ⟨k5, r5⟩ := CR_sg r4 hb
      have ed1 : a_sg tp n (a_nm tp n (18 + 5 * c4 + 2) 0 1 (a_nm tp n (18 + 5 * c4 + 1) 0 9 (a_nm tp n (18 + 5 * c4 + 0) 0 2 (a_nx tp n S)))) = p_d1 tp n c4 S := rfl
      rw [ed1] at r5
      generalize x_rd_takeSign U4 = U5 at *
      have b1 : (p_d1 tp n c4 S).1 = 0 → (p_d1 tp n c4 S).2.2 17 = c10 ∧ (p_d1 tp n c4 S).2.2 16 = c4 := fun w => by
        have w1 := sg_B.2 w
        obtain ⟨w2, v2, _, _, e2⟩ := nm_B w1
        obtain ⟨w3, v3, _, _, e3⟩ := nm_B w2
        obtain ⟨w4, v4, _, _, e4⟩ := nm_B w3
        unfold p_d1
        rw [sg_B.1, e2, e3, e4, nx_B.1, upB_n (by omega), upB_n (by omega), upB_n (by omega), upB_n (by omega), upB_n (by omega), upB_n (by omega)]
        exact ⟨s17, s16⟩
      have b2 : (p_d2 c4 (p_d1 tp n c4 S)).1 = 0 → (p_d2 c4 (p_d1 tp n c4 S)).2.2 17 = c10 ∧ (p_d2 c4 (p_d1 tp n c4 S)).2.2 (18 + 5 * c4 + 3) = 0 ∧ (p_d2 c4 (p_d1 tp n c4 S)).2.2 (18 + 5 * c4 + 4) = c10 ∧ (p_d2 c4 (p_d1 tp n c4 S)).2.2 16 = c4 := fun w => by
        unfold p_d2 at w ⊢
        have w1 := st_B.1.1 w
        have w2 := st_B.1.1 w1
        have := b1 w2
        rw [st_B.2 w1, st_B.2 w2, upB_s, upB_n (by omega), upB_n (by omega), upB_n (show 18 + 5 * c4 + 4 ≠ _ by omega), upB_s, upB_n (by omega), upB_n (by omega)]
        omega
      have r6 : CR tp n b c1 c4 c10 (fun x => KB 7 c1 c4 c10 x ∨ (18 + 5 * c4 ≤ x ∧ x < 18 + 5 * c4 + 3)) U5 (p_d2 c4 (p_d1 tp n c4 S)) := by
        unfold p_d2
        exact CR_st (CR_st r5 (fun x hx => ⟨hx, fun e => by unfold KB at hx; omega⟩)) (fun x hx => ⟨hx, fun e => by unfold KB at hx; omega⟩)
      have r7 := CR_set (K2 := fun x => (KB 7 c1 c4 c10 x ∨ (18 + 5 * c4 ≤ x ∧ x < 18 + 5 * c4 + 3)) ∨ x = 18 + 5 * c4 + 4) (j := 18 + 5 * c4 + 4) (a := b + 8) (i := c4) (v := U5.1 b 10) r6 hb j4 (by omega) (by omega) (fun w => by rw [r6.2.2.2.1.2.2.1, (b2 w).2.2.1, o4]; exact iz_inj (by omega)) (fun x hx => hx.symm)
      generalize sA U5 (b + 8) c4 (U5.1 b 10) = U6 at *
      obtain ⟨k8, e, r8, b8⟩ := c_steps (d := c4) r7 hb (by omega) cc (fun x hx => by unfold KB at hx; omega) b2
      refine ⟨k5, k8, jo ?_⟩
      generalize x_rd_readSteps U6 b = U7 at *
      have r9 := CR_set (K2 := fun x => x = 18 + 5 * c4 + 3 ∨ ((KB 7 c1 c4 c10 x ∨ (18 + 5 * c4 ≤ x ∧ x < 18 + 5 * c4 + 3)) ∨ x = 18 + 5 * c4 + 4) ∨ (58 + 6 * c10 ≤ x ∧ x < 58 + 6 * e)) (j := 18 + 5 * c4 + 3) (a := b + 7) (i := c4) (v := U7.1 b 10 - U7.2.2.1 (b + 8) c4) r8 hb j3 (by omega) (by omega) (fun w => by
        have g := (r8.2.2.2.2 w (18 + 5 * c4 + 4) (Or.inl (Or.inr rfl))).2
        rw [a4, i4, o4] at g
        have b9 := b8 w
        rw [show b + (4 + 4) = b + 8 by omega] at g
        rw [r8.2.2.2.1.2.2.1, g, iz_sub, b9.2.2.1, b9.2.1, o3]
        exact iz_inj (by omega)) (fun x hx => hx)
      refine jo ?_
      generalize sA U7 (b + 7) c4 (U7.1 b 10 - U7.2.2.1 (b + 8) c4) = U8 at *
      have ec : U8.1 b 4 + 1 = iz ((c4 + 1 : Nat) : Int) := by rw [r9.2.2.2.1.2.1, z_1, iz_add]; rfl
      rw [ec, e0]
      have hz4 : (p_d4 (p_d3 tp n c4 (p_d2 c4 (p_d1 tp n c4 S)))).1 = 0 → (p_d3 tp n c4 (p_d2 c4 (p_d1 tp n c4 S))).1 = 0 := fun w => st_B.1.1 w
      refine ⟨c4 + 1, e, ?_, fun w => ?_⟩
      · unfold p_d4
        by_cases w : (p_d3 tp n c4 (p_d2 c4 (p_d1 tp n c4 S))).1 = 0
        · have b9 := b8 w
          exact CR_st (CR_c4 (c := c4 + 1) r9 hb) (fun x hx => by unfold KB at hx ⊢; omega)
        · rw [fz_st w]
          have r10 := CR_c4 (c := c4 + 1) r9 hb
          exact ⟨r10.1, r10.2.1, r10.2.2.1, r10.2.2.2.1, fun q => absurd q w⟩
      · have w1 := hz4 w
        have b9 := b8 w1
        unfold p_d4
        rw [st_B.2 w1, upB_s, upB_n (by omega)]
        omega
    · have r1 := CR_fl (k := 3) h hb y (by omega)
      have e1 : a_wd tp n 2 (a_fl 3 S) = a_fl 3 S := if_neg (fl_B (by omega))
      have nz : ¬ (a_wd tp n 2 (a_fl 3 S)).1 = 0 := by rw [e1]; exact fl_B (by omega)
      exact d_bad r1 hb nz (fun r => bad _ _ r nz (by unfold p_pd p_dish; rw [if_pos y, if_pos z', if_pos (by omega), e1]))
  · have e1 : a_wd tp n 2 S = S := if_neg y
    have nz : ¬ (a_wd tp n 2 S).1 = 0 := by rw [e1]; exact y
    exact d_bad h hb nz (fun r => bad _ _ r nz (by unfold p_pd; rw [if_neg y, e1]))
theorem kn_16 {S : Nat × Nat × (Nat → Int)} : ∀ k : Nat, k ≤ 7 → ∀ x, 7 ≤ x → (p_kn tp n k S).1 = 0 → (p_kn tp n k S).2.2 x = S.2.2 x := by
  intro k
  induction k with
  | zero => intro _ x _ _; rfl
  | succ k ih =>
    intro hk x hx h
    obtain ⟨h1, v, _, _, e⟩ := nm_B (show (a_nm tp n k (klo k) (khi k) (p_kn tp n k S)).1 = 0 from h)
    show (a_nm tp n k (klo k) (khi k) (p_kn tp n k S)).2.2 x = _
    rw [e, upB_n (by omega)]
    exact ih (by omega) x hx h1
theorem kit_0 (h : (p_kit tp n S).1 = 0) : ∀ x, 7 ≤ x → (p_kit tp n S).2.2 x = S.2.2 x := fun x hx => by
  unfold p_kit at h ⊢
  rw [sg_B.1, kn_16 7 (by omega) x hx (sg_B.2 h), wd_B.1]
theorem c_read (hU : TX tp n U) (hb : b = 46 ∨ b = 61) : ok_rd_read U b ∧ (fun V => ∃ (V0 : St) (c1 c4 c10 : Nat), V = sF V0 13 1 0 ∧ CR tp n b c1 c4 c10 (KB 7 c1 c4 c10) V0 (p_all tp n) ∧ ((p_all tp n).1 = 0 → (p_all tp n).2.2 7 = c1 ∧ (p_all tp n).2.2 16 = c4 ∧ (p_all tp n).2.2 17 = c10)) (x_rd_read U b) := by
  refine so_rd_read (Q := fun V => ∃ (V0 : St) (c1 c4 c10 : Nat), V = sF V0 13 1 0 ∧ CR tp n b c1 c4 c10 (KB 7 c1 c4 c10) V0 (p_all tp n) ∧ ((p_all tp n).1 = 0 → (p_all tp n).2.2 7 = c1 ∧ (p_all tp n).2.2 16 = c4 ∧ (p_all tp n).2.2 17 = c10)) _ ?_
  unfold wp_rd_read
  obtain ⟨oc, ec⟩ := so_bk_clear (T := U) b (Q := fun V => V = sF (sF (sF (sF (sF U b 1 0) b 4 0) b 10 0) b 17 1) b 18 60) ⟨b_sh hb, rfl⟩
  rw [ec]
  have hT : TX tp n (sF (sF (sF (sF (sF (sF (sF U b 1 0) b 4 0) b 10 0) b 17 1) b 18 60) 13 2 0) 13 4 0) := TX_F (TX_F (TX_F (TX_F (TX_F (TX_F (TX_F hU (by omega)) (by omega)) (by omega)) (by omega)) (by omega)) (by omega)) (by omega)
  have f1 : (sF (sF (sF (sF (sF (sF (sF U b 1 0) b 4 0) b 10 0) b 17 1) b 18 60) 13 2 0) 13 4 0).1 b 1 = 0 := by simp (disch := omega) only [gF_F, if_neg, if_pos, and_self, if_true]
  have f2 : (sF (sF (sF (sF (sF (sF (sF U b 1 0) b 4 0) b 10 0) b 17 1) b 18 60) 13 2 0) 13 4 0).1 b 4 = 0 := by simp (disch := omega) only [gF_F, if_neg, if_pos, and_self, if_true]
  have f3 : (sF (sF (sF (sF (sF (sF (sF U b 1 0) b 4 0) b 10 0) b 17 1) b 18 60) 13 2 0) 13 4 0).1 b 10 = 0 := by simp (disch := omega) only [gF_F, if_neg, if_pos, and_self, if_true]
  have f4 : (sF (sF (sF (sF (sF (sF (sF U b 1 0) b 4 0) b 10 0) b 17 1) b 18 60) 13 2 0) 13 4 0).1 b 17 = 1 := by simp (disch := omega) only [gF_F, if_neg, if_pos, and_self, if_true]
  have f5 : (sF (sF (sF (sF (sF (sF (sF U b 1 0) b 4 0) b 10 0) b 17 1) b 18 60) 13 2 0) 13 4 0).1 b 18 = 60 := by simp (disch := omega) only [gF_F, if_neg, if_pos, and_self, if_true]
  have f6 : (sF (sF (sF (sF (sF (sF (sF U b 1 0) b 4 0) b 10 0) b 17 1) b 18 60) 13 2 0) 13 4 0).1 13 2 = 0 := by rw [gF_F, if_neg (by omega), gF_F, if_pos ⟨rfl, rfl⟩]
  have f7 : (sF (sF (sF (sF (sF (sF (sF U b 1 0) b 4 0) b 10 0) b 17 1) b 18 60) 13 2 0) 13 4 0).1 13 4 = iz ((0 : Nat) : Int) := by rw [gF_F, if_pos ⟨rfl, rfl⟩]; rfl
  generalize sF (sF (sF (sF (sF (sF (sF U b 1 0) b 4 0) b 10 0) b 17 1) b 18 60) 13 2 0) 13 4 0 = U0 at *
  obtain ⟨oa, x1, x2, x3, x4⟩ := s_adv hT (show 0 ≤ n by omega) f7
  have f := fr_rd_advance oa
  have nf : ∀ c k, ¬ (c = 13 ∧ 3 ≤ k ∧ k < 7) → k < 100 → (x_rd_advance U0).1 c k = U0.1 c k := fun c k y z => q_F f (by unfold W_rd_advance; omega)
  have na : ∀ c k, c < 10000 → (x_rd_advance U0).2.2.1 c k = U0.2.2.1 c k := fun c k y => q_A f (by unfold W_rd_advance; omega)
  have r0 : CR tp n b 0 0 0 (fun _ => False) (x_rd_advance U0) (0, 0, fun _ => 0) := by
    refine ⟨by rw [nf _ _ (by omega) (by omega)]; exact f6, by show 0 < 10; omega, ⟨⟨hT.1, by rw [nf _ _ (by omega) (by omega)]; exact hT.2.1, fun j hj => by rw [na _ _ (by omega)]; exact hT.2.2 j hj⟩, by show 0 ≤ n; omega, x1, x2, x3, x4⟩, ⟨?_, ?_, ?_, ?_, ?_⟩, fun _ j hj => hj.elim⟩
    · rw [nf _ _ (by omega) (by omega)]; exact f1
    · rw [nf _ _ (by omega) (by omega)]; exact f2
    · rw [nf _ _ (by omega) (by omega)]; exact f3
    · rw [nf _ _ (by omega) (by omega)]; exact f4
    · rw [nf _ _ (by omega) (by omega)]; exact f5
  generalize x_rd_advance U0 = U1 at *
  obtain ⟨ok, rk⟩ := c_kit r0 hb
  generalize x_rd_readKitchen U1 b = U2 at *
  refine ⟨oc, b_sh hb, oa, ok, ?_⟩
  refine wr_rd_read_25 b (fun v2 V => ∃ (v c : Nat) (S' : Nat × Nat × (Nat → Int)), v2 = iz v ∧ v ≤ 5 ∧ CR tp n b c 0 0 (KB 7 c 0 0) V S' ∧ c ≤ 4 ∧ p_al tp n 5 (p_kit tp n (0, 0, fun _ => 0)) = p_al tp n (5 - v) S' ∧ (S'.1 = 0 → c = v ∧ S'.2.2 7 = c ∧ v ≤ 4 ∧ S'.2.2 16 = 0 ∧ S'.2.2 17 = 0)) (fun v2 _ => (10 - v2.toInt).toNat) ?_ _ _ _ (by decide) ⟨0, 0, _, rfl, by omega, CR_w rk (fun x hx => by unfold KB at hx; omega), by omega, rfl, fun y => by rw [kit_0 y 7 (by omega), kit_0 y 16 (by omega), kit_0 y 17 (by omega)]; exact ⟨rfl, rfl, by omega, rfl, rfl⟩⟩
  rintro _ V ⟨v, c, S', rfl, v1, r, hc4, v2, v3⟩
  have ex : p_al tp n 5 (p_kit tp n (0, 0, fun _ => 0)) = S' → (ok_rd_readDish V b) ∧ wp_rd_read_64 b (fun w2_2 T202 => (fun V => ∃ (V0 : St) (c1 c4 c10 : Nat), V = sF V0 13 1 0 ∧ CR tp n b c1 c4 c10 (KB 7 c1 c4 c10) V0 (p_all tp n) ∧ ((p_all tp n).1 = 0 → (p_all tp n).2.2 7 = c1 ∧ (p_all tp n).2.2 16 = c4 ∧ (p_all tp n).2.2 17 = c10)) (sF T202 13 1 0)) (fun V => ∃ (V0 : St) (c1 c4 c10 : Nat), V = sF V0 13 1 0 ∧ CR tp n b c1 c4 c10 (KB 7 c1 c4 c10) V0 (p_all tp n) ∧ ((p_all tp n).1 = 0 → (p_all tp n).2.2 7 = c1 ∧ (p_all tp n).2.2 16 = c4 ∧ (p_all tp n).2.2 17 = c10)) 1000 0 (x_rd_readDish V b) := by
    intro e
    obtain ⟨od, d, e', rd, bd⟩ := c_dish r hb hc4 (fun y => by have := v3 y; omega)
    refine ⟨od, ?_⟩
    have eA : p_all tp n = p_dl tp n 9 (p_pd tp n S') := by unfold p_all; rw [e]
    refine wr_rd_read_64 b (fun v2 V => ∃ (v d e : Nat) (X : Nat × Nat × (Nat → Int)), v2 = iz v ∧ v ≤ 9 ∧ CR tp n b c d e (KB 7 c d e) V X ∧ p_all tp n = p_dl tp n (9 - v) X ∧ (X.1 = 0 → X.2.2 16 = d ∧ X.2.2 17 = e ∧ d ≤ 8 ∧ e ≤ 3 * d ∧ X.2.2 7 = c)) (fun v2 _ => (10 - v2.toInt).toNat) ?_ _ _ _ (by decide) ⟨0, d, e', _, rfl, by omega, rd, eA, fun y => by
      have a := bd y
      have a2 := v3 (pd_0 y)
      refine ⟨a.1, a.2.1, a.2.2.1, a.2.2.2, ?_⟩
      rw [pd_7 (d := 0) (c := 0) a2.2.2.2.1 a2.2.2.2.2 (by omega) y]; exact a2.2.1⟩
    rintro _ Z ⟨u, d2, e2, X, rfl, u1, rx, u2, u3⟩
    unfold bd_rd_read_64
    have t4 := tso_4 (tp := tp) (n := n) (q := X.2.1)
    have fin : p_all tp n = X → ∃ (V0 : St) (c1 c4 c10 : Nat), sF Z 13 1 0 = sF V0 13 1 0 ∧ CR tp n b c1 c4 c10 (KB 7 c1 c4 c10) V0 (p_all tp n) ∧ ((p_all tp n).1 = 0 → (p_all tp n).2.2 7 = c1 ∧ (p_all tp n).2.2 16 = c4 ∧ (p_all tp n).2.2 17 = c10) := fun q => by
      rw [q]
      exact ⟨Z, c, d2, e2, rfl, rx, fun y => by have := u3 y; omega⟩
    rw [z_8, iz_lt (by omega), CR_0 rx, rx.2.2.1.2.2.2.2.1, eq0 (by omega)]
    refine ⟨fun y => fin ?_, fun y => ⟨fun z => ⟨fun w => fin ?_, fun w => ?_⟩, fun z => fin ?_⟩⟩
    · rw [u2, show 9 - u = 0 by omega]; rfl
    · rw [u2, show 9 - u = (9 - u - 1) + 1 by omega]; exact if_neg (fun q => q.2 (by omega))
    · obtain ⟨w1, w2, w3, w4, w5⟩ := u3 z
      obtain ⟨o1, d3, e3, r1, b1⟩ := c_dish rx hb hc4 (fun y => by omega)
      refine ⟨o1, ⟨u + 1, d3, e3, _, by rw [z_1, iz_add]; rfl, by omega, r1, ?_, fun q => ?_⟩, ?_⟩
      · rw [u2, show 9 - u = (9 - (u + 1)) + 1 by omega]; exact if_pos ⟨z, by omega⟩
      · have a := b1 q
        refine ⟨a.1, a.2.1, a.2.2.1, a.2.2.2, ?_⟩
        rw [pd_7 w1 w2 w3 q]; exact w5
      · try dsimp only
        rw [z_1, iz_add, iz_t (by omega), iz_t (by omega)]; omega
    · rw [u2, fz_dl z]
  unfold bd_rd_read_25
  obtain ⟨ow, ew⟩ := s_isW (w := 1) r.2.2.1 (by omega)
  rw [z_4, iz_lt (by omega), CR_0 r, ew]
  refine ⟨fun y => ex ?_, fun y => ⟨fun z => ⟨ow, fun w => ex ?_, fun w => ?_⟩, fun z => ex ?_⟩⟩
  · rw [v2, show 5 - v = 0 by omega]; rfl
  · rw [v2, show 5 - v = (5 - v - 1) + 1 by omega]; exact if_neg (fun q => w q.2)
  · obtain ⟨w1, w2, w3, w4, w5⟩ := v3 z
    obtain ⟨o1, c', r1, e1, e2⟩ := c_away r hb z (Classical.byContradiction w) w2 (by omega)
    refine ⟨o1, ⟨v + 1, c', _, by rw [z_1, iz_add]; rfl, by omega, r1, e2, ?_, fun q => ?_⟩, ?_⟩
    · rw [v2, show 5 - v = (5 - (v + 1)) + 1 by omega]; exact if_pos ⟨z, Classical.byContradiction w⟩
    · obtain ⟨_, g1, a, a', _, _, _, g2⟩ := away_B q (by omega)
      have := e1 q
      rw [g2, upB_s, upB_n (by omega), upB_n (by omega), upB_n (by omega), upB_n (by omega), upB_n (by omega), upB_n (by omega)]
      omega
    · try dsimp only
      rw [z_1, iz_add, iz_t (by omega), iz_t (by omega)]; omega
  · rw [v2, fz_al z]
end CLS
