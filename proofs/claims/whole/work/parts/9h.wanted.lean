/-! ===== the pair wanted ===== -/
theorem lb_1 : ∀ j : Nat, j < 64 → lb 1 j = true → j = 0 := by decide +kernel
theorem shr_b {x : Int64} {m : Nat} (hm : m < 60) : (lg_cmp ((x >>> ((iz (m : Int)).toInt64 &&& 63)) &&& 1) 0 = 0) ↔ lb x m = false := by
  have key : lb (x >>> ((iz (m : Int)).toInt64 &&& 63)) 0 = lb x m := by
    unfold lb
    rw [Int64.toBitVec_shiftRight]
    show (x.toBitVec.sshiftRight (((iz (m : Int)).toInt64 &&& 63).toBitVec.smod 64).toNat).getLsbD 0 = _
    rw [sp_2 m hm, BitVec.getLsbD_sshiftRight, Nat.add_zero, if_pos (show m < 64 by omega)]
    simp
  rw [and_z, ← key]
  constructor
  · intro h; exact h 0 (by omega) (by decide)
  · intro h j hj h1
    rw [lb_1 j hj h1]; exact h
theorem tt_gap {B : Nat → Int} {D : Nat} {b l : Nat → Nat → Int} {w m d e : Nat} (hde : d ≤ e) (h : sn D d = sn D e) : tt B D b l w e m = tt B D b l w d m := by
  have g := sn_gap (D := D) h
  have := tt_sk (B := B) (D := D) (e := d) (k := e - d) (b := b) (l := l) (w := w) (m := m) (fun x h1 h2 => g x h1 (by omega))
  rw [show d + (e - d) = e by omega] at this
  exact this
theorem s_wantedAt {T : St} {r : Nat} {B : Nat → Int} {D : Nat} {b l : Nat → Nat → Int} {w m : Nat} (hr : sh r = .inr 7) (hn : sn D 8 ≤ 4) (h0 : T.1 r 0 = iz (sn D 8)) (hs : ∀ d, d < 8 → D.testBit d = true → sq B d (b d) (l d)) (hw : w < 5) (hm : m < 60) (hB : ∀ d, d < 8 → D.testBit d = true → BiX T (wy (sn D d) + 3) (fun w m => ud B w d (b d) (l d) m = 1)) : ok_jd_wantedAt T r (iz m) (iz w) ∧ x_jd_wantedAt T r (iz m) (iz w) = iz (tt B D b l w 8 m) := by
  refine so_jd_wantedAt (Q := fun x => x = iz (tt B D b l w 8 m)) _ _ _ ?_
  unfold wp_jd_wantedAt
  refine wr_jd_wantedAt_6 T r _ _ (fun v4 v5 => ∃ i : Nat, i ≤ sn D 8 ∧ v5 = iz i ∧ ∀ e, e ≤ 8 → sn D e = i → v4 = iz (tt B D b l w e m)) (fun v4 v5 => 4 - v5.toInt.toNat) ?_ _ _ _ (by show 4 - (0 : Int32).toInt.toNat < 1000; omega) ⟨0, Nat.zero_le _, rfl, fun e he h => ?_⟩
  · rintro v4 _ ⟨i, hi, rfl, g⟩
    unfold bd_jd_wantedAt_6
    rw [h0, iz_le (by omega)]
    refine ⟨hr, fun q => g 8 (by omega) (by omega), fun q => ?_⟩
    obtain ⟨d, d1, d2, d3⟩ := sn_ex (D := D) (a := i) 8 (by omega)
    have gd := g d (by omega) d3
    have u01 := ud_01 (hs d d1 d2) (w := w) (m := m) hw
    have bx := hB d d1 d2 w m hw (by omega)
    rw [d3] at bx
    have nx : iz (i : Int) + 1 = iz ((i + 1 : Nat) : Int) := by rw [z_1, iz_add]; exact iz_inj (by omega)
    have ms : 4 - (iz ((i + 1 : Nat) : Int)).toInt.toNat < 4 - (iz (i : Int)).toInt.toNat := by rw [iz_t (by omega), iz_t (by omega)]; omega
    have te : ∀ e, e ≤ 8 → sn D e = i + 1 → tt B D b l w e m = tt B D b l w d m + ud B w d (b d) (l d) m := fun e he h => by
      have hde : d < e := by
        rcases Nat.lt_or_ge d e with y | y
        · exact y
        · have := sn_mo (D := D) y; omega
      have s1 : sn D (d + 1) = i + 1 := by rw [sn_s, d2, if_pos rfl, d3]
      rw [tt_gap (d := d + 1) (by omega) (by rw [s1, h])]
      show tt B D b l w d m + (if D.testBit d = true then _ else _) = _
      rw [if_pos d2]
    rw [ix_nat (k := i) (by omega), ix_nat (k := w) (by omega), shr_b hm, nx, show 539 + 4 * i = wy i from rfl]
    refine ⟨in_nat (by omega) (by omega), shl10_3 (sh_wy (by omega)), in_nat (by omega) (by omega), fun z => ⟨⟨i + 1, by omega, rfl, fun e he h => ?_⟩, ms⟩, fun z => ⟨⟨i + 1, by omega, rfl, fun e he h => ?_⟩, ms⟩⟩
    · rw [gd, te e he h]
      have : ¬ ud B w d (b d) (l d) m = 1 := fun y => by
        have := bx.2 ⟨hm, y⟩
        rw [z] at this; cases this
      exact iz_inj (by omega)
    · rw [gd, te e he h, z_1, iz_add]
      have : ud B w d (b d) (l d) m = 1 := (bx.1 (by cases q : lb (T.2.2.2 (wy i + 3) w) m with | true => rfl | false => exact absurd q z)).2
      rw [this]
  · rw [tt_gap (d := 0) (Nat.zero_le e) (by rw [h]; rfl)]; rfl
def wq (k : Nat) : Nat := if k = 0 then 3 else if k = 1 then 0 else if k = 2 then 2 else 4
theorem wq_g : ∀ k : Nat, k < 4 → (([3, 0, 2, 4] : List Int32).getD k 0) = iz ((wq k : Nat) : Int) ∧ wq k < 5 := by decide
def wnC (B : Nat → Int) (D : Nat) (t m w : Int) (c : Nat → Nat) (v : Int32) : Prop := v = iz (tt B D (fun d => bg B t d (c d)) (lgs B) (wq w.toNat) 8 m.toNat)
theorem lx_wanted {T : St} {t m w : Int} (hI : Inv T) (htr : -2147483648 ≤ t ∧ t < 2147483648) (hkr : -2147483648 ≤ m ∧ m < 2147483648) (hwr : -2147483648 ≤ w ∧ w < 2147483648) : ok_x_wanted T (iz t) (iz m) (iz w) ∧ GX T ((0 ≤ m ∧ m < 60) ∧ 0 ≤ w ∧ w < 4) t (wnC (nB T) (nB T 202).toNat t m w) (x_x_wanted T (iz t) (iz m) (iz w)) := by
  refine so_x_wanted (Q := GX T ((0 ≤ m ∧ m < 60) ∧ 0 ≤ w ∧ w < 4) t (wnC (nB T) (nB T 202).toNat t m w)) _ _ _ ?_
  unfold wp_x_wanted
  refine jo ?_
  try dsimp only
  obtain ⟨o0, r0, _⟩ := x_ref hI 0
  obtain ⟨o1, _, r1, r2⟩ := x_ref hI 1
  have no : ¬ ((1 ≤ t ∧ t ≤ 60) ∧ (0 ≤ m ∧ m < 60) ∧ 0 ≤ w ∧ w < 4) → ∀ P : Prop, ok_x_refusal T 0 ∧ ((x_x_refusal T 0 = 0 → P) ∧ (¬ x_x_refusal T 0 = 0 → GX T ((0 ≤ m ∧ m < 60) ∧ 0 ≤ w ∧ w < 4) t (wnC (nB T) (nB T 202).toNat t m w) (x_x_refusal T 0, T))) := fun q P => ⟨o0, fun z => absurd z (by rw [r0 rfl]; decide), fun _ => by rw [r0 rfl]; exact ⟨GV_1 q, hI, rfl, rfl⟩⟩
  have e4 : ((4 : Int32) ≤ iz w) ↔ 4 ≤ w := by rw [z_4, iz_le (by omega)]
  rw [x_time htr, x_min hkr, lt0 (by omega), e4]
  refine ⟨fun q => no (by omega) _, fun q => ⟨fun q2 => no (by omega) _, fun q2 => ⟨fun q3 => no (by omega) _, fun q3 => ⟨fun q4 => no (by omega) _, fun q4 => ⟨o1, fun z => ?_, fun z => ?_⟩⟩⟩⟩⟩
  · have h7 : ¬ T.1 571 7 = 0 := fun y => by rw [r1 (by decide) y] at z; exact absurd z (by decide)
    have hg : (1 ≤ t ∧ t ≤ 60) ∧ (0 ≤ m ∧ m < 60) ∧ 0 ≤ w ∧ w < 4 := by omega
    obtain ⟨tn, rfl⟩ : ∃ n : Nat, t = n := ⟨t.toNat, by omega⟩
    obtain ⟨hW, hX, hK, hM, h46⟩ := I_there hI h7
    obtain ⟨D, d1, d2, d3, d4⟩ := WF_D hW
    obtain ⟨w1, w2, w3⟩ := WF_h hW
    obtain ⟨ok, f1, f2, f3⟩ := s_fplan (t := tn) hI h7 (by omega)
    obtain ⟨i1, i2, i3⟩ := I_fplan (t := tn) hI h7 (by omega)
    refine ⟨ok, fun y => ⟨GV_3 hg h7 (fun _ => rfl) (fun c hc => ?_), i1, i2, i3⟩, fun y => ?_⟩
    · rw [(f3 c hc).1] at y; exact absurd y (by decide)
    cases hS : SK0 (nB T) tn with
    | none => exact absurd (f2 hS) y
    | some c =>
      obtain ⟨_, _, g2, g3, _⟩ := f3 c hS
      rw [d2] at g2 g3 ⊢
      have psq := pl_sq hW d3 d2 (by omega) hS
      have i7 : ¬ (x_x_findsPlan T (iz tn)).2.1 571 7 = 0 := by rw [i3]; exact h7
      obtain ⟨_, hX1, hK1, _, h461⟩ := I_there i1 i7
      rw [i2] at hX1 hK1
      generalize (x_x_findsPlan T (iz tn)).2 = S at *
      obtain ⟨hb, hb2⟩ := b_46 h461
      obtain ⟨k, rfl⟩ : ∃ i : Nat, m = i := ⟨m.toNat, by omega⟩
      obtain ⟨x, rfl⟩ : ∃ i : Nat, w = i := ⟨w.toNat, by omega⟩
      have rx := RwX_of g2 g3
      obtain ⟨ol', jq1, jq2, jq3⟩ := s_jlay (r := 557) (ki := 76) (bk := S.2.1 0) (by decide) (by omega) hb hb2 (by decide) (by omega) (BkP_X hX1) hK1 hW w3 d3 d4.2 rx psq
      refine ⟨ol', ?_⟩
      have e0 : (x_jd_lay S (S.2.1 0) 76 557).1 557 0 = iz (sn D 8) := by rw [q_F jq1 (by unfold jlW; omega)]; exact rx.1
      have j1 : Inv (x_jd_lay S (S.2.1 0) 76 557) := Inv_irr jq1 (fun c hc => by unfold jlW at hc; unfold irr; omega) i1
      have j2 : nB (x_jd_lay S (S.2.1 0) 76 557) = nB T := by rw [nB_fr jq1 (by unfold jlW; omega)]; exact i2
      have j3 : (x_jd_lay S (S.2.1 0) 76 557).1 571 7 = T.1 571 7 := by rw [q_F jq1 (by unfold jlW; omega)]; exact i3
      generalize x_jd_lay S (S.2.1 0) 76 557 = S2 at *
      obtain ⟨wg1, wg2⟩ := wq_g x (by omega)
      rw [ix_nat (k := x) (by omega), wg1]
      obtain ⟨ow, ew⟩ := s_wantedAt (w := wq x) (m := k) (r := 557) (by decide) d4.2 e0 psq wg2 (by omega) jq3
      rw [ew]
      refine ⟨in_nat (by omega) (by omega), ow, GV_3 hg h7 (fun hn => by rw [hS] at hn; cases hn) (fun c' hc => ?_), j1, j2, j3⟩
      rw [hS] at hc; injection hc with hc; subst hc
      unfold wnC
      dsimp only
      rw [Int.toNat_natCast, Int.toNat_natCast]
  · have h7 : T.1 571 7 = 0 := Classical.byContradiction fun y => z (r2 (by decide) y)
    rw [r1 (by decide) h7]
    exact ⟨GV_2 (by omega) h7, hI, rfl, rfl⟩
theorem tv_w {B : Nat → Int} {D e m : Nat} {b l : Nat → Nat → Int} : tv B D b l e 0 m = tt B D b l 0 e m ∧ tv B D b l e 1 m = tt B D b l 1 e m ∧ tv B D b l e 2 m = tt B D b l 2 e m ∧ tv B D b l e 3 m = tt B D b l 3 e m ∧ tv B D b l e 4 m = tt B D b l 4 e m := ⟨rfl, rfl, rfl, rfl, rfl⟩
theorem lm_wanted {T U : St} {t m w : Int} (x2 : Inv U) (x3 : nB U = nB T) (x4 : U.1 571 7 = T.1 571 7) (htr : -2147483648 ≤ t ∧ t < 2147483648) (hkr : -2147483648 ≤ m ∧ m < 2147483648) (hwr : -2147483648 ≤ w ∧ w < 2147483648) : ok_m_wanted U (iz t) (iz m) (iz w) ∧ (fun r : Int32 × St => GV T ((0 ≤ m ∧ m < 60) ∧ 0 ≤ w ∧ w < 4) t (wnC (nB T) (nB T 202).toNat t m w) r.1 ∧ Inv r.2) (x_m_wanted U (iz t) (iz m) (iz w)) := by
  refine so_m_wanted (Q := fun r : Int32 × St => GV T ((0 ≤ m ∧ m < 60) ∧ 0 ≤ w ∧ w < 4) t (wnC (nB T) (nB T 202).toNat t m w) r.1 ∧ Inv r.2) _ _ _ ?_
  have tt' := Inv_t 0 x2
  have e7' : (sF U 571 0 0).1 571 7 = T.1 571 7 := by rw [gF_F, if_neg (by omega)]; exact x4
  have eB' : nB (sF U 571 0 0) = nB T := x3
  unfold wp_m_wanted
  rw [m_by htr, m_min hkr, e7', lz_w hwr, y_0, y_3, m_in (by omega)]
  generalize sF U 571 0 0 = V at *
  refine ⟨fun c1 => ⟨GV_1 (by omega), tt'⟩, fun c1 => ⟨fun c2 => ⟨GV_1 (by omega), tt'⟩, fun c2 => ⟨fun c3 => ⟨GV_1 (by omega), tt'⟩, fun c3 => ⟨fun c7 => ⟨GV_2 (by omega) c7, tt'⟩, fun c7 => ?_⟩⟩⟩⟩
  have hg : (1 ≤ t ∧ t ≤ 60) ∧ (0 ≤ m ∧ m < 60) ∧ 0 ≤ w ∧ w < 4 := by omega
  obtain ⟨tn, rfl⟩ : ∃ n : Nat, t = n := ⟨t.toNat, by omega⟩
  obtain ⟨ok, ⟨q1, q2, q3, q4, q5⟩, i1, i2, i3⟩ := I_know (t := tn) tt' (by rw [e7']; exact c7) (by omega)
  obtain ⟨hW, _, _, _, _⟩ := I_there tt' (by rw [e7']; exact c7)
  rw [eB'] at q1 q4 q5 hW
  obtain ⟨D, d1, d2, d3, d4⟩ := WF_D hW
  refine ⟨ok, fun y => ⟨GV_3 hg c7 (fun _ => rfl) (fun c hc => ?_), i1⟩, fun y => ?_⟩
  · rw [(q5 c hc).1] at y; exact absurd y (by decide)
  cases hS : SK0 (nB T) tn with
  | none => exact absurd (q4 hS) y
  | some c =>
    obtain ⟨_, _, g1, g3⟩ := q5 c hS
    rw [d2] at g1 g3 ⊢
    have psq := pl_sq hW d3 d2 (by omega) hS
    have rm : RwM (x_m_know V (iz tn)).2 (nB T) D (fun d => bg (nB T) tn d (c d)) (lgs (nB T)) := RwM_kn g1 (fun d hd hm k hk => (g3 d hd hm).2 k hk)
    generalize (x_m_know V (iz tn)).2 = S at *
    obtain ⟨k, rfl⟩ : ∃ i : Nat, m = i := ⟨m.toNat, by omega⟩
    obtain ⟨x, rfl⟩ : ∃ i : Nat, w = i := ⟨w.toNat, by omega⟩
    obtain ⟨ol', fl, lv⟩ := s_layPlan q1 hW d3 d4.2 rm psq
    refine ⟨ol', ?_⟩
    generalize x_m_layPlan S = L at *
    have j1 : Inv L := Inv_irr fl (fun c hc => by unfold irr; omega) i1
    have lvk := lv k (by omega)
    obtain ⟨t0, t1, t2, t3, t4⟩ := tv_w (B := nB T) (D := D) (e := 8) (m := k) (b := fun d => bg (nB T) tn d (c d)) (l := lgs (nB T))
    rw [show 60 * 0 + k = k by omega, t0, t1, t2, t3, t4] at lvk
    have fin : ∀ (v : Int32) (y : Nat), y = wq x → v = iz (tt (nB T) D (fun d => bg (nB T) tn d (c d)) (lgs (nB T)) y 8 k) → (fun r : Int32 × St => GV T ((0 ≤ (k : Int) ∧ (k : Int) < 60) ∧ 0 ≤ (x : Int) ∧ (x : Int) < 4) tn (wnC (nB T) D tn k x) r.1 ∧ Inv r.2) (v, L) := fun v y hy hv => ⟨GV_3 hg c7 (fun hn => by rw [hS] at hn; cases hn) (fun c' hc => by
      rw [hS] at hc; injection hc with hc; subst hc
      unfold wnC
      dsimp only
      rw [Int.toNat_natCast, Int.toNat_natCast, ← hy]; exact hv), j1⟩
    have e0 : (iz (x : Int) = 0) ↔ x = 0 := by rw [eq0 (by omega)]; omega
    have e1 : (iz (x : Int) = 1) ↔ x = 1 := by rw [z_1, iz_eq (by omega)]; omega
    have e2 : (iz (x : Int) = 2) ↔ x = 2 := by rw [z_2, iz_eq (by omega)]; omega
    rw [e0, e1, e2, ix_nat (k := k) (by omega)]
    have vi : vp_in (iz (k : Int)) 300 := in_nat (by omega) (by omega)
    refine ⟨fun z => ⟨vi, fin _ 3 (by subst z; rfl) lvk.2.2.2.1⟩, fun z0 => ⟨fun z => ⟨vi, fin _ 0 (by subst z; rfl) lvk.1⟩, fun z1 => ⟨fun z => ⟨vi, fin _ 2 (by subst z; rfl) lvk.2.2.1⟩, fun z2 => ⟨vi, fin _ 4 ?_ lvk.2.2.2.2.1⟩⟩⟩⟩
    unfold wq
    rw [if_neg z0, if_neg z1, if_neg z2]
theorem i_wanted : P_wanted Inv := by
  intro T hI p0 p1 p2
  obtain ⟨t, htr, rfl⟩ := iz_ex p0
  obtain ⟨k, hkr, rfl⟩ := iz_ex p1
  obtain ⟨n, hnr, rfl⟩ := iz_ex p2
  have xs := lx_wanted hI htr hkr hnr
  have ms := lm_wanted xs.2.2.1 xs.2.2.2.1 xs.2.2.2.2 htr hkr hnr
  have x1 : GV T ((0 ≤ k ∧ k < 60) ∧ 0 ≤ n ∧ n < 4) t (wnC (nB T) (nB T 202).toNat t k n) (x_x_wanted T (iz t) (iz k) (iz n)).1 := xs.2.1
  have m1 : GV T ((0 ≤ k ∧ k < 60) ∧ 0 ≤ n ∧ n < 4) t (wnC (nB T) (nB T 202).toNat t k n) (x_m_wanted (x_x_wanted T (iz t) (iz k) (iz n)).2 (iz t) (iz k) (iz n)).1 := ms.2.1
  have m2 : Inv (x_m_wanted (x_x_wanted T (iz t) (iz k) (iz n)).2 (iz t) (iz k) (iz n)).2 := ms.2.2
  have hu : ∀ v w, GV T ((0 ≤ k ∧ k < 60) ∧ 0 ≤ n ∧ n < 4) t (wnC (nB T) (nB T 202).toNat t k n) v → GV T ((0 ≤ k ∧ k < 60) ∧ 0 ≤ n ∧ n < 4) t (wnC (nB T) (nB T 202).toNat t k n) w → v = w := fun v w a b => GV_u (g := (0 ≤ k ∧ k < 60) ∧ 0 ≤ n ∧ n < 4) (C := wnC (nB T) (nB T 202).toNat t k n) (fun hg _ c v w h1 h2 => by unfold wnC at h1 h2; rw [h1, h2]) a b
  exact ⟨xs.1, ms.1, hu _ _ x1 m1, m2⟩
