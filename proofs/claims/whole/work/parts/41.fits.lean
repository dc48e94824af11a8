/-! ===== a dish more in a level ===== -/
def pdl (B : Nat → Int) (d : Nat) (b l : Nat → Int) (f : Nat → Nat → Int) (j w m : Nat) : Int := if w < 4 then f w m + sm (fun k => ub B w (nF B d + k) (b k) (l k) m) j else if w = 5 then max (f 5 m) (mxx (fun k => ol B (nF B d + k) (b k) (l k) m) j) else if w = 6 then min (f 6 m) (mnn (fun k => oh B (nF B d + k) (b k) (l k) m) j) else f w m
def adD (B : Nat → Int) (d : Nat) (b l : Nat → Int) (f : Nat → Nat → Int) (w m : Nat) : Int := if w < 5 then f w m + ud B w d b l m else if w = 5 then max (f 5 m) (ld B d b l m) else min (f 6 m) (hd B d b l m)
section DM
variable {B : Nat → Int} {d : Nat} {b l : Nat → Int} {f : Nat → Nat → Int}
theorem pdl_s {j w m : Nat} (hw : w < 7) : ads B (nF B d + j) (b j) (l j) (pdl B d b l f j) w m = pdl B d b l f (j + 1) w m := by
  rcases (show w < 4 ∨ w = 4 ∨ w = 5 ∨ w = 6 by omega) with q | q | q | q
  · unfold ads pdl
    rw [if_pos q, if_pos q, if_pos q]
    show f w m + sm (fun k => ub B w (nF B d + k) (b k) (l k) m) j + ub B w (nF B d + j) (b j) (l j) m = f w m + (sm (fun k => ub B w (nF B d + k) (b k) (l k) m) j + ub B w (nF B d + j) (b j) (l j) m)
    omega
  · subst q; rfl
  · subst q
    show max (max (f 5 m) (mxx (fun k => ol B (nF B d + k) (b k) (l k) m) j)) (ol B (nF B d + j) (b j) (l j) m) = max (f 5 m) (max (mxx (fun k => ol B (nF B d + k) (b k) (l k) m) j) (ol B (nF B d + j) (b j) (l j) m))
    omega
  · subst q
    show min (min (f 6 m) (mnn (fun k => oh B (nF B d + k) (b k) (l k) m) j)) (oh B (nF B d + j) (b j) (l j) m) = min (f 6 m) (min (mnn (fun k => oh B (nF B d + k) (b k) (l k) m) j) (oh B (nF B d + j) (b j) (l j) m))
    omega
theorem pdl_0 {w m : Nat} (h5 : 0 ≤ f 5 m) (h6 : f 6 m ≤ 9) (hw : w < 7) : pdl B d b l f 0 w m = f w m := by
  rcases (show w < 4 ∨ w = 4 ∨ w = 5 ∨ w = 6 by omega) with q | q | q | q
  · unfold pdl
    rw [if_pos q]
    show f w m + 0 = _
    omega
  · subst q; rfl
  · subst q
    show max (f 5 m) 0 = _
    omega
  · subst q
    show min (f 6 m) 9 = _
    omega
theorem ol_b {s m : Nat} {x y : Int} (h : kd B s = 2 → 0 ≤ on B s ∧ on B s ≤ tw B s ∧ tw B s ≤ 9) : 0 ≤ ol B s x y m ∧ ol B s x y m ≤ 9 := by
  unfold ol
  split
  · rename_i q; have := h q.1; omega
  · omega
theorem oh_b {s m : Nat} {x y : Int} (h : kd B s = 2 → 0 ≤ on B s ∧ on B s ≤ tw B s ∧ tw B s ≤ 9) : 0 ≤ oh B s x y m ∧ oh B s x y m ≤ 9 := by
  unfold oh
  split
  · rename_i q; have := h q.1; omega
  · omega
theorem mxx_b9 {g : Nat → Int} : ∀ n, (∀ i, i < n → g i ≤ 9) → mxx g n ≤ 9 := by
  intro n
  induction n with
  | zero => intro _; show (0 : Int) ≤ 9; omega
  | succ n ih => intro h; have h1 := ih fun i hi => h i (by omega); have := h n (by omega); show max (mxx g n) (g n) ≤ 9; omega
theorem mnn_b0 {g : Nat → Int} : ∀ n, (∀ i, i < n → 0 ≤ g i) → 0 ≤ mnn g n := by
  intro n
  induction n with
  | zero => intro _; show (0 : Int) ≤ 9; omega
  | succ n ih => intro h; have h1 := ih fun i hi => h i (by omega); have := h n (by omega); show 0 ≤ min (mnn g n) (g n); omega
def fbd (f : Nat → Nat → Int) (u : Int) : Prop := ∀ m, m < 60 → (∀ w, w < 5 → 0 ≤ f w m ∧ f w m ≤ u) ∧ 0 ≤ f 5 m ∧ f 5 m ≤ 9 ∧ 0 ≤ f 6 m ∧ f 6 m ≤ 9
theorem pdl_5 (hW : WF B) (hd : (d : Int) < B 16) {u : Int} (hf : fbd f u) {j : Nat} (hj : j ≤ nO B d) : ∀ m, m < 60 → 0 ≤ pdl B d b l f j 5 m ∧ pdl B d b l f j 5 m ≤ 9 ∧ 0 ≤ pdl B d b l f j 6 m ∧ pdl B d b l f j 6 m ≤ 9 := by
  intro m hm
  have h1 := (hf m hm).2
  have h2 := mxx_b9 (g := fun k => ol B (nF B d + k) (b k) (l k) m) j (fun i hi => (ol_b ((wf_s hW hd (k := i) (by omega)).2.2.2.2.2.1)).2)
  have h3 := mnn_b0 (g := fun k => oh B (nF B d + k) (b k) (l k) m) j (fun i hi => (oh_b ((wf_s hW hd (k := i) (by omega)).2.2.2.2.2.1)).1)
  have h4 := mnn_9 (f := fun k => oh B (nF B d + k) (b k) (l k) m) j
  have e5 : pdl B d b l f j 5 m = max (f 5 m) (mxx (fun k => ol B (nF B d + k) (b k) (l k) m) j) := rfl
  have e6 : pdl B d b l f j 6 m = min (f 6 m) (mnn (fun k => oh B (nF B d + k) (b k) (l k) m) j) := rfl
  omega
theorem ud_3 (hW : WF B) (hd : (d : Int) < B 16) {w m : Nat} : ud B w d b l m ≤ 3 := by
  have h1 := wf_n hW hd
  unfold ud
  split
  · split <;> omega
  · have := sm_ub (f := fun k => ub B w (nF B d + k) (b k) (l k) m) (u := 1) (fun i => ub_b.2) (nO B d)
    omega
theorem fbd_D (hW : WF B) (hd' : (d : Int) < B 16) {u : Int} (hf : fbd f u) : fbd (adD B d b l f) (u + 3) := by
  intro m hm
  have h1 := hf m hm
  have h2 := pdl_5 (b := b) (l := l) hW hd' hf (Nat.le_refl _) m hm
  refine ⟨fun w hw => ?_, ?_⟩
  · have a1 := ud_nn (B := B) (w := w) (d := d) (m := m) (b := b) (l := l)
    have a2 := ud_3 (b := b) (l := l) (w := w) (m := m) hW hd'
    have a3 := h1.1 w hw
    unfold adD
    rw [if_pos hw]
    omega
  · exact h2
-- from the last step on
theorem adD_p (h0 : bPan B d = 1) {w m : Nat} (hw : w < 7) : adp (b 0) (b (nO B d - 1) + l (nO B d - 1)) (pdl B d b l f (nO B d)) w m = adD B d b l f w m := by
  rcases (show w < 4 ∨ w = 4 ∨ w = 5 ∨ w = 6 by omega) with q | q | q | q
  · unfold adp adD pdl ud
    rw [if_neg (by omega), if_pos q, if_pos (by omega), if_neg (by omega)]
  · subst q
    have a1 : adp (b 0) (b (nO B d - 1) + l (nO B d - 1)) (pdl B d b l f (nO B d)) 4 m = if 4 = 4 ∧ b 0 ≤ (m : Int) ∧ (m : Int) < b (nO B d - 1) + l (nO B d - 1) then f 4 m + 1 else f 4 m := rfl
    have a2 : adD B d b l f 4 m = f 4 m + (if bPan B d = 1 ∧ b 0 ≤ (m : Int) ∧ (m : Int) < b (nO B d - 1) + l (nO B d - 1) then 1 else 0) := rfl
    rw [a1, a2]
    by_cases c : b 0 ≤ (m : Int) ∧ (m : Int) < b (nO B d - 1) + l (nO B d - 1)
    · rw [if_pos ⟨rfl, c⟩, if_pos ⟨h0, c⟩]
    · rw [if_neg (fun z => c z.2), if_neg (fun z => c z.2)]; omega
  · subst q; rfl
  · subst q; rfl
theorem adD_n (h0 : ¬ bPan B d = 1) {w m : Nat} (hw : w < 7) : pdl B d b l f (nO B d) w m = adD B d b l f w m := by
  rcases (show w < 4 ∨ w = 4 ∨ w = 5 ∨ w = 6 by omega) with q | q | q | q
  · unfold adD pdl ud
    rw [if_pos q, if_pos (by omega), if_neg (by omega)]
  · subst q
    have a2 : adD B d b l f 4 m = f 4 m + (if bPan B d = 1 ∧ b 0 ≤ (m : Int) ∧ (m : Int) < b (nO B d - 1) + l (nO B d - 1) then 1 else 0) := rfl
    rw [a2, if_neg (fun z => h0 z.1)]
    show f 4 m = _
    omega
  · subst q; rfl
  · subst q; rfl
end DM
def tv (B : Nat → Int) (D : Nat) (b l : Nat → Nat → Int) (e w m : Nat) : Int := if w < 5 then tt B D b l w e m else if w = 5 then tlo B D b l e m else thi B D b l e m
theorem tv_s {B : Nat → Int} {D d w m : Nat} {b l : Nat → Nat → Int} (h : D.testBit d = true) : adD B d (b d) (l d) (tv B D b l d) w m = tv B D b l (d + 1) w m := by
  unfold adD tv
  by_cases q : w < 5
  · rw [if_pos q, if_pos q, if_pos q]
    show _ = tt B D b l w d m + (if D.testBit d = true then _ else _)
    rw [if_pos h]
  · rw [if_neg q, if_neg q]
    by_cases q2 : w = 5
    · rw [if_pos q2, if_pos q2]
      show max (tlo B D b l d m) _ = max (tlo B D b l d m) (if D.testBit d = true then _ else _)
      rw [if_pos h]
    · rw [if_neg q2, if_neg q2]
      show min (thi B D b l d m) _ = min (thi B D b l d m) (if D.testBit d = true then _ else _)
      rw [if_pos h]
theorem lkw_ful {B : Nat → Int} {D e : Nat} {b l : Nat → Nat → Int} {h o : Int} : (∀ m, m < 60 → lkw B h o (tv B D b l e) m = 0) ↔ ful B h o D b l e := by
  have e5 : tv B D b l e 5 = tlo B D b l e := rfl
  have e6 : tv B D b l e 6 = thi B D b l e := rfl
  constructor
  · intro H m hm
    have := H m hm
    unfold lkw at this
    rw [e5, e6] at this
    have t0 : tv B D b l e 0 m = tt B D b l 0 e m := rfl
    have t1 : tv B D b l e 1 m = tt B D b l 1 e m := rfl
    have t2 : tv B D b l e 2 m = tt B D b l 2 e m := rfl
    have t3 : tv B D b l e 3 m = tt B D b l 3 e m := rfl
    have t4 : tv B D b l e 4 m = tt B D b l 4 e m := rfl
    rw [t0, t1, t2, t3, t4] at this
    repeat' split at this
    all_goals first | (exfalso; omega) | skip
    refine ⟨fun w hw => ?_, by omega⟩
    rcases (show w = 0 ∨ w = 1 ∨ w = 2 ∨ w = 3 ∨ w = 4 by omega) with rfl | rfl | rfl | rfl | rfl <;> omega
  · intro H m hm
    obtain ⟨h1, h2⟩ := H m hm
    unfold lkw
    rw [if_neg (by have := h1 1 (by omega); show ¬ _ < tt B D b l 1 e m; omega), if_neg (by have := h1 0 (by omega); show ¬ _ < tt B D b l 0 e m; omega), if_neg (by have := h1 2 (by omega); show ¬ _ < tt B D b l 2 e m; omega), e5, e6, if_neg (by omega), if_neg (by have := h1 3 (by omega); show ¬ _ < tt B D b l 3 e m; omega), if_neg (by have := h1 4 (by omega); show ¬ _ < tt B D b l 4 e m; omega)]
def FitQ (T : St) (B : Nat → Int) (a d c : Nat) (t μ C h o : Int) (F : Nat → Int) (f : Nat → Nat → Int) (r : Int32 × St) : Prop := (r.1 = 0 ∨ r.1 = 1) ∧ (¬ r.1 = 0 ↔ ((0 ≤ bg B t d c 0 ∧ ∀ k, k < nO B d → gk μ F (bg B t d c) k) ∧ ∀ m, m < 60 → lkw B h o (adD B d (bg B t d c) (lgs B d) f) m = 0)) ∧ (¬ r.1 = 0 → Lv r.2 (a + 1) (adD B d (bg B t d c) (lgs B d) f)) ∧ (∀ k, k < nO B d → r.2.2.2.1 588 (3 * a + k) = iz (bg B t d c k)) ∧ r.2.2.2.1 587 (a + 1) = iz (C + cst B d c) ∧ (∀ j, j < 3 * a → r.2.2.2.1 588 j = T.2.2.1 588 j) ∧ (∀ j, j ≤ a → r.2.2.2.1 587 j = T.2.2.1 587 j) ∧ ∀ e j, 578 ≤ e → e < 585 → j < 60 * (a + 1) → r.2.2.2.1 e j = T.2.2.1 e j
theorem s_fits {T : St} {B : Nat → Int} {a d c : Nat} {t μ C h o : Int} {F : Nat → Int} {f : Nat → Nat → Int} (hM : MkX T B) (hW : WF B) (hd' : (d : Int) < B 16) (hc : c < chn B d) (ha : a < 4) (ht : 1 ≤ t ∧ t ≤ 60) (e5 : T.2.2.1 585 a = iz d) (e6 : T.2.2.1 586 a = iz c) (e7 : T.2.2.1 587 a = iz C) (hm : T.1 571 32 = iz μ) (hμ : 0 ≤ μ ∧ μ ≤ 60) (hF : ∀ k, k < nO B d → T.2.2.1 591 (3 * a + k) = iz (F k) ∧ -2147483648 ≤ F k ∧ F k < 2147483648)
    (hl : Lv T a f) (hf : fbd f 500) (hh : 0 ≤ h ∧ h ≤ 9) (ho : 0 ≤ o ∧ o ≤ 60) :
    ok_m_fits T (iz a) (iz t) (iz h) (iz o) ∧ FitQ T B a d c t μ C h o F f (x_m_fits T (iz a) (iz t) (iz h) (iz o)) := by
  have h8 := hW.2.2.1
  have h1 := wf_n hW hd'
  have h2 := wf_f hW hd'
  obtain ⟨ok1, r1, r2, r3, r4, r5, r6⟩ := s_layB hM hW hd' hc ha ht e5 e6 e7 hm hμ hF
  have fr1 : Fr _ T _ := fr_m_layBegins _ _ ok1
  refine so_m_fits (Q := FitQ T B a d c t μ C h o F f) _ _ _ _ ?_
  unfold wp_m_fits
  obtain ⟨V, hV⟩ : ∃ V, V = (x_m_layBegins T (iz a) (iz t)).2 := ⟨_, rfl⟩
  rw [← hV] at fr1 r3 r4 r5 r6
  rw [← hV]
  have vA : ∀ e j, e ≠ 587 → e ≠ 588 → V.2.2.1 e j = T.2.2.1 e j := fun e j a1 a2 => q_A fr1 (by unfold W_m_layBegins; omega)
  have hMV : MkX V B := fun j hj => by rw [vA 575 j (by omega) (by omega)]; exact hM j hj
  have ei : (iz (a : Int)).toNatClampNeg = a := by rw [iz_n (by omega), Int.toNat_natCast]
  refine ⟨ok1, fun z => ?_, fun z => ⟨(iz_in (by omega)).2 (by omega), ?_⟩⟩
  · refine ⟨Or.inl rfl, ⟨fun q => absurd rfl q, fun q => absurd z (r2.2 q.1)⟩, fun q => absurd rfl q, r3, r4, r5, r6, fun e j a1 a2 a3 => vA e j (by omega) (by omega)⟩
  · have good := r2.1 z
    have hin := fun k (hk : k < nO B d) => bg_in hW hd' hc ht good.1 hk
    refine jo ?_
    try dsimp only
    rw [ei, vA 585 a (by omega) (by omega), e5]
    have d3 := md3 hMV (z := (d : Int)) (by omega)
    rw [Int.toNat_natCast] at d3
    refine ⟨okd3 (by omega), jo ?_⟩
    try dsimp only
    rw [d3]
    have lV : Lv V a f := Lv_eq (fun e j a1 a2 _ _ => vA e j (by omega) (by omega)) hl
    obtain ⟨ok2, c1, c2⟩ := s_copy ha lV
    have ea1 : iz (a : Int) + 1 = iz ((a + 1 : Nat) : Int) := by rw [z_1, iz_add]; exact iz_inj (by omega)
    rw [ea1]
    have fr2 : Fr _ V _ := fr_m_copyLevel _ ok2
    obtain ⟨V2, hV2⟩ : ∃ V2, V2 = x_m_copyLevel V (iz ((a + 1 : Nat) : Int)) := ⟨_, rfl⟩
    rw [← hV2] at fr2 c1 c2
    rw [← hV2]
    refine ⟨ok2, ?_⟩
    -- the steps one by one
    refine wr_m_fits_38 _ _ _ _ _ _ (fun v7 U => ∃ j : Nat, j ≤ nO B d ∧ v7 = iz j ∧ (∀ e i, (e < 578 ∨ 585 ≤ e) → U.2.2.1 e i = V.2.2.1 e i) ∧ (∀ e i, i < 60 * (a + 1) → U.2.2.1 e i = V.2.2.1 e i) ∧ Lv U (a + 1) (pdl B d (bg B t d c) (lgs B d) f j)) (fun v7 U => 3 - v7.toInt.toNat) ?_ _ _ _ ?_ ?_
    · rintro _ U ⟨j, j1, rfl, j2, j3, j4⟩
      have hMU : MkX U B := fun i hi => by rw [j2 575 i (by omega)]; exact hMV i hi
      have d4 := md4 hMU (z := (d : Int)) (by omega)
      have d2 := md2 hMU (z := (d : Int)) (by omega)
      rw [Int.toNat_natCast] at d4 d2
      unfold bd_m_fits_38
      refine ⟨fun q => ?_, fun q => ?_⟩
      · rw [iz_le (by omega)] at q
        have ej : j = nO B d := by omega
        subst ej
        refine ⟨okd4 (by omega), jo ?_⟩
        try dsimp only
        have fin : ∀ G : St, Lv G (a + 1) (adD B d (bg B t d c) (lgs B d) f) → (∀ e i, (e < 578 ∨ 585 ≤ e) → G.2.2.1 e i = V.2.2.1 e i) → (∀ e i, i < 60 * (a + 1) → G.2.2.1 e i = V.2.2.1 e i) →
            ok_m_lacks G (iz ((a + 1 : Nat) : Int)) (iz h) (iz o) ∧ (((x_m_lacks G (iz ((a + 1 : Nat) : Int)) (iz h) (iz o) = -1000000) → FitQ T B a d c t μ C h o F f (1, G)) ∧ (¬ (x_m_lacks G (iz ((a + 1 : Nat) : Int)) (iz h) (iz o) = -1000000) → FitQ T B a d c t μ C h o F f (0, G))) := by
          intro G g1 g2 g3
          obtain ⟨ok3, l1⟩ := s_lacks (fun i hi => by rw [g2 575 i (by omega)]; exact hMV i hi : MkX G B) hW (show a + 1 ≤ 4 by omega) hh ho g1 (fun m hm => by have := fbd_D (b := bg B t d c) (l := lgs B d) hW hd' hf m hm; exact ⟨fun w hw => by have := this.1 w hw; omega, this.2⟩)
          have lb := lkr_b (W := lkw B h o (adD B d (bg B t d c) (lgs B d) f)) (fun m => lkw_b) 60 0
          have ln := lkr_n (W := lkw B h o (adD B d (bg B t d c) (lgs B d) f)) (fun m => lkw_b.1) 60 0
          have nn : (-1000000 : Int32) = iz (-1000000) := rfl
          rw [l1, nn, iz_eq (by omega)]
          refine ⟨ok3, fun q => ?_, fun q => ?_⟩
          · refine ⟨Or.inr rfl, ⟨fun _ => ⟨good, fun m hm => ln.1 q m (by omega) (by omega)⟩, fun _ => (by decide : ¬ (1 : Int32) = 0)⟩, fun _ => g1, fun k hk => ?_, ?_, fun j hj => ?_, fun j hj => ?_, fun e j a1 a2 a3 => ?_⟩
            · rw [g2 588 _ (by omega)]; exact r3 k hk
            · rw [g2 587 _ (by omega)]; exact r4
            · rw [g2 588 _ (by omega)]; exact r5 j hj
            · rw [g2 587 _ (by omega)]; exact r6 j hj
            · rw [g3 e j a3]; exact vA e j (by omega) (by omega)
          · refine ⟨Or.inl rfl, ⟨fun z => absurd rfl z, fun z => absurd (ln.2 fun m _ hm => z.2 m (by omega)) q⟩, fun z => absurd rfl z, fun k hk => ?_, ?_, fun j hj => ?_, fun j hj => ?_, fun e j a1 a2 a3 => ?_⟩
            · rw [g2 588 _ (by omega)]; exact r3 k hk
            · rw [g2 587 _ (by omega)]; exact r4
            · rw [g2 588 _ (by omega)]; exact r5 j hj
            · rw [g2 587 _ (by omega)]; exact r6 j hj
            · rw [g3 e j a3]; exact vA e j (by omega) (by omega)
        refine ⟨okd2 (by omega), ?_⟩
        have eL := bg_in hW hd' hc ht good.1 (k := nO B d - 1) (by omega)
        have fL := wf_fk hW hd' (k := nO B d - 1) (by omega)
        have i0 : (3 * iz (a : Int)).toNatClampNeg = 3 * a := by rw [z_3, iz_mul, iz_n (by omega)]; omega
        have i1 : (3 * iz (a : Int) + iz (bOwn B d) - 1).toNatClampNeg = 3 * a + (nO B d - 1) := by rw [z_3, z_1, iz_mul, iz_add, iz_sub, iz_n (by omega)]; omega
        have i2 : iz (bFst B d) + iz (bOwn B d) - 1 = iz ((nF B d + (nO B d - 1) : Nat) : Int) := by rw [z_1, iz_add, iz_sub]; exact iz_inj (by omega)
        have s1 := ms1 hMU (z := ((nF B d + (nO B d - 1) : Nat) : Int)) (by omega)
        rw [Int.toNat_natCast] at s1
        have x0 : U.2.2.1 588 (3 * a) = iz (bg B t d c 0) := by rw [j2 588 _ (by omega)]; exact r3 0 (by omega)
        have x1 : U.2.2.1 588 (3 * a + (nO B d - 1)) = iz (bg B t d c (nO B d - 1)) := by rw [j2 588 _ (by omega)]; exact r3 _ (by omega)
        have e0 := bg_m (t := t) hW hd' hc (nO B d - 1) 0 (by omega)
        rw [Nat.zero_add] at e0
        unfold jn
        rw [d2, d4, i2, i0, i1, x0, x1, s1, iz_add, z_1, iz_eq (by have := (wf_d hW hd').2.2.1; omega), ← z_1]
        refine ⟨fun z => ?_, fun z => ?_⟩
        · obtain ⟨ok4, p1, p2⟩ := s_addPan (T := U) (l := a + 1) (b := bg B t d c 0) (e := bg B t d c (nO B d - 1) + lg B (nF B d + (nO B d - 1))) (show a + 1 ≤ 4 by omega) good.1 (by omega) j4
          have fr4 : Fr _ U _ := fr_m_addPan _ _ _ ok4
          refine ⟨?_, ?_, oks1 (by omega), ok4, ?_⟩
          · rw [z_3, iz_mul, iz_in (by omega)]; omega
          · rw [z_3, z_1, iz_mul, iz_add, iz_sub, iz_in (by omega)]; omega
          · refine fin _ (Lv_cg (fun w m hw hm => adD_p z hw) p1) (fun e i he => ?_) (fun e i hi => ?_)
            · rw [q_A fr4 (by unfold W_m_addPan; omega)]; exact j2 e i he
            · rw [p2 e i (by omega)]; exact j3 e i hi
        · exact fin U (Lv_cg (fun w m hw hm => adD_n z hw) j4) j2 j3
      · rw [iz_le (by omega)] at q
        have hj : j < nO B d := by omega
        have fj := wf_fk hW hd' hj
        have bj := hin j hj
        have i1 : (3 * iz (a : Int) + iz (j : Int)).toNatClampNeg = 3 * a + j := by rw [z_3, iz_mul, iz_add, iz_n (by omega)]; omega
        have i2 : iz (bFst B d) + iz (j : Int) = iz ((nF B d + j : Nat) : Int) := by rw [iz_add]; exact iz_inj (by omega)
        have s1 := ms1 hMU (z := ((nF B d + j : Nat) : Int)) (by omega)
        rw [Int.toNat_natCast] at s1
        have x1 : U.2.2.1 588 (3 * a + j) = iz (bg B t d c j) := by rw [j2 588 _ (by omega)]; exact r3 _ hj
        refine ⟨okd4 (by omega), jo ?_⟩
        try dsimp only
        rw [d4, i2, i1, x1, s1, ea1]
        obtain ⟨ok4, p1, p2⟩ := s_addStep (T := U) (l := a + 1) (s := nF B d + j) (b := bg B t d c j) (la := lg B (nF B d + j)) hMU (wf_s hW hd' hj) fj.2 (show a + 1 ≤ 4 by omega) bj.1 (by omega) (by omega) j4 (pdl_5 hW hd' hf (by omega))
        have fr4 : Fr _ U _ := fr_m_addStep _ _ _ _ ok4
        refine ⟨?_, oks1 (by omega), ok4, ⟨j + 1, by omega, ?_, fun e i he => ?_, fun e i hi => ?_, Lv_cg (fun w m hw hm => pdl_s hw) p1⟩, ?_⟩
        · rw [z_3, iz_mul, iz_add, iz_in (by omega)]; omega
        · rw [z_1, iz_add]; exact iz_inj (by omega)
        · rw [q_A fr4 (by unfold W_m_addStep; omega)]; exact j2 e i he
        · rw [p2 e i (by omega)]; exact j3 e i hi
        · rw [z_1, iz_add, iz_t (by omega), iz_t (by omega)]; omega
    · show 3 - (0 : Int32).toInt.toNat < 1000
      omega
    · refine ⟨0, by omega, rfl, fun e i he => q_A fr2 (by unfold W_m_copyLevel; omega), fun e i hi => c2 e i hi, Lv_cg (fun w m hw hm => ?_) c1⟩
      exact (pdl_0 (hf m hm).2.1 (hf m hm).2.2.2.2 hw).symm
