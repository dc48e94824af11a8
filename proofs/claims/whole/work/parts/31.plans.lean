/-! ===== plans of part of a dinner; choices and their bounds ===== -/
theorem mxx_le {f : Nat → Int} : ∀ n k, mxx f n ≤ mxx f (n + k) := by
  intro n k
  induction k with
  | zero => exact Int.le_refl _
  | succ k ih => show mxx f n ≤ max (mxx f (n + k)) (f (n + k)); omega
theorem mnn_ge {f : Nat → Int} : ∀ n k, mnn f (n + k) ≤ mnn f n := by
  intro n k
  induction k with
  | zero => exact Int.le_refl _
  | succ k ih => show min (mnn f (n + k)) (f (n + k)) ≤ mnn f n; omega
theorem mxx_eq {f g : Nat → Int} : ∀ n, (∀ i, i < n → f i = g i) → mxx f n = mxx g n := by
  intro n
  induction n with
  | zero => intro _; rfl
  | succ n ih => intro h; show max (mxx f n) (f n) = max (mxx g n) (g n); rw [ih fun i hi => h i (by omega), h n (by omega)]
theorem mnn_eq {f g : Nat → Int} : ∀ n, (∀ i, i < n → f i = g i) → mnn f n = mnn g n := by
  intro n
  induction n with
  | zero => intro _; rfl
  | succ n ih => intro h; show min (mnn f n) (f n) = min (mnn g n) (g n); rw [ih fun i hi => h i (by omega), h n (by omega)]
theorem mxx_nn {f : Nat → Int} : ∀ n, 0 ≤ mxx f n := by
  intro n
  induction n with
  | zero => exact Int.le_refl 0
  | succ n ih => show 0 ≤ max (mxx f n) (f n); omega
theorem mnn_9 {f : Nat → Int} : ∀ n, mnn f n ≤ 9 := by
  intro n
  induction n with
  | zero => exact Int.le_refl 9
  | succ n ih => show min (mnn f n) (f n) ≤ 9; omega
theorem ub_b {B : Nat → Int} {w s m : Nat} {b l : Int} : 0 ≤ ub B w s b l m ∧ ub B w s b l m ≤ 1 := by
  unfold ub
  repeat' split
  all_goals omega
theorem ud_nn {B : Nat → Int} {w d m : Nat} {b l : Nat → Int} : 0 ≤ ud B w d b l m := by
  unfold ud
  split
  · split <;> omega
  · exact sm_nn (fun i => ub_b.1) _
section MON
variable {B : Nat → Int} {t h o : Int} {X : Nat → Nat → Prop} {D e e2 : Nat} {b b2 l : Nat → Nat → Int} {c c2 : Nat → Nat}
theorem tt_mono {w m : Nat} (he : e ≤ e2) : tt B D b l w e m ≤ tt B D b l w e2 m := by
  obtain ⟨k, rfl⟩ := Nat.le.dest he
  refine sm_le (fun i => ?_) e k
  split
  · exact ud_nn
  · exact Int.le_refl 0
theorem ful_mono (he : e ≤ e2) (hf : ful B h o D b l e2) : ful B h o D b l e := by
  intro m hm
  obtain ⟨h1, h2⟩ := hf m hm
  obtain ⟨k, rfl⟩ := Nat.le.dest he
  refine ⟨fun w hw => Int.le_trans (tt_mono he) (h1 w hw), ?_⟩
  have a1 : hL (B 4) (tlo B D b l e) m ≤ hL (B 4) (tlo B D b l (e + k)) m := hL_mono (fun m => mxx_le e k) m
  have a2 : hM (B 3) (thi B D b l (e + k)) m ≤ hM (B 3) (thi B D b l e) m := hM_mono (fun m => mnn_ge e k) m
  omega
theorem PLp_mono (he : e ≤ e2) (hp : PLp B t h o X D e2 c) : PLp B t h o X D e c := ⟨fun d hd hm => hp.1 d (by omega) hm, ful_mono he hp.2⟩
theorem tt_cg {w m : Nat} (hb : ∀ d, d < e → D.testBit d = true → b d = b2 d) : tt B D b l w e m = tt B D b2 l w e m := by
  refine sm_eq _ fun d hd => ?_
  show (if D.testBit d = true then _ else _) = (if D.testBit d = true then _ else _)
  by_cases q : D.testBit d = true
  · rw [if_pos q, if_pos q, hb d hd q]
  · rw [if_neg q, if_neg q]
theorem tlo_cg {m : Nat} (hb : ∀ d, d < e → D.testBit d = true → b d = b2 d) : tlo B D b l e m = tlo B D b2 l e m := by
  refine mxx_eq _ fun d hd => ?_
  show (if D.testBit d = true then _ else _) = (if D.testBit d = true then _ else _)
  by_cases q : D.testBit d = true
  · rw [if_pos q, if_pos q, hb d hd q]
  · rw [if_neg q, if_neg q]
theorem thi_cg {m : Nat} (hb : ∀ d, d < e → D.testBit d = true → b d = b2 d) : thi B D b l e m = thi B D b2 l e m := by
  refine mnn_eq _ fun d hd => ?_
  show (if D.testBit d = true then _ else _) = (if D.testBit d = true then _ else _)
  by_cases q : D.testBit d = true
  · rw [if_pos q, if_pos q, hb d hd q]
  · rw [if_neg q, if_neg q]
theorem ful_cg (hb : ∀ d, d < e → D.testBit d = true → b d = b2 d) (hf : ful B h o D b l e) : ful B h o D b2 l e := by
  have e1 : tlo B D b2 l e = tlo B D b l e := funext fun m => (tlo_cg hb).symm
  have e2 : thi B D b2 l e = thi B D b l e := funext fun m => (thi_cg hb).symm
  intro m hm
  obtain ⟨h1, h2⟩ := hf m hm
  refine ⟨fun w hw => ?_, ?_⟩
  · rw [← tt_cg hb]; exact h1 w hw
  · rw [e1, e2]; exact h2
theorem PLp_cg (hc : ∀ d, d < e → D.testBit d = true → c d = c2 d) (hp : PLp B t h o X D e c) : PLp B t h o X D e c2 := by
  refine ⟨fun d hd hm => ?_, ful_cg (fun d hd hm => ?_) hp.2⟩
  · rw [← hc d hd hm]; exact hp.1 d hd hm
  · show bg B t d (c d) = bg B t d (c2 d)
    rw [hc d hd hm]
theorem csm_cg (hc : ∀ d, d < e → D.testBit d = true → c d = c2 d) : csm B D e c = csm B D e c2 := by
  refine sm_eq _ fun d hd => ?_
  show (if D.testBit d = true then _ else _) = (if D.testBit d = true then _ else _)
  by_cases q : D.testBit d = true
  · rw [if_pos q, if_pos q, hc d hd q]
  · rw [if_neg q, if_neg q]
end MON
-- the same, dishes behind the last one of the set
theorem sm_z {f : Nat → Int} {n : Nat} : ∀ k, (∀ i, n ≤ i → i < n + k → f i = 0) → sm f (n + k) = sm f n := by
  intro k
  induction k with
  | zero => intro _; rfl
  | succ k ih => intro h; show sm f (n + k) + f (n + k) = sm f n; rw [ih fun i h1 h2 => h i h1 (by omega), h (n + k) (by omega) (by omega)]; omega
theorem mxx_z {f : Nat → Int} {n : Nat} : ∀ k, (∀ i, n ≤ i → i < n + k → f i = 0) → mxx f (n + k) = mxx f n := by
  intro k
  induction k with
  | zero => intro _; rfl
  | succ k ih => intro h; have := mxx_nn (f := f) n; show max (mxx f (n + k)) (f (n + k)) = mxx f n; rw [ih fun i h1 h2 => h i h1 (by omega), h (n + k) (by omega) (by omega)]; omega
theorem mnn_z {f : Nat → Int} {n : Nat} : ∀ k, (∀ i, n ≤ i → i < n + k → f i = 9) → mnn f (n + k) = mnn f n := by
  intro k
  induction k with
  | zero => intro _; rfl
  | succ k ih => intro h; have := mnn_9 (f := f) n; show min (mnn f (n + k)) (f (n + k)) = mnn f n; rw [ih fun i h1 h2 => h i h1 (by omega), h (n + k) (by omega) (by omega)]; omega
section SKP
variable {B : Nat → Int} {t h o : Int} {X : Nat → Nat → Prop} {D e k : Nat} {b l : Nat → Nat → Int} {c : Nat → Nat}
theorem tt_sk {w m : Nat} (hk : ∀ d, e ≤ d → d < e + k → D.testBit d = false) : tt B D b l w (e + k) m = tt B D b l w e m := sm_z k fun i h1 h2 => by show (if D.testBit i = true then _ else _) = _; rw [hk i h1 h2]; rfl
theorem tlo_sk {m : Nat} (hk : ∀ d, e ≤ d → d < e + k → D.testBit d = false) : tlo B D b l (e + k) m = tlo B D b l e m := mxx_z k fun i h1 h2 => by show (if D.testBit i = true then _ else _) = _; rw [hk i h1 h2]; rfl
theorem thi_sk {m : Nat} (hk : ∀ d, e ≤ d → d < e + k → D.testBit d = false) : thi B D b l (e + k) m = thi B D b l e m := mnn_z k fun i h1 h2 => by show (if D.testBit i = true then _ else _) = _; rw [hk i h1 h2]; rfl
theorem csm_sk (hk : ∀ d, e ≤ d → d < e + k → D.testBit d = false) : csm B D (e + k) c = csm B D e c := sm_z k fun i h1 h2 => by show (if D.testBit i = true then _ else _) = _; rw [hk i h1 h2]; rfl
theorem ful_sk (hk : ∀ d, e ≤ d → d < e + k → D.testBit d = false) : ful B h o D b l (e + k) ↔ ful B h o D b l e := by
  have e1 : tlo B D b l (e + k) = tlo B D b l e := funext fun m => tlo_sk hk
  have e2 : thi B D b l (e + k) = thi B D b l e := funext fun m => thi_sk hk
  unfold ful
  rw [e1, e2]
  constructor
  · intro q m hm; exact ⟨fun w hw => by rw [← tt_sk hk]; exact (q m hm).1 w hw, (q m hm).2⟩
  · intro q m hm; exact ⟨fun w hw => by rw [tt_sk hk]; exact (q m hm).1 w hw, (q m hm).2⟩
theorem PLp_sk (hk : ∀ d, e ≤ d → d < e + k → D.testBit d = false) : PLp B t h o X D (e + k) c ↔ PLp B t h o X D e c := by
  constructor
  · exact fun q => PLp_mono (by omega) q
  · intro q
    refine ⟨fun d hd hm => ?_, (ful_sk hk).2 q.2⟩
    by_cases q1 : d < e
    · exact q.1 d q1 hm
    · rw [hk d (by omega) hd] at hm; cases hm
end SKP
-- choices
section CHB
variable {B : Nat → Int} {d c k : Nat}
theorem wts_b (h : WF B) (hd : (d : Int) < B 16) (j : Nat) : 1 ≤ wts B d j ∧ wts B d j ≤ 2 := by
  unfold wts
  split
  · rename_i q
    have h1 := wf_n h hd
    have := (wf_s h hd (k := j) (by omega)).2.2.1
    omega
  · omega
theorem ch_b (h : WF B) (hd : (d : Int) < B 16) : 1 ≤ chn B d ∧ chn B d ≤ 12 ∧ (chn B d : Int) = (1 + bKeep B d) * wts B d 0 * wts B d 1 := by
  have h1 := (wf_d h hd).1
  have h2 := wts_b h hd 0
  have h3 := wts_b h hd 1
  unfold chn
  rcases (show bKeep B d = 0 ∨ bKeep B d = 1 ∨ bKeep B d = 2 by omega) with e1 | e1 | e1 <;> rcases (show wts B d 0 = 1 ∨ wts B d 0 = 2 by omega) with e2 | e2 <;> rcases (show wts B d 1 = 1 ∨ wts B d 1 = 2 by omega) with e3 | e3 <;> rw [e1, e2, e3] <;> decide
theorem ch_e (h : WF B) (hd : (d : Int) < B 16) (hc : c < chn B d) : (0 ≤ cE B d c ∧ cE B d c ≤ bKeep B d) ∧ (0 ≤ cW1 B d c ∧ cW1 B d c < wts B d 0) ∧ (0 ≤ cW2 B d c ∧ cW2 B d c < wts B d 1) ∧ (c : Int) = cE B d c + (1 + bKeep B d) * (cW1 B d c + wts B d 0 * cW2 B d c) := by
  have h1 := (wf_d h hd).1
  have h2 := wts_b h hd 0
  have h3 := wts_b h hd 1
  have h4 := (ch_b h hd).2.2
  unfold cE cW1 cW2 cL
  rcases (show bKeep B d = 0 ∨ bKeep B d = 1 ∨ bKeep B d = 2 by omega) with e1 | e1 | e1 <;> rcases (show wts B d 0 = 1 ∨ wts B d 0 = 2 by omega) with e2 | e2 <;> rcases (show wts B d 1 = 1 ∨ wts B d 1 = 2 by omega) with e3 | e3 <;> rw [e1, e2, e3] at h4 <;> rw [e1, e2] <;> (try rw [e3]) <;> omega
theorem wts_1 (h : WF B) (hd : (d : Int) < B 16) (hn : nO B d ≤ 1) : wts B d 0 = 1 := by
  have := wf_n h hd
  unfold wts
  rw [if_neg (by omega)]
theorem wts_2 (h : WF B) (hd : (d : Int) < B 16) (hn : nO B d ≤ 2) : wts B d 1 = 1 := by
  have := wf_n h hd
  unfold wts
  rw [if_neg (by omega)]
theorem wv_b (h : WF B) (hd : (d : Int) < B 16) (hc : c < chn B d) (hk : k < nO B d) : 0 ≤ wv B d c k ∧ wv B d c k ≤ 1 ∧ (k + 1 < nO B d → wv B d c k ≤ wt B (nF B d + k)) ∧ (k + 1 = nO B d → wv B d c k = 0) := by
  have h1 := ch_e h hd hc
  have h2 := wts_b h hd 0
  have h3 := wts_b h hd 1
  have h4 := wf_n h hd
  unfold wv
  by_cases q : k + 1 = nO B d
  · rw [if_pos q]; omega
  · rw [if_neg q]
    by_cases q2 : k = 0
    · rw [if_pos q2]
      have : wts B d 0 = 1 + wt B (nF B d + 0) := if_pos (by omega)
      subst q2
      omega
    · rw [if_neg q2]
      have e : k = 1 := by omega
      have : wts B d 1 = 1 + wt B (nF B d + 1) := if_pos (by omega)
      subst e
      omega
theorem bg_s {t : Int} (hk : k < nO B d) : bg B t d c k = bg B t d c (k + 1) - wv B d c k - lg B (nF B d + k) := by
  unfold bg
  obtain ⟨j, e⟩ : ∃ j, nO B d - k = j + 1 := ⟨nO B d - k - 1, by omega⟩
  rw [e, show nO B d - (k + 1) = j by omega]
  show en B d c t j - wv B d c (nO B d - 1 - j) - lg B (nF B d + (nO B d - 1 - j)) = _
  rw [show nO B d - 1 - j = k by omega]
theorem bg_n {t : Int} : bg B t d c (nO B d) = t - cE B d c := by
  unfold bg
  rw [Nat.sub_self]
  rfl
-- where the steps of a choice lie
theorem bg_b {t : Int} (h : WF B) (hd : (d : Int) < B 16) (hc : c < chn B d) : ∀ j, j ≤ nO B d → t - 2 - 31 * j ≤ bg B t d c (nO B d - j) ∧ bg B t d c (nO B d - j) ≤ t - cE B d c - j := by
  intro j
  have h1 := ch_e h hd hc
  have h2 := (wf_d h hd).1
  induction j with
  | zero => intro _; rw [Nat.sub_zero, bg_n]; omega
  | succ j ih =>
    intro hj
    have h3 := ih (by omega)
    have h4 := bg_s (B := B) (c := c) (d := d) (t := t) (k := nO B d - (j + 1)) (by omega)
    rw [show nO B d - (j + 1) + 1 = nO B d - j by omega] at h4
    have h5 := wv_b h hd hc (k := nO B d - (j + 1)) (by omega)
    have h6 := (wf_s h hd (k := nO B d - (j + 1)) (by omega)).2.1
    omega
theorem bg_r {t : Int} (h : WF B) (hd : (d : Int) < B 16) (hc : c < chn B d) (ht : 1 ≤ t ∧ t ≤ 60) (hk : k ≤ nO B d) : -100 ≤ bg B t d c k ∧ bg B t d c k ≤ 60 := by
  have h1 := bg_b (t := t) h hd hc (nO B d - k) (by omega)
  rw [show nO B d - (nO B d - k) = k by omega] at h1
  have h2 := wf_n h hd
  have h3 := ch_e h hd hc
  omega
theorem bg_m {t : Int} (h : WF B) (hd : (d : Int) < B 16) (hc : c < chn B d) : ∀ j k, k + j ≤ nO B d → bg B t d c k + j ≤ bg B t d c (k + j) := by
  intro j
  induction j with
  | zero => intro k _; rw [Nat.add_zero]; omega
  | succ j ih =>
    intro k hk
    have h1 := ih k (by omega)
    have h2 := bg_s (B := B) (c := c) (d := d) (t := t) (k := k + j) (by omega)
    have h3 := wv_b h hd hc (k := k + j) (by omega)
    have h4 := (wf_s h hd (k := k + j) (by omega)).2.1
    rw [show k + (j + 1) = k + j + 1 by omega]
    omega
-- a choice whose first step begins in time: all lie within the hour
theorem bg_in {t : Int} (h : WF B) (hd : (d : Int) < B 16) (hc : c < chn B d) (ht : 1 ≤ t ∧ t ≤ 60) (h0 : 0 ≤ bg B t d c 0) (hk : k < nO B d) : 0 ≤ bg B t d c k ∧ bg B t d c k + lg B (nF B d + k) ≤ bg B t d c (k + 1) ∧ bg B t d c (k + 1) ≤ 60 ∧ 1 ≤ lg B (nF B d + k) ∧ bg B t d c k + lg B (nF B d + k) ≤ 60 := by
  have h1 := bg_m (t := t) h hd hc k 0 (by omega)
  rw [Nat.zero_add] at h1
  have h2 := bg_s (B := B) (c := c) (d := d) (t := t) hk
  have h3 := wv_b h hd hc hk
  have h4 := (bg_r h hd hc ht (k := k + 1) (by omega))
  have h5 := (wf_s h hd hk).2.1
  omega
theorem lsr_b (h : WF B) (hd : (d : Int) < B 16) : ∀ j, j ≤ nO B d → 0 ≤ lsr B d j ∧ lsr B d j ≤ 270 * j := by
  intro j
  induction j with
  | zero => intro _; exact ⟨Int.le_refl 0, Int.le_refl 0⟩
  | succ j ih =>
    intro hj
    have h1 := ih (by omega)
    have h2 := wf_s h hd (k := nO B d - 1 - j) (by omega)
    show 0 ≤ lsr B d j + _ ∧ lsr B d j + _ ≤ _
    split
    · rename_i q
      have h3 := (h2.2.2.2.2.2.2.2.2 q).2
      have h4 := h2.2.1
      have h5 : 0 ≤ on B (nF B d + (nO B d - 1 - j)) * lg B (nF B d + (nO B d - 1 - j)) := Int.mul_nonneg (by omega) (by omega)
      have h6 : on B (nF B d + (nO B d - 1 - j)) * lg B (nF B d + (nO B d - 1 - j)) ≤ 9 * 30 := Int.mul_le_mul (by omega) (by omega) (by omega) (by omega)
      omega
    · omega
theorem cst_b (h : WF B) (hd : (d : Int) < B 16) (hc : c < chn B d) : 0 ≤ cst B d c ∧ cst B d c ≤ 900 := by
  have h1 := ch_e h hd hc
  have h2 := wts_b h hd 0
  have h3 := wts_b h hd 1
  have h4 := lsr_b h hd (nO B d) (Nat.le_refl _)
  have h5 := wf_n h hd
  have h6 := (wf_d h hd).1
  have h7 := (wf_d h hd).2.1
  have h8 : 0 ≤ cE B d c * bCold B d := Int.mul_nonneg (by omega) (by omega)
  have h9 : cE B d c * bCold B d ≤ 2 * 9 := Int.mul_le_mul (by omega) (by omega) (by omega) (by omega)
  unfold cst
  omega
end CHB
theorem csm_s {B : Nat → Int} {D e : Nat} {c : Nat → Nat} : csm B D (e + 1) c = csm B D e c + (if D.testBit e = true then cst B e (c e) else 0) := rfl
theorem sn_s {D e : Nat} : sn D (e + 1) = sn D e + (if D.testBit e = true then 1 else 0) := rfl
theorem ps_s {B : Nat → Int} {D e : Nat} : ps B D (e + 1) = ps B D e + (if D.testBit e = true then nO B e else 0) := rfl
theorem csm_b {B : Nat → Int} {D : Nat} {c : Nat → Nat} (h : WF B) (hD : D < 2 ^ (B 16).toNat) : ∀ e, (∀ d, d < e → D.testBit d = true → c d < chn B d) → 0 ≤ csm B D e c ∧ csm B D e c ≤ 900 * sn D e := by
  intro e
  induction e with
  | zero => intro _; exact ⟨Int.le_refl 0, Int.le_refl 0⟩
  | succ e ih =>
    intro hc
    have h1 := ih fun d hd hm => hc d (by omega) hm
    rw [csm_s, sn_s]
    by_cases q : D.testBit e = true
    · rw [if_pos q, if_pos q]
      have hd : (e : Int) < B 16 := by
        rcases Nat.lt_or_ge e (B 16).toNat with g | g
        · omega
        · rw [tb_hi hD g] at q; cases q
      have := cst_b h hd (hc e (by omega) q)
      omega
    · rw [if_neg q, if_neg q]
      omega
theorem csm_le {B : Nat → Int} {D : Nat} {c : Nat → Nat} (h : WF B) (hD : D < 2 ^ (B 16).toNat) : ∀ k e, (∀ d, d < e + k → D.testBit d = true → c d < chn B d) → csm B D e c ≤ csm B D (e + k) c := by
  intro k
  induction k with
  | zero => intro e _; exact Int.le_refl _
  | succ k ih =>
    intro e hc
    have h1 := ih e fun d hd hm => hc d (by omega) hm
    rw [← Nat.add_assoc, csm_s]
    by_cases q : D.testBit (e + k) = true
    · rw [if_pos q]
      have hd : ((e + k : Nat) : Int) < B 16 := by
        rcases Nat.lt_or_ge (e + k) (B 16).toNat with g | g
        · omega
        · rw [tb_hi hD g] at q; cases q
      have := cst_b h hd (hc (e + k) (by omega) q)
      omega
    · rw [if_neg q]
      omega

