/-! ===== plans moved later, plans of fewer dishes ===== -/
theorem SK_ne {B : Nat → Int} {t h o : Int} {X : Nat → Nat → Prop} {D : Nat} {any : Bool} : SK B t h o X D any ≠ none ↔ ∃ c : Nat → Nat, (∀ e, e < 8 → D.testBit e = true → c e < chn B e) ∧ PLp B t h o X D 8 c := by
  constructor
  · intro h1
    cases q : SK B t h o X D any with
    | none => exact absurd q h1
    | some c =>
      rcases exS_res 8 0 (fun _ => 0) none c q with z | ⟨z1, _, z3⟩
      · cases z
      · exact ⟨c, fun e he hm => z3 e (Nat.zero_le e) (by omega) hm, z1⟩
  · rintro ⟨c, h1, h2⟩
    unfold SK
    refine exS_has 8 0 (fun _ => 0) none c (fun c2 hc2 => ?_) (fun e _ he hm => h1 e (by omega) hm)
    exact PLp_cg (fun d hd hm => ((hc2 d (by omega)).2 (Nat.zero_le d) hm).symm) h2
-- fewer dishes
theorem mxx_mo {f g : Nat → Int} : ∀ n, (∀ i, i < n → f i ≤ g i) → mxx f n ≤ mxx g n := by
  intro n
  induction n with
  | zero => intro _; exact Int.le_refl 0
  | succ n ih => intro h; have h1 := ih fun i hi => h i (by omega); have h2 := h n (by omega); show max (mxx f n) (f n) ≤ max (mxx g n) (g n); omega
theorem mnn_mo {f g : Nat → Int} : ∀ n, (∀ i, i < n → f i ≤ g i) → mnn f n ≤ mnn g n := by
  intro n
  induction n with
  | zero => intro _; exact Int.le_refl 9
  | succ n ih => intro h; have h1 := ih fun i hi => h i (by omega); have h2 := h n (by omega); show min (mnn f n) (f n) ≤ min (mnn g n) (g n); omega
theorem PLp_sub {B : Nat → Int} {t h o : Int} {X : Nat → Nat → Prop} {D D' : Nat} {c : Nat → Nat} (hs : ∀ e, D'.testBit e = true → D.testBit e = true) (hp : PLp B t h o X D 8 c) : PLp B t h o X D' 8 c := by
  obtain ⟨h1, h2⟩ := hp
  refine ⟨fun d hd hm => h1 d hd (hs d hm), fun m hm => ?_⟩
  obtain ⟨g1, g2⟩ := h2 m hm
  refine ⟨fun w hw => Int.le_trans (sm_mono 8 fun d _ => ?_) (g1 w hw), ?_⟩
  · show (if D'.testBit d = true then ud B w d (bg B t d (c d)) (lgs B d) m else 0) ≤ (if D.testBit d = true then ud B w d (bg B t d (c d)) (lgs B d) m else 0)
    by_cases q : D'.testBit d = true
    · rw [if_pos q, if_pos (hs d q)]; exact Int.le_refl _
    · rw [if_neg q]
      split
      · exact ud_nn
      · exact Int.le_refl 0
  · have a1 : hL (B 4) (tlo B D' (fun d => bg B t d (c d)) (lgs B) 8) m ≤ hL (B 4) (tlo B D (fun d => bg B t d (c d)) (lgs B) 8) m := hL_mono (fun m => mxx_mo 8 fun d _ => by
      show (if D'.testBit d = true then ld B d (bg B t d (c d)) (lgs B d) m else 0) ≤ (if D.testBit d = true then ld B d (bg B t d (c d)) (lgs B d) m else 0)
      by_cases q : D'.testBit d = true
      · rw [if_pos q, if_pos (hs d q)]; exact Int.le_refl _
      · rw [if_neg q]
        split
        · exact mxx_nn _
        · exact Int.le_refl 0) m
    have a2 : hM (B 3) (thi B D (fun d => bg B t d (c d)) (lgs B) 8) m ≤ hM (B 3) (thi B D' (fun d => bg B t d (c d)) (lgs B) 8) m := hM_mono (fun m => mnn_mo 8 fun d _ => by
      show (if D.testBit d = true then hd B d (bg B t d (c d)) (lgs B d) m else 9) ≤ (if D'.testBit d = true then hd B d (bg B t d (c d)) (lgs B d) m else 9)
      by_cases q : D'.testBit d = true
      · rw [if_pos q, if_pos (hs d q)]; exact Int.le_refl _
      · rw [if_neg q]
        split
        · exact mnn_9 _
        · exact Int.le_refl 9) m
    omega
theorem PE_sub {B : Nat → Int} {t h : Int} {D D' : Nat} (hs : ∀ e, D'.testBit e = true → D.testBit e = true) (hp : PE B t h D) : PE B t h D' := by
  unfold PE at hp ⊢
  rw [SK_ne] at hp ⊢
  obtain ⟨c, h1, h2⟩ := hp
  exact ⟨c, fun e he hm => h1 e he (hs e hm), PLp_sub hs h2⟩
-- books that differ in who is away alone
section NAW
variable {B B' : Nat → Int}
theorem x_kd (e : ∀ j, j ≠ 7 → B' j = B j) : kd B' = kd B := funext fun s => e _ (by omega)
theorem x_lg (e : ∀ j, j ≠ 7 → B' j = B j) : lg B' = lg B := funext fun s => e _ (by omega)
theorem x_wt (e : ∀ j, j ≠ 7 → B' j = B j) : wt B' = wt B := funext fun s => e _ (by omega)
theorem x_sr (e : ∀ j, j ≠ 7 → B' j = B j) : sr B' = sr B := funext fun s => e _ (by omega)
theorem x_on (e : ∀ j, j ≠ 7 → B' j = B j) : on B' = on B := funext fun s => e _ (by omega)
theorem x_tw (e : ∀ j, j ≠ 7 → B' j = B j) : tw B' = tw B := funext fun s => e _ (by omega)
theorem x_bK (e : ∀ j, j ≠ 7 → B' j = B j) : bKeep B' = bKeep B := funext fun s => e _ (by omega)
theorem x_bC (e : ∀ j, j ≠ 7 → B' j = B j) : bCold B' = bCold B := funext fun s => e _ (by omega)
theorem x_bP (e : ∀ j, j ≠ 7 → B' j = B j) : bPan B' = bPan B := funext fun s => e _ (by omega)
theorem x_bO (e : ∀ j, j ≠ 7 → B' j = B j) : bOwn B' = bOwn B := funext fun s => e _ (by omega)
theorem x_bF (e : ∀ j, j ≠ 7 → B' j = B j) : bFst B' = bFst B := funext fun s => e _ (by omega)
theorem x_nO (e : ∀ j, j ≠ 7 → B' j = B j) : nO B' = nO B := by funext d; unfold nO; rw [x_bO e]
theorem x_nF (e : ∀ j, j ≠ 7 → B' j = B j) : nF B' = nF B := by funext d; unfold nF; rw [x_bF e]
theorem x_wts (e : ∀ j, j ≠ 7 → B' j = B j) : wts B' = wts B := by funext d k; unfold wts; simp only [x_bO e, x_wt e, x_nF e]
theorem x_chn (e : ∀ j, j ≠ 7 → B' j = B j) : chn B' = chn B := by funext d; unfold chn; simp only [x_bK e, x_wts e]
theorem x_cE (e : ∀ j, j ≠ 7 → B' j = B j) : cE B' = cE B := by funext d c; unfold cE; simp only [x_bK e]
theorem x_cL (e : ∀ j, j ≠ 7 → B' j = B j) : cL B' = cL B := by funext d c; unfold cL; simp only [x_bK e]
theorem x_cW1 (e : ∀ j, j ≠ 7 → B' j = B j) : cW1 B' = cW1 B := by funext d c; unfold cW1; simp only [x_cL e, x_wts e]
theorem x_cW2 (e : ∀ j, j ≠ 7 → B' j = B j) : cW2 B' = cW2 B := by funext d c; unfold cW2; simp only [x_cL e, x_wts e]
theorem x_wv (e : ∀ j, j ≠ 7 → B' j = B j) : wv B' = wv B := by funext d c k; unfold wv; simp only [x_nO e, x_cW1 e, x_cW2 e]
theorem x_en (e : ∀ j, j ≠ 7 → B' j = B j) {d c : Nat} {t : Int} : ∀ j, en B' d c t j = en B d c t j := by
  intro j
  induction j with
  | zero => show t - cE B' d c = t - cE B d c; rw [x_cE e]
  | succ j ih =>
    show en B' d c t j - wv B' d c (nO B' d - 1 - j) - lg B' (nF B' d + (nO B' d - 1 - j)) = en B d c t j - wv B d c (nO B d - 1 - j) - lg B (nF B d + (nO B d - 1 - j))
    rw [ih, x_wv e, x_nO e, x_lg e, x_nF e]
theorem x_bg (e : ∀ j, j ≠ 7 → B' j = B j) : bg B' = bg B := by funext t d c k; unfold bg; rw [x_en e, x_nO e]
theorem x_lgs (e : ∀ j, j ≠ 7 → B' j = B j) : lgs B' = lgs B := by funext d k; unfold lgs; rw [x_lg e, x_nF e]
theorem x_ub (e : ∀ j, j ≠ 7 → B' j = B j) : ub B' = ub B := by funext w s b l m; unfold ub; simp only [x_kd e, x_on e, x_sr e]
theorem x_ud (e : ∀ j, j ≠ 7 → B' j = B j) : ud B' = ud B := by funext w d b l m; unfold ud; simp only [x_bP e, x_nO e, x_ub e, x_nF e]
theorem x_ol (e : ∀ j, j ≠ 7 → B' j = B j) : ol B' = ol B := by funext s b l m; unfold ol; simp only [x_kd e, x_on e]
theorem x_oh (e : ∀ j, j ≠ 7 → B' j = B j) : oh B' = oh B := by funext s b l m; unfold oh; simp only [x_kd e, x_tw e]
theorem x_ld (e : ∀ j, j ≠ 7 → B' j = B j) : ld B' = ld B := by funext d b l m; unfold ld; simp only [x_ol e, x_nF e, x_nO e]
theorem x_hd (e : ∀ j, j ≠ 7 → B' j = B j) : hd B' = hd B := by funext d b l m; unfold hd; simp only [x_oh e, x_nF e, x_nO e]
theorem x_tt (e : ∀ j, j ≠ 7 → B' j = B j) : tt B' = tt B := by funext D b l w i m; unfold tt; simp only [x_ud e]
theorem x_tlo (e : ∀ j, j ≠ 7 → B' j = B j) : tlo B' = tlo B := by funext D b l i m; unfold tlo; simp only [x_ld e]
theorem x_thi (e : ∀ j, j ≠ 7 → B' j = B j) : thi B' = thi B := by funext D b l i m; unfold thi; simp only [x_hd e]
end NAW
theorem nAw_e {B : Nat → Int} : ∀ j, j ≠ 7 → nAw B j = B j := fun j h => if_neg h
theorem nAw_7 {B : Nat → Int} : nAw B 7 = 0 := if_pos rfl
theorem nAw_WF {B : Nat → Int} (hW : WF B) : WF (nAw B) := by
  have e := nAw_e (B := B)
  obtain ⟨h1, h2, h3, h4, h5, h6, h7, h8⟩ := hW
  refine ⟨?_, ?_, ?_, fun d hd => ?_, ?_, fun s hs => ?_, ?_, ?_⟩
  · rw [e 0 (by omega), e 1 (by omega), e 2 (by omega), e 3 (by omega), e 4 (by omega), e 5 (by omega), e 6 (by omega)]; exact h1
  · rw [nAw_7]; exact ⟨by omega, by omega, fun i hi => by omega⟩
  · rw [e 16 (by omega)]; exact h3
  · rw [e 16 (by omega)] at hd
    unfold WFd
    rw [x_bK e, x_bC e, x_bP e, x_bO e, x_bF e]; exact h4 d hd
  · rw [e 17 (by omega), e 16 (by omega), x_bO e]; exact h5
  · rw [e 17 (by omega)] at hs
    unfold WFs
    rw [x_kd e, x_lg e, x_wt e, x_sr e, x_on e, x_tw e]; exact h6 s hs
  · rw [e 202 (by omega), e 16 (by omega)]; exact h7
  · rw [e 203 (by omega), e 1 (by omega)]; exact h8
-- moved later by dl minutes
section LATER
variable {B : Nat → Int} {dl : Nat}
theorem en_l {d c : Nat} {t : Int} : ∀ j, en B d c (t + dl) j = en B d c t j + dl := by
  intro j
  induction j with
  | zero => show t + dl - cE B d c = t - cE B d c + dl; omega
  | succ j ih =>
    show en B d c (t + dl) j - wv B d c (nO B d - 1 - j) - lg B (nF B d + (nO B d - 1 - j)) = en B d c t j - wv B d c (nO B d - 1 - j) - lg B (nF B d + (nO B d - 1 - j)) + dl
    rw [ih]; omega
theorem bg_l {d c k : Nat} {t : Int} : bg B (t + dl) d c k = bg B t d c k + dl := en_l _
theorem ub_l {w s m : Nat} {b l : Int} (hb : 0 ≤ b) : ub B w s (b + dl) l m = if dl ≤ m then ub B w s b l (m - dl) else 0 := by
  unfold ub
  by_cases q : dl ≤ m
  · have c1 : (b + dl ≤ (m : Int)) ↔ (b ≤ ((m - dl : Nat) : Int)) := by omega
    have c2 : ((m : Int) < b + dl + l) ↔ (((m - dl : Nat) : Int) < b + l) := by omega
    have c3 : ((m : Int) = b + dl) ↔ (((m - dl : Nat) : Int) = b) := by omega
    rw [if_pos q]
    simp only [c1, c2, c3]
  · have c1 : ¬ (b + dl ≤ (m : Int)) := by omega
    rw [if_neg q]
    simp only [c1, false_and, and_false, if_false, ite_self]
theorem ol_l {s m : Nat} {b l : Int} (hb : 0 ≤ b) : ol B s (b + dl) l m = if dl ≤ m then ol B s b l (m - dl) else 0 := by
  unfold ol
  by_cases q : dl ≤ m
  · have c1 : (b + dl ≤ (m : Int)) ↔ (b ≤ ((m - dl : Nat) : Int)) := by omega
    have c2 : ((m : Int) < b + dl + l) ↔ (((m - dl : Nat) : Int) < b + l) := by omega
    rw [if_pos q]
    simp only [c1, c2]
  · have c1 : ¬ (b + dl ≤ (m : Int)) := by omega
    rw [if_neg q]
    simp only [c1, false_and, and_false, if_false]
theorem oh_l {s m : Nat} {b l : Int} (hb : 0 ≤ b) : oh B s (b + dl) l m = if dl ≤ m then oh B s b l (m - dl) else 9 := by
  unfold oh
  by_cases q : dl ≤ m
  · have c1 : (b + dl ≤ (m : Int)) ↔ (b ≤ ((m - dl : Nat) : Int)) := by omega
    have c2 : ((m : Int) < b + dl + l) ↔ (((m - dl : Nat) : Int) < b + l) := by omega
    rw [if_pos q]
    simp only [c1, c2]
  · have c1 : ¬ (b + dl ≤ (m : Int)) := by omega
    rw [if_neg q]
    simp only [c1, false_and, and_false, if_false]
theorem sm_0 {f : Nat → Int} {n : Nat} (h : ∀ i, i < n → f i = 0) : sm f n = 0 := by
  have := sm_z (f := f) (n := 0) n (fun i _ hi => h i (by omega))
  rw [Nat.zero_add] at this
  rw [this]; rfl
theorem mxx_0 {f : Nat → Int} {n : Nat} (h : ∀ i, i < n → f i = 0) : mxx f n = 0 := by
  have := mxx_z (f := f) (n := 0) n (fun i _ hi => h i (by omega))
  rw [Nat.zero_add] at this
  rw [this]; rfl
theorem mnn_0 {f : Nat → Int} {n : Nat} (h : ∀ i, i < n → f i = 9) : mnn f n = 9 := by
  have := mnn_z (f := f) (n := 0) n (fun i _ hi => h i (by omega))
  rw [Nat.zero_add] at this
  rw [this]; rfl
theorem ud_l {w d m : Nat} {b l : Nat → Int} (hn : 1 ≤ nO B d) (hb : ∀ k, k < nO B d → 0 ≤ b k) : ud B w d (fun k => b k + dl) l m = if dl ≤ m then ud B w d b l (m - dl) else 0 := by
  unfold ud
  by_cases w4 : w = 4
  · rw [if_pos w4, if_pos w4]
    have b0 := hb 0 (by omega)
    by_cases q : dl ≤ m
    · have c1 : (b 0 + dl ≤ (m : Int)) ↔ (b 0 ≤ ((m - dl : Nat) : Int)) := by omega
      have c2 : ((m : Int) < b (nO B d - 1) + dl + l (nO B d - 1)) ↔ (((m - dl : Nat) : Int) < b (nO B d - 1) + l (nO B d - 1)) := by omega
      rw [if_pos q]
      simp only [c1, c2]
    · have c1 : ¬ (b 0 + dl ≤ (m : Int)) := by omega
      rw [if_neg q]
      simp only [c1, false_and, and_false, if_false]
  · rw [if_neg w4, if_neg w4]
    by_cases q : dl ≤ m
    · rw [if_pos q]
      exact sm_eq _ fun k hk => by
        show ub B w (nF B d + k) (b k + dl) (l k) m = _
        rw [ub_l (hb k hk), if_pos q]
    · rw [if_neg q]
      exact sm_0 fun k hk => by
        show ub B w (nF B d + k) (b k + dl) (l k) m = _
        rw [ub_l (hb k hk), if_neg q]
theorem ld_l {d m : Nat} {b l : Nat → Int} (hb : ∀ k, k < nO B d → 0 ≤ b k) : ld B d (fun k => b k + dl) l m = if dl ≤ m then ld B d b l (m - dl) else 0 := by
  unfold ld
  by_cases q : dl ≤ m
  · rw [if_pos q]
    exact mxx_eq _ fun k hk => by
      show ol B (nF B d + k) (b k + dl) (l k) m = _
      rw [ol_l (hb k hk), if_pos q]
  · rw [if_neg q]
    exact mxx_0 fun k hk => by
      show ol B (nF B d + k) (b k + dl) (l k) m = _
      rw [ol_l (hb k hk), if_neg q]
theorem hd_l {d m : Nat} {b l : Nat → Int} (hb : ∀ k, k < nO B d → 0 ≤ b k) : hd B d (fun k => b k + dl) l m = if dl ≤ m then hd B d b l (m - dl) else 9 := by
  unfold hd
  by_cases q : dl ≤ m
  · rw [if_pos q]
    exact mnn_eq _ fun k hk => by
      show oh B (nF B d + k) (b k + dl) (l k) m = _
      rw [oh_l (hb k hk), if_pos q]
  · rw [if_neg q]
    exact mnn_0 fun k hk => by
      show oh B (nF B d + k) (b k + dl) (l k) m = _
      rw [oh_l (hb k hk), if_neg q]
variable {D i : Nat} {b l : Nat → Nat → Int}
theorem tt_l {w m : Nat} (hb : ∀ d, d < i → D.testBit d = true → 1 ≤ nO B d ∧ ∀ k, k < nO B d → 0 ≤ b d k) : tt B D (fun d k => b d k + dl) l w i m = if dl ≤ m then tt B D b l w i (m - dl) else 0 := by
  unfold tt
  by_cases q : dl ≤ m
  · rw [if_pos q]
    refine sm_eq _ fun d hd => ?_
    by_cases hm : D.testBit d = true
    · show (if D.testBit d = true then ud B w d (fun k => b d k + dl) (l d) m else 0) = (if D.testBit d = true then _ else 0)
      rw [if_pos hm, if_pos hm, ud_l (hb d hd hm).1 (hb d hd hm).2, if_pos q]
    · show (if D.testBit d = true then _ else 0) = (if D.testBit d = true then _ else 0)
      rw [if_neg hm, if_neg hm]
  · rw [if_neg q]
    refine sm_0 fun d hd => ?_
    show (if D.testBit d = true then ud B w d (fun k => b d k + dl) (l d) m else 0) = 0
    by_cases hm : D.testBit d = true
    · rw [if_pos hm, ud_l (hb d hd hm).1 (hb d hd hm).2, if_neg q]
    · rw [if_neg hm]
theorem tlo_l {m : Nat} (hb : ∀ d, d < i → D.testBit d = true → 1 ≤ nO B d ∧ ∀ k, k < nO B d → 0 ≤ b d k) : tlo B D (fun d k => b d k + dl) l i m = if dl ≤ m then tlo B D b l i (m - dl) else 0 := by
  unfold tlo
  by_cases q : dl ≤ m
  · rw [if_pos q]
    refine mxx_eq _ fun d hd => ?_
    by_cases hm : D.testBit d = true
    · show (if D.testBit d = true then ld B d (fun k => b d k + dl) (l d) m else 0) = (if D.testBit d = true then _ else 0)
      rw [if_pos hm, if_pos hm, ld_l (hb d hd hm).2, if_pos q]
    · show (if D.testBit d = true then _ else 0) = (if D.testBit d = true then _ else 0)
      rw [if_neg hm, if_neg hm]
  · rw [if_neg q]
    refine mxx_0 fun d hd => ?_
    show (if D.testBit d = true then ld B d (fun k => b d k + dl) (l d) m else 0) = 0
    by_cases hm : D.testBit d = true
    · rw [if_pos hm, ld_l (hb d hd hm).2, if_neg q]
    · rw [if_neg hm]
theorem thi_l {m : Nat} (hb : ∀ d, d < i → D.testBit d = true → 1 ≤ nO B d ∧ ∀ k, k < nO B d → 0 ≤ b d k) : thi B D (fun d k => b d k + dl) l i m = if dl ≤ m then thi B D b l i (m - dl) else 9 := by
  unfold thi
  by_cases q : dl ≤ m
  · rw [if_pos q]
    refine mnn_eq _ fun d hq => ?_
    by_cases hm : D.testBit d = true
    · show (if D.testBit d = true then hd B d (fun k => b d k + dl) (l d) m else 9) = (if D.testBit d = true then _ else 9)
      rw [if_pos hm, if_pos hm, hd_l (hb d hq hm).2, if_pos q]
    · show (if D.testBit d = true then _ else 9) = (if D.testBit d = true then _ else 9)
      rw [if_neg hm, if_neg hm]
  · rw [if_neg q]
    refine mnn_0 fun d hq => ?_
    show (if D.testBit d = true then hd B d (fun k => b d k + dl) (l d) m else 9) = 9
    by_cases hm : D.testBit d = true
    · rw [if_pos hm, hd_l (hb d hq hm).2, if_neg q]
    · rw [if_neg hm]
end LATER
theorem hL_l {c : Int} {lo lo2 : Nat → Int} {dl : Nat} (hc : 0 ≤ c) (h : ∀ m, lo2 m = if dl ≤ m then lo (m - dl) else 0) : ∀ m, hL c lo2 m = if dl ≤ m then hL c lo (m - dl) else 0 := by
  intro m
  induction m with
  | zero =>
    show max (lo2 0) (0 - c) = _
    rw [h 0]
    by_cases q : dl ≤ 0
    · have : dl = 0 := by omega
      subst this
      rw [if_pos q, if_pos q]; rfl
    · rw [if_neg q, if_neg q]; omega
  | succ m ih =>
    show max (lo2 (m + 1)) (hL c lo2 m - c) = _
    rw [ih, h (m + 1)]
    by_cases q : dl ≤ m
    · rw [if_pos q, if_pos (by omega), if_pos (by omega), show m + 1 - dl = (m - dl) + 1 by omega]; rfl
    · by_cases q2 : dl = m + 1
      · rw [if_neg q, if_pos (by omega), if_pos (by omega), show m + 1 - dl = 0 by omega]; rfl
      · rw [if_neg q, if_neg (by omega), if_neg (by omega)]; omega
theorem hM_l {w : Int} {hi hi2 : Nat → Int} {dl : Nat} (hw : 0 ≤ w) (h : ∀ m, hi2 m = if dl ≤ m then hi (m - dl) else 9) : ∀ m, (dl ≤ m → hM w hi (m - dl) ≤ hM w hi2 m) ∧ (¬ dl ≤ m → 0 ≤ hM w hi2 m) := by
  intro m
  induction m with
  | zero =>
    refine ⟨fun q => ?_, fun q => ?_⟩
    · have : dl = 0 := by omega
      subst this
      show min (hi 0) (0 + w) ≤ min (hi2 0) (0 + w)
      rw [h 0, if_pos q]; exact Int.le_refl _
    · show 0 ≤ min (hi2 0) (0 + w)
      rw [h 0, if_neg q]; omega
  | succ m ih =>
    refine ⟨fun q => ?_, fun q => ?_⟩
    · show _ ≤ min (hi2 (m + 1)) (hM w hi2 m + w)
      rw [h (m + 1), if_pos q]
      by_cases q2 : dl ≤ m
      · have := ih.1 q2
        rw [show m + 1 - dl = (m - dl) + 1 by omega]
        show min (hi (m - dl + 1)) (hM w hi (m - dl) + w) ≤ _
        omega
      · have := ih.2 q2
        rw [show m + 1 - dl = 0 by omega]
        show min (hi 0) (0 + w) ≤ _
        omega
    · show 0 ≤ min (hi2 (m + 1)) (hM w hi2 m + w)
      have := ih.2 (by omega)
      rw [h (m + 1), if_neg q]; omega
theorem gv_all {B : Nat → Int} {h o : Int} {w m m' : Nat} (hW : WF B) (hh : 0 ≤ h) (hw : w < 5) (hm : m < 60) : gv B h o w m' ≤ gv (nAw B) h 60 w m ∧ 0 ≤ gv (nAw B) h 60 w m := by
  have w0 := hW.1
  have e := nAw_e (B := B)
  have ab := awy_b (B := B) (m := m') (B 7).toNat
  have a0 : awy (nAw B) m (nAw B 7).toNat = 0 := by rw [nAw_7]; rfl
  unfold gv
  rw [a0, e 0 (by omega), e 1 (by omega), e 2 (by omega), e 6 (by omega), if_pos (show (m : Int) < 60 by omega)]
  rcases (show w = 0 ∨ w = 1 ∨ w = 2 ∨ w = 3 ∨ w = 4 by omega) with rfl | rfl | rfl | rfl | rfl
  · rw [if_pos rfl, if_pos rfl]; refine ⟨?_, by omega⟩; split <;> omega
  · show B 1 - (if (m' : Int) < o then 0 else 1) ≤ B 1 - 0 ∧ 0 ≤ B 1 - 0
    refine ⟨?_, by omega⟩; split <;> omega
  · rw [if_neg (by omega), if_neg (by omega), if_pos rfl, if_neg (by omega), if_neg (by omega), if_pos rfl]; omega
  · show (if 0 ≤ h - awy B m' (B 7).toNat then h - awy B m' (B 7).toNat else 0) ≤ (if 0 ≤ h - 0 then h - 0 else 0) ∧ 0 ≤ (if 0 ≤ h - 0 then h - 0 else 0)
    rw [if_pos (show 0 ≤ h - 0 by omega)]
    refine ⟨?_, by omega⟩; split <;> omega
  · rw [if_neg (by omega), if_neg (by omega), if_neg (by omega), if_neg (by omega), if_neg (by omega), if_neg (by omega), if_neg (by omega), if_neg (by omega)]; omega
theorem SK_all {B : Nat → Int} {t h o : Int} {D : Nat} (hW : WF B) (hh : 0 ≤ h) (ht : 1 ≤ t ∧ t ≤ 60) (hD2 : D < 2 ^ (B 16).toNat) (hs : SK B t h o (fun _ _ => True) D true ≠ none) : SK (nAw B) 60 h 60 (fun _ _ => True) D true ≠ none := by
  rw [SK_ne] at hs ⊢
  obtain ⟨c, h1, h2, h3⟩ := hs
  have e := nAw_e (B := B)
  have w0 := hW.1
  obtain ⟨dl, hdl⟩ : ∃ dl : Nat, (60 : Int) = t + dl := ⟨(60 - t).toNat, by omega⟩
  have hb : ∀ d, d < 8 → D.testBit d = true → 1 ≤ nO B d ∧ ∀ k, k < nO B d → 0 ≤ bg B t d (c d) k := fun d hd hm => ⟨(wf_n hW (mem_lt hW hD2 d hm)).1, fun k hk => (bg_in hW (mem_lt hW hD2 d hm) (h1 d hd hm) ht (h2 d hd hm).1 hk).1⟩
  have ebg : (fun d => bg (nAw B) 60 d (c d)) = (fun d k => bg B t d (c d) k + dl) := by
    funext d k
    rw [x_bg e, hdl, bg_l]
  refine ⟨c, fun d hd hm => by rw [x_chn e]; exact h1 d hd hm, fun d hd hm => ⟨?_, trivial⟩, fun m hm => ?_⟩
  · rw [x_bg e, hdl, bg_l]
    have := (h2 d hd hm).1
    omega
  · rw [ebg, x_lgs e, x_tlo e, x_thi e, e 4 (by omega), e 3 (by omega)]
    have hl := hL_l (c := B 4) (lo := tlo B D (fun d => bg B t d (c d)) (lgs B) 8) (lo2 := tlo B D (fun d k => bg B t d (c d) k + dl) (lgs B) 8) (dl := dl) (by omega) (fun m => tlo_l (b := fun d => bg B t d (c d)) hb) m
    have hM' := hM_l (w := B 3) (hi := thi B D (fun d => bg B t d (c d)) (lgs B) 8) (hi2 := thi B D (fun d k => bg B t d (c d) k + dl) (lgs B) 8) (dl := dl) (by omega) (fun m => thi_l (b := fun d => bg B t d (c d)) hb) m
    refine ⟨fun w hw => ?_, ?_⟩
    · have g := gv_all (o := o) (m := m) (m' := m - dl) hW hh hw hm
      rw [x_tt e, tt_l (b := fun d => bg B t d (c d)) hb]
      by_cases q : dl ≤ m
      · rw [if_pos q]
        exact Int.le_trans ((h3 (m - dl) (by omega)).1 w hw) g.1
      · rw [if_neg q]; exact g.2
    · rw [hl]
      by_cases q : dl ≤ m
      · rw [if_pos q]
        exact Int.le_trans (h3 (m - dl) (by omega)).2 (hM'.1 q)
      · rw [if_neg q]; exact hM'.2 q
