/-! ===== what was read is a book ===== -/
def PA (B : Nat → Int) : Prop := (0 ≤ B 0 ∧ B 0 ≤ 3 ∧ 0 ≤ B 1 ∧ B 1 ≤ 3 ∧ 0 ≤ B 2 ∧ B 2 ≤ 3 ∧ 0 ≤ B 3 ∧ B 3 ≤ 9 ∧ 0 ≤ B 4 ∧ B 4 ≤ 9 ∧ 1 ≤ B 5 ∧ B 5 ≤ 3 ∧ 0 ≤ B 6 ∧ B 6 ≤ 9) ∧
  (0 ≤ B 7 ∧ B 7 ≤ 4 ∧ ∀ i : Nat, (i : Int) < B 7 → 0 ≤ B (8 + 2 * i) ∧ B (8 + 2 * i) ≤ B (8 + 2 * i + 1) ∧ B (8 + 2 * i + 1) ≤ 59)
def PW (B : Nat → Int) : Prop := PA B ∧ ∃ d c : Nat, B 16 = d ∧ d ≤ 8 ∧ B 17 = c ∧ c ≤ 3 * d ∧ (∀ e : Nat, e < d → WFd B e) ∧ (c : Int) = sm (bOwn B) d ∧ (∀ s : Nat, s < c → WFs B s)
section PUR
variable {tp : Nat → Nat} {n : Nat}
theorem kn_W {S : Nat × Nat × (Nat → Int)} : ∀ k : Nat, (p_kn tp n k S).1 = 0 → ∀ i, i < k → klo i ≤ (p_kn tp n k S).2.2 i ∧ (p_kn tp n k S).2.2 i ≤ khi i := by
  intro k
  induction k with
  | zero => intro _ i hi; exact absurd hi (by omega)
  | succ k ih =>
    intro h i hi
    obtain ⟨h1, v, v1, v2, e⟩ := nm_B (show (a_nm tp n k (klo k) (khi k) (p_kn tp n k S)).1 = 0 from h)
    show klo i ≤ (a_nm tp n k (klo k) (khi k) (p_kn tp n k S)).2.2 i ∧ (a_nm tp n k (klo k) (khi k) (p_kn tp n k S)).2.2 i ≤ khi i
    rw [e]
    by_cases q : i = k
    · subst q; rw [upB_s]; exact ⟨v1, v2⟩
    · rw [upB_n q]; exact ih h1 i (by omega)
theorem kit_W (h : (p_kit tp n (0, 0, fun _ => 0)).1 = 0) : PA (p_kit tp n (0, 0, fun _ => 0)).2.2 := by
  have z := kit_0 h 7 (by omega)
  unfold p_kit at h
  have h7 := sg_B.2 h
  have k := kn_W 7 h7
  have e : (p_kit tp n (0, 0, fun _ => 0)).2.2 = (p_kn tp n 7 (a_wd tp n 0 (0, 0, fun _ => 0))).2.2 := by unfold p_kit; rw [sg_B.1]
  have z : (p_kit tp n (0, 0, fun _ => 0)).2.2 7 = 0 := z
  rw [e] at z ⊢
  have k0 := k 0 (by omega)
  have k1 := k 1 (by omega)
  have k2 := k 2 (by omega)
  have k3 := k 3 (by omega)
  have k4 := k 4 (by omega)
  have k5 := k 5 (by omega)
  have k6 := k 6 (by omega)
  unfold klo khi at k0 k1 k2 k3 k4 k5 k6
  simp only [show ¬ (0 : Nat) = 5 by decide, show ¬ (1 : Nat) = 5 by decide, show ¬ (2 : Nat) = 5 by decide, show ¬ (3 : Nat) = 5 by decide, show ¬ (4 : Nat) = 5 by decide, show ¬ (6 : Nat) = 5 by decide, show (0 : Nat) < 3 by decide, show (1 : Nat) < 3 by decide, show (2 : Nat) < 3 by decide, show ¬ (3 : Nat) < 3 by decide, show ¬ (4 : Nat) < 3 by decide, show ¬ (6 : Nat) < 3 by decide, if_false, if_true, or_true, true_or, or_self, or_false, false_or] at k0 k1 k2 k3 k4 k5 k6
  refine ⟨⟨k0.1, k0.2, k1.1, k1.2, k2.1, k2.2, k3.1, k3.2, k4.1, k4.2, k5.1, k5.2, k6.1, k6.2⟩, by omega, by omega, fun i hi => absurd hi (by omega)⟩
theorem away_W {S : Nat × Nat × (Nat → Int)} (hS : PA S.2.2 ∧ S.2.2 16 = 0 ∧ S.2.2 17 = 0) (h : (p_away tp n S).1 = 0) : PA (p_away tp n S).2.2 ∧ (p_away tp n S).2.2 16 = 0 ∧ (p_away tp n S).2.2 17 = 0 := by
  obtain ⟨⟨hk, a1, a2, a3⟩, s16, s17⟩ := hS
  obtain ⟨_, g1, v, w, v1, v2, v3, e⟩ := away_B h a1
  obtain ⟨c, hc⟩ : ∃ c : Nat, S.2.2 7 = c := ⟨(S.2.2 7).toNat, by omega⟩
  rw [hc, Int.toNat_natCast] at e
  have c4 : c < 4 := by omega
  have u : ∀ x, x ≠ 7 → x ≠ 8 + 2 * c → x ≠ 8 + 2 * c + 1 → (p_away tp n S).2.2 x = S.2.2 x := fun x x1 x2 x3 => by rw [e, upB_n x1, upB_n x3, upB_n x2]
  have e7 : (p_away tp n S).2.2 7 = (c : Int) + 1 := by rw [e, upB_s]
  have e8 : (p_away tp n S).2.2 (8 + 2 * c) = v := by rw [e, upB_n (by omega), upB_n (by omega), upB_s]
  have e9 : (p_away tp n S).2.2 (8 + 2 * c + 1) = w := by rw [e, upB_n (by omega), upB_s]
  refine ⟨⟨?_, by omega, by omega, fun i hi => ?_⟩, ?_, ?_⟩
  · rw [u 0 (by omega) (by omega) (by omega), u 1 (by omega) (by omega) (by omega), u 2 (by omega) (by omega) (by omega), u 3 (by omega) (by omega) (by omega), u 4 (by omega) (by omega) (by omega), u 5 (by omega) (by omega) (by omega), u 6 (by omega) (by omega) (by omega)]
    exact hk
  · rcases Nat.lt_or_ge i c with q | q
    · rw [u _ (by omega) (by omega) (by omega), u _ (by omega) (by omega) (by omega)]
      exact a3 i (by omega)
    · have : i = c := by omega
      subst this
      rw [e8, e9]
      omega
  · rw [u 16 (by omega) (by omega) (by omega)]; exact s16
  · rw [u 17 (by omega) (by omega) (by omega)]; exact s17
theorem al_W : ∀ (m : Nat) (S : Nat × Nat × (Nat → Int)), (S.1 = 0 → PA S.2.2 ∧ S.2.2 16 = 0 ∧ S.2.2 17 = 0) → (p_al tp n m S).1 = 0 → PA (p_al tp n m S).2.2 ∧ (p_al tp n m S).2.2 16 = 0 ∧ (p_al tp n m S).2.2 17 = 0 := by
  intro m
  induction m with
  | zero => intro S h y; exact h y
  | succ m ih =>
    intro S h
    have e : p_al tp n (m + 1) S = (if S.1 = 0 ∧ iw tp n 1 S.2.1 = true then p_al tp n m (p_away tp n S) else S) := rfl
    rw [e]
    by_cases q : S.1 = 0 ∧ iw tp n 1 S.2.1 = true
    · rw [if_pos q]
      exact ih _ (fun y => away_W (h q.1) y)
    · rw [if_neg q]; exact h
theorem pd_W {S : Nat × Nat × (Nat → Int)} (hS : S.1 = 0 → PW S.2.2) (h : (p_pd tp n S).1 = 0) : PW (p_pd tp n S).2.2 ∧ 1 ≤ (p_pd tp n S).2.2 16 := by
  have y := pd_0 h
  have pe := pd_d h
  rw [pe] at h ⊢
  obtain ⟨⟨hk, a1, a2, a3⟩, d, c, d16, d8, c17, c3, hd, hsm, hs⟩ := hS y
  obtain ⟨d7, X, x0, J, e⟩ := dish_B d16 c17 d8 h
  obtain ⟨v, v1, v3, g17, g3, g4, ga, gb, gc, gx, gw⟩ := J x0
  rw [e]
  generalize hB : upB X.2.2 16 ((d + 1 : Nat) : Int) = B at *
  have u : ∀ x, x ≠ 16 → B x = X.2.2 x := fun x hx => by rw [← hB, upB_n hx]
  have u16 : B 16 = ((d + 1 : Nat) : Int) := by rw [← hB, upB_s]
  have w : ∀ x, x ≠ 16 → x ≠ 17 → (x < 18 + 5 * d ∨ 18 + 5 * d + 5 ≤ x) → x < 58 + 6 * c → B x = S.2.2 x := fun x x1 x2 x3 x4 => by rw [u x x1, gx x x2 x3 x4]
  have eo : ∀ i, i < d → bOwn B i = bOwn S.2.2 i := fun i hi => w _ (by omega) (by omega) (by omega) (by omega)
  have es : ∀ i, i ≤ d → sm (bOwn B) i = sm (bOwn S.2.2) i := fun i hi => sm_eq i fun j hj => eo j (by omega)
  have od : bOwn B d = v := by rw [← g3]; exact u _ (by omega)
  refine ⟨⟨⟨?_, ?_, ?_, fun i hi => ?_⟩, d + 1, c + v, u16, by omega, by rw [u 17 (by omega)]; exact g17, by omega, fun f hf => ?_, ?_, fun s hs' => ?_⟩, by rw [u16]; omega⟩
  · rw [w 0 (by omega) (by omega) (by omega) (by omega), w 1 (by omega) (by omega) (by omega) (by omega), w 2 (by omega) (by omega) (by omega) (by omega), w 3 (by omega) (by omega) (by omega) (by omega), w 4 (by omega) (by omega) (by omega) (by omega), w 5 (by omega) (by omega) (by omega) (by omega), w 6 (by omega) (by omega) (by omega) (by omega)]
    exact hk
  · rw [w 7 (by omega) (by omega) (by omega) (by omega)]; exact a1
  · rw [w 7 (by omega) (by omega) (by omega) (by omega)]; exact a2
  · rw [w 7 (by omega) (by omega) (by omega) (by omega)] at hi
    rw [w _ (by omega) (by omega) (by omega) (by omega), w _ (by omega) (by omega) (by omega) (by omega)]
    exact a3 i hi
  · rcases Nat.lt_or_ge f d with q | q
    · have := hd f q
      unfold WFd at this ⊢
      rw [eo f q, es f (by omega), show bKeep B f = bKeep S.2.2 f from w _ (by omega) (by omega) (by omega) (by omega), show bCold B f = bCold S.2.2 f from w _ (by omega) (by omega) (by omega) (by omega), show bPan B f = bPan S.2.2 f from w _ (by omega) (by omega) (by omega) (by omega), show bFst B f = bFst S.2.2 f from w _ (by omega) (by omega) (by omega) (by omega)]
      exact this
    · have : f = d := by omega
      subst this
      unfold WFd
      rw [od, es f (by omega), show bKeep B f = X.2.2 (18 + 5 * f + 0) from u _ (by omega), show bCold B f = X.2.2 (18 + 5 * f + 1) from u _ (by omega), show bPan B f = X.2.2 (18 + 5 * f + 2) from u _ (by omega), show bFst B f = X.2.2 (18 + 5 * f + 4) from u _ (by omega)]
      exact ⟨ga, gb, gc, by omega, by omega⟩
  · show _ = sm (bOwn B) d + bOwn B d
    rw [es d (by omega), od]
    omega
  · rcases Nat.lt_or_ge s c with q | q
    · exact WFs_cg (fun j hj => w _ (by omega) (by omega) (by omega) (by omega)) (hs s q)
    · exact WFs_cg (fun j hj => u _ (by omega)) (gw s q hs')
theorem dl_W : ∀ (m : Nat) (S : Nat × Nat × (Nat → Int)), (S.1 = 0 → PW S.2.2 ∧ 1 ≤ S.2.2 16) → (p_dl tp n m S).1 = 0 → PW (p_dl tp n m S).2.2 ∧ 1 ≤ (p_dl tp n m S).2.2 16 := by
  intro m
  induction m with
  | zero => intro S h y; exact h y
  | succ m ih =>
    intro S h
    have e : p_dl tp n (m + 1) S = (if S.1 = 0 ∧ tso tp n S.2.1 ≠ 0 then p_dl tp n m (p_pd tp n S) else S) := rfl
    rw [e]
    by_cases q : S.1 = 0 ∧ tso tp n S.2.1 ≠ 0
    · rw [if_pos q]
      exact ih _ (fun y => pd_W (fun z => (h z).1) y)
    · rw [if_neg q]; exact h
theorem all_W (h : (p_all tp n).1 = 0) : PW (p_all tp n).2.2 ∧ 1 ≤ (p_all tp n).2.2 16 := by
  unfold p_all at h ⊢
  refine dl_W 9 _ (fun y => pd_W (fun z => ?_) y) h
  obtain ⟨a, b, c⟩ := al_W 5 _ (fun w => ⟨kit_W w, kit_0 w 16 (by omega), kit_0 w 17 (by omega)⟩) z
  exact ⟨a, 0, 0, b, by omega, c, by omega, fun e he => absurd he (by omega), rfl, fun s hs => absurd hs (by omega)⟩
theorem PW_WF {B : Nat → Int} (h : PW B) (h1 : 1 ≤ B 16) : WF (upB (upB B 202 1) 203 60) := by
  obtain ⟨⟨hk, a1, a2, a3⟩, d, c, d16, d8, c17, c3, hd, hsm, hs⟩ := h
  have u : ∀ x, x < 202 → upB (upB B 202 1) 203 60 x = B x := fun x hx => by rw [upB_n (by omega), upB_n (by omega)]
  generalize hB : upB (upB B 202 1) 203 60 = B2 at *
  have u2 : B2 202 = 1 := by rw [← hB, upB_n (by omega), upB_s]
  have u3 : B2 203 = 60 := by rw [← hB, upB_s]
  have eo : ∀ i, i < 8 → bOwn B2 i = bOwn B i := fun i hi => u _ (by omega)
  have es : ∀ i, i ≤ 8 → sm (bOwn B2) i = sm (bOwn B) i := fun i hi => sm_eq i fun j hj => eo j (by omega)
  refine ⟨?_, ⟨?_, ?_, fun i hi => ?_⟩, ?_, fun e he => ?_, ?_, fun s hs' => ?_, ?_, ?_⟩
  · rw [u 0 (by omega), u 1 (by omega), u 2 (by omega), u 3 (by omega), u 4 (by omega), u 5 (by omega), u 6 (by omega)]
    exact hk
  · rw [u 7 (by omega)]; exact a1
  · rw [u 7 (by omega)]; exact a2
  · rw [u 7 (by omega)] at hi
    rw [u _ (by omega), u _ (by omega)]; exact a3 i hi
  · rw [u 16 (by omega)]; omega
  · rw [u 16 (by omega)] at he
    have := hd e (by omega)
    unfold WFd at this ⊢
    rw [eo e (by omega), es e (by omega), show bKeep B2 e = bKeep B e from u _ (by omega), show bCold B2 e = bCold B e from u _ (by omega), show bPan B2 e = bPan B e from u _ (by omega), show bFst B2 e = bFst B e from u _ (by omega)]
    exact this
  · rw [u 17 (by omega), u 16 (by omega), d16, Int.toNat_natCast, es d d8, c17]; exact hsm
  · rw [u 17 (by omega)] at hs'
    exact WFs_cg (fun j hj => u _ (by omega)) (hs s (by omega))
  · rw [u2, u 16 (by omega), d16, Int.toNat_natCast]
    refine ⟨by omega, by decide, ?_, by decide⟩
    have : 2 ^ 1 ≤ 2 ^ d := Nat.pow_le_pow_right (by decide) (by omega)
    show 1 < 2 ^ d
    omega
  · rw [u3]; omega
-- the same book, its numbers as the machine keeps them
theorem WF_iz {B B' : Nat → Int} (e : ∀ j, -2147483648 ≤ B j ∧ B j < 2147483648 → B' j = B j) (h : WF B) : WF B' := by
  have w17 := wf_17 h
  have w0 := h.1
  have w7 := h.2.1
  have w16 := h.2.2.1
  have wd := h.2.2.2.1
  have ws := h.2.2.2.2.2.1
  have wa := h.2.2.2.2.2.2.1
  have wb := h.2.2.2.2.2.2.2
  have e16 := e 16 (by omega)
  have e17 := e 17 (by omega)
  have e7 := e 7 (by omega)
  have eo : ∀ i : Nat, (i : Int) < B 16 → bOwn B' i = bOwn B i := fun i hi => e _ (by have := (wd i hi).2.2.2.1; unfold bOwn at this; omega)
  have es : ∀ i : Nat, (i : Int) ≤ B 16 → sm (bOwn B') i = sm (bOwn B) i := fun i hi => sm_eq i fun j hj => eo j (by omega)
  have hd256 : (B 202).toNat < 256 := by
    have : 2 ^ (B 16).toNat ≤ 2 ^ 8 := Nat.pow_le_pow_right (by decide) (by omega)
    have e8 : (2 : Nat) ^ 8 = 256 := rfl
    omega
  refine ⟨?_, ⟨?_, ?_, fun i hi => ?_⟩, ?_, fun d hd => ?_, ?_, fun s hs' => ?_, ?_, ?_⟩
  · rw [e 0 (by omega), e 1 (by omega), e 2 (by omega), e 3 (by omega), e 4 (by omega), e 5 (by omega), e 6 (by omega)]
    exact w0
  · rw [e7]; exact w7.1
  · rw [e7]; exact w7.2.1
  · rw [e7] at hi
    have := w7.2.2 i hi
    rw [e _ (by omega), e _ (by omega)]; exact this
  · rw [e16]; exact w16
  · rw [e16] at hd
    have t := wd d hd
    have sb := wf_sm h d (by omega)
    unfold WFd at t ⊢
    have k1 : bKeep B' d = bKeep B d := e _ (by unfold bKeep at t; omega)
    have k2 : bCold B' d = bCold B d := e _ (by unfold bCold at t; omega)
    have k3 : bPan B' d = bPan B d := e _ (by unfold bPan at t; omega)
    have k4 : bFst B' d = bFst B d := e _ (by have := t.2.2.2.2; unfold bFst at this; omega)
    rw [eo d hd, es d (by omega), k1, k2, k3, k4]
    exact t
  · rw [e17, e16, es _ (by omega)]; exact h.2.2.2.2.1
  · rw [e17] at hs'
    have t := ws s hs'
    refine WFs_cg (fun j hj => e _ ?_) t
    unfold WFs kd lg wt sr on tw at t
    have : j = 0 ∨ j = 1 ∨ j = 2 ∨ j = 3 ∨ j = 4 ∨ j = 5 := by omega
    rcases this with rfl | rfl | rfl | rfl | rfl | rfl <;> omega
  · rw [e 202 (by omega), e16]; exact wa
  · rw [e 203 (by omega), e 1 (by omega)]; exact wb
end PUR
