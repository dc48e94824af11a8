/-! ===== what a dish adds to the book ===== -/
theorem WFs_cg {B B' : Nat → Int} {s : Nat} (e : ∀ j, j < 6 → B' (58 + 6 * s + j) = B (58 + 6 * s + j)) (h : WFs B s) : WFs B' s := by
  unfold WFs kd lg wt sr on tw at h ⊢
  rw [e 0 (by omega), e 1 (by omega), e 2 (by omega), e 3 (by omega), e 4 (by omega), e 5 (by omega)]
  exact h
section PUR
variable {tp : Nat → Nat} {n : Nat}
def Jd (d c : Nat) (B0 : Nat → Int) (v0 : Nat) (S : Nat × Nat × (Nat → Int)) : Prop := S.1 = 0 → ∃ v : Nat, v0 ≤ v ∧ v ≤ 3 ∧ S.2.2 17 = ((c + v : Nat) : Int) ∧ S.2.2 (18 + 5 * d + 3) = v ∧ S.2.2 (18 + 5 * d + 4) = c ∧ (0 ≤ S.2.2 (18 + 5 * d + 0) ∧ S.2.2 (18 + 5 * d + 0) ≤ 2) ∧ (0 ≤ S.2.2 (18 + 5 * d + 1) ∧ S.2.2 (18 + 5 * d + 1) ≤ 9) ∧ (0 ≤ S.2.2 (18 + 5 * d + 2) ∧ S.2.2 (18 + 5 * d + 2) ≤ 1) ∧ (∀ x, x ≠ 17 → (x < 18 + 5 * d ∨ 18 + 5 * d + 5 ≤ x) → x < 58 + 6 * c → S.2.2 x = B0 x) ∧ (∀ s, c ≤ s → s < c + v → WFs S.2.2 s)
theorem st_J {d c v0 k : Nat} {B0 : Nat → Int} {S : Nat × Nat × (Nat → Int)} (hd : d < 8) (hk : 1 ≤ k ∧ k ≤ 5) (h : Jd d c B0 v0 S) : Jd d c B0 (v0 + 1) (p_step tp n k d S) := by
  intro y
  have y0 : S.1 = 0 := by
    unfold p_step at y
    split at y
    · exact absurd y (fl_B (by omega))
    · unfold p_s6 at y
      have a := sg_B.2 (st_B.1.1 (st_B.1.1 y))
      exact nx_B.2.1 (s5_B hk a).1
  obtain ⟨v, v1, v2, g17, g3, g4, ga, gb, gc, gx, gw⟩ := h y0
  obtain ⟨_, q1, q2, q3, q4, q5⟩ := step_B hk g17 hd y
  refine ⟨v + 1, by omega, by omega, by omega, by omega, ?_, ?_, ?_, ?_, fun x x1 x2 x3 => ?_, fun s s1 s2 => ?_⟩
  · rw [q4 _ (by omega) (by omega) (by omega)]; exact g4
  · rw [q4 _ (by omega) (by omega) (by omega)]; exact ga
  · rw [q4 _ (by omega) (by omega) (by omega)]; exact gb
  · rw [q4 _ (by omega) (by omega) (by omega)]; exact gc
  · rw [q4 _ (by omega) (by omega) (by omega)]; exact gx x x1 x2 x3
  · rcases Nat.lt_or_ge s (c + v) with q | q
    · exact WFs_cg (fun j hj => q4 _ (by omega) (by omega) (by omega)) (gw s s1 q)
    · have : s = c + v := by omega
      subst this
      exact q5
theorem Jd_w {d c v0 v1 : Nat} {B0 : Nat → Int} {S : Nat × Nat × (Nat → Int)} (hv : v1 ≤ v0) (h : Jd d c B0 v0 S) : Jd d c B0 v1 S := by
  intro y
  obtain ⟨v, a, r⟩ := h y
  exact ⟨v, by omega, r⟩
theorem sl_J {d c v0 : Nat} {B0 : Nat → Int} (hd : d < 8) : ∀ (m : Nat) (S : Nat × Nat × (Nat → Int)), Jd d c B0 v0 S → Jd d c B0 v0 (p_sl tp n d m S) := by
  intro m
  induction m with
  | zero => intro S h; exact h
  | succ m ih =>
    intro S h
    show Jd d c B0 v0 (if S.1 = 0 ∧ kw tp n S.2.1 ≠ 0 then p_sl tp n d m (p_step tp n (kw tp n S.2.1) d S) else S)
    by_cases y : S.1 = 0 ∧ kw tp n S.2.1 ≠ 0
    · rw [if_pos y]
      have := kw_5 (tp := tp) (n := n) (q := S.2.1)
      exact ih _ (Jd_w (by omega) (st_J hd (by omega) h))
    · rw [if_neg y]; exact h
theorem d3_J {d c : Nat} {B0 : Nat → Int} {S : Nat × Nat × (Nat → Int)} (hd : d < 8) (h : Jd d c B0 0 S) : Jd d c B0 1 (p_d3 tp n d S) := by
  unfold p_d3
  have k5 := kw_5 (tp := tp) (n := n) (q := S.2.1)
  by_cases y : S.1 = 0
  · by_cases z : kw tp n S.2.1 = 0
    · rw [if_pos ⟨y, z⟩, fz_sl (fl_B (by omega))]
      exact fun q => absurd q (fl_B (by omega))
    · rw [if_neg (fun q => z q.2)]
      show Jd d c B0 1 (if S.1 = 0 ∧ kw tp n S.2.1 ≠ 0 then p_sl tp n d 3 (p_step tp n (kw tp n S.2.1) d S) else S)
      rw [if_pos ⟨y, z⟩]
      exact sl_J hd 3 _ (st_J hd (by omega) h)
  · rw [if_neg (fun q => y q.1), fz_sl y]
    exact fun q => absurd q y
theorem d2_J {d c : Nat} {S : Nat × Nat × (Nat → Int)} (hd : d < 8) (h17 : S.2.2 17 = c) : Jd d c S.2.2 0 (p_d2 d (p_d1 tp n d S)) := by
  intro w
  unfold p_d2 at w ⊢
  have w1 := st_B.1.1 w
  have w2 := st_B.1.1 w1
  have w3 := sg_B.2 w2
  obtain ⟨w4, a, a1, a2, ea⟩ := nm_B w3
  obtain ⟨w5, b, b1, b2, eb⟩ := nm_B w4
  obtain ⟨w6, f, f1, f2, ef⟩ := nm_B w5
  have e : (p_d1 tp n d S).2.2 = upB (upB (upB S.2.2 (18 + 5 * d + 0) f) (18 + 5 * d + 1) b) (18 + 5 * d + 2) a := by
    unfold p_d1; rw [sg_B.1, ea, eb, ef, nx_B.1]
  rw [st_B.2 w1, st_B.2 w2, e]
  refine ⟨0, by omega, by omega, ?_, ?_, ?_, ?_, ?_, ?_, fun x x1 x2 x3 => ?_, fun s s1 s2 => absurd s2 (by omega)⟩
  · rw [upB_n (by omega), upB_n (by omega), upB_n (by omega), upB_n (by omega), upB_n (by omega)]; exact h17
  · rw [upB_s]; rfl
  · rw [upB_n (by omega), upB_s, upB_n (by omega), upB_n (by omega), upB_n (by omega)]; exact h17
  · rw [upB_n (by omega), upB_n (by omega), upB_n (by omega), upB_n (by omega), upB_s]; omega
  · rw [upB_n (by omega), upB_n (by omega), upB_n (by omega), upB_s]; omega
  · rw [upB_n (by omega), upB_n (by omega), upB_s]; omega
  · rw [upB_n (by omega), upB_n (by omega), upB_n (by omega), upB_n (by omega), upB_n (by omega)]
theorem dish_B {d c : Nat} {S : Nat × Nat × (Nat → Int)} (h16 : S.2.2 16 = d) (h17 : S.2.2 17 = c) (hd : d ≤ 8) (h : (p_dish tp n S).1 = 0) : d < 8 ∧ ∃ X : Nat × Nat × (Nat → Int), X.1 = 0 ∧ Jd d c S.2.2 1 X ∧ (p_dish tp n S).2.2 = upB X.2.2 16 ((d + 1 : Nat) : Int) := by
  unfold p_dish at h ⊢
  by_cases h8 : S.2.2 16 = 8
  · rw [if_pos h8] at h; exact absurd h (fl_B (by omega))
  · rw [if_neg h8] at h ⊢
    rw [h16, Int.toNat_natCast] at h ⊢
    have hd8 : d < 8 := by omega
    have h1 : (p_d3 tp n d (p_d2 d (p_d1 tp n d S))).1 = 0 := st_B.1.1 h
    have J := d3_J (tp := tp) (n := n) hd8 (d2_J (tp := tp) (n := n) hd8 h17)
    refine ⟨hd8, _, h1, J, ?_⟩
    unfold p_d4
    rw [st_B.2 h1]
    obtain ⟨v, _, _, _, _, _, _, _, _, gx, _⟩ := J h1
    rw [gx 16 (by omega) (by omega) (by omega), h16]
    rfl
theorem pd_0 {S : Nat × Nat × (Nat → Int)} (h : (p_pd tp n S).1 = 0) : S.1 = 0 := by
  unfold p_pd at h
  by_cases y : S.1 = 0
  · exact y
  · rw [if_neg y] at h; exact h
theorem pd_d {S : Nat × Nat × (Nat → Int)} (h : (p_pd tp n S).1 = 0) : p_pd tp n S = p_dish tp n S := by
  have y := pd_0 h
  unfold p_pd at h ⊢
  rw [if_pos y] at h ⊢
  by_cases z : iw tp n 2 S.2.1 = true
  · rw [if_pos z]
  · rw [if_neg z] at h; exact absurd h (fl_B (by omega))
theorem pd_7 {d c : Nat} {S : Nat × Nat × (Nat → Int)} (h16 : S.2.2 16 = d) (h17 : S.2.2 17 = c) (hd : d ≤ 8) (h : (p_pd tp n S).1 = 0) : (p_pd tp n S).2.2 7 = S.2.2 7 := by
  have pe := pd_d h
  rw [pe] at h ⊢
  obtain ⟨_, X, x0, J, e⟩ := dish_B h16 h17 hd h
  obtain ⟨v, _, _, _, _, _, _, _, _, gx, _⟩ := J x0
  rw [e, upB_n (by omega), gx 7 (by omega) (by omega) (by omega)]
end PUR
