/-! ===== levels: a step more, a pan more, what lacks first ===== -/
section AD2
variable {T : St} {B : Nat → Int} {s l : Nat} {b la : Int} {f : Nat → Nat → Int}
theorem ads_i {k β : Nat} (h5 : ∀ m, m < 60 → 0 ≤ f 5 m ∧ f 5 m ≤ 9 ∧ 0 ≤ f 6 m ∧ f 6 m ≤ 9) (hk : (k : Int) < la) (hb : (β : Int) + la ≤ 60) :
    ads B s β la f 0 (β + k) = f 0 (β + k) + (if kd B s = 1 then 1 else 0) ∧ ads B s β la f 1 (β + k) = f 1 (β + k) + (if kd B s = 1 ∧ on B s = 1 then 1 else 0) ∧ ads B s β la f 2 (β + k) = f 2 (β + k) + (if kd B s = 2 then 1 else 0) ∧ ads B s β la f 3 (β + k) = f 3 (β + k) + (if sr B s = 2 ∨ (sr B s = 1 ∧ k = 0) then 1 else 0) ∧ ads B s β la f 4 (β + k) = f 4 (β + k) ∧ ads B s β la f 5 (β + k) = (if kd B s = 2 then max (f 5 (β + k)) (on B s) else f 5 (β + k)) ∧ ads B s β la f 6 (β + k) = (if kd B s = 2 then min (f 6 (β + k)) (tw B s) else f 6 (β + k)) := by
  have h := h5 (β + k) (by omega)
  have r : (β : Int) ≤ ((β + k : Nat) : Int) ∧ ((β + k : Nat) : Int) < β + la := by omega
  have r2 : (((β + k : Nat) : Int) = β) ↔ k = 0 := by omega
  unfold ads ub ol oh
  simp only [r, r2, and_true]
  refine ⟨by simp, by simp, by simp, by simp, by simp, ?_, ?_⟩
  · simp only [Nat.reduceLT, if_false, if_true]
    split
    · rfl
    · omega
  · simp only [Nat.reduceLT, Nat.reduceEqDiff, if_false, if_true]
    split
    · rfl
    · omega
theorem s_addStep (hM : MkX T B) (hS : WFs B s) (hs : s < 24) (hl : l ≤ 4) (hb : 0 ≤ b) (hla : 0 ≤ la) (hbl : b + la ≤ 60) (hf : Lv T l f) (h5 : ∀ m, m < 60 → 0 ≤ f 5 m ∧ f 5 m ≤ 9 ∧ 0 ≤ f 6 m ∧ f 6 m ≤ 9) :
    ok_m_addStep T (iz l) (iz s) (iz b) (iz la) ∧ Lv (x_m_addStep T (iz l) (iz s) (iz b) (iz la)) l (ads B s b la f) ∧ ∀ c j, ¬ (60 * l ≤ j ∧ j < 60 * l + 60) → (x_m_addStep T (iz l) (iz s) (iz b) (iz la)).2.2.1 c j = T.2.2.1 c j := by
  refine so_m_addStep (Q := fun U => Lv U l (ads B s b la f) ∧ ∀ c j, ¬ (60 * l ≤ j ∧ j < 60 * l + 60) → U.2.2.1 c j = T.2.2.1 c j) _ _ _ _ ?_
  unfold wp_m_addStep
  refine ⟨oks0 (by omega), ?_⟩
  have e0 := ms0 hM (z := (s : Int)) (by omega)
  rw [Int.toNat_natCast] at e0
  rw [e0]
  obtain ⟨β, rfl⟩ : ∃ β : Nat, b = β := ⟨b.toNat, by omega⟩
  refine wr_m_addStep_11 _ _ _ _ _ (fun v U => ∃ k : Nat, (k : Int) ≤ la ∧ v = iz k ∧ (∀ c j, ¬ (60 * l ≤ j ∧ j < 60 * l + 60) → U.2.2.1 c j = T.2.2.1 c j) ∧ (∀ c j, c < 578 ∨ 585 ≤ c → U.2.2.1 c j = T.2.2.1 c j) ∧ Lv U l (fun w m => if (m : Int) < β + k then ads B s β la f w m else f w m)) (fun v U => 60 - v.toInt.toNat) ?_ _ _ _ ?_ ?_
  · rintro _ U ⟨k, h1, rfl, h2, h3, h4⟩
    by_cases q : (k : Int) < la
    · have hu := h4 (β + k) (by omega)
      simp only [show ¬ ((β + k : Nat) : Int) < β + k by omega, if_false] at hu
      obtain ⟨u0, u1, u2, u3, u4, u5, u6⟩ := hu
      refine b_addStep (f := f) (fun j hj => by rw [h3 575 j (by omega)]; exact hM j hj) hS hs hl q hbl u0 u1 u2 u3 u5 u6 (h5 _ (by omega)) (fun U' a1 a2 b0 b1 b2 b3 b4 b5 b6 => ?_)
      obtain ⟨c0, c1, c2, c3, c4, c5, c6⟩ := ads_i (B := B) (s := s) (k := k) (β := β) h5 q hbl
      refine ⟨⟨k + 1, by omega, rfl, fun c j hj => ?_, fun c j hc => ?_, fun m hm => ?_⟩, ?_⟩
      · rw [a1 c j (by omega)]; exact h2 c j hj
      · rw [a2 c j hc]; exact h3 c j hc
      · by_cases e : m = β + k
        · subst e
          simp only [show ((β + k : Nat) : Int) < β + ((k + 1 : Nat) : Int) by omega, if_true]
          rw [b0, b1, b2, b3, b4, b5, b6, c0, c1, c2, c3, c4, c5, c6, u4]
          exact ⟨rfl, rfl, rfl, rfl, rfl, rfl, rfl⟩
        · have := h4 m hm
          have e2 : ((m : Int) < β + ((k + 1 : Nat) : Int)) = ((m : Int) < β + (k : Int)) := by apply propext; omega
          simp only [e2]
          rw [a1 _ (60 * l + m) (by omega), a1 _ (60 * l + m) (by omega), a1 _ (60 * l + m) (by omega), a1 _ (60 * l + m) (by omega), a1 _ (60 * l + m) (by omega), a1 _ (60 * l + m) (by omega), a1 _ (60 * l + m) (by omega)]
          exact this
      · show 60 - (iz ((k + 1 : Nat) : Int)).toInt.toNat < 60 - (iz k).toInt.toNat
        rw [iz_t (by omega), iz_t (by omega)]
        omega
    · unfold bd_m_addStep_11
      refine ⟨fun c => ⟨Lv_cg (fun w m hw hm => ?_) h4, h2⟩, fun c => absurd c (by rw [iz_le (by omega)]; omega)⟩
      by_cases e : (m : Int) < β + k
      · simp only [e, if_true]
      · simp only [e, if_false]
        exact (ads_o (h5 m hm).1 (h5 m hm).2.2.2 hw (by omega)).symm
  · show 60 - (0 : Int32).toInt.toNat < 1000
    omega
  · refine ⟨0, hla, rfl, fun _ _ _ => rfl, fun _ _ _ => rfl, Lv_cg (fun w m hw hm => ?_) hf⟩
    by_cases e : (m : Int) < β + ((0 : Nat) : Int)
    · simp only [e, if_true]
      exact (ads_o (h5 m hm).1 (h5 m hm).2.2.2 hw (by omega)).symm
    · simp only [e, if_false]
-- a pan more
def adp (b e : Int) (f : Nat → Nat → Int) (w m : Nat) : Int := if w = 4 ∧ b ≤ m ∧ (m : Int) < e then f w m + 1 else f w m
theorem s_addPan {e : Int} (hl : l ≤ 4) (hb : 0 ≤ b) (he : b ≤ e ∧ e ≤ 60) (hf : Lv T l f) :
    ok_m_addPan T (iz l) (iz b) (iz e) ∧ Lv (x_m_addPan T (iz l) (iz b) (iz e)) l (adp b e f) ∧ ∀ c j, ¬ (60 * l ≤ j ∧ j < 60 * l + 60) → (x_m_addPan T (iz l) (iz b) (iz e)).2.2.1 c j = T.2.2.1 c j := by
  refine so_m_addPan (Q := fun U => Lv U l (adp b e f) ∧ ∀ c j, ¬ (60 * l ≤ j ∧ j < 60 * l + 60) → U.2.2.1 c j = T.2.2.1 c j) _ _ _ ?_
  unfold wp_m_addPan
  obtain ⟨β, rfl⟩ : ∃ β : Nat, b = β := ⟨b.toNat, by omega⟩
  refine wr_m_addPan_8 _ _ _ (fun v U => ∃ k : Nat, ((β + k : Nat) : Int) ≤ e ∧ v = iz ((60 * l + (β + k) : Nat) : Int) ∧ (∀ c j, ¬ (60 * l ≤ j ∧ j < 60 * l + 60) → U.2.2.1 c j = T.2.2.1 c j) ∧ (∀ c j, c ≠ 582 → U.2.2.1 c j = T.2.2.1 c j) ∧ ∀ m, m < 60 → U.2.2.1 582 (60 * l + m) = iz (if β ≤ m ∧ m < β + k then f 4 m + 1 else f 4 m)) (fun v U => 60 * l + 60 - v.toInt.toNat) ?_ _ _ _ ?_ ?_
  · rintro _ U ⟨k, h1, rfl, h2, h3, h4⟩
    unfold bd_m_addPan_8
    simp (disch := omega) only [le0, lt0, ge0, gt0, eq0, sub0, add0, iz_le, iz_lt, iz_eq, iz_in, iz_n, iz_add, iz_sub, iz_mul, iz_neg, lz_w, lg_le0, lg_gt0, m_in, iz_t, Int.toNat_natCast, Int.reduceToNat, z_1, z_60]
    refine ⟨fun c => ⟨fun m hm => ?_, h2⟩, fun c => ⟨by omega, ⟨k + 1, by omega, iz_inj (by omega), fun c j hj => ?_, fun c j hc => ?_, fun m hm => ?_⟩, by omega⟩⟩
    · have := hf m hm
      rw [h3 579 _ (by omega), h3 578 _ (by omega), h3 580 _ (by omega), h3 581 _ (by omega), h3 583 _ (by omega), h3 584 _ (by omega), h4 m hm]
      unfold adp
      simp only [show ¬ (0 : Nat) = 4 by omega, show ¬ (1 : Nat) = 4 by omega, show ¬ (2 : Nat) = 4 by omega, show ¬ (3 : Nat) = 4 by omega, show ¬ (5 : Nat) = 4 by omega, show ¬ (6 : Nat) = 4 by omega, false_and, if_false, true_and]
      refine ⟨this.1, this.2.1, this.2.2.1, this.2.2.2.1, ?_, this.2.2.2.2.2.1, this.2.2.2.2.2.2⟩
      by_cases q : β ≤ m ∧ m < β + k
      · rw [if_pos q, if_pos (by omega)]
      · rw [if_neg q, if_neg (by omega)]
    · rw [gA_A, if_neg (by omega)]; exact h2 c j hj
    · rw [gA_A, if_neg (fun z => hc z.1)]; exact h3 c j hc
    · rw [gA_A]
      by_cases q : m = β + k
      · subst q
        rw [if_pos ⟨rfl, rfl⟩, h4 _ (by omega), if_neg (by omega), if_pos (by omega), iz_add]
      · rw [if_neg (by omega), h4 m hm]
        by_cases q2 : β ≤ m ∧ m < β + k
        · rw [if_pos q2, if_pos (by omega)]
        · rw [if_neg q2, if_neg (by omega)]
  · simp (disch := omega) only [le0, lt0, ge0, gt0, eq0, sub0, add0, iz_le, iz_lt, iz_eq, iz_in, iz_n, iz_add, iz_sub, iz_mul, iz_neg, lz_w, lg_le0, lg_gt0, m_in, iz_t, Int.toNat_natCast, Int.reduceToNat, z_60]
    omega
  · refine ⟨0, by omega, ?_, fun _ _ _ => rfl, fun _ _ _ => rfl, fun m hm => ?_⟩
    · simp (disch := omega) only [le0, lt0, ge0, gt0, eq0, sub0, add0, iz_le, iz_lt, iz_eq, iz_in, iz_n, iz_add, iz_sub, iz_mul, iz_neg, lz_w, lg_le0, lg_gt0, m_in, iz_t, Int.toNat_natCast, Int.reduceToNat, z_60]
      omega
    · rw [if_neg (by omega)]; exact (hf m hm).2.2.2.2.1
end AD2
-- what lacks first
def lkw (B : Nat → Int) (h o : Int) (f : Nat → Nat → Int) (m : Nat) : Int :=
  if gv B h o 1 m < f 1 m then 1 else if gv B h o 0 m < f 0 m then 2 else if gv B h o 2 m < f 2 m then 3 else if hM (B 3) (f 6) m < hL (B 4) (f 5) m then 4 else if gv B h o 3 m < f 3 m then 5 else if gv B h o 4 m < f 4 m then 6 else 0
def lkr (W : Nat → Int) : Nat → Nat → Int
  | 0, _ => -1000000
  | k + 1, m => if 0 < W m then 10 * (m : Int) + W m else lkr W k (m + 1)
theorem lkw_b {B : Nat → Int} {h o : Int} {f : Nat → Nat → Int} {m : Nat} : 0 ≤ lkw B h o f m ∧ lkw B h o f m ≤ 6 := by
  unfold lkw
  repeat' split
  all_goals omega
theorem lkr_n {W : Nat → Int} (h : ∀ m, 0 ≤ W m) : ∀ k m, (lkr W k m = -1000000 ↔ ∀ j, m ≤ j → j < m + k → W j = 0) := by
  intro k
  induction k with
  | zero => intro m; exact ⟨fun _ j h1 h2 => by omega, fun _ => rfl⟩
  | succ k ih =>
    intro m
    show (if 0 < W m then _ else _) = _ ↔ _
    have := h m
    by_cases q : 0 < W m
    · rw [if_pos q]
      exact ⟨fun e => by omega, fun e => by have := e m (by omega) (by omega); omega⟩
    · rw [if_neg q, ih (m + 1)]
      constructor
      · intro e j h1 h2
        by_cases q2 : j = m
        · subst q2; omega
        · exact e j (by omega) (by omega)
      · intro e j h1 h2; exact e j (by omega) (by omega)
theorem lkr_b {W : Nat → Int} (h : ∀ m, 0 ≤ W m ∧ W m ≤ 6) : ∀ k m, lkr W k m = -1000000 ∨ (0 < lkr W k m ∧ lkr W k m < 10 * (m + k : Nat) + 7) := by
  intro k
  induction k with
  | zero => intro m; exact Or.inl rfl
  | succ k ih =>
    intro m
    show (if 0 < W m then _ else _) = _ ∨ (0 < (if 0 < W m then _ else _) ∧ (if 0 < W m then _ else _) < _)
    have := h m
    by_cases q : 0 < W m
    · rw [if_pos q]; exact Or.inr (by omega)
    · rw [if_neg q]
      rcases ih (m + 1) with e | e
      · exact Or.inl e
      · exact Or.inr (by omega)
theorem hL_b {c : Int} {lo : Nat → Int} (hc : 0 ≤ c ∧ c ≤ 9) : ∀ m, (∀ k, k ≤ m → 0 ≤ lo k ∧ lo k ≤ 9) → 0 ≤ hL c lo m ∧ hL c lo m ≤ 9 := by
  intro m
  induction m with
  | zero => intro h; have := h 0 (by omega); show 0 ≤ max (lo 0) (0 - c) ∧ max (lo 0) (0 - c) ≤ 9; omega
  | succ m ih => intro h; have h1 := ih fun k hk => h k (by omega); have := h (m + 1) (by omega); show 0 ≤ max (lo (m + 1)) (hL c lo m - c) ∧ max (lo (m + 1)) (hL c lo m - c) ≤ 9; omega
theorem hM_b {c : Int} {hi : Nat → Int} (hc : 0 ≤ c ∧ c ≤ 9) : ∀ m, (∀ k, k ≤ m → 0 ≤ hi k ∧ hi k ≤ 9) → 0 ≤ hM c hi m ∧ hM c hi m ≤ 9 := by
  intro m
  induction m with
  | zero => intro h; have := h 0 (by omega); show 0 ≤ min (hi 0) (0 + c) ∧ min (hi 0) (0 + c) ≤ 9; omega
  | succ m ih => intro h; have h1 := ih fun k hk => h k (by omega); have := h (m + 1) (by omega); show 0 ≤ min (hi (m + 1)) (hM c hi m + c) ∧ min (hi (m + 1)) (hM c hi m + c) ≤ 9; omega
