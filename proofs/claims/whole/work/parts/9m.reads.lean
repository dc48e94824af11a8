/-! ===== what is read, as steps on (fault, from where the token was sought, the book) ===== -/
def a_nx (tp : Nat → Nat) (n : Nat) (S : Nat × Nat × (Nat → Int)) : Nat × Nat × (Nat → Int) := if S.1 = 0 then (0, tbe tp n S.2.1, S.2.2) else S
def a_sg (tp : Nat → Nat) (n : Nat) (S : Nat × Nat × (Nat → Int)) : Nat × Nat × (Nat → Int) := if S.1 = 0 then (if tso tp n S.2.1 = 3 then (0, tbe tp n S.2.1, S.2.2) else (1, S.2.1, S.2.2)) else S
def a_wd (tp : Nat → Nat) (n w : Nat) (S : Nat × Nat × (Nat → Int)) : Nat × Nat × (Nat → Int) := if S.1 = 0 then (if iw tp n w S.2.1 = true then (0, tbe tp n S.2.1, S.2.2) else (1, S.2.1, S.2.2)) else S
def a_nm (tp : Nat → Nat) (n j : Nat) (lo hi : Int) (S : Nat × Nat × (Nat → Int)) : Nat × Nat × (Nat → Int) := if S.1 = 0 then (if tso tp n S.2.1 = 2 then (if lo ≤ tva tp n S.2.1 ∧ tva tp n S.2.1 ≤ hi then (0, tbe tp n S.2.1, upB S.2.2 j (tva tp n S.2.1)) else (2, S.2.1, S.2.2)) else (1, S.2.1, S.2.2)) else S
def a_fl (k : Nat) (S : Nat × Nat × (Nat → Int)) : Nat × Nat × (Nat → Int) := if S.1 = 0 then (k, S.2.1, S.2.2) else S
def a_st (j : Nat) (v : Int) (S : Nat × Nat × (Nat → Int)) : Nat × Nat × (Nat → Int) := if S.1 = 0 then (0, S.2.1, upB S.2.2 j v) else S
def aj (j : Nat) : Nat := if j < 7 then 1 else if j < 16 then 2 + (j - 8) % 2 else if j < 58 then 4 + (j - 18) % 5 else 9 + (j - 58) % 6
def ij (j : Nat) : Nat := if j < 7 then j else if j < 16 then (j - 8) / 2 else if j < 58 then (j - 18) / 5 else (j - 58) / 6
def ofj (j : Nat) : Int := if 58 ≤ j ∧ (j - 58) % 6 = 0 then 1 else 0
def okj (j : Nat) : Prop := j < 7 ∨ (8 ≤ j ∧ j < 16) ∨ (18 ≤ j ∧ j < 58) ∨ (58 ≤ j ∧ j < 202)
theorem aj_u {x y : Nat} (hx : okj x) (hy : okj y) (h1 : aj x = aj y) (h2 : ij x = ij y) : x = y := by
  unfold okj at hx hy
  unfold aj at h1
  unfold ij at h2
  rcases hx with hx | hx | hx | hx <;> rcases hy with hy | hy | hy | hy
  · simp (disch := omega) only [if_pos, if_neg] at h1 h2; omega
  · simp (disch := omega) only [if_pos, if_neg] at h1 h2; omega
  · simp (disch := omega) only [if_pos, if_neg] at h1 h2; omega
  · simp (disch := omega) only [if_pos, if_neg] at h1 h2; omega
  · simp (disch := omega) only [if_pos, if_neg] at h1 h2; omega
  · simp (disch := omega) only [if_pos, if_neg] at h1 h2; omega
  · simp (disch := omega) only [if_pos, if_neg] at h1 h2; omega
  · simp (disch := omega) only [if_pos, if_neg] at h1 h2; omega
  · simp (disch := omega) only [if_pos, if_neg] at h1 h2; omega
  · simp (disch := omega) only [if_pos, if_neg] at h1 h2; omega
  · simp (disch := omega) only [if_pos, if_neg] at h1 h2; omega
  · simp (disch := omega) only [if_pos, if_neg] at h1 h2; omega
  · simp (disch := omega) only [if_pos, if_neg] at h1 h2; omega
  · simp (disch := omega) only [if_pos, if_neg] at h1 h2; omega
  · simp (disch := omega) only [if_pos, if_neg] at h1 h2; omega
  · simp (disch := omega) only [if_pos, if_neg] at h1 h2; omega
theorem aj_b {x : Nat} : 1 ≤ aj x ∧ aj x ≤ 14 := by
  unfold aj
  split
  · omega
  · split
    · omega
    · split <;> omega
section PRM
variable {tp : Nat → Nat} {n : Nat}
theorem va_b (hn : n ≤ 600) {q : Nat} (hq : q ≤ n) (h : tso tp n q = 2) : 0 ≤ tva tp n q ∧ tva tp n q ≤ 99 := by
  have a : q ≤ tpl tp n q ∧ tpl tp n q ≤ n := ⟨(feS hn hq).1, (feS hn hq).2.1⟩
  have b := feD (tp := tp) hn a.2
  unfold tso at h
  unfold tva tbe
  by_cases k1 : n ≤ tpl tp n q
  · rw [if_pos k1] at h; omega
  · rw [if_neg k1] at h ⊢
    by_cases k2 : tL tp n (tpl tp n q) = true
    · rw [if_pos k2] at h; omega
    · rw [if_neg k2] at h ⊢
      by_cases k3 : tD tp n (tpl tp n q) = true
      · rw [if_pos k3] at h ⊢
        by_cases k4 : fe (tD tp n) (tpl tp n q) - tpl tp n q ≤ 2
        · have d := b.2.2.1
          have e : fe (tD tp n) (tpl tp n q) - tpl tp n q = 0 ∨ fe (tD tp n) (tpl tp n q) - tpl tp n q = 1 ∨ fe (tD tp n) (tpl tp n q) - tpl tp n q = 2 := by omega
          rcases e with e | e | e
          · rw [e]; show (0 : Int) ≤ 0 ∧ (0 : Int) ≤ 99; omega
          · rw [e]
            have d0 := tD_t.1 (d (tpl tp n q + 0) (by omega) (by omega))
            show 0 ≤ 10 * (0 : Int) + (tp (tpl tp n q + 0) : Int) - 48 ∧ 10 * (0 : Int) + (tp (tpl tp n q + 0) : Int) - 48 ≤ 99
            omega
          · rw [e]
            have d0 := tD_t.1 (d (tpl tp n q + 0) (by omega) (by omega))
            have d1 := tD_t.1 (d (tpl tp n q + 1) (by omega) (by omega))
            show 0 ≤ 10 * (10 * (0 : Int) + (tp (tpl tp n q + 0) : Int) - 48) + (tp (tpl tp n q + 1) : Int) - 48 ∧ 10 * (10 * (0 : Int) + (tp (tpl tp n q + 0) : Int) - 48) + (tp (tpl tp n q + 1) : Int) - 48 ≤ 99
            omega
        · rw [if_neg k4] at h; omega
      · rw [if_neg k3] at h
        split at h <;> omega
-- the class, at a state of what is read
def CR (tp : Nat → Nat) (n b c1 c4 c10 : Nat) (K : Nat → Prop) (U : St) (S : Nat × Nat × (Nat → Int)) : Prop :=
  U.1 13 2 = iz S.1 ∧ S.1 < 10 ∧ tkX tp n S.2.1 U ∧ (U.1 b 1 = iz c1 ∧ U.1 b 4 = iz c4 ∧ U.1 b 10 = iz c10 ∧ U.1 b 17 = 1 ∧ U.1 b 18 = 60) ∧ (S.1 = 0 → ∀ j, K j → okj j ∧ U.2.2.1 (b + aj j) (ij j) = iz (S.2.2 j - ofj j))
variable {b c1 c4 c10 : Nat} {K K2 : Nat → Prop} {U V : St} {S : Nat × Nat × (Nat → Int)}
theorem CR_0 (h : CR tp n b c1 c4 c10 K U S) : U.1 13 2 = 0 ↔ S.1 = 0 := by
  have := h.2.1
  rw [h.1, eq0 (by omega)]; omega
theorem tkX_fr {q : Nat} {W : Nat → Prop} (f : Fr W U V) (nw : ∀ c, (c = 14 ∨ (11301 ≤ c ∧ c < 11307 ∧ c ≠ 11302)) → ¬ W c) (h : tkX tp n q U) : tkX tp n q V := by
  obtain ⟨⟨h0, h1, h2⟩, hq, u3, u4, u5, u6⟩ := h
  refine ⟨⟨h0, by rw [q_F f (nw _ (by omega))]; exact h1, fun j hj => by rw [q_A f (nw _ (by omega))]; exact h2 j hj⟩, hq, ?_, ?_, ?_, fun y => ?_⟩
  · rw [q_F f (nw _ (by omega))]; exact u3
  · rw [q_F f (nw _ (by omega))]; exact u4
  · rw [q_F f (nw _ (by omega))]; exact u5
  · rw [q_F f (nw _ (by omega))]; exact u6 y
theorem CR_w (h : CR tp n b c1 c4 c10 K U S) (hK : ∀ x, K2 x → K x) : CR tp n b c1 c4 c10 K2 U S := ⟨h.1, h.2.1, h.2.2.1, h.2.2.2.1, fun y j hj => h.2.2.2.2 y j (hK j hj)⟩
theorem CR_adv (h : CR tp n b c1 c4 c10 K U S) (hb : b = 46 ∨ b = 61) : ok_rd_advance U ∧ (S.1 = 0 → CR tp n b c1 c4 c10 K (x_rd_advance U) (a_nx tp n S)) := by
  obtain ⟨h1, h2, h3, h4, h5⟩ := h
  obtain ⟨hU, hq, u3, u4, u5, u6⟩ := h3
  have tb := t_be (tp := tp) hU.1 hq
  obtain ⟨ok, x1, x2, x3, x4⟩ := s_adv hU tb.2.2.2 u4
  have f := fr_rd_advance ok
  have nf : ∀ c k, ¬ (c = 13 ∧ 3 ≤ k ∧ k < 7) → k < 100 → (x_rd_advance U).1 c k = U.1 c k := fun c k y z => q_F f (by unfold W_rd_advance; omega)
  have na : ∀ c k, c < 10000 → (x_rd_advance U).2.2.1 c k = U.2.2.1 c k := fun c k y => q_A f (by unfold W_rd_advance; omega)
  refine ⟨ok, fun y => ?_⟩
  unfold a_nx
  rw [if_pos y]
  refine ⟨?_, by show 0 < 10; omega, ⟨⟨hU.1, ?_, fun j hj => ?_⟩, tb.2.2.2, x1, x2, x3, x4⟩, ⟨?_, ?_, ?_, ?_, ?_⟩, fun _ j hj => ?_⟩
  · rw [nf _ _ (by omega) (by omega), h1, y]
  · rw [nf _ _ (by omega) (by omega)]; exact hU.2.1
  · rw [na _ _ (by omega)]; exact hU.2.2 j hj
  · rw [nf _ _ (by omega) (by omega)]; exact h4.1
  · rw [nf _ _ (by omega) (by omega)]; exact h4.2.1
  · rw [nf _ _ (by omega) (by omega)]; exact h4.2.2.1
  · rw [nf _ _ (by omega) (by omega)]; exact h4.2.2.2.1
  · rw [nf _ _ (by omega) (by omega)]; exact h4.2.2.2.2
  · have := aj_b (x := j)
    rw [na _ _ (by omega)]; exact h5 y j hj
theorem CR_flt {k : Nat} (h : CR tp n b c1 c4 c10 K U S) (hb : b = 46 ∨ b = 61) (y : S.1 = 0) (hk : 1 ≤ k ∧ k < 10) : CR tp n b c1 c4 c10 K (sF U 13 2 (iz k)) (k, S.2.1, S.2.2) := by
  obtain ⟨h1, h2, h3, h4, h5⟩ := h
  have f : Fr _ U (sF U 13 2 (iz k)) := fr_1
  refine ⟨by rw [gF_F, if_pos ⟨rfl, rfl⟩], hk.2, tkX_fr f (fun c hc hw => by omega) h3, ⟨?_, ?_, ?_, ?_, ?_⟩, fun z => absurd z (by show ¬ k = 0; omega)⟩
  · rw [gF_F, if_neg (by omega)]; exact h4.1
  · rw [gF_F, if_neg (by omega)]; exact h4.2.1
  · rw [gF_F, if_neg (by omega)]; exact h4.2.2.1
  · rw [gF_F, if_neg (by omega)]; exact h4.2.2.2.1
  · rw [gF_F, if_neg (by omega)]; exact h4.2.2.2.2
theorem CR_fl {k : Nat} (h : CR tp n b c1 c4 c10 K U S) (hb : b = 46 ∨ b = 61) (y : S.1 = 0) (hk : 1 ≤ k ∧ k < 10) : CR tp n b c1 c4 c10 K (sF U 13 2 (iz k)) (a_fl k S) := by
  unfold a_fl; rw [if_pos y]; exact CR_flt h hb y hk
theorem CR_sg (h : CR tp n b c1 c4 c10 K U S) (hb : b = 46 ∨ b = 61) : ok_rd_takeSign U ∧ CR tp n b c1 c4 c10 K (x_rd_takeSign U) (a_sg tp n S) := by
  refine so_rd_takeSign (Q := fun V => CR tp n b c1 c4 c10 K V (a_sg tp n S)) ?_
  obtain ⟨ok, ha⟩ := CR_adv h hb
  have t4 := tso_4 (tp := tp) (n := n) (q := S.2.1)
  unfold wp_rd_takeSign
  rw [CR_0 h, h.2.2.1.2.2.2.2.1, z_3, iz_eq (by omega)]
  unfold a_sg
  unfold a_nx at ha
  refine ⟨fun y => ⟨fun z => ⟨ok, ?_⟩, fun z => ?_⟩, fun y => ?_⟩
  · have := ha y
    rw [if_pos y] at this
    rw [if_pos y, if_pos (by omega)]; exact this
  · rw [if_pos y, if_neg (by omega)]; exact CR_flt (k := 1) h hb y (by omega)
  · rw [if_neg y]; exact h
theorem CR_wd {w : Nat} (h : CR tp n b c1 c4 c10 K U S) (hb : b = 46 ∨ b = 61) (hw : w < 8) : ok_rd_takeWord U w ∧ CR tp n b c1 c4 c10 K (x_rd_takeWord U w) (a_wd tp n w S) := by
  refine so_rd_takeWord (Q := fun V => CR tp n b c1 c4 c10 K V (a_wd tp n w S)) _ ?_
  obtain ⟨ok, ha⟩ := CR_adv h hb
  obtain ⟨okw, ew⟩ := s_isW (w := w) h.2.2.1 hw
  unfold wp_rd_takeWord
  rw [CR_0 h, ew]
  unfold a_wd
  unfold a_nx at ha
  refine ⟨fun y => ⟨okw, fun z => ?_, fun z => ⟨ok, ?_⟩⟩, fun y => ?_⟩
  · rw [if_pos y, if_neg z]; exact CR_flt (k := 1) h hb y (by omega)
  · have := ha y
    rw [if_pos y] at this
    rw [if_pos y, if_pos (Classical.byContradiction z)]; exact this
  · rw [if_neg y]; exact h
theorem CR_up {j : Nat} {v : Int} {q : Nat} (h : CR tp n b c1 c4 c10 K U (0, q, S.2.2)) (hK : ∀ x, K2 x → K x ∧ x ≠ j) : CR tp n b c1 c4 c10 K2 U (0, q, upB S.2.2 j v) :=
  ⟨h.1, h.2.1, h.2.2.1, h.2.2.2.1, fun _ x hx => by rw [show ((0, q, upB S.2.2 j v) : Nat × Nat × (Nat → Int)).2.2 x = S.2.2 x from upB_n (hK x hx).2]; exact h.2.2.2.2 rfl x (hK x hx).1⟩
theorem CR_any {q f : Nat} {B : Nat → Int} (h : CR tp n b c1 c4 c10 K U (f, q, B)) (hf : f ≠ 0) : CR tp n b c1 c4 c10 K2 U (f, q, B) := ⟨h.1, h.2.1, h.2.2.1, h.2.2.2.1, fun y => absurd y hf⟩
theorem CR_num {j : Nat} {lo hi : Int32} {l e : Int} (h : CR tp n b c1 c4 c10 K U S) (hb : b = 46 ∨ b = 61) (hl : S.1 = 0 → lo = iz l ∧ -1000000 ≤ l ∧ l ≤ 1000000) (he : hi = iz e ∧ -1000000 ≤ e ∧ e ≤ 1000000) (hK : ∀ x, K2 x → K x ∧ x ≠ j) : ok_rd_takeNumber U lo hi ∧ (fun r : Int32 × St => CR tp n b c1 c4 c10 K2 r.2 (a_nm tp n j l e S) ∧ ((a_nm tp n j l e S).1 = 0 → r.1 = iz ((a_nm tp n j l e S).2.2 j))) (x_rd_takeNumber U lo hi) := by
  refine so_rd_takeNumber (Q := fun r : Int32 × St => CR tp n b c1 c4 c10 K2 r.2 (a_nm tp n j l e S) ∧ ((a_nm tp n j l e S).1 = 0 → r.1 = iz ((a_nm tp n j l e S).2.2 j))) _ _ ?_
  obtain ⟨ok, ha⟩ := CR_adv h hb
  have t4 := tso_4 (tp := tp) (n := n) (q := S.2.1)
  have tk := h.2.2.1
  have h2 := h.2.1
  unfold wp_rd_takeNumber
  rw [CR_0 h, tk.2.2.2.2.1, z_2, iz_eq (by omega)]
  unfold a_nm
  unfold a_nx at ha
  refine ⟨fun y => ⟨fun z => ?_, fun z => ?_⟩, fun y => ?_⟩
  · have z' : tso tp n S.2.1 = 2 := by omega
    have vb := va_b tk.1.1 tk.2.1 z'
    have hl' := hl y
    rw [tk.2.2.2.2.2 z', hl'.1, he.1, iz_lt (by omega), iz_le (by omega)]
    simp only [if_pos y, if_pos z']
    have bad : ¬ (l ≤ tva tp n S.2.1 ∧ tva tp n S.2.1 ≤ e) → CR tp n b c1 c4 c10 K2 (sF U 13 2 (iz 2)) (if l ≤ tva tp n S.2.1 ∧ tva tp n S.2.1 ≤ e then (0, tbe tp n S.2.1, upB S.2.2 j (tva tp n S.2.1)) else (2, S.2.1, S.2.2)) ∧ ((if l ≤ tva tp n S.2.1 ∧ tva tp n S.2.1 ≤ e then (0, tbe tp n S.2.1, upB S.2.2 j (tva tp n S.2.1)) else (2, S.2.1, S.2.2) : Nat × Nat × (Nat → Int)).1 = 0 → (0 : Int32) = iz ((if l ≤ tva tp n S.2.1 ∧ tva tp n S.2.1 ≤ e then (0, tbe tp n S.2.1, upB S.2.2 j (tva tp n S.2.1)) else (2, S.2.1, S.2.2) : Nat × Nat × (Nat → Int)).2.2 j)) := fun w => by
      rw [if_neg w]
      exact ⟨CR_any (CR_flt (k := 2) h hb y (by omega)) (by decide), fun u => absurd (show (2 : Nat) = 0 from u) (by decide)⟩
    refine ⟨fun z1 => bad (by omega), fun z1 => ⟨fun z2 => ⟨ok, ?_⟩, fun z2 => bad (by omega)⟩⟩
    have hw : l ≤ tva tp n S.2.1 ∧ tva tp n S.2.1 ≤ e := by omega
    simp only [if_pos hw]
    have := ha y
    rw [if_pos y] at this
    exact ⟨CR_up this hK, fun _ => by rw [upB_s]⟩
  · have z' : ¬ tso tp n S.2.1 = 2 := by omega
    simp only [if_pos y, if_neg z']
    exact ⟨CR_any (CR_flt (k := 1) h hb y (by omega)) (by decide), fun u => absurd u (by decide)⟩
  · simp only [if_neg y]
    exact ⟨CR_any h y, fun u => absurd u y⟩
theorem CR_set {j a i : Nat} {v : Int32} (h : CR tp n b c1 c4 c10 K U S) (hb : b = 46 ∨ b = 61) (hj : okj j) (ha : a = b + aj j) (hi : i = ij j) (hv : S.1 = 0 → v = iz (S.2.2 j - ofj j)) (hK : ∀ x, K2 x → x = j ∨ K x) : CR tp n b c1 c4 c10 K2 (sA U a i v) S := by
  obtain ⟨h1, h2, h3, h4, h5⟩ := h
  have ab := aj_b (x := j)
  refine ⟨h1, h2, tkX_fr fr_1A (fun c hc hw => by omega) h3, h4, fun y x hx => ?_⟩
  rw [gA_A]
  by_cases e : x = j
  · subst e
    rw [if_pos ⟨ha.symm, hi.symm⟩, hv y]
    exact ⟨hj, rfl⟩
  · have k : K x := (hK x hx).resolve_left e
    obtain ⟨g1, g2⟩ := h5 y x k
    rw [if_neg (fun z => e (aj_u g1 hj (by omega) (by omega)))]
    exact ⟨g1, g2⟩
theorem CR_st {j : Nat} {v : Int} (h : CR tp n b c1 c4 c10 K U S) (hK : ∀ x, K2 x → K x ∧ x ≠ j) : CR tp n b c1 c4 c10 K2 U (a_st j v S) := by
  unfold a_st
  by_cases y : S.1 = 0
  · rw [if_pos y]
    obtain ⟨f, q, B⟩ := S
    have y' : f = 0 := y
    subst y'
    exact CR_up (S := (0, q, B)) h hK
  · rw [if_neg y]
    obtain ⟨f, q, B⟩ := S
    exact CR_any h y
end PRM
