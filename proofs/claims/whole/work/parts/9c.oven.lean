/-! ===== the class's oven, and what it judges ===== -/
theorem lv_5 {B : Nat → Int} {D : Nat} {b l : Nat → Nat → Int} {i d k m : Nat} (h : At B D i d k) : lvN B D b l (i + 1) 5 m = max (lvN B D b l i 5 m) (ol B (nF B d + k) (b d k) (l d k) m) := (lv_ads (w := 5) h (by omega)).symm
theorem lv_6 {B : Nat → Int} {D : Nat} {b l : Nat → Nat → Int} {i d k m : Nat} (h : At B D i d k) : lvN B D b l (i + 1) 6 m = min (lvN B D b l i 6 m) (oh B (nF B d + k) (b d k) (l d k) m) := (lv_ads (w := 6) h (by omega)).symm
def OwQ (T : St) (B : Nat → Int) (D : Nat) (b l : Nat → Nat → Int) (U : St) : Prop := ∀ m, m < 60 → U.2.2.1 529 m = iz (tlo B D b l 8 m) ∧ U.2.2.1 530 m = iz (thi B D b l 8 m)
theorem s_want {T : St} {r bk : Nat} {B : Nat → Int} {D : Nat} {b l : Nat → Nat → Int} (hr : sh r = .inr 7) (hr2 : 557 ≤ r) (hb : sh bk = .inr 1) (hb2 : bk + 14 < 76) (hP : BkP T bk B) (hW : WF B) (hD2 : D < 2 ^ (B 16).toNat) (hn : sn D 8 ≤ 4) (hR : RwX T r B D b l) (hs : ∀ d, d < 8 → D.testBit d = true → sq B d (b d) (l d)) : ok_ov_want T bk r ∧ OwQ T B D b l (x_ov_want T bk r) := by
  have h12 : ps B D 8 ≤ 12 := by have := ps_3 hW hD2 8; omega
  have hD := mem_lt hW hD2
  have al1 : aln 529 = 60 := by decide
  have al2 : aln 530 = 60 := by decide
  refine so_ov_want (Q := OwQ T B D b l) _ _ ?_
  unfold wp_ov_want
  have fr0 : Fr (fun c => c = 529 ∨ c = 530) T (x_fillI (x_fillI T 529 0) 530 9) := fr_sAr (fr_sAr fr_rfl (by omega)) (by omega)
  have f0 : ∀ m, m < 60 → (x_fillI (x_fillI T 529 0) 530 9).2.2.1 529 m = 0 ∧ (x_fillI (x_fillI T 529 0) 530 9).2.2.1 530 m = 9 := fun m hm => by
    unfold x_fillI
    rw [gAr_A, if_neg (by omega), gAr_A, if_pos rfl, gAr_A, if_pos rfl, al1, al2, if_pos hm, if_pos hm]
    exact ⟨rfl, rfl⟩
  refine ⟨by unfold ok_fillI; decide, by unfold ok_fillI; decide, ?_⟩
  generalize x_fillI (x_fillI T 529 0) 530 9 = S at *
  refine wr_ov_want_19 _ _ (fun v U => ∃ i : Nat, i ≤ ps B D 8 ∧ v = iz i ∧ Fr (fun c => c = 529 ∨ c = 530) T U ∧ ∀ m, m < 60 → U.2.2.1 529 m = iz (lvN B D b l i 5 m) ∧ U.2.2.1 530 m = iz (lvN B D b l i 6 m)) (fun v U => 12 - v.toInt.toNat) ?_ _ _ _ (by show 12 - (0 : Int32).toInt.toNat < 1000; omega) ⟨0, Nat.zero_le _, rfl, fr0, fun m hm => f0 m hm⟩
  rintro _ U ⟨i, hi, rfl, u1, u2⟩
  have hR1 : RwX U r B D b l := RwX_fr u1 (fun c hc hw => by omega) hR
  have hP1 : BkP U bk B := BkP_fr hP (q_F u1 (by omega)) (fun y z h1 h2 => q_A u1 (by omega))
  unfold bd_ov_want_19
  rw [hR1.2.1, iz_le (by omega)]
  refine ⟨hr, fun q => ?_, fun q => ?_⟩
  · have e : i = ps B D 8 := by omega
    subst e
    intro m hm
    have := u2 m hm
    rw [lv_end hW hD2 (by omega), lv_end hW hD2 (by omega)] at this
    exact this
  · obtain ⟨d, k, ha⟩ := At_ex (B := B) (D := D) (i := i) (by omega)
    have hdB := hD d ha.2.1
    obtain ⟨fk1, fk2⟩ := wf_fk hW hdB ha.2.2.1
    obtain ⟨b1, b2, b3⟩ := (hs d ha.1 ha.2.1).1 k ha.2.2.1
    obtain ⟨x3, x4, x5, x6⟩ := hR1.2.2.2 i d k ha
    obtain ⟨p9, _, _, _, p13, p14⟩ := hP1.2.2 (nF B d + k) fk1
    have ws := wf_s hW hdB ha.2.2.1
    have w1 := ws.1
    have w6 := ws.2.2.2.2.2.1
    have nx : iz (i : Int) + 1 = iz ((i + 1 : Nat) : Int) := by rw [z_1, iz_add]; exact iz_inj (by omega)
    have ms : 12 - (iz ((i + 1 : Nat) : Int)).toInt.toNat < 12 - (iz (i : Int)).toInt.toNat := by rw [iz_t (by omega), iz_t (by omega)]; omega
    have lvb : ∀ m, _ := fun m => (lv_b (b := b) (l := l) (m := m) hW hD2 hi).2
    rw [ix_nat (k := i) (by omega), x3, x5, x6, nx]
    refine ⟨in_nat (by omega) (by omega), jo ⟨hb, in_nat (by omega) (by omega), ?_⟩⟩
    rw [ix_nat (k := nF B d + k) (by omega), p9, z_1, iz_eq (by omega)]
    refine ⟨fun z => ?_, fun z => ⟨⟨i + 1, by omega, rfl, u1, fun m hm => ?_⟩, ms⟩⟩
    · have kd2 : kd B (nF B d + k) = 2 := by omega
      have o6 := w6 kd2
      obtain ⟨β, hβ⟩ : ∃ β : Nat, b d k = β := ⟨(b d k).toNat, by omega⟩
      have i2 : (if iz (b d k) + iz (l d k) < 60 then iz (b d k) + iz (l d k) else 60 : Int32) = iz (b d k + l d k) := by
        rw [iz_add, z_60]
        by_cases c : b d k + l d k < 60
        · rw [if_pos ((iz_lt (by omega)).2 c)]
        · rw [if_neg (fun y => c ((iz_lt (by omega)).1 y))]; exact iz_inj (by omega)
      have i3 : (if 0 < iz (b d k) then iz (b d k) else 0 : Int32) = iz (b d k) := by
        by_cases c : 0 < b d k
        · rw [if_pos ((gt0 (by omega)).2 c)]
        · rw [if_neg (fun y => c ((gt0 (by omega)).1 y)), show b d k = 0 by omega]; rfl
      rw [i2, i3]
      refine jo (jo ?_)
      try dsimp only
      refine wr_ov_want_78 _ _ _ _ _ (fun v V => ∃ x : Nat, b d k ≤ x ∧ (x : Int) ≤ b d k + l d k ∧ v = iz x ∧ Fr (fun c => c = 529 ∨ c = 530) T V ∧ ∀ m, m < 60 → V.2.2.1 529 m = iz (if b d k ≤ m ∧ m < x then max (lvN B D b l i 5 m) (on B (nF B d + k)) else lvN B D b l i 5 m) ∧ V.2.2.1 530 m = iz (if b d k ≤ m ∧ m < x then min (lvN B D b l i 6 m) (tw B (nF B d + k)) else lvN B D b l i 6 m)) (fun v V => 60 - v.toInt.toNat) ?_ _ _ _ (by rw [hβ, iz_t (by omega)]; omega) ⟨β, by omega, by omega, by rw [hβ], u1, fun m hm => by rw [if_neg (by omega), if_neg (by omega)]; exact u2 m hm⟩
      rintro _ V ⟨x, x1, x2, rfl, v1, v2⟩
      have hP2 : BkP V bk B := BkP_fr hP (q_F v1 (by omega)) (fun y z h1 h2 => q_A v1 (by omega))
      obtain ⟨_, _, _, _, p13, p14⟩ := hP2.2.2 (nF B d + k) fk1
      unfold bd_ov_want_78
      rw [iz_le (by omega)]
      refine ⟨fun c => ⟨⟨i + 1, by omega, rfl, v1, fun m hm => ?_⟩, ms⟩, fun c => ?_⟩
      · have := v2 m hm
        have lm := lvb m
        rw [this.1, this.2, lv_5 ha, lv_6 ha]
        unfold ol oh
        by_cases c2 : b d k ≤ m ∧ (m : Int) < b d k + l d k
        · have c5 : b d k ≤ (m : Int) ∧ m < x := by omega
          have c6 : kd B (nF B d + k) = 2 ∧ b d k ≤ (m : Int) ∧ (m : Int) < b d k + l d k := ⟨kd2, c2⟩
          rw [if_pos c5, if_pos c5, if_pos c6, if_pos c6]; exact ⟨rfl, rfl⟩
        · have c5 : ¬ (b d k ≤ (m : Int) ∧ m < x) := by omega
          have c6 : ¬ (kd B (nF B d + k) = 2 ∧ b d k ≤ (m : Int) ∧ (m : Int) < b d k + l d k) := fun y => c2 y.2
          rw [if_neg c5, if_neg c5, if_neg c6, if_neg c6]
          exact ⟨iz_inj (by omega), iz_inj (by omega)⟩
      · have hx : x < 60 := by omega
        have lm := lvb x
        have := v2 x hx
        rw [if_neg (by omega), if_neg (by omega)] at this
        have nxx : iz (x : Int) + 1 = iz ((x + 1 : Nat) : Int) := by rw [z_1, iz_add]; exact iz_inj (by omega)
        rw [ix_nat (k := x) (by omega), ix_nat (k := nF B d + k) (by omega), this.1, p13, nxx]
        have mx : (if iz (lvN B D b l i 5 x) < iz (on B (nF B d + k)) then iz (on B (nF B d + k)) else iz (lvN B D b l i 5 x) : Int32) = iz (max (lvN B D b l i 5 x) (on B (nF B d + k))) := by
          by_cases c3 : lvN B D b l i 5 x < on B (nF B d + k)
          · rw [if_pos ((iz_lt (by omega)).2 c3)]; exact iz_inj (by omega)
          · rw [if_neg (fun y => c3 ((iz_lt (by omega)).1 y))]; exact iz_inj (by omega)
        rw [mx]
        refine ⟨in_nat (by omega) (by omega), hb, in_nat (by omega) (by omega), jo (jo ?_)⟩
        try dsimp only
        have e14 : (sA V 529 x (iz (max (lvN B D b l i 5 x) (on B (nF B d + k))))).2.2.1 (bk + 14) (nF B d + k) = iz (tw B (nF B d + k)) := by rw [gA_A, if_neg (by omega)]; exact p14
        have e530 : (sA V 529 x (iz (max (lvN B D b l i 5 x) (on B (nF B d + k))))).2.2.1 530 x = iz (lvN B D b l i 6 x) := by rw [gA_A, if_neg (by omega)]; exact this.2
        rw [e14, e530]
        have mn : (if iz (tw B (nF B d + k)) < iz (lvN B D b l i 6 x) then iz (tw B (nF B d + k)) else iz (lvN B D b l i 6 x) : Int32) = iz (min (lvN B D b l i 6 x) (tw B (nF B d + k))) := by
          by_cases c3 : tw B (nF B d + k) < lvN B D b l i 6 x
          · rw [if_pos ((iz_lt (by omega)).2 c3)]; exact iz_inj (by omega)
          · rw [if_neg (fun y => c3 ((iz_lt (by omega)).1 y))]; exact iz_inj (by omega)
        rw [mn]
        refine ⟨⟨x + 1, by omega, by omega, rfl, fr_sA (fr_sA v1 (by omega)) (by omega), fun m hm => ?_⟩, ?_⟩
        · refine ⟨?_, ?_⟩
          · rw [gA_A, if_neg (show ¬ (529 = 530 ∧ m = x) by omega), gA_A]
            by_cases e : m = x
            · rw [if_pos (show 529 = 529 ∧ m = x from ⟨rfl, e⟩), if_pos (show b d k ≤ (m : Int) ∧ m < x + 1 by omega), e]
            · rw [if_neg (show ¬ (529 = 529 ∧ m = x) from fun y => e y.2), (v2 m hm).1]
              by_cases c4 : b d k ≤ (m : Int) ∧ m < x
              · rw [if_pos c4, if_pos (show b d k ≤ (m : Int) ∧ m < x + 1 by omega)]
              · rw [if_neg c4, if_neg (show ¬ (b d k ≤ (m : Int) ∧ m < x + 1) by omega)]
          · rw [gA_A]
            by_cases e : m = x
            · rw [if_pos (show 530 = 530 ∧ m = x from ⟨rfl, e⟩), if_pos (show b d k ≤ (m : Int) ∧ m < x + 1 by omega), e]
            · rw [if_neg (show ¬ (530 = 530 ∧ m = x) from fun y => e y.2), gA_A, if_neg (show ¬ (530 = 529 ∧ m = x) by omega), (v2 m hm).2]
              by_cases c4 : b d k ≤ (m : Int) ∧ m < x
              · rw [if_pos c4, if_pos (show b d k ≤ (m : Int) ∧ m < x + 1 by omega)]
              · rw [if_neg c4, if_neg (show ¬ (b d k ≤ (m : Int) ∧ m < x + 1) by omega)]
        · rw [iz_t (by omega), iz_t (by omega)]; omega
    · have := u2 m hm
      have lm := lvb m
      have nk : ¬ kd B (nF B d + k) = 2 := by omega
      rw [this.1, this.2, lv_5 ha, lv_6 ha]
      unfold ol oh
      rw [if_neg (fun y => nk y.1), if_neg (fun y => nk y.1)]
      exact ⟨iz_inj (by omega), iz_inj (by omega)⟩
theorem s_ovl {T : St} {w c : Int} {lo hi : Nat → Int} (hw : 0 ≤ w ∧ w ≤ 9) (hc : 0 ≤ c ∧ c ≤ 9) (h : ∀ m, m < 60 → T.2.2.1 529 m = iz (lo m) ∧ T.2.2.1 530 m = iz (hi m) ∧ 0 ≤ lo m ∧ lo m ≤ 9 ∧ 0 ≤ hi m ∧ hi m ≤ 9) : ok_ov_firstLack T (iz w) (iz c) ∧ (fun r : Int32 => ∃ M : Nat, M ≤ 60 ∧ r = iz M ∧ (∀ j, j < M → hL c lo j ≤ hM w hi j) ∧ (M < 60 → hM w hi M < hL c lo M)) (x_ov_firstLack T (iz w) (iz c)) := by
  refine so_ov_firstLack (Q := fun r : Int32 => ∃ M : Nat, M ≤ 60 ∧ r = iz M ∧ (∀ j, j < M → hL c lo j ≤ hM w hi j) ∧ (M < 60 → hM w hi M < hL c lo M)) _ _ ?_
  unfold wp_ov_firstLack
  refine wr_ov_firstLack_8 T _ _ (fun v3 v4 v5 => ∃ m : Nat, m ≤ 60 ∧ v5 = iz m ∧ v3 = iz (pv (hL c lo) m) ∧ v4 = iz (pv (hM w hi) m) ∧ ∀ j, j < m → hL c lo j ≤ hM w hi j) (fun v3 v4 v5 => 60 - v5.toInt.toNat) ?_ _ _ _ _ (by show 60 - (0 : Int32).toInt.toNat < 1000; omega) ⟨0, by omega, rfl, rfl, rfl, fun j hj => absurd hj (Nat.not_lt_zero _)⟩
  rintro _ _ _ ⟨m, hm, rfl, rfl, rfl, g⟩
  unfold bd_ov_firstLack_8
  rw [z_60, iz_le (by omega)]
  refine ⟨fun q => ⟨60, by omega, rfl, fun j hj => g j (by omega), fun y => by omega⟩, fun q => ?_⟩
  have hm60 : m < 60 := by omega
  obtain ⟨a1, a2, a3, a4, a5, a6⟩ := h m hm60
  have pb : 0 ≤ pv (hL c lo) m ∧ pv (hL c lo) m ≤ 9 ∧ 0 ≤ pv (hM w hi) m ∧ pv (hM w hi) m ≤ 9 := by
    cases m with
    | zero => exact ⟨Int.le_refl 0, (by decide : (0 : Int) ≤ 9), Int.le_refl 0, (by decide : (0 : Int) ≤ 9)⟩
    | succ j =>
      have y1 := hL_b hc j (fun k hk => ⟨(h k (by omega)).2.2.1, (h k (by omega)).2.2.2.1⟩)
      have y2 := hM_b (c := w) (hi := hi) hw j (fun k hk => ⟨(h k (by omega)).2.2.2.2.1, (h k (by omega)).2.2.2.2.2⟩)
      exact ⟨y1.1, y1.2, y2.1, y2.2⟩
  have e1 : (if iz (lo m) < iz (pv (hL c lo) m) - iz c then iz (pv (hL c lo) m) - iz c else iz (lo m) : Int32) = iz (hL c lo m) := by
    rw [iz_sub, hL_pv]
    by_cases y : lo m < pv (hL c lo) m - c
    · rw [if_pos ((iz_lt (by omega)).2 y)]; exact iz_inj (by omega)
    · rw [if_neg (fun x => y ((iz_lt (by omega)).1 x))]; exact iz_inj (by omega)
  have e2 : (if iz (pv (hM w hi) m) + iz w < iz (hi m) then iz (pv (hM w hi) m) + iz w else iz (hi m) : Int32) = iz (hM w hi m) := by
    rw [iz_add, hM_pv]
    by_cases y : pv (hM w hi) m + w < hi m
    · rw [if_pos ((iz_lt (by omega)).2 y)]; exact iz_inj (by omega)
    · rw [if_neg (fun x => y ((iz_lt (by omega)).1 x))]; exact iz_inj (by omega)
  have y1 := hL_b hc m (fun k hk => ⟨(h k (by omega)).2.2.1, (h k (by omega)).2.2.2.1⟩)
  have y2 := hM_b (c := w) (hi := hi) hw m (fun k hk => ⟨(h k (by omega)).2.2.2.2.1, (h k (by omega)).2.2.2.2.2⟩)
  have nx : iz (m : Int) + 1 = iz ((m + 1 : Nat) : Int) := by rw [z_1, iz_add]; exact iz_inj (by omega)
  rw [ix_nat (k := m) (by omega), a1, a2, e1, e2, nx]
  refine ⟨in_nat (by omega) (by omega), jo (jo ?_)⟩
  try dsimp only
  rw [iz_le (by omega)]
  refine ⟨fun y => ⟨⟨m + 1, by omega, rfl, rfl, rfl, fun j hj => ?_⟩, ?_⟩, fun y => ⟨m, by omega, rfl, g, fun _ => by omega⟩⟩
  · by_cases e : j = m
    · rw [e]; exact y
    · exact g j (by omega)
  · rw [iz_t (by omega), iz_t (by omega)]; omega
theorem lkr_f {W : Nat → Int} {m : Nat} (hm : 0 < W m) : ∀ k m0, m0 ≤ m → m < m0 + k → (∀ j, m0 ≤ j → j < m → W j = 0) → lkr W k m0 = 10 * (m : Int) + W m := by
  intro k
  induction k with
  | zero => intro m0 h1 h2; omega
  | succ k ih =>
    intro m0 h1 h2 h3
    show (if 0 < W m0 then 10 * (m0 : Int) + W m0 else lkr W k (m0 + 1)) = _
    by_cases e : m0 = m
    · rw [e, if_pos hm]
    · rw [if_neg (by rw [h3 m0 (Nat.le_refl _) (by omega)]; omega)]
      exact ih (m0 + 1) (by omega) (by omega) (fun j a1 a2 => h3 j (by omega) a2)
theorem s_lackAt {T : St} {B : Nat → Int} {h o : Int} {F : Nat → Nat → Int} {m : Nat} {c : Int32} (hm : m < 60) (hl : ∀ w, w < 5 → (lb (T.2.2.2 538 w) m = true ↔ gv B h o w m < F w m)) (hc : c = 0 ↔ ¬ hM (B 3) (F 6) m < hL (B 4) (F 5) m) : x_jd_lackAt T (1 <<< ((iz (m : Int)).toInt64 &&& 63)) c = iz (lkw B h o F m) := by
  refine so_jd_lackAt (Q := fun r => r = iz (lkw B h o F m)) _ _ ?_
  unfold wp_jd_lackAt
  have e : ∀ w, w < 5 → ((lg_cmp (T.2.2.2 538 w &&& (1 <<< ((iz (m : Int)).toInt64 &&& 63))) 0 = 0) ↔ ¬ gv B h o w m < F w m) := fun w hw => by
    rw [shf_b hm, ← hl w hw]
    cases lb (T.2.2.2 538 w) m <;> simp
  rw [n_0, n_1, n_2, n_3, n_4, e 0 (by omega), e 1 (by omega), e 2 (by omega), e 3 (by omega), e 4 (by omega), hc]
  unfold lkw
  refine ⟨fun q1 => ⟨fun q2 => ⟨fun q3 => ⟨fun q4 => ⟨fun q5 => ⟨fun q6 => ?_, fun q6 => ?_⟩, fun q5 => ?_⟩, fun q4 => ?_⟩, fun q3 => ?_⟩, fun q2 => ?_⟩, fun q1 => ?_⟩
  · rw [if_neg q1, if_neg q2, if_neg q3, if_neg q4, if_neg q5, if_neg q6]; rfl
  · rw [if_neg q1, if_neg q2, if_neg q3, if_neg q4, if_neg q5, if_pos (Classical.byContradiction q6)]; rfl
  · rw [if_neg q1, if_neg q2, if_neg q3, if_neg q4, if_pos (Classical.byContradiction q5)]; rfl
  · rw [if_neg q1, if_neg q2, if_neg q3, if_pos (Classical.byContradiction q4)]; rfl
  · rw [if_neg q1, if_neg q2, if_pos (Classical.byContradiction q3)]; rfl
  · rw [if_neg q1, if_pos (Classical.byContradiction q2)]; rfl
  · rw [if_pos (Classical.byContradiction q1)]; rfl
theorem s_jfl {T : St} {r bk : Nat} {B : Nat → Int} {D : Nat} {b l : Nat → Nat → Int} (hr : sh r = .inr 7) (hr2 : 557 ≤ r) (hb : sh bk = .inr 1) (hb2 : bk + 14 < 76) (hP : BkP T bk B) (hK : KitX T 76 B (B 5) (B 203)) (hW : WF B) (hD2 : D < 2 ^ (B 16).toNat) (hn : sn D 8 ≤ 4) (hR : RwX T r B D b l) (hs : ∀ d, d < 8 → D.testBit d = true → sq B d (b d) (l d)) : ok_jd_firstLack T bk 76 r ∧ (fun x : Int32 × St => x.1 = iz (fnl B D b l)) (x_jd_firstLack T bk 76 r) := by
  obtain ⟨w1, w2, w3⟩ := WF_h hW
  have w0 := hW.1
  have r602 := shi_7 hr
  refine so_jd_firstLack (Q := fun x : Int32 × St => x.1 = iz (fnl B D b l)) _ _ _ ?_
  unfold wp_jd_firstLack
  obtain ⟨ok1, j1, j2, _⟩ := s_jlay hr hr2 hb hb2 (show sh 76 = .inr 3 by decide) (by omega) hP hK hW w3 hD2 hn hR hs
  refine ⟨ok1, ?_⟩
  generalize x_jd_lay T bk 76 r = U at *
  have hP1 : BkP U bk B := BkP_fr hP (q_F j1 (by unfold jlW; omega)) (fun y z h1 h2 => q_A j1 (by unfold jlW; omega))
  have hR1 : RwX U r B D b l := RwX_fr j1 (fun c hc hw => by unfold jlW at hw; omega) hR
  obtain ⟨ok2, k1⟩ := s_want hr hr2 hb hb2 hP1 hW hD2 hn hR1 hs
  have fr2 : Fr _ U _ := fr_ov_want _ _ ok2
  refine ⟨ok2, hb, ?_⟩
  have hP2 : BkP (x_ov_want U bk r) bk B := BkP_fr hP1 (q_F fr2 (by unfold W_ov_want; omega)) (fun y z h1 h2 => q_A fr2 (by unfold W_ov_want; omega))
  have k2 : ∀ w m, w < 5 → m < 60 → (lb ((x_ov_want U bk r).2.2.2 538 w) m = true ↔ gv B (B 5) (B 203) w m < tt B D b l w 8 m) := fun w m hw hm => by rw [q_L fr2 (by unfold W_ov_want; omega)]; exact j2 w m hw hm
  generalize x_ov_want U bk r = V at *
  have lvb : ∀ m, _ := fun m => (lv_b (b := b) (l := l) (m := m) hW hD2 (Nat.le_refl (ps B D 8))).2
  rw [n_3, n_4, hP2.1 3 (by omega), hP2.1 4 (by omega)]
  obtain ⟨ok3, M, m1, m2, m3, m4⟩ := s_ovl (T := V) (w := B 3) (c := B 4) (lo := tlo B D b l 8) (hi := thi B D b l 8) (by omega) (by omega) (fun m hm => by
    have := lvb m
    rw [lv_end hW hD2 (by omega), lv_end hW hD2 (by omega)] at this
    exact ⟨(k1 m hm).1, (k1 m hm).2, this.1, this.2.1, this.2.2.1, this.2.2.2⟩)
  refine ⟨ok3, jo ?_⟩
  try dsimp only
  rw [m2]
  have lw : ∀ m, 0 ≤ lkw B (B 5) (B 203) (tv B D b l 8) m ∧ lkw B (B 5) (B 203) (tv B D b l 8) m ≤ 6 := fun m => lkw_b
  refine wr_jd_firstLack_40 _ _ _ _ (fun v Z => V = Z ∧ ∃ m : Nat, m ≤ 60 ∧ v = iz m ∧ ∀ j, j < m → lkw B (B 5) (B 203) (tv B D b l 8) j = 0) (fun v Z => 60 - v.toInt.toNat) ?_ _ _ _ (by show 60 - (0 : Int32).toInt.toNat < 1000; omega) ⟨rfl, 0, by omega, rfl, fun j hj => absurd hj (Nat.not_lt_zero _)⟩
  rintro _ _ ⟨rfl, m, hm, rfl, g⟩
  unfold bd_jd_firstLack_40
  rw [z_60, iz_le (by omega), iz_eq (by omega)]
  refine ⟨fun q => ?_, fun q => ?_⟩
  · show (0 : Int32) = iz (fnl B D b l)
    unfold fnl
    rw [if_pos ((lkr_n (fun m => (lw m).1) 60 0).2 (fun j _ hj => g j (by omega)))]; rfl
  · have hm60 : m < 60 := by omega
    have cold : m = M ↔ hM (B 3) (thi B D b l 8) m < hL (B 4) (tlo B D b l 8) m := by
      constructor
      · intro e; rw [e]; exact m4 (by omega)
      · intro e
        rcases Nat.lt_trichotomy m M with y | y | y
        · have := m3 m y; omega
        · exact y
        · exfalso
          have z := m4 (by omega)
          have gm := g M y
          unfold lkw at gm
          have e5 : tv B D b l 8 5 = tlo B D b l 8 := rfl
          have e6 : tv B D b l 8 6 = thi B D b l 8 := rfl
          rw [e5, e6] at gm
          repeat' split at gm
          all_goals omega
    have nx : iz (m : Int) + 1 = iz ((m + 1 : Nat) : Int) := by rw [z_1, iz_add]; exact iz_inj (by omega)
    have la : ∀ c : Int32, (c = 0 ↔ ¬ hM (B 3) (thi B D b l 8) m < hL (B 4) (tlo B D b l 8) m) → x_jd_lackAt V (1 <<< ((iz (m : Int)).toInt64 &&& 63)) c = iz (lkw B (B 5) (B 203) (tv B D b l 8) m) := fun c hc => s_lackAt hm60 (fun w hw => by
      rw [k2 w m hw hm60]
      have : tv B D b l 8 w m = tt B D b l w 8 m := by unfold tv; rw [if_pos hw]
      rw [this]) hc
    have lwm := lw m
    have fin : ((iz (lkw B (B 5) (B 203) (tv B D b l 8) m) = 0) → (V = V ∧ ∃ m' : Nat, m' ≤ 60 ∧ iz ((m + 1 : Nat) : Int) = iz m' ∧ ∀ j, j < m' → lkw B (B 5) (B 203) (tv B D b l 8) j = 0) ∧ 60 - (iz ((m + 1 : Nat) : Int)).toInt.toNat < 60 - (iz (m : Int)).toInt.toNat) ∧ (¬ (iz (lkw B (B 5) (B 203) (tv B D b l 8) m) = 0) → ((1000 : Int32) + 10 * iz (m : Int)) + iz (lkw B (B 5) (B 203) (tv B D b l 8) m) = iz (fnl B D b l)) := by
      rw [eq0 (by omega)]
      refine ⟨fun y => ⟨⟨rfl, m + 1, by omega, rfl, fun j hj => ?_⟩, by rw [iz_t (by omega), iz_t (by omega)]; omega⟩, fun y => ?_⟩
      · by_cases e : j = m
        · rw [e]; exact y
        · exact g j (by omega)
      · have lk := lkr_f (W := lkw B (B 5) (B 203) (tv B D b l 8)) (m := m) (by omega) 60 0 (by omega) (by omega) (fun j _ hj => g j hj)
        rw [z_1000, z_10, iz_mul, iz_add, iz_add]
        refine iz_inj ?_
        unfold fnl
        rw [if_neg (by rw [lk]; omega), lk]; omega
    rw [nx]
    refine jo ⟨fun y => jo ?_, fun y => jo ?_⟩
    · try dsimp only
      rw [la 1 ⟨fun z => absurd z (by decide), fun z => absurd (cold.1 (by omega)) z⟩]
      exact fin
    · try dsimp only
      rw [la 0 ⟨fun _ z => y (by rw [cold.2 z]), fun _ => rfl⟩]
      exact fin
