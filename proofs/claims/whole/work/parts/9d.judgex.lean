/-! ===== the class judges ===== -/
theorem c_fol {T : St} {r bk : Nat} {B : Nat → Int} {D : Nat} {b l : Nat → Nat → Int} {i d k : Nat} (hr : sh r = .inr 7) (hb : sh bk = .inr 1) (hP : BkP T bk B) (hW : WF B) (hD2 : D < 2 ^ (B 16).toNat) (h12 : ps B D 8 ≤ 12) (hR : RwX T r B D b l) (h : At B D i d k) (hk : 0 < k) (g : ∀ d k, d < 8 → D.testBit d = true → k < nO B d → 0 ≤ b d k ∧ b d k + l d k ≤ 60 ∧ 1 ≤ l d k) : ok_jd_followsInTime T bk r (iz i) ∧ (x_jd_followsInTime T bk r (iz i) = 0 ↔ bd2 B b l d k) := by
  have il := At_lt h
  have hp := At_p h hk
  have i0 : 0 < i := by have := h.2.2.2; omega
  have hdB := mem_lt hW hD2 d h.2.1
  obtain ⟨fk1, fk2⟩ := wf_fk hW hdB hp.2.2.1
  have ww := (wf_s hW hdB hp.2.2.1).2.2.1
  obtain ⟨r1, r2, r3⟩ := g d k h.1 h.2.1 h.2.2.1
  obtain ⟨p1, p2, p3⟩ := g d (k - 1) hp.1 hp.2.1 hp.2.2.1
  obtain ⟨_, _, p11, _⟩ := hP.2.2 (nF B d + (k - 1)) fk1
  refine so_jd_followsInTime (Q := fun x => x = 0 ↔ bd2 B b l d k) _ _ _ ?_
  unfold wp_jd_followsInTime
  have em : iz (i : Int) - 1 = iz ((i - 1 : Nat) : Int) := by rw [z_1, iz_sub]; exact iz_inj (by omega)
  obtain ⟨_, _, x5, _⟩ := hR.2.2.2 i d k h
  obtain ⟨y3, _, y5, y6⟩ := hR.2.2.2 (i - 1) d (k - 1) hp
  rw [em, ix_nat (k := i) (by omega), ix_nat (k := i - 1) (by omega), x5, y3, y5, y6, iz_sub, iz_sub]
  refine ⟨hr, in_nat (by omega) (by omega), in_nat (by omega) (by omega), jo ?_⟩
  try dsimp only
  rw [lt0 (by omega), ix_nat (k := nF B d + (k - 1)) (by omega), p11, iz_lt (by omega)]
  unfold bd2
  refine ⟨fun z => ⟨fun _ => ⟨hk, by omega⟩, fun _ => rfl⟩, fun z => ⟨hb, in_nat (by omega) (by omega), fun z2 => ⟨fun _ => ⟨hk, by omega⟩, fun _ => rfl⟩, fun z2 => ⟨fun y => absurd y (by decide), fun y => absurd (by omega) y.2⟩⟩⟩
theorem s_judgedX {T : St} {r bk : Nat} {B : Nat → Int} {D : Nat} {t : Int} {b l : Nat → Nat → Int} (hr : sh r = .inr 7) (hr2 : 557 ≤ r) (hb : sh bk = .inr 1) (hb2 : bk + 14 < 76) (hP : BkP T bk B) (hK : KitX T 76 B (B 5) (B 203)) (hW : WF B) (hD2 : D < 2 ^ (B 16).toNat) (hn : sn D 8 ≤ 4) (ht : 1 ≤ t ∧ t ≤ 60) (hR : RwX T r B D b l) (hg : rgR B D b l) : ok_jd_judged T bk 76 r (iz t) ∧ (fun x : Int32 × St => JV B D t b l x.1) (x_jd_judged T bk 76 r (iz t)) := by
  have h12 : ps B D 8 ≤ 12 := by have := ps_3 hW hD2 8; omega
  have hD := mem_lt hW hD2
  refine so_jd_judged (Q := fun x : Int32 × St => JV B D t b l x.1) _ _ _ _ ?_
  unfold wp_jd_judged
  refine wr_jd_judged_3 _ _ _ _ (fun v U => T = U ∧ ∃ i : Nat, i ≤ ps B D 8 ∧ v = iz i ∧ ∀ j e k, At B D j e k → j < i → ¬ bd1 b l e k) (fun v U => 12 - v.toInt.toNat) ?_ _ _ _ (by show 12 - (0 : Int32).toInt.toNat < 1000; omega) ⟨rfl, 0, Nat.zero_le _, rfl, fun _ _ _ _ h => absurd h (Nat.not_lt_zero _)⟩
  rintro _ _ ⟨rfl, i, hi, rfl, u1⟩
  unfold bd_jd_judged_3
  rw [hR.2.1, iz_le (by omega)]
  refine ⟨hr, fun q => ?_, fun q => ?_⟩
  · have n1 : NR B D (bd1 b l) := fun j e k h => u1 j e k h (by have := At_lt h; omega)
    have rg : ∀ d k, d < 8 → D.testBit d = true → k < nO B d → 0 ≤ b d k ∧ b d k + l d k ≤ 60 ∧ 1 ≤ l d k := fun d k h1 h2 h3 => by
      have := n1 _ d k ⟨h1, h2, h3, rfl⟩
      have g := hg d k h1 h2 h3
      unfold bd1 at this
      omega
    refine wr_jd_judged_59 _ _ _ _ (fun v V => T = V ∧ ∃ i : Nat, i ≤ ps B D 8 ∧ v = iz i ∧ ∀ j e k, At B D j e k → j < i → ¬ bd2 B b l e k) (fun v U => 12 - v.toInt.toNat) ?_ _ _ _ (by show 12 - (0 : Int32).toInt.toNat < 1000; omega) ⟨rfl, 0, Nat.zero_le _, rfl, fun _ _ _ _ h => absurd h (Nat.not_lt_zero _)⟩
    rintro _ _ ⟨rfl, i, hi, rfl, u2⟩
    unfold bd_jd_judged_59
    rw [hR.2.1, iz_le (by omega)]
    refine ⟨hr, fun q => ?_, fun q => ?_⟩
    · have n2 : NR B D (bd2 B b l) := fun j e k h => u2 j e k h (by have := At_lt h; omega)
      have hs := sq_NR hg n1 n2
      refine wr_jd_judged_105 _ _ _ _ (fun v W => T = W ∧ ∃ i : Nat, i ≤ ps B D 8 ∧ v = iz i ∧ ∀ j e k, At B D j e k → j < i → ¬ bd3 B t b l e k) (fun v U => 12 - v.toInt.toNat) ?_ _ _ _ (by show 12 - (0 : Int32).toInt.toNat < 1000; omega) ⟨rfl, 0, Nat.zero_le _, rfl, fun _ _ _ _ h => absurd h (Nat.not_lt_zero _)⟩
      rintro _ _ ⟨rfl, i, hi, rfl, u3⟩
      unfold bd_jd_judged_105
      rw [hR.2.1, iz_le (by omega)]
      refine ⟨hr, fun q => ?_, fun q => ?_⟩
      · have n3 : NR B D (bd3 B t b l) := fun j e k h => u3 j e k h (by have := At_lt h; omega)
        obtain ⟨ok, e⟩ := s_jfl hr hr2 hb hb2 hP hK hW hD2 hn hR hs
        refine ⟨ok, ?_⟩
        generalize x_jd_firstLack T bk 76 r = R at *
        exact Or.inr (Or.inr (Or.inr ⟨n1, n2, n3, e⟩))
      · obtain ⟨d, k, h⟩ := At_ex (B := B) (D := D) (i := i) (by omega)
        obtain ⟨r1, r2, r3⟩ := rg d k h.1 h.2.1 h.2.2.1
        have hdB := hD d h.2.1
        have d8 := h.1
        have s4 := sn_b4 hn h
        have wk := (wf_d hW hdB).1
        obtain ⟨_, x4, x5, x6⟩ := hR.2.2.2 i d k h
        have x1 := hR.2.2.1 d h.1 h.2.1
        obtain ⟨p4, _⟩ := hP.2.1.2 d hdB
        have nx : iz (i : Int) + 1 = iz ((i + 1 : Nat) : Int) := by rw [z_1, iz_add]; exact iz_inj (by omega)
        have ms : 12 - (iz ((i + 1 : Nat) : Int)).toInt.toNat < 12 - (iz (i : Int)).toInt.toNat := by rw [iz_t (by omega), iz_t (by omega)]; omega
        obtain ⟨ol', el⟩ := c_last hr hn h12 hR h
        have go : ¬ bd3 B t b l d k → (T = T ∧ ∃ i' : Nat, i' ≤ ps B D 8 ∧ iz ((i + 1 : Nat) : Int) = iz i' ∧ ∀ j e k, At B D j e k → j < i' → ¬ bd3 B t b l e k) ∧ 12 - (iz ((i + 1 : Nat) : Int)).toInt.toNat < 12 - (iz (i : Int)).toInt.toNat := fun nb => ⟨⟨rfl, i + 1, by omega, rfl, fun j e k' h2 hj => by
          by_cases y : j = i
          · subst y
            obtain ⟨y1, y2⟩ := At_u h h2
            rw [← y1, ← y2]; exact nb
          · exact u3 j e k' h2 (by omega)⟩, ms⟩
        have kl : ¬ x_ro_isLast T r (iz i) = 0 → k + 1 = nO B d := fun z => by
          rcases Nat.lt_or_ge (k + 1) (nO B d) with x | x
          · exact absurd (el.2 x) z
          · have := h.2.2.1; omega
        have bad : ¬ (0 ≤ t - (b d k + l d k) ∧ t - (b d k + l d k) ≤ bKeep B d) → (ok_ro_isLast T r (iz i)) ∧ ((x_ro_isLast T r (iz i) = 0 → (T = T ∧ ∃ i' : Nat, i' ≤ ps B D 8 ∧ iz ((i + 1 : Nat) : Int) = iz i' ∧ ∀ j e k, At B D j e k → j < i' → ¬ bd3 B t b l e k) ∧ 12 - (iz ((i + 1 : Nat) : Int)).toInt.toNat < 12 - (iz (i : Int)).toInt.toNat) ∧ (¬ x_ro_isLast T r (iz i) = 0 → JV B D t b l (3 + 10 * iz (i : Int)))) := fun nb => by
          refine ⟨ol', fun z => go (fun y => by have := el.1 z; have := y.1; omega), fun z => Or.inr (Or.inr (Or.inl ⟨n1, n2, i, ⟨d, k, h, ⟨kl z, nb⟩, u3⟩, ?_⟩))⟩
          rw [z_3, z_10, iz_mul, iz_add]
        rw [ix_nat (k := i) (by omega), nx, x5, x6, iz_sub, iz_sub, x4, ix_nat (k := sn D d) (by omega), x1, ix_nat (k := d) (by omega), p4]
        refine ⟨in_nat (by omega) (by omega), jo (jo ?_)⟩
        try dsimp only
        rw [lt0 (by omega), iz_lt (by omega)]
        refine ⟨fun z => bad (by omega), fun z => ⟨hb, in_nat (by omega) (by omega), in_nat (by omega) (by omega), fun z2 => bad (by omega), fun z2 => ⟨ol', fun _ => go (fun y => y.2 (by omega)), fun _ => go (fun y => y.2 (by omega))⟩⟩⟩
    · obtain ⟨d, k, h⟩ := At_ex (B := B) (D := D) (i := i) (by omega)
      have nx : iz (i : Int) + 1 = iz ((i + 1 : Nat) : Int) := by rw [z_1, iz_add]; exact iz_inj (by omega)
      have ms : 12 - (iz ((i + 1 : Nat) : Int)).toInt.toNat < 12 - (iz (i : Int)).toInt.toNat := by rw [iz_t (by omega), iz_t (by omega)]; omega
      obtain ⟨of, ef⟩ := c_first hr hn h12 hR h
      have go : ¬ bd2 B b l d k → (T = T ∧ ∃ i' : Nat, i' ≤ ps B D 8 ∧ iz ((i + 1 : Nat) : Int) = iz i' ∧ ∀ j e k, At B D j e k → j < i' → ¬ bd2 B b l e k) ∧ 12 - (iz ((i + 1 : Nat) : Int)).toInt.toNat < 12 - (iz (i : Int)).toInt.toNat := fun nb => ⟨⟨rfl, i + 1, by omega, rfl, fun j e k' h2 hj => by
        by_cases y : j = i
        · subst y
          obtain ⟨y1, y2⟩ := At_u h h2
          rw [← y1, ← y2]; exact nb
        · exact u2 j e k' h2 (by omega)⟩, ms⟩
      rw [nx]
      refine ⟨of, fun z => ?_, fun z => go (fun y => z (ef.2 y.1))⟩
      obtain ⟨o2, e2⟩ := c_fol hr hb hP hW hD2 h12 hR h (ef.1 z) rg
      refine ⟨o2, fun y => Or.inr (Or.inl ⟨n1, i, ⟨d, k, h, e2.1 y, u2⟩, ?_⟩), fun y => go (fun x => y (e2.2 x))⟩
      show (2 : Int32) + 10 * iz (i : Int) = _
      rw [z_2, z_10, iz_mul, iz_add]
  · obtain ⟨d, k, h⟩ := At_ex (B := B) (D := D) (i := i) (by omega)
    obtain ⟨g1, g2, g3⟩ := hg d k h.1 h.2.1 h.2.2.1
    obtain ⟨_, _, x5, x6⟩ := hR.2.2.2 i d k h
    have nx : iz (i : Int) + 1 = iz ((i + 1 : Nat) : Int) := by rw [z_1, iz_add]; exact iz_inj (by omega)
    have ms : 12 - (iz ((i + 1 : Nat) : Int)).toInt.toNat < 12 - (iz (i : Int)).toInt.toNat := by rw [iz_t (by omega), iz_t (by omega)]; omega
    rw [ix_nat (k := i) (by omega), nx, x5, x6, lt0 (by omega), z_60, iz_sub, iz_le (by omega)]
    have bad : bd1 b l d k → JV B D t b l (1 + 10 * iz (i : Int)) := fun y => by
      refine Or.inl ⟨i, ⟨d, k, h, y, u1⟩, ?_⟩
      rw [z_1, z_10, iz_mul, iz_add]
    refine ⟨in_nat (by omega) (by omega), jo ⟨fun z => bad (Or.inl z), fun z => ⟨fun z3 => ⟨⟨rfl, i + 1, by omega, rfl, fun j e k' h2 hj => ?_⟩, ms⟩, fun z3 => bad (Or.inr (by omega))⟩⟩⟩
    by_cases y : j = i
    · subst y
      obtain ⟨y1, y2⟩ := At_u h h2
      rw [← y1, ← y2]; unfold bd1; omega
    · exact u1 j e k' h2 (by omega)
