/-! ===== what a told row lacks first: the reference ===== -/
def FR (B : Nat → Int) (D : Nat) (P : Nat → Nat → Prop) (j : Nat) : Prop := ∃ d k, At B D j d k ∧ P d k ∧ ∀ i e l, At B D i e l → i < j → ¬ P e l
def NR (B : Nat → Int) (D : Nat) (P : Nat → Nat → Prop) : Prop := ∀ i d k, At B D i d k → ¬ P d k
def bd1 (b l : Nat → Nat → Int) (d k : Nat) : Prop := b d k < 0 ∨ 60 - l d k < b d k
def bd2 (B : Nat → Int) (b l : Nat → Nat → Int) (d k : Nat) : Prop := 0 < k ∧ ¬ (0 ≤ b d k - (b d (k - 1) + l d (k - 1)) ∧ b d k - (b d (k - 1) + l d (k - 1)) ≤ wt B (nF B d + (k - 1)))
def bd3 (B : Nat → Int) (t : Int) (b l : Nat → Nat → Int) (d k : Nat) : Prop := k + 1 = nO B d ∧ ¬ (0 ≤ t - (b d k + l d k) ∧ t - (b d k + l d k) ≤ bKeep B d)
def fnl (B : Nat → Int) (D : Nat) (b l : Nat → Nat → Int) : Int := if lkr (lkw B (B 5) (B 203) (tv B D b l 8)) 60 0 = -1000000 then 0 else 1000 + lkr (lkw B (B 5) (B 203) (tv B D b l 8)) 60 0
def JV (B : Nat → Int) (D : Nat) (t : Int) (b l : Nat → Nat → Int) (v : Int32) : Prop := (∃ j : Nat, FR B D (bd1 b l) j ∧ v = iz (1 + 10 * (j : Int))) ∨ (NR B D (bd1 b l) ∧ ∃ j : Nat, FR B D (bd2 B b l) j ∧ v = iz (2 + 10 * (j : Int))) ∨ (NR B D (bd1 b l) ∧ NR B D (bd2 B b l) ∧ ∃ j : Nat, FR B D (bd3 B t b l) j ∧ v = iz (3 + 10 * (j : Int))) ∨ (NR B D (bd1 b l) ∧ NR B D (bd2 B b l) ∧ NR B D (bd3 B t b l) ∧ v = iz (fnl B D b l))
theorem FR_u {B : Nat → Int} {D : Nat} {P : Nat → Nat → Prop} {i j : Nat} (h1 : FR B D P i) (h2 : FR B D P j) : i = j := by
  obtain ⟨d, k, a1, a2, a3⟩ := h1
  obtain ⟨e, l, b1, b2, b3⟩ := h2
  rcases Nat.lt_trichotomy i j with z | z | z
  · exact absurd a2 (b3 i d k a1 z)
  · exact z
  · exact absurd b2 (a3 j e l b1 z)
theorem FR_n {B : Nat → Int} {D : Nat} {P : Nat → Nat → Prop} {i : Nat} (h1 : FR B D P i) (h2 : NR B D P) : False := by
  obtain ⟨d, k, a1, a2, _⟩ := h1
  exact h2 i d k a1 a2
theorem JV_u {B : Nat → Int} {D : Nat} {t : Int} {b l : Nat → Nat → Int} {v w : Int32} (h1 : JV B D t b l v) (h2 : JV B D t b l w) : v = w := by
  rcases h1 with ⟨j, a1, a2⟩ | ⟨n1, j, a1, a2⟩ | ⟨n1, n2, j, a1, a2⟩ | ⟨n1, n2, n3, a2⟩
  · rcases h2 with ⟨i, b1, b2⟩ | ⟨m1, _⟩ | ⟨m1, _⟩ | ⟨m1, _⟩
    · rw [a2, b2, FR_u a1 b1]
    · exact (FR_n a1 m1).elim
    · exact (FR_n a1 m1).elim
    · exact (FR_n a1 m1).elim
  · rcases h2 with ⟨i, b1, b2⟩ | ⟨m1, i, b1, b2⟩ | ⟨m1, m2, _⟩ | ⟨m1, m2, _⟩
    · exact (FR_n b1 n1).elim
    · rw [a2, b2, FR_u a1 b1]
    · exact (FR_n a1 m2).elim
    · exact (FR_n a1 m2).elim
  · rcases h2 with ⟨i, b1, b2⟩ | ⟨m1, i, b1, b2⟩ | ⟨m1, m2, i, b1, b2⟩ | ⟨m1, m2, m3, _⟩
    · exact (FR_n b1 n1).elim
    · exact (FR_n b1 n2).elim
    · rw [a2, b2, FR_u a1 b1]
    · exact (FR_n a1 m3).elim
  · rcases h2 with ⟨i, b1, b2⟩ | ⟨m1, i, b1, b2⟩ | ⟨m1, m2, i, b1, b2⟩ | ⟨m1, m2, m3, b2⟩
    · exact (FR_n b1 n1).elim
    · exact (FR_n b1 n2).elim
    · exact (FR_n b1 n3).elim
    · rw [a2, b2]
def rgR (B : Nat → Int) (D : Nat) (b l : Nat → Nat → Int) : Prop := ∀ d k, d < 8 → D.testBit d = true → k < nO B d → (-2147483648 ≤ b d k ∧ b d k < 2147483648) ∧ 1 ≤ l d k ∧ l d k ≤ 60
theorem sq_NR {B : Nat → Int} {D : Nat} {b l : Nat → Nat → Int} (hg : rgR B D b l) (n1 : NR B D (bd1 b l)) (n2 : NR B D (bd2 B b l)) : ∀ d, d < 8 → D.testBit d = true → sq B d (b d) (l d) := by
  intro d hd hm
  refine ⟨fun k hk => ?_, fun k hk => ?_⟩
  · have := n1 _ d k ⟨hd, hm, hk, rfl⟩
    have g := hg d k hd hm hk
    unfold bd1 at this
    omega
  · have := n2 _ d (k + 1) ⟨hd, hm, hk, rfl⟩
    unfold bd2 at this
    rw [show k + 1 - 1 = k by omega] at this
    have q : 0 ≤ b d (k + 1) - (b d k + l d k) ∧ b d (k + 1) - (b d k + l d k) ≤ wt B (nF B d + k) := Classical.byContradiction fun z => this ⟨by omega, z⟩
    omega
theorem s_judgedM {T : St} {B : Nat → Int} {D : Nat} {t : Int} {b l : Nat → Nat → Int} (hM : MkX T B) (hW : WF B) (hD2 : D < 2 ^ (B 16).toNat) (hn : sn D 8 ≤ 4) (ht : 1 ≤ t ∧ t ≤ 60) (hR : RwM T B D b l) (hg : rgR B D b l) : ok_m_judged T (iz t) ∧ (fun r : Int32 × St => JV B D t b l r.1) (x_m_judged T (iz t)) := by
  have h12 : ps B D 8 ≤ 12 := by have := ps_3 hW hD2 8; omega
  have hD := mem_lt hW hD2
  obtain ⟨w1, w2, w3⟩ := WF_h hW
  refine so_m_judged (Q := fun r : Int32 × St => JV B D t b l r.1) _ ?_
  unfold wp_m_judged
  refine wr_m_judged_2 _ (fun v U => T = U ∧ ∃ i : Nat, i ≤ ps B D 8 ∧ v = iz i ∧ ∀ j e k, At B D j e k → j < i → ¬ bd1 b l e k) (fun v U => 12 - v.toInt.toNat) ?_ _ _ _ (by show 12 - (0 : Int32).toInt.toNat < 1000; omega) ⟨rfl, 0, Nat.zero_le _, rfl, fun _ _ _ _ h => absurd h (Nat.not_lt_zero _)⟩
  rintro _ _ ⟨rfl, i, hi, rfl, u1⟩
  unfold bd_m_judged_2
  rw [hR.1, iz_le (by omega)]
  refine ⟨fun q => ?_, fun q => ?_⟩
  · have n1 : NR B D (bd1 b l) := fun j e k h => u1 j e k h (by have := At_lt h; omega)
    have rg : ∀ d k, d < 8 → D.testBit d = true → k < nO B d → 0 ≤ b d k ∧ b d k + l d k ≤ 60 ∧ 1 ≤ l d k := fun d k h1 h2 h3 => by
      have := n1 _ d k ⟨h1, h2, h3, rfl⟩
      have g := hg d k h1 h2 h3
      unfold bd1 at this
      omega
    refine wr_m_judged_55 _ (fun v V => T = V ∧ ∃ i : Nat, i ≤ ps B D 8 ∧ v = iz i ∧ ∀ j e k, At B D j e k → j < i → ¬ bd2 B b l e k) (fun v U => 12 - v.toInt.toNat) ?_ _ _ _ (by show 12 - (0 : Int32).toInt.toNat < 1000; omega) ⟨rfl, 0, Nat.zero_le _, rfl, fun _ _ _ _ h => absurd h (Nat.not_lt_zero _)⟩
    rintro _ _ ⟨rfl, i, hi, rfl, u2⟩
    unfold bd_m_judged_55
    rw [hR.1, iz_le (by omega)]
    refine ⟨fun q => ?_, fun q => ?_⟩
    · have n2 : NR B D (bd2 B b l) := fun j e k h => u2 j e k h (by have := At_lt h; omega)
      have hs := sq_NR hg n1 n2
      refine wr_m_judged_122 _ (fun v W => T = W ∧ ∃ i : Nat, i ≤ ps B D 8 ∧ v = iz i ∧ ∀ j e k, At B D j e k → j < i → ¬ bd3 B t b l e k) (fun v U => 12 - v.toInt.toNat) ?_ _ _ _ (by show 12 - (0 : Int32).toInt.toNat < 1000; omega) ⟨rfl, 0, Nat.zero_le _, rfl, fun _ _ _ _ h => absurd h (Nat.not_lt_zero _)⟩
      rintro _ _ ⟨rfl, i, hi, rfl, u3⟩
      unfold bd_m_judged_122
      rw [hR.1, iz_le (by omega)]
      refine ⟨fun q => ?_, fun q => ?_⟩
      · have n3 : NR B D (bd3 B t b l) := fun j e k h => u3 j e k h (by have := At_lt h; omega)
        obtain ⟨oc, lc⟩ := s_clear T
        have fc : Fr _ T _ := fr_m_clearLevel oc
        refine ⟨oc, ?_⟩
        generalize x_m_clearLevel T = C at *
        have hMc : MkX C B := MkX_fr fc (by unfold W_m_clearLevel; omega) hM
        have hRc : RwM C B D b l := RwM_fr fc (fun c hc hw => by unfold W_m_clearLevel at hw; omega) hR
        refine lvl_j hMc hW hD2 h12 hRc hs lc (fun v w Z z1 z2 => ?_)
        have hMz : MkX Z B := MkX_fr z1 (by omega) hMc
        have z2' : Lv Z 0 (lvN B D b l (ps B D 8)) := Lv_cg (fun w m hw _ => (lv_end hW hD2 hw).symm) z2
        have bb : ∀ m, m < 60 → (∀ w, w < 5 → 0 ≤ tv B D b l 8 w m ∧ tv B D b l 8 w m ≤ 1000) ∧ 0 ≤ tv B D b l 8 5 m ∧ tv B D b l 8 5 m ≤ 9 ∧ 0 ≤ tv B D b l 8 6 m ∧ tv B D b l 8 6 m ≤ 9 := fun m _ => by
          have lb := lv_b (b := b) (l := l) (m := m) hW hD2 (Nat.le_refl (ps B D 8))
          refine ⟨fun w hw => ?_, ?_⟩
          · rw [← lv_end hW hD2 (by omega)]; have := lb.1 w hw; omega
          · rw [← lv_end hW hD2 (by omega), ← lv_end hW hD2 (by omega)]; exact lb.2
        obtain ⟨ol', el⟩ := s_lacks (l := 0) (h := B 5) (o := B 203) hMz hW (by omega) (by omega) w2 z2 bb
        have ol2 : ok_m_lacks Z 0 (iz (B 5)) (iz (B 203)) := ol'
        have el2 : x_m_lacks Z 0 (iz (B 5)) (iz (B 203)) = iz (lkr (lkw B (B 5) (B 203) (tv B D b l 8)) 60 0) := el
        have lb := lkr_b (W := lkw B (B 5) (B 203) (tv B D b l 8)) (fun m => lkw_b) 60 0
        rw [n_5, show (203 : Int32).toNatClampNeg = 203 from rfl, hMz 5 (by omega), hMz 203 (by omega), el2]
        refine ⟨ol2, jo ?_⟩
        have e : (iz (lkr (lkw B (B 5) (B 203) (tv B D b l 8)) 60 0) = -1000000) ↔ lkr (lkw B (B 5) (B 203) (tv B D b l 8)) 60 0 = -1000000 := by rw [show (-1000000 : Int32) = iz (-1000000) from rfl, iz_eq (by omega)]
        rw [e]
        refine ⟨fun y => Or.inr (Or.inr (Or.inr ⟨n1, n2, n3, ?_⟩)), fun y => Or.inr (Or.inr (Or.inr ⟨n1, n2, n3, ?_⟩))⟩
        · unfold fnl; rw [if_pos y]; rfl
        · unfold fnl; rw [if_neg y, z_1000, iz_add]
      · obtain ⟨d, k, h⟩ := At_ex (B := B) (D := D) (i := i) (by omega)
        obtain ⟨r1, r2, r3⟩ := rg d k h.1 h.2.1 h.2.2.1
        have hdB := hD d h.2.1
        have d8 := h.1
        have wk := (wf_d hW hdB).1
        have nx : iz (i : Int) + 1 = iz ((i + 1 : Nat) : Int) := by rw [z_1, iz_add]; exact iz_inj (by omega)
        have ms : 12 - (iz ((i + 1 : Nat) : Int)).toInt.toNat < 12 - (iz (i : Int)).toInt.toNat := by rw [iz_t (by omega), iz_t (by omega)]; omega
        obtain ⟨ol', el⟩ := r_last hM hW hD2 h12 hR h
        obtain ⟨oe, ee⟩ := r_end hM hW hD2 h12 hR h
        obtain ⟨od, ed⟩ := s_dishBy (k := k) hM hW hdB h.2.2.1
        have go : ¬ bd3 B t b l d k → (T = T ∧ ∃ i' : Nat, i' ≤ ps B D 8 ∧ iz ((i + 1 : Nat) : Int) = iz i' ∧ ∀ j e k, At B D j e k → j < i' → ¬ bd3 B t b l e k) ∧ 12 - (iz ((i + 1 : Nat) : Int)).toInt.toNat < 12 - (iz (i : Int)).toInt.toNat := fun nb => ⟨⟨rfl, i + 1, by omega, rfl, fun j e k' h2 hj => by
          by_cases y : j = i
          · subst y
            obtain ⟨y1, y2⟩ := At_u h h2
            rw [← y1, ← y2]; exact nb
          · exact u3 j e k' h2 (by omega)⟩, ms⟩
        rw [nx, ee, ix_nat (by omega), (hR.2 i d k h).1, ed, md0 hM (by omega), Int.toNat_natCast, iz_sub, lz_w (by omega), lz_w (by omega), y_0, m_in (by omega)]
        refine ⟨ol', fun z => go (fun y => by have := el.1 z; have := y.1; omega), fun z => ⟨oe, in_nat (by omega) (by omega), od, okd0 (by omega), fun y => ?_, fun y => go (fun x => y x.2)⟩⟩
        have kl : k + 1 = nO B d := by
          rcases Nat.lt_or_ge (k + 1) (nO B d) with x | x
          · exact absurd (el.2 x) z
          · have := h.2.2.1; omega
        refine Or.inr (Or.inr (Or.inl ⟨n1, n2, i, ⟨d, k, h, ⟨kl, y⟩, u3⟩, ?_⟩))
        show (3 : Int32) + 10 * iz (i : Int) = _
        rw [z_3, z_10, iz_mul, iz_add]
    · obtain ⟨d, k, h⟩ := At_ex (B := B) (D := D) (i := i) (by omega)
      obtain ⟨r1, r2, r3⟩ := rg d k h.1 h.2.1 h.2.2.1
      have hdB := hD d h.2.1
      have nx : iz (i : Int) + 1 = iz ((i + 1 : Nat) : Int) := by rw [z_1, iz_add]; exact iz_inj (by omega)
      have ms : 12 - (iz ((i + 1 : Nat) : Int)).toInt.toNat < 12 - (iz (i : Int)).toInt.toNat := by rw [iz_t (by omega), iz_t (by omega)]; omega
      obtain ⟨of, ef⟩ := r_first hM hW hD2 h12 hR h
      have go : ¬ bd2 B b l d k → (T = T ∧ ∃ i' : Nat, i' ≤ ps B D 8 ∧ iz ((i + 1 : Nat) : Int) = iz i' ∧ ∀ j e k, At B D j e k → j < i' → ¬ bd2 B b l e k) ∧ 12 - (iz ((i + 1 : Nat) : Int)).toInt.toNat < 12 - (iz (i : Int)).toInt.toNat := fun nb => ⟨⟨rfl, i + 1, by omega, rfl, fun j e k' h2 hj => by
        by_cases y : j = i
        · subst y
          obtain ⟨y1, y2⟩ := At_u h h2
          rw [← y1, ← y2]; exact nb
        · exact u2 j e k' h2 (by omega)⟩, ms⟩
      rw [nx]
      refine ⟨of, fun z => ?_, fun z => go (fun y => z (ef.2 y.1))⟩
      have k0 := ef.1 z
      have hp := At_p h k0
      have il := At_lt h
      have i0 : 0 < i := by have := h.2.2.2; omega
      obtain ⟨p1, p2, p3⟩ := rg d (k - 1) hp.1 hp.2.1 hp.2.2.1
      obtain ⟨oe, ee⟩ := r_end hM hW hD2 h12 hR hp
      obtain ⟨fk1, fk2⟩ := wf_fk hW hdB hp.2.2.1
      have ww := (wf_s hW hdB hp.2.2.1).2.2.1
      have em : iz (i : Int) - 1 = iz ((i - 1 : Nat) : Int) := by rw [z_1, iz_sub]; exact iz_inj (by omega)
      rw [em, ee, ix_nat (by omega), ix_nat (by omega), (hR.2 i d k h).2.1, (hR.2 _ d (k - 1) hp).1, ms2 hM (by omega), Int.toNat_natCast, iz_sub, lz_w (by omega), lz_w (by omega), y_0, m_in (by omega)]
      refine ⟨in_nat (by omega) (by omega), oe, in_nat (by omega) (by omega), oks2 (by omega), fun y => ?_, fun y => go (fun x => y x.2)⟩
      refine Or.inr (Or.inl ⟨n1, i, ⟨d, k, h, ⟨k0, y⟩, u2⟩, ?_⟩)
      show (2 : Int32) + 10 * iz (i : Int) = _
      rw [z_2, z_10, iz_mul, iz_add]
  · obtain ⟨d, k, h⟩ := At_ex (B := B) (D := D) (i := i) (by omega)
    obtain ⟨g1, g2, g3⟩ := hg d k h.1 h.2.1 h.2.2.1
    have nx : iz (i : Int) + 1 = iz ((i + 1 : Nat) : Int) := by rw [z_1, iz_add]; exact iz_inj (by omega)
    have ms : 12 - (iz ((i + 1 : Nat) : Int)).toInt.toNat < 12 - (iz (i : Int)).toInt.toNat := by rw [iz_t (by omega), iz_t (by omega)]; omega
    obtain ⟨oe, ee⟩ := r_end hM hW hD2 h12 hR h
    rw [nx, ee, ix_nat (by omega), (hR.2 i d k h).2.1, lt0 (by omega), z_59, iz_lt (by omega)]
    have bad : bd1 b l d k → JV B D t b l (1 + 10 * iz (i : Int)) := fun y => by
      refine Or.inl ⟨i, ⟨d, k, h, y, u1⟩, ?_⟩
      rw [z_1, z_10, iz_mul, iz_add]
    refine ⟨in_nat (by omega) (by omega), jo ⟨fun z => bad (Or.inl z), fun z => ⟨fun z2 => bad (Or.inr (by omega)), fun z2 => ⟨oe, ?_⟩⟩⟩⟩
    rw [z_60, iz_le (by omega)]
    refine ⟨fun z3 => ⟨⟨rfl, i + 1, by omega, rfl, fun j e k' h2 hj => ?_⟩, ms⟩, fun z3 => bad (Or.inr (by omega))⟩
    by_cases y : j = i
    · subst y
      obtain ⟨y1, y2⟩ := At_u h h2
      rw [← y1, ← y2]; unfold bd1; omega
    · exact u1 j e k' h2 (by omega)
