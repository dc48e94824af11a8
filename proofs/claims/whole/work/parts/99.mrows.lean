/-! ===== the reference's rows ===== -/
def RwM (T : St) (B : Nat → Int) (D : Nat) (b l : Nat → Nat → Int) : Prop := T.1 571 39 = iz (ps B D 8) ∧ ∀ i d k, At B D i d k → T.2.2.1 594 i = iz ((nF B d + k : Nat) : Int) ∧ T.2.2.1 595 i = iz (b d k) ∧ T.2.2.1 596 i = iz (l d k - lg B (nF B d + k))
theorem RwM_fr {W : Nat → Prop} {T U : St} {B : Nat → Int} {D : Nat} {b l : Nat → Nat → Int} (h : Fr W T U) (n : ∀ c, (c = 594 ∨ c = 595 ∨ c = 596 ∨ c = 67139) → ¬ W c) (i : RwM T B D b l) : RwM U B D b l := by
  refine ⟨by rw [q_F h (n _ (by omega))]; exact i.1, fun j d k ha => ?_⟩
  rw [q_A h (n 594 (by omega)), q_A h (n 595 (by omega)), q_A h (n 596 (by omega))]
  exact i.2 j d k ha
theorem s_dishBy {T : St} {B : Nat → Int} {d k : Nat} (hM : MkX T B) (hW : WF B) (hd : (d : Int) < B 16) (hk : k < nO B d) : ok_m_dishBy T (iz ((nF B d + k : Nat) : Int)) ∧ x_m_dishBy T (iz ((nF B d + k : Nat) : Int)) = iz d := by
  have h8 := hW.2.2.1
  obtain ⟨fk1, fk2⟩ := wf_fk hW hd hk
  have fd := wf_f hW hd
  have nd := wf_n hW hd
  refine so_m_dishBy (Q := fun r => r = iz d) _ ?_
  unfold wp_m_dishBy
  refine wr_m_dishBy_4 T _ (fun v2 v3 => ∃ e : Nat, (e : Int) ≤ B 16 ∧ v3 = iz e ∧ v2 = iz (((if e ≤ d then e - 1 else d) : Nat) : Int)) (fun v2 v3 => 8 - v3.toInt.toNat) ?_ _ _ _ ?_ ⟨0, by omega, rfl, rfl⟩
  · rintro _ _ ⟨e, he, rfl, rfl⟩
    unfold bd_m_dishBy_4
    rw [n_16, hM 16 (by omega), iz_le (by omega)]
    refine ⟨fun q => ?_, fun q => ?_⟩
    · rw [if_neg (show ¬ e ≤ d by omega)]
    · have heB : (e : Int) < B 16 := by omega
      have fe := wf_f hW heB
      have nx : iz (e : Int) + 1 = iz ((e + 1 : Nat) : Int) := by rw [z_1, iz_add]; exact iz_inj (by omega)
      have ms : 8 - (iz ((e + 1 : Nat) : Int)).toInt.toNat < 8 - (iz (e : Int)).toInt.toNat := by rw [iz_t (by omega), iz_t (by omega)]; omega
      have sm3 := wf_sm hW e (by omega)
      rw [md4 hM (by omega), Int.toNat_natCast, iz_lt (by omega), nx]
      have key : ((nF B d + k : Nat) : Int) < bFst B e ↔ d < e := by
        constructor
        · intro z
          rcases Nat.lt_or_ge d e with y | y
          · exact y
          · have := wf_mono hW (d := e) (d - e) (by omega)
            rw [show e + (d - e) = d by omega] at this
            omega
        · intro z
          have := wf_mono hW (d := d + 1) (e - (d + 1)) (by omega)
          rw [show d + 1 + (e - (d + 1)) = e by omega] at this
          have h4 : sm (bOwn B) (d + 1) = sm (bOwn B) d + bOwn B d := rfl
          omega
      rw [key]
      refine ⟨okd4 (by omega), fun z => ⟨⟨e + 1, by omega, rfl, ?_⟩, ms⟩, fun z => ⟨⟨e + 1, by omega, rfl, ?_⟩, ms⟩⟩
      · rw [if_neg (by omega), if_neg (by omega)]
      · rcases (show e + 1 ≤ d ∨ e = d by omega) with y | y
        · rw [if_pos y]; exact iz_inj (by omega)
        · rw [if_neg (by omega), y]
  · show 8 - (0 : Int32).toInt.toNat < 1000
    omega
section RM
variable {T : St} {B : Nat → Int} {D : Nat} {b l : Nat → Nat → Int} {i d k : Nat}
theorem r_first (hM : MkX T B) (hW : WF B) (hD2 : D < 2 ^ (B 16).toNat) (h12 : ps B D 8 ≤ 12) (hR : RwM T B D b l) (h : At B D i d k) : ok_m_isFirst T (iz i) ∧ (x_m_isFirst T (iz i) = 0 ↔ 0 < k) := by
  have hD := mem_lt hW hD2
  have il := At_lt h
  refine so_m_isFirst (Q := fun r => r = 0 ↔ 0 < k) _ ?_
  unfold wp_m_isFirst
  rw [eq0 (by omega)]
  refine ⟨fun q => ?_, fun q => ?_⟩
  · have hk : k = 0 := by have := h.2.2.2; omega
    exact ⟨fun z => absurd z (by decide), fun z => by omega⟩
  · have i0 : 0 < i := by omega
    obtain ⟨e, j, h2⟩ := At_ex (B := B) (D := D) (i := i - 1) (by omega)
    obtain ⟨o1, e1⟩ := s_dishBy (k := k) hM hW (hD d h.2.1) h.2.2.1
    obtain ⟨o2, e2⟩ := s_dishBy (k := j) hM hW (hD e h2.2.1) h2.2.2.1
    have em : iz (i : Int) - 1 = iz ((i - 1 : Nat) : Int) := by rw [z_1, iz_sub]; exact iz_inj (by omega)
    have de : d < 8 ∧ e < 8 := ⟨h.1, h2.1⟩
    rw [em, ix_nat (by omega), ix_nat (by omega), (hR.2 i d k h).1, (hR.2 _ e j h2).1, e1, e2, iz_eq (by omega)]
    refine ⟨in_nat (by omega) (by omega), o1, in_nat (by omega) (by omega), o2, fun z => ?_, fun z => ?_⟩
    · refine ⟨fun _ => ?_, fun _ => rfl⟩
      rcases Nat.eq_zero_or_pos k with y | y
      · subst y
        have := (At_f (k := 0) h i0 h2).2
        omega
      · exact y
    · refine ⟨fun y => absurd y (by decide), fun y => ?_⟩
      have := (At_u (At_p h y) h2).1
      exact absurd (by rw [this]) z
theorem r_last (hM : MkX T B) (hW : WF B) (hD2 : D < 2 ^ (B 16).toNat) (h12 : ps B D 8 ≤ 12) (hR : RwM T B D b l) (h : At B D i d k) : ok_m_isLast T (iz i) ∧ (x_m_isLast T (iz i) = 0 ↔ k + 1 < nO B d) := by
  have hD := mem_lt hW hD2
  have il := At_lt h
  refine so_m_isLast (Q := fun r => r = 0 ↔ k + 1 < nO B d) _ ?_
  unfold wp_m_isLast
  rw [hR.1, z_1, iz_sub, iz_eq (by omega)]
  refine ⟨fun q => ?_, fun q => ?_⟩
  · refine ⟨fun z => absurd z (by decide), fun z => ?_⟩
    have := At_lt (At_s h z)
    omega
  · obtain ⟨e, j, h2⟩ := At_ex (B := B) (D := D) (i := i + 1) (by omega)
    obtain ⟨o1, e1⟩ := s_dishBy (k := k) hM hW (hD d h.2.1) h.2.2.1
    obtain ⟨o2, e2⟩ := s_dishBy (k := j) hM hW (hD e h2.2.1) h2.2.2.1
    have em : iz (i : Int) + iz 1 = iz ((i + 1 : Nat) : Int) := by rw [iz_add]; exact iz_inj (by omega)
    have de : d < 8 ∧ e < 8 := ⟨h.1, h2.1⟩
    rw [em, ix_nat (by omega), ix_nat (by omega), (hR.2 i d k h).1, (hR.2 _ e j h2).1, e1, e2, iz_eq (by omega)]
    refine ⟨in_nat (by omega) (by omega), o1, in_nat (by omega) (by omega), o2, fun z => ?_, fun z => ?_⟩
    · refine ⟨fun _ => ?_, fun _ => rfl⟩
      rcases Nat.lt_or_ge (k + 1) (nO B d) with y | y
      · exact y
      · have := (At_n h (by have := h.2.2.1; omega) h2).2
        omega
    · refine ⟨fun y => absurd y (by decide), fun y => ?_⟩
      have := (At_u (At_s h y) h2).1
      exact absurd (by rw [this]) z
theorem r_end (hM : MkX T B) (hW : WF B) (hD2 : D < 2 ^ (B 16).toNat) (h12 : ps B D 8 ≤ 12) (hR : RwM T B D b l) (h : At B D i d k) : ok_m_endOf T (iz i) ∧ x_m_endOf T (iz i) = iz (b d k + l d k) := by
  have il := At_lt h
  obtain ⟨fk1, fk2⟩ := wf_fk hW (mem_lt hW hD2 d h.2.1) h.2.2.1
  obtain ⟨r1, r2, r3⟩ := hR.2 i d k h
  unfold ok_m_endOf x_m_endOf
  rw [ix_nat (by omega), r1, r2, r3, ms1 hM (by omega), Int.toNat_natCast, iz_add, iz_add]
  exact ⟨⟨in_nat (by omega) (by omega), oks1 (by omega), trivial⟩, iz_inj (by omega)⟩
end RM
theorem sm_bd {f : Nat → Int} : ∀ n : Nat, (∀ j, j < n → 0 ≤ f j ∧ f j ≤ 1) → 0 ≤ sm f n ∧ sm f n ≤ n := by
  intro n
  induction n with
  | zero => intro _; exact ⟨Int.le_refl 0, Int.le_refl 0⟩
  | succ n ih =>
    intro h
    have h1 := ih fun j hj => h j (by omega)
    have h2 := h n (by omega)
    show 0 ≤ sm f n + f n ∧ sm f n + f n ≤ ((n + 1 : Nat) : Int)
    omega
theorem lv_b {B : Nat → Int} {D : Nat} {b l : Nat → Nat → Int} (hW : WF B) (hD2 : D < 2 ^ (B 16).toNat) {i m : Nat} (hi : i ≤ ps B D 8) : (∀ w, w < 5 → 0 ≤ lvN B D b l i w m ∧ lvN B D b l i w m ≤ i) ∧ 0 ≤ lvN B D b l i 5 m ∧ lvN B D b l i 5 m ≤ 9 ∧ 0 ≤ lvN B D b l i 6 m ∧ lvN B D b l i 6 m ≤ 9 := by
  have hD := mem_lt hW hD2
  have r : ∀ (F : Nat → Nat → Int) (P : Int → Prop), (∀ d k, d < 8 → D.testBit d = true → k < nO B d → P (F d k)) → ∀ j, j < i → P (rbF B D F j) := fun F P hF j hj => by
    obtain ⟨d, k, h⟩ := At_ex (B := B) (D := D) (i := j) (by omega)
    rw [h.2.2.2, rb_s h.2.1 h.2.2.1]
    exact hF d k h.1 h.2.1 h.2.2.1
  have ws : ∀ d k, d < 8 → D.testBit d = true → k < nO B d → (kd B (nF B d + k) = 2 → 0 ≤ on B (nF B d + k) ∧ on B (nF B d + k) ≤ tw B (nF B d + k) ∧ tw B (nF B d + k) ≤ 9) := fun d k _ h2 h3 => (wf_s hW (hD d h2) h3).2.2.2.2.2.1
  refine ⟨fun w hw => ?_, ?_, ?_, ?_, ?_⟩
  · rcases (show w < 4 ∨ w = 4 by omega) with q | q
    · unfold lvN
      rw [if_pos q]
      exact sm_bd i (r _ (fun x => 0 ≤ x ∧ x ≤ 1) (fun d k _ _ _ => ub_b))
    · subst q
      show 0 ≤ sm _ i ∧ sm _ i ≤ _
      refine sm_bd i (r _ (fun x => 0 ≤ x ∧ x ≤ 1) (fun d k _ _ _ => ?_))
      split
      · exact ⟨ud_nn, ud_4.1⟩
      · omega
  · exact mxx_nn _
  · exact mxx_b9 i (r _ (fun x => x ≤ 9) (fun d k h1 h2 h3 => (ol_b (ws d k h1 h2 h3)).2))
  · exact mnn_b0 i (r _ (fun x => 0 ≤ x) (fun d k h1 h2 h3 => (oh_b (ws d k h1 h2 h3)).1))
  · exact mnn_9 _
theorem lvl_j {T : St} {B : Nat → Int} {D : Nat} {b l : Nat → Nat → Int} {t0 : Int32} {Kk : Int32 → Int32 → St → Prop} {Q : Int32 × St → Prop} (hM : MkX T B) (hW : WF B) (hD2 : D < 2 ^ (B 16).toNat) (h12 : ps B D 8 ≤ 12) (hR : RwM T B D b l) (hs : ∀ d, d < 8 → D.testBit d = true → sq B d (b d) (l d)) (hL : Lv T 0 lv0) (fin : ∀ v w U, Fr (fun c => 578 ≤ c ∧ c < 585) T U → Lv U 0 (tv B D b l 8) → Kk v w U) : wp_m_judged_190 t0 Kk Q 1000 0 0 T := by
  have hD := mem_lt hW hD2
  refine wr_m_judged_190 _ (fun v2 v3 U => ∃ i : Nat, i ≤ ps B D 8 ∧ v3 = iz i ∧ Fr (fun c => 578 ≤ c ∧ c < 585) T U ∧ Lv U 0 (lvN B D b l i) ∧ ∀ d k, At B D i d k → 0 < k → v2 = iz (b d 0)) (fun v2 v3 U => 12 - v3.toInt.toNat) ?_ _ _ _ _ ?_ ?_
  · rintro v2 _ U ⟨i, hi, rfl, u1, u2, u3⟩
    have hM1 : MkX U B := MkX_fr u1 (by omega) hM
    have hR1 : RwM U B D b l := RwM_fr u1 (fun c hc hw => by omega) hR
    unfold bd_m_judged_190
    rw [hR1.1, iz_le (by omega)]
    refine ⟨fun q => ?_, fun q => ?_⟩
    · have e : i = ps B D 8 := by omega
      subst e
      exact fin _ _ U u1 (Lv_cg (fun w m hw _ => lv_end hW hD2 hw) u2)
    · obtain ⟨d, k, h⟩ := At_ex (B := B) (D := D) (i := i) (by omega)
      have hdB := hD d h.2.1
      obtain ⟨fk1, fk2⟩ := wf_fk hW hdB h.2.2.1
      have sd := hs d h.1 h.2.1
      obtain ⟨b1, b2, b3⟩ := sd.1 k h.2.2.1
      obtain ⟨r1, r2, r3⟩ := hR1.2 i d k h
      obtain ⟨oe, ee⟩ := r_end hM1 hW hD2 h12 hR1 h
      have nx : iz (i : Int) + 1 = iz ((i + 1 : Nat) : Int) := by rw [z_1, iz_add]; exact iz_inj (by omega)
      have ms : 12 - (iz ((i + 1 : Nat) : Int)).toInt.toNat < 12 - (iz (i : Int)).toInt.toNat := by rw [iz_t (by omega), iz_t (by omega)]; omega
      have h5 : ∀ m, m < 60 → 0 ≤ lvN B D b l i 5 m ∧ lvN B D b l i 5 m ≤ 9 ∧ 0 ≤ lvN B D b l i 6 m ∧ lvN B D b l i 6 m ≤ 9 := fun m _ => (lv_b hW hD2 hi).2
      obtain ⟨oa, la, _⟩ := s_addStep (l := 0) (s := nF B d + k) (b := b d k) (la := l d k) hM1 (wf_s hW hdB h.2.2.1) (by omega) (by omega) b1 (by omega) b3 u2 h5
      have oa' : ok_m_addStep U 0 (iz ((nF B d + k : Nat) : Int)) (iz (b d k)) (iz (l d k)) := oa
      have fa : Fr _ U (x_m_addStep U 0 (iz ((nF B d + k : Nat) : Int)) (iz (b d k)) (iz (l d k))) := fr_m_addStep _ _ _ _ oa'
      have la' : Lv (x_m_addStep U 0 (iz ((nF B d + k : Nat) : Int)) (iz (b d k)) (iz (l d k))) 0 (fun w m => if w = 4 then lvN B D b l i 4 m else lvN B D b l (i + 1) w m) := Lv_cg (fun w m hw _ => lv_ads h hw) la
      rw [ix_nat (by omega), r1, r2, ee, iz_sub, show b d k + l d k - b d k = l d k by omega, nx]
      refine ⟨in_nat (by omega) (by omega), oe, oa', jo ?_⟩
      generalize x_m_addStep U 0 (iz ((nF B d + k : Nat) : Int)) (iz (b d k)) (iz (l d k)) = V at *
      have v1 : Fr (fun c => 578 ≤ c ∧ c < 585) T V := fr_tr u1 fa (fun c hc => by unfold W_m_addStep at hc; omega)
      have hM2 : MkX V B := MkX_fr v1 (by omega) hM
      have hR2 : RwM V B D b l := RwM_fr v1 (fun c hc hw => by omega) hR
      obtain ⟨of, ef⟩ := r_first hM2 hW hD2 h12 hR2 h
      obtain ⟨ol', el⟩ := r_last hM2 hW hD2 h12 hR2 h
      obtain ⟨oe2, ee2⟩ := r_end hM2 hW hD2 h12 hR2 h
      obtain ⟨q1, q2, q3⟩ := hR2.2 i d k h
      obtain ⟨od, ed⟩ := s_dishBy (k := k) hM2 hW hdB h.2.2.1
      have d8 := h.1
      try dsimp only
      rw [q1, q2, ed, ee2, md2 hM2 (by omega), Int.toNat_natCast, z_1]
      have wp := (wf_d hW hdB).2.2.1
      rw [iz_eq (by omega)]
      have rest : ∀ x : Int32, x = iz (b d 0) → (ok_m_isLast V (iz i)) ∧ ((x_m_isLast V (iz i) = 0 → (∃ j : Nat, j ≤ ps B D 8 ∧ iz ((i + 1 : Nat) : Int) = iz j ∧ Fr (fun c => 578 ≤ c ∧ c < 585) T V ∧ Lv V 0 (lvN B D b l j) ∧ ∀ d k, At B D j d k → 0 < k → x = iz (b d 0)) ∧ 12 - (iz ((i + 1 : Nat) : Int)).toInt.toNat < 12 - (iz (i : Int)).toInt.toNat) ∧ (¬ x_m_isLast V (iz i) = 0 → (ok_m_dishBy V (iz ((nF B d + k : Nat) : Int))) ∧ (ok_m_dishOf V (iz d) 2) ∧ ((bPan B d = 1 → (ok_m_endOf V (iz i)) ∧ (ok_m_addPan V 0 x (iz (b d k + l d k))) ∧ (∃ j : Nat, j ≤ ps B D 8 ∧ iz ((i + 1 : Nat) : Int) = iz j ∧ Fr (fun c => 578 ≤ c ∧ c < 585) T (x_m_addPan V 0 x (iz (b d k + l d k))) ∧ Lv (x_m_addPan V 0 x (iz (b d k + l d k))) 0 (lvN B D b l j) ∧ ∀ d k, At B D j d k → 0 < k → x = iz (b d 0)) ∧ 12 - (iz ((i + 1 : Nat) : Int)).toInt.toNat < 12 - (iz (i : Int)).toInt.toNat) ∧ (¬ bPan B d = 1 → (∃ j : Nat, j ≤ ps B D 8 ∧ iz ((i + 1 : Nat) : Int) = iz j ∧ Fr (fun c => 578 ≤ c ∧ c < 585) T V ∧ Lv V 0 (lvN B D b l j) ∧ ∀ d k, At B D j d k → 0 < k → x = iz (b d 0)) ∧ 12 - (iz ((i + 1 : Nat) : Int)).toInt.toNat < 12 - (iz (i : Int)).toInt.toNat)))) := by
        intro x hx
        subst hx
        have nxt : ∀ e j, At B D (i + 1) e j → 0 < j → iz (b d 0) = iz (b e 0) := fun e j h2 hj => by
          rcases Nat.lt_or_ge (k + 1) (nO B d) with y | y
          · rw [(At_u (At_s h y) h2).1]
          · have := (At_n h (by have := h.2.2.1; omega) h2).1; omega
        refine ⟨ol', fun z => ⟨⟨i + 1, by omega, rfl, v1, Lv_cg (fun w m hw _ => ?_) la', nxt⟩, ms⟩, fun z => ⟨od, okd2 (by omega), fun p => ?_, fun p => ⟨⟨i + 1, by omega, rfl, v1, Lv_cg (fun w m hw _ => ?_) la', nxt⟩, ms⟩⟩⟩
        · have kl := el.1 z
          by_cases w4 : w = 4
          · subst w4
            rw [if_pos rfl, lv_4 h, if_neg (by omega)]; omega
          · rw [if_neg w4]
        · have kl : k + 1 = nO B d := by
            rcases Nat.lt_or_ge (k + 1) (nO B d) with y | y
            · exact absurd (el.2 y) z
            · have := h.2.2.1; omega
          have b0 := sd.1 0 (by omega)
          have bk : b d 0 ≤ b d k := by
            rcases Nat.eq_zero_or_pos k with y | y
            · rw [y]; exact Int.le_refl _
            · have := sq_lt sd (k - 1) 0 (by omega)
              rw [show 0 + (k - 1) + 1 = k by omega] at this
              omega
          obtain ⟨op, lp, _⟩ := s_addPan (l := 0) (b := b d 0) (e := b d k + l d k) (by omega) b0.1 (by omega) la'
          have op' : ok_m_addPan V 0 (iz (b d 0)) (iz (b d k + l d k)) := op
          have fp : Fr _ V (x_m_addPan V 0 (iz (b d 0)) (iz (b d k + l d k))) := fr_m_addPan _ _ _ op'
          refine ⟨oe2, op', ⟨i + 1, by omega, rfl, fr_tr v1 fp (fun c hc => by unfold W_m_addPan at hc; omega), Lv_cg (fun w m hw _ => ?_) lp, nxt⟩, ms⟩
          unfold adp
          dsimp only
          by_cases w4 : w = 4
          · subst w4
            show (if 4 = 4 ∧ b d 0 ≤ (m : Int) ∧ (m : Int) < b d k + l d k then lvN B D b l i 4 m + 1 else lvN B D b l i 4 m) = _
            rw [lv_4 h, if_pos kl]
            have eu : ud B 4 d (b d) (l d) m = if bPan B d = 1 ∧ b d 0 ≤ m ∧ (m : Int) < b d (nO B d - 1) + l d (nO B d - 1) then 1 else 0 := rfl
            rw [eu, show nO B d - 1 = k by omega]
            by_cases c : b d 0 ≤ m ∧ (m : Int) < b d k + l d k
            · rw [if_pos ⟨rfl, c⟩, if_pos ⟨p, c⟩]
            · rw [if_neg (fun y => c y.2), if_neg (fun y => c y.2)]; omega
          · rw [if_neg (fun y => w4 y.1), if_neg w4]
        · by_cases w4 : w = 4
          · subst w4
            have eu : ud B 4 d (b d) (l d) m = if bPan B d = 1 ∧ b d 0 ≤ m ∧ (m : Int) < b d (nO B d - 1) + l d (nO B d - 1) then 1 else 0 := rfl
            have e0 : ud B 4 d (b d) (l d) m = 0 := by rw [eu, if_neg (fun y => p y.1)]
            rw [if_pos rfl, lv_4 h, e0]
            split <;> omega
          · rw [if_neg w4]
      refine ⟨of, jo ⟨fun z => rest _ (u3 d k h (ef.1 z)), fun z => rest _ ?_⟩⟩
      have : k = 0 := by
        rcases Nat.eq_zero_or_pos k with y | y
        · exact y
        · exact absurd (ef.2 y) z
      rw [this]
  · show 12 - (0 : Int32).toInt.toNat < 1000
    omega
  · refine ⟨0, Nat.zero_le _, rfl, fr_rfl, Lv_cg (fun w m hw _ => ?_) hL, fun d k h hk => ?_⟩
    · rcases (show w < 4 ∨ w = 4 ∨ w = 5 ∨ w = 6 by omega) with q | q | q | q
      · unfold lv0 lvN; rw [if_neg (by omega), if_pos q]; rfl
      · subst q; rfl
      · subst q; rfl
      · subst q; rfl
    · have := h.2.2.2; omega
theorem lvl_p {T : St} {B : Nat → Int} {D : Nat} {b l : Nat → Nat → Int} {Kk : Int32 → Int32 → St → Prop} {Q : St → Prop} (hM : MkX T B) (hW : WF B) (hD2 : D < 2 ^ (B 16).toNat) (h12 : ps B D 8 ≤ 12) (hR : RwM T B D b l) (hs : ∀ d, d < 8 → D.testBit d = true → sq B d (b d) (l d)) (hL : Lv T 0 lv0) (fin : ∀ v w U, Fr (fun c => 578 ≤ c ∧ c < 585) T U → Lv U 0 (tv B D b l 8) → Kk v w U) : wp_m_layPlan_8 Kk Q 1000 0 0 T := by
  have hD := mem_lt hW hD2
  refine wr_m_layPlan_8 (fun v2 v3 U => ∃ i : Nat, i ≤ ps B D 8 ∧ v3 = iz i ∧ Fr (fun c => 578 ≤ c ∧ c < 585) T U ∧ Lv U 0 (lvN B D b l i) ∧ ∀ d k, At B D i d k → 0 < k → v2 = iz (b d 0)) (fun v2 v3 U => 12 - v3.toInt.toNat) ?_ _ _ _ _ ?_ ?_
  · rintro v2 _ U ⟨i, hi, rfl, u1, u2, u3⟩
    have hM1 : MkX U B := MkX_fr u1 (by omega) hM
    have hR1 : RwM U B D b l := RwM_fr u1 (fun c hc hw => by omega) hR
    unfold bd_m_layPlan_8
    rw [hR1.1, iz_le (by omega)]
    refine ⟨fun q => ?_, fun q => ?_⟩
    · have e : i = ps B D 8 := by omega
      subst e
      exact fin _ _ U u1 (Lv_cg (fun w m hw _ => lv_end hW hD2 hw) u2)
    · obtain ⟨d, k, h⟩ := At_ex (B := B) (D := D) (i := i) (by omega)
      have hdB := hD d h.2.1
      obtain ⟨fk1, fk2⟩ := wf_fk hW hdB h.2.2.1
      have sd := hs d h.1 h.2.1
      obtain ⟨b1, b2, b3⟩ := sd.1 k h.2.2.1
      obtain ⟨r1, r2, r3⟩ := hR1.2 i d k h
      obtain ⟨oe, ee⟩ := r_end hM1 hW hD2 h12 hR1 h
      have nx : iz (i : Int) + 1 = iz ((i + 1 : Nat) : Int) := by rw [z_1, iz_add]; exact iz_inj (by omega)
      have ms : 12 - (iz ((i + 1 : Nat) : Int)).toInt.toNat < 12 - (iz (i : Int)).toInt.toNat := by rw [iz_t (by omega), iz_t (by omega)]; omega
      have h5 : ∀ m, m < 60 → 0 ≤ lvN B D b l i 5 m ∧ lvN B D b l i 5 m ≤ 9 ∧ 0 ≤ lvN B D b l i 6 m ∧ lvN B D b l i 6 m ≤ 9 := fun m _ => (lv_b hW hD2 hi).2
      obtain ⟨oa, la, _⟩ := s_addStep (l := 0) (s := nF B d + k) (b := b d k) (la := l d k) hM1 (wf_s hW hdB h.2.2.1) (by omega) (by omega) b1 (by omega) b3 u2 h5
      have oa' : ok_m_addStep U 0 (iz ((nF B d + k : Nat) : Int)) (iz (b d k)) (iz (l d k)) := oa
      have fa : Fr _ U (x_m_addStep U 0 (iz ((nF B d + k : Nat) : Int)) (iz (b d k)) (iz (l d k))) := fr_m_addStep _ _ _ _ oa'
      have la' : Lv (x_m_addStep U 0 (iz ((nF B d + k : Nat) : Int)) (iz (b d k)) (iz (l d k))) 0 (fun w m => if w = 4 then lvN B D b l i 4 m else lvN B D b l (i + 1) w m) := Lv_cg (fun w m hw _ => lv_ads h hw) la
      rw [ix_nat (by omega), r1, r2, ee, iz_sub, show b d k + l d k - b d k = l d k by omega, nx]
      refine ⟨in_nat (by omega) (by omega), oe, oa', jo ?_⟩
      generalize x_m_addStep U 0 (iz ((nF B d + k : Nat) : Int)) (iz (b d k)) (iz (l d k)) = V at *
      have v1 : Fr (fun c => 578 ≤ c ∧ c < 585) T V := fr_tr u1 fa (fun c hc => by unfold W_m_addStep at hc; omega)
      have hM2 : MkX V B := MkX_fr v1 (by omega) hM
      have hR2 : RwM V B D b l := RwM_fr v1 (fun c hc hw => by omega) hR
      obtain ⟨of, ef⟩ := r_first hM2 hW hD2 h12 hR2 h
      obtain ⟨ol', el⟩ := r_last hM2 hW hD2 h12 hR2 h
      obtain ⟨oe2, ee2⟩ := r_end hM2 hW hD2 h12 hR2 h
      obtain ⟨q1, q2, q3⟩ := hR2.2 i d k h
      obtain ⟨od, ed⟩ := s_dishBy (k := k) hM2 hW hdB h.2.2.1
      have d8 := h.1
      try dsimp only
      rw [q1, q2, ed, ee2, md2 hM2 (by omega), Int.toNat_natCast, z_1]
      have wp := (wf_d hW hdB).2.2.1
      rw [iz_eq (by omega)]
      have rest : ∀ x : Int32, x = iz (b d 0) → (ok_m_isLast V (iz i)) ∧ ((x_m_isLast V (iz i) = 0 → (∃ j : Nat, j ≤ ps B D 8 ∧ iz ((i + 1 : Nat) : Int) = iz j ∧ Fr (fun c => 578 ≤ c ∧ c < 585) T V ∧ Lv V 0 (lvN B D b l j) ∧ ∀ d k, At B D j d k → 0 < k → x = iz (b d 0)) ∧ 12 - (iz ((i + 1 : Nat) : Int)).toInt.toNat < 12 - (iz (i : Int)).toInt.toNat) ∧ (¬ x_m_isLast V (iz i) = 0 → (ok_m_dishBy V (iz ((nF B d + k : Nat) : Int))) ∧ (ok_m_dishOf V (iz d) 2) ∧ ((bPan B d = 1 → (ok_m_endOf V (iz i)) ∧ (ok_m_addPan V 0 x (iz (b d k + l d k))) ∧ (∃ j : Nat, j ≤ ps B D 8 ∧ iz ((i + 1 : Nat) : Int) = iz j ∧ Fr (fun c => 578 ≤ c ∧ c < 585) T (x_m_addPan V 0 x (iz (b d k + l d k))) ∧ Lv (x_m_addPan V 0 x (iz (b d k + l d k))) 0 (lvN B D b l j) ∧ ∀ d k, At B D j d k → 0 < k → x = iz (b d 0)) ∧ 12 - (iz ((i + 1 : Nat) : Int)).toInt.toNat < 12 - (iz (i : Int)).toInt.toNat) ∧ (¬ bPan B d = 1 → (∃ j : Nat, j ≤ ps B D 8 ∧ iz ((i + 1 : Nat) : Int) = iz j ∧ Fr (fun c => 578 ≤ c ∧ c < 585) T V ∧ Lv V 0 (lvN B D b l j) ∧ ∀ d k, At B D j d k → 0 < k → x = iz (b d 0)) ∧ 12 - (iz ((i + 1 : Nat) : Int)).toInt.toNat < 12 - (iz (i : Int)).toInt.toNat)))) := by
        intro x hx
        subst hx
        have nxt : ∀ e j, At B D (i + 1) e j → 0 < j → iz (b d 0) = iz (b e 0) := fun e j h2 hj => by
          rcases Nat.lt_or_ge (k + 1) (nO B d) with y | y
          · rw [(At_u (At_s h y) h2).1]
          · have := (At_n h (by have := h.2.2.1; omega) h2).1; omega
        refine ⟨ol', fun z => ⟨⟨i + 1, by omega, rfl, v1, Lv_cg (fun w m hw _ => ?_) la', nxt⟩, ms⟩, fun z => ⟨od, okd2 (by omega), fun p => ?_, fun p => ⟨⟨i + 1, by omega, rfl, v1, Lv_cg (fun w m hw _ => ?_) la', nxt⟩, ms⟩⟩⟩
        · have kl := el.1 z
          by_cases w4 : w = 4
          · subst w4
            rw [if_pos rfl, lv_4 h, if_neg (by omega)]; omega
          · rw [if_neg w4]
        · have kl : k + 1 = nO B d := by
            rcases Nat.lt_or_ge (k + 1) (nO B d) with y | y
            · exact absurd (el.2 y) z
            · have := h.2.2.1; omega
          have b0 := sd.1 0 (by omega)
          have bk : b d 0 ≤ b d k := by
            rcases Nat.eq_zero_or_pos k with y | y
            · rw [y]; exact Int.le_refl _
            · have := sq_lt sd (k - 1) 0 (by omega)
              rw [show 0 + (k - 1) + 1 = k by omega] at this
              omega
          obtain ⟨op, lp, _⟩ := s_addPan (l := 0) (b := b d 0) (e := b d k + l d k) (by omega) b0.1 (by omega) la'
          have op' : ok_m_addPan V 0 (iz (b d 0)) (iz (b d k + l d k)) := op
          have fp : Fr _ V (x_m_addPan V 0 (iz (b d 0)) (iz (b d k + l d k))) := fr_m_addPan _ _ _ op'
          refine ⟨oe2, op', ⟨i + 1, by omega, rfl, fr_tr v1 fp (fun c hc => by unfold W_m_addPan at hc; omega), Lv_cg (fun w m hw _ => ?_) lp, nxt⟩, ms⟩
          unfold adp
          dsimp only
          by_cases w4 : w = 4
          · subst w4
            show (if 4 = 4 ∧ b d 0 ≤ (m : Int) ∧ (m : Int) < b d k + l d k then lvN B D b l i 4 m + 1 else lvN B D b l i 4 m) = _
            rw [lv_4 h, if_pos kl]
            have eu : ud B 4 d (b d) (l d) m = if bPan B d = 1 ∧ b d 0 ≤ m ∧ (m : Int) < b d (nO B d - 1) + l d (nO B d - 1) then 1 else 0 := rfl
            rw [eu, show nO B d - 1 = k by omega]
            by_cases c : b d 0 ≤ m ∧ (m : Int) < b d k + l d k
            · rw [if_pos ⟨rfl, c⟩, if_pos ⟨p, c⟩]
            · rw [if_neg (fun y => c y.2), if_neg (fun y => c y.2)]; omega
          · rw [if_neg (fun y => w4 y.1), if_neg w4]
        · by_cases w4 : w = 4
          · subst w4
            have eu : ud B 4 d (b d) (l d) m = if bPan B d = 1 ∧ b d 0 ≤ m ∧ (m : Int) < b d (nO B d - 1) + l d (nO B d - 1) then 1 else 0 := rfl
            have e0 : ud B 4 d (b d) (l d) m = 0 := by rw [eu, if_neg (fun y => p y.1)]
            rw [if_pos rfl, lv_4 h, e0]
            split <;> omega
          · rw [if_neg w4]
      refine ⟨of, jo ⟨fun z => rest _ (u3 d k h (ef.1 z)), fun z => rest _ ?_⟩⟩
      have : k = 0 := by
        rcases Nat.eq_zero_or_pos k with y | y
        · exact y
        · exact absurd (ef.2 y) z
      rw [this]
  · show 12 - (0 : Int32).toInt.toNat < 1000
    omega
  · refine ⟨0, Nat.zero_le _, rfl, fr_rfl, Lv_cg (fun w m hw _ => ?_) hL, fun d k h hk => ?_⟩
    · rcases (show w < 4 ∨ w = 4 ∨ w = 5 ∨ w = 6 by omega) with q | q | q | q
      · unfold lv0 lvN; rw [if_neg (by omega), if_pos q]; rfl
      · subst q; rfl
      · subst q; rfl
      · subst q; rfl
    · have := h.2.2.2; omega
