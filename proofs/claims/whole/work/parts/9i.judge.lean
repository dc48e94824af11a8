/-! ===== the pair judge ===== -/
theorem Inv_sj {W : Nat → Prop} {T U : St} (h : Fr W T U) (n : ∀ c, W c → irr c ∨ c = 10012 ∨ c = 67101) (e : U.1 0 12 = U.1 571 1) (i : Inv T) : Inv U := by
  unfold irr at n
  refine ⟨⟨e, fun s hs => ?_⟩, iTp_fr h (fun c hc hw => by have := n c hw; omega) i.2.1, iTr_fr h (fun c hc hw => by have := n c hw; omega) i.2.2.1, iBk_fr h (fun c hc hw => by have := n c hw; omega) i.2.2.2.1, iIm_fr h (fun c hc hw => by have := n c hw; omega) i.2.2.2.2⟩
  have nn : ∀ c, ((2 ≤ c ∧ c < 4) ∨ (5 ≤ c ∧ c < 13) ∨ (572 ≤ c ∧ c < 575)) → ¬ W c := fun c hc hw => by have := n c hw; omega
  have := i.1.2 s hs
  rw [q_A h (nn 572 (by omega)), q_A h (nn 573 (by omega)), q_A h (nn 2 (by omega)), q_A h (nn 3 (by omega))]
  refine ⟨this.1, this.2.1, this.2.2.1, this.2.2.2.1, fun k hk => ?_⟩
  rw [q_A h (nn 574 (by omega)), q_A h (nn (5 + s) (by omega))]
  exact this.2.2.2.2 k hk
def jgB (T : St) (s : Nat) (i : Int) (d k : Nat) : Int := (T.2.2.1 (5 + s) (i.toNat + (ps (nB T) (nB T 202).toNat d + k))).toInt
def jgG (s t : Int) : Prop := (0 ≤ s ∧ s < 8) ∧ 1 ≤ t ∧ t ≤ 60
def JgQ (T : St) (s i t : Int) (v st : Int32) : Prop := (¬ jgG s t → v = -1000001 ∧ st = T.1 0 12) ∧ (jgG s t → T.1 571 7 = 0 → v = -1000002 ∧ st = T.1 0 12) ∧ (jgG s t → ¬ T.1 571 7 = 0 → (T.2.2.1 2 s.toNat).toInt < 0 → v = (-1000010) - 1 ∧ st = 1) ∧ (jgG s t → ¬ T.1 571 7 = 0 → 0 ≤ (T.2.2.1 2 s.toNat).toInt → ¬ (0 ≤ i ∧ i + ps (nB T) (nB T 202).toNat 8 ≤ (T.2.2.1 3 s.toNat).toInt) → v = (-1000010) - 2 ∧ st = 2) ∧ (jgG s t → ¬ T.1 571 7 = 0 → 0 ≤ (T.2.2.1 2 s.toNat).toInt → (0 ≤ i ∧ i + ps (nB T) (nB T 202).toNat 8 ≤ (T.2.2.1 3 s.toNat).toInt) → JV (nB T) (nB T 202).toNat t (jgB T s.toNat i) (lgs (nB T)) v ∧ st = 0)
theorem JgQ_u {T : St} {s i t : Int} {v w a b : Int32} (h1 : JgQ T s i t v a) (h2 : JgQ T s i t w b) : v = w ∧ a = b := by
  by_cases q : jgG s t
  · by_cases q7 : T.1 571 7 = 0
    · rw [(h1.2.1 q q7).1, (h1.2.1 q q7).2, (h2.2.1 q q7).1, (h2.2.1 q q7).2]; exact ⟨rfl, rfl⟩
    · by_cases ql : (T.2.2.1 2 s.toNat).toInt < 0
      · rw [(h1.2.2.1 q q7 ql).1, (h1.2.2.1 q q7 ql).2, (h2.2.2.1 q q7 ql).1, (h2.2.2.1 q q7 ql).2]; exact ⟨rfl, rfl⟩
      · by_cases qr : 0 ≤ i ∧ i + ps (nB T) (nB T 202).toNat 8 ≤ (T.2.2.1 3 s.toNat).toInt
        · obtain ⟨a1, a2⟩ := h1.2.2.2.2 q q7 (by omega) qr
          obtain ⟨b1, b2⟩ := h2.2.2.2.2 q q7 (by omega) qr
          exact ⟨JV_u a1 b1, by rw [a2, b2]⟩
        · obtain ⟨a1, a2⟩ := h1.2.2.2.1 q q7 (by omega) qr
          obtain ⟨b1, b2⟩ := h2.2.2.2.1 q q7 (by omega) qr
          rw [a1, a2, b1, b2]; exact ⟨rfl, rfl⟩
  · rw [(h1.1 q).1, (h1.1 q).2, (h2.1 q).1, (h2.1 q).2]; exact ⟨rfl, rfl⟩
theorem Jg1 {T : St} {s i t : Int} {st : Int32} (h : ¬ jgG s t) (e : st = T.1 0 12) : JgQ T s i t (-1000001) st := ⟨fun _ => ⟨rfl, e⟩, fun z => absurd z h, fun z => absurd z h, fun z => absurd z h, fun z => absurd z h⟩
theorem Jg2 {T : St} {s i t : Int} {st : Int32} (h : jgG s t) (h7 : T.1 571 7 = 0) (e : st = T.1 0 12) : JgQ T s i t (-1000002) st := ⟨fun z => absurd h z, fun _ _ => ⟨rfl, e⟩, fun _ z => absurd h7 z, fun _ z => absurd h7 z, fun _ z => absurd h7 z⟩
theorem Jg3 {T : St} {s i t : Int} (h : jgG s t) (h7 : ¬ T.1 571 7 = 0) (hl : (T.2.2.1 2 s.toNat).toInt < 0) : JgQ T s i t ((-1000010) - 1) 1 := ⟨fun z => absurd h z, fun _ z => absurd z h7, fun _ _ _ => ⟨rfl, rfl⟩, fun _ _ z => by omega, fun _ _ z => by omega⟩
theorem Jg4 {T : St} {s i t : Int} (h : jgG s t) (h7 : ¬ T.1 571 7 = 0) (hl : 0 ≤ (T.2.2.1 2 s.toNat).toInt) (hr : ¬ (0 ≤ i ∧ i + ps (nB T) (nB T 202).toNat 8 ≤ (T.2.2.1 3 s.toNat).toInt)) : JgQ T s i t ((-1000010) - 2) 2 := ⟨fun z => absurd h z, fun _ z => absurd z h7, fun _ _ z => by omega, fun _ _ _ _ => ⟨rfl, rfl⟩, fun _ _ _ z => absurd z hr⟩
theorem Jg5 {T : St} {s i t : Int} {v : Int32} (h : jgG s t) (h7 : ¬ T.1 571 7 = 0) (hl : 0 ≤ (T.2.2.1 2 s.toNat).toInt) (hr : 0 ≤ i ∧ i + ps (nB T) (nB T 202).toNat 8 ≤ (T.2.2.1 3 s.toNat).toInt) (hv : JV (nB T) (nB T 202).toNat t (jgB T s.toNat i) (lgs (nB T)) v) : JgQ T s i t v 0 := ⟨fun z => absurd h z, fun _ z => absurd z h7, fun _ _ z => by omega, fun _ _ _ z => absurd hr z, fun _ _ _ _ => ⟨hv, rfl⟩⟩
theorem jg_rg {T : St} {s : Nat} {i : Int} (hW : WF (nB T)) {D : Nat} (hD2 : D < 2 ^ (nB T 16).toNat) : rgR (nB T) D (jgB T s i) (lgs (nB T)) := fun d k hd hm hk => by
  have ws := (wf_s hW (mem_lt hW hD2 d hm) hk).2.1
  refine ⟨i_rg _, ?_⟩
  unfold lgs
  omega
theorem lx_judge {T : St} {s i t : Int} (hI : Inv T) (hsr : -2147483648 ≤ s ∧ s < 2147483648) (hir : -2147483648 ≤ i ∧ i < 2147483648) (htr : -2147483648 ≤ t ∧ t < 2147483648) : ok_x_judge T (iz s) (iz i) (iz t) ∧ (fun r : Int32 × St => JgQ T s i t r.1 (r.2.1 0 12)) (x_x_judge T (iz s) (iz i) (iz t)) := by
  refine so_x_judge (Q := fun r : Int32 × St => JgQ T s i t r.1 (r.2.1 0 12)) _ _ _ ?_
  unfold wp_x_judge
  refine jo ?_
  try dsimp only
  obtain ⟨o0, r0, _⟩ := x_ref hI 0
  obtain ⟨o1, _, r1, r2⟩ := x_ref hI 1
  have no : ¬ jgG s t → ∀ P : Prop, ok_x_refusal T 0 ∧ ((x_x_refusal T 0 = 0 → P) ∧ (¬ x_x_refusal T 0 = 0 → JgQ T s i t (x_x_refusal T 0) (T.1 0 12))) := fun q P => ⟨o0, fun z => absurd z (by rw [r0 rfl]; decide), fun _ => by rw [r0 rfl]; exact Jg1 q rfl⟩
  rw [x_time htr, sh_one hsr]
  refine ⟨fun q => no (by unfold jgG; omega) _, fun q => ⟨fun q2 => no (by unfold jgG; omega) _, fun q2 => ⟨o1, fun z => ?_, fun z => ?_⟩⟩⟩
  · have h7 : ¬ T.1 571 7 = 0 := fun y => by rw [r1 (by decide) y] at z; exact absurd z (by decide)
    have hg : jgG s t := by unfold jgG; omega
    obtain ⟨a, rfl⟩ : ∃ n : Nat, s = n := ⟨s.toNat, by omega⟩
    obtain ⟨s1, s2, ⟨l, s3, s4⟩, ⟨n, s5, s6⟩, s7⟩ := hI.1.2 a (by omega)
    obtain ⟨om, em⟩ := sh_mis s3 (by omega) s4
    have el : (T.2.2.1 2 ((a : Int)).toNat).toInt = l := by rw [Int.toNat_natCast, s3, iz_t (by omega)]
    have en : (T.2.2.1 3 ((a : Int)).toNat).toInt = n := by rw [Int.toNat_natCast, s5, iz_t (by omega)]
    obtain ⟨hW, hX, hK, hM, h46⟩ := I_there hI h7
    obtain ⟨hb, hb2⟩ := b_46 h46
    obtain ⟨D, d1, d2, d3, d4⟩ := WF_D hW
    have h12 : ps (nB T) D 8 ≤ 12 := by have := ps_3 hW d3 8; omega
    refine ⟨om, fun q3 => ?_, fun q3 => ?_⟩
    · have hl := em.1 q3
      obtain ⟨of, rx⟩ := s_fill (T := T) (a := 564) (D := D) (by decide) hb hb2 (by omega) (BkP_X hX) hW d3 d4.2 (by rw [hX.2.2.2.2.1, d1])
      have frf : Fr _ T _ := fr_ro_fill _ _ of
      refine ⟨of, ?_⟩
      have f3 : (x_ro_fill T 564 (T.2.1 0)).2.2.1 3 a = iz n := by rw [q_A frf (by unfold W_ro_fill; omega)]; exact s5
      have f5 : ∀ x, (x_ro_fill T 564 (T.2.1 0)).2.2.1 (5 + a) x = T.2.2.1 (5 + a) x := fun x => q_A frf (by unfold W_ro_fill; omega)
      have fR : (x_ro_fill T 564 (T.2.1 0)).2.1 0 = T.2.1 0 := q_R frf (by unfold W_ro_fill; omega)
      have fP : BkP (x_ro_fill T 564 (T.2.1 0)) (T.2.1 0) (nB T) := BkP_fr (BkP_X hX) (q_F frf (by unfold W_ro_fill; omega)) (fun y z h1 h2 => q_A frf (by unfold W_ro_fill; omega))
      have fK : KitX (x_ro_fill T 564 (T.2.1 0)) 76 (nB T) (nB T 5) (nB T 203) := KitX_fr frf (by unfold W_ro_fill; omega) hK
      generalize x_ro_fill T 564 (T.2.1 0) = F at *
      rw [rx.2.1]
      obtain ⟨or', er⟩ := sh_rea (T := F) (i := i) (k := (ps (nB T) D 8 : Int)) f3 (by omega) s6 hir (by omega)
      refine ⟨or', fun q4 => ?_, fun q4 => ?_⟩
      · have := er.1 q4
        exact Jg4 hg h7 (by rw [el]; exact hl) (by rw [en, d2]; omega)
      · have hr : 0 ≤ i ∧ 0 ≤ (ps (nB T) D 8 : Int) ∧ i + ps (nB T) D 8 ≤ n := Classical.byContradiction fun y => q4 (er.2 y)
        obtain ⟨x, rfl⟩ : ∃ x : Nat, i = x := ⟨i.toNat, by omega⟩
        rw [ix_nat (k := a) (by omega), ix_nat (k := x) (by omega), ix_nat (k := ps (nB T) D 8) (by omega), n_0]
        refine ⟨in_nat (by omega) (by omega), ⟨by rw [lt0 (by omega)]; omega, by decide, by rw [lt0 (by omega)]; omega, by rw [ix_nat (by omega), ix_nat (by omega)]; omega, by rw [n_0, ix_nat (by omega)]; omega⟩, jo ?_⟩
        have rw1 : RwX (sAr F 569 (va_cpy (F.2.2.1 (5 + a)) (F.2.2.1 569) x 0 (ps (nB T) D 8))) 564 (nB T) D (jgB T a x) (lgs (nB T)) := by
          refine ⟨rx.1, rx.2.1, fun d hd hm => ?_, fun j d k ha => ?_⟩
          · rw [gAr_A, if_neg (by omega)]; exact (rx.2.2 d hd hm).1
          · have jl := At_lt ha
            obtain ⟨h1, h2, h3, rfl⟩ := ha
            obtain ⟨a1, a2, a3⟩ := (rx.2.2 d h1 h2).2 k h3
            rw [gAr_A, if_neg (by omega), gAr_A, if_neg (by omega), gAr_A, if_pos rfl, gAr_A, if_neg (by omega)]
            refine ⟨a1, a2, ?_, a3⟩
            unfold va_cpy jgB
            rw [if_pos (by omega), f5, iz_self, d2, Int.toNat_natCast, Nat.sub_zero]
        have frS : Fr (fun c => W_ro_fill T 564 (T.2.1 0) c ∨ c = 569) T (sAr F 569 (va_cpy (F.2.2.1 (5 + a)) (F.2.2.1 569) x 0 (ps (nB T) D 8))) := fr_sAr (fr_le frf (fun c hc => Or.inl hc)) (Or.inr rfl)
        have hP3 : BkP (sAr F 569 (va_cpy (F.2.2.1 (5 + a)) (F.2.2.1 569) x 0 (ps (nB T) D 8))) (T.2.1 0) (nB T) := BkP_fr fP rfl (fun y z h1 h2 => by rw [gAr_A, if_neg (by omega)])
        have e0 : (sAr F 569 (va_cpy (F.2.2.1 (5 + a)) (F.2.2.1 569) x 0 (ps (nB T) D 8))).2.1 0 = T.2.1 0 := fR
        have hK3 : KitX (sAr F 569 (va_cpy (F.2.2.1 (5 + a)) (F.2.2.1 569) x 0 (ps (nB T) D 8))) 76 (nB T) (nB T 5) (nB T 203) := fK
        try dsimp only
        rw [e0]
        generalize sAr F 569 (va_cpy (F.2.2.1 (5 + a)) (F.2.2.1 569) x 0 (ps (nB T) D 8)) = S3 at *
        obtain ⟨oj, jv⟩ := s_judgedX (r := 564) (t := t) (by decide) (by omega) hb hb2 hP3 hK3 hW d3 d4.2 (by omega) rw1 (jg_rg hW d3)
        refine ⟨oj, ?_⟩
        generalize x_jd_judged S3 (T.2.1 0) 76 564 (iz t) = R at *
        show JgQ T a x t R.1 0
        exact Jg5 hg h7 (by rw [el]; exact hl) (by rw [en, d2]; omega) (by rw [d2, Int.toNat_natCast]; exact jv)
    · have hl : l < 0 := by
        rcases Int.lt_or_le l 0 with y | y
        · exact y
        · exact absurd (em.2 y) q3
      exact Jg3 hg h7 (by rw [el]; exact hl)
  · have h7 : T.1 571 7 = 0 := Classical.byContradiction fun y => z (r2 (by decide) y)
    rw [r1 (by decide) h7]
    exact Jg2 (by unfold jgG; omega) h7 rfl
theorem lm_judge {T U : St} {W : Nat → Prop} {s i t : Int} (hI : Inv T) (fr : Fr W T U) (nw : ∀ c, W c → (529 ≤ c ∧ c < 571) ∨ c = 10012 ∨ (63900 ≤ c ∧ c < 65500) ∨ (66400 ≤ c ∧ c < 66500)) (hsr : -2147483648 ≤ s ∧ s < 2147483648) (hir : -2147483648 ≤ i ∧ i < 2147483648) (htr : -2147483648 ≤ t ∧ t < 2147483648) : ok_m_judge U (iz s) (iz i) (iz t) ∧ (fun r : Int32 × St => JgQ T s i t r.1 (r.2.1 571 1)) (x_m_judge U (iz s) (iz i) (iz t)) := by
  refine so_m_judge (Q := fun r : Int32 × St => JgQ T s i t r.1 (r.2.1 571 1)) _ _ _ ?_
  have frV : Fr (fun c => W c ∨ c = 67100) T (sF U 571 0 0) := fr_sF (fr_le fr (fun c hc => Or.inl hc)) (Or.inr rfl)
  have nV : ∀ c, (W c ∨ c = 67100) → (529 ≤ c ∧ c < 571) ∨ c = 10012 ∨ (63900 ≤ c ∧ c < 65500) ∨ (66400 ≤ c ∧ c < 66500) ∨ c = 67100 := fun c hc => by
    rcases hc with y | y
    · have := nw c y; omega
    · omega
  have e7' : (sF U 571 0 0).1 571 7 = T.1 571 7 := q_F frV (fun y => by have := nV _ y; omega)
  have es : (sF U 571 0 0).1 571 1 = T.1 0 12 := by rw [q_F frV (fun y => by have := nV _ y; omega)]; exact hI.1.1.symm
  have eA : ∀ c j, 571 ≤ c → c < 1000 → (sF U 571 0 0).2.2.1 c j = T.2.2.1 c j := fun c j h1 h2 => q_A frV (fun y => by have := nV _ y; omega)
  unfold wp_m_judge
  rw [m_she hsr, m_by htr, e7']
  generalize sF U 571 0 0 = V at *
  refine ⟨fun c1 => Jg1 (by unfold jgG; omega) es, fun c1 => ⟨fun c2 => Jg1 (by unfold jgG; omega) es, fun c2 => ⟨fun c7 => Jg2 (by unfold jgG; omega) c7 es, fun c7 => ?_⟩⟩⟩
  have hg : jgG s t := by unfold jgG; omega
  obtain ⟨a, rfl⟩ : ∃ n : Nat, s = n := ⟨s.toNat, by omega⟩
  obtain ⟨s1, s2, ⟨l, s3, s4⟩, ⟨n, s5, s6⟩, s7⟩ := hI.1.2 a (by omega)
  have el : (T.2.2.1 2 ((a : Int)).toNat).toInt = l := by rw [Int.toNat_natCast, s3, iz_t (by omega)]
  have en : (T.2.2.1 3 ((a : Int)).toNat).toInt = n := by rw [Int.toNat_natCast, s5, iz_t (by omega)]
  obtain ⟨hW, _, _, hM, _⟩ := I_there hI c7
  obtain ⟨D, d1, d2, d3, d4⟩ := WF_D hW
  have h12 : ps (nB T) D 8 ≤ 12 := by have := ps_3 hW d3 8; omega
  have hM1 : MkX V (nB T) := fun j hj => by rw [eA 575 j (by omega) (by omega)]; exact hM j hj
  rw [ix_nat (k := a) (by omega), eA 572 a (by omega) (by omega), s1, s3, le0 (by omega)]
  refine ⟨in_nat (by omega) (by omega), fun c3 => ?_, fun c3 => Jg3 hg c7 (by rw [el]; omega)⟩
  obtain ⟨ol', m1, m2⟩ := s_layRow hM1 hW d1 d3 d4.2
  have frl : Fr _ V _ := fr_m_layRow ol'
  have e573 : (x_m_layRow V).2.2.1 573 a = iz n := by rw [q_A frl (by unfold W_m_layRow; omega), eA 573 a (by omega) (by omega), s2]; exact s5
  have e574 : ∀ j, (x_m_layRow V).2.2.1 574 j = T.2.2.1 574 j := fun j => by rw [q_A frl (by unfold W_m_layRow; omega), eA 574 j (by omega) (by omega)]
  have hM2 : MkX (x_m_layRow V) (nB T) := MkX_fr frl (by unfold W_m_layRow; omega) hM1
  refine ⟨ol', ?_⟩
  generalize x_m_layRow V = L at *
  rw [lt0 (by omega), m1, e573, lz_w hir, lz_w (by omega), lz_w (by omega), lz_add, lg_le0 (by omega)]
  refine ⟨fun c4 => Jg4 hg c7 (by rw [el]; exact c3) (by omega), fun c4 => ⟨fun c5 => ?_, fun c5 => Jg4 hg c7 (by rw [el]; exact c3) (by rw [en, d2]; omega)⟩⟩
  obtain ⟨x, rfl⟩ : ∃ x : Nat, i = x := ⟨i.toNat, by omega⟩
  refine wr_m_judge_88 _ _ _ (fun v Z => ∃ j : Nat, j ≤ ps (nB T) D 8 ∧ v = iz j ∧ Fr (fun c => c = 595 ∨ c = 67101) L Z ∧ Z.1 571 1 = 0 ∧ ∀ y, y < j → Z.2.2.1 595 y = T.2.2.1 (5 + a) (x + y)) (fun v Z => 12 - v.toInt.toNat) ?_ _ _ _ (by show 12 - (0 : Int32).toInt.toNat < 1000; omega) ⟨0, Nat.zero_le _, rfl, fr_sF fr_rfl (by omega), by rw [gF_F, if_pos ⟨rfl, rfl⟩], fun y hy => absurd hy (Nat.not_lt_zero _)⟩
  rintro _ Z ⟨j, hj, rfl, z1, z2, z3⟩
  have zl : Z.1 571 39 = iz (ps (nB T) D 8) := by rw [q_F z1 (by omega)]; exact m1
  unfold bd_m_judge_88
  rw [zl, iz_le (by omega)]
  refine ⟨fun q => ?_, fun q => ?_⟩
  · have ej : j = ps (nB T) D 8 := by omega
    subst ej
    have hM3 : MkX Z (nB T) := MkX_fr z1 (by omega) hM2
    have rm : RwM Z (nB T) D (jgB T a x) (lgs (nB T)) := by
      refine ⟨zl, fun j' d k ha => ?_⟩
      have jl := At_lt ha
      obtain ⟨h1, h2, h3, rfl⟩ := ha
      obtain ⟨y1, _, y3⟩ := m2 d h1 h2 k h3
      refine ⟨?_, ?_, ?_⟩
      · rw [q_A z1 (by omega)]; exact y1
      · rw [z3 _ (by omega)]
        unfold jgB
        rw [iz_self, d2, Int.toNat_natCast]
      · rw [q_A z1 (by omega), y3]
        unfold lgs
        rw [Int.sub_self]; rfl
    obtain ⟨oj, jv⟩ := s_judgedM (t := t) hM3 hW d3 d4.2 (by omega) rm (jg_rg hW d3)
    have frj : Fr _ Z _ := fr_m_judged _ oj
    have st : (x_m_judged Z (iz t)).2.1 571 1 = 0 := by rw [q_F frj (by unfold W_m_judged; omega)]; exact z2
    refine ⟨oj, ?_⟩
    generalize x_m_judged Z (iz t) = R at *
    show JgQ T a x t R.1 (R.2.1 571 1)
    rw [st]
    exact Jg5 hg c7 (by rw [el]; exact c3) (by rw [en, d2]; omega) (by rw [d2, Int.toNat_natCast]; exact jv)
  · have nx : iz (j : Int) + 1 = iz ((j + 1 : Nat) : Int) := by rw [z_1, iz_add]; exact iz_inj (by omega)
    have ex : (40 : Int32) * iz (a : Int) + iz (x : Int) + iz (j : Int) = iz ((40 * a + (x + j) : Nat) : Int) := by rw [z_40, iz_mul, iz_add, iz_add]; exact iz_inj (by omega)
    rw [ex, nx, ix_nat (k := 40 * a + (x + j)) (by omega), ix_nat (k := j) (by omega)]
    refine ⟨in_nat (by omega) (by omega), in_nat (by omega) (by omega), jo ⟨⟨j + 1, by omega, rfl, fr_sA z1 (by omega), z2, fun y hy => ?_⟩, ?_⟩⟩
    · rw [gA_A]
      by_cases e : y = j
      · rw [if_pos ⟨rfl, e⟩, q_A z1 (by omega), e574, s7 _ (by omega), e]
      · rw [if_neg (by omega)]; exact z3 y (by omega)
    · rw [iz_t (by omega), iz_t (by omega)]; omega
theorem i_judge : P_judge Inv := by
  intro T hI p0 p1 p2
  obtain ⟨s, hsr, rfl⟩ := iz_ex p0
  obtain ⟨i, hir, rfl⟩ := iz_ex p1
  obtain ⟨t, htr, rfl⟩ := iz_ex p2
  have xs := lx_judge hI hsr hir htr
  have frx : Fr (W_x_judge T (iz s) (iz i) (iz t)) T (x_x_judge T (iz s) (iz i) (iz t)).2 := fr_x_judge _ _ _ xs.1
  have ms := lm_judge hI frx (fun c hc => by unfold W_x_judge at hc; omega) hsr hir htr
  have frm : Fr (W_m_judge (x_x_judge T (iz s) (iz i) (iz t)).2 (iz s) (iz i) (iz t)) (x_x_judge T (iz s) (iz i) (iz t)).2 (x_m_judge (x_x_judge T (iz s) (iz i) (iz t)).2 (iz s) (iz i) (iz t)).2 := fr_m_judge _ _ _ ms.1
  have x1 : JgQ T s i t (x_x_judge T (iz s) (iz i) (iz t)).1 ((x_x_judge T (iz s) (iz i) (iz t)).2.1 0 12) := xs.2
  have m1 : JgQ T s i t (x_m_judge (x_x_judge T (iz s) (iz i) (iz t)).2 (iz s) (iz i) (iz t)).1 ((x_m_judge (x_x_judge T (iz s) (iz i) (iz t)).2 (iz s) (iz i) (iz t)).2.1 571 1) := ms.2
  obtain ⟨e1, e2⟩ := JgQ_u x1 m1
  have e3 : (x_m_judge (x_x_judge T (iz s) (iz i) (iz t)).2 (iz s) (iz i) (iz t)).2.1 0 12 = (x_x_judge T (iz s) (iz i) (iz t)).2.1 0 12 := q_F frm (by unfold W_m_judge; omega)
  have fin : Inv (x_m_judge (x_x_judge T (iz s) (iz i) (iz t)).2 (iz s) (iz i) (iz t)).2 := Inv_sj (fr_ww frx frm) (fun c hc => by unfold W_x_judge W_m_judge at hc; unfold irr; omega) (by rw [e3]; exact e2) hI
  exact ⟨xs.1, ms.1, e1, fin⟩
