/-! ===== the pair slack ===== -/
def slJ (B : Nat → Int) (D : Nat) (t : Int) (c : Nat → Nat) (d j : Nat) (s : Int) (x : Int32) : Prop := JV B D t (up2 (fun d => bg B t d (c d)) d j (bg B t d (c d) j + s)) (lgs B) x
def slC (B : Nat → Int) (D : Nat) (t k : Int) (c : Nat → Nat) (v : Int32) : Prop := ((ps B D 8 : Int) ≤ k → v = -1000000) ∧ ∀ i d j, At B D i d j → k = (i : Int) → ∃ s : Nat, v = iz s ∧ (∃ x : Int32, ¬ x = 0 ∧ slJ B D t c d j (s + 1) x) ∧ ∀ s' : Nat, s' < s → slJ B D t c d j (s' + 1) 0
theorem slC_u {B : Nat → Int} {D : Nat} {t k : Int} {c : Nat → Nat} {v w : Int32} (hk : 0 ≤ k) (h1 : slC B D t k c v) (h2 : slC B D t k c w) : v = w := by
  by_cases q2 : (ps B D 8 : Int) ≤ k
  · rw [h1.1 q2, h2.1 q2]
  · obtain ⟨d, j, ha⟩ := At_ex (B := B) (D := D) (i := k.toNat) (by omega)
    obtain ⟨s, a1, ⟨x, a2, a3⟩, a4⟩ := h1.2 _ d j ha (by omega)
    obtain ⟨s', b1, ⟨x', b2, b3⟩, b4⟩ := h2.2 _ d j ha (by omega)
    rcases Nat.lt_trichotomy s s' with z | z | z
    · exact absurd (JV_u a3 (b4 s z)) a2
    · rw [a1, b1, z]
    · exact absurd (JV_u b3 (a4 s' z)) b2
theorem sl_b {B : Nat → Int} {D i d j : Nat} {t : Int} {c : Nat → Nat} {s : Int} (h12 : ps B D 8 ≤ 12) (ha : At B D i d j) (hl : 1 ≤ lgs B d j) (h : slJ B D t c d j s 0) : bg B t d (c d) j + s ≤ 59 := by
  have nz : ∀ (P : Nat → Nat → Prop) (x : Nat) (a : Int), FR B D P x → 1 ≤ a → a ≤ 3 → (0 : Int32) = iz (a + 10 * (x : Int)) → False := fun P x a hf h1 h2 e => by
    obtain ⟨e', l', g1, _⟩ := hf
    have := At_lt g1
    have := (eq0 (by omega)).1 e.symm
    omega
  rcases h with ⟨x, a1, a2⟩ | ⟨_, x, a1, a2⟩ | ⟨_, _, x, a1, a2⟩ | ⟨n1, _⟩
  · exact (nz _ x 1 a1 (by omega) (by omega) a2).elim
  · exact (nz _ x 2 a1 (by omega) (by omega) a2).elim
  · exact (nz _ x 3 a1 (by omega) (by omega) a2).elim
  · have := n1 i d j ha
    unfold bd1 at this
    rw [up2_s] at this
    omega
theorem up2_2 {f : Nat → Nat → Int} {d k : Nat} {v w : Int} : up2 (up2 f d k v) d k w = up2 f d k w := by
  funext e j
  unfold up2
  by_cases q : e = d ∧ j = k
  · rw [if_pos q, if_pos q]
  · rw [if_neg q, if_neg q, if_neg q]
theorem up2_id {f : Nat → Nat → Int} {d k : Nat} : up2 f d k (f d k) = f := by
  funext e j
  unfold up2
  by_cases q : e = d ∧ j = k
  · rw [if_pos q, q.1, q.2]
  · rw [if_neg q]
theorem sl_rg {B : Nat → Int} {D d j : Nat} {t : Nat} {c : Nat → Nat} {s : Int} (hs : 0 ≤ s ∧ s ≤ 100) (hd : d < 8 ∧ D.testBit d = true ∧ j < nO B d) (prg : ∀ d k, d < 8 → D.testBit d = true → k < nO B d → (0 ≤ bg B t d (c d) k ∧ bg B t d (c d) k + lgs B d k ≤ 60) ∧ 1 ≤ lgs B d k ∧ lgs B d k ≤ 30) : rgR B D (up2 (fun d => bg B t d (c d)) d j (bg B t d (c d) j + s)) (lgs B) := fun e m he hm hl => by
  have p := prg e m he hm hl
  have p' := prg d j hd.1 hd.2.1 hd.2.2
  refine ⟨?_, by omega⟩
  by_cases q : e = d ∧ m = j
  · rw [q.1, q.2, up2_s]; omega
  · rw [up2_n q]
    show _ ≤ bg B t e (c e) m ∧ bg B t e (c e) m < _
    omega
theorem lx_slack {T : St} {t k : Int} (hI : Inv T) (htr : -2147483648 ≤ t ∧ t < 2147483648) (hkr : -2147483648 ≤ k ∧ k < 2147483648) : ok_x_slack T (iz t) (iz k) ∧ GX T (0 ≤ k) t (slC (nB T) (nB T 202).toNat t k) (x_x_slack T (iz t) (iz k)) := by
  refine so_x_slack (Q := GX T (0 ≤ k) t (slC (nB T) (nB T 202).toNat t k)) _ _ ?_
  unfold wp_x_slack
  refine jo ?_
  try dsimp only
  obtain ⟨o0, r0, _⟩ := x_ref hI 0
  obtain ⟨o1, _, r1, r2⟩ := x_ref hI 1
  have no : ¬ ((1 ≤ t ∧ t ≤ 60) ∧ 0 ≤ k) → ∀ P : Prop, ok_x_refusal T 0 ∧ ((x_x_refusal T 0 = 0 → P) ∧ (¬ x_x_refusal T 0 = 0 → GX T (0 ≤ k) t (slC (nB T) (nB T 202).toNat t k) (x_x_refusal T 0, T))) := fun q P => ⟨o0, fun z => absurd z (by rw [r0 rfl]; decide), fun _ => by rw [r0 rfl]; exact ⟨GV_1 q, hI, rfl, rfl⟩⟩
  rw [x_time htr, lt0 (by omega)]
  refine ⟨fun q => no (by omega) _, fun q => ⟨fun q2 => no (by omega) _, fun q2 => ⟨o1, fun z => ?_, fun z => ?_⟩⟩⟩
  · have h7 : ¬ T.1 571 7 = 0 := fun y => by rw [r1 (by decide) y] at z; exact absurd z (by decide)
    have hg : (1 ≤ t ∧ t ≤ 60) ∧ 0 ≤ k := by omega
    obtain ⟨tt, rfl⟩ : ∃ n : Nat, t = n := ⟨t.toNat, by omega⟩
    obtain ⟨hW, hX, hK, hM, h46⟩ := I_there hI h7
    obtain ⟨D, d1, d2, d3, d4⟩ := WF_D hW
    have p12 := ps_3 hW d3 8
    have h12 : ps (nB T) D 8 ≤ 12 := by omega
    obtain ⟨ok, f1, f2, f3⟩ := s_fplan (t := tt) hI h7 (by omega)
    obtain ⟨i1, i2, i3⟩ := I_fplan (t := tt) hI h7 (by omega)
    refine ⟨ok, fun y => ⟨GV_3 hg h7 (fun _ => rfl) (fun c hc => ?_), i1, i2, i3⟩, fun y => ?_⟩
    · rw [(f3 c hc).1] at y; exact absurd y (by decide)
    cases hS : SK0 (nB T) tt with
    | none => exact absurd (f2 hS) y
    | some c =>
      obtain ⟨_, _, g2, g3, _⟩ := f3 c hS
      rw [d2] at g2 g3 ⊢
      have prg := pl_rg hW d3 d2 (by omega) hS
      have i7 : ¬ (x_x_findsPlan T (iz tt)).2.1 571 7 = 0 := by rw [i3]; exact h7
      obtain ⟨_, hX1, hK1, _, h461⟩ := I_there i1 i7
      rw [i2] at hX1 hK1
      generalize (x_x_findsPlan T (iz tt)).2 = S at *
      obtain ⟨hb, hb2⟩ := b_46 h461
      have fin : ∀ v U, Inv U → nB U = nB T → U.1 571 7 = T.1 571 7 → slC (nB T) D tt k c v → GX T (0 ≤ k) tt (slC (nB T) D tt k) (v, U) := fun v U a1 a2 a3 hv => ⟨GV_3 hg h7 (fun hn => by rw [hS] at hn; cases hn) (fun c' hc => by rw [hS] at hc; injection hc with hc; subst hc; exact hv), a1, a2, a3⟩
      rw [g2.2.1, iz_lt (by omega)]
      refine ⟨fun w => ?_, fun w => fin _ _ i1 i2 i3 ⟨fun _ => rfl, fun i d j ha e => by have := At_lt ha; omega⟩⟩
      obtain ⟨i, rfl⟩ : ∃ i : Nat, k = i := ⟨k.toNat, by omega⟩
      obtain ⟨d, j, ha⟩ := At_ex (B := nB T) (D := D) (i := i) (by omega)
      have pdj := prg d j ha.1 ha.2.1 ha.2.2.1
      obtain ⟨ot, tk⟩ := s_rtake (T := S) (a := 564) (p := 557) (by decide) (by decide) (by omega)
      have frt : Fr _ S _ := fr_ro_take _ _ ot
      have rx1 : RwX (x_ro_take S 564 557) 564 (nB T) D (fun d => bg (nB T) tt d (c d)) (lgs (nB T)) := RwX_tk d4.2 h12 (RwX_of g2 g3) tk
      refine ⟨ot, ?_⟩
      generalize x_ro_take S 564 557 = S2 at *
      refine wr_x_slack_63 _ _ _ (fun v U => ∃ s : Nat, s ≤ 60 ∧ v = iz s ∧ Fr (fun c => W_ro_take S 564 557 c ∨ c = 569 ∨ jlW c ∨ c = 529 ∨ c = 530) S U ∧ RwX U 564 (nB T) D (up2 (fun d => bg (nB T) tt d (c d)) d j (bg (nB T) tt d (c d) j + s)) (lgs (nB T)) ∧ (0 < s → slJ (nB T) D tt c d j s 0) ∧ ∀ s' : Nat, s' < s → slJ (nB T) D tt c d j (s' + 1) 0) (fun v U => 60 - v.toInt.toNat) ?_ _ _ _ (by show 60 - (0 : Int32).toInt.toNat < 1000; omega) ⟨0, by omega, rfl, fr_le frt (fun c hc => Or.inl hc), ?_, fun h => absurd h (by omega), fun s' h => absurd h (Nat.not_lt_zero _)⟩
      · rintro _ U ⟨s, s60, rfl, u1, u2, u3, u4⟩
        unfold bd_x_slack_63
        rw [z_60, iz_le (by omega)]
        refine ⟨fun y => ?_, fun y => ?_⟩
        · exfalso
          have := sl_b h12 ha (by omega) (u3 (by omega))
          omega
        · have eb : U.2.2.1 569 i = iz (bg (nB T) tt d (c d) j + s) := by
            have := (u2.2.2.2 i d j ha).2.2.1
            rw [up2_s] at this; exact this
          have nb : iz (bg (nB T) tt d (c d) j + s) + 1 = iz (bg (nB T) tt d (c d) j + ((s + 1 : Nat) : Int)) := by rw [z_1, iz_add]; exact iz_inj (by omega)
          have rx2 : RwX (sA U 569 i (iz (bg (nB T) tt d (c d) j + ((s + 1 : Nat) : Int)))) 564 (nB T) D (up2 (fun d => bg (nB T) tt d (c d)) d j (bg (nB T) tt d (c d) j + ((s + 1 : Nat) : Int))) (lgs (nB T)) := by
            have := RwX_b (v := bg (nB T) tt d (c d) j + ((s + 1 : Nat) : Int)) u2 ha
            rw [up2_2] at this
            exact this
          have nx : iz (s : Int) + 1 = iz ((s + 1 : Nat) : Int) := by rw [z_1, iz_add]; exact iz_inj (by omega)
          rw [ix_nat (k := i) (by omega), eb, nb, nx]
          have fr3 : Fr (fun c => W_ro_take S 564 557 c ∨ c = 569 ∨ jlW c ∨ c = 529 ∨ c = 530) S (sA U 569 i (iz (bg (nB T) tt d (c d) j + ((s + 1 : Nat) : Int)))) := fr_sA u1 (Or.inr (Or.inl rfl))
          have e0 : (sA U 569 i (iz (bg (nB T) tt d (c d) j + ((s + 1 : Nat) : Int)))).2.1 0 = S.2.1 0 := q_R fr3 (by unfold W_ro_take jlW; omega)
          rw [e0]
          have hP3 : BkP (sA U 569 i (iz (bg (nB T) tt d (c d) j + ((s + 1 : Nat) : Int)))) (S.2.1 0) (nB T) := BkP_fr (BkP_X hX1) (q_F fr3 (by unfold W_ro_take jlW; omega)) (fun y z h1 h2 => q_A fr3 (by unfold W_ro_take jlW; omega))
          have hK3 : KitX (sA U 569 i (iz (bg (nB T) tt d (c d) j + ((s + 1 : Nat) : Int)))) 76 (nB T) (nB T 5) (nB T 203) := KitX_fr fr3 (by unfold W_ro_take jlW; omega) hK1
          generalize sA U 569 i (iz (bg (nB T) tt d (c d) j + ((s + 1 : Nat) : Int))) = S3 at *
          obtain ⟨oj, jv⟩ := s_judgedX (r := 564) (t := tt) (by decide) (by omega) hb hb2 hP3 hK3 hW d3 d4.2 (by omega) rx2 (sl_rg (by omega) ⟨ha.1, ha.2.1, ha.2.2.1⟩ prg)
          have frj : Fr _ S3 _ := fr_jd_judged _ _ _ _ oj
          have frA : Fr (fun c => W_ro_take S 564 557 c ∨ c = 569 ∨ jlW c ∨ c = 529 ∨ c = 530) S (x_jd_judged S3 (S.2.1 0) 76 564 (iz tt)).2 := fr_tr fr3 frj (fun c hc => by unfold W_jd_judged at hc; unfold jlW; omega)
          have rx4 : RwX (x_jd_judged S3 (S.2.1 0) 76 564 (iz tt)).2 564 (nB T) D (up2 (fun d => bg (nB T) tt d (c d)) d j (bg (nB T) tt d (c d) j + ((s + 1 : Nat) : Int))) (lgs (nB T)) := RwX_fr frj (fun c hc hw => by unfold W_jd_judged at hw; omega) rx2
          have j1 : Inv (x_jd_judged S3 (S.2.1 0) 76 564 (iz tt)).2 := Inv_irr frA (fun c hc => by unfold W_ro_take jlW at hc; unfold irr; omega) i1
          have j2 : nB (x_jd_judged S3 (S.2.1 0) 76 564 (iz tt)).2 = nB T := by rw [nB_fr frA (by unfold W_ro_take jlW; omega)]; exact i2
          have j3 : (x_jd_judged S3 (S.2.1 0) 76 564 (iz tt)).2.1 571 7 = T.1 571 7 := by rw [q_F frA (by unfold W_ro_take jlW; omega)]; exact i3
          refine ⟨in_nat (by omega) (by omega), oj, jo ?_⟩
          generalize x_jd_judged S3 (S.2.1 0) 76 564 (iz tt) = R at *
          have jv' : slJ (nB T) D tt c d j ((s + 1 : Nat) : Int) R.1 := jv
          refine ⟨fun x => ⟨⟨s + 1, by omega, rfl, frA, rx4, fun _ => by rw [x] at jv'; exact jv', fun s' hs' => ?_⟩, ?_⟩, fun x => fin _ _ j1 j2 j3 ⟨fun x => by omega, fun i' d' j' ha' e => ?_⟩⟩
          · by_cases e : s' = s
            · rw [x] at jv'; rw [e]; exact jv'
            · exact u4 s' (by omega)
          · rw [iz_t (by omega), iz_t (by omega)]; omega
          · have : i' = i := by omega
            subst this
            obtain ⟨y1, y2⟩ := At_u ha ha'
            subst y1; subst y2
            exact ⟨s, rfl, ⟨R.1, x, jv'⟩, u4⟩
      · have : up2 (fun d => bg (nB T) tt d (c d)) d j (bg (nB T) tt d (c d) j + ((0 : Nat) : Int)) = (fun d => bg (nB T) tt d (c d)) := by
          have e : bg (nB T) tt d (c d) j + ((0 : Nat) : Int) = (fun d => bg (nB T) tt d (c d)) d j := by show _ = bg (nB T) tt d (c d) j; omega
          rw [e]; exact up2_id
        rw [this]; exact rx1
  · have h7 : T.1 571 7 = 0 := Classical.byContradiction fun y => z (r2 (by decide) y)
    rw [r1 (by decide) h7]
    exact ⟨GV_2 (by omega) h7, hI, rfl, rfl⟩
theorem lm_slack {T U : St} {t k : Int} (x2 : Inv U) (x3 : nB U = nB T) (x4 : U.1 571 7 = T.1 571 7) (htr : -2147483648 ≤ t ∧ t < 2147483648) (hkr : -2147483648 ≤ k ∧ k < 2147483648) : ok_m_slack U (iz t) (iz k) ∧ (fun r : Int32 × St => GV T (0 ≤ k) t (slC (nB T) (nB T 202).toNat t k) r.1 ∧ Inv r.2) (x_m_slack U (iz t) (iz k)) := by
  refine so_m_slack (Q := fun r : Int32 × St => GV T (0 ≤ k) t (slC (nB T) (nB T 202).toNat t k) r.1 ∧ Inv r.2) _ _ ?_
  have tt := Inv_t 0 x2
  have e7' : (sF U 571 0 0).1 571 7 = T.1 571 7 := by rw [gF_F, if_neg (by omega)]; exact x4
  have eB' : nB (sF U 571 0 0) = nB T := x3
  unfold wp_m_slack
  rw [m_by htr, e7', le0 (by omega)]
  generalize sF U 571 0 0 = V at *
  refine ⟨fun c1 => ⟨GV_1 (by omega), tt⟩, fun c1 => ⟨fun c2 => ⟨fun c7 => ⟨GV_2 (by omega) c7, tt⟩, fun c7 => ?_⟩, fun c2 => ⟨GV_1 (by omega), tt⟩⟩⟩
  have hg : (1 ≤ t ∧ t ≤ 60) ∧ 0 ≤ k := by omega
  obtain ⟨tn, rfl⟩ : ∃ n : Nat, t = n := ⟨t.toNat, by omega⟩
  obtain ⟨ok, ⟨q1, q2, q3, q4, q5⟩, i1, i2, i3⟩ := I_know (t := tn) tt (by rw [e7']; exact c7) (by omega)
  obtain ⟨hW, _, _, _, _⟩ := I_there tt (by rw [e7']; exact c7)
  rw [eB'] at q1 q4 q5 hW
  obtain ⟨D, d1, d2, d3, d4⟩ := WF_D hW
  have p12 := ps_3 hW d3 8
  have h12 : ps (nB T) D 8 ≤ 12 := by omega
  refine ⟨ok, fun y => ⟨GV_3 hg c7 (fun _ => rfl) (fun c hc => ?_), i1⟩, fun y => ?_⟩
  · rw [(q5 c hc).1] at y; exact absurd y (by decide)
  cases hS : SK0 (nB T) tn with
  | none => exact absurd (q4 hS) y
  | some c =>
    obtain ⟨_, _, g1, g3⟩ := q5 c hS
    rw [d2] at g1 g3 ⊢
    have prg := pl_rg hW d3 d2 (by omega) hS
    have rm : RwM (x_m_know V (iz tn)).2 (nB T) D (fun d => bg (nB T) tn d (c d)) (lgs (nB T)) := RwM_kn g1 (fun d hd hm k hk => (g3 d hd hm).2 k hk)
    generalize (x_m_know V (iz tn)).2 = S at *
    have fin : ∀ v U', Inv U' → slC (nB T) D tn k c v → (fun r : Int32 × St => GV T (0 ≤ k) tn (slC (nB T) D tn k) r.1 ∧ Inv r.2) (v, U') := fun v U' a1 hv => ⟨GV_3 hg c7 (fun hn => by rw [hS] at hn; cases hn) (fun c' hc => by rw [hS] at hc; injection hc with hc; subst hc; exact hv), a1⟩
    rw [g1, iz_lt (by omega)]
    refine ⟨fun w => ?_, fun w => fin _ _ i1 ⟨fun _ => rfl, fun i d j ha e => by have := At_lt ha; omega⟩⟩
    obtain ⟨i, rfl⟩ : ∃ i : Nat, k = i := ⟨k.toNat, by omega⟩
    obtain ⟨d, j, ha⟩ := At_ex (B := nB T) (D := D) (i := i) (by omega)
    have pdj := prg d j ha.1 ha.2.1 ha.2.2.1
    refine wr_m_slack_53 _ _ (fun v3 v4 U => ∃ s : Nat, s ≤ 60 ∧ v3 = iz s ∧ Fr (fun c => c = 595 ∨ (578 ≤ c ∧ c < 585)) S U ∧ (∀ s' : Nat, s' < s → slJ (nB T) D tn c d j (s' + 1) 0) ∧ ((v4 = 1 ∧ RwM U (nB T) D (up2 (fun d => bg (nB T) tn d (c d)) d j (bg (nB T) tn d (c d) j + s)) (lgs (nB T)) ∧ (0 < s → slJ (nB T) D tn c d j s 0)) ∨ (v4 = 0 ∧ ∃ x : Int32, ¬ x = 0 ∧ slJ (nB T) D tn c d j (s + 1) x))) (fun v3 v4 U => if v4 = 0 then 0 else 100 - v3.toInt.toNat) ?_ _ _ _ _ (by show (if (1 : Int32) = 0 then 0 else 100 - (0 : Int32).toInt.toNat) < 1000; rw [if_neg (by decide)]; omega) ⟨0, by omega, rfl, fr_rfl, fun s' h => absurd h (Nat.not_lt_zero _), Or.inl ⟨rfl, ?_, fun h => absurd h (by omega)⟩⟩
    · rintro _ v4 U ⟨s, s60, rfl, u1, u4, hh⟩
      unfold bd_m_slack_53
      rcases hh with ⟨rfl, u2, u3⟩ | ⟨rfl, x, x1, x2⟩
      · refine ⟨fun y => absurd y (by decide), fun _ => ?_⟩
        have eb : U.2.2.1 595 i = iz (bg (nB T) tn d (c d) j + s) := by
          have := (u2.2 i d j ha).2.1
          rw [up2_s] at this; exact this
        have sb : bg (nB T) tn d (c d) j + s ≤ 59 ∨ s = 0 := by
          rcases Nat.eq_zero_or_pos s with y | y
          · exact Or.inr y
          · exact Or.inl (sl_b h12 ha (by omega) (u3 y))
        have nb : iz (bg (nB T) tn d (c d) j + s) + 1 = iz (bg (nB T) tn d (c d) j + ((s + 1 : Nat) : Int)) := by rw [z_1, iz_add]; exact iz_inj (by omega)
        have rx2 : RwM (sA U 595 i (iz (bg (nB T) tn d (c d) j + ((s + 1 : Nat) : Int)))) (nB T) D (up2 (fun d => bg (nB T) tn d (c d)) d j (bg (nB T) tn d (c d) j + ((s + 1 : Nat) : Int))) (lgs (nB T)) := by
          have := RwM_b (v := bg (nB T) tn d (c d) j + ((s + 1 : Nat) : Int)) u2 ha
          rw [up2_2] at this
          exact this
        have nx : iz (s : Int) + 1 = iz ((s + 1 : Nat) : Int) := by rw [z_1, iz_add]; exact iz_inj (by omega)
        rw [ix_nat (k := i) (by omega), eb, nb, nx, add0]
        have fr3 : Fr (fun c => c = 595 ∨ (578 ≤ c ∧ c < 585)) S (sA U 595 i (iz (bg (nB T) tn d (c d) j + ((s + 1 : Nat) : Int)))) := fr_sA u1 (Or.inl rfl)
        have hM3 : MkX (sA U 595 i (iz (bg (nB T) tn d (c d) j + ((s + 1 : Nat) : Int)))) (nB T) := MkX_fr fr3 (by omega) q1
        generalize sA U 595 i (iz (bg (nB T) tn d (c d) j + ((s + 1 : Nat) : Int))) = S3 at *
        obtain ⟨oj, jv⟩ := s_judgedM (t := tn) hM3 hW d3 d4.2 (by omega) rx2 (sl_rg (by omega) ⟨ha.1, ha.2.1, ha.2.2.1⟩ prg)
        have frj : Fr _ S3 _ := fr_m_judged _ oj
        have frA : Fr (fun c => c = 595 ∨ (578 ≤ c ∧ c < 585)) S (x_m_judged S3 (iz tn)).2 := fr_tr fr3 frj (fun c hc => by unfold W_m_judged at hc; omega)
        have rx4 : RwM (x_m_judged S3 (iz tn)).2 (nB T) D (up2 (fun d => bg (nB T) tn d (c d)) d j (bg (nB T) tn d (c d) j + ((s + 1 : Nat) : Int))) (lgs (nB T)) := RwM_fr frj (fun c hc hw => by unfold W_m_judged at hw; omega) rx2
        refine ⟨in_nat (by omega) (by omega), oj, jo ?_⟩
        generalize x_m_judged S3 (iz tn) = R at *
        have jv' : slJ (nB T) D tn c d j ((s + 1 : Nat) : Int) R.1 := jv
        refine jo ⟨fun x => ⟨fun y => absurd y (by decide), fun _ => ?_⟩, fun x => ⟨fun _ => ?_, fun y => absurd rfl y⟩⟩
        · rw [x] at jv'
          have sb2 := sl_b h12 ha (by omega) jv'
          refine ⟨⟨s + 1, by omega, rfl, frA, fun s' hs' => ?_, Or.inl ⟨rfl, rx4, fun _ => jv'⟩⟩, ?_⟩
          · by_cases e : s' = s
            · rw [e]; exact jv'
            · exact u4 s' (by omega)
          · rw [if_neg (by decide), if_neg (by decide), iz_t (by omega), iz_t (by omega)]; omega
        · refine ⟨⟨s, s60, rfl, frA, u4, Or.inr ⟨rfl, R.1, x, jv'⟩⟩, ?_⟩
          rw [if_pos rfl, if_neg (by decide), iz_t (by omega)]; omega
      · refine ⟨fun _ => fin _ _ ?_ ⟨fun y => by omega, fun i' d' j' ha' e => ?_⟩, fun y => absurd rfl y⟩
        · exact Inv_irr u1 (fun c hc => by unfold irr; omega) i1
        · have : i' = i := by omega
          subst this
          obtain ⟨y1, y2⟩ := At_u ha ha'
          subst y1; subst y2
          exact ⟨s, rfl, ⟨x, x1, x2⟩, u4⟩
    · have : up2 (fun d => bg (nB T) tn d (c d)) d j (bg (nB T) tn d (c d) j + ((0 : Nat) : Int)) = (fun d => bg (nB T) tn d (c d)) := by
        have e : bg (nB T) tn d (c d) j + ((0 : Nat) : Int) = (fun d => bg (nB T) tn d (c d)) d j := by show _ = bg (nB T) tn d (c d) j; omega
        rw [e]; exact up2_id
      rw [this]; exact rm
theorem i_slack : P_slack Inv := by
  intro T hI p0 p1
  obtain ⟨t, htr, rfl⟩ := iz_ex p0
  obtain ⟨k, hkr, rfl⟩ := iz_ex p1
  have xs := lx_slack hI htr hkr
  have ms := lm_slack xs.2.2.1 xs.2.2.2.1 xs.2.2.2.2 htr hkr
  have x1 : GV T (0 ≤ k) t (slC (nB T) (nB T 202).toNat t k) (x_x_slack T (iz t) (iz k)).1 := xs.2.1
  have m1 : GV T (0 ≤ k) t (slC (nB T) (nB T 202).toNat t k) (x_m_slack (x_x_slack T (iz t) (iz k)).2 (iz t) (iz k)).1 := ms.2.1
  have m2 : Inv (x_m_slack (x_x_slack T (iz t) (iz k)).2 (iz t) (iz k)).2 := ms.2.2
  have hu : ∀ v w, GV T (0 ≤ k) t (slC (nB T) (nB T 202).toNat t k) v → GV T (0 ≤ k) t (slC (nB T) (nB T 202).toNat t k) w → v = w := fun v w a b => GV_u (g := 0 ≤ k) (C := slC (nB T) (nB T 202).toNat t k) (fun hg _ c v w h1 h2 => slC_u hg h1 h2) a b
  exact ⟨xs.1, ms.1, hu _ _ x1 m1, m2⟩
