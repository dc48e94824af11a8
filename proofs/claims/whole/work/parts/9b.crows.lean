/-! ===== the class's rows, and what they want as bits ===== -/
def RwX (T : St) (r : Nat) (B : Nat → Int) (D : Nat) (b l : Nat → Nat → Int) : Prop := T.1 r 0 = iz (sn D 8) ∧ T.1 r 1 = iz (ps B D 8) ∧ (∀ d, d < 8 → D.testBit d = true → T.2.2.1 (r + 1) (sn D d) = iz d) ∧ ∀ i d k, At B D i d k → T.2.2.1 (r + 3) i = iz ((nF B d + k : Nat) : Int) ∧ T.2.2.1 (r + 4) i = iz (sn D d) ∧ T.2.2.1 (r + 5) i = iz (b d k) ∧ T.2.2.1 (r + 6) i = iz (l d k)
theorem RwX_fr {W : Nat → Prop} {T U : St} {r : Nat} {B : Nat → Int} {D : Nat} {b l : Nat → Nat → Int} (h : Fr W T U) (n : ∀ c, ((r < c ∧ c < r + 7) ∨ (10000 + 100 * r ≤ c ∧ c < 10000 + 100 * r + 2)) → ¬ W c) (i : RwX T r B D b l) : RwX U r B D b l := by
  obtain ⟨h1, h2, h3, h4⟩ := i
  refine ⟨?_, ?_, fun d hd hm => ?_, fun j d k ha => ?_⟩
  · rw [q_F h (n _ (by omega))]; exact h1
  · rw [q_F h (n _ (by omega))]; exact h2
  · rw [q_A h (n _ (by omega))]; exact h3 d hd hm
  · rw [q_A h (n (r + 3) (by omega)), q_A h (n (r + 4) (by omega)), q_A h (n (r + 5) (by omega)), q_A h (n (r + 6) (by omega))]; exact h4 j d k ha
section CR
variable {T : St} {r : Nat} {B : Nat → Int} {D : Nat} {b l : Nat → Nat → Int} {i d k : Nat}
theorem sn_b4 (hn : sn D 8 ≤ 4) (h : At B D i d k) : sn D d < 4 := by
  have := sn_lt (D := D) (e := 8) h.2.1 h.1; omega
theorem c_first (hr : sh r = .inr 7) (hn : sn D 8 ≤ 4) (h12 : ps B D 8 ≤ 12) (hR : RwX T r B D b l) (h : At B D i d k) : ok_ro_isFirst T r (iz i) ∧ (x_ro_isFirst T r (iz i) = 0 ↔ 0 < k) := by
  have il := At_lt h
  refine so_ro_isFirst (Q := fun r => r = 0 ↔ 0 < k) _ _ ?_
  unfold wp_ro_isFirst
  rw [eq0 (by omega)]
  refine ⟨fun q => ?_, fun q => ?_⟩
  · have hk : k = 0 := by have := h.2.2.2; omega
    exact ⟨fun z => absurd z (by decide), fun z => by omega⟩
  · have i0 : 0 < i := by omega
    obtain ⟨e, j, h2⟩ := At_ex (B := B) (D := D) (i := i - 1) (by omega)
    have s1 := sn_b4 hn h
    have s2 := sn_b4 hn h2
    have em : iz (i : Int) - 1 = iz ((i - 1 : Nat) : Int) := by rw [z_1, iz_sub]; exact iz_inj (by omega)
    rw [em, ix_nat (by omega), ix_nat (by omega), (hR.2.2.2 i d k h).2.1, (hR.2.2.2 _ e j h2).2.1, iz_eq (by omega)]
    refine ⟨hr, in_nat (by omega) (by omega), in_nat (by omega) (by omega), fun z => ?_, fun z => ?_⟩
    · have ed : e = d := sn_in h2.2.1 h.2.1 (by omega)
      refine ⟨fun _ => ?_, fun _ => rfl⟩
      rcases Nat.eq_zero_or_pos k with y | y
      · subst y
        have := (At_f (k := 0) h i0 h2).2
        omega
      · exact y
    · refine ⟨fun y => absurd y (by decide), fun y => ?_⟩
      have := (At_u (At_p h y) h2).1
      exact absurd (by rw [this]) z
theorem c_last (hr : sh r = .inr 7) (hn : sn D 8 ≤ 4) (h12 : ps B D 8 ≤ 12) (hR : RwX T r B D b l) (h : At B D i d k) : ok_ro_isLast T r (iz i) ∧ (x_ro_isLast T r (iz i) = 0 ↔ k + 1 < nO B d) := by
  have il := At_lt h
  refine so_ro_isLast (Q := fun r => r = 0 ↔ k + 1 < nO B d) _ _ ?_
  unfold wp_ro_isLast
  rw [hR.2.1, z_1, iz_sub, iz_eq (by omega)]
  refine ⟨hr, fun q => ?_, fun q => ?_⟩
  · refine ⟨fun z => absurd z (by decide), fun z => ?_⟩
    have := At_lt (At_s h z)
    omega
  · obtain ⟨e, j, h2⟩ := At_ex (B := B) (D := D) (i := i + 1) (by omega)
    have s1 := sn_b4 hn h
    have s2 := sn_b4 hn h2
    have em : iz (i : Int) + iz 1 = iz ((i + 1 : Nat) : Int) := by rw [iz_add]; exact iz_inj (by omega)
    rw [em, ix_nat (by omega), ix_nat (by omega), (hR.2.2.2 i d k h).2.1, (hR.2.2.2 _ e j h2).2.1, iz_eq (by omega)]
    refine ⟨in_nat (by omega) (by omega), in_nat (by omega) (by omega), fun z => ?_, fun z => ?_⟩
    · have ed : e = d := sn_in h2.2.1 h.2.1 (by omega)
      refine ⟨fun _ => ?_, fun _ => rfl⟩
      rcases Nat.lt_or_ge (k + 1) (nO B d) with y | y
      · exact y
      · have := (At_n h (by have := h.2.2.1; omega) h2).2
        omega
    · refine ⟨fun y => absurd y (by decide), fun y => ?_⟩
      have := (At_u (At_s h y) h2).1
      exact absurd (by rw [this]) z
end CR
theorem TyX_cg {T : St} {a : Nat} {B : Nat → Int} {h o : Int} {f g : Nat → Nat → Nat} (e : ∀ w m, w < 5 → m < 60 → f w m = g w m) (i : TyX T a B h o f) : TyX T a B h o g := by
  intro w m h1 h2
  rw [← e w m h1 h2]
  exact i w m h1 h2
theorem TyX_fr {W : Nat → Prop} {T U : St} {a : Nat} {B : Nat → Int} {h o : Int} {f : Nat → Nat → Nat} (fr : Fr W T U) (n : ∀ c, a < c → c < a + 5 → ¬ W c) (i : TyX T a B h o f) : TyX U a B h o f := by
  intro w m h1 h2
  rw [q_L fr (n (a + 1) (by omega) (by omega)), q_L fr (n (a + 2) (by omega) (by omega)), q_L fr (n (a + 3) (by omega) (by omega)), q_L fr (n (a + 4) (by omega) (by omega))]
  exact i w m h1 h2
theorem BiX_fr {W : Nat → Prop} {T U : St} {q : Nat} {P : Nat → Nat → Prop} (fr : Fr W T U) (n : ¬ W q) (i : BiX T q P) : BiX U q P := by
  intro w m h1 h2
  rw [q_L fr n]
  exact i w m h1 h2
theorem fr_eqA {W : Nat → Prop} {T U : St} (h : eqA T U) (h2 : ∀ c j, ¬ W c → U.2.2.2 c j = T.2.2.2 c j) : Fr W T U := ⟨fun c k _ => by rw [h.1], fun c _ => by rw [h.2.1], fun c j _ => by rw [h.2.2], fun c j hc => h2 c j hc⟩
def jlW (c : Nat) : Prop := (534 ≤ c ∧ c < 555) ∨ (63900 ≤ c ∧ c < 65500)
def wy (s : Nat) : Nat := 539 + 4 * s
theorem sh_wy {s : Nat} (h : s < 4) : sh (wy s) = .inr 10 := (by decide +kernel : ∀ a, a < 4 → sh (539 + 4 * a) = .inr 10) s h
def JlQ (T : St) (B : Nat → Int) (h o : Int) (D : Nat) (b l : Nat → Nat → Int) (U : St) : Prop := Fr jlW T U ∧ (∀ w m, w < 5 → m < 60 → (lb (U.2.2.2 538 w) m = true ↔ gv B h o w m < tt B D b l w 8 m)) ∧ ∀ d, d < 8 → D.testBit d = true → BiX U (wy (sn D d) + 3) (fun w m => ud B w d (b d) (l d) m = 1)
theorem s_jlay {T : St} {r ki bk : Nat} {B : Nat → Int} {h o : Int} {D : Nat} {b l : Nat → Nat → Int} (hr : sh r = .inr 7) (hr2 : 557 ≤ r) (hb : sh bk = .inr 1) (hb2 : bk + 14 < 76) (hk : sh ki = .inr 3) (hk2 : ki + 1 < 80) (hP : BkP T bk B) (hK : KitX T ki B h o) (hW : WF B) (ho : o < 60 → 1 ≤ B 1) (hD2 : D < 2 ^ (B 16).toNat) (hn : sn D 8 ≤ 4) (hR : RwX T r B D b l) (hs : ∀ d, d < 8 → D.testBit d = true → sq B d (b d) (l d)) : ok_jd_lay T bk ki r ∧ JlQ T B h o D b l (x_jd_lay T bk ki r) := by
  have h12 : ps B D 8 ≤ 12 := by have := ps_3 hW hD2 8; omega
  have hD := mem_lt hW hD2
  have h8 := hW.2.2.1
  have al538 : aln 538 = 5 := by decide
  have r602 := shi_7 hr
  refine so_jd_lay (Q := JlQ T B h o D b l) _ _ _ ?_
  unfold wp_jd_lay
  have fr0 : Fr (fun c => c = 538) T (x_fillJ T 538 0) := fr_sLr fr_rfl rfl
  have hK0 : KitX (x_fillJ T 538 0) ki B h o := KitX_fr fr0 (by omega) hK
  have l0 : ∀ w, w < 5 → (x_fillJ T 538 0).2.2.2 538 w = 0 := fun w hw => by
    unfold x_fillJ
    rw [gLr_L, if_pos rfl, al538, if_pos hw]
  obtain ⟨oo, ty0⟩ := s_open (T := x_fillJ T 538 0) (a := 533) (by decide) hk (by omega) hK0
  have fr1 : Fr _ (x_fillJ T 538 0) _ := fr_ta_open _ _ oo
  refine ⟨by unfold ok_fillJ; decide, oo, ?_⟩
  have frS : Fr jlW T (x_ta_open (x_fillJ T 538 0) 533 ki) := fr_tr (fr_le fr0 (fun c hc => by unfold jlW; omega)) fr1 (fun c hc => by unfold W_ta_open at hc; unfold jlW; omega)
  have l1 : ∀ w, w < 5 → (x_ta_open (x_fillJ T 538 0) 533 ki).2.2.2 538 w = 0 := fun w hw => by rw [q_L fr1 (by unfold W_ta_open; omega)]; exact l0 w hw
  generalize x_ta_open (x_fillJ T 538 0) 533 ki = S at *
  refine wr_jd_lay_19 _ _ _ (fun v U => ∃ i : Nat, i ≤ ps B D 8 ∧ v = iz i ∧ Fr jlW T U ∧ TyX U 533 B h o (fun w m => (dsm B D b l i w m).toNat) ∧ (∀ w m, w < 5 → m < 60 → (lb (U.2.2.2 538 w) m = true ↔ gv B h o w m < dsm B D b l i w m)) ∧ (∀ d k, At B D i d k → ∀ j, j < k → U.2.2.1 (wy (sn D d) + 1) j = iz (b d j) ∧ U.2.2.1 (wy (sn D d) + 2) j = iz (l d j)) ∧ ∀ d, d < 8 → D.testBit d = true → ps B D d + nO B d ≤ i → BiX U (wy (sn D d) + 3) (fun w m => ud B w d (b d) (l d) m = 1)) (fun v U => 12 - v.toInt.toNat) ?_ _ _ _ (by show 12 - (0 : Int32).toInt.toNat < 1000; omega) ?_
  · rintro _ U ⟨i, hi, rfl, u1, u2, u3, u4, u5⟩
    have hR1 : RwX U r B D b l := RwX_fr u1 (fun c hc hw => by unfold jlW at hw; omega) hR
    have hP1 : BkP U bk B := BkP_fr hP (q_F u1 (by unfold jlW; omega)) (fun y z h1 h2 => q_A u1 (by unfold jlW; omega))
    unfold bd_jd_lay_19
    rw [hR1.2.1, iz_le (by omega)]
    refine ⟨hr, fun q => ?_, fun q => ?_⟩
    · have e : i = ps B D 8 := by omega
      subst e
      refine ⟨u1, fun w m hw hm => ?_, fun d hd hm => u5 d hd hm (ps_lt hm hd)⟩
      rw [u3 w m hw hm, ds_end hW hD2]
    · obtain ⟨d, k, ha⟩ := At_ex (B := B) (D := D) (i := i) (by omega)
      have hdB := hD d ha.2.1
      obtain ⟨fk1, fk2⟩ := wf_fk hW hdB ha.2.2.1
      obtain ⟨n1, n2, n3⟩ := wf_n hW hdB
      have f1 := (wf_f hW hdB).1
      have d8 := ha.1
      have k3 := ha.2.2.1
      have s4 := sn_b4 hn ha
      obtain ⟨x3, x4, x5, x6⟩ := hR1.2.2.2 i d k ha
      have x1 := hR1.2.2.1 d ha.1 ha.2.1
      obtain ⟨_, _, _, _, p8⟩ := hP1.2.1.2 d hdB
      have nx : iz (i : Int) + 1 = iz ((i + 1 : Nat) : Int) := by rw [z_1, iz_add]; exact iz_inj (by omega)
      have ms : 12 - (iz ((i + 1 : Nat) : Int)).toInt.toNat < 12 - (iz (i : Int)).toInt.toNat := by rw [iz_t (by omega), iz_t (by omega)]; omega
      rw [ix_nat (k := i) (by omega), x4, ix_nat (k := sn D d) (by omega), x1, nx, show 539 + 4 * sn D d = wy (sn D d) from rfl]
      refine ⟨in_nat (by omega) (by omega), in_nat (by omega) (by omega), jo ⟨sh_wy s4, jo ?_⟩⟩
      try dsimp only
      have wyb : 539 ≤ wy (sn D d) ∧ wy (sn D d) + 3 < 555 := by unfold wy; omega
      have t3 : (sF U (wy (sn D d)) 3 (iz d)).1 (wy (sn D d)) 3 = iz d := by rw [gF_F, if_pos ⟨rfl, rfl⟩]
      simp only [gF_A, gA_A]
      rw [t3, ix_nat (k := d) (by omega), p8, x3, iz_sub, show ((nF B d + k : Nat) : Int) - bFst B d = (k : Int) by omega]
      refine ⟨hb, in_nat (by omega) (by omega), jo ⟨in_nat (by omega) (by omega), jo ?_⟩⟩
      rw [x5, if_neg (show ¬ (r + 6 = wy (sn D d) + 1 ∧ i = (iz (k : Int)).toNatClampNeg) by omega), x6, ix_nat (k := k) (by omega)]
      have frF : Fr jlW T (sA (sA (sF U (wy (sn D d)) 3 (iz d)) (wy (sn D d) + 1) k (iz (b d k))) (wy (sn D d) + 2) k (iz (l d k))) := fr_sA (fr_sA (fr_sF u1 (by unfold jlW; omega)) (by unfold jlW; omega)) (by unfold jlW; omega)
      have g3 : (sA (sA (sF U (wy (sn D d)) 3 (iz d)) (wy (sn D d) + 1) k (iz (b d k))) (wy (sn D d) + 2) k (iz (l d k))).1 (wy (sn D d)) 3 = iz d := t3
      have g4 : ∀ j, j < k + 1 → (sA (sA (sF U (wy (sn D d)) 3 (iz d)) (wy (sn D d) + 1) k (iz (b d k))) (wy (sn D d) + 2) k (iz (l d k))).2.2.1 (wy (sn D d) + 1) j = iz (b d j) ∧ (sA (sA (sF U (wy (sn D d)) 3 (iz d)) (wy (sn D d) + 1) k (iz (b d k))) (wy (sn D d) + 2) k (iz (l d k))).2.2.1 (wy (sn D d) + 2) j = iz (l d j) := fun j hj => by
        rw [gA_A, if_neg (by omega), gA_A, gA_A, gA_A, if_neg (show ¬ (wy (sn D d) + 2 = wy (sn D d) + 1 ∧ j = k) by omega)]
        by_cases e : j = k
        · rw [if_pos ⟨rfl, e⟩, if_pos ⟨rfl, e⟩, e]; exact ⟨rfl, rfl⟩
        · rw [if_neg (fun y => e y.2), if_neg (fun y => e y.2)]
          exact u4 d k ha j (by omega)
      have gL : (sA (sA (sF U (wy (sn D d)) 3 (iz d)) (wy (sn D d) + 1) k (iz (b d k))) (wy (sn D d) + 2) k (iz (l d k))).2.2.2 = U.2.2.2 := rfl
      generalize sA (sA (sF U (wy (sn D d)) 3 (iz d)) (wy (sn D d) + 1) k (iz (b d k))) (wy (sn D d) + 2) k (iz (l d k)) = V at *
      have hR2 : RwX V r B D b l := RwX_fr frF (fun c hc hw => by unfold jlW at hw; omega) hR
      have hP2 : BkP V bk B := BkP_fr hP (q_F frF (by unfold jlW; omega)) (fun y z h1 h2 => q_A frF (by unfold jlW; omega))
      obtain ⟨ol', el⟩ := c_last hr hn h12 hR2 ha
      have dss : ∀ w m, dsm B D b l (i + 1) w m = dsm B D b l i w m + (if k + 1 = nO B d then ud B w d (b d) (l d) m else 0) := fun w m => ds_s ha
      refine ⟨ol', fun z => ?_, fun z => ?_⟩
      · have kl := el.1 z
        have de : ∀ w m, dsm B D b l (i + 1) w m = dsm B D b l i w m := fun w m => by rw [dss, if_neg (by omega)]; omega
        refine ⟨⟨i + 1, by omega, rfl, frF, ?_, fun w m hw hm => ?_, fun e j h2 j' hj' => ?_, fun e he hm hle => ?_⟩, ms⟩
        · refine TyX_cg (fun w m _ _ => by rw [de]) ?_
          intro w m hw hm
          rw [gL]; exact u2 w m hw hm
        · rw [gL, de]; exact u3 w m hw hm
        · obtain ⟨y1, y2⟩ := At_u (At_s ha kl) h2
          rw [← y1]; exact g4 j' (by omega)
        · have : ps B D e + nO B e ≤ i := by
            rcases Nat.lt_or_ge i (ps B D e + nO B e) with y | y
            · exfalso
              have hi2 := ha.2.2.2
              rcases Nat.lt_trichotomy e d with x | x | x
              · have := ps_lt (B := B) hm x; omega
              · subst x; omega
              · have := ps_lt (B := B) ha.2.1 x; omega
            · exact y
          intro w m hw hm'
          rw [gL]; exact u5 e he hm this w m hw hm'
      · have kl : k + 1 = nO B d := by
          rcases Nat.lt_or_ge (k + 1) (nO B d) with y | y
          · exact absurd (el.2 y) z
          · omega
        have sd := hs d ha.1 ha.2.1
        obtain ⟨ow, wq1, wq2, wq3⟩ := s_wlay (T := V) (a := wy (sn D d)) (b := bk) (d := d) (B := B) (bb := b d) (ll := l d) hb (sh_wy s4) hP2 hW hdB ⟨g3, fun j hj => (g4 j (by omega)).1⟩ (fun j hj => (g4 j (by omega)).2) sd
        refine ⟨ow, ?_⟩
        have frW : Fr jlW T (x_wa_lay V (wy (sn D d)) bk) := fr_tr frF (fr_eqA (W := fun c => c = wy (sn D d) + 3) wq1 (fun c j hc => wq2 c j hc)) (fun c hc => by unfold jlW; omega)
        have wA : (x_wa_lay V (wy (sn D d)) bk).2.2.1 = V.2.2.1 := wq1.2.2
        have wL : ∀ c j, c ≠ wy (sn D d) + 3 → (x_wa_lay V (wy (sn D d)) bk).2.2.2 c j = U.2.2.2 c j := fun c j hc => by rw [wq2 c j hc, gL]
        generalize x_wa_lay V (wy (sn D d)) bk = Z at *
        refine wr_jd_lay_127 _ _ _ _ _ _ (fun v Y => ∃ x : Nat, x ≤ 5 ∧ v = iz x ∧ Fr (fun c => c = 538) Z Y ∧ (∀ w, w < x → ∀ m, lb (Y.2.2.2 538 w) m = true ↔ (lb (Z.2.2.2 538 w) m = true ∨ (lb (Z.2.2.2 537 w) m = true ∧ lb (Z.2.2.2 (wy (sn D d) + 3) w) m = true))) ∧ ∀ w, x ≤ w → Y.2.2.2 538 w = Z.2.2.2 538 w) (fun v Y => 5 - v.toInt.toNat) ?_ _ _ _ (by show 5 - (0 : Int32).toInt.toNat < 1000; omega) ⟨0, by omega, rfl, fr_rfl, fun w hw => absurd hw (Nat.not_lt_zero _), fun _ _ => rfl⟩
        rintro _ Y ⟨x, hx, rfl, y1, y2, y3⟩
        unfold bd_jd_lay_127
        rw [z_5, iz_le (by omega)]
        refine ⟨fun c => ?_, fun c => ?_⟩
        · have ex : x = 5 := by omega
          subst ex
          have frY : Fr jlW T Y := fr_tr frW y1 (fun c hc => by unfold jlW; omega)
          have hKY : KitX Y ki B h o := KitX_fr frY (by unfold jlW; omega) hK
          have tyY : TyX Y 533 B h o (fun w m => (dsm B D b l i w m).toNat) := TyX_fr y1 (fun c h1 h2 hc => by omega) (by
            intro w m hw hm
            rw [wL _ _ (by omega), wL _ _ (by omega), wL _ _ (by omega), wL _ _ (by omega)]
            exact u2 w m hw hm)
          have biY : BiX Y (wy (sn D d) + 3) (fun w m => ud B w d (b d) (l d) m = 1) := BiX_fr y1 (by omega) wq3
          obtain ⟨oa, ta⟩ := s_add (T := Y) (a := 533) (b := 533) (q := wy (sn D d) + 3) (ki := ki) (by decide) (by decide) (shl10_3 (sh_wy s4)) hk (Or.inl rfl) (by omega) (by omega) hKY tyY biY
          have fra : Fr _ Y _ := fr_ta_add _ _ _ _ oa
          refine ⟨oa, ?_⟩
          have frE : Fr jlW T (x_ta_add Y 533 533 (wy (sn D d) + 3) ki) := fr_tr frY fra (fun c hc => by unfold W_ta_add at hc; unfold jlW; omega)
          have ub01 : ∀ w m, w < 5 → 0 ≤ ud B w d (b d) (l d) m ∧ ud B w d (b d) (l d) m ≤ 1 := fun w m hw => ud_01 sd hw
          refine ⟨⟨i + 1, by omega, rfl, frE, TyX_cg (fun w m hw hm => ?_) ta, fun w m hw hm => ?_, fun e j h2 j' hj' => ?_, fun e he hm hle => ?_⟩, ms⟩
          · have db := ds_b hW hD2 hs (m := m) ha hw
            have u01 := ub01 w m hw
            rw [dss, if_pos kl]
            by_cases p : ud B w d (b d) (l d) m = 1
            · rw [ad1_y p, p]; omega
            · rw [ad1_n p]
              have : ud B w d (b d) (l d) m = 0 := by omega
              rw [this]; omega
          · have db := ds_b hW hD2 hs (m := m) ha hw
            have u01 := ub01 w m hw
            have gn := gv_nn (w := w) (h := h) hW ho hm
            have t4 : lb (U.2.2.2 537 w) m = true ↔ gv B h o w m ≤ (((dsm B D b l i w m).toNat : Nat) : Int) := ((u2 w m hw hm).2.2.2).trans (fll_i (c := (dsm B D b l i w m).toNat) hW ho hm (by omega))
            rw [q_L fra (by unfold W_ta_add; omega), y2 w hw m, wL _ _ (by omega), wL _ _ (by omega), u3 w m hw hm, t4, dss, if_pos kl, wq3 w m hw (by omega)]
            constructor
            · rintro (p | ⟨p1, p2, p3⟩) <;> omega
            · intro p
              by_cases p1 : gv B h o w m < dsm B D b l i w m
              · exact Or.inl p1
              · exact Or.inr ⟨by omega, hm, by omega⟩
          · have := At_n ha kl h2
            omega
          · by_cases e1 : e = d
            · subst e1
              exact BiX_fr fra (by unfold W_ta_add; omega) biY
            · have : ps B D e + nO B e ≤ i := by
                have hi2 := ha.2.2.2
                rcases Nat.lt_or_ge e d with y | y
                · have := ps_lt (B := B) hm y; omega
                · have := ps_lt (B := B) ha.2.1 (show d < e by omega)
                  have := (wf_n hW (hD e hm)).1
                  omega
              have se : sn D e ≠ sn D d := fun y => e1 (sn_in hm ha.2.1 y)
              intro w m hw hm'
              rw [q_L fra (by unfold W_ta_add wy; omega), q_L y1 (by unfold wy; omega), wL _ _ (by unfold wy; omega)]
              exact u5 e he hm this w m hw hm'
        · have nx7 : iz (x : Int) + 1 = iz ((x + 1 : Nat) : Int) := by rw [z_1, iz_add]; exact iz_inj (by omega)
          rw [ix_nat (k := x) (by omega), nx7]
          refine ⟨in_nat (by omega) (by omega), sh_wy s4, jo ⟨⟨x + 1, by omega, rfl, fr_sL y1 rfl, fun w hw m => ?_, fun w hw => ?_⟩, ?_⟩⟩
          · rw [gL_L]
            by_cases e : w = x
            · rw [if_pos ⟨rfl, e⟩, lbt_or, lbt_and, e, y3 x (Nat.le_refl _), q_L y1 (by omega), q_L y1 (by omega)]
            · rw [if_neg (by omega)]; exact y2 w (by omega) m
          · rw [gL_L, if_neg (by omega)]; exact y3 w (by omega)
          · rw [iz_t (by omega), iz_t (by omega)]; omega
  · refine ⟨0, Nat.zero_le _, rfl, frS, TyX_cg (fun w m _ _ => rfl) ty0, fun w m hw hm => ?_, fun d k ha j hj => ?_, fun d hd hm hle => ?_⟩
    · have gn := gv_nn (w := w) (h := h) hW ho hm
      rw [l1 w hw, lb_0]
      show false = true ↔ gv B h o w m < 0
      exact ⟨fun y => absurd y (by decide), fun y => absurd y (by omega)⟩
    · have := ha.2.2.2; omega
    · have := (wf_n hW (hD d hm)).1
      omega
