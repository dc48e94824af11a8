/-! ===== the planner: what it holds once all is settled ===== -/
def agP (B : Nat → Int) (t h o : Int) (cn : Nat → Nat → Prop) (d c e i : Nat) : Prop := cn e i ∧ (∀ w m : Nat, w < 5 → m < 60 → ¬ (rsP B t cn d c w m ∧ rsP B t cn e i w m ∧ gv B h o w m < 2)) ∧ agd B d e (bg B t d c) (lgs B d) (bg B t e i) (lgs B e)
noncomputable def agm (B : Nat → Int) (t h o : Int) (cn : Nat → Nat → Prop) (d c e : Nat) : Nat := msk (agP B t h o cn d c e) (chn B e)
-- of a dish: all but what is known of pairs
def SgQ (U : St) (B : Nat → Int) (t : Int) (cn : Nat → Nat → Prop) (d : Nat) : Prop := U.2.2.1 82 d = iz (chn B d) ∧ (∃ x, U.2.2.1 83 d = iz x ∧ chP B cn d x) ∧ (∀ w m : Nat, w < 5 → m < 64 → (lb (U.2.2.2 (85 + d) w) m = true ↔ ∀ c, c < chn B d → cn d c → m < 60 ∧ u1P B t d c w m)) ∧ ∀ c, c < chn B d → WsQ U B t cn d c
-- the planner
def PlQ (U : St) (B : Nat → Int) (t h o : Int) (cn : Nat → Nat → Prop) (S b ki : Nat) : Prop := U.2.1 2 = b ∧ U.2.1 3 = ki ∧ BkP U b B ∧ KitX U ki B h o ∧ (∀ d, d < 8 → S.testBit d = true → SgQ U B t cn d) ∧ ∀ d e c, d < 8 → S.testBit d = true → e < 8 → S.testBit e = true → c < chn B d → cn d c → U.2.2.1 98 (96 * d + 8 * c + e) = -1 ∨ U.2.2.1 98 (96 * d + 8 * c + e) = iz (agm B t h o cn d c e)
theorem SgQ_fr {T U : St} {B : Nat → Int} {t : Int} {cn : Nat → Nat → Prop} {d : Nat} (hW : WF B) (hd : (d : Int) < B 16) (h : SgQ T B t cn d) (f1 : ∀ y z, 123 ≤ y → y < 507 → z < 100 → U.1 y z = T.1 y z) (f3 : ∀ y z, (y = 82 ∨ y = 83 ∨ (123 ≤ y ∧ y < 507)) → U.2.2.1 y z = T.2.2.1 y z) (f4 : ∀ y z, ((85 ≤ y ∧ y < 93) ∨ (123 ≤ y ∧ y < 507)) → U.2.2.2 y z = T.2.2.2 y z) : SgQ U B t cn d := by
  obtain ⟨h1, ⟨x, h2, h2'⟩, h3, h4⟩ := h
  have h8 := hW.2.2.1
  have cb := ch_b hW hd
  refine ⟨by rw [f3 _ _ (by omega)]; exact h1, ⟨x, by rw [f3 _ _ (by omega)]; exact h2, h2'⟩, fun w m hw hm => by rw [f4 _ _ (by omega)]; exact h3 w m hw hm, fun c hc => ?_⟩
  obtain ⟨a1, a3, a4, a5⟩ := h4 c hc
  refine ⟨by rw [f1 _ _ (by unfold wc; omega) (by unfold wc; omega) (by omega)]; exact a1, by rw [f1 _ _ (by unfold wc; omega) (by unfold wc; omega) (by omega)]; exact a3, fun k hk => by rw [f3 _ _ (by unfold wc; omega)]; exact a4 k hk, ?_⟩
  rw [f1 _ _ (by unfold wc; omega) (by unfold wc; omega) (by omega)]
  rcases a5 with ⟨b1, b2, b3⟩ | b
  · refine Or.inl ⟨b1, b2, fun w m hw hm => ?_⟩
    rw [f4 _ _ (by unfold wc; omega)]
    exact b3 w m hw hm
  · exact Or.inr b
-- all that the planner writes while it seeks
def sW (c : Nat) : Prop := (94 ≤ c ∧ c < 98) ∨ (100 ≤ c ∧ c < 106) ∨ (507 ≤ c ∧ c < 527) ∨ (18012 ≤ c ∧ c < 18020)
theorem PlQ_fr {T U : St} {W : Nat → Prop} {B : Nat → Int} {t h o : Int} {cn : Nat → Nat → Prop} {S b ki : Nat} (hW : WF B) (hS2 : S < 2 ^ (B 16).toNat) (hb2 : b + 14 < 76) (hk2 : ki + 1 < 80) (hP : PlQ T B t h o cn S b ki) (f : Fr W T U) (hw : ∀ c, W c → sW c) : PlQ U B t h o cn S b ki := by
  have hD := mem_lt hW hS2
  have h8 := hW.2.2.1
  have nw : ∀ c, ¬ sW c → ¬ W c := fun c n q => n (hw c q)
  unfold sW at nw
  obtain ⟨p1, p2, p3, p4, p5, p6⟩ := hP
  refine ⟨by rw [q_R f (nw _ (by omega))]; exact p1, by rw [q_R f (nw _ (by omega))]; exact p2, BkP_fr p3 (q_F f (nw _ (by omega))) (fun y z h1 h2 => q_A f (nw _ (by omega))), KitX_fr f (nw _ (by omega)) p4, fun d hd hm => SgQ_fr hW (hD d hm) (p5 d hd hm) (fun y z h1 h2 h3 => q_F f (nw _ (by omega))) (fun y z h1 => q_A f (nw _ (by omega))) (fun y z h1 => q_L f (nw _ (by omega))), fun d e c h1 h2 h3 h4 h5 h6 => ?_⟩
  · rw [q_A f (nw _ (by omega))]; exact p6 d e c h1 h2 h3 h4 h5 h6
section AG
variable {T : St} {B : Nat → Int} {t h o : Int} {cn : Nat → Nat → Prop} {S b ki d e c : Nat}
theorem WsQ_Y {i : Nat} (hc : cn e i) (h : WsQ T B t cn e i) : T.1 (wc e i) 6 = 1 ∧ BiX T (wc e i + 3) (rsP B t cn e i) := by
  rcases h.2.2.2 with ⟨b1, _, b3⟩ | ⟨_, b2⟩
  · exact ⟨b1, b3⟩
  · exact absurd hc b2
theorem s_agreeing (hb : sh b = .inr 1) (hb2 : b + 14 < 76) (hk : sh ki = .inr 3) (hW : WF B) (hS2 : S < 2 ^ (B 16).toNat) (ht : 1 ≤ t ∧ t ≤ 60) (hP : PlQ T B t h o cn S b ki) (hd : d < 8) (hm : S.testBit d = true) (he : e < 8) (hme : S.testBit e = true) (hc : c < chn B d) (hcn : cn d c) :
    ok_pl_agreeing T (iz ((12 * d + c : Nat) : Int)) (iz e) ∧ (fun r : Int32 × St => r.1 = iz (agm B t h o cn d c e) ∧ PlQ r.2 B t h o cn S b ki) (x_pl_agreeing T (iz ((12 * d + c : Nat) : Int)) (iz e)) := by
  have hD := mem_lt hW hS2
  have h8 := hW.2.2.1
  have cb := ch_b hW (hD d hm)
  have cbe := ch_b hW (hD e hme)
  obtain ⟨p1, p2, p3, p4, p5, p6⟩ := hP
  refine so_pl_agreeing (Q := fun r : Int32 × St => r.1 = iz (agm B t h o cn d c e) ∧ PlQ r.2 B t h o cn S b ki) _ _ ?_
  unfold wp_pl_agreeing
  have ix : iz ((12 * d + c : Nat) : Int) * 8 + iz (e : Int) = iz ((96 * d + 8 * c + e : Nat) : Int) := by rw [z_8, iz_mul, iz_add]; exact iz_inj (by omega)
  rw [ix, ix_nat (by omega), ix_nat (by omega), show 123 + 4 * (12 * d + c) = wc d c from rfl]
  have mlt : agm B t h o cn d c e < 4096 := by
    have := msk_lt (P := agP B t h o cn d c e) (chn B e)
    have h2 : 2 ^ chn B e ≤ 2 ^ 12 := Nat.pow_le_pow_right (by decide) cbe.2.1
    have : (2 : Nat) ^ 12 = 4096 := rfl
    unfold agm
    omega
  refine ⟨in_nat (by omega) (by omega), ?_⟩
  unfold jn
  refine ⟨fun z => ⟨in_nat (by omega) (by omega), ?_⟩, fun z => ?_⟩
  · refine wr_pl_agreeing_31 _ _ _ _ (fun v5 v6 U => ∃ i : Nat, i ≤ chn B e ∧ U = T ∧ v6 = iz i ∧ v5 = iz ((msk (agP B t h o cn d c e) i : Nat) : Int)) (fun v5 v6 U => 12 - v6.toInt.toNat) ?_ _ _ _ _ ?_ ?_
    · rintro _ _ _ ⟨i, hi, rfl, rfl, rfl⟩
      obtain ⟨s82, _, _, sW⟩ := p5 e he hme
      obtain ⟨_, _, _, sWd⟩ := p5 d hd hm
      unfold bd_pl_agreeing_31
      rw [ix_nat (by omega), s82, iz_le (by omega)]
      refine ⟨in_nat (by omega) (by omega), fun q => ?_, fun q => ?_⟩
      · have ei : i = chn B e := by omega
        subst ei
        refine ⟨by rw [gA_A, if_pos ⟨rfl, rfl⟩]; rfl, p1, p2, BkP_fr p3 rfl (fun y z' h1 h2 => by rw [gA_A, if_neg (by omega)]), p4, fun d' hd' hm' => ?_, fun d' e' c' h1 h2 h3 h4 h5 h6 => ?_⟩
        · have cb' := ch_b hW (hD d' hm')
          exact SgQ_fr hW (hD d' hm') (p5 d' hd' hm') (fun _ _ _ _ _ => rfl) (fun y z' h1 => by rw [gA_A, if_neg (by omega)]) (fun _ _ _ => rfl)
        · have cb' := ch_b hW (hD d' h2)
          rw [gA_A]
          by_cases z2 : 96 * d' + 8 * c' + e' = 96 * d + 8 * c + e
          · have q1 : d' = d := by omega
            have q2 : c' = c := by omega
            have q3 : e' = e := by omega
            subst q1 q2 q3
            rw [if_pos ⟨rfl, rfl⟩]; exact Or.inr rfl
          · rw [if_neg (fun w => z2 w.2)]; exact p6 d' e' c' h1 h2 h3 h4 h5 h6
      · have hi12 : i < 12 := by omega
        have ix2 : iz (e : Int) * 12 + iz (i : Int) = iz ((12 * e + i : Nat) : Int) := by rw [z_12, iz_mul, iz_add]; exact iz_inj (by omega)
        have nx : iz (i : Int) + 1 = iz ((i + 1 : Nat) : Int) := by rw [z_1, iz_add]; exact iz_inj (by omega)
        have ms : 12 - (iz ((i + 1 : Nat) : Int)).toInt.toNat < 12 - (iz (i : Int)).toInt.toNat := by rw [iz_t (by omega), iz_t (by omega)]; omega
        have swc := sh_wc (d := e) (c := i) he hi12
        have swd := sh_wc (d := d) (c := c) hd (by omega)
        have wsi := sW i (by omega)
        have wsd := sWd c hc
        obtain ⟨yd1, yd2⟩ := WsQ_Y hcn wsd
        rw [ix2, ix_nat (by omega), show 123 + 4 * (12 * e + i) = wc e i from rfl, nx]
        refine ⟨in_nat (by omega) (by omega), jo ?_⟩
        try dsimp only
        refine ⟨swc, fun z2 => ?_, fun z2 => ?_⟩
        · have nc : ¬ cn e i := fun y => by rw [(WsQ_Y y wsi).1] at z2; exact absurd z2 (by decide)
          exact ⟨⟨i + 1, by omega, rfl, rfl, by rw [msk_n (fun y => nc y.1)]⟩, ms⟩
        · have yc : cn e i := by
            rcases wsi.2.2.2 with ⟨_, g, _⟩ | ⟨g, _⟩
            · exact g
            · exact absurd g z2
          obtain ⟨ye1, ye2⟩ := WsQ_Y yc wsi
          obtain ⟨okc, cc⟩ := s_collide (shl10_3 swd) (shl10_3 swc) p2 hk p4 yd2 ye2
          refine ⟨swd, okc, fun z3 => ?_, fun z3 => ⟨⟨i + 1, by omega, rfl, rfl, by rw [msk_n (fun y => z3 (cc.2 y.2.1))]⟩, ms⟩⟩
          obtain ⟨oka, aa⟩ := s_agrees (a := wc d c) (a2 := wc e i) (d := d) (e := e) (bb := bg B t d c) (b2 := bg B t e i) hb swd swc p3 hW (hD d hm) (hD e hme) ⟨wsd.1, wsd.2.2.1⟩ ⟨wsi.1, wsi.2.2.1⟩ (fun k hk' => by have := bg_r hW (hD d hm) hc ht (k := k) (by omega); omega) (fun k hk' => by have := bg_r hW (hD e hme) (show i < chn B e by omega) ht (k := k) (by omega); omega)
          rw [p1]
          refine ⟨oka, fun z4 => ⟨⟨i + 1, by omega, rfl, rfl, by rw [msk_n (fun y => (aa.1 z4) y.2.2)]⟩, ms⟩, fun z4 => ?_⟩
          have yy : agP B t h o cn d c e i := ⟨yc, cc.1 z3, Classical.byContradiction fun y => z4 (aa.2 y)⟩
          rw [sh12 i hi12, or_iz]
          exact ⟨⟨i + 1, by omega, rfl, rfl, by rw [msk_y yy]⟩, ms⟩
    · show 12 - (0 : Int32).toInt.toNat < 1000
      omega
    · exact ⟨0, by omega, rfl, rfl, rfl⟩
  · rcases p6 d e c hd hm he hme hc hcn with y | y
    · exact absurd y z
    · exact ⟨y, p1, p2, p3, p4, p5, p6⟩
end AG
