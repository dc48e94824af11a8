/-! ===== all ways of a dish ===== -/
theorem ch_mk {B : Nat → Int} {d e f g : Nat} (h : WF B) (hd : (d : Int) < B 16) (he : (e : Int) ≤ bKeep B d) (hf : (f : Int) < wts B d 0) (hg : (g : Int) < wts B d 1) {c : Nat} (hc : (c : Int) = e + (1 + bKeep B d) * (f + wts B d 0 * g)) : cE B d c = e ∧ cW1 B d c = f ∧ cW2 B d c = g ∧ c < chn B d := by
  have h1 := (wf_d h hd).1
  have h2 := wts_b h hd 0
  have h3 := wts_b h hd 1
  have h4 := (ch_b h hd).2.2
  unfold cE cW1 cW2 cL
  rcases (show bKeep B d = 0 ∨ bKeep B d = 1 ∨ bKeep B d = 2 by omega) with e1 | e1 | e1 <;> rcases (show wts B d 0 = 1 ∨ wts B d 0 = 2 by omega) with e2 | e2 <;> rcases (show wts B d 1 = 1 ∨ wts B d 1 = 2 by omega) with e3 | e3 <;> rw [e1, e2, e3] at h4 <;> rw [e1, e2] at hc <;> rw [e1, e2] <;> omega
def wc (d c : Nat) : Nat := 123 + 4 * (12 * d + c)
def canL (B : Nat → Int) (t h o : Int) (d c : Nat) : Prop := canA B t d c ∧ ∀ w m : Nat, w < 5 → m < 60 → u1P B t d c w m → 1 ≤ gv B h o w m
def WpQ (T : St) (B : Nat → Int) (t : Int) (cn : Prop) (d c : Nat) : Prop := T.1 (wc d c) 3 = iz d ∧ T.1 (wc d c) 4 = iz (cE B d c) ∧ T.1 (wc d c) 5 = iz (cst B d c) ∧ (∀ k, k < nO B d → T.2.2.1 (wc d c + 1) k = iz (bg B t d c k)) ∧ ((T.1 (wc d c) 6 = 1 ∧ cn ∧ BiX T (wc d c + 3) (u1P B t d c)) ∨ (T.1 (wc d c) 6 = 0 ∧ ¬ cn))
def FrD (d : Nat) (T U : St) : Prop := (∀ y z, ¬ (123 + 48 * d ≤ y ∧ y < 171 + 48 * d) → U.1 y z = T.1 y z) ∧ U.2.1 = T.2.1 ∧ (∀ y z, ¬ (123 + 48 * d ≤ y ∧ y < 171 + 48 * d) → U.2.2.1 y z = T.2.2.1 y z) ∧ ∀ y z, ¬ (123 + 48 * d ≤ y ∧ y < 171 + 48 * d) → U.2.2.2 y z = T.2.2.2 y z
theorem FrD_r {d : Nat} {T : St} : FrD d T T := ⟨fun _ _ _ => rfl, rfl, fun _ _ _ => rfl, fun _ _ _ => rfl⟩
theorem FrD_t {d : Nat} {T U V : St} (h : FrD d T U) (g : FrD d U V) : FrD d T V := ⟨fun y z n => (g.1 y z n).trans (h.1 y z n), g.2.1.trans h.2.1, fun y z n => (g.2.2.1 y z n).trans (h.2.2.1 y z n), fun y z n => (g.2.2.2 y z n).trans (h.2.2.2 y z n)⟩
theorem sh_wc {d c : Nat} (hd : d < 8) (hc : c < 12) : sh (wc d c) = .inr 10 := (by decide +kernel : ∀ a, a < 96 → sh (123 + 4 * a) = .inr 10) (12 * d + c) (by omega)
theorem WpQ_eq {T U : St} {B : Nat → Int} {t : Int} {cn : Prop} {d c : Nat} (h : WpQ T B t cn d c) (h1 : ∀ z, U.1 (wc d c) z = T.1 (wc d c) z) (h2 : ∀ z, U.2.2.1 (wc d c + 1) z = T.2.2.1 (wc d c + 1) z) (h3 : ∀ z, U.2.2.2 (wc d c + 3) z = T.2.2.2 (wc d c + 3) z) : WpQ U B t cn d c := by
  unfold WpQ BiX at *
  simp only [h1, h2, h3]
  exact h
section LD
variable {T : St} {b d : Nat} {B : Nat → Int} {t h o : Int}
theorem s_waitB {k : Nat} (hb : sh b = .inr 1) (hP : BkP T b B) (hW : WF B) (hd : (d : Int) < B 16) (hk : k < 2) : ok_bk_waitBehind T b (iz d) (iz k) ∧ x_bk_waitBehind T b (iz d) (iz k) = iz (wts B d k - 1) := by
  have h8 := hW.2.2.1
  have k17 := wf_17 hW
  have n1 := wf_n hW hd
  have f1 := wf_f hW hd
  obtain ⟨_, _, _, p7, p8⟩ := hP.2.1.2 d hd
  unfold ok_bk_waitBehind x_bk_waitBehind wts
  simp (disch := omega) only [ix_nat, p7, p8, z_1, iz_sub, iz_le, iz_add]
  refine ⟨⟨hb, in_nat (by omega) (by omega), fun c => ?_⟩, ?_⟩
  · have fk := wf_fk hW hd (k := k) (by omega)
    rw [show bFst B d + (k : Int) = ((nF B d + k : Nat) : Int) by omega]
    exact ⟨in_nat (by omega) (by omega), trivial⟩
  · by_cases c : bOwn B d - 1 ≤ (k : Int)
    · rw [if_pos c, if_neg (by omega)]; rfl
    · have fk := wf_fk hW hd (k := k) (by omega)
      obtain ⟨_, _, q11, _⟩ := hP.2.2 (nF B d + k) fk.1
      rw [if_neg c, if_pos (by omega), show bFst B d + (k : Int) = ((nF B d + k : Nat) : Int) by omega, ix_nat (by omega), q11]
      exact iz_inj (by omega)
-- one way
theorem s_one {U : St} {e f g c : Nat} (hb : sh b = .inr 1) (hb2 : b + 14 < 123) (hP : BkP U b B) (hR : U.2.1 2 = b) (hT : TyX U 507 B h o (fun _ _ => 0)) (hW : WF B) (hd : (d : Int) < B 16) (ht : 1 ≤ t ∧ t ≤ 60) (he : (e : Int) ≤ bKeep B d) (hf : (f : Int) < wts B d 0) (hg : (g : Int) < wts B d 1) (hc : (c : Int) = e + (1 + bKeep B d) * (f + wts B d 0 * g)) {N : St → Prop}
    (hN : ∀ U' : St, FrD d U U' → (∀ y z, y ≠ wc d c → U'.1 y z = U.1 y z) → (∀ y z, y ≠ wc d c + 1 → y ≠ wc d c + 2 → U'.2.2.1 y z = U.2.2.1 y z) → (∀ y z, y ≠ wc d c + 3 → U'.2.2.2 y z = U.2.2.2 y z) → WpQ U' B t (canL B t h o d c) d c → N U') :
    (ok_wa_choose U (wc d c) (U.2.1 2) (iz d) (iz t - iz e) (iz f) (iz g)) ∧ (sh (wc d c) = .inr 10) ∧ (sh ((sF (x_wa_choose U (wc d c) (U.2.1 2) (iz d) (iz t - iz e) (iz f) (iz g)) (wc d c) 4 (iz e)).2.1 2) = .inr 1) ∧ jn (fun (T2 : St) => ((((T2.1 (wc d c) 6) = 0) → N T2) ∧ (¬ ((T2.1 (wc d c) 6) = 0) → (ok_ta_hasRoom T2 507 (wc d c + 3)) ∧ ((((x_ta_hasRoom T2 507 (wc d c + 3)) = 0) → N (sF T2 (wc d c) 6 0)) ∧ (¬ ((x_ta_hasRoom T2 507 (wc d c + 3)) = 0) → N T2))))) (sF (sF (x_wa_choose U (wc d c) (U.2.1 2) (iz d) (iz t - iz e) (iz f) (iz g)) (wc d c) 4 (iz e)) (wc d c) 5 (((sF (x_wa_choose U (wc d c) (U.2.1 2) (iz d) (iz t - iz e) (iz f) (iz g)) (wc d c) 4 (iz e)).1 (wc d c) 5) + (iz e * ((sF (x_wa_choose U (wc d c) (U.2.1 2) (iz d) (iz t - iz e) (iz f) (iz g)) (wc d c) 4 (iz e)).2.2.1 (((sF (x_wa_choose U (wc d c) (U.2.1 2) (iz d) (iz t - iz e) (iz f) (iz g)) (wc d c) 4 (iz e)).2.1 2) + 5) d)))) := by
  have h8 := hW.2.2.1
  obtain ⟨c1, c2, c3, c4⟩ := ch_mk hW hd he hf hg hc
  have cb := ch_b hW hd
  have ha := sh_wc (d := d) (c := c) (by omega) (by omega)
  have hab : b + 14 < wc d c := by unfold wc; omega
  have wcb : 123 + 48 * d ≤ wc d c ∧ wc d c + 3 < 171 + 48 * d := by unfold wc; omega
  obtain ⟨_, p5, _, _, _⟩ := hP.2.1.2 d hd
  obtain ⟨ok, q⟩ := s_choose (t := t) hb ha hab hP hW hd c4 ht
  rw [c1, c2, c3] at ok q
  rw [hR, iz_sub]
  refine ⟨ok, ha, ?_⟩
  generalize x_wa_choose U (wc d c) b (iz d) (iz (t - e)) (iz f) (iz g) = V at *
  obtain ⟨v3, v5, v1, v6, vF, vR, vA, vL⟩ := q
  have e1 : (sF V (wc d c) 4 (iz (e : Int))).2.1 2 = b := by rw [gF_R, vR, hR]
  have e2 : (sF V (wc d c) 4 (iz (e : Int))).1 (wc d c) 5 = iz (cW1 B d c + cW2 B d c + lsr B d (nO B d)) := by rw [gF_F, if_neg (by omega)]; exact v5
  have e3 : (sF V (wc d c) 4 (iz (e : Int))).2.2.1 (b + 5) d = iz (bCold B d) := by rw [gF_A, vA _ _ (by omega) (by omega)]; exact p5
  rw [e1, e2, e3, iz_mul, iz_add]
  refine ⟨hb, jo ?_⟩
  try dsimp only
  have hcs : cW1 B d c + cW2 B d c + lsr B d (nO B d) + (e : Int) * bCold B d = cst B d c := by unfold cst; rw [c1]; omega
  rw [hcs]
  have G3 : ∀ z, z ≠ 4 → z ≠ 5 → (sF (sF V (wc d c) 4 (iz (e : Int))) (wc d c) 5 (iz (cst B d c))).1 (wc d c) z = V.1 (wc d c) z := fun z h1 h2 => by rw [gF_F, if_neg (by omega), gF_F, if_neg (by omega)]
  have G4 : (sF (sF V (wc d c) 4 (iz (e : Int))) (wc d c) 5 (iz (cst B d c))).1 (wc d c) 4 = iz e := by rw [gF_F, if_neg (by omega), gF_F, if_pos ⟨rfl, rfl⟩]
  have G5 : (sF (sF V (wc d c) 4 (iz (e : Int))) (wc d c) 5 (iz (cst B d c))).1 (wc d c) 5 = iz (cst B d c) := by rw [gF_F, if_pos ⟨rfl, rfl⟩]
  have GO : ∀ y z, y ≠ wc d c → (sF (sF V (wc d c) 4 (iz (e : Int))) (wc d c) 5 (iz (cst B d c))).1 y z = V.1 y z := fun y z h1 => by rw [gF_F, if_neg (fun w => h1 w.1), gF_F, if_neg (fun w => h1 w.1)]
  have GR : (sF (sF V (wc d c) 4 (iz (e : Int))) (wc d c) 5 (iz (cst B d c))).2 = V.2 := rfl
  generalize sF (sF V (wc d c) 4 (iz (e : Int))) (wc d c) 5 (iz (cst B d c)) = G at *
  have gR1 : G.2.1 = V.2.1 := congrArg Prod.fst GR
  have gA1 : G.2.2.1 = V.2.2.1 := congrArg (fun p => p.2.1) GR
  have gL1 : G.2.2.2 = V.2.2.2 := congrArg (fun p => p.2.2) GR
  have frG : FrD d U G := ⟨fun y z n => by rw [GO y z (by omega)]; exact vF y z (by omega), gR1.trans vR, fun y z n => by rw [gA1]; exact vA y z (by omega) (by omega), fun y z n => by rw [gL1]; exact vL y z (by omega)⟩
  have tyG : TyX G 507 B h o (fun _ _ => 0) := by
    intro w m hw hm
    rw [gL1, vL _ _ (by omega), vL _ _ (by omega), vL _ _ (by omega), vL _ _ (by omega)]
    exact hT w m hw hm
  have mk : ∀ G' : St, (∀ y z, ¬ (y = wc d c ∧ z = 6) → G'.1 y z = G.1 y z) → G'.2 = G.2 → ((G'.1 (wc d c) 6 = 1 ∧ canL B t h o d c ∧ BiX G' (wc d c + 3) (u1P B t d c)) ∨ (G'.1 (wc d c) 6 = 0 ∧ ¬ canL B t h o d c)) → N G' := by
    intro G' h1 h2 h3
    have r1 : G'.2.1 = G.2.1 := congrArg Prod.fst h2
    have r2 : G'.2.2.1 = G.2.2.1 := congrArg (fun p => p.2.1) h2
    have r3 : G'.2.2.2 = G.2.2.2 := congrArg (fun p => p.2.2) h2
    refine hN G' ⟨fun y z n => by rw [h1 y z (by omega)]; exact frG.1 y z n, r1.trans frG.2.1, fun y z n => by rw [r2]; exact frG.2.2.1 y z n, fun y z n => by rw [r3]; exact frG.2.2.2 y z n⟩ (fun y z hy => by rw [h1 y z (fun w => hy w.1), GO y z hy]; exact vF y z hy) (fun y z h4 h5 => by rw [r2, gA1]; exact vA y z h4 h5) (fun y z h4 => by rw [r3, gL1]; exact vL y z h4) ⟨?_, ?_, ?_, fun k hk => ?_, h3⟩
    · rw [h1 _ _ (by omega), G3 3 (by omega) (by omega)]; exact v3
    · rw [h1 _ _ (by omega), G4, c1]
    · rw [h1 _ _ (by omega), G5]
    · rw [r2, gA1]; exact v1 k hk
  rw [G3 6 (by omega) (by omega)]
  rcases v6 with ⟨w1, w2, w3⟩ | ⟨w1, w2⟩
  · have bi : BiX G (wc d c + 3) (u1P B t d c) := by intro w m hw hm; rw [gL1]; exact w3 w m hw hm
    have hr := s_hasRoom tyG bi
    have key : (∀ w m : Nat, w < 5 → m < 60 → u1P B t d c w m → ¬ fll B h o w m 0) ↔ ∀ w m : Nat, w < 5 → m < 60 → u1P B t d c w m → 1 ≤ gv B h o w m := by
      constructor
      · intro H w m hw hm hp
        have := H w m hw hm hp
        unfold fll at this
        omega
      · intro H w m hw hm hp
        have := H w m hw hm hp
        unfold fll
        omega
    rw [w1]
    refine ⟨fun z => absurd z (by decide), fun _ => ⟨⟨by decide, shl10_3 ha, trivial⟩, fun z => ?_, fun z => ?_⟩⟩
    · refine mk _ (fun y z n => by rw [gF_F, if_neg n]) rfl (Or.inr ⟨by rw [gF_F, if_pos ⟨rfl, rfl⟩], fun q => (hr.1 z) (key.2 q.2)⟩)
    · refine mk G (fun _ _ _ => rfl) rfl (Or.inl ⟨by rw [G3 6 (by omega) (by omega)]; exact w1, ⟨w2, key.1 (Classical.byContradiction fun y => z (hr.2 y))⟩, bi⟩)
  · rw [w1]
    refine ⟨fun _ => mk G (fun _ _ _ => rfl) rfl (Or.inr ⟨by rw [G3 6 (by omega) (by omega)]; exact w1, fun q => w2 q.1⟩), fun z => absurd rfl z⟩
end LD
