/-! ===== the planner finds what the reference finds ===== -/
def FnQ (B : Nat → Int) (t h o : Int) (X : Nat → Nat → Prop) (S b' ki D : Nat) (any : Bool) (r : Int32 × St) : Prop := PlQ r.2 B t h o (cnX B t h o X) S b' ki ∧ (SK B t h o X D any = none → r.1 = 0 ∧ r.2.1 80 17 = iz (-1000000)) ∧ ∀ c0, SK B t h o X D any = some c0 → r.1 = 1 ∧ r.2.1 80 17 = iz (csm B D 8 c0) ∧ r.2.1 80 12 = iz (sn D 8) ∧ ∀ d, d < 8 → D.testBit d = true → c0 d < chn B d ∧ r.2.2.2.1 96 (sn D d) = iz ((12 * d + c0 d : Nat) : Int) ∧ r.2.2.2.1 94 (sn D d) = iz d
theorem SK_none {B : Nat → Int} {t h o : Int} {X : Nat → Nat → Prop} {D : Nat} {any : Bool} (hn : ∀ c2 : Nat → Nat, (∀ e, e < 8 → D.testBit e = true → c2 e < chn B e) → ¬ PLp B t h o X D 8 c2) : SK B t h o X D any = none := by
  cases q : SK B t h o X D any with
  | none => rfl
  | some c' =>
    rcases exS_res 8 0 (fun _ => 0) none c' q with z | ⟨z1, z2, z3⟩
    · cases z
    · exact absurd z1 (hn c' fun e he hme => z3 e (Nat.zero_le e) (by omega) hme)
theorem s_finds {T : St} {B : Nat → Int} {t h o : Int} {X : Nat → Nat → Prop} {S b' ki D : Nat} {any : Bool}
    (hb : sh b' = .inr 1) (hb2 : b' + 14 < 76) (hk : sh ki = .inr 3) (hk2 : ki + 1 < 80) (hW : WF B) (hS2 : S < 2 ^ (B 16).toNat) (hDS : ∀ e, D.testBit e = true → S.testBit e = true) (hD2 : D < 2 ^ (B 16).toNat) (hn : 1 ≤ sn D 8 ∧ sn D 8 ≤ 4) (ht : 1 ≤ t ∧ t ≤ 60) (ho : o < 60 → 1 ≤ B 1) (hP : PlQ T B t h o (cnX B t h o X) S b' ki) :
    ok_pl_finds T (iz D) (if any then 1 else 0) ∧ FnQ B t h o X S b' ki D any (x_pl_finds T (iz D) (if any then 1 else 0)) := by
  obtain ⟨d0, hd0, hm0, hs0⟩ := sn_ex (D := D) (a := 0) 8 (by omega)
  have gap := sn_gap (D := D) (d := 0) (e := d0) (by rw [hs0]; rfl)
  refine so_pl_finds (Q := FnQ B t h o X S b' ki D any) _ _ ?_
  unfold wp_pl_finds
  have plG : PlQ (sF (sF (sF T 80 14 (if any then 1 else 0)) 80 13 1000000) 80 17 (-1000000)) B t h o (cnX B t h o X) S b' ki := PlQ_fr (W := fun y => y = 18014 ∨ y = 18013 ∨ y = 18017) hW hS2 hb2 hk2 hP (fr_sF (fr_sF (fr_sF fr_rfl (by omega)) (by omega)) (by omega)) (fun y hy => by unfold sW; omega)
  have bsG : BsQ (sF (sF (sF T 80 14 (if any then 1 else 0)) 80 13 1000000) 80 17 (-1000000)) B D any none := ⟨by rw [gF_F, if_neg (by omega), gF_F, if_neg (by omega), gF_F, if_pos ⟨rfl, rfl⟩], by rw [gF_F, if_neg (by omega), gF_F, if_pos ⟨rfl, rfl⟩]; rfl, fun _ => by rw [gF_F, if_pos ⟨rfl, rfl⟩]; rfl, fun c0 z => by cases z⟩
  generalize sF (sF (sF T 80 14 (if any then 1 else 0)) 80 13 1000000) 80 17 (-1000000) = G at *
  obtain ⟨oks, q1, q2, q3⟩ := s_seat hb hb2 hk hk2 hW hS2 hDS hD2 hn.2 ht ho plG bsG hd0 hm0 hs0
  generalize (fun e => (G.2.2.1 83 e).toInt) = chx at *
  refine ⟨by cases any <;> simp, oks, ?_⟩
  generalize (x_pl_seatAll G (iz D)).1 = r at *
  generalize (x_pl_seatAll G (iz D)).2 = V at *
  have nn : (-1000000 : Int32) = iz (-1000000) := rfl
  have none_fin : SK B t h o X D any = none → V.1 80 17 = iz (-1000000) → (((V.1 80 17 = (-1000000)) → FnQ B t h o X S b' ki D any (0, V)) ∧ (¬ (V.1 80 17 = (-1000000)) → FnQ B t h o X S b' ki D any (1, V))) := fun e1 e2 => ⟨fun _ => ⟨q1, fun _ => ⟨rfl, e2⟩, fun c0 z => by rw [e1] at z; cases z⟩, fun z => absurd (e2.trans nn.symm) z⟩
  unfold jn
  rcases q3 with ⟨g1, g2⟩ | ⟨g1, g2, g3⟩
  · refine ⟨fun _ => none_fin (SK_none g2) (q2.2.2.1 rfl), fun z => absurd g1 z⟩
  · refine ⟨fun z => absurd (g1.symm.trans z) (by decide), fun _ => ?_⟩
    have hD := mem_lt hW hD2
    have cs0 : csm B D d0 (fun _ => 0) = 0 := by
      have := csm_sk (B := B) (D := D) (e := 0) (k := d0) (c := fun _ => 0) (fun x a1 a2 => gap x a1 (by omega))
      rw [Nat.zero_add] at this
      rw [this]; rfl
    have rstb : ∀ n e : Nat, e + n = 8 → 0 ≤ rst D chx e ∧ rst D chx e ≤ 900 * n := by
      intro n
      induction n with
      | zero =>
        intro e he
        have : e = 8 := by omega
        subst this
        have r8 : rst D chx 8 = 0 := by unfold rst; omega
        omega
      | succ n ih =>
        intro e he
        have h1 := ih (e + 1) (by omega)
        cases hme : D.testBit e with
        | true =>
          rw [rst_s hme]
          obtain ⟨w1, w2⟩ := g2 e (by omega) hme
          have : 0 ≤ chx e := by
            rcases w1.2 with ⟨c', x1, _, x3⟩ | ⟨x1, _⟩
            · have := cst_b hW (hD e hme) x1; omega
            · omega
          omega
        | false =>
          have := rst_g (D := D) (chx := chx) (d := e) 1 (fun x a1 a2 => by rw [show x = e by omega]; exact hme)
          omega
    have rb := rstb (8 - d0) d0 (by omega)
    have lm : lim B D any none = 1000000 := rfl
    obtain ⟨ok4, po⟩ := sk_4 hb hb2 hk hk2 hW hS2 hDS hD2 hn.2 ht ho g2 V d0 (fun _ => 0) none (by omega) (fun _ => hm0) (by omega) g3 (by rw [cs0, lm]; omega)
    have eS : ex B t h o X D any d0 (fun _ => 0) none = SK B t h o X D any := by
      rw [← ex_gap (Nat.zero_le d0) (by omega) gap]; rfl
    rw [eS, cs0, hs0] at po
    rw [cs0, hs0] at ok4
    obtain ⟨w1, w2, _, _, _, w6, _, w8⟩ := po
    have ok4' : ok_pl_seek4 V 0 0 := ok4
    refine ⟨ok4', ?_⟩
    have e0 : x_pl_seek4 V (iz ((0 : Nat) : Int)) (iz 0) = x_pl_seek4 V 0 0 := rfl
    rw [e0] at w1 w2 w6 w8
    generalize x_pl_seek4 V 0 0 = H at *
    try dsimp only
    cases hS : SK B t h o X D any with
    | none =>
      rw [hS] at w2
      have e17 := w2.2.2.1 rfl
      exact ⟨fun _ => ⟨w1, fun _ => ⟨rfl, e17⟩, fun c0 z => by rw [hS] at z; cases z⟩, fun z => absurd (e17.trans nn.symm) z⟩
    | some c0 =>
      rw [hS] at w2
      obtain ⟨e17, e96⟩ := w2.2.2.2 c0 rfl
      have csb := csm_b (c := c0) hW hD2 8 (fun e he hme => (e96 e he hme).1)
      refine ⟨fun z => ?_, fun _ => ⟨w1, fun z => (by rw [hS] at z; cases z), fun c1 z => ?_⟩⟩
      · rw [e17, nn, iz_eq (by omega)] at z; omega
      · have ec : c0 = c1 := by rw [hS] at z; exact Option.some.inj z
        subst ec
        refine ⟨rfl, e17, by show H.1 80 12 = _; rw [w8]; exact g3.2.1.1, fun d hd hm => ⟨(e96 d hd hm).1, (e96 d hd hm).2, by show H.2.2.1 94 _ = _; rw [w6]; exact g3.2.1.2 d hd hm⟩⟩
