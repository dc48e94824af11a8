/-! ===== isPossible and canBe; the pair more ===== -/
def TR (_ _ : Nat) : Prop := True
theorem s_poss {T : St} {B : Nat → Int} {t h o : Int} {ki D : Nat} (h46 : T.2.1 0 = 46 ∨ T.2.1 0 = 61) (hk : sh ki = .inr 3) (hk2 : ki + 1 < 80) (hW : WF B) (hP : BkP T (T.2.1 0) B) (hK : KitX T ki B h o) (ho : o < 60 → 1 ≤ B 1) (ht : 1 ≤ t ∧ t ≤ 60) (hD2 : D < 2 ^ (B 16).toNat) (hn : 1 ≤ sn D 8 ∧ sn D 8 ≤ 4) : ok_x_isPossible T ki (iz D) (iz t) ∧ ((x_x_isPossible T ki (iz D) (iz t)).1 = 0 ↔ SK B t h o (fun _ _ => True) D true = none) := by
  obtain ⟨hb, hb2⟩ := b_46 h46
  refine so_x_isPossible (Q := fun r => r.1 = 0 ↔ SK B t h o (fun _ _ => True) D true = none) _ _ _ ?_
  unfold wp_x_isPossible
  obtain ⟨ok1, l1⟩ := s_lay (t := t) (D := D) hb hb2 hk (by omega) hP hK hW hD2 ht
  have fr1 : Fr _ T _ := fr_pl_lay _ _ _ _ ok1
  refine ⟨ok1, ?_⟩
  have hP1 : BkP (x_pl_lay T (T.2.1 0) ki (iz D) (iz t)) (T.2.1 0) B := BkP_fr hP (q_F fr1 (by unfold W_pl_lay; omega)) (fun y z h1 h2 => q_A fr1 (by unfold W_pl_lay; omega))
  have hK1 : KitX (x_pl_lay T (T.2.1 0) ki (iz D) (iz t)) ki B h o := KitX_fr fr1 (by unfold W_pl_lay; omega) hK
  generalize x_pl_lay T (T.2.1 0) ki (iz D) (iz t) = L1 at *
  obtain ⟨ok3, pl⟩ := s_pset (cn := cnX B t h o (fun _ _ => True)) hb hb2 hk2 hW hD2 hP1 hK1 (LayQ_cg (fun d c => ⟨fun z => ⟨z, trivial⟩, fun z => z.1⟩) l1)
  refine ⟨ok3, ?_⟩
  generalize x_pl_settle L1 (iz D) = L3 at *
  have fn : ok_pl_finds L3 (iz D) 1 ∧ FnQ B t h o (fun _ _ => True) D (T.2.1 0) ki D true (x_pl_finds L3 (iz D) 1) := s_finds (any := true) hb hb2 hk hk2 hW hD2 (fun _ h => h) hD2 hn ht ho pl
  obtain ⟨ok4, f1, f2, f3⟩ := fn
  refine ⟨ok4, ?_, ?_⟩
  · cases hS : SK B t h o (fun _ _ => True) D true with
    | none => exact Or.inl (f2 hS).1
    | some c0 => exact Or.inr (f3 c0 hS).1
  · show (x_pl_finds L3 (iz D) 1).1 = 0 ↔ _
    constructor
    · intro z
      cases hS : SK B t h o (fun _ _ => True) D true with
      | none => rfl
      | some c0 => rw [(f3 c0 hS).1] at z; exact absurd z (by decide)
    · intro z; exact (f2 z).1
theorem s_canBe {V : St} {B : Nat → Int} {t h : Int} {D : Nat} (hM : MkX V B) (hW : WF B) (m0 : V.1 571 32 = 0) (hh : 0 ≤ h ∧ h ≤ 9) (ht : 1 ≤ t ∧ t ≤ 60) (hD2 : D < 2 ^ (B 16).toNat) (hn : 1 ≤ sn D 8 ∧ sn D 8 ≤ 4) : ok_m_canBe V (iz D) (iz t) (iz h) ∧ ((x_m_canBe V (iz D) (iz t) (iz h)).1 = 0 ↔ SK B t h (B 203) (fun _ _ => True) D true = none) ∧ (x_m_canBe V (iz D) (iz t) (iz h)).2.1 571 32 = 0 := by
  obtain ⟨w1, w2, w3⟩ := WF_h hW
  refine so_m_canBe (Q := fun r => (r.1 = 0 ↔ SK B t h (B 203) (fun _ _ => True) D true = none) ∧ r.2.1 571 32 = 0) _ _ _ ?_
  unfold wp_m_canBe
  rw [sF_id m0, show (203 : Int32).toNatClampNeg = 203 from rfl, hM 203 (by omega)]
  have sk : ok_m_seek V (iz D) (iz t) (iz h) (iz (B 203)) 0 1 ∧ SkF (x_m_seek V (iz D) (iz t) (iz h) (iz (B 203)) 0 1).2 B D t (SK B t h (B 203) (fun _ _ => True) D true) (x_m_seek V (iz D) (iz t) (iz h) (iz (B 203)) 0 1).1 := s_seek (any := true) (ne := false) (μ := 0) hM hW hD2 hn ht hh w2 (by omega) m0 (fun d c hm hc h0 => ⟨fun z => ⟨fun y => (by cases y), gk_0 hW (mem_lt hW hD2 d hm) hc ht h0⟩, fun z => trivial⟩)
  have fs : Fr _ V _ := fr_m_seek _ _ _ _ _ _ sk.1
  refine ⟨sk.1, SkF01 sk.2, ?_, ?_⟩
  · show (x_m_seek V (iz D) (iz t) (iz h) (iz (B 203)) 0 1).1 = 0 ↔ _
    rcases sk.2 with ⟨g, g2⟩ | ⟨c0, g, g2, _⟩
    · exact ⟨fun _ => g, fun _ => g2⟩
    · rw [g2]; exact ⟨fun z => absurd z (by decide), fun z => by rw [g] at z; cases z⟩
  · show (x_m_seek V (iz D) (iz t) (iz h) (iz (B 203)) 0 1).2.1 571 32 = 0
    rw [q_F fs (by unfold W_m_seek; omega)]; exact m0
def tz : St := (fun _ _ => 0, fun _ => 0, fun _ _ => 0, fun _ _ => 0)
theorem bc_1 : ∀ D : Nat, D < 256 → x_J_bitCount tz (iz D) = iz (bc8 D) := by decide +kernel
theorem bc_x {T : St} {D : Nat} (h : D < 256) : x_J_bitCount T (iz D) = iz (bc8 D) := bc_1 D h
theorem bc_2 : ∀ x : Nat, x < 256 → x ≠ 0 → (iz (x : Int) &&& (iz (x : Int) - 1)) = iz ((x &&& (x - 1) : Nat) : Int) ∧ bc8 (x &&& (x - 1)) + 1 = bc8 x ∧ x &&& (x - 1) < 256 := by decide +kernel
theorem bc_8 : ∀ x : Nat, x < 256 → bc8 x ≤ 8 ∧ (x = 0 → bc8 x = 0) := by decide +kernel
theorem s_bits {T : St} {D : Nat} (h : D < 256) : ok_m_bits T (iz D) ∧ x_m_bits T (iz D) = iz (bc8 D) := by
  refine so_m_bits (Q := fun r => r = iz (bc8 D)) _ ?_
  unfold wp_m_bits
  refine wr_m_bits_4 T _ (fun v1 v2 => ∃ x y : Nat, x < 256 ∧ v2 = iz x ∧ v1 = iz y ∧ y + bc8 x = bc8 D) (fun v1 v2 => v2.toInt.toNat) ?_ _ _ _ ?_ ?_
  · rintro _ _ ⟨x, y, h1, rfl, rfl, h2⟩
    have b8 := bc_8 D h
    have bx := bc_8 x h1
    unfold bd_m_bits_4
    rw [eq0 (by omega)]
    refine ⟨fun q => ?_, fun q => ?_⟩
    · have := bx.2 (by omega)
      show iz _ = iz _
      exact iz_inj (by omega)
    · obtain ⟨a1, a2, a3⟩ := bc_2 x h1 (by omega)
      rw [a1, z_1, iz_add]
      refine ⟨⟨x &&& (x - 1), y + 1, a3, rfl, iz_inj (by omega), by omega⟩, ?_⟩
      rw [iz_t (by omega), iz_t (by omega)]
      have : x &&& (x - 1) ≤ x - 1 := Nat.and_le_right
      omega
  · rw [iz_t (by omega)]; omega
  · exact ⟨D, 0, h, rfl, rfl, by omega⟩
theorem an_b : ∀ D : Nat, D < 256 → ∀ e : Nat, e < 8 → (((iz D &&& ((1 : Int32) <<< (iz e &&& 31))) = 0) ↔ D.testBit e = false) := by decide +kernel
theorem or_c : ∀ D : Nat, D < 256 → ∀ e : Nat, e < 8 → D.testBit e = false → bc8 (D ||| 2 ^ e) = bc8 D + 1 := by decide +kernel
theorem i_more : P_more Inv := by
  intro T hI p0
  obtain ⟨t, htr, rfl⟩ := iz_ex p0
  obtain ⟨P, hPd⟩ : ∃ P : Nat → Prop, P = fun e => (nB T 202).toNat.testBit e = false ∧ ¬ SK (nB T) t (nB T 5) (nB T 203) (fun _ _ => True) ((nB T 202).toNat ||| 2 ^ e) true = none := ⟨_, rfl⟩
  obtain ⟨v, hv⟩ : ∃ v : Int32, v = @ite _ (¬ (1 ≤ t ∧ t ≤ 60)) (Classical.propDecidable _) (-1000001) (@ite _ (T.1 571 7 = 0) (Classical.propDecidable _) (-1000002) (if 4 ≤ bc8 (nB T 202).toNat then 0 else iz ((msk P (nB T 16).toNat : Nat) : Int))) := ⟨_, rfl⟩
  obtain ⟨rf, r1, r2, r3⟩ := x_ref hI (x_x_isTime T (iz t))
  have orz : ∀ a : Nat, iz (a : Int) ||| 0 = iz (a : Int) := fun a => by
    have : (0 : Int32) = iz ((0 : Nat) : Int) := rfl
    rw [this, or_iz, Nat.or_zero]
  have xs : ok_x_more T (iz t) ∧ (x_x_more T (iz t)).1 = v := by
    refine so_x_more (Q := fun r => r.1 = v) _ ?_
    unfold wp_x_more
    refine ⟨rf, jo ?_⟩
    by_cases c1 : 1 ≤ t ∧ t ≤ 60
    · have nt : ¬ x_x_isTime T (iz t) = 0 := fun z => (x_time htr).1 z c1
      by_cases c7 : T.1 571 7 = 0
      · rw [r2 nt c7]
        refine ⟨fun z => absurd z (by decide), fun _ => ?_⟩
        rw [hv, if_neg (fun y => y c1), if_pos c7]
      · rw [r3 nt c7]
        refine ⟨fun _ => ?_, fun z => absurd rfl z⟩
        obtain ⟨hW, hX, hK, hM, h46⟩ := I_there hI c7
        obtain ⟨hb, hb2⟩ := b_46 h46
        obtain ⟨D, d1, d2, d3, d4⟩ := WF_D hW
        obtain ⟨w1, w2, w3⟩ := WF_h hW
        have h16 := hW.2.2.1
        have hD := mem_lt hW d3
        have h256 := D_256 hW d3
        have b8 := bc_8 D h256
        have e17 : T.1 (T.2.1 0) 17 = iz D := by rw [hX.2.2.2.2.1, d1]
        rw [hv, if_neg (fun y => y c1), if_neg c7, d2, e17, bc_x h256, z_4, iz_le (by omega)]
        rw [d2] at hPd
        refine ⟨hb, fun z => ?_, fun z => ?_⟩
        · rw [if_pos (by omega)]
        · rw [if_neg (by omega)]
          refine wr_x_more_34 _ _ (fun v3 v4 U => ∃ e : Nat, (e : Int) ≤ nB T 16 ∧ v4 = iz e ∧ v3 = iz ((msk P e : Nat) : Int) ∧ U.2.1 0 = T.2.1 0 ∧ U.1 (T.2.1 0) 17 = iz D ∧ BkP U (T.2.1 0) (nB T) ∧ KitX U 76 (nB T) (nB T 5) (nB T 203)) (fun v3 v4 U => 8 - v4.toInt.toNat) ?_ _ _ _ _ ?_ ?_
          · rintro _ _ U ⟨e, he, rfl, rfl, u1, u2, u3, u4⟩
            unfold bd_x_more_34
            rw [u1, u3.2.1.1, u2, iz_le (by omega)]
            refine ⟨hb, fun q => ?_, fun q => ?_⟩
            · have ee : e = (nB T 16).toNat := by omega
              rw [ee]
            · have he8 : e < 8 := by omega
              have nx : iz (e : Int) + 1 = iz ((e + 1 : Nat) : Int) := by rw [z_1, iz_add]; exact iz_inj (by omega)
              have ms : 8 - (iz ((e + 1 : Nat) : Int)).toInt.toNat < 8 - (iz (e : Int)).toInt.toNat := by rw [iz_t (by omega), iz_t (by omega)]; omega
              rw [an_b D h256 e he8, sh12 e (by omega), or_iz, nx]
              have pow8 : 2 ^ e < 2 ^ (nB T 16).toNat := Nat.pow_lt_pow_right (by omega) (by omega)
              refine ⟨fun z2 => ?_, fun z2 => ⟨⟨e + 1, by omega, rfl, ?_, u1, u2, u3, u4⟩, ms⟩⟩
              · have oc := or_c D h256 e he8 z2
                obtain ⟨ok, ep⟩ := s_poss (T := U) (t := t) (D := D ||| 2 ^ e) (by rw [u1]; exact h46) (show sh 76 = .inr 3 by decide) (by omega) hW (by rw [u1]; exact u3) u4 w3 c1 (Nat.or_lt_two_pow d3 pow8) (by rw [sn_8, oc]; omega)
                have fr : Fr _ U _ := fr_x_isPossible _ _ _ ok
                have st : (x_x_isPossible U 76 (iz ((D ||| 2 ^ e : Nat) : Int)) (iz t)).2.2.1 0 = T.2.1 0 ∧ (x_x_isPossible U 76 (iz ((D ||| 2 ^ e : Nat) : Int)) (iz t)).2.1 (T.2.1 0) 17 = iz D ∧ BkP (x_x_isPossible U 76 (iz ((D ||| 2 ^ e : Nat) : Int)) (iz t)).2 (T.2.1 0) (nB T) ∧ KitX (x_x_isPossible U 76 (iz ((D ||| 2 ^ e : Nat) : Int)) (iz t)).2 76 (nB T) (nB T 5) (nB T 203) := ⟨by rw [q_R fr (by unfold W_x_isPossible; omega)]; exact u1, by rw [q_F fr (by unfold W_x_isPossible; omega)]; exact u2, BkP_fr u3 (q_F fr (by unfold W_x_isPossible; omega)) (fun y z h1 h2 => q_A fr (by unfold W_x_isPossible; omega)), KitX_fr fr (by unfold W_x_isPossible; omega) u4⟩
                refine ⟨ok, fun z3 => ⟨⟨e + 1, by omega, rfl, ?_, st⟩, ms⟩, fun z3 => ⟨⟨e + 1, by omega, rfl, ?_, st⟩, ms⟩⟩
                · rw [msk_n (by rw [hPd]; exact fun y => y.2 (ep.1 z3))]
                · rw [or_iz, msk_y (by rw [hPd]; exact ⟨z2, fun y => z3 (ep.2 y)⟩)]
              · rw [msk_n (by rw [hPd]; exact fun y => z2 y.1)]
          · show 8 - (0 : Int32).toInt.toNat < 1000
            omega
          · exact ⟨0, by omega, rfl, rfl, rfl, e17, BkP_X hX, hK⟩
    · rw [r1 ((x_time htr).2 c1)]
      refine ⟨fun z => absurd z (by decide), fun _ => ?_⟩
      rw [hv, if_pos c1]
  have hI2 : Inv (x_x_more T (iz t)).2 := Inv_irr (fr_x_more _ xs.1) (fun c hc => by unfold W_x_more at hc; unfold irr; omega) hI
  have fx : Fr _ T _ := fr_x_more _ xs.1
  have e7 : (x_x_more T (iz t)).2.1 571 7 = T.1 571 7 := q_F fx (by unfold W_x_more; omega)
  have eB : nB (x_x_more T (iz t)).2 = nB T := nB_fr fx (by unfold W_x_more; omega)
  have ms : ok_m_more (x_x_more T (iz t)).2 (iz t) ∧ (fun r : Int32 × St => r.1 = v ∧ Inv r.2) (x_m_more (x_x_more T (iz t)).2 (iz t)) := by
    refine so_m_more (Q := fun r : Int32 × St => r.1 = v ∧ Inv r.2) _ ?_
    generalize (x_x_more T (iz t)).2 = U at *
    have tt := Inv_t 0 hI2
    have e7' : (sF U 571 0 0).1 571 7 = T.1 571 7 := by rw [gF_F, if_neg (by omega)]; exact e7
    have eB' : nB (sF U 571 0 0) = nB T := eB
    unfold wp_m_more
    rw [m_by htr, e7']
    refine ⟨fun c1 => ⟨by rw [hv, if_pos c1], tt⟩, fun c1 => ⟨fun c7 => ⟨by rw [hv, if_neg c1, if_pos c7], tt⟩, fun c7 => ?_⟩⟩
    have c1' : 1 ≤ t ∧ t ≤ 60 := Classical.byContradiction c1
    generalize sF U 571 0 0 = V at *
    obtain ⟨hW, _, _, _, _⟩ := I_there tt (by rw [e7']; exact c7)
    rw [eB'] at hW
    obtain ⟨D, d1, d2, d3, d4⟩ := WF_D hW
    obtain ⟨w1, w2, w3⟩ := WF_h hW
    have h16 := hW.2.2.1
    have h256 := D_256 hW d3
    have b8 := bc_8 D h256
    rw [d2] at hPd
    refine wr_m_more_29 _ (fun v2 v3 W => ∃ e : Nat, (e : Int) ≤ nB T 16 ∧ v3 = iz e ∧ v2 = iz ((msk P e : Nat) : Int) ∧ Inv W ∧ nB W = nB T ∧ (0 < e → ¬ 4 ≤ bc8 D)) (fun v2 v3 W => 8 - v3.toInt.toNat) ?_ _ _ _ _ ?_ ?_
    · rintro _ _ W ⟨e, he, rfl, rfl, i1, i2, i3⟩
      have hM : MkX W (nB T) := fun j _ => by rw [← i2]; exact (iz_self _).symm
      have m0 : W.1 571 32 = 0 := i1.2.2.2.1.2.1
      obtain ⟨okb, eb⟩ := s_bits (T := W) h256
      unfold bd_m_more_29
      rw [n_16, n_5, show (202 : Int32).toNatClampNeg = 202 from rfl, hM 16 (by omega), hM 202 (by omega), hM 5 (by omega), d1, eb, iz_le (by omega), z_4, iz_le (by omega)]
      refine ⟨fun q => ?_, fun q => ⟨okb, fun q4 => ?_, fun q4 => ?_⟩⟩
      · have ee : e = (nB T 16).toNat := by omega
        refine ⟨?_, i1⟩
        show iz _ = v
        rw [hv, if_neg c1, if_neg c7, d2, if_neg (i3 (by omega)), ee]
      · have e0 : e = 0 := by
          rcases Nat.eq_zero_or_pos e with y | y
          · exact y
          · exact absurd (show 4 ≤ bc8 D by omega) (i3 y)
        refine ⟨?_, i1⟩
        show iz _ = v
        rw [hv, if_neg c1, if_neg c7, d2, if_pos (by omega), e0]
        rfl
      · have he8 : e < 8 := by omega
        have hbt : (((iz (D : Int)) >>> (iz (e : Int) &&& 31)) &&& 1) = if D.testBit e then (1 : Int32) else 0 := bt_t D h256 e he8
        have nx : iz (e : Int) + 1 = iz ((e + 1 : Nat) : Int) := by rw [z_1, iz_add]; exact iz_inj (by omega)
        have msr' : 8 - (iz ((e + 1 : Nat) : Int)).toInt.toNat < 8 - (iz (e : Int)).toInt.toNat := by rw [iz_t (by omega), iz_t (by omega)]; omega
        have pow8 : 2 ^ e < 2 ^ (nB T 16).toNat := Nat.pow_lt_pow_right (by omega) (by omega)
        rw [hbt, sh12 e (by omega), or_iz, nx]
        unfold jn
        cases hme : D.testBit e with
        | true =>
          refine ⟨fun y => absurd y (by decide), fun _ => ⟨fun _ => ⟨⟨e + 1, by omega, rfl, ?_, i1, i2, fun _ => by omega⟩, msr'⟩, fun y => absurd rfl y⟩⟩
          rw [orz, msk_n (by rw [hPd]; intro y; have y1 : D.testBit e = false := y.1; rw [hme] at y1; cases y1)]
        | false =>
          refine ⟨fun _ => ⟨fun y => absurd y (by decide), fun _ => ?_⟩, fun y => absurd rfl y⟩
          have oc := or_c D h256 e he8 hme
          obtain ⟨ok, ep, ez⟩ := s_canBe (V := W) (t := t) (h := nB T 5) (D := D ||| 2 ^ e) hM hW m0 (by omega) c1' (Nat.or_lt_two_pow d3 pow8) (by rw [sn_8, oc]; omega)
          have fr : Fr _ W _ := fr_m_canBe _ _ _ ok
          have i1' : Inv (x_m_canBe W (iz ((D ||| 2 ^ e : Nat) : Int)) (iz t) (iz (nB T 5))).2 := by
            have hq : x_m_canBe W (iz ((D ||| 2 ^ e : Nat) : Int)) (iz t) (iz (nB T 5)) = ((x_m_seek W (iz ((D ||| 2 ^ e : Nat) : Int)) (iz t) (iz (nB T 5)) (W.2.2.1 575 (203 : Int32).toNatClampNeg) 0 1).1, (x_m_seek W (iz ((D ||| 2 ^ e : Nat) : Int)) (iz t) (iz (nB T 5)) (W.2.2.1 575 (203 : Int32).toNatClampNeg) 0 1).2) := by
              unfold x_m_canBe
              rw [sF_id m0]
            have ok2 : ok_m_seek W (iz ((D ||| 2 ^ e : Nat) : Int)) (iz t) (iz (nB T 5)) (W.2.2.1 575 (203 : Int32).toNatClampNeg) 0 1 := by
              have := ok.1
              rw [sF_id m0] at this
              exact this
            rw [hq]
            exact Inv_irr (fr_m_seek _ _ _ _ _ _ ok2) (fun c hc => by unfold W_m_seek at hc; unfold irr; omega) i1
          have i2' : nB (x_m_canBe W (iz ((D ||| 2 ^ e : Nat) : Int)) (iz t) (iz (nB T 5))).2 = nB T := by rw [nB_fr fr (by unfold W_m_canBe; omega)]; exact i2
          refine ⟨ok, fun z3 => ⟨⟨e + 1, by omega, rfl, ?_, i1', i2', fun _ => by omega⟩, msr'⟩, fun z3 => ⟨⟨e + 1, by omega, rfl, ?_, i1', i2', fun _ => by omega⟩, msr'⟩⟩
          · rw [orz, msk_n (by rw [hPd]; exact fun y => y.2 (ep.1 z3))]
          · rw [or_iz, msk_y (by rw [hPd]; exact ⟨hme, fun y => z3 (ep.2 y)⟩)]
    · show 8 - (0 : Int32).toInt.toNat < 1000
      omega
    · exact ⟨0, by omega, rfl, rfl, tt, eB', fun y => by omega⟩
  exact ⟨xs.1, ms.1, xs.2.trans ms.2.1.symm, ms.2.2⟩
