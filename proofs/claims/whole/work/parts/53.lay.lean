/-! ===== all ways of a dish, of a set of dishes ===== -/
theorem al1 {K f w : Int} : K + K * (f + w) = 0 + K * ((f + 1) + w) := by rw [show f + 1 + w = (f + w) + 1 by omega, Int.mul_add K (f + w) 1, Int.mul_one]; omega
theorem al2 {K v g : Int} : 0 + K * (v + v * g) = 0 + K * (0 + v * (g + 1)) := by rw [Int.mul_add v g 1, Int.mul_one, show v + v * g = 0 + (v * g + v) by omega]
theorem al3 {K v g : Int} : 0 + K * (0 + v * g) = K * v * g := by rw [Int.zero_add, Int.zero_add, Int.mul_assoc]
section LD2
variable {T : St} {b d : Nat} {B : Nat → Int} {t h o : Int}
def LdQ (T : St) (B : Nat → Int) (t h o : Int) (d : Nat) (U : St) : Prop := (∀ y z, ¬ (123 + 48 * d ≤ y ∧ y < 171 + 48 * d) → U.1 y z = T.1 y z) ∧ U.2.1 = T.2.1 ∧ (∀ y z, ¬ (123 + 48 * d ≤ y ∧ y < 171 + 48 * d) → ¬ (y = 82 ∧ z = d) → U.2.2.1 y z = T.2.2.1 y z) ∧ (∀ y z, ¬ (123 + 48 * d ≤ y ∧ y < 171 + 48 * d) → U.2.2.2 y z = T.2.2.2 y z) ∧ U.2.2.1 82 d = iz (chn B d) ∧ ∀ c, c < chn B d → WpQ U B t (canL B t h o d c) d c
theorem s_layDish (hb : sh b = .inr 1) (hb2 : b + 14 < 123) (hP : BkP T b B) (hR : T.2.1 2 = b) (hT : TyX T 507 B h o (fun _ _ => 0)) (hW : WF B) (hd : (d : Int) < B 16) (ht : 1 ≤ t ∧ t ≤ 60) : ok_pl_layDish T (iz d) (iz t) ∧ LdQ T B t h o d (x_pl_layDish T (iz d) (iz t)) := by
  have h8 := hW.2.2.1
  have cb := ch_b hW hd
  have hkb := (wf_d hW hd).1
  have w0b := wts_b hW hd 0
  have w1b := wts_b hW hd 1
  refine so_pl_layDish (Q := LdQ T B t h o d) _ _ ?_
  unfold wp_pl_layDish
  have stat : ∀ U : St, FrD d T U → BkP U b B ∧ U.2.1 2 = b ∧ TyX U 507 B h o (fun _ _ => 0) := fun U hU => ⟨BkP_fr hP (hU.1 _ _ (by omega)) (fun y z h1 h2 => hU.2.2.1 y z (by omega)), by rw [hU.2.1]; exact hR, fun w m hw hm => by
    rw [hU.2.2.2 _ _ (by omega), hU.2.2.2 _ _ (by omega), hU.2.2.2 _ _ (by omega), hU.2.2.2 _ _ (by omega)]
    exact hT w m hw hm⟩
  refine wr_pl_layDish_5 _ _ (fun v3 v4 U => ∃ c g : Nat, v3 = iz c ∧ v4 = iz g ∧ (g : Int) ≤ wts B d 1 ∧ (c : Int) = 0 + (1 + bKeep B d) * (0 + wts B d 0 * g) ∧ FrD d T U ∧ ∀ c', c' < c → WpQ U B t (canL B t h o d c') d c') (fun v3 v4 U => 3 - v4.toInt.toNat) ?_ _ _ _ _ ?_ ?_
  · rintro _ _ U ⟨c, g, rfl, rfl, hg, hc, hU, hD⟩
    obtain ⟨hPU, hRU, hTU⟩ := stat U hU
    have wB := s_waitB hb hPU hW hd (k := 1) (by omega)
    have wB2 : ok_bk_waitBehind U b (iz d) 1 ∧ x_bk_waitBehind U b (iz d) 1 = iz (wts B d 1 - 1) := wB
    unfold bd_pl_layDish_5
    rw [hRU, wB2.2, iz_lt (by omega)]
    refine ⟨wB2.1, hb, fun q => ?_, fun q => ?_⟩
    · have eg : (g : Int) = wts B d 1 := by omega
      rw [eg, al3] at hc
      have ec : c = chn B d := by omega
      subst ec
      rw [ix_nat (by omega)]
      refine ⟨in_nat (by omega) (by omega), fun y z n => hU.1 y z n, hU.2.1, fun y z n n2 => ?_, hU.2.2.2, ?_, fun c' hc' => WpQ_eq (hD c' hc') (fun _ => rfl) (fun z => ?_) (fun _ => rfl)⟩
      · rw [gA_A, if_neg n2]; exact hU.2.2.1 y z n
      · rw [gA_A, if_pos ⟨rfl, rfl⟩]
      · rw [gA_A, if_neg (by unfold wc; omega)]
    · -- the waits behind the first part
      have ms1 : ∀ c1 : Int32, 3 - (iz ((g + 1 : Nat) : Int)).toInt.toNat < 3 - (iz (g : Int)).toInt.toNat := fun _ => by rw [iz_t (by omega), iz_t (by omega)]; omega
      have nx1 : iz (g : Int) + 1 = iz ((g + 1 : Nat) : Int) := by rw [z_1, iz_add]; exact iz_inj (by omega)
      rw [nx1]
      refine wr_pl_layDish_22 _ _ _ (fun v3 v5 V => ∃ c f : Nat, v3 = iz c ∧ v5 = iz f ∧ (f : Int) ≤ wts B d 0 ∧ (c : Int) = 0 + (1 + bKeep B d) * (f + wts B d 0 * g) ∧ FrD d T V ∧ ∀ c', c' < c → WpQ V B t (canL B t h o d c') d c') (fun v3 v5 V => 3 - v5.toInt.toNat) ?_ _ _ _ _ ?_ ?_
      · rintro _ _ V ⟨c, f, rfl, rfl, hf, hc, hV, hD⟩
        obtain ⟨hPV, hRV, hTV⟩ := stat V hV
        have wA : ok_bk_waitBehind V b (iz d) 0 ∧ x_bk_waitBehind V b (iz d) 0 = iz (wts B d 0 - 1) := s_waitB hb hPV hW hd (k := 0) (by omega)
        unfold bd_pl_layDish_22
        rw [hRV, wA.2, iz_lt (by omega)]
        refine ⟨wA.1, hb, fun q2 => ?_, fun q2 => ?_⟩
        · have ef : (f : Int) = wts B d 0 := by omega
          rw [ef, al2] at hc
          exact ⟨⟨c, g + 1, rfl, rfl, by omega, by rw [hc]; simp, hV, hD⟩, ms1 0⟩
        · have nx2 : iz (f : Int) + 1 = iz ((f + 1 : Nat) : Int) := by rw [z_1, iz_add]; exact iz_inj (by omega)
          rw [nx2]
          refine wr_pl_layDish_39 _ _ _ _ (fun v3 v6 X => ∃ c e : Nat, v3 = iz c ∧ v6 = iz e ∧ (e : Int) ≤ 1 + bKeep B d ∧ (c : Int) = e + (1 + bKeep B d) * (f + wts B d 0 * g) ∧ FrD d T X ∧ ∀ c', c' < c → WpQ X B t (canL B t h o d c') d c') (fun v3 v6 X => 4 - v6.toInt.toNat) ?_ _ _ _ _ ?_ ?_
          · rintro _ _ X ⟨c, e, rfl, rfl, he, hc, hX, hD⟩
            obtain ⟨hPX, hRX, hTX⟩ := stat X hX
            obtain ⟨p4, _⟩ := hPX.2.1.2 d hd
            unfold bd_pl_layDish_39
            rw [hRX, ix_nat (by omega), p4, iz_lt (by omega)]
            refine ⟨hb, in_nat (by omega) (by omega), fun q3 => ?_, fun q3 => ?_⟩
            · have ee : (e : Int) = 1 + bKeep B d := by omega
              rw [ee, al1] at hc
              refine ⟨⟨c, f + 1, rfl, rfl, by omega, by rw [hc]; simp, hX, hD⟩, ?_⟩
              rw [iz_t (by omega), iz_t (by omega)]; omega
            · obtain ⟨m1, m2, m3, m4⟩ := ch_mk hW hd (e := e) (f := f) (g := g) (by omega) (by omega) (by omega) hc
              have ix : ((iz (d : Int)) * 12 + iz (c : Int)) = iz ((12 * d + c : Nat) : Int) := by rw [z_12, iz_mul, iz_add]; exact iz_inj (by omega)
              have nx3 : iz (c : Int) + 1 = iz ((c + 1 : Nat) : Int) := by rw [z_1, iz_add]; exact iz_inj (by omega)
              have nx4 : iz (e : Int) + 1 = iz ((e + 1 : Nat) : Int) := by rw [z_1, iz_add]; exact iz_inj (by omega)
              rw [ix, ix_nat (by omega), nx3, nx4]
              refine ⟨fun z => absurd z (by rw [z_12, iz_le (by omega)]; omega), fun _ => ⟨in_nat (by omega) (by omega), jo ?_⟩⟩
              have := s_one (U := X) (t := t) (h := h) (o := o) (N := fun U' => (∃ c_1 e_1 : Nat, iz ((c + 1 : Nat) : Int) = iz c_1 ∧ iz ((e + 1 : Nat) : Int) = iz e_1 ∧ (e_1 : Int) ≤ 1 + bKeep B d ∧ (c_1 : Int) = e_1 + (1 + bKeep B d) * (f + wts B d 0 * g) ∧ FrD d T U' ∧ ∀ c', c' < c_1 → WpQ U' B t (canL B t h o d c') d c') ∧ 4 - (iz ((e + 1 : Nat) : Int)).toInt.toNat < 4 - (iz (e : Int)).toInt.toNat) hb hb2 hPX hRX hTX hW hd ht (show (e : Int) ≤ bKeep B d by omega) (show (f : Int) < wts B d 0 by omega) (show (g : Int) < wts B d 1 by omega) hc (fun U' a1 a2 a3 a4 a5 => by
                refine ⟨⟨c + 1, e + 1, rfl, rfl, by omega, by omega, FrD_t hX a1, fun c' hc' => ?_⟩, ?_⟩
                · by_cases z : c' = c
                  · subst z; exact a5
                  · refine WpQ_eq (hD c' (by omega)) (fun z => a2 _ _ (by unfold wc; omega)) (fun z => a3 _ _ (by unfold wc; omega) (by unfold wc; omega)) (fun z => a4 _ _ (by unfold wc; omega))
                · rw [iz_t (by omega), iz_t (by omega)]; omega)
              rw [hRX] at this
              exact this
          · show 4 - (0 : Int32).toInt.toNat < 1000
            omega
          · exact ⟨c, 0, rfl, rfl, by omega, by rw [hc]; rfl, hV, hD⟩
      · show 3 - (0 : Int32).toInt.toNat < 1000
        omega
      · exact ⟨c, 0, rfl, rfl, by omega, by rw [hc]; rfl, hU, hD⟩
  · show 3 - (0 : Int32).toInt.toNat < 1000
    omega
  · exact ⟨0, 0, rfl, rfl, by omega, by simp, FrD_r, fun c' hc' => by omega⟩
end LD2
def LayQ (U : St) (B : Nat → Int) (t : Int) (cn : Nat → Nat → Prop) (D b ki : Nat) : Prop := U.2.1 2 = b ∧ U.2.1 3 = ki ∧ ∀ d, d < 8 → D.testBit d = true → U.2.2.1 82 d = iz (chn B d) ∧ ∀ c, c < chn B d → WpQ U B t (cn d c) d c
theorem s_lay {T : St} {b ki D : Nat} {B : Nat → Int} {t h o : Int} (hb : sh b = .inr 1) (hb2 : b + 14 < 76) (hk : sh ki = .inr 3) (hk2 : ki + 1 < 123) (hP : BkP T b B) (hK : KitX T ki B h o) (hW : WF B) (hD2 : D < 2 ^ (B 16).toNat) (ht : 1 ≤ t ∧ t ≤ 60) : ok_pl_lay T b ki (iz D) (iz t) ∧ LayQ (x_pl_lay T b ki (iz D) (iz t)) B t (canL B t h o) D b ki := by
  have hD := mem_lt hW hD2
  have h256 := D_256 hW hD2
  have h8 := hW.2.2.1
  refine so_pl_lay (Q := fun U => LayQ U B t (canL B t h o) D b ki) _ _ _ _ ?_
  unfold wp_pl_lay
  have e3 : (sR (sR T 2 b) 3 ki).2.1 3 = ki := by rw [gR_R, if_pos rfl]
  have e2 : (sR (sR T 2 b) 3 ki).2.1 2 = b := by rw [gR_R, if_neg (by omega), gR_R, if_pos rfl]
  rw [n_0, e3]
  have eR : (sR (sR T 2 b) 3 ki).2.2 = T.2.2 := rfl
  have eF : (sR (sR T 2 b) 3 ki).1 = T.1 := rfl
  have hP1 : BkP (sR (sR T 2 b) 3 ki) b B := hP
  have hK1 : KitX (sR (sR T 2 b) 3 ki) ki B h o := hK
  generalize sR (sR T 2 b) 3 ki = G at *
  obtain ⟨ok1, ty⟩ := s_open (a := 507) (by decide) hk (by omega) hK1
  have fr1 : Fr _ G _ := fr_ta_open _ _ ok1
  refine ⟨ok1, jo ?_⟩
  try dsimp only
  have hP2 : BkP (x_ta_open G 507 ki) b B := BkP_fr hP1 (q_F fr1 (by unfold W_ta_open; omega)) (fun y z h1 h2 => q_A fr1 (by unfold W_ta_open; omega))
  have hR2 : (x_ta_open G 507 ki).2.1 2 = b := by rw [q_R fr1 (by unfold W_ta_open; omega)]; exact e2
  have hR3 : (x_ta_open G 507 ki).2.1 3 = ki := by rw [q_R fr1 (by unfold W_ta_open; omega)]; exact e3
  show wp_pl_lay_26 b ki (iz D) (iz t) _ _ 1000 0 (x_ta_open G 507 ki)
  generalize x_ta_open G 507 ki = V at *
  refine wr_pl_lay_26 _ _ _ _ (fun v U => ∃ e : Nat, (e : Int) ≤ B 16 ∧ v = iz e ∧ BkP U b B ∧ U.2.1 2 = b ∧ U.2.1 3 = ki ∧ TyX U 507 B h o (fun _ _ => 0) ∧ ∀ d, d < e → D.testBit d = true → U.2.2.1 82 d = iz (chn B d) ∧ ∀ c, c < chn B d → WpQ U B t (canL B t h o d c) d c) (fun v U => 8 - v.toInt.toNat) ?_ _ _ _ ?_ ?_
  · rintro _ U ⟨e, h1, rfl, u1, u2, u3, u4, u5⟩
    unfold bd_pl_lay_26
    rw [u2, u1.2.1.1, iz_le (by omega)]
    refine ⟨hb, fun q => ⟨u2, u3, fun d hd hm => u5 d (by have := hD d hm; omega) hm⟩, fun q => ?_⟩
    have he : e < 8 := by omega
    have hbt : (((iz (D : Int)) >>> (iz (e : Int) &&& 31)) &&& 1) = if D.testBit e then (1 : Int32) else 0 := bt_t D h256 e he
    have nx : iz (e : Int) + 1 = iz ((e + 1 : Nat) : Int) := by rw [z_1, iz_add]; exact iz_inj (by omega)
    have ms : 8 - (iz ((e + 1 : Nat) : Int)).toInt.toNat < 8 - (iz (e : Int)).toInt.toNat := by rw [iz_t (by omega), iz_t (by omega)]; omega
    rw [hbt, nx]
    cases hme : D.testBit e with
    | false =>
      refine ⟨fun _ => ⟨⟨e + 1, by omega, rfl, u1, u2, u3, u4, fun d hd hm => ?_⟩, ms⟩, fun z => absurd rfl z⟩
      by_cases z : d = e
      · subst z; rw [hme] at hm; cases hm
      · exact u5 d (by omega) hm
    | true =>
      refine ⟨fun z => absurd z (by decide), fun _ => ?_⟩
      obtain ⟨ok2, l1, l2, l3, l4, l5, l6⟩ := s_layDish hb (by omega) u1 u2 u4 hW (show (e : Int) < B 16 by omega) ht
      refine ⟨ok2, ⟨e + 1, by omega, rfl, BkP_fr u1 (l1 _ _ (by omega)) (fun y z h1 h2 => l3 y z (by omega) (by omega)), by rw [l2]; exact u2, by rw [l2]; exact u3, fun w m hw hm => ?_, fun d hd hm => ?_⟩, ms⟩
      · rw [l4 _ _ (by omega), l4 _ _ (by omega), l4 _ _ (by omega), l4 _ _ (by omega)]
        exact u4 w m hw hm
      · by_cases z : d = e
        · subst z; exact ⟨l5, l6⟩
        · obtain ⟨x1, x2⟩ := u5 d (by omega) hm
          have cb := ch_b hW (hD d hm)
          refine ⟨by rw [l3 _ _ (by omega) (by omega)]; exact x1, fun c hc => WpQ_eq (x2 c hc) (fun z => l1 _ _ (by unfold wc; omega)) (fun z => l3 _ _ (by unfold wc; omega) (by unfold wc; omega)) (fun z => l4 _ _ (by unfold wc; omega))⟩
  · show 8 - (0 : Int32).toInt.toNat < 1000
    omega
  · exact ⟨0, by omega, rfl, hP2, hR2, hR3, ty, fun d hd => by omega⟩
