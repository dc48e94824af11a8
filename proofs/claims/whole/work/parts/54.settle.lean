/-! ===== what all ways of a dish want ===== -/
theorem lb_xm {x : Int64} {m : Nat} (h : m < 64) : lb (x ^^^ (-1)) m = true ↔ ¬ lb x m = true := by
  have e : lb (-1) m = true := lb_m1 h
  unfold lb at *
  rw [Int64.toBitVec_xor, BitVec.getLsbD_xor, e]
  cases x.toBitVec.getLsbD m <;> simp
section ST
variable {U : St} {d c : Nat}
theorem s_84 {l1 l3 : Int32} {r : Nat} {Q N : St → Prop} (hr : sh r = .inl (1, 5)) (hd : d < 8) (hc : c < 12) (hrw : r < 123) (hN : ∀ U' : St, eqA U U' → (∀ y z, y ≠ r → U'.2.2.2 y z = U.2.2.2 y z) → (∀ w, w < 5 → U'.2.2.2 r w = U.2.2.2 r w &&& U.2.2.2 (wc d c + 3) w) → N U') :
    wp_pl_settleDish_84 l1 r l3 (iz ((12 * d + c : Nat) : Int)) (fun _ T201 => N T201) Q 1000 0 U := by
  have hw3 := shl10_3 (sh_wc hd hc)
  refine wr_pl_settleDish_84 _ _ _ _ (fun v V => ∃ w : Nat, w ≤ 5 ∧ v = iz w ∧ eqA U V ∧ (∀ y z, (y ≠ r ∨ w ≤ z) → V.2.2.2 y z = U.2.2.2 y z) ∧ ∀ w', w' < w → V.2.2.2 r w' = U.2.2.2 r w' &&& U.2.2.2 (wc d c + 3) w') (fun v V => 5 - v.toInt.toNat) ?_ _ _ _ ?_ ?_
  · rintro _ V ⟨w, h1, rfl, h2, h3, h4⟩
    unfold bd_pl_settleDish_84 jn
    rw [ix_nat (by omega), show 123 + 4 * (12 * d + c) + 3 = wc d c + 3 from rfl]
    simp (disch := omega) only [le0, lt0, ge0, gt0, eq0, sub0, add0, iz_le, iz_lt, iz_eq, iz_in, iz_n, iz_add, iz_sub, iz_mul, iz_neg, lz_w, lg_le0, lg_gt0, m_in, iz_t, Int.toNat_natCast, Int.reduceToNat, z_5, z_1, ix_nat]
    refine ⟨fun q => hN V h2 (fun y z hy => h3 y z (Or.inl hy)) (fun w' hw' => h4 w' (by omega)), fun q => ⟨hr, by omega, by omega, hw3, ⟨w + 1, by omega, iz_inj (by omega), h2, fun y z hy => ?_, fun w' hw' => ?_⟩, by omega⟩⟩
    · rw [gL_L, if_neg (by omega)]; exact h3 y z (by omega)
    · rw [gL_L]
      by_cases e : w' = w
      · subst e; rw [if_pos ⟨rfl, rfl⟩, h3 _ _ (by omega), h3 _ _ (by omega)]
      · rw [if_neg (by omega)]; exact h4 w' (by omega)
  · show 5 - (0 : Int32).toInt.toNat < 1000
    omega
  · exact ⟨0, by omega, rfl, ⟨rfl, rfl, rfl⟩, fun _ _ _ => rfl, fun w' hw' => by omega⟩
theorem s_154 {l1 l3 : Int32} {r : Nat} {Q N : St → Prop} (hr : sh r = .inl (1, 5)) (hd : d < 8) (hc : c < 12) (hrw : r < 123) (hN : ∀ U' : St, eqA U U' → (∀ y z, y ≠ wc d c + 3 → U'.2.2.2 y z = U.2.2.2 y z) → (∀ w, w < 5 → U'.2.2.2 (wc d c + 3) w = U.2.2.2 (wc d c + 3) w &&& (U.2.2.2 r w ^^^ (-1))) → N U') :
    wp_pl_settleDish_154 l1 r l3 (iz ((12 * d + c : Nat) : Int)) (fun _ T201 => N T201) Q 1000 0 U := by
  have hw3 := shl10_3 (sh_wc hd hc)
  have hne : wc d c + 3 ≠ r := by unfold wc; omega
  refine wr_pl_settleDish_154 _ _ _ _ (fun v V => ∃ w : Nat, w ≤ 5 ∧ v = iz w ∧ eqA U V ∧ (∀ y z, (y ≠ wc d c + 3 ∨ w ≤ z) → V.2.2.2 y z = U.2.2.2 y z) ∧ ∀ w', w' < w → V.2.2.2 (wc d c + 3) w' = U.2.2.2 (wc d c + 3) w' &&& (U.2.2.2 r w' ^^^ (-1))) (fun v V => 5 - v.toInt.toNat) ?_ _ _ _ ?_ ?_
  · rintro _ V ⟨w, h1, rfl, h2, h3, h4⟩
    unfold bd_pl_settleDish_154 jn
    rw [ix_nat (by omega), show 123 + 4 * (12 * d + c) + 3 = wc d c + 3 from rfl]
    have iw : (iz (w : Int)).toNatClampNeg = w := ix_nat (by omega)
    rw [iw, z_5, iz_le (by omega)]
    have nx : iz (w : Int) + 1 = iz ((w + 1 : Nat) : Int) := by rw [z_1, iz_add]; exact iz_inj (by omega)
    rw [nx]
    refine ⟨fun q => hN V h2 (fun y z hy => h3 y z (Or.inl hy)) (fun w' hw' => h4 w' (by omega)), fun q => ⟨in_nat (by omega) (by omega), hw3, in_nat (by omega) (by omega), hr, ⟨w + 1, by omega, rfl, h2, fun y z hy => ?_, fun w' hw' => ?_⟩, ?_⟩⟩
    · rw [gL_L, if_neg (by omega)]; exact h3 y z (by omega)
    · rw [gL_L]
      by_cases e : w' = w
      · subst e; rw [if_pos ⟨rfl, rfl⟩, h3 _ _ (by omega), h3 r _ (Or.inl (fun z => hne z.symm))]
      · rw [if_neg (by omega)]; exact h4 w' (by omega)
    · rw [iz_t (by omega), iz_t (by omega)]; omega
  · show 5 - (0 : Int32).toInt.toNat < 1000
    omega
  · exact ⟨0, by omega, rfl, ⟨rfl, rfl, rfl⟩, fun _ _ _ => rfl, fun w' hw' => by omega⟩
end ST
def cmP (B : Nat → Int) (t : Int) (cn : Nat → Nat → Prop) (d w m : Nat) : Prop := ∀ c, c < chn B d → cn d c → u1P B t d c w m
def rsP (B : Nat → Int) (t : Int) (cn : Nat → Nat → Prop) (d c w m : Nat) : Prop := u1P B t d c w m ∧ ¬ cmP B t cn d w m
def WsQ (T : St) (B : Nat → Int) (t : Int) (cn : Nat → Nat → Prop) (d c : Nat) : Prop := T.1 (wc d c) 3 = iz d ∧ T.1 (wc d c) 5 = iz (cst B d c) ∧ (∀ k, k < nO B d → T.2.2.1 (wc d c + 1) k = iz (bg B t d c k)) ∧ ((T.1 (wc d c) 6 = 1 ∧ cn d c ∧ BiX T (wc d c + 3) (rsP B t cn d c)) ∨ (T.1 (wc d c) 6 = 0 ∧ ¬ cn d c))
def chP (B : Nat → Int) (cn : Nat → Nat → Prop) (d : Nat) (x : Int) : Prop := (∀ c, c < chn B d → cn d c → x ≤ cst B d c) ∧ ((∃ c, c < chn B d ∧ cn d c ∧ x = cst B d c) ∨ (x = 1000000 ∧ ∀ c, c < chn B d → ¬ cn d c))
-- of a dish, settled
def SdQ (U : St) (B : Nat → Int) (t : Int) (cn : Nat → Nat → Prop) (d : Nat) : Prop := U.2.2.1 82 d = iz (chn B d) ∧ (∃ x, U.2.2.1 83 d = iz x ∧ chP B cn d x) ∧ (∀ w m : Nat, w < 5 → m < 64 → (lb (U.2.2.2 (85 + d) w) m = true ↔ ∀ c, c < chn B d → cn d c → m < 60 ∧ u1P B t d c w m)) ∧ (∀ c, c < chn B d → WsQ U B t cn d c) ∧ ∀ i, i < 96 → U.2.2.1 98 (96 * d + i) = -1
def SdF (d : Nat) (T U : St) : Prop := U.1 = T.1 ∧ U.2.1 = T.2.1 ∧ (∀ y z, ¬ (y = 83 ∧ z = d) → ¬ (y = 98 ∧ 96 * d ≤ z ∧ z < 96 * d + 96) → U.2.2.1 y z = T.2.2.1 y z) ∧ ∀ y z, y ≠ 85 + d → ¬ (123 + 48 * d ≤ y ∧ y < 171 + 48 * d) → U.2.2.2 y z = T.2.2.2 y z
section ST2
variable {T : St} {d : Nat} {B : Nat → Int} {t : Int} {cn : Nat → Nat → Prop}
theorem s_settleD (hW : WF B) (hd : (d : Int) < B 16) (h82 : T.2.2.1 82 d = iz (chn B d)) (hY : ∀ c, c < chn B d → WpQ T B t (cn d c) d c) : ok_pl_settleDish T (iz d) ∧ (fun U => SdQ U B t cn d ∧ SdF d T U) (x_pl_settleDish T (iz d)) := by
  have h8 := hW.2.2.1
  have cb := ch_b hW hd
  refine so_pl_settleDish (Q := fun U => SdQ U B t cn d ∧ SdF d T U) _ ?_
  unfold wp_pl_settleDish
  refine ⟨in_nat (by omega) (by omega), jo ?_⟩
  try dsimp only
  have s85 : sh (85 + d) = .inl (1, 5) := (by decide +kernel : ∀ a, a < 8 → sh (85 + a) = .inl (1, 5)) d (by omega)
  have al : aln (85 + d) = 5 := aln_eq s85
  have e12 : iz (d : Int) * 12 = iz ((12 * d + 0 : Nat) : Int) := by rw [z_12, iz_mul]; exact iz_inj (by omega)
  have e96 : iz ((12 * d + 0 : Nat) : Int) * 8 = iz ((96 * d + 0 : Nat) : Int) := by rw [z_8, iz_mul]; exact iz_inj (by omega)
  have e96' : (iz ((12 * d + 0 : Nat) : Int) + 12) * 8 = iz ((96 * d + 96 : Nat) : Int) := by rw [z_8, z_12, iz_add, iz_mul]; exact iz_inj (by omega)
  rw [ix_nat (by omega), e12, e96]
  refine ⟨by unfold ok_fillJ; rw [al]; exact s85, ?_⟩
  -- what is wanted in any case
  refine wr_pl_settleDish_30 _ _ _ (fun v U => ∃ c : Nat, c ≤ chn B d ∧ v = iz ((12 * d + c : Nat) : Int) ∧ U.1 = T.1 ∧ U.2.1 = T.2.1 ∧ (∀ y z, ¬ (y = 83 ∧ z = d) → U.2.2.1 y z = T.2.2.1 y z) ∧ (∀ y z, y ≠ 85 + d → U.2.2.2 y z = T.2.2.2 y z) ∧ (∃ x, U.2.2.1 83 d = iz x ∧ (∀ c', c' < c → cn d c' → x ≤ cst B d c') ∧ ((∃ c', c' < c ∧ cn d c' ∧ x = cst B d c') ∨ (x = 1000000 ∧ ∀ c', c' < c → ¬ cn d c'))) ∧ ∀ w m : Nat, w < 5 → m < 64 → (lb (U.2.2.2 (85 + d) w) m = true ↔ ∀ c', c' < c → cn d c' → m < 60 ∧ u1P B t d c' w m)) (fun v U => 12 * d + 12 - v.toInt.toNat) ?_ _ _ _ ?_ ?_
  · rintro _ U ⟨c, hc, rfl, u1, u2, u3, u4, ⟨x, x1, x2, x3⟩, u5⟩
    have r82 : U.2.2.1 82 d = iz (chn B d) := by rw [u3 _ _ (by omega)]; exact h82
    unfold bd_pl_settleDish_30
    rw [ix_nat (by omega), r82, iz_add, iz_le (by omega)]
    refine ⟨in_nat (by omega) (by omega), fun q => ?_, fun q => ?_⟩
    · -- taken out of the ways
      have ec : c = chn B d := by omega
      subst ec
      refine wr_pl_settleDish_125 _ _ _ (fun v V => ∃ c : Nat, c ≤ chn B d ∧ v = iz ((12 * d + c : Nat) : Int) ∧ V.1 = T.1 ∧ V.2.1 = T.2.1 ∧ V.2.2.1 = U.2.2.1 ∧ (∀ y z, ¬ (123 + 48 * d ≤ y ∧ y < 171 + 48 * d) → V.2.2.2 y z = U.2.2.2 y z) ∧ (∀ c', c ≤ c' → c' < 12 → ∀ z, V.2.2.2 (wc d c' + 3) z = T.2.2.2 (wc d c' + 3) z) ∧ ∀ c', c' < c → cn d c' → BiX V (wc d c' + 3) (rsP B t cn d c')) (fun v V => 12 * d + 12 - v.toInt.toNat) ?_ _ _ _ ?_ ?_
      · rintro _ V ⟨c, hc, rfl, v1, v2, v3, v4, v5, v6⟩
        have r82' : V.2.2.1 82 d = iz (chn B d) := by rw [v3]; exact r82
        unfold bd_pl_settleDish_125
        rw [ix_nat (by omega), r82', iz_add, iz_le (by omega)]
        refine ⟨in_nat (by omega) (by omega), fun q2 => ?_, fun q2 => ?_⟩
        · have ec : c = chn B d := by omega
          subst ec
          refine wr_pl_settleDish_202 _ _ _ (fun v X => ∃ i : Nat, i ≤ 96 ∧ v = iz ((96 * d + i : Nat) : Int) ∧ X.1 = V.1 ∧ X.2.1 = V.2.1 ∧ X.2.2.2 = V.2.2.2 ∧ (∀ y z, ¬ (y = 98 ∧ 96 * d ≤ z ∧ z < 96 * d + 96) → X.2.2.1 y z = V.2.2.1 y z) ∧ ∀ i', i' < i → X.2.2.1 98 (96 * d + i') = -1) (fun v X => 96 * d + 96 - v.toInt.toNat) ?_ _ _ _ ?_ ?_
          · rintro _ X ⟨i, hi, rfl, y1, y2, y3, y4, y5⟩
            unfold bd_pl_settleDish_202
            rw [e96', iz_le (by omega), ix_nat (by omega)]
            have nx : iz ((96 * d + i : Nat) : Int) + 1 = iz ((96 * d + (i + 1) : Nat) : Int) := by rw [z_1, iz_add]; exact iz_inj (by omega)
            rw [nx]
            refine ⟨fun q3 => ?_, fun q3 => ⟨in_nat (by omega) (by omega), ⟨i + 1, by omega, rfl, y1, y2, y3, fun y z n => ?_, fun i' hi' => ?_⟩, ?_⟩⟩
            · refine ⟨⟨?_, ⟨x, ?_, x2, x3⟩, fun w m hw hm => ?_, fun c' hc' => ?_, fun i' hi' => y5 i' (by omega)⟩, y1.trans v1, y2.trans v2, fun y z n n2 => ?_, fun y z n n2 => ?_⟩
              · rw [y4 _ _ (by omega)]; exact r82'
              · rw [y4 _ _ (by omega), v3]; exact x1
              · rw [y3, v4 _ _ (by omega)]; exact u5 w m hw hm
              · obtain ⟨a1, a2, a3, a4, a5⟩ := hY c' hc'
                refine ⟨by rw [y1, v1]; exact a1, by rw [y1, v1]; exact a3, fun k hk => ?_, ?_⟩
                · rw [y4 _ _ (by unfold wc; omega), v3, u3 _ _ (by unfold wc; omega)]; exact a4 k hk
                · rw [y1, v1]
                  rcases a5 with ⟨b1, b2, b3⟩ | ⟨b1, b2⟩
                  · refine Or.inl ⟨b1, b2, ?_⟩
                    have := v6 c' hc' b2
                    intro w m hw hm
                    rw [y3]
                    exact this w m hw hm
                  · exact Or.inr ⟨b1, b2⟩
              · rw [y4 y z n2, v3]; exact u3 y z n
              · rw [y3, v4 y z n2]; exact u4 y z n
            · rw [gA_A, if_neg (by omega)]; exact y4 y z n
            · rw [gA_A]
              by_cases e : i' = i
              · subst e; rw [if_pos ⟨rfl, rfl⟩]
              · rw [if_neg (by omega)]; exact y5 i' (by omega)
            · rw [iz_t (by omega), iz_t (by omega)]; omega
          · rw [iz_t (by omega)]; omega
          · exact ⟨0, by omega, rfl, rfl, rfl, rfl, fun _ _ _ => rfl, fun i' hi' => by omega⟩
        · have hc12 : c < 12 := by omega
          have nx : iz ((12 * d + c : Nat) : Int) + 1 = iz ((12 * d + (c + 1) : Nat) : Int) := by rw [z_1, iz_add]; exact iz_inj (by omega)
          have ms : 12 * d + 12 - (iz ((12 * d + (c + 1) : Nat) : Int)).toInt.toNat < 12 * d + 12 - (iz ((12 * d + c : Nat) : Int)).toInt.toNat := by rw [iz_t (by omega), iz_t (by omega)]; omega
          rw [ix_nat (by omega), show 123 + 4 * (12 * d + c) = wc d c from rfl, v1, nx]
          obtain ⟨_, _, _, _, a5⟩ := hY c (by omega)
          refine ⟨in_nat (by omega) (by omega), fun z => ?_, fun z => ?_⟩
          · have nc : ¬ cn d c := by
              rcases a5 with ⟨b1, _, _⟩ | ⟨_, b2⟩
              · rw [b1] at z; exact absurd z (by decide)
              · exact b2
            refine ⟨⟨c + 1, by omega, rfl, v1, v2, v3, v4, fun c' h1 h2 => v5 c' (by omega) h2, fun c' h1 h2 => ?_⟩, ms⟩
            by_cases e : c' = c
            · subst e; exact absurd h2 nc
            · exact v6 c' (by omega) h2
          · obtain ⟨b1, b2, b3⟩ : T.1 (wc d c) 6 = 1 ∧ cn d c ∧ BiX T (wc d c + 3) (u1P B t d c) := by
              rcases a5 with g | ⟨g, _⟩
              · exact g
              · exact absurd g z
            refine s_154 s85 (by omega) hc12 (by omega) (fun V' e1 e2 e3 => ?_)
            refine ⟨⟨c + 1, by omega, rfl, e1.1.trans v1, e1.2.1.trans v2, e1.2.2.trans v3, fun y z' n => ?_, fun c' h1 h2 z' => ?_, fun c' h1 h2 => ?_⟩, ms⟩
            · rw [e2 y z' (by unfold wc; omega)]; exact v4 y z' n
            · rw [e2 _ _ (by unfold wc; omega)]; exact v5 c' (by omega) h2 z'
            · by_cases e : c' = c
              · subst e
                intro w m hw hm
                rw [e3 w hw, lbt_and, lb_xm hm, v5 c' (by omega) hc12, v4 (85 + d) w (by omega), u5 w m hw hm, b3 w m hw hm]
                constructor
                · rintro ⟨⟨g1, g2⟩, g3⟩; exact ⟨g1, g2, fun g4 => g3 fun c2 h3 h4 => ⟨g1, g4 c2 h3 h4⟩⟩
                · rintro ⟨g1, g2, g3⟩; exact ⟨⟨g1, g2⟩, fun g4 => g3 fun c2 h3 h4 => (g4 c2 h3 h4).2⟩
              · have := v6 c' (by omega) h2
                intro w m hw hm
                rw [e2 _ _ (by unfold wc; omega)]
                exact this w m hw hm
      · rw [iz_t (by omega)]; omega
      · exact ⟨0, by omega, rfl, u1, u2, rfl, fun _ _ _ => rfl, fun c' _ h2 z => u4 _ _ (by unfold wc; omega), fun c' h1 => by omega⟩
    · have hc12 : c < 12 := by omega
      have nx : iz ((12 * d + c : Nat) : Int) + 1 = iz ((12 * d + (c + 1) : Nat) : Int) := by rw [z_1, iz_add]; exact iz_inj (by omega)
      have ms : 12 * d + 12 - (iz ((12 * d + (c + 1) : Nat) : Int)).toInt.toNat < 12 * d + 12 - (iz ((12 * d + c : Nat) : Int)).toInt.toNat := by rw [iz_t (by omega), iz_t (by omega)]; omega
      rw [ix_nat (by omega), show 123 + 4 * (12 * d + c) = wc d c from rfl, u1, nx]
      obtain ⟨_, _, a3, _, a5⟩ := hY c (by omega)
      have cb2 := cst_b hW hd (show c < chn B d by omega)
      refine ⟨in_nat (by omega) (by omega), fun z => ?_, fun z => ?_⟩
      · have nc : ¬ cn d c := by
          rcases a5 with ⟨b1, _, _⟩ | ⟨_, b2⟩
          · rw [b1] at z; exact absurd z (by decide)
          · exact b2
        refine ⟨⟨c + 1, by omega, rfl, u1, u2, u3, u4, ⟨x, x1, fun c' h1 h2 => ?_, ?_⟩, fun w m hw hm => ?_⟩, ms⟩
        · by_cases e : c' = c
          · subst e; exact absurd h2 nc
          · exact x2 c' (by omega) h2
        · rcases x3 with ⟨c', g1, g2, g3⟩ | ⟨g1, g2⟩
          · exact Or.inl ⟨c', by omega, g2, g3⟩
          · refine Or.inr ⟨g1, fun c' h1 h2 => ?_⟩
            by_cases e : c' = c
            · subst e; exact nc h2
            · exact g2 c' (by omega) h2
        · rw [u5 w m hw hm]
          constructor
          · intro g c' h1 h2
            by_cases e : c' = c
            · subst e; exact absurd h2 nc
            · exact g c' (by omega) h2
          · intro g c' h1 h2; exact g c' (by omega) h2
      · obtain ⟨b1, b2, b3⟩ : T.1 (wc d c) 6 = 1 ∧ cn d c ∧ BiX T (wc d c + 3) (u1P B t d c) := by
          rcases a5 with g | ⟨g, _⟩
          · exact g
          · exact absurd g z
        have xb : -1000 ≤ x ∧ x ≤ 1000000 := by
          rcases x3 with ⟨c', g1, g2, g3⟩ | ⟨g1, g2⟩
          · have := cst_b hW hd (show c' < chn B d by omega); omega
          · omega
        rw [a3, x1]
        refine jo ?_
        try dsimp only
        refine s_84 s85 (by omega) hc12 (by omega) (fun V' e1 e2 e3 => ?_)
        have eA : V'.2.2.1 = (sA U 83 d (if iz (cst B d c) < iz x then iz (cst B d c) else iz x)).2.2.1 := e1.2.2
        have eF : V'.1 = U.1 := e1.1
        have eR : V'.2.1 = U.2.1 := e1.2.1
        have eL : ∀ y z, y ≠ 85 + d → V'.2.2.2 y z = U.2.2.2 y z := e2
        have eL2 : ∀ w, w < 5 → V'.2.2.2 (85 + d) w = U.2.2.2 (85 + d) w &&& U.2.2.2 (wc d c + 3) w := e3
        refine ⟨⟨c + 1, by omega, rfl, eF.trans u1, eR.trans u2, fun y z' n => ?_, fun y z' n => ?_, ⟨if cst B d c < x then cst B d c else x, ?_, fun c' h1 h2 => ?_, ?_⟩, fun w m hw hm => ?_⟩, ms⟩
        · rw [eA, gA_A, if_neg n]; exact u3 y z' n
        · rw [eL y z' n]; exact u4 y z' n
        · rw [eA, gA_A, if_pos ⟨rfl, rfl⟩, if_iz]
          simp only [iz_lt (a := cst B d c) (b := x) (by omega)]
        · by_cases e : c' = c
          · subst e; split <;> omega
          · have := x2 c' (by omega) h2
            split <;> omega
        · by_cases q3 : cst B d c < x
          · rw [if_pos q3]; exact Or.inl ⟨c, by omega, b2, rfl⟩
          · rw [if_neg q3]
            rcases x3 with ⟨c', g1, g2, g3⟩ | ⟨g1, g2⟩
            · exact Or.inl ⟨c', by omega, g2, g3⟩
            · omega
        · rw [eL2 w hw, lbt_and, u5 w m hw hm, u4 _ _ (by unfold wc; omega), b3 w m hw hm]
          constructor
          · rintro ⟨g1, g2⟩ c' h1 h2
            by_cases e : c' = c
            · subst e; exact g2
            · exact g1 c' (by omega) h2
          · intro g; exact ⟨fun c' h1 h2 => g c' (by omega) h2, g c (by omega) b2⟩
  · rw [iz_t (by omega)]; omega
  · refine ⟨0, by omega, rfl, rfl, rfl, fun y z n => ?_, fun y z n => ?_, ⟨1000000, ?_, fun c' h1 => by omega, Or.inr ⟨rfl, fun c' h1 => by omega⟩⟩, fun w m hw hm => ?_⟩
    · rw [gA_A, if_neg n]; rfl
    · show (x_fillJ T (85 + d) (-1)).2.2.2 y z = _
      unfold x_fillJ
      rw [gLr_L, if_neg n]
    · rw [gA_A, if_pos ⟨rfl, rfl⟩]; rfl
    · show lb ((x_fillJ T (85 + d) (-1)).2.2.2 (85 + d) w) m = true ↔ _
      unfold x_fillJ
      rw [gLr_L, if_pos rfl, al, if_pos hw, lb_m1 hm]
      exact ⟨fun _ c' h1 => by omega, fun _ => rfl⟩
end ST2
