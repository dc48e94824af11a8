/-! ===== the class counts dinners ===== -/
section DN
variable {P : Nat → Prop}
theorem dn_y {k : Nat} (h : 1 ≤ k ∧ bc8 k ≤ 4 ∧ P k) : dnF P (k + 1) = ((dnF P k).1 + 1, if (dnF P k).2 = -1000000 ∨ bc8 (dnF P k).2.toNat < bc8 k then (k : Int) else (dnF P k).2) := by
  show @ite _ (1 ≤ k ∧ bc8 k ≤ 4 ∧ P k) (Classical.propDecidable _) _ _ = _
  rw [if_pos h]
theorem dn_n {k : Nat} (h : ¬ (1 ≤ k ∧ bc8 k ≤ 4 ∧ P k)) : dnF P (k + 1) = dnF P k := by
  show @ite _ (1 ≤ k ∧ bc8 k ≤ 4 ∧ P k) (Classical.propDecidable _) _ _ = _
  rw [if_neg h]
theorem dn_1 : dnF P 1 = (0, -1000000) := dn_n (by omega)
theorem dn_b : ∀ k, (dnF P k).1 ≤ k ∧ ((dnF P k).2 = -1000000 ∨ (1 ≤ (dnF P k).2 ∧ (dnF P k).2 < k)) := by
  intro k
  induction k with
  | zero => exact ⟨Nat.le_refl 0, Or.inl rfl⟩
  | succ k ih =>
    by_cases h : 1 ≤ k ∧ bc8 k ≤ 4 ∧ P k
    · rw [dn_y h]
      refine ⟨by show (dnF P k).1 + 1 ≤ k + 1; omega, ?_⟩
      show (if _ then (k : Int) else (dnF P k).2) = -1000000 ∨ (1 ≤ (if _ then (k : Int) else (dnF P k).2) ∧ (if _ then (k : Int) else (dnF P k).2) < ((k + 1 : Nat) : Int))
      split
      · exact Or.inr (by omega)
      · rcases ih.2 with z | z
        · exact Or.inl z
        · exact Or.inr (by omega)
    · rw [dn_n h]
      refine ⟨by omega, ?_⟩
      rcases ih.2 with z | z
      · exact Or.inl z
      · exact Or.inr (by omega)
noncomputable def mst (P : Nat → Prop) (k : Nat) : Nat := if (dnF P k).2 = -1000000 then 0 else bc8 (dnF P k).2.toNat
theorem mst_n {k : Nat} (h : ¬ (1 ≤ k ∧ bc8 k ≤ 4 ∧ P k)) : mst P (k + 1) = mst P k := by
  unfold mst
  rw [dn_n h]
theorem mst_y {k : Nat} (hk : k < 256) (h : 1 ≤ k ∧ bc8 k ≤ 4 ∧ P k) : ((dnF P (k + 1)).2 = if mst P k < bc8 k then (k : Int) else (dnF P k).2) ∧ mst P (k + 1) = (if mst P k < bc8 k then bc8 k else mst P k) := by
  have b1 := bc_p k hk h.1
  have e : (dnF P (k + 1)).2 = if mst P k < bc8 k then (k : Int) else (dnF P k).2 := by
    rw [dn_y h]
    show (if (dnF P k).2 = -1000000 ∨ bc8 (dnF P k).2.toNat < bc8 k then (k : Int) else (dnF P k).2) = _
    unfold mst
    by_cases q : (dnF P k).2 = -1000000
    · rw [if_pos (Or.inl q), if_pos q, if_pos (by omega)]
    · rw [if_neg q]
      by_cases q2 : bc8 (dnF P k).2.toNat < bc8 k
      · rw [if_pos (Or.inr q2), if_pos q2]
      · rw [if_neg (by omega), if_neg q2]
  refine ⟨e, ?_⟩
  show (if (dnF P (k + 1)).2 = -1000000 then 0 else bc8 (dnF P (k + 1)).2.toNat) = _
  rw [e]
  by_cases q : mst P k < bc8 k
  · rw [if_pos q, if_pos q, if_neg (by omega), Int.toNat_natCast]
  · rw [if_neg q, if_neg q]; rfl
end DN
def lesS (k e : Nat) : Nat := if k.testBit e then k - 2 ^ e else k
theorem ls_1 : ∀ k : Nat, k < 256 → ∀ e : Nat, e < 8 → (iz (k : Int) &&& (((1 : Int32) <<< (iz (e : Int) &&& 31)) ^^^ (-1))) = iz ((lesS k e : Nat) : Int) := by decide +kernel
theorem ls_2 : ∀ k : Nat, k < 256 → ∀ e : Nat, e < 8 → lesS k e ≤ k ∧ bc8 (lesS k e) ≤ bc8 k ∧ ∀ j : Nat, j < 8 → (lesS k e).testBit j = true → k.testBit j = true := by decide +kernel
theorem s_built {T : St} {b k n : Nat} (hb : sh b = .inr 1) (hR : T.2.1 2 = b) (h4 : T.1 b 4 = iz n) (hn : n ≤ 8) (hk : k < 256) : ok_pl_isBuilt T (iz k) ∧ (x_pl_isBuilt T (iz k) = 0 → ∃ s, 1 ≤ s ∧ s < k ∧ bc8 s ≤ bc8 k ∧ (∀ j, s.testBit j = true → k.testBit j = true) ∧ T.2.2.1 105 s = 0) := by
  refine so_pl_isBuilt (Q := fun r => r = 0 → ∃ s, 1 ≤ s ∧ s < k ∧ bc8 s ≤ bc8 k ∧ (∀ j, s.testBit j = true → k.testBit j = true) ∧ T.2.2.1 105 s = 0) _ ?_
  unfold wp_pl_isBuilt
  refine wr_pl_isBuilt_2 T (iz k) (fun v => ∃ e : Nat, e ≤ n ∧ v = iz e) (fun v => 8 - v.toInt.toNat) ?_ _ _ ?_ ⟨0, Nat.zero_le _, rfl⟩
  · rintro _ ⟨e, he, rfl⟩
    unfold bd_pl_isBuilt_2
    rw [hR, h4, iz_le (by omega)]
    refine ⟨hb, fun q => ?_, fun q => jo ?_⟩
    · intro z; exact absurd z (by decide)
    · have he8 : e < 8 := by omega
      obtain ⟨l1, l2, l3⟩ := ls_2 k hk e he8
      have nx : iz (e : Int) + 1 = iz ((e + 1 : Nat) : Int) := by rw [z_1, iz_add]; exact iz_inj (by omega)
      have ms : 8 - (iz ((e + 1 : Nat) : Int)).toInt.toNat < 8 - (iz (e : Int)).toInt.toNat := by rw [iz_t (by omega), iz_t (by omega)]; omega
      have go : (∃ e' : Nat, e' ≤ n ∧ iz ((e + 1 : Nat) : Int) = iz e') ∧ 8 - (iz ((e + 1 : Nat) : Int)).toInt.toNat < 8 - (iz (e : Int)).toInt.toNat := ⟨⟨e + 1, by omega, rfl⟩, ms⟩
      rw [ls_1 k hk e he8, nx, ix_nat (by omega), iz_eq (by omega), eq0 (by omega)]
      refine ⟨fun _ => go, fun q1 => ⟨fun _ => go, fun q2 => ⟨in_nat (by omega) (by omega), fun q3 _ => ⟨lesS k e, by omega, by omega, l2, fun j hj => ?_, q3⟩, fun _ => go⟩⟩⟩
      rcases Nat.lt_or_ge j 8 with z | z
      · exact l3 j z hj
      · rw [tb_hi (n := 8) (show lesS k e < 2 ^ 8 by have : (2 : Nat) ^ 8 = 256 := rfl; omega) z] at hj; cases hj
  · show 8 - (0 : Int32).toInt.toNat < 1000
    omega
theorem nar0 : vp_nar .boolean 0 = 0 := by decide
theorem s_count {T : St} {B : Nat → Int} {t h : Int} {b ki n : Nat} (hb : sh b = .inr 1) (hb2 : b + 14 < 76) (hk : sh ki = .inr 3) (hk2 : ki + 1 < 80) (hW : WF B) (ht : 1 ≤ t ∧ t ≤ 60) (hn : B 16 = n) (hP : PlQ T B t h (B 203) (cnX B t h (B 203) (fun _ _ => True)) (2 ^ n - 1) b ki) : ok_pl_countDinners T ∧ (fun U : St => U.1 80 18 = iz ((dnF (PE B t h) (2 ^ n)).1 : Int) ∧ U.1 80 19 = iz (dnF (PE B t h) (2 ^ n)).2) (x_pl_countDinners T) := by
  obtain ⟨w1, w2, w3⟩ := WF_h hW
  have h8 := hW.2.2.1
  have p8 : 2 ^ n ≤ 256 := (Nat.pow_le_pow_right (by decide) (by omega) : 2 ^ n ≤ 2 ^ 8)
  have p1 : 2 ≤ 2 ^ n := (Nat.pow_le_pow_right (by decide) (by omega) : 2 ^ 1 ≤ 2 ^ n)
  have hS2 : 2 ^ n - 1 < 2 ^ (B 16).toNat := by rw [hn, Int.toNat_natCast]; omega
  refine so_pl_countDinners (Q := fun U : St => U.1 80 18 = iz ((dnF (PE B t h) (2 ^ n)).1 : Int) ∧ U.1 80 19 = iz (dnF (PE B t h) (2 ^ n)).2) ?_
  unfold wp_pl_countDinners
  have pl0 : PlQ (sF (sF T 80 18 0) 80 19 (-1000000)) B t h (B 203) (cnX B t h (B 203) (fun _ _ => True)) (2 ^ n - 1) b ki := PlQ_fr (W := fun y => y = 18018 ∨ y = 18019) hW hS2 hb2 hk2 hP (fr_sF (fr_sF fr_rfl (by omega)) (by omega)) (fun y hy => by unfold sW; omega)
  generalize hPd : PE B t h = P at *
  refine wr_pl_countDinners_15 (fun v1 v2 U => ∃ k : Nat, 1 ≤ k ∧ k ≤ 2 ^ n ∧ v2 = iz k ∧ v1 = iz (mst P k) ∧ PlQ U B t h (B 203) (cnX B t h (B 203) (fun _ _ => True)) (2 ^ n - 1) b ki ∧ U.1 80 18 = iz ((dnF P k).1 : Int) ∧ U.1 80 19 = iz (dnF P k).2 ∧ ∀ s, 1 ≤ s → s < k → bc8 s ≤ 4 → P s → U.2.2.1 105 s = 1) (fun v1 v2 U => 256 - v2.toInt.toNat) ?_ _ _ _ _ ?_ ?_
  · rintro _ _ U ⟨k, k1, k2, rfl, rfl, pl, u18, u19, u105⟩
    obtain ⟨q1, q2, q3, q4, q5, q6⟩ := pl
    have h4 : U.1 b 4 = iz n := by rw [q3.2.1.1, hn]
    have hal : x_bk_allDishes U (U.2.1 2) = iz ((2 ^ n - 1 : Nat) : Int) := by
      show (1 : Int32) <<< ((U.1 (U.2.1 2) 4) &&& 31) - 1 = _
      rw [q1, h4, bt_1 n (by omega), z_1, iz_sub]; exact iz_inj (by omega)
    unfold bd_pl_countDinners_15
    rw [hal, q1, iz_lt (by omega)]
    refine ⟨⟨hb, trivial⟩, hb, fun z => ?_, fun z => ?_⟩
    · have ek : k = 2 ^ n := by omega
      rw [← ek]; exact ⟨u18, u19⟩
    · have hk256 : k < 256 := by omega
      have b8 := bc_8 k hk256
      have db := dn_b (P := P) k
      have mb : mst P k ≤ 8 := by
        unfold mst
        split
        · omega
        · rcases db.2 with y | y
          · contradiction
          · exact (bc_8 _ (by omega)).1
      have nx : iz (k : Int) + 1 = iz ((k + 1 : Nat) : Int) := by rw [z_1, iz_add]; exact iz_inj (by omega)
      have ms : 256 - (iz ((k + 1 : Nat) : Int)).toInt.toNat < 256 - (iz (k : Int)).toInt.toNat := by rw [iz_t (by omega), iz_t (by omega)]; omega
      have bcv : ∀ V : St, x_J_bitCount V (iz (k : Int)) = iz (bc8 k) := fun V => bc_x hk256
      rw [bcv, ix_nat (by omega), nx, nar0, nar1, z_4, iz_lt (by omega)]
      -- not counted
      have no : ∀ V : St, PlQ V B t h (B 203) (cnX B t h (B 203) (fun _ _ => True)) (2 ^ n - 1) b ki → V.1 80 18 = iz ((dnF P k).1 : Int) → V.1 80 19 = iz (dnF P k).2 → (∀ s, 1 ≤ s → s < k → bc8 s ≤ 4 → P s → V.2.2.1 105 s = 1) → ¬ (1 ≤ k ∧ bc8 k ≤ 4 ∧ P k) → (vp_in (iz (k : Int)) 256) ∧ ((((sA V 105 k 0).2.2.1 105 k = 0) → (∃ k' : Nat, 1 ≤ k' ∧ k' ≤ 2 ^ n ∧ iz ((k + 1 : Nat) : Int) = iz k' ∧ iz (mst P k) = iz (mst P k') ∧ PlQ (sA V 105 k 0) B t h (B 203) (cnX B t h (B 203) (fun _ _ => True)) (2 ^ n - 1) b ki ∧ (sA V 105 k 0).1 80 18 = iz ((dnF P k').1 : Int) ∧ (sA V 105 k 0).1 80 19 = iz (dnF P k').2 ∧ ∀ s, 1 ≤ s → s < k' → bc8 s ≤ 4 → P s → (sA V 105 k 0).2.2.1 105 s = 1) ∧ 256 - (iz ((k + 1 : Nat) : Int)).toInt.toNat < 256 - (iz (k : Int)).toInt.toNat) ∧ (¬ ((sA V 105 k 0).2.2.1 105 k = 0) → False)) := by
        intro V a1 a2 a3 a4 a5
        refine ⟨in_nat (by omega) (by omega), fun _ => ⟨⟨k + 1, by omega, by omega, rfl, by rw [mst_n a5], PlQ_fr (W := fun y => y = 105) hW hS2 hb2 hk2 a1 (fr_sA fr_rfl rfl) (fun y hy => by unfold sW; omega), by rw [dn_n a5]; exact a2, by rw [dn_n a5]; exact a3, fun s s1 s2 s3 s4 => ?_⟩, ms⟩, fun y => y (by rw [gA_A, if_pos ⟨rfl, rfl⟩])⟩
        rw [gA_A]
        by_cases e : s = k
        · rw [e] at s3 s4; exact absurd ⟨k1, s3, s4⟩ a5
        · rw [if_neg (by omega)]; exact a4 s s1 (by omega) s3 s4
      have no2 : ∀ (V : St) {F : Prop}, ¬ (1 ≤ k ∧ bc8 k ≤ 4 ∧ P k) → PlQ V B t h (B 203) (cnX B t h (B 203) (fun _ _ => True)) (2 ^ n - 1) b ki → V.1 80 18 = iz ((dnF P k).1 : Int) → V.1 80 19 = iz (dnF P k).2 → (∀ s, 1 ≤ s → s < k → bc8 s ≤ 4 → P s → V.2.2.1 105 s = 1) → (vp_in (iz (k : Int)) 256) ∧ ((((sA V 105 k 0).2.2.1 105 k = 0) → (∃ k' : Nat, 1 ≤ k' ∧ k' ≤ 2 ^ n ∧ iz ((k + 1 : Nat) : Int) = iz k' ∧ iz (mst P k) = iz (mst P k') ∧ PlQ (sA V 105 k 0) B t h (B 203) (cnX B t h (B 203) (fun _ _ => True)) (2 ^ n - 1) b ki ∧ (sA V 105 k 0).1 80 18 = iz ((dnF P k').1 : Int) ∧ (sA V 105 k 0).1 80 19 = iz (dnF P k').2 ∧ ∀ s, 1 ≤ s → s < k' → bc8 s ≤ 4 → P s → (sA V 105 k 0).2.2.1 105 s = 1) ∧ 256 - (iz ((k + 1 : Nat) : Int)).toInt.toNat < 256 - (iz (k : Int)).toInt.toNat) ∧ (¬ ((sA V 105 k 0).2.2.1 105 k = 0) → F)) := fun V F a5 a1 a2 a3 a4 => ⟨(no V a1 a2 a3 a4 a5).1, (no V a1 a2 a3 a4 a5).2.1, fun y => ((no V a1 a2 a3 a4 a5).2.2 y).elim⟩
      refine jo ⟨fun c4 => no2 U (by omega) ⟨q1, q2, q3, q4, q5, q6⟩ u18 u19 u105, fun c4 => ?_⟩
      obtain ⟨okb, eb⟩ := s_built (T := U) (b := b) (k := k) (n := n) hb q1 h4 (by omega) hk256
      refine ⟨okb, fun z1 => no2 U (fun y => ?_) ⟨q1, q2, q3, q4, q5, q6⟩ u18 u19 u105, fun z1 => ?_⟩
      · obtain ⟨s, s1, s2, s3, s4, s5⟩ := eb z1
        have ps : P s := by rw [← hPd] at y ⊢; exact PE_sub s4 y.2.2
        rw [u105 s s1 s2 (by omega) ps] at s5
        exact absurd s5 (by decide)
      · have hkS : ∀ e, k.testBit e = true → (2 ^ n - 1).testBit e = true := fun e he => by
          rw [Nat.testBit_two_pow_sub_one]
          rcases Nat.lt_or_ge e n with y | y
          · exact decide_eq_true y
          · rw [tb_hi (n := n) (show k < 2 ^ n by omega) y] at he; cases he
        have snk : 1 ≤ sn k 8 ∧ sn k 8 ≤ 4 := by rw [sn_8]; exact ⟨bc_p k hk256 k1, by omega⟩
        have fn : ok_pl_finds U (iz k) 1 ∧ FnQ B t h (B 203) (fun _ _ => True) (2 ^ n - 1) b ki k true (x_pl_finds U (iz k) 1) := s_finds (any := true) hb hb2 hk hk2 hW hS2 hkS (by rw [hn, Int.toNat_natCast]; omega) snk ht w3 ⟨q1, q2, q3, q4, q5, q6⟩
        obtain ⟨ok4, f1, f2, f3⟩ := fn
        have fr4 : Fr _ U _ := fr_pl_finds _ _ ok4
        have g18 : (x_pl_finds U (iz k) 1).2.1 80 18 = iz ((dnF P k).1 : Int) := by rw [q_F fr4 (by unfold W_pl_finds; omega)]; exact u18
        have g19 : (x_pl_finds U (iz k) 1).2.1 80 19 = iz (dnF P k).2 := by rw [q_F fr4 (by unfold W_pl_finds; omega)]; exact u19
        have g105 : ∀ s, 1 ≤ s → s < k → bc8 s ≤ 4 → P s → (x_pl_finds U (iz k) 1).2.2.2.1 105 s = 1 := fun s s1 s2 s3 s4 => by rw [q_A fr4 (by unfold W_pl_finds; omega)]; exact u105 s s1 s2 s3 s4
        have hpk : P k ↔ ¬ SK B t h (B 203) (fun _ _ => True) k true = none := by rw [← hPd]; rfl
        refine ⟨ok4, fun z2 => no2 _ (fun y => ?_) f1 g18 g19 g105, fun z2 => ?_⟩
        · cases hS : SK B t h (B 203) (fun _ _ => True) k true with
          | none => exact hpk.1 y.2.2 hS
          | some c => rw [(f3 c hS).1] at z2; exact absurd z2 (by decide)
        · have yes : 1 ≤ k ∧ bc8 k ≤ 4 ∧ P k := ⟨k1, by omega, hpk.2 fun y => z2 (f2 y).1⟩
          obtain ⟨my1, my2⟩ := mst_y hk256 yes
          generalize (x_pl_finds U (iz k) 1).2 = V at *
          have d1 : (dnF P (k + 1)).1 = (dnF P k).1 + 1 := by rw [dn_y yes]
          have e18 : (sA V 105 k 1).1 80 18 + 1 = iz ((dnF P (k + 1)).1 : Int) := by rw [gA_F, g18, z_1, iz_add, d1]; exact iz_inj (by omega)
          have a105 : ∀ s, 1 ≤ s → s < k + 1 → bc8 s ≤ 4 → P s → (sA V 105 k 1).2.2.1 105 s = 1 := fun s s1 s2 s3 s4 => by
            rw [gA_A]
            by_cases e : s = k
            · rw [if_pos ⟨rfl, e⟩]
            · rw [if_neg (by omega)]; exact g105 s s1 (by omega) s3 s4
          refine ⟨in_nat (by omega) (by omega), fun y => ?_, fun _ => jo ?_⟩
          · rw [gA_A, if_pos ⟨rfl, rfl⟩] at y; exact absurd y (by decide)
          · try dsimp only
            rw [e18, iz_le (by omega)]
            have plV : PlQ (sF (sA V 105 k 1) 80 18 (iz ((dnF P (k + 1)).1 : Int))) B t h (B 203) (cnX B t h (B 203) (fun _ _ => True)) (2 ^ n - 1) b ki := PlQ_fr (W := fun y => y = 105 ∨ y = 18018) hW hS2 hb2 hk2 f1 (fr_sF (fr_sA fr_rfl (by omega)) (by omega)) (fun y hy => by unfold sW; omega)
            refine ⟨fun y => ⟨⟨k + 1, by omega, by omega, rfl, ?_, plV, ?_, ?_, a105⟩, ms⟩, fun y => ⟨⟨k + 1, by omega, by omega, rfl, ?_, PlQ_fr (W := fun y => y = 18019) hW hS2 hb2 hk2 plV (fr_sF fr_rfl rfl) (fun y hy => by unfold sW; omega), ?_, ?_, a105⟩, ms⟩⟩
            · rw [my2, if_neg (by omega)]
            · rw [gF_F, if_pos ⟨rfl, rfl⟩]
            · rw [gF_F, if_neg (by omega), gA_F, g19, my1, if_neg (by omega)]
            · rw [my2, if_pos (by omega)]
            · rw [gF_F, if_neg (by omega), gF_F, if_pos ⟨rfl, rfl⟩]
            · rw [gF_F, if_pos ⟨rfl, rfl⟩, my1, if_pos (by omega)]
  · show 256 - (1 : Int32).toInt.toNat < 1000
    omega
  · refine ⟨1, by omega, by omega, rfl, ?_, pl0, ?_, ?_, fun s s1 s2 => by omega⟩
    · unfold mst; rw [dn_1, if_pos rfl]; rfl
    · rw [gF_F, if_neg (by omega), gF_F, if_pos ⟨rfl, rfl⟩, dn_1]; rfl
    · rw [gF_F, if_pos ⟨rfl, rfl⟩, dn_1]; rfl
