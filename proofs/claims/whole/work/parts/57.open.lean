/-! ===== what stays open ===== -/
def Sea (T : St) (D : Nat) : Prop := T.1 80 12 = iz (sn D 8) ∧ ∀ d, d < 8 → D.testBit d = true → T.2.2.1 94 (sn D d) = iz d
def LoQ (T : St) (B : Nat → Int) (t h o : Int) (cn : Nat → Nat → Prop) (S b ki D d c : Nat) (op : Nat → Nat) (r : Int32 × St) : Prop := PlQ r.2 B t h o cn S b ki ∧ r.2.1 = T.1 ∧ (∀ y z, y ≠ 98 → r.2.2.2.2 y z = T.2.2.2 y z) ∧ (∀ y z, y ≠ 98 → y ≠ 100 + (sn D d + 1) → r.2.2.2.1 y z = T.2.2.1 y z) ∧ (r.1 = 0 ∨ r.1 = 1) ∧ (¬ r.1 = 0 ↔ ∀ e, e < 8 → D.testBit e = true → d < e → op e &&& agm B t h o cn d c e ≠ 0) ∧ (¬ r.1 = 0 → ∀ e, e < 8 → D.testBit e = true → d < e → r.2.2.2.1 (100 + (sn D d + 1)) (sn D e) = iz ((op e &&& agm B t h o cn d c e : Nat) : Int))
theorem s_leaves {T : St} {B : Nat → Int} {t h o : Int} {cn : Nat → Nat → Prop} {S D b ki d c : Nat} {op : Nat → Nat} (hb : sh b = .inr 1) (hb2 : b + 14 < 76) (hk : sh ki = .inr 3) (hk2 : ki + 1 < 80) (hW : WF B) (hS2 : S < 2 ^ (B 16).toNat) (hDS : ∀ e, D.testBit e = true → S.testBit e = true) (hn : sn D 8 ≤ 4) (ht : 1 ≤ t ∧ t ≤ 60) (hP : PlQ T B t h o cn S b ki) (hSe : Sea T D) (hd : d < 8) (hm : D.testBit d = true) (hc : c < chn B d) (hcn : cn d c) (hop : ∀ e, e < 8 → D.testBit e = true → d < e → T.2.2.1 (100 + sn D d) (sn D e) = iz (op e) ∧ op e < 4096) :
    ok_pl_leavesOpen T (iz (sn D d)) (iz ((12 * d + c : Nat) : Int)) ∧ LoQ T B t h o cn S b ki D d c op (x_pl_leavesOpen T (iz (sn D d)) (iz ((12 * d + c : Nat) : Int))) := by
  have hD := mem_lt hW hS2
  have h8 := hW.2.2.1
  have sn4 : sn D d + 1 ≤ sn D 8 := sn_lt hm hd
  refine so_pl_leavesOpen (Q := LoQ T B t h o cn S b ki D d c op) _ _ ?_
  unfold wp_pl_leavesOpen
  have nx0 : iz (sn D d : Int) + 1 = iz ((sn D d + 1 : Nat) : Int) := by rw [z_1, iz_add]; exact iz_inj (by omega)
  rw [nx0]
  refine wr_pl_leavesOpen_4 _ _ (fun v U => ∃ j : Nat, sn D d + 1 ≤ j ∧ j ≤ sn D 8 ∧ v = iz j ∧ PlQ U B t h o cn S b ki ∧ U.1 = T.1 ∧ (∀ y z, y ≠ 98 → U.2.2.2 y z = T.2.2.2 y z) ∧ (∀ y z, y ≠ 98 → y ≠ 100 + (sn D d + 1) → U.2.2.1 y z = T.2.2.1 y z) ∧ ∀ e, e < 8 → D.testBit e = true → d < e → sn D e < j → op e &&& agm B t h o cn d c e ≠ 0 ∧ U.2.2.1 (100 + (sn D d + 1)) (sn D e) = iz ((op e &&& agm B t h o cn d c e : Nat) : Int)) (fun v U => 4 - v.toInt.toNat) ?_ _ _ _ ?_ ?_
  · rintro _ U ⟨j, j1, j2, rfl, u1, u2, u3, u4, u5⟩
    unfold bd_pl_leavesOpen_4
    rw [u2, hSe.1, iz_le (by omega)]
    refine ⟨fun q => ?_, fun q => ?_⟩
    · have lt8 : ∀ e, e < 8 → D.testBit e = true → sn D e < j := fun e he hme => by have := sn_lt hme he; omega
      exact ⟨u1, u2, u3, u4, Or.inr rfl, ⟨fun _ e he hme hde => (u5 e he hme hde (lt8 e he hme)).1, fun _ => (by decide : ¬ (1 : Int32) = 0)⟩, fun _ e he hme hde => (u5 e he hme hde (lt8 e he hme)).2⟩
    · obtain ⟨e, he, hme, rfl⟩ := sn_ex (D := D) (a := j) 8 (by omega)
      have hde : d < e := by
        rcases Nat.lt_or_ge d e with y | y
        · exact y
        · have := sn_mo (D := D) y; omega
      have r94 : U.2.2.1 94 (sn D e) = iz e := by rw [u4 _ _ (by omega) (by omega)]; exact hSe.2 e he hme
      have ro : U.2.2.1 (100 + sn D d) (sn D e) = iz (op e) := by rw [u4 _ _ (by omega) (by omega)]; exact (hop e he hme hde).1
      have nx : iz (sn D e : Int) + 1 = iz ((sn D e + 1 : Nat) : Int) := by rw [z_1, iz_add]; exact iz_inj (by omega)
      have ixd : (iz (sn D d : Int)).toNatClampNeg = sn D d := ix_nat (by omega)
      have ixd1 : (iz (sn D d : Int) + 1).toNatClampNeg = sn D d + 1 := by rw [nx0]; exact ix_nat (by omega)
      have ixe : (iz (sn D e : Int)).toNatClampNeg = sn D e := ix_nat (by omega)
      rw [ixe, r94, nx, ixd, ixd1, ro]
      obtain ⟨oka, a1, a2⟩ := s_agreeing hb hb2 hk hW hS2 ht u1 hd (hDS d hm) he (hDS e hme) hc hcn
      have fra : Fr _ U _ := fr_pl_agreeing _ _ oka
      rw [a1, and_iz]
      generalize (x_pl_agreeing U (iz ((12 * d + c : Nat) : Int)) (iz e)).2 = V at *
      have vF : V.1 = U.1 := funext fun y => funext fun z => by
        by_cases q2 : z < 100
        · exact q_F fra (by unfold W_pl_agreeing; omega)
        · exact q_F fra (by unfold W_pl_agreeing; omega)
      have vL : ∀ y z, y ≠ 98 → V.2.2.2 y z = U.2.2.2 y z := fun y z hy => q_L fra (by unfold W_pl_agreeing; omega)
      have vA : ∀ y z, y ≠ 98 → V.2.2.1 y z = U.2.2.1 y z := fun y z hy => q_A fra (by unfold W_pl_agreeing; omega)
      have mlt : op e &&& agm B t h o cn d c e < 4096 := Nat.lt_of_le_of_lt Nat.and_le_left (hop e he hme hde).2
      refine ⟨in_nat (by omega) (by omega), in_nat (by omega) (by omega), oka, jo ?_⟩
      try dsimp only
      rw [eq0 (by omega)]
      refine ⟨fun z => ?_, fun z => ⟨by rw [nx0]; exact in_nat (by omega) (by omega), ?_⟩⟩
      · refine ⟨a2, vF.trans u2, fun y z' hy => (vL y z' hy).trans (u3 y z' hy), fun y z' h1 h2 => by show V.2.2.1 y z' = _; rw [vA y z' h1]; exact u4 y z' h1 h2, Or.inl rfl, ⟨fun y => absurd rfl y, fun y => absurd (show op e &&& agm B t h o cn d c e = 0 by omega) (y e he hme hde)⟩, fun y => absurd rfl y⟩
      · refine ⟨⟨sn D e + 1, by omega, by omega, rfl, ?_, vF.trans u2, fun y z' hy => (vL y z' hy).trans (u3 y z' hy), fun y z' h1 h2 => ?_, fun f hf hmf hdf hlt => ?_⟩, ?_⟩
        · refine PlQ_fr (W := fun c => c = 100 + (sn D d + 1)) hW hS2 hb2 hk2 a2 (fr_sA fr_rfl rfl) (fun c hc' => by unfold sW; omega)
        · rw [gA_A, if_neg (fun w => h2 w.1), vA y z' h1]; exact u4 y z' h1 h2
        · rw [gA_A]
          by_cases y : sn D f = sn D e
          · have ef : f = e := sn_in hmf hme y
            subst ef
            rw [if_pos ⟨rfl, rfl⟩]; exact ⟨fun w => z (by rw [w]; rfl), rfl⟩
          · rw [if_neg (fun w => y w.2), vA _ _ (by omega)]; exact u5 f hf hmf hdf (by omega)
        · rw [iz_t (by omega), iz_t (by omega)]; omega
  · rw [iz_t (by omega)]; omega
  · exact ⟨sn D d + 1, by omega, by omega, rfl, hP, rfl, fun _ _ _ => rfl, fun _ _ _ _ => rfl, fun e he hme hde hlt => by have := sn_lt hm hde; omega⟩
