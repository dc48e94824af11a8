/-! ===== the reference knows a plan ===== -/
def ENm (S U : St) (B : Nat → Int) (D d k : Nat) : Prop := U.2.2.1 594 (ps B D d + k) = iz ((nF B d + k : Nat) : Int) ∧ U.2.2.1 595 (ps B D d + k) = S.2.2.1 593 (3 * sn D d + k) ∧ U.2.2.1 596 (ps B D d + k) = 0
def MrQ (S U : St) (B : Nat → Int) (D : Nat) : Prop := U.1 571 39 = iz (ps B D 8) ∧ ∀ d, d < 8 → D.testBit d = true → ∀ k, k < nO B d → ENm S U B D d k
theorem s_layRow {T : St} {B : Nat → Int} {D : Nat} (hM : MkX T B) (hW : WF B) (d1 : B 202 = (D : Int)) (hD2 : D < 2 ^ (B 16).toNat) (hn : sn D 8 ≤ 4) : ok_m_layRow T ∧ MrQ T (x_m_layRow T) B D := by
  have h8 := hW.2.2.1
  have h256 := D_256 hW hD2
  refine so_m_layRow (Q := fun U => MrQ T U B D) ?_
  unfold wp_m_layRow
  refine wr_m_layRow_9 (fun v1 v2 U => ∃ e : Nat, (e : Int) ≤ B 16 ∧ v1 = iz (sn D e) ∧ v2 = iz e ∧ MkX U B ∧ (∀ j, U.2.2.1 593 j = T.2.2.1 593 j) ∧ U.1 571 39 = iz (ps B D e) ∧ ∀ d, d < 8 → D.testBit d = true → ∀ k, k < nO B d → ps B D d + k < ps B D e → ENm T U B D d k) (fun v1 v2 U => 8 - v2.toInt.toNat) ?_ _ _ _ _ ?_ ?_
  · rintro _ _ U ⟨e, g1, rfl, rfl, u1, u2, u3, u4⟩
    unfold bd_m_layRow_9
    rw [n_16, show (202 : Int32).toNatClampNeg = 202 from rfl, u1 16 (by omega), u1 202 (by omega), d1, iz_le (by omega)]
    refine ⟨fun q => ?_, fun q => ?_⟩
    · have ee : e = (B 16).toNat := by omega
      obtain ⟨_, s2⟩ := sn_B hW hD2
      rw [← ee] at s2
      refine ⟨by rw [u3, s2], fun d hd hm k hk => u4 d hd hm k hk ?_⟩
      have := ps_lt (B := B) (e := 8) hm hd; omega
    · have he : e < 8 := by omega
      have hbt : (((iz (D : Int)) >>> (iz (e : Int) &&& 31)) &&& 1) = if D.testBit e then (1 : Int32) else 0 := bt_t D h256 e he
      have nx : iz (e : Int) + 1 = iz ((e + 1 : Nat) : Int) := by rw [z_1, iz_add]; exact iz_inj (by omega)
      have ms : 8 - (iz ((e + 1 : Nat) : Int)).toInt.toNat < 8 - (iz (e : Int)).toInt.toNat := by rw [iz_t (by omega), iz_t (by omega)]; omega
      rw [hbt, nx]
      cases hme : D.testBit e with
      | false =>
        refine ⟨fun z => absurd z (by decide), fun _ => ⟨⟨e + 1, by omega, ?_, rfl, u1, u2, ?_, fun d hd hm k hk hlt => u4 d hd hm k hk ?_⟩, ms⟩⟩
        · rw [sn_s, hme]; rfl
        · rw [u3, ps_s, hme]; rfl
        · rw [ps_s, hme, if_neg (by decide)] at hlt; omega
      | true =>
        refine ⟨fun _ => ?_, fun z => absurd rfl z⟩
        have hd : (e : Int) < B 16 := by omega
        have p3 := ps_3 hW hD2 e
        obtain ⟨n1, n2, n3⟩ := wf_n hW hd
        have f1 := (wf_f hW hd).1
        have sl := sn_lt (D := D) (e := 8) hme he
        have nx3 : iz ((sn D e : Nat) : Int) + 1 = iz ((sn D (e + 1) : Nat) : Int) := by rw [z_1, iz_add, sn_s, hme, if_pos rfl]; exact iz_inj (by omega)
        refine wr_m_layRow_38 _ _ (fun v V => ∃ i : Nat, i ≤ nO B e ∧ v = iz i ∧ MkX V B ∧ (∀ j, V.2.2.1 593 j = T.2.2.1 593 j) ∧ V.1 571 39 = iz ((ps B D e + i : Nat) : Int) ∧ ∀ d, d < 8 → D.testBit d = true → ∀ k, k < nO B d → ps B D d + k < ps B D e + i → ENm T V B D d k) (fun v V => 3 - v.toInt.toNat) ?_ _ _ _ ?_ ?_
        · rintro _ V ⟨i, w1, rfl, v1, v2, v3, v4⟩
          unfold bd_m_layRow_38
          rw [md3 v1 (by omega), md4 v1 (by omega), Int.toNat_natCast, iz_le (by omega)]
          refine ⟨okd3 (by omega), fun q => ?_, fun q => ?_⟩
          · have hi : i = nO B e := by omega
            subst hi
            refine ⟨⟨e + 1, by omega, nx3, rfl, v1, v2, ?_, fun d hd hm k hk hlt => v4 d hd hm k hk ?_⟩, ms⟩
            · rw [v3, ps_s, hme, if_pos rfl]
            · rw [ps_s, hme, if_pos rfl] at hlt; exact hlt
          · have nx4 : iz (i : Int) + 1 = iz ((i + 1 : Nat) : Int) := by rw [z_1, iz_add]; exact iz_inj (by omega)
            have nx5 : iz ((ps B D e + i : Nat) : Int) + 1 = iz ((ps B D e + (i + 1) : Nat) : Int) := by rw [z_1, iz_add]; exact iz_inj (by omega)
            have a1 : iz (bFst B e) + iz (i : Int) = iz ((nF B e + i : Nat) : Int) := by rw [iz_add]; exact iz_inj (by omega)
            have a2 : (3 : Int32) * iz ((sn D e : Nat) : Int) + iz (i : Int) = iz ((3 * sn D e + i : Nat) : Int) := by rw [z_3, iz_mul, iz_add]; exact iz_inj (by omega)
            simp only [gA_F]
            rw [a1, a2, v3, ix_nat (by omega), ix_nat (by omega), gA_A, if_neg (by omega), v2, nx4]
            refine ⟨okd4 (by omega), in_nat (by omega) (by omega), in_nat (by omega) (by omega), in_nat (by omega) (by omega), jo ?_⟩
            try dsimp only
            simp only [gA_F]
            rw [v3, ix_nat (by omega), nx5]
            refine ⟨in_nat (by omega) (by omega), jo ⟨⟨i + 1, by omega, rfl, fun j hj => ?_, fun j => ?_, ?_, fun d hd hm k hk hlt => ?_⟩, ?_⟩⟩
            · rw [gF_A, gA_A, if_neg (by omega), gA_A, if_neg (by omega), gA_A, if_neg (by omega)]; exact v1 j hj
            · rw [gF_A, gA_A, if_neg (by omega), gA_A, if_neg (by omega), gA_A, if_neg (by omega)]; exact v2 j
            · rw [gF_F, if_pos ⟨rfl, rfl⟩]
            · unfold ENm
              simp only [gF_A]
              by_cases z : ps B D d + k = ps B D e + i
              · obtain ⟨z1, z2⟩ := ps_in hm hme hk (by omega) z
                subst z1; subst z2
                refine ⟨?_, ?_, ?_⟩
                · rw [gA_A, if_neg (by omega), gA_A, if_neg (by omega), gA_A, if_pos ⟨rfl, rfl⟩]
                · rw [gA_A, if_neg (by omega), gA_A, if_pos ⟨rfl, rfl⟩]
                · rw [gA_A, if_pos ⟨rfl, rfl⟩]
              · have := v4 d hd hm k hk (by omega)
                refine ⟨?_, ?_, ?_⟩
                · rw [gA_A, if_neg (by omega), gA_A, if_neg (by omega), gA_A, if_neg (by omega)]; exact this.1
                · rw [gA_A, if_neg (by omega), gA_A, if_neg (by omega), gA_A, if_neg (by omega)]; exact this.2.1
                · rw [gA_A, if_neg (by omega), gA_A, if_neg (by omega), gA_A, if_neg (by omega)]; exact this.2.2
            · show 3 - (iz ((i + 1 : Nat) : Int)).toInt.toNat < 3 - (iz (i : Int)).toInt.toNat
              rw [iz_t (by omega), iz_t (by omega)]; omega
        · show 3 - (0 : Int32).toInt.toNat < 1000
          omega
        · exact ⟨0, by omega, rfl, u1, u2, u3, u4⟩
  · show 8 - (0 : Int32).toInt.toNat < 1000
    omega
  · exact ⟨0, by omega, rfl, rfl, fun j hj => hM j hj, fun _ => rfl, by rw [gF_F, if_pos ⟨rfl, rfl⟩]; rfl, fun d _ _ k _ hk => absurd hk (Nat.not_lt_zero _)⟩
def KnQ (B : Nat → Int) (t : Nat) (r : Int32 × St) : Prop := MkX r.2 B ∧ r.2.1 571 32 = 0 ∧ cM r.2 B ∧ (SK0 B t = none → r.1 = 0) ∧ ∀ c, SK0 B t = some c → r.1 = 1 ∧ r.2.1 571 36 = iz (csm B (B 202).toNat 8 c) ∧ r.2.1 571 39 = iz (ps B (B 202).toNat 8) ∧ ∀ d : Nat, d < 8 → (B 202).toNat.testBit d = true → r.2.2.2.1 592 (sn (B 202).toNat d) = iz (c d) ∧ ∀ k, k < nO B d → r.2.2.2.1 594 (ps B (B 202).toNat d + k) = iz ((nF B d + k : Nat) : Int) ∧ r.2.2.2.1 595 (ps B (B 202).toNat d + k) = iz (bg B t d (c d) k) ∧ r.2.2.2.1 596 (ps B (B 202).toNat d + k) = 0
theorem kn_fin {U : St} {B : Nat → Int} {t : Nat} (hM : MkX U B) (hW : WF B) (m0 : U.1 571 32 = 0) (ht : 1 ≤ t ∧ t ≤ 60) (hx : cM U B) (h34 : U.1 571 34 = iz t) : ok_m_layRow U ∧ (((x_m_layRow U).1 571 35 = 0 ∨ (x_m_layRow U).1 571 35 = (1 : Int32))) ∧ KnQ B t ((x_m_layRow U).1 571 35, x_m_layRow U) := by
  obtain ⟨D, d1, d2, d3, d4⟩ := WF_D hW
  obtain ⟨ok, r1, r2⟩ := s_layRow hM hW d1 d3 d4.2
  have fr : Fr _ U _ := fr_m_layRow ok
  have key : (SK0 B t = none → U.1 571 35 = 0) ∧ ∀ c, SK0 B t = some c → U.1 571 35 = 1 ∧ U.1 571 36 = iz (csm B (B 202).toNat 8 c) ∧ ∀ d : Nat, d < 8 → (B 202).toNat.testBit d = true → U.2.2.1 592 (sn (B 202).toNat d) = iz (c d) ∧ ∀ k, k < nO B d → U.2.2.1 593 (3 * sn (B 202).toNat d + k) = iz (bg B t d (c d) k) := by
    rcases hx with (z | z) | ⟨t', h1, h2, h3, h4, h5⟩
    · rw [h34, z_0, iz_eq (by omega)] at z; omega
    · rw [h34, iz_eq (by omega)] at z; omega
    · rw [h34, iz_eq (by omega)] at h3
      have : t' = t := by omega
      subst this
      exact ⟨h4, h5⟩
  have e35 : (x_m_layRow U).1 571 35 = U.1 571 35 := q_F fr (by unfold W_m_layRow; omega)
  rw [e35]
  refine ⟨ok, ?_, MkX_fr fr (by unfold W_m_layRow; omega) hM, ?_, cM_fr fr (fun c hc hw => by unfold W_m_layRow at hw; omega) hx, key.1, fun c hc => ⟨(key.2 c hc).1, ?_, ?_, fun d hd hm => ⟨?_, fun k hk => ?_⟩⟩⟩
  · cases hS : SK0 B t with
    | none => exact Or.inl (key.1 hS)
    | some c => exact Or.inr (key.2 c hS).1
  · show (x_m_layRow U).1 571 32 = 0
    rw [q_F fr (by unfold W_m_layRow; omega)]; exact m0
  · show (x_m_layRow U).1 571 36 = _
    rw [q_F fr (by unfold W_m_layRow; omega)]; exact (key.2 c hc).2.1
  · rw [d2]; exact r1
  · show (x_m_layRow U).2.2.1 592 _ = _
    rw [q_A fr (by unfold W_m_layRow; omega)]; exact ((key.2 c hc).2.2 d hd hm).1
  · have hm2 := hm
    rw [d2] at hm2
    obtain ⟨y1, y2, y3⟩ := r2 d hd hm2 k hk
    have := ((key.2 c hc).2.2 d hd hm).2 k hk
    rw [d2] at this ⊢
    exact ⟨y1, y2.trans this, y3⟩
