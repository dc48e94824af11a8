/-! ===== the class's rows ===== -/
section PS
variable {B : Nat → Int} {D : Nat}
theorem ps_le : ∀ k e, ps B D e ≤ ps B D (e + k) := by
  intro k
  induction k with
  | zero => intro e; exact Nat.le_refl _
  | succ k ih => intro e; rw [← Nat.add_assoc, ps_s]; have := ih e; omega
theorem ps_mo {d e : Nat} (he : d ≤ e) : ps B D d ≤ ps B D e := by
  have := ps_le (B := B) (D := D) (e - d) d
  rw [show d + (e - d) = e by omega] at this
  exact this
theorem ps_lt {d e : Nat} (hd : D.testBit d = true) (he : d < e) : ps B D d + nO B d ≤ ps B D e := by
  have := ps_mo (B := B) (D := D) (d := d + 1) (e := e) (by omega)
  rw [ps_s, if_pos hd] at this
  exact this
theorem ps_g {d : Nat} : ∀ k, (∀ x, d ≤ x → x < d + k → D.testBit x = false) → ps B D (d + k) = ps B D d := by
  intro k
  induction k with
  | zero => intro _; rfl
  | succ k ih =>
    intro h
    have hk := h (d + k) (by omega) (by omega)
    rw [← Nat.add_assoc, ps_s, hk, ih fun x h1 h2 => h x h1 (by omega)]
    rfl
theorem ps_3 (hW : WF B) (hD2 : D < 2 ^ (B 16).toNat) : ∀ e, ps B D e ≤ 3 * sn D e := by
  intro e
  induction e with
  | zero => exact Nat.le_refl _
  | succ e ih =>
    rw [ps_s, sn_s]
    cases hm : D.testBit e with
    | false => rw [if_neg (by decide), if_neg (by decide)]; omega
    | true =>
      have := wf_n hW (mem_lt hW hD2 e hm)
      rw [if_pos rfl, if_pos rfl]; omega
theorem ps_ex {j : Nat} : ∀ e, j < ps B D e → ∃ d k, d < e ∧ D.testBit d = true ∧ k < nO B d ∧ j = ps B D d + k := by
  intro e
  induction e with
  | zero => intro h; exact absurd h (Nat.not_lt_zero _)
  | succ e ih =>
    intro h
    rcases Nat.lt_or_ge j (ps B D e) with z | z
    · obtain ⟨d, k, h1, h2, h3, h4⟩ := ih z
      exact ⟨d, k, by omega, h2, h3, h4⟩
    · rw [ps_s] at h
      cases hm : D.testBit e with
      | false => rw [hm, if_neg (by decide)] at h; omega
      | true =>
        rw [hm, if_pos rfl] at h
        exact ⟨e, j - ps B D e, by omega, hm, by omega, by omega⟩
theorem ps_in {d e k l : Nat} (hd : D.testBit d = true) (he : D.testBit e = true) (hk : k < nO B d) (hl : l < nO B e) (h : ps B D d + k = ps B D e + l) : d = e ∧ k = l := by
  rcases Nat.lt_trichotomy d e with z | z | z
  · have := ps_lt (B := B) hd z; omega
  · subst z; exact ⟨rfl, by omega⟩
  · have := ps_lt (B := B) he z; omega
theorem sn_B (hW : WF B) (hD2 : D < 2 ^ (B 16).toNat) : sn D (B 16).toNat = sn D 8 ∧ ps B D (B 16).toNat = ps B D 8 := by
  have h8 := hW.2.2.1
  have g : ∀ x, (B 16).toNat ≤ x → x < (B 16).toNat + (8 - (B 16).toNat) → D.testBit x = false := fun x y1 y2 => tb_hi hD2 (by omega)
  have a1 := sn_g (D := D) (d := (B 16).toNat) (8 - (B 16).toNat) g
  have a2 := ps_g (B := B) (D := D) (d := (B 16).toNat) (8 - (B 16).toNat) g
  rw [show (B 16).toNat + (8 - (B 16).toNat) = 8 by omega] at a1 a2
  exact ⟨a1.symm, a2.symm⟩
end PS
def FdQ (T : St) (a : Nat) (B : Nat → Int) (d p s : Nat) (U : St) : Prop := U.1 a 0 = iz s ∧ U.1 a 1 = iz ((p + nO B d : Nat) : Int) ∧ (∀ j, j < p → U.2.2.1 (a + 3) j = T.2.2.1 (a + 3) j ∧ U.2.2.1 (a + 4) j = T.2.2.1 (a + 4) j ∧ U.2.2.1 (a + 6) j = T.2.2.1 (a + 6) j) ∧ ∀ k, k < nO B d → U.2.2.1 (a + 3) (p + k) = iz ((nF B d + k : Nat) : Int) ∧ U.2.2.1 (a + 4) (p + k) = iz s ∧ U.2.2.1 (a + 6) (p + k) = iz (lg B (nF B d + k))
theorem s_fillDish {T : St} {a b d p s : Nat} {B : Nat → Int} (ha : sh a = .inr 7) (hb : sh b = .inr 1) (hb2 : b + 14 < 76) (ha2 : 76 ≤ a) (hP : BkP T b B) (hW : WF B) (hd : (d : Int) < B 16) (hs : s < 4) (hp : p + nO B d ≤ 12) (h0 : T.1 a 0 = iz s) (h1 : T.1 a 1 = iz p) : ok_ro_fillDish T a b (iz d) ∧ FdQ T a B d p s (x_ro_fillDish T a b (iz d)) := by
  have h8 := hW.2.2.1
  have k17 := wf_17 hW
  obtain ⟨n1, n2, n3⟩ := wf_n hW hd
  have f1 := (wf_f hW hd).1
  refine so_ro_fillDish (Q := FdQ T a B d p s) _ _ _ ?_
  unfold wp_ro_fillDish
  refine wr_ro_fillDish_2 _ _ _ (fun v U => ∃ i : Nat, i ≤ nO B d ∧ v = iz i ∧ BkP U b B ∧ U.1 a 0 = iz s ∧ U.1 a 1 = iz ((p + i : Nat) : Int) ∧ (∀ j, j < p → U.2.2.1 (a + 3) j = T.2.2.1 (a + 3) j ∧ U.2.2.1 (a + 4) j = T.2.2.1 (a + 4) j ∧ U.2.2.1 (a + 6) j = T.2.2.1 (a + 6) j) ∧ ∀ k, k < i → U.2.2.1 (a + 3) (p + k) = iz ((nF B d + k : Nat) : Int) ∧ U.2.2.1 (a + 4) (p + k) = iz s ∧ U.2.2.1 (a + 6) (p + k) = iz (lg B (nF B d + k))) (fun v U => 3 - v.toInt.toNat) ?_ _ _ _ ?_ ?_
  · rintro _ U ⟨i, g1, rfl, u1, u2, u3, u4, u5⟩
    obtain ⟨_, _, _, p7, p8⟩ := u1.2.1.2 d hd
    unfold bd_ro_fillDish_2
    simp only [gA_F]
    rw [ix_nat (by omega), p7, p8, u3, u2, iz_le (by omega), z_12, iz_le (by omega), iz_add, ix_nat (by omega)]
    refine ⟨hb, in_nat (by omega) (by omega), fun q => ?_, fun q => ⟨ha, fun q2 => by omega, fun q2 => jo ?_⟩⟩
    · have hi : i = nO B d := by omega
      subst hi
      exact ⟨u2, u3, u4, u5⟩
    · have e1 : bFst B d + (i : Int) = ((nF B d + i : Nat) : Int) := by omega
      have hq : i < nO B d := by omega
      obtain ⟨fk1, fk2⟩ := wf_fk hW hd hq
      obtain ⟨_, p10, _⟩ := u1.2.2 (nF B d + i) fk1
      refine ⟨in_nat (by omega) (by omega), in_nat (by omega) (by omega), jo ?_⟩
      simp only [gA_F]
      rw [u3, e1, ix_nat (by omega), ix_nat (by omega), gA_A, if_neg (by omega), gA_A, if_neg (by omega), p10]
      refine ⟨in_nat (by omega) (by omega), in_nat (by omega) (by omega), jo ?_⟩
      have nx : iz (i : Int) + 1 = iz ((i + 1 : Nat) : Int) := by rw [z_1, iz_add]; exact iz_inj (by omega)
      have nx2 : iz ((p + i : Nat) : Int) + 1 = iz ((p + (i + 1) : Nat) : Int) := by rw [z_1, iz_add]; exact iz_inj (by omega)
      try dsimp only
      simp only [gA_F]
      rw [u3, nx, nx2]
      refine ⟨⟨i + 1, by omega, rfl, BkP_fr u1 ?_ (fun y z y1 y2 => ?_), ?_, ?_, fun j hj => ?_, fun k hk => ?_⟩, ?_⟩
      · rw [gF_F, if_neg (by omega)]; rfl
      · rw [gF_A, gA_A, if_neg (by omega), gA_A, if_neg (by omega), gA_A, if_neg (by omega)]
      · rw [gF_F, if_neg (by omega)]; exact u2
      · rw [gF_F, if_pos ⟨rfl, rfl⟩]
      · simp only [gF_A]
        refine ⟨?_, ?_, ?_⟩
        · rw [gA_A, if_neg (by omega), gA_A, if_neg (by omega), gA_A, if_neg (by omega)]; exact (u4 j hj).1
        · rw [gA_A, if_neg (by omega), gA_A, if_neg (by omega), gA_A, if_neg (by omega)]; exact (u4 j hj).2.1
        · rw [gA_A, if_neg (by omega), gA_A, if_neg (by omega), gA_A, if_neg (by omega)]; exact (u4 j hj).2.2
      · simp only [gF_A]
        by_cases z : k = i
        · subst z
          refine ⟨?_, ?_, ?_⟩
          · rw [gA_A, if_neg (by omega), gA_A, if_neg (by omega), gA_A, if_pos ⟨rfl, rfl⟩]
          · rw [gA_A, if_neg (by omega), gA_A, if_pos ⟨rfl, rfl⟩]
          · rw [gA_A, if_pos ⟨rfl, rfl⟩]
        · have := u5 k (by omega)
          refine ⟨?_, ?_, ?_⟩
          · rw [gA_A, if_neg (by omega), gA_A, if_neg (by omega), gA_A, if_neg (by omega)]; exact this.1
          · rw [gA_A, if_neg (by omega), gA_A, if_neg (by omega), gA_A, if_neg (by omega)]; exact this.2.1
          · rw [gA_A, if_neg (by omega), gA_A, if_neg (by omega), gA_A, if_neg (by omega)]; exact this.2.2
      · show 3 - (iz ((i + 1 : Nat) : Int)).toInt.toNat < 3 - (iz (i : Int)).toInt.toNat
        rw [iz_t (by omega), iz_t (by omega)]; omega
  · show 3 - (0 : Int32).toInt.toNat < 1000
    omega
  · exact ⟨0, by omega, rfl, hP, h0, h1, fun j _ => ⟨rfl, rfl, rfl⟩, fun k hk => absurd hk (Nat.not_lt_zero _)⟩
theorem shi_7 {a : Nat} (h : sh a = .inr 7) : a < 602 := shi7 h
theorem s_fill {T : St} {a b D : Nat} {B : Nat → Int} (ha : sh a = .inr 7) (hb : sh b = .inr 1) (hb2 : b + 14 < 76) (ha2 : 76 ≤ a) (hP : BkP T b B) (hW : WF B) (hD2 : D < 2 ^ (B 16).toNat) (hn : sn D 8 ≤ 4) (h17 : T.1 b 17 = iz D) : ok_ro_fill T a b ∧ RowX (x_ro_fill T a b) a B D := by
  have h8 := hW.2.2.1
  have h256 := D_256 hW hD2
  refine so_ro_fill (Q := fun U => RowX U a B D) _ _ ?_
  unfold wp_ro_fill
  have fin : ∀ (U : St) (e : Nat), sn D e = sn D 8 → ps B D e = ps B D 8 → (∀ d, d < 8 → D.testBit d = true → d < e) → U.1 a 0 = iz (sn D e) → U.1 a 1 = iz (ps B D e) → (∀ d, d < e → D.testBit d = true → U.2.2.1 (a + 1) (sn D d) = iz d ∧ ∀ k, k < nO B d → U.2.2.1 (a + 3) (ps B D d + k) = iz ((nF B d + k : Nat) : Int) ∧ U.2.2.1 (a + 4) (ps B D d + k) = iz (sn D d) ∧ U.2.2.1 (a + 6) (ps B D d + k) = iz (lg B (nF B d + k))) → RowX U a B D := by
    intro U e g1 g2 g3 g4 g5 g6
    refine ⟨by rw [g4, g1], by rw [g5, g2], fun d hd hm => g6 d (g3 d hd hm) hm⟩
  refine ⟨ha, ?_⟩
  refine wr_ro_fill_12 _ _ (fun v U => ∃ e : Nat, (e : Int) ≤ B 16 ∧ v = iz e ∧ BkP U b B ∧ U.1 b 17 = iz D ∧ U.1 a 0 = iz (sn D e) ∧ U.1 a 1 = iz (ps B D e) ∧ (∀ d, d < e → D.testBit d = true → U.2.2.1 (a + 1) (sn D d) = iz d ∧ ∀ k, k < nO B d → U.2.2.1 (a + 3) (ps B D d + k) = iz ((nF B d + k : Nat) : Int) ∧ U.2.2.1 (a + 4) (ps B D d + k) = iz (sn D d) ∧ U.2.2.1 (a + 6) (ps B D d + k) = iz (lg B (nF B d + k)))) (fun v U => 8 - v.toInt.toNat) ?_ _ _ _ ?_ ?_
  · rintro _ U ⟨e, g1, rfl, u1, u2, u3, u4, u5⟩
    have sle := sn_mo (D := D) (d := e) (e := 8) (by omega)
    unfold bd_ro_fill_12
    rw [u1.2.1.1, u2, u3, iz_le (by omega), z_4, iz_le (by omega)]
    refine ⟨hb, fun q => ?_, fun q => ⟨ha, fun q4 => ?_, fun q4 => ?_⟩⟩
    · have ee : e = (B 16).toNat := by omega
      obtain ⟨s1, s2⟩ := sn_B hW hD2
      rw [← ee] at s1 s2
      exact fin U e s1 s2 (fun d _ hm => by have := mem_lt hW hD2 d hm; omega) u3 u4 u5
    · have s8 : sn D e = sn D 8 := by omega
      have gp := sn_gap (D := D) (d := e) (e := 8) s8
      have p8 := ps_g (B := B) (D := D) (d := e) (8 - e) (fun x y1 y2 => gp x y1 (by omega))
      rw [show e + (8 - e) = 8 by omega] at p8
      refine fin U e s8 p8.symm (fun d hd hm => ?_) u3 u4 u5
      rcases Nat.lt_or_ge d e with z | z
      · exact z
      · rw [gp d z hd] at hm; cases hm
    · have he : e < 8 := by omega
      have hbt : (((iz (D : Int)) >>> (iz (e : Int) &&& 31)) &&& 1) = if D.testBit e then (1 : Int32) else 0 := bt_t D h256 e he
      have nx : iz (e : Int) + 1 = iz ((e + 1 : Nat) : Int) := by rw [z_1, iz_add]; exact iz_inj (by omega)
      have ms : 8 - (iz ((e + 1 : Nat) : Int)).toInt.toNat < 8 - (iz (e : Int)).toInt.toNat := by rw [iz_t (by omega), iz_t (by omega)]; omega
      rw [hbt, nx]
      cases hme : D.testBit e with
      | false =>
        refine ⟨fun _ => ⟨⟨e + 1, by omega, rfl, u1, u2, ?_, ?_, fun d hd hm => ?_⟩, ms⟩, fun z => absurd rfl z⟩
        · rw [u3, sn_s, hme]; rfl
        · rw [u4, ps_s, hme]; rfl
        · by_cases z : d = e
          · subst z; rw [hme] at hm; cases hm
          · exact u5 d (by omega) hm
      | true =>
        refine ⟨fun z => absurd z (by decide), fun _ => ?_⟩
        have hd : (e : Int) < B 16 := by omega
        have p3 := ps_3 hW hD2 e
        have nO3 := wf_n hW hd
        obtain ⟨ok2, f1, f2, f3, f4⟩ := s_fillDish (d := e) (p := ps B D e) (s := sn D e) ha hb hb2 ha2 u1 hW hd (by omega) (by omega) u3 u4
        have fr := fr_ro_fillDish _ _ _ ok2
        have a602 : a < 602 := shi_7 ha
        have frA : ∀ c j, c ≠ a + 3 → c ≠ a + 4 → c ≠ a + 6 → c < 10000 → (x_ro_fillDish U a b (iz e)).2.2.1 c j = U.2.2.1 c j := fun c j y1 y2 y3 y4 => q_A fr (by unfold W_ro_fillDish; omega)
        refine ⟨ok2, ?_⟩
        have hP2 : BkP (x_ro_fillDish U a b (iz e)) b B := BkP_fr u1 (q_F fr (by unfold W_ro_fillDish; omega)) (fun y z h1 h2 => frA y z (by omega) (by omega) (by omega) (by omega))
        have h172 : (x_ro_fillDish U a b (iz e)).1 b 17 = iz D := by rw [q_F fr (by unfold W_ro_fillDish; omega)]; exact u2
        rw [f1, ix_nat (by omega)]
        refine ⟨in_nat (by omega) (by omega), jo ?_⟩
        try dsimp only
        simp only [gA_F]
        generalize x_ro_fillDish U a b (iz e) = V at *
        have nx3 : iz ((sn D e : Nat) : Int) + 1 = iz ((sn D (e + 1) : Nat) : Int) := by rw [z_1, iz_add, sn_s, hme, if_pos rfl]; exact iz_inj (by omega)
        rw [f1, nx3]
        refine ⟨⟨e + 1, by omega, rfl, BkP_fr hP2 ?_ (fun y z y1 y2 => ?_), ?_, ?_, ?_, fun d hd hm => ?_⟩, ms⟩
        · rw [gF_F, if_neg (by omega)]; rfl
        · rw [gF_A, gA_A, if_neg (by omega)]
        · rw [gF_F, if_neg (by omega)]; exact h172
        · rw [gF_F, if_pos ⟨rfl, rfl⟩]
        · rw [gF_F, if_neg (by omega), gA_F, f2, ps_s, hme, if_pos rfl]
        · simp only [gF_A]
          by_cases z : d = e
          · subst z
            refine ⟨by rw [gA_A, if_pos ⟨rfl, rfl⟩], fun k hk => ?_⟩
            rw [gA_A, if_neg (by omega), gA_A, if_neg (by omega), gA_A, if_neg (by omega)]
            exact f4 k hk
          · have hde : d < e := by omega
            obtain ⟨y1, y2⟩ := u5 d hde hm
            have sl := sn_lt hm hde
            have pl := ps_lt (B := B) hm hde
            refine ⟨by rw [gA_A, if_neg (by omega), frA _ _ (by omega) (by omega) (by omega) (by omega)]; exact y1, fun k hk => ?_⟩
            obtain ⟨t1, t2, t3⟩ := f3 (ps B D d + k) (by omega)
            rw [gA_A, if_neg (by omega), gA_A, if_neg (by omega), gA_A, if_neg (by omega), t1, t2, t3]
            exact y2 k hk
  · show 8 - (0 : Int32).toInt.toNat < 1000
    omega
  · refine ⟨0, by omega, rfl, BkP_fr hP ?_ (fun _ _ _ _ => rfl), ?_, ?_, ?_, fun d hd => absurd hd (Nat.not_lt_zero _)⟩
    · rw [gF_F, if_neg (by omega), gF_F, if_neg (by omega)]
    · rw [gF_F, if_neg (by omega), gF_F, if_neg (by omega)]; exact h17
    · rw [gF_F, if_neg (by omega), gF_F, if_pos ⟨rfl, rfl⟩]; rfl
    · rw [gF_F, if_pos ⟨rfl, rfl⟩]; rfl
