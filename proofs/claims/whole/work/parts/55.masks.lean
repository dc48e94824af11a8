/-! ===== choices as bits; two ways ===== -/
noncomputable def msk (P : Nat → Prop) : Nat → Nat
  | 0 => 0
  | n + 1 => msk P n ||| @ite _ (P n) (Classical.propDecidable _) (2 ^ n) 0
theorem msk_y {P : Nat → Prop} {n : Nat} (h : P n) : msk P (n + 1) = msk P n ||| 2 ^ n := by show msk P n ||| _ = _; rw [if_pos h]
theorem msk_n {P : Nat → Prop} {n : Nat} (h : ¬ P n) : msk P (n + 1) = msk P n := by show msk P n ||| _ = _; rw [if_neg h, Nat.or_zero]
theorem msk_lt {P : Nat → Prop} : ∀ n, msk P n < 2 ^ n := by
  intro n
  induction n with
  | zero => exact Nat.one_pos
  | succ n ih =>
    have h1 : 2 ^ n < 2 ^ (n + 1) := Nat.pow_lt_pow_right (by omega) (by omega)
    by_cases q : P n
    · rw [msk_y q]; exact Nat.or_lt_two_pow (by omega) h1
    · rw [msk_n q]; omega
theorem msk_t {P : Nat → Prop} : ∀ n i, (msk P n).testBit i = true ↔ i < n ∧ P i := by
  intro n
  induction n with
  | zero => intro i; show (0 : Nat).testBit i = true ↔ _; rw [Nat.zero_testBit]; exact ⟨fun z => (by cases z), fun z => by omega⟩
  | succ n ih =>
    intro i
    by_cases q : P n
    · rw [msk_y q, Nat.testBit_or, Bool.or_eq_true, ih i, Nat.testBit_two_pow, decide_eq_true_eq]
      constructor
      · rintro (⟨h1, h2⟩ | h1)
        · exact ⟨by omega, h2⟩
        · subst h1; exact ⟨by omega, q⟩
      · rintro ⟨h1, h2⟩
        by_cases e : i = n
        · exact Or.inr e.symm
        · exact Or.inl ⟨by omega, h2⟩
    · rw [msk_n q, ih i]
      constructor
      · rintro ⟨h1, h2⟩; exact ⟨by omega, h2⟩
      · rintro ⟨h1, h2⟩
        by_cases e : i = n
        · subst e; exact absurd h2 q
        · exact ⟨by omega, h2⟩
theorem iz_bv (n : Nat) : (iz (n : Int)).toBitVec = BitVec.ofNat 32 n := by
  show (Int32.ofInt (n : Int)).toBitVec = _
  rw [Int32.toBitVec_ofInt, BitVec.ofInt_natCast]
theorem or_iz (a b : Nat) : iz (a : Int) ||| iz (b : Int) = iz ((a ||| b : Nat) : Int) := by
  rw [← Int32.toBitVec_inj, Int32.toBitVec_or, iz_bv, iz_bv, iz_bv, BitVec.ofNat_or]
theorem and_iz (a b : Nat) : iz (a : Int) &&& iz (b : Int) = iz ((a &&& b : Nat) : Int) := by
  rw [← Int32.toBitVec_inj, Int32.toBitVec_and, iz_bv, iz_bv, iz_bv, BitVec.ofNat_and]
theorem sh12 : ∀ d : Nat, d < 12 → ((1 : Int32) <<< (iz d &&& 31)) = iz (2 ^ d : Nat) := by decide +kernel
theorem bt12a : ∀ a : Nat, a < 64 → ∀ b : Nat, b < 64 → ∀ i : Nat, i < 12 → ((iz ((64 * a + b : Nat) : Int) >>> (iz i &&& 31)) &&& 1) = if (64 * a + b).testBit i then (1 : Int32) else 0 := by decide +kernel
theorem bt12 {x i : Nat} (hx : x < 4096) (hi : i < 12) : ((iz (x : Int) >>> (iz i &&& 31)) &&& 1) = if x.testBit i then (1 : Int32) else 0 := by
  have := bt12a (x / 64) (by omega) (x % 64) (by omega) i hi
  rw [show 64 * (x / 64) + x % 64 = x by omega] at this
  exact this
-- settle, of a set
theorem SdQ_fr {T U : St} {B : Nat → Int} {t : Int} {cn : Nat → Nat → Prop} {d e : Nat} (hW : WF B) (hd : (d : Int) < B 16) (h : SdQ T B t cn d) (hF : SdF e T U) (hne : d ≠ e) (he8 : e < 8) : SdQ U B t cn d := by
  obtain ⟨f1, f2, f3, f4⟩ := hF
  obtain ⟨h1, ⟨x, h2, h2'⟩, h3, h4, h5⟩ := h
  have h8 := hW.2.2.1
  have cb := ch_b hW hd
  refine ⟨by rw [f3 _ _ (by omega) (by omega)]; exact h1, ⟨x, by rw [f3 _ _ (by omega) (by omega)]; exact h2, h2'⟩, fun w m hw hm => by rw [f4 _ _ (by omega) (by omega)]; exact h3 w m hw hm, fun c hc => ?_, fun i hi => by rw [f3 _ _ (by omega) (by omega)]; exact h5 i hi⟩
  obtain ⟨a1, a3, a4, a5⟩ := h4 c hc
  refine ⟨by rw [f1]; exact a1, by rw [f1]; exact a3, fun k hk => by rw [f3 _ _ (by unfold wc; omega) (by unfold wc; omega)]; exact a4 k hk, ?_⟩
  rw [f1]
  rcases a5 with ⟨b1, b2, b3⟩ | b
  · refine Or.inl ⟨b1, b2, fun w m hw hm => ?_⟩
    rw [f4 _ _ (by unfold wc; omega) (by unfold wc; omega)]
    exact b3 w m hw hm
  · exact Or.inr b
theorem s_settle {T : St} {b D : Nat} {B : Nat → Int} {t : Int} {cn : Nat → Nat → Prop} (hb : sh b = .inr 1) (hb2 : b + 14 < 76) (hP : BkP T b B) (hR : T.2.1 2 = b) (hW : WF B) (hD2 : D < 2 ^ (B 16).toNat) (hY : ∀ d, d < 8 → D.testBit d = true → T.2.2.1 82 d = iz (chn B d) ∧ ∀ c, c < chn B d → WpQ T B t (cn d c) d c) : ok_pl_settle T (iz D) ∧ (fun U => U.1 = T.1 ∧ U.2.1 = T.2.1 ∧ ∀ d, d < 8 → D.testBit d = true → SdQ U B t cn d) (x_pl_settle T (iz D)) := by
  have hD := mem_lt hW hD2
  have h256 := D_256 hW hD2
  have h8 := hW.2.2.1
  refine so_pl_settle (Q := fun U => U.1 = T.1 ∧ U.2.1 = T.2.1 ∧ ∀ d, d < 8 → D.testBit d = true → SdQ U B t cn d) _ ?_
  unfold wp_pl_settle
  refine wr_pl_settle_2 _ (fun v U => ∃ e : Nat, (e : Int) ≤ B 16 ∧ v = iz e ∧ U.1 = T.1 ∧ U.2.1 = T.2.1 ∧ (∀ d, d < e → D.testBit d = true → SdQ U B t cn d) ∧ ∀ d, e ≤ d → d < 8 → D.testBit d = true → U.2.2.1 82 d = iz (chn B d) ∧ ∀ c, c < chn B d → WpQ U B t (cn d c) d c) (fun v U => 8 - v.toInt.toNat) ?_ _ _ _ ?_ ?_
  · rintro _ U ⟨e, h1, rfl, u1, u2, u3, u4⟩
    unfold bd_pl_settle_2
    rw [u2, hR, u1, hP.2.1.1, iz_le (by omega)]
    refine ⟨hb, fun q => ⟨u1, u2, fun d hd hm => u3 d (by have := hD d hm; omega) hm⟩, fun q => ?_⟩
    have he : e < 8 := by omega
    have hbt : (((iz (D : Int)) >>> (iz (e : Int) &&& 31)) &&& 1) = if D.testBit e then (1 : Int32) else 0 := bt_t D h256 e he
    have nx : iz (e : Int) + 1 = iz ((e + 1 : Nat) : Int) := by rw [z_1, iz_add]; exact iz_inj (by omega)
    have ms : 8 - (iz ((e + 1 : Nat) : Int)).toInt.toNat < 8 - (iz (e : Int)).toInt.toNat := by rw [iz_t (by omega), iz_t (by omega)]; omega
    rw [hbt, nx]
    cases hme : D.testBit e with
    | false =>
      refine ⟨fun _ => ⟨⟨e + 1, by omega, rfl, u1, u2, fun d hd hm => ?_, fun d h1 h2 h3 => u4 d (by omega) h2 h3⟩, ms⟩, fun z => absurd rfl z⟩
      by_cases z : d = e
      · subst z; rw [hme] at hm; cases hm
      · exact u3 d (by omega) hm
    | true =>
      refine ⟨fun z => absurd z (by decide), fun _ => ?_⟩
      obtain ⟨y1, y2⟩ := u4 e (by omega) he hme
      obtain ⟨ok2, l1, l2⟩ := s_settleD hW (hD e hme) y1 y2
      refine ⟨ok2, ⟨e + 1, by omega, rfl, l2.1.trans u1, l2.2.1.trans u2, fun d hd hm => ?_, fun d h1 h2 h3 => ?_⟩, ms⟩
      · by_cases z : d = e
        · subst z; exact l1
        · exact SdQ_fr hW (hD d hm) (u3 d (by omega) hm) l2 z he
      · obtain ⟨x1, x2⟩ := u4 d (by omega) h2 h3
        have cb := ch_b hW (hD d h3)
        refine ⟨by rw [l2.2.2.1 _ _ (by omega) (by omega)]; exact x1, fun c hc => WpQ_eq (x2 c hc) (fun z => by rw [l2.1]) (fun z => l2.2.2.1 _ _ (by unfold wc; omega) (by unfold wc; omega)) (fun z => l2.2.2.2 _ _ (by unfold wc; omega) (by unfold wc; omega))⟩
  · show 8 - (0 : Int32).toInt.toNat < 1000
    omega
  · exact ⟨0, by omega, rfl, rfl, rfl, fun d hd => by omega, fun d _ h2 h3 => hY d h2 h3⟩
-- two ways that can't be together
theorem s_collide {T : St} {p q ki : Nat} {B : Nat → Int} {h o : Int} {P1 P2 : Nat → Nat → Prop} (hp : sh p = .inl (1, 5)) (hq : sh q = .inl (1, 5)) (hR : T.2.1 3 = ki) (hk : sh ki = .inr 3) (hK : KitX T ki B h o) (b1 : BiX T p P1) (b2 : BiX T q P2) : ok_pl_collide T p q ∧ (x_pl_collide T p q = 0 ↔ ∀ w m : Nat, w < 5 → m < 60 → ¬ (P1 w m ∧ P2 w m ∧ gv B h o w m < 2)) := by
  refine so_pl_collide (Q := fun r => r = 0 ↔ ∀ w m : Nat, w < 5 → m < 60 → ¬ (P1 w m ∧ P2 w m ∧ gv B h o w m < 2)) _ _ ?_
  unfold wp_pl_collide
  refine wr_pl_collide_2 T _ _ (fun v => ∃ w : Nat, w ≤ 5 ∧ v = iz w ∧ ∀ w' m : Nat, w' < w → m < 60 → ¬ (P1 w' m ∧ P2 w' m ∧ gv B h o w' m < 2)) (fun v => 5 - v.toInt.toNat) ?_ _ _ ?_ ?_
  · rintro _ ⟨w, h1, rfl, h2⟩
    unfold bd_pl_collide_2
    have nx : iz (w : Int) + 1 = iz ((w + 1 : Nat) : Int) := by rw [z_1, iz_add]; exact iz_inj (by omega)
    rw [hR, ix_nat (by omega), z_5, iz_le (by omega), nx]
    refine ⟨fun c => ⟨fun _ w' m hw' hm => h2 w' m (by omega) hm, fun _ => rfl⟩, fun c => ?_⟩
    have e2 : ok_ki_fewerThan T ki (iz w) 2 ∧ x_ki_fewerThan T ki (iz w) 2 = T.2.2.2 (ki + 1) (5 * w + 2 - 1) := s_fewer (n := 2) (by omega) (by omega) hk
    rw [e2.2, and_z]
    have kk := fun m (hm : m < 60) => hK w 2 m (by omega) (by omega) (by omega) hm
    have key : (∀ m, m < 64 → lb (T.2.2.2 (ki + 1) (5 * w + 2 - 1)) m = true → lb (T.2.2.2 p w &&& T.2.2.2 q w) m = false) ↔ ∀ m : Nat, m < 60 → ¬ (P1 w m ∧ P2 w m ∧ gv B h o w m < 2) := by
      constructor
      · intro H m hm ⟨g1, g2, g3⟩
        have := H m (by omega) ((kk m hm).2 (by omega))
        have y : lb (T.2.2.2 p w &&& T.2.2.2 q w) m = true := lbt_and.2 ⟨(b1 w m (by omega) (by omega)).2 ⟨hm, g1⟩, (b2 w m (by omega) (by omega)).2 ⟨hm, g2⟩⟩
        rw [y] at this; cases this
      · intro H m hm g
        cases e : lb (T.2.2.2 p w &&& T.2.2.2 q w) m with
        | false => rfl
        | true =>
          obtain ⟨y1, y2⟩ := lbt_and.1 e
          obtain ⟨z1, z2⟩ := (b1 w m (by omega) hm).1 y1
          obtain ⟨_, z3⟩ := (b2 w m (by omega) hm).1 y2
          exact absurd ⟨z2, z3, by have := (kk m z1).1 g; omega⟩ (H m z1)
    rw [key]
    refine ⟨hp, in_nat (by omega) (by omega), hq, e2.1, hk, fun z => ⟨⟨w + 1, by omega, rfl, fun w' m hw' hm => ?_⟩, by rw [iz_t (by omega), iz_t (by omega)]; omega⟩, fun z => ⟨fun y => absurd y (by decide), fun y => absurd (fun m hm => y w m (by omega) hm) z⟩⟩
    by_cases e : w' = w
    · subst e; exact z m hm
    · exact h2 w' m (by omega) hm
  · show 5 - (0 : Int32).toInt.toNat < 1000
    omega
  · exact ⟨0, by omega, rfl, fun w' m hw' => by omega⟩
