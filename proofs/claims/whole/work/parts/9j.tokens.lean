/-! ===== the pair book: the tokens of a tape ===== -/
theorem z_97' : (97 : Int32) = iz 97 := rfl
theorem z_122' : (122 : Int32) = iz 122 := rfl
def rn (P : Nat → Bool) : Nat → Nat → Nat
  | 0, p => p
  | k + 1, p => if P p = true then rn P k (p + 1) else p
def fe (P : Nat → Bool) (p : Nat) : Nat := rn P 601 p
theorem rn_eq {P : Nat → Bool} : ∀ (k p e : Nat), p ≤ e → e - p < k → (∀ j, p ≤ j → j < e → P j = true) → P e = false → rn P k p = e := by
  intro k
  induction k with
  | zero => intro p e _ h; omega
  | succ k ih =>
    intro p e h1 h2 h3 h4
    unfold rn
    rcases Nat.lt_or_ge p e with h | h
    · rw [if_pos (h3 p (by omega) h)]
      exact ih (p + 1) e h (by omega) (fun j a b => h3 j (by omega) b) h4
    · have : p = e := by omega
      subst this
      rw [if_neg (by rw [h4]; decide)]
theorem rn_sp {P : Nat → Bool} {n : Nat} (hP : ∀ j, n ≤ j → P j = false) : ∀ (k p : Nat), p ≤ n → n - p < k → p ≤ rn P k p ∧ rn P k p ≤ n ∧ (∀ j, p ≤ j → j < rn P k p → P j = true) ∧ P (rn P k p) = false := by
  intro k
  induction k with
  | zero => intro p _ h; omega
  | succ k ih =>
    intro p h1 h2
    unfold rn
    by_cases h : P p = true
    · rw [if_pos h]
      have : p < n := by
        rcases Nat.lt_or_ge p n with q | q
        · exact q
        · rw [hP p q] at h; exact absurd h (by decide)
      obtain ⟨a, b, c, d⟩ := ih (p + 1) this (by omega)
      refine ⟨by omega, b, fun j j1 j2 => ?_, d⟩
      rcases Nat.lt_or_ge p j with q | q
      · exact c j q j2
      · have : j = p := by omega
        subst this; exact h
    · rw [if_neg h]
      exact ⟨by omega, h1, fun j a b => absurd b (by omega), Bool.eq_false_iff.2 h⟩
def tS (tp : Nat → Nat) (n j : Nat) : Bool := decide (j < n ∧ (tp j = 32 ∨ tp j = 10))
def tL (tp : Nat → Nat) (n j : Nat) : Bool := decide (j < n ∧ 97 ≤ tp j ∧ tp j ≤ 122)
def tD (tp : Nat → Nat) (n j : Nat) : Bool := decide (j < n ∧ 48 ≤ tp j ∧ tp j ≤ 57)
def tpl (tp : Nat → Nat) (n q : Nat) : Nat := fe (tS tp n) q
def tbe (tp : Nat → Nat) (n q : Nat) : Nat := if n ≤ tpl tp n q then tpl tp n q else if tL tp n (tpl tp n q) = true then fe (tL tp n) (tpl tp n q) else if tD tp n (tpl tp n q) = true then fe (tD tp n) (tpl tp n q) else tpl tp n q + 1
def tso (tp : Nat → Nat) (n q : Nat) : Nat := if n ≤ tpl tp n q then 0 else if tL tp n (tpl tp n q) = true then 1 else if tD tp n (tpl tp n q) = true then (if fe (tD tp n) (tpl tp n q) - tpl tp n q ≤ 2 then 2 else 4) else if tp (tpl tp n q) = 59 then 3 else 4
def tvl (tp : Nat → Nat) (s : Nat) : Nat → Int
  | 0 => 0
  | j + 1 => 10 * tvl tp s j + (tp (s + j) : Int) - 48
def tva (tp : Nat → Nat) (n q : Nat) : Int := tvl tp (tpl tp n q) (tbe tp n q - tpl tp n q)
section TOK
variable {tp : Nat → Nat} {n : Nat}
theorem tS_t {j : Nat} : tS tp n j = true ↔ (j < n ∧ (tp j = 32 ∨ tp j = 10)) := by unfold tS; exact decide_eq_true_iff
theorem tL_t {j : Nat} : tL tp n j = true ↔ (j < n ∧ 97 ≤ tp j ∧ tp j ≤ 122) := by unfold tL; exact decide_eq_true_iff
theorem tD_t {j : Nat} : tD tp n j = true ↔ (j < n ∧ 48 ≤ tp j ∧ tp j ≤ 57) := by unfold tD; exact decide_eq_true_iff
theorem tS_f {j : Nat} : tS tp n j = false ↔ ¬ (j < n ∧ (tp j = 32 ∨ tp j = 10)) := by unfold tS; exact decide_eq_false_iff_not
theorem tL_f {j : Nat} : tL tp n j = false ↔ ¬ (j < n ∧ 97 ≤ tp j ∧ tp j ≤ 122) := by unfold tL; exact decide_eq_false_iff_not
theorem tD_f {j : Nat} : tD tp n j = false ↔ ¬ (j < n ∧ 48 ≤ tp j ∧ tp j ≤ 57) := by unfold tD; exact decide_eq_false_iff_not
theorem feS (hn : n ≤ 600) {p : Nat} (hp : p ≤ n) : p ≤ fe (tS tp n) p ∧ fe (tS tp n) p ≤ n ∧ (∀ j, p ≤ j → j < fe (tS tp n) p → tS tp n j = true) ∧ tS tp n (fe (tS tp n) p) = false := rn_sp (fun j hj => tS_f.2 (by omega)) 601 p hp (by omega)
theorem feL (hn : n ≤ 600) {p : Nat} (hp : p ≤ n) : p ≤ fe (tL tp n) p ∧ fe (tL tp n) p ≤ n ∧ (∀ j, p ≤ j → j < fe (tL tp n) p → tL tp n j = true) ∧ tL tp n (fe (tL tp n) p) = false := rn_sp (fun j hj => tL_f.2 (by omega)) 601 p hp (by omega)
theorem feD (hn : n ≤ 600) {p : Nat} (hp : p ≤ n) : p ≤ fe (tD tp n) p ∧ fe (tD tp n) p ≤ n ∧ (∀ j, p ≤ j → j < fe (tD tp n) p → tD tp n j = true) ∧ tD tp n (fe (tD tp n) p) = false := rn_sp (fun j hj => tD_f.2 (by omega)) 601 p hp (by omega)
theorem fe_eq {P : Nat → Bool} {p e : Nat} (h1 : p ≤ e) (h2 : e ≤ 600) (h3 : ∀ j, p ≤ j → j < e → P j = true) (h4 : P e = false) : e = fe P p := (rn_eq 601 p e h1 (by omega) h3 h4).symm
theorem t_be (hn : n ≤ 600) {q : Nat} (hq : q ≤ n) : q ≤ tpl tp n q ∧ tpl tp n q ≤ n ∧ tpl tp n q ≤ tbe tp n q ∧ tbe tp n q ≤ n := by
  have a := feS (tp := tp) hn hq
  have b := feL (tp := tp) hn a.2.1
  have c := feD (tp := tp) hn a.2.1
  refine ⟨a.1, a.2.1, ?_⟩
  unfold tbe
  show fe (tS tp n) q ≤ _ ∧ _
  unfold tpl
  split
  · omega
  · split
    · omega
    · split
      · omega
      · omega
def TX (tp : Nat → Nat) (n : Nat) (U : St) : Prop := n ≤ 600 ∧ U.1 13 1 = iz n ∧ ∀ j, j < n → tp j < 256 ∧ U.2.2.1 14 j = iz (tp j)
def TM (tp : Nat → Nat) (n : Nat) (U : St) : Prop := n ≤ 600 ∧ U.1 571 11 = iz n ∧ ∀ j, j < n → tp j < 256 ∧ U.2.2.1 577 j = iz (tp j)
theorem TX_F {U : St} {a k : Nat} {x : Int32} (h : TX tp n U) (ha : ¬ (a = 13 ∧ k = 1)) : TX tp n (sF U a k x) := ⟨h.1, by rw [gF_F, if_neg (by omega)]; exact h.2.1, h.2.2⟩
theorem TM_F {U : St} {a k : Nat} {x : Int32} (h : TM tp n U) (ha : ¬ (a = 571 ∧ k = 11)) : TM tp n (sF U a k x) := ⟨h.1, by rw [gF_F, if_neg (by omega)]; exact h.2.1, h.2.2⟩
theorem l_adv8 {U : St} {q : Nat} {Kk : St → Prop} {Q : St → Prop} (hq : q ≤ n) (ex : ∀ V, TX tp n V → V.1 13 3 = iz (tpl tp n q) → Kk V) (hU : TX tp n U) (u3 : U.1 13 3 = iz q) : wp_rd_advance_8 Kk Q 1000 U := by
  refine wr_rd_advance_8 (fun V => ∃ p : Nat, q ≤ p ∧ p ≤ n ∧ V.1 13 3 = iz p ∧ TX tp n V ∧ ∀ j, q ≤ j → j < p → tS tp n j = true) (fun V => (601 - (V.1 13 3).toInt).toNat) ?_ _ _ ?_ ⟨q, by omega, hq, u3, hU, fun j a b => absurd b (by omega)⟩
  · rintro V ⟨p, p1, p2, v3, hV, v5⟩
    have hn := hV.1
    have fin : tS tp n p = false → Kk V := fun h => ex V hV (by rw [v3]; exact iz_inj (by rw [show tpl tp n q = p from (fe_eq p1 (by omega) v5 h).symm]))
    unfold bd_rd_advance_8
    rw [hV.2.1, v3, iz_le (by omega)]
    refine ⟨fun h => fin (tS_f.2 (by omega)), fun h => ⟨in_nat (by omega) (by omega), ?_⟩⟩
    obtain ⟨b1, b2⟩ := hV.2.2 p (by omega)
    rw [ix_nat (by omega), b2, z_32, z_10, iz_eq (by omega), iz_eq (by omega)]
    refine jk1 (fun h2 => ⟨⟨p + 1, by omega, by omega, ?_, TX_F hV (by omega), fun j j1 j2 => ?_⟩, ?_⟩) (fun h2 h3 => fin (tS_f.2 (by omega)))
    · rw [gF_F, if_pos ⟨rfl, rfl⟩, z_1, iz_add]; rfl
    · rcases Nat.lt_or_ge j p with h5 | h5
      · exact v5 j j1 h5
      · have : j = p := by omega
        subst this
        exact tS_t.2 (by omega)
    · try dsimp only
      rw [gF_F, if_pos ⟨rfl, rfl⟩, z_1, iz_add, iz_t (by omega), iz_t (by omega)]; omega
  · try dsimp only
    rw [u3, iz_t (by have := hU.1; omega)]; omega
theorem l_adv115 {U : St} {p0 : Nat} {Kk : St → Prop} {Q : St → Prop} (hq : p0 ≤ n) (ex : ∀ V, TX tp n V → V.1 13 3 = U.1 13 3 → V.1 13 4 = iz (fe (tL tp n) p0) → Kk V) (hU : TX tp n U) (u3 : U.1 13 4 = iz p0) : wp_rd_advance_115 Kk Q 1000 U := by
  refine wr_rd_advance_115 (fun V => ∃ p : Nat, p0 ≤ p ∧ p ≤ n ∧ V.1 13 4 = iz p ∧ TX tp n V ∧ V.1 13 3 = U.1 13 3 ∧ ∀ j, p0 ≤ j → j < p → tL tp n j = true) (fun V => (601 - (V.1 13 4).toInt).toNat) ?_ _ _ ?_ ⟨p0, by omega, hq, u3, hU, rfl, fun j a b => absurd b (by omega)⟩
  · rintro V ⟨p, p1, p2, v3, hV, v4, v5⟩
    have hn := hV.1
    have fin : tL tp n p = false → Kk V := fun h => ex V hV v4 (by rw [v3]; exact iz_inj (by rw [← fe_eq p1 (by omega) v5 h]))
    unfold bd_rd_advance_115
    rw [hV.2.1, v3, iz_le (by omega)]
    refine ⟨fun h => fin (tL_f.2 (by omega)), fun h => ⟨in_nat (by omega) (by omega), ?_⟩⟩
    obtain ⟨b1, b2⟩ := hV.2.2 p (by omega)
    rw [ix_nat (by omega), b2, z_97', z_122', iz_lt (by omega), iz_lt (by omega)]
    refine ⟨fun h2 => fin (tL_f.2 (by omega)), fun h2 => ⟨fun h3 => fin (tL_f.2 (by omega)), fun h3 => ⟨⟨p + 1, by omega, by omega, ?_, TX_F hV (by omega), by rw [gF_F, if_neg (by omega)]; exact v4, fun j j1 j2 => ?_⟩, ?_⟩⟩⟩
    · rw [gF_F, if_pos ⟨rfl, rfl⟩, z_1, iz_add]; rfl
    · rcases Nat.lt_or_ge j p with h5 | h5
      · exact v5 j j1 h5
      · have : j = p := by omega
        subst this
        exact tL_t.2 (by omega)
    · try dsimp only
      rw [gF_F, if_pos ⟨rfl, rfl⟩, z_1, iz_add, iz_t (by omega), iz_t (by omega)]; omega
  · try dsimp only
    rw [u3, iz_t (by have := hU.1; omega)]; omega
theorem s_figs {U : St} {p0 : Nat} (hq : p0 ≤ n) (hU : TX tp n U) (u3 : U.1 13 3 = iz p0) (u4 : U.1 13 4 = iz p0) : ok_rd_takeFigures U ∧ (fun V : St => V.1 13 3 = iz p0 ∧ V.1 13 4 = iz (fe (tD tp n) p0) ∧ V.1 13 5 = iz ((if fe (tD tp n) p0 - p0 ≤ 2 then 2 else 4 : Nat) : Int) ∧ V.1 13 6 = iz (tvl tp p0 (fe (tD tp n) p0 - p0))) (x_rd_takeFigures U) := by
  refine so_rd_takeFigures (Q := fun V : St => V.1 13 3 = iz p0 ∧ V.1 13 4 = iz (fe (tD tp n) p0) ∧ V.1 13 5 = iz ((if fe (tD tp n) p0 - p0 ≤ 2 then 2 else 4 : Nat) : Int) ∧ V.1 13 6 = iz (tvl tp p0 (fe (tD tp n) p0 - p0))) ?_
  unfold wp_rd_takeFigures
  have hn := hU.1
  refine wr_rd_takeFigures_5 (fun V => ∃ p : Nat, p0 ≤ p ∧ p ≤ n ∧ V.1 13 4 = iz p ∧ TX tp n V ∧ V.1 13 3 = iz p0 ∧ V.1 13 6 = iz (tvl tp p0 (p - p0)) ∧ ∀ j, p0 ≤ j → j < p → tD tp n j = true) (fun V => (601 - (V.1 13 4).toInt).toNat) ?_ _ _ ?_ ⟨p0, by omega, hq, ?_, TX_F hU (by omega), ?_, ?_, fun j a b => absurd b (by omega)⟩
  · rintro V ⟨p, p1, p2, v3, hV, v4, v6, v5⟩
    unfold bd_rd_takeFigures_5
    have fin : tD tp n p = false → (((2 < ((V.1 13 4) - (V.1 13 3))) → (fun V : St => V.1 13 3 = iz p0 ∧ V.1 13 4 = iz (fe (tD tp n) p0) ∧ V.1 13 5 = iz ((if fe (tD tp n) p0 - p0 ≤ 2 then 2 else 4 : Nat) : Int) ∧ V.1 13 6 = iz (tvl tp p0 (fe (tD tp n) p0 - p0))) (sF V 13 5 4)) ∧ (¬ (2 < ((V.1 13 4) - (V.1 13 3))) → (fun V : St => V.1 13 3 = iz p0 ∧ V.1 13 4 = iz (fe (tD tp n) p0) ∧ V.1 13 5 = iz ((if fe (tD tp n) p0 - p0 ≤ 2 then 2 else 4 : Nat) : Int) ∧ V.1 13 6 = iz (tvl tp p0 (fe (tD tp n) p0 - p0))) (sF V 13 5 2))) := by
      intro h
      rw [← fe_eq p1 (by omega) v5 h, v3, v4, iz_sub, z_2, iz_lt (by omega)]
      refine ⟨fun h2 => ?_, fun h2 => ?_⟩
      · try dsimp only
        rw [if_neg (by omega)]
        exact ⟨v4, v3, rfl, v6⟩
      · try dsimp only
        rw [if_pos (by omega)]
        exact ⟨v4, v3, rfl, v6⟩
    rw [hV.2.1]
    simp only [v3, v4] at fin ⊢
    rw [iz_le (by omega)]
    refine ⟨fun h => fin (tD_f.2 (by omega)), fun h => ⟨in_nat (by omega) (by omega), ?_⟩⟩
    obtain ⟨b1, b2⟩ := hV.2.2 p (by omega)
    rw [ix_nat (by omega), b2]
    rw [z_48, z_57, iz_lt (by omega), iz_lt (by omega)]
    refine ⟨fun h2 => fin (tD_f.2 (by omega)), fun h2 => ⟨fun h3 => fin (tD_f.2 (by omega)), fun h3 => jo ⟨⟨p + 1, by omega, by omega, ?_, TX_F (TX_F hV (by omega)) (by omega), v4, ?_, fun j j1 j2 => ?_⟩, ?_⟩⟩⟩
    · show (sF V 13 6 _).1 13 4 + 1 = _
      rw [gF_F, if_neg (by omega), v3, z_1, iz_add]; rfl
    · show (V.1 13 6 * 10 + iz (tp p)) - iz 48 = _
      rw [v6, z_10, iz_mul, iz_add, iz_sub, show p + 1 - p0 = (p - p0) + 1 by omega]
      refine iz_inj ?_
      show _ = 10 * tvl tp p0 (p - p0) + (tp (p0 + (p - p0)) : Int) - 48
      rw [show p0 + (p - p0) = p by omega]
      omega
    · rcases Nat.lt_or_ge j p with h5 | h5
      · exact v5 j j1 h5
      · have : j = p := by omega
        subst this
        exact tD_t.2 (by omega)
    · show (601 - ((sF V 13 6 _).1 13 4 + 1).toInt).toNat < (601 - (iz (p : Int)).toInt).toNat
      rw [gF_F, if_neg (by omega), v3, z_1, iz_add, iz_t (by omega), iz_t (by omega)]; omega
  · show (601 - ((sF U 13 6 0).1 13 4).toInt).toNat < 1000
    rw [gF_F, if_neg (by omega), u4, iz_t (by omega)]; omega
  · rw [gF_F, if_neg (by omega)]; exact u4
  · rw [gF_F, if_neg (by omega)]; exact u3
  · rw [gF_F, if_pos ⟨rfl, rfl⟩, show p0 - p0 = 0 by omega]; rfl
theorem s_adv {U : St} {q : Nat} (hU : TX tp n U) (hq : q ≤ n) (u4 : U.1 13 4 = iz q) : ok_rd_advance U ∧ (fun V : St => V.1 13 3 = iz (tpl tp n q) ∧ V.1 13 4 = iz (tbe tp n q) ∧ V.1 13 5 = iz (tso tp n q) ∧ (tso tp n q = 2 → V.1 13 6 = iz (tva tp n q))) (x_rd_advance U) := by
  refine so_rd_advance (Q := fun V : St => V.1 13 3 = iz (tpl tp n q) ∧ V.1 13 4 = iz (tbe tp n q) ∧ V.1 13 5 = iz (tso tp n q) ∧ (tso tp n q = 2 → V.1 13 6 = iz (tva tp n q))) ?_
  have hn := hU.1
  have tb := t_be (tp := tp) hn hq
  unfold wp_rd_advance
  refine l_adv8 (q := q) hq (fun V0 hV0 v3 => ?_) (TX_F hU (by omega)) (by rw [gF_F, if_pos ⟨rfl, rfl⟩]; exact u4)
  have e4 : (sF V0 13 4 (V0.1 13 3)).1 13 4 = iz (tpl tp n q) := by rw [gF_F, if_pos ⟨rfl, rfl⟩]; exact v3
  have e3 : (sF V0 13 4 (V0.1 13 3)).1 13 3 = iz (tpl tp n q) := by rw [gF_F, if_neg (by omega)]; exact v3
  have hV : TX tp n (sF V0 13 4 (V0.1 13 3)) := TX_F hV0 (by omega)
  generalize sF V0 13 4 (V0.1 13 3) = V at *
  rw [e3, hV.2.1, iz_lt (by omega)]
  unfold tbe tso tva tbe
  refine ⟨fun h => ⟨in_nat (by omega) (by omega), ?_⟩, fun h => ?_⟩
  · obtain ⟨b1, b2⟩ := hV.2.2 (tpl tp n q) (by omega)
    rw [ix_nat (by omega), b2, z_97', z_122', z_48, z_57, z_59, iz_lt (by omega), iz_lt (by omega), iz_lt (by omega), iz_lt (by omega), iz_eq (by omega)]
    have k1 : ¬ n ≤ tpl tp n q := by omega
    simp only [if_neg k1]
    refine jk1 (fun h2 => jo ?_) (fun h2 h3 => ?_)
    · have k2 : ¬ tL tp n (tpl tp n q) = true := fun y => by have := tL_t.1 y; omega
      simp only [if_neg k2]
      refine jk1 (fun h4 => ?_) (fun h4 h5 => ?_)
      · have k3 : ¬ tD tp n (tpl tp n q) = true := fun y => by have := tD_t.1 y; omega
        simp only [if_neg k3]
        refine jnk (jo ?_)
        have e5 : ∀ x : Int32, (sF (sF V 13 5 x) 13 4 ((sF V 13 5 x).1 13 4 + 1)).1 13 4 = iz ((tpl tp n q + 1 : Nat) : Int) := fun x => by
          rw [gF_F, if_pos ⟨rfl, rfl⟩, gF_F, if_neg (by omega), e4, z_1, iz_add]; rfl
        refine ⟨?_, e5 _, ?_, fun y => ?_⟩
        · rw [gF_F, if_neg (by omega), gF_F, if_neg (by omega)]; exact e3
        · rw [gF_F, if_neg (by omega), gF_F, if_pos ⟨rfl, rfl⟩]
          by_cases h6 : tp (tpl tp n q) = 59
          · rw [if_pos h6, if_pos (by omega)]; rfl
          · rw [if_neg h6, if_neg (by omega)]; rfl
        · exfalso
          by_cases h6 : tp (tpl tp n q) = 59
          · rw [if_pos h6] at y; omega
          · rw [if_neg h6] at y; omega
      · have k3 : tD tp n (tpl tp n q) = true := tD_t.2 (by omega)
        simp only [if_pos k3]
        obtain ⟨ok, x1, x2, x3, x4⟩ := s_figs (U := V) tb.2.1 hV e3 e4
        exact ⟨ok, x1, x2, x3, fun _ => x4⟩
    · have k2 : tL tp n (tpl tp n q) = true := tL_t.2 (by omega)
      simp only [if_pos k2]
      refine l_adv115 (p0 := tpl tp n q) tb.2.1 (fun Z hZ z3 z4 => ?_) hV e4
      refine ⟨?_, ?_, ?_, fun y => absurd y (by decide)⟩
      · rw [gF_F, if_neg (by omega), z3]; exact e3
      · rw [gF_F, if_neg (by omega)]; exact z4
      · rw [gF_F, if_pos ⟨rfl, rfl⟩]; rfl
  · have k1 : n ≤ tpl tp n q := by omega
    simp only [if_pos k1]
    refine ⟨?_, ?_, ?_, fun y => absurd y (by decide)⟩
    · rw [gF_F, if_neg (by omega)]; exact e3
    · rw [gF_F, if_neg (by omega)]; exact e4
    · rw [gF_F, if_pos ⟨rfl, rfl⟩]; rfl
end TOK
