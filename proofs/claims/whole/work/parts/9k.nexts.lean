/-! ===== the tokens, as the reference reads them ===== -/
section TOM
variable {tp : Nat → Nat} {n : Nat}
def tby (tp : Nat → Nat) (n p : Nat) : Int := if p < n then (tp p : Int) else -1000000
theorem tby_b {p : Nat} (h : p < n → tp p < 256) : -1000000 ≤ tby tp n p ∧ tby tp n p < 256 := by
  unfold tby
  split
  · have := h (by omega); omega
  · omega
theorem m_byt {U : St} {p : Nat} (hU : TM tp n U) (hp : p ≤ n) : ok_m_byteAt U (iz p) ∧ x_m_byteAt U (iz p) = iz (tby tp n p) := by
  have hn := hU.1
  refine so_m_byteAt (Q := fun v => v = iz (tby tp n p)) _ ?_
  unfold wp_m_byteAt tby
  rw [hU.2.1, iz_le (by omega)]
  refine ⟨fun h => ?_, fun h => ⟨in_nat (by omega) (by omega), ?_⟩⟩
  · rw [if_neg (by omega)]; rfl
  · rw [if_pos (by omega), ix_nat (by omega)]
    exact (hU.2.2 p (by omega)).2
theorem m_isL {U : St} {z : Int} (h : -1000000 ≤ z ∧ z < 1000000) : (x_m_isLetter U (iz z) = 0) ↔ ¬ (97 ≤ z ∧ z ≤ 122) := by
  refine so_m_isLetter (Q := fun v => (v = 0) ↔ ¬ (97 ≤ z ∧ z ≤ 122)) _ ?_
  unfold wp_m_isLetter
  rw [z_97', z_122', iz_lt (by omega), iz_lt (by omega)]
  refine ⟨fun a => ⟨fun _ => by omega, fun _ => rfl⟩, fun a => ⟨fun b => ⟨fun _ => by omega, fun _ => rfl⟩, fun b => ⟨fun y => absurd y (by decide), fun y => absurd (by omega) y⟩⟩⟩
theorem m_isD {U : St} {z : Int} (h : -1000000 ≤ z ∧ z < 1000000) : (x_m_isFigure U (iz z) = 0) ↔ ¬ (48 ≤ z ∧ z ≤ 57) := by
  refine so_m_isFigure (Q := fun v => (v = 0) ↔ ¬ (48 ≤ z ∧ z ≤ 57)) _ ?_
  unfold wp_m_isFigure
  rw [z_48, z_57, iz_lt (by omega), iz_lt (by omega)]
  refine ⟨fun a => ⟨fun _ => by omega, fun _ => rfl⟩, fun a => ⟨fun b => ⟨fun _ => by omega, fun _ => rfl⟩, fun b => ⟨fun y => absurd y (by decide), fun y => absurd (by omega) y⟩⟩⟩
theorem ty_S {p : Nat} : tS tp n p = true ↔ (tby tp n p = 32 ∨ tby tp n p = 10) := by
  rw [tS_t]; unfold tby; split <;> omega
theorem ty_L {p : Nat} : tL tp n p = true ↔ (97 ≤ tby tp n p ∧ tby tp n p ≤ 122) := by
  rw [tL_t]; unfold tby; split <;> omega
theorem ty_D {p : Nat} : tD tp n p = true ↔ (48 ≤ tby tp n p ∧ tby tp n p ≤ 57) := by
  rw [tD_t]; unfold tby; split <;> omega
theorem ty_E {p : Nat} : tby tp n p = -1000000 ↔ n ≤ p := by
  unfold tby; split <;> omega
theorem TM_b {U : St} (hU : TM tp n U) (p : Nat) : -1000000 ≤ tby tp n p ∧ tby tp n p < 256 := tby_b (fun h => (hU.2.2 p h).1)
theorem l_nx0 {U : St} {q : Nat} {Kk : St → Prop} {Q : St → Prop} (hq : q ≤ n) (ex : ∀ V, TM tp n V → V.1 571 12 = iz (tpl tp n q) → Kk V) (hU : TM tp n U) (u3 : U.1 571 12 = iz q) : wp_m_next_0 Kk Q 1000 U := by
  refine wr_m_next_0 (fun V => ∃ p : Nat, q ≤ p ∧ p ≤ n ∧ V.1 571 12 = iz p ∧ TM tp n V ∧ ∀ j, q ≤ j → j < p → tS tp n j = true) (fun V => (601 - (V.1 571 12).toInt).toNat) ?_ _ _ ?_ ⟨q, by omega, hq, u3, hU, fun j a b => absurd b (by omega)⟩
  · rintro V ⟨p, p1, p2, v3, hV, v5⟩
    have hn := hV.1
    have fin : ¬ tS tp n p = true → Kk V := fun h => ex V hV (by rw [v3]; exact iz_inj (by rw [show tpl tp n q = p from (fe_eq p1 (by omega) v5 (Bool.eq_false_iff.2 h)).symm]))
    unfold bd_m_next_0
    obtain ⟨ob, eb⟩ := m_byt hV p2
    have bb := TM_b hV p
    rw [v3, eb, z_32, z_10, iz_eq (by omega), iz_eq (by omega)]
    refine ⟨ob, jk1 (fun h2 => ?_) (fun h2 h3 => fin (fun y => by have := ty_S.1 y; omega))⟩
    have hs := ty_S.2 h2
    have hp := (tS_t.1 hs).1
    refine ⟨⟨p + 1, by omega, by omega, ?_, TM_F hV (by omega), fun j j1 j2 => ?_⟩, ?_⟩
    · rw [gF_F, if_pos ⟨rfl, rfl⟩, z_1, iz_add]; rfl
    · rcases Nat.lt_or_ge j p with h5 | h5
      · exact v5 j j1 h5
      · have : j = p := by omega
        subst this
        exact hs
    · try dsimp only
      rw [gF_F, if_pos ⟨rfl, rfl⟩, z_1, iz_add, iz_t (by omega), iz_t (by omega)]; omega
  · try dsimp only
    rw [u3, iz_t (by have := hU.1; omega)]; omega
theorem l_nx77 {U : St} {p0 : Nat} {l1 : Int32} {Kk : St → Prop} {Q : St → Prop} (hq : p0 ≤ n) (ex : ∀ V, TM tp n V → V.1 571 14 = U.1 571 14 → V.1 571 12 = iz (fe (tL tp n) p0) → Kk V) (hU : TM tp n U) (u3 : U.1 571 12 = iz p0) : wp_m_next_77 l1 Kk Q 1000 U := by
  refine wr_m_next_77 l1 (fun V => ∃ p : Nat, p0 ≤ p ∧ p ≤ n ∧ V.1 571 12 = iz p ∧ TM tp n V ∧ V.1 571 14 = U.1 571 14 ∧ ∀ j, p0 ≤ j → j < p → tL tp n j = true) (fun V => (601 - (V.1 571 12).toInt).toNat) ?_ _ _ ?_ ⟨p0, by omega, hq, u3, hU, rfl, fun j a b => absurd b (by omega)⟩
  · rintro V ⟨p, p1, p2, v3, hV, v4, v5⟩
    have hn := hV.1
    have fin : ¬ tL tp n p = true → Kk V := fun h => ex V hV v4 (by rw [v3]; exact iz_inj (by rw [← fe_eq p1 (by omega) v5 (Bool.eq_false_iff.2 h)]))
    unfold bd_m_next_77
    obtain ⟨ob, eb⟩ := m_byt hV p2
    have bb := TM_b hV p
    rw [v3, eb, m_isL (by omega)]
    refine ⟨ob, fun h => fin (fun y => h (ty_L.1 y)), fun h => ?_⟩
    have hs := ty_L.2 (Classical.byContradiction h)
    have hp := (tL_t.1 hs).1
    refine ⟨⟨p + 1, by omega, by omega, ?_, TM_F hV (by omega), by rw [gF_F, if_neg (by omega)]; exact v4, fun j j1 j2 => ?_⟩, ?_⟩
    · rw [gF_F, if_pos ⟨rfl, rfl⟩, z_1, iz_add]; rfl
    · rcases Nat.lt_or_ge j p with h5 | h5
      · exact v5 j j1 h5
      · have : j = p := by omega
        subst this
        exact hs
    · try dsimp only
      rw [gF_F, if_pos ⟨rfl, rfl⟩, z_1, iz_add, iz_t (by omega), iz_t (by omega)]; omega
  · try dsimp only
    rw [u3, iz_t (by have := hU.1; omega)]; omega
theorem l_nx119 {U : St} {p0 : Nat} {l1 : Int32} {Kk : St → Prop} {Q : St → Prop} (hq : p0 ≤ n) (ex : ∀ V, TM tp n V → V.1 571 14 = U.1 571 14 → V.1 571 12 = iz (fe (tD tp n) p0) → Kk V) (hU : TM tp n U) (u3 : U.1 571 12 = iz p0) : wp_m_next_119 l1 Kk Q 1000 U := by
  refine wr_m_next_119 l1 (fun V => ∃ p : Nat, p0 ≤ p ∧ p ≤ n ∧ V.1 571 12 = iz p ∧ TM tp n V ∧ V.1 571 14 = U.1 571 14 ∧ ∀ j, p0 ≤ j → j < p → tD tp n j = true) (fun V => (601 - (V.1 571 12).toInt).toNat) ?_ _ _ ?_ ⟨p0, by omega, hq, u3, hU, rfl, fun j a b => absurd b (by omega)⟩
  · rintro V ⟨p, p1, p2, v3, hV, v4, v5⟩
    have hn := hV.1
    have fin : ¬ tD tp n p = true → Kk V := fun h => ex V hV v4 (by rw [v3]; exact iz_inj (by rw [← fe_eq p1 (by omega) v5 (Bool.eq_false_iff.2 h)]))
    unfold bd_m_next_119
    obtain ⟨ob, eb⟩ := m_byt hV p2
    have bb := TM_b hV p
    rw [v3, eb, m_isD (by omega)]
    refine ⟨ob, fun h => fin (fun y => h (ty_D.1 y)), fun h => ?_⟩
    have hs := ty_D.2 (Classical.byContradiction h)
    have hp := (tD_t.1 hs).1
    refine ⟨⟨p + 1, by omega, by omega, ?_, TM_F hV (by omega), by rw [gF_F, if_neg (by omega)]; exact v4, fun j j1 j2 => ?_⟩, ?_⟩
    · rw [gF_F, if_pos ⟨rfl, rfl⟩, z_1, iz_add]; rfl
    · rcases Nat.lt_or_ge j p with h5 | h5
      · exact v5 j j1 h5
      · have : j = p := by omega
        subst this
        exact hs
    · try dsimp only
      rw [gF_F, if_pos ⟨rfl, rfl⟩, z_1, iz_add, iz_t (by omega), iz_t (by omega)]; omega
  · try dsimp only
    rw [u3, iz_t (by have := hU.1; omega)]; omega
def tcd (s : Nat) : Int := if s = 4 then 0 else (s : Int) + 1
theorem s_next {U : St} {q : Nat} (hU : TM tp n U) (hq : q ≤ n) (u4 : U.1 571 12 = iz q) : ok_m_next U ∧ (fun V : St => V.1 571 14 = iz (tpl tp n q) ∧ V.1 571 12 = iz (tbe tp n q) ∧ V.1 571 15 = iz (tbe tp n q) ∧ V.1 571 13 = iz (tcd (tso tp n q))) (x_m_next U) := by
  refine so_m_next (Q := fun V : St => V.1 571 14 = iz (tpl tp n q) ∧ V.1 571 12 = iz (tbe tp n q) ∧ V.1 571 15 = iz (tbe tp n q) ∧ V.1 571 13 = iz (tcd (tso tp n q))) ?_
  have hn := hU.1
  have tb := t_be (tp := tp) hn hq
  unfold wp_m_next
  refine l_nx0 (q := q) hq (fun V0 hV0 v3 => ?_) hU u4
  have e4 : (sF V0 571 14 (V0.1 571 12)).1 571 14 = iz (tpl tp n q) := by rw [gF_F, if_pos ⟨rfl, rfl⟩]; exact v3
  have e3 : (sF V0 571 14 (V0.1 571 12)).1 571 12 = iz (tpl tp n q) := by rw [gF_F, if_neg (by omega)]; exact v3
  have hV : TM tp n (sF V0 571 14 (V0.1 571 12)) := TM_F hV0 (by omega)
  generalize sF V0 571 14 (V0.1 571 12) = V at *
  have kq : ∀ (Z : St) (x : Int) (e : Nat), Z.1 571 14 = iz (tpl tp n q) → Z.1 571 12 = iz e → e = tbe tp n q → x = tcd (tso tp n q) → (fun (T302 : St) => (fun V : St => V.1 571 14 = iz (tpl tp n q) ∧ V.1 571 12 = iz (tbe tp n q) ∧ V.1 571 15 = iz (tbe tp n q) ∧ V.1 571 13 = iz (tcd (tso tp n q))) (sF T302 571 15 (T302.1 571 12))) (sF Z 571 13 (iz x)) := by
    intro Z x e h1 h2 h3 h4
    subst h3 h4
    refine ⟨?_, ?_, ?_, ?_⟩
    · rw [gF_F, if_neg (by omega), gF_F, if_neg (by omega)]; exact h1
    · rw [gF_F, if_neg (by omega), gF_F, if_neg (by omega)]; exact h2
    · rw [gF_F, if_pos ⟨rfl, rfl⟩, gF_F, if_neg (by omega)]; exact h2
    · rw [gF_F, if_neg (by omega), gF_F, if_pos ⟨rfl, rfl⟩]
  obtain ⟨ob, eb⟩ := m_byt hV tb.2.1
  have bb := TM_b hV (tpl tp n q)
  rw [e3, eb]
  refine ⟨ob, jo ?_⟩
  rw [m_isL (by omega), m_isD (by omega), show (-1000000 : Int32) = iz (-1000000) from rfl, iz_eq (by omega), z_59, iz_eq (by omega)]
  unfold tbe tso at kq
  refine ⟨fun h => ?_, fun h => ⟨fun h2 => ⟨fun h3 => jo ⟨fun h4 => ?_, fun h4 => ?_⟩, fun h3 => ?_⟩, fun h2 => ?_⟩⟩
  · have k1 := ty_E.1 h
    refine kq V 1 (tpl tp n q) e4 e3 ?_ ?_
    · rw [if_pos k1]
    · rw [if_pos k1]; rfl
  · have k1 : ¬ n ≤ tpl tp n q := fun y => h (ty_E.2 y)
    have k2 : ¬ tL tp n (tpl tp n q) = true := fun y => h2 (ty_L.1 y)
    have k3 : ¬ tD tp n (tpl tp n q) = true := fun y => h3 (ty_D.1 y)
    have k4 : tp (tpl tp n q) = 59 := by unfold tby at h4; rw [if_pos (by omega)] at h4; omega
    refine kq _ 4 (tpl tp n q + 1) ?_ ?_ ?_ ?_
    · rw [gF_F, if_neg (by omega)]; exact e4
    · rw [gF_F, if_pos ⟨rfl, rfl⟩, z_1, iz_add]; rfl
    · rw [if_neg k1, if_neg k2, if_neg k3]
    · rw [if_neg k1, if_neg k2, if_neg k3, if_pos k4]; rfl
  · have k1 : ¬ n ≤ tpl tp n q := fun y => h (ty_E.2 y)
    have k2 : ¬ tL tp n (tpl tp n q) = true := fun y => h2 (ty_L.1 y)
    have k3 : ¬ tD tp n (tpl tp n q) = true := fun y => h3 (ty_D.1 y)
    have k4 : ¬ tp (tpl tp n q) = 59 := by unfold tby at h4; rw [if_pos (by omega)] at h4; omega
    refine kq _ 0 (tpl tp n q + 1) ?_ ?_ ?_ ?_
    · rw [gF_F, if_neg (by omega)]; exact e4
    · rw [gF_F, if_pos ⟨rfl, rfl⟩, z_1, iz_add]; rfl
    · rw [if_neg k1, if_neg k2, if_neg k3]
    · rw [if_neg k1, if_neg k2, if_neg k3, if_neg k4]; rfl
  · have k1 : ¬ n ≤ tpl tp n q := fun y => h (ty_E.2 y)
    have k2 : ¬ tL tp n (tpl tp n q) = true := fun y => h2 (ty_L.1 y)
    have k3 : tD tp n (tpl tp n q) = true := ty_D.2 (Classical.byContradiction h3)
    have fd := feD (tp := tp) hn tb.2.1
    refine l_nx119 (p0 := tpl tp n q) tb.2.1 (fun Z hZ z3 z4 => ?_) hV e3
    rw [z3, z4, e4, iz_sub, z_2, iz_le (by omega)]
    refine ⟨fun h5 => ?_, fun h5 => ?_⟩
    · refine kq Z 3 _ (by rw [z3]; exact e4) z4 ?_ ?_
      · rw [if_neg k1, if_neg k2, if_pos k3]
      · rw [if_neg k1, if_neg k2, if_pos k3, if_pos (by omega)]; rfl
    · refine kq Z 0 _ (by rw [z3]; exact e4) z4 ?_ ?_
      · rw [if_neg k1, if_neg k2, if_pos k3]
      · rw [if_neg k1, if_neg k2, if_pos k3, if_neg (by omega)]; rfl
  · have k1 : ¬ n ≤ tpl tp n q := fun y => h (ty_E.2 y)
    have k2 : tL tp n (tpl tp n q) = true := ty_L.2 (Classical.byContradiction h2)
    refine l_nx77 (p0 := tpl tp n q) tb.2.1 (fun Z hZ z3 z4 => ?_) hV e3
    refine kq Z 2 _ (by rw [z3]; exact e4) z4 ?_ ?_
    · rw [if_neg k1, if_pos k2]
    · rw [if_neg k1, if_pos k2]; rfl
end TOM
