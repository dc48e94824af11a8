/-! ===== rows taken over; bears and slack ===== -/
def lnr (i : Nat) : Nat := if i ≤ 2 then 4 else 12
def TkR (T : St) (a p n : Nat) (G : Nat → Prop) (U : St) : Prop := (∀ y z, (y ≤ a ∨ a + n < y) → U.2.2.1 y z = T.2.2.1 y z) ∧ (∀ i, 1 ≤ i → i ≤ n → ∀ j, j < lnr i → U.2.2.1 (a + i) j = T.2.2.1 (p + i) j) ∧ (∀ y z, y ≠ a → U.1 y z = T.1 y z) ∧ ∀ k, G k → U.1 a k = T.1 p k
theorem tr_0 {T : St} {a p : Nat} : TkR T a p 0 (fun _ => False) T := ⟨fun _ _ _ => rfl, fun i h1 h2 => by omega, fun _ _ _ => rfl, fun _ h => h.elim⟩
theorem tr_a {T U : St} {a p n : Nat} {G : Nat → Prop} {z L : Int32} (h : TkR T a p n G U) (hp : p + 6 < a ∨ a + 6 < p) (hn : n < 6) (hz : z.toNatClampNeg = 0) (hL : L.toNatClampNeg = lnr (n + 1)) : TkR T a p (n + 1) G (sAr U (a + (n + 1)) (va_cpy (U.2.2.1 (p + (n + 1))) (U.2.2.1 (a + (n + 1))) z.toNatClampNeg z.toNatClampNeg L.toNatClampNeg)) := by
  obtain ⟨h1, h2, h3, h4⟩ := h
  rw [hz, hL]
  refine ⟨fun y w hy => ?_, fun i i1 i2 j hj => ?_, h3, h4⟩
  · rw [gAr_A, if_neg (by omega)]; exact h1 y w (by omega)
  · rw [gAr_A]
    by_cases e : i = n + 1
    · subst e
      rw [if_pos rfl]
      unfold va_cpy
      rw [if_pos (by omega), Nat.zero_add, Nat.sub_zero]
      exact h1 _ _ (by omega)
    · rw [if_neg (by omega)]; exact h2 i i1 (by omega) j hj
theorem tr_f {T U : St} {a p n k : Nat} {G : Nat → Prop} (h : TkR T a p n G U) (hp : p + 6 < a ∨ a + 6 < p) : TkR T a p n (fun y => G y ∨ y = k) (sF U a k (U.1 p k)) := by
  obtain ⟨h1, h2, h3, h4⟩ := h
  refine ⟨h1, h2, fun y z hy => ?_, fun y hy => ?_⟩
  · rw [gF_F, if_neg (by omega)]; exact h3 y z hy
  · rw [gF_F]
    by_cases e : y = k
    · rw [if_pos ⟨rfl, e⟩, e]; exact h3 p k (by omega)
    · rw [if_neg (by omega)]; exact h4 y (by rcases hy with q | q; exact q; exact absurd q e)
theorem cp_12 : cpok 0 0 12 12 12 := ⟨by decide, by decide, by decide, by decide, by decide⟩
theorem s_rtake {T : St} {a p : Nat} (ha : sh a = .inr 7) (hp : sh p = .inr 7) (hpa : p + 6 < a ∨ a + 6 < p) : ok_ro_take T a p ∧ TkR T a p 6 (fun y => y = 0 ∨ y = 1) (x_ro_take T a p) := by
  refine so_ro_take (Q := TkR T a p 6 (fun y => y = 0 ∨ y = 1)) _ _ ?_
  unfold wp_ro_take
  refine ⟨hp, ha, cp_4, jg (tr_a (n := 0) (z := 0) (L := 4) (tr_f (k := 1) (tr_f (k := 0) tr_0 hpa) hpa) hpa (by omega) rfl rfl) (fun T1 h1 => jg (tr_a (n := 1) (z := 0) (L := 4) h1 hpa (by omega) rfl rfl) (fun T2 h2 => ⟨cp_12, jg (tr_a (n := 2) (z := 0) (L := 12) h2 hpa (by omega) rfl rfl) (fun T3 h3 => jg (tr_a (n := 3) (z := 0) (L := 12) h3 hpa (by omega) rfl rfl) (fun T4 h4 => jg (tr_a (n := 4) (z := 0) (L := 12) h4 hpa (by omega) rfl rfl) (fun T5 h5 => ?_)))⟩))⟩
  obtain ⟨a1, a2, a3, a4⟩ := tr_a (n := 5) (z := 0) (L := 12) h5 hpa (by omega) rfl rfl
  exact ⟨a1, a2, a3, fun k hk => a4 k (by rcases hk with q | q; exact Or.inl (Or.inr q); exact Or.inr q)⟩
theorem RwX_of {T : St} {r : Nat} {B : Nat → Int} {D : Nat} {b : Nat → Nat → Int} (hX : RowX T r B D) (hB : RowB T r B D b) : RwX T r B D b (lgs B) := by
  refine ⟨hX.1, hX.2.1, fun d hd hm => (hX.2.2 d hd hm).1, fun i d k h => ?_⟩
  obtain ⟨h1, h2, h3, rfl⟩ := h
  obtain ⟨a1, a2, a3⟩ := (hX.2.2 d h1 h2).2 k h3
  exact ⟨a1, a2, hB d h1 h2 k h3, a3⟩
theorem RwX_tk {T U : St} {a p : Nat} {B : Nat → Int} {D : Nat} {b l : Nat → Nat → Int} (hn : sn D 8 ≤ 4) (h12 : ps B D 8 ≤ 12) (h : RwX T p B D b l) (ht : TkR T a p 6 (fun y => y = 0 ∨ y = 1) U) : RwX U a B D b l := by
  obtain ⟨h1, h2, h3, h4⟩ := h
  obtain ⟨t1, t2, t3, t4⟩ := ht
  refine ⟨by rw [t4 0 (Or.inl rfl)]; exact h1, by rw [t4 1 (Or.inr rfl)]; exact h2, fun d hd hm => ?_, fun i d k ha => ?_⟩
  · have := sn_lt (D := D) (e := 8) hm hd
    rw [t2 1 (by omega) (by omega) _ (show sn D d < 4 by omega)]; exact h3 d hd hm
  · have := At_lt ha
    rw [t2 3 (by omega) (by omega) _ (show i < 12 by omega), t2 4 (by omega) (by omega) _ (show i < 12 by omega), t2 5 (by omega) (by omega) _ (show i < 12 by omega), t2 6 (by omega) (by omega) _ (show i < 12 by omega)]
    exact h4 i d k ha
def up2 (f : Nat → Nat → Int) (d k : Nat) (v : Int) : Nat → Nat → Int := fun e j => if e = d ∧ j = k then v else f e j
theorem up2_s {f : Nat → Nat → Int} {d k : Nat} {v : Int} : up2 f d k v d k = v := if_pos ⟨rfl, rfl⟩
theorem up2_n {f : Nat → Nat → Int} {d k e j : Nat} {v : Int} (h : ¬ (e = d ∧ j = k)) : up2 f d k v e j = f e j := if_neg h
theorem At_i {B : Nat → Int} {D i j d k e l : Nat} (h : At B D i d k) (h2 : At B D j e l) : (e = d ∧ l = k) ↔ j = i := by
  constructor
  · rintro ⟨rfl, rfl⟩; rw [h.2.2.2, h2.2.2.2]
  · rintro rfl; obtain ⟨a, b⟩ := At_u h h2; exact ⟨a.symm, b.symm⟩
-- one begin or one length of a row another
theorem RwX_b {T : St} {r : Nat} {B : Nat → Int} {D : Nat} {b l : Nat → Nat → Int} {i d k : Nat} {v : Int} (h : RwX T r B D b l) (ha : At B D i d k) : RwX (sA T (r + 5) i (iz v)) r B D (up2 b d k v) l := by
  obtain ⟨h1, h2, h3, h4⟩ := h
  refine ⟨h1, h2, fun e he hm => by rw [gA_A, if_neg (by omega)]; exact h3 e he hm, fun j e m hj => ?_⟩
  obtain ⟨a1, a2, a3, a4⟩ := h4 j e m hj
  rw [gA_A, if_neg (by omega), gA_A, if_neg (by omega), gA_A, gA_A, if_neg (show ¬ (r + 6 = r + 5 ∧ j = i) by omega)]
  refine ⟨a1, a2, ?_, a4⟩
  by_cases q : j = i
  · rw [if_pos ⟨rfl, q⟩]
    obtain ⟨q1, q2⟩ := (At_i ha hj).2 q
    rw [q1, q2, up2_s]
  · rw [if_neg (fun y => q y.2), up2_n (fun y => q ((At_i ha hj).1 y))]; exact a3
theorem RwX_l {T : St} {r : Nat} {B : Nat → Int} {D : Nat} {b l : Nat → Nat → Int} {i d k : Nat} {v : Int} (h : RwX T r B D b l) (ha : At B D i d k) : RwX (sA T (r + 6) i (iz v)) r B D b (up2 l d k v) := by
  obtain ⟨h1, h2, h3, h4⟩ := h
  refine ⟨h1, h2, fun e he hm => by rw [gA_A, if_neg (by omega)]; exact h3 e he hm, fun j e m hj => ?_⟩
  obtain ⟨a1, a2, a3, a4⟩ := h4 j e m hj
  rw [gA_A, if_neg (by omega), gA_A, if_neg (by omega), gA_A, if_neg (by omega), gA_A]
  refine ⟨a1, a2, a3, ?_⟩
  by_cases q : j = i
  · rw [if_pos ⟨rfl, q⟩]
    obtain ⟨q1, q2⟩ := (At_i ha hj).2 q
    rw [q1, q2, up2_s]
  · rw [if_neg (fun y => q y.2), up2_n (fun y => q ((At_i ha hj).1 y))]; exact a4
theorem RwM_b {T : St} {B : Nat → Int} {D : Nat} {b l : Nat → Nat → Int} {i d k : Nat} {v : Int} (h : RwM T B D b l) (ha : At B D i d k) : RwM (sA T 595 i (iz v)) B D (up2 b d k v) l := by
  refine ⟨h.1, fun j e m hj => ?_⟩
  obtain ⟨a1, a2, a3⟩ := h.2 j e m hj
  rw [gA_A, if_neg (by omega), gA_A, gA_A, if_neg (show ¬ (596 = 595 ∧ j = i) by omega)]
  refine ⟨a1, ?_, a3⟩
  by_cases q : j = i
  · rw [if_pos ⟨rfl, q⟩]
    obtain ⟨q1, q2⟩ := (At_i ha hj).2 q
    rw [q1, q2, up2_s]
  · rw [if_neg (fun y => q y.2), up2_n (fun y => q ((At_i ha hj).1 y))]; exact a2
theorem RwM_l {T : St} {B : Nat → Int} {D : Nat} {b l : Nat → Nat → Int} {i d k : Nat} {v : Int} (h : RwM T B D b l) (ha : At B D i d k) : RwM (sA T 596 i (iz (v - lg B (nF B d + k)))) B D b (up2 l d k v) := by
  refine ⟨h.1, fun j e m hj => ?_⟩
  obtain ⟨a1, a2, a3⟩ := h.2 j e m hj
  rw [gA_A, if_neg (by omega), gA_A, if_neg (by omega), gA_A]
  refine ⟨a1, a2, ?_⟩
  by_cases q : j = i
  · rw [if_pos ⟨rfl, q⟩]
    obtain ⟨q1, q2⟩ := (At_i ha hj).2 q
    rw [q1, q2, up2_s]
  · rw [if_neg (fun y => q y.2), up2_n (fun y => q ((At_i ha hj).1 y))]; exact a3
-- the plan's row
theorem pl_rg {B : Nat → Int} {D : Nat} {t : Nat} {c : Nat → Nat} (hW : WF B) (hD2 : D < 2 ^ (B 16).toNat) (d2 : (B 202).toNat = D) (ht : 1 ≤ t ∧ t ≤ 60) (hS : SK0 B t = some c) : ∀ d k, d < 8 → D.testBit d = true → k < nO B d → (0 ≤ bg B t d (c d) k ∧ bg B t d (c d) k + lgs B d k ≤ 60) ∧ 1 ≤ lgs B d k ∧ lgs B d k ≤ 30 := by
  intro d k hd hm hk
  have hS2 := hS
  unfold SK0 at hS2
  rw [d2] at hS2
  have pl := SK_pl hS2
  have ci := SK_in hS2 d hd hm
  have hdB := mem_lt hW hD2 d hm
  have b1 := bg_in hW hdB ci (by omega) (pl.1 d hd hm).1 hk
  have ws := (wf_s hW hdB hk).2.1
  unfold lgs
  omega
theorem pl_sq {B : Nat → Int} {D : Nat} {t : Nat} {c : Nat → Nat} (hW : WF B) (hD2 : D < 2 ^ (B 16).toNat) (d2 : (B 202).toNat = D) (ht : 1 ≤ t ∧ t ≤ 60) (hS : SK0 B t = some c) : ∀ d, d < 8 → D.testBit d = true → sq B d (bg B t d (c d)) (lgs B d) := by
  intro d hd hm
  have hS2 := hS
  unfold SK0 at hS2
  rw [d2] at hS2
  exact sq_bg hW (mem_lt hW hD2 d hm) (SK_in hS2 d hd hm) (by omega) ((SK_pl hS2).1 d hd hm).1
theorem RwM_kn {S : St} {B : Nat → Int} {D : Nat} {b : Nat → Nat → Int} (h1 : S.1 571 39 = iz (ps B D 8)) (h2 : ∀ d : Nat, d < 8 → D.testBit d = true → ∀ k, k < nO B d → S.2.2.1 594 (ps B D d + k) = iz ((nF B d + k : Nat) : Int) ∧ S.2.2.1 595 (ps B D d + k) = iz (b d k) ∧ S.2.2.1 596 (ps B D d + k) = 0) : RwM S B D b (lgs B) := by
  refine ⟨h1, fun i d k h => ?_⟩
  obtain ⟨a1, a2, a3, rfl⟩ := h
  obtain ⟨y1, y2, y3⟩ := h2 d a1 a2 k a3
  refine ⟨y1, y2, ?_⟩
  rw [y3]
  unfold lgs
  rw [Int.sub_self]; rfl
def beC (B : Nat → Int) (D : Nat) (t k n : Int) (c : Nat → Nat) (v : Int32) : Prop := ((ps B D 8 : Int) ≤ k → v = -1000000) ∧ ∀ i d j, At B D i d j → k = (i : Int) → ∃ x : Int32, JV B D t (fun d => bg B t d (c d)) (up2 (lgs B) d j (lgs B d j + n)) x ∧ (x = 0 → v = 1) ∧ (¬ x = 0 → v = 0)
theorem beC_u {B : Nat → Int} {D : Nat} {t k n : Int} {c : Nat → Nat} {v w : Int32} (hk : 0 ≤ k) (h1 : beC B D t k n c v) (h2 : beC B D t k n c w) : v = w := by
  by_cases q2 : (ps B D 8 : Int) ≤ k
  · rw [h1.1 q2, h2.1 q2]
  · obtain ⟨d, j, ha⟩ := At_ex (B := B) (D := D) (i := k.toNat) (by omega)
    obtain ⟨x, a1, a2, a3⟩ := h1.2 _ d j ha (by omega)
    obtain ⟨y, b1, b2, b3⟩ := h2.2 _ d j ha (by omega)
    have e := JV_u a1 b1
    subst e
    by_cases z : x = 0
    · rw [a2 z, b2 z]
    · rw [a3 z, b3 z]
theorem lx_bears {T : St} {t k n : Int} (hI : Inv T) (htr : -2147483648 ≤ t ∧ t < 2147483648) (hkr : -2147483648 ≤ k ∧ k < 2147483648) (hnr : -2147483648 ≤ n ∧ n < 2147483648) : ok_x_bears T (iz t) (iz k) (iz n) ∧ GX T (0 ≤ k ∧ 1 ≤ n ∧ n ≤ 9) t (beC (nB T) (nB T 202).toNat t k n) (x_x_bears T (iz t) (iz k) (iz n)) := by
  refine so_x_bears (Q := GX T (0 ≤ k ∧ 1 ≤ n ∧ n ≤ 9) t (beC (nB T) (nB T 202).toNat t k n)) _ _ _ ?_
  unfold wp_x_bears
  refine jo ?_
  try dsimp only
  obtain ⟨o0, r0, _⟩ := x_ref hI 0
  obtain ⟨o1, _, r1, r2⟩ := x_ref hI 1
  have no : ¬ ((1 ≤ t ∧ t ≤ 60) ∧ 0 ≤ k ∧ 1 ≤ n ∧ n ≤ 9) → ∀ P : Prop, ok_x_refusal T 0 ∧ ((x_x_refusal T 0 = 0 → P) ∧ (¬ x_x_refusal T 0 = 0 → GX T (0 ≤ k ∧ 1 ≤ n ∧ n ≤ 9) t (beC (nB T) (nB T 202).toNat t k n) (x_x_refusal T 0, T))) := fun q P => ⟨o0, fun z => absurd z (by rw [r0 rfl]; decide), fun _ => by rw [r0 rfl]; exact ⟨GV_1 q, hI, rfl, rfl⟩⟩
  have e1 : (iz n < 1) ↔ n < 1 := by rw [z_1, iz_lt (by omega)]
  have e9 : ((9 : Int32) < iz n) ↔ 9 < n := by rw [z_9, iz_lt (by omega)]
  rw [x_time htr, lt0 (by omega), e1, e9]
  refine ⟨fun q => no (by omega) _, fun q => ⟨fun q2 => no (by omega) _, fun q2 => ⟨fun q3 => no (by omega) _, fun q3 => ⟨fun q4 => no (by omega) _, fun q4 => ⟨o1, fun z => ?_, fun z => ?_⟩⟩⟩⟩⟩
  · have h7 : ¬ T.1 571 7 = 0 := fun y => by rw [r1 (by decide) y] at z; exact absurd z (by decide)
    have hg : (1 ≤ t ∧ t ≤ 60) ∧ 0 ≤ k ∧ 1 ≤ n ∧ n ≤ 9 := by omega
    obtain ⟨tt, rfl⟩ : ∃ n : Nat, t = n := ⟨t.toNat, by omega⟩
    obtain ⟨hW, hX, hK, hM, h46⟩ := I_there hI h7
    obtain ⟨D, d1, d2, d3, d4⟩ := WF_D hW
    have p12 := ps_3 hW d3 8
    have h12 : ps (nB T) D 8 ≤ 12 := by omega
    obtain ⟨ok, f1, f2, f3⟩ := s_fplan (t := tt) hI h7 (by omega)
    obtain ⟨i1, i2, i3⟩ := I_fplan (t := tt) hI h7 (by omega)
    refine ⟨ok, fun y => ⟨GV_3 hg h7 (fun _ => rfl) (fun c hc => ?_), i1, i2, i3⟩, fun y => ?_⟩
    · rw [(f3 c hc).1] at y; exact absurd y (by decide)
    cases hS : SK0 (nB T) tt with
    | none => exact absurd (f2 hS) y
    | some c =>
      obtain ⟨_, _, g2, g3, _⟩ := f3 c hS
      rw [d2] at g2 g3 ⊢
      have prg := pl_rg hW d3 d2 (by omega) hS
      have i7 : ¬ (x_x_findsPlan T (iz tt)).2.1 571 7 = 0 := by rw [i3]; exact h7
      obtain ⟨_, hX1, hK1, _, h461⟩ := I_there i1 i7
      rw [i2] at hX1 hK1
      generalize (x_x_findsPlan T (iz tt)).2 = S at *
      obtain ⟨hb, hb2⟩ := b_46 h461
      have fin : ∀ v U, Inv U → nB U = nB T → U.1 571 7 = T.1 571 7 → beC (nB T) D tt k n c v → GX T (0 ≤ k ∧ 1 ≤ n ∧ n ≤ 9) tt (beC (nB T) D tt k n) (v, U) := fun v U a1 a2 a3 hv => ⟨GV_3 hg h7 (fun hn => by rw [hS] at hn; cases hn) (fun c' hc => by rw [hS] at hc; injection hc with hc; subst hc; exact hv), a1, a2, a3⟩
      rw [g2.2.1, iz_lt (by omega)]
      refine ⟨fun w => ?_, fun w => fin _ _ i1 i2 i3 ⟨fun _ => rfl, fun i d j ha e => by have := At_lt ha; omega⟩⟩
      obtain ⟨i, rfl⟩ : ∃ i : Nat, k = i := ⟨k.toNat, by omega⟩
      obtain ⟨d, j, ha⟩ := At_ex (B := nB T) (D := D) (i := i) (by omega)
      obtain ⟨ot, tk⟩ := s_rtake (T := S) (a := 564) (p := 557) (by decide) (by decide) (by omega)
      have frt : Fr _ S _ := fr_ro_take _ _ ot
      have rx1 : RwX (x_ro_take S 564 557) 564 (nB T) D (fun d => bg (nB T) tt d (c d)) (lgs (nB T)) := RwX_tk d4.2 h12 (RwX_of g2 g3) tk
      refine ⟨ot, in_nat (by omega) (by omega), jo ?_⟩
      generalize x_ro_take S 564 557 = S2 at *
      have el : S2.2.2.1 570 i = iz (lgs (nB T) d j) := (rx1.2.2.2 i d j ha).2.2.2
      have rx2 : RwX (sA S2 570 i (iz (lgs (nB T) d j + n))) 564 (nB T) D (fun d => bg (nB T) tt d (c d)) (up2 (lgs (nB T)) d j (lgs (nB T) d j + n)) := RwX_l rx1 ha
      rw [ix_nat (k := i) (by omega), el, iz_add]
      have fr3 : Fr (fun c => W_ro_take S 564 557 c ∨ c = 570) S (sA S2 570 i (iz (lgs (nB T) d j + n))) := fr_ww frt fr_1A
      have e0 : (sA S2 570 i (iz (lgs (nB T) d j + n))).2.1 0 = S.2.1 0 := q_R fr3 (by unfold W_ro_take; omega)
      rw [e0]
      have hP3 : BkP (sA S2 570 i (iz (lgs (nB T) d j + n))) (S.2.1 0) (nB T) := BkP_fr (BkP_X hX1) (q_F fr3 (by unfold W_ro_take; omega)) (fun y z h1 h2 => q_A fr3 (by unfold W_ro_take; omega))
      have hK3 : KitX (sA S2 570 i (iz (lgs (nB T) d j + n))) 76 (nB T) (nB T 5) (nB T 203) := KitX_fr fr3 (by unfold W_ro_take; omega) hK1
      generalize sA S2 570 i (iz (lgs (nB T) d j + n)) = S3 at *
      have hgr : rgR (nB T) D (fun d => bg (nB T) tt d (c d)) (up2 (lgs (nB T)) d j (lgs (nB T) d j + n)) := fun e m he hm hl => by
        have p := prg e m he hm hl
        have p' := prg d j ha.1 ha.2.1 ha.2.2.1
        refine ⟨by show _ ≤ bg (nB T) tt e (c e) m ∧ bg (nB T) tt e (c e) m < _; omega, ?_⟩
        by_cases q : e = d ∧ m = j
        · rw [q.1, q.2, up2_s]; omega
        · rw [up2_n q]; omega
      obtain ⟨oj, jv⟩ := s_judgedX (r := 564) (t := tt) (by decide) (by omega) hb hb2 hP3 hK3 hW d3 d4.2 (by omega) rx2 hgr
      have frj : Fr _ S3 _ := fr_jd_judged _ _ _ _ oj
      refine ⟨oj, ?_⟩
      have frA := fr_ww fr3 frj
      have j1 : Inv (x_jd_judged S3 (S.2.1 0) 76 564 (iz tt)).2 := Inv_irr frA (fun c hc => by unfold W_ro_take W_jd_judged at hc; unfold irr; omega) i1
      have j2 : nB (x_jd_judged S3 (S.2.1 0) 76 564 (iz tt)).2 = nB T := by rw [nB_fr frA (by unfold W_ro_take W_jd_judged; omega)]; exact i2
      have j3 : (x_jd_judged S3 (S.2.1 0) 76 564 (iz tt)).2.1 571 7 = T.1 571 7 := by rw [q_F frA (by unfold W_ro_take W_jd_judged; omega)]; exact i3
      generalize x_jd_judged S3 (S.2.1 0) 76 564 (iz tt) = R at *
      have mk : ∀ v : Int32, (R.1 = 0 → v = 1) → (¬ R.1 = 0 → v = 0) → beC (nB T) D tt i n c v := fun v h1 h2 => by
        refine ⟨fun y => by omega, fun i' d' j' ha' e => ?_⟩
        have : i' = i := by omega
        subst this
        obtain ⟨y1, y2⟩ := At_u ha ha'
        subst y1; subst y2
        exact ⟨R.1, jv, h1, h2⟩
      exact ⟨fun y => fin _ _ j1 j2 j3 (mk 1 (fun _ => rfl) (fun x => absurd y x)), fun y => fin _ _ j1 j2 j3 (mk 0 (fun x => absurd x y) (fun _ => rfl))⟩
  · have h7 : T.1 571 7 = 0 := Classical.byContradiction fun y => z (r2 (by decide) y)
    rw [r1 (by decide) h7]
    exact ⟨GV_2 (by omega) h7, hI, rfl, rfl⟩
theorem lm_bears {T U : St} {t k n : Int} (x2 : Inv U) (x3 : nB U = nB T) (x4 : U.1 571 7 = T.1 571 7) (htr : -2147483648 ≤ t ∧ t < 2147483648) (hkr : -2147483648 ≤ k ∧ k < 2147483648) (hnr : -2147483648 ≤ n ∧ n < 2147483648) : ok_m_bears U (iz t) (iz k) (iz n) ∧ (fun r : Int32 × St => GV T (0 ≤ k ∧ 1 ≤ n ∧ n ≤ 9) t (beC (nB T) (nB T 202).toNat t k n) r.1 ∧ Inv r.2) (x_m_bears U (iz t) (iz k) (iz n)) := by
  refine so_m_bears (Q := fun r : Int32 × St => GV T (0 ≤ k ∧ 1 ≤ n ∧ n ≤ 9) t (beC (nB T) (nB T 202).toNat t k n) r.1 ∧ Inv r.2) _ _ _ ?_
  have tt := Inv_t 0 x2
  have e7' : (sF U 571 0 0).1 571 7 = T.1 571 7 := by rw [gF_F, if_neg (by omega)]; exact x4
  have eB' : nB (sF U 571 0 0) = nB T := x3
  unfold wp_m_bears
  rw [m_by htr, e7', lt0 (by omega), lz_w hnr, y_1, y_9, m_in (by omega)]
  generalize sF U 571 0 0 = V at *
  refine ⟨fun c1 => ⟨GV_1 (by omega), tt⟩, fun c1 => ⟨fun c2 => ⟨GV_1 (by omega), tt⟩, fun c2 => ⟨fun c3 => ⟨GV_1 (by omega), tt⟩, fun c3 => ⟨fun c7 => ⟨GV_2 (by omega) c7, tt⟩, fun c7 => ?_⟩⟩⟩⟩
  have hg : (1 ≤ t ∧ t ≤ 60) ∧ 0 ≤ k ∧ 1 ≤ n ∧ n ≤ 9 := by omega
  obtain ⟨tn, rfl⟩ : ∃ n : Nat, t = n := ⟨t.toNat, by omega⟩
  obtain ⟨ok, ⟨q1, q2, q3, q4, q5⟩, i1, i2, i3⟩ := I_know (t := tn) tt (by rw [e7']; exact c7) (by omega)
  obtain ⟨hW, _, _, _, _⟩ := I_there tt (by rw [e7']; exact c7)
  rw [eB'] at q1 q4 q5 hW
  obtain ⟨D, d1, d2, d3, d4⟩ := WF_D hW
  have p12 := ps_3 hW d3 8
  refine ⟨ok, fun y => ⟨GV_3 hg c7 (fun _ => rfl) (fun c hc => ?_), i1⟩, fun y => ?_⟩
  · rw [(q5 c hc).1] at y; exact absurd y (by decide)
  cases hS : SK0 (nB T) tn with
  | none => exact absurd (q4 hS) y
  | some c =>
    obtain ⟨_, _, g1, g3⟩ := q5 c hS
    rw [d2] at g1 g3 ⊢
    have prg := pl_rg hW d3 d2 (by omega) hS
    have rm : RwM (x_m_know V (iz tn)).2 (nB T) D (fun d => bg (nB T) tn d (c d)) (lgs (nB T)) := RwM_kn g1 (fun d hd hm k hk => (g3 d hd hm).2 k hk)
    generalize (x_m_know V (iz tn)).2 = S at *
    have fin : ∀ v U', Inv U' → beC (nB T) D tn k n c v → (fun r : Int32 × St => GV T (0 ≤ k ∧ 1 ≤ n ∧ n ≤ 9) tn (beC (nB T) D tn k n) r.1 ∧ Inv r.2) (v, U') := fun v U' a1 hv => ⟨GV_3 hg c7 (fun hn => by rw [hS] at hn; cases hn) (fun c' hc => by rw [hS] at hc; injection hc with hc; subst hc; exact hv), a1⟩
    rw [g1, iz_lt (by omega)]
    refine ⟨fun w => ?_, fun w => fin _ _ i1 ⟨fun _ => rfl, fun i d j ha e => by have := At_lt ha; omega⟩⟩
    obtain ⟨i, rfl⟩ : ∃ i : Nat, k = i := ⟨k.toNat, by omega⟩
    obtain ⟨d, j, ha⟩ := At_ex (B := nB T) (D := D) (i := i) (by omega)
    have en : iz n = iz (lgs (nB T) d j + n - lg (nB T) (nF (nB T) d + j)) := iz_inj (by unfold lgs; omega)
    have rm2 : RwM (sA S 596 i (iz n)) (nB T) D (fun d => bg (nB T) tn d (c d)) (up2 (lgs (nB T)) d j (lgs (nB T) d j + n)) := by rw [en]; exact RwM_l rm ha
    rw [ix_nat (k := i) (by omega)]
    have fr3 : Fr (fun c => c = 596) S (sA S 596 i (iz n)) := fr_1A
    have hM3 : MkX (sA S 596 i (iz n)) (nB T) := MkX_fr fr3 (by omega) q1
    generalize sA S 596 i (iz n) = S3 at *
    have hgr : rgR (nB T) D (fun d => bg (nB T) tn d (c d)) (up2 (lgs (nB T)) d j (lgs (nB T) d j + n)) := fun e m he hm hl => by
      have p := prg e m he hm hl
      have p' := prg d j ha.1 ha.2.1 ha.2.2.1
      refine ⟨by show _ ≤ bg (nB T) tn e (c e) m ∧ bg (nB T) tn e (c e) m < _; omega, ?_⟩
      by_cases q : e = d ∧ m = j
      · rw [q.1, q.2, up2_s]; omega
      · rw [up2_n q]; omega
    obtain ⟨oj, jv⟩ := s_judgedM (t := tn) hM3 hW d3 d4.2 (by omega) rm2 hgr
    have frj : Fr _ S3 _ := fr_m_judged _ oj
    have frA := fr_ww fr3 frj
    have j1 : Inv (x_m_judged S3 (iz tn)).2 := Inv_irr frA (fun c hc => by unfold W_m_judged at hc; unfold irr; omega) i1
    refine ⟨in_nat (by omega) (by omega), oj, ?_⟩
    generalize x_m_judged S3 (iz tn) = R at *
    have mk : ∀ v : Int32, (R.1 = 0 → v = 1) → (¬ R.1 = 0 → v = 0) → beC (nB T) D tn i n c v := fun v h1 h2 => by
      refine ⟨fun y => by omega, fun i' d' j' ha' e => ?_⟩
      have : i' = i := by omega
      subst this
      obtain ⟨y1, y2⟩ := At_u ha ha'
      subst y1; subst y2
      exact ⟨R.1, jv, h1, h2⟩
    exact ⟨fun y => fin _ _ j1 (mk 1 (fun _ => rfl) (fun x => absurd y x)), fun y => fin _ _ j1 (mk 0 (fun x => absurd x y) (fun _ => rfl))⟩
theorem i_bears : P_bears Inv := by
  intro T hI p0 p1 p2
  obtain ⟨t, htr, rfl⟩ := iz_ex p0
  obtain ⟨k, hkr, rfl⟩ := iz_ex p1
  obtain ⟨n, hnr, rfl⟩ := iz_ex p2
  have xs := lx_bears hI htr hkr hnr
  have ms := lm_bears xs.2.2.1 xs.2.2.2.1 xs.2.2.2.2 htr hkr hnr
  have x1 : GV T (0 ≤ k ∧ 1 ≤ n ∧ n ≤ 9) t (beC (nB T) (nB T 202).toNat t k n) (x_x_bears T (iz t) (iz k) (iz n)).1 := xs.2.1
  have m1 : GV T (0 ≤ k ∧ 1 ≤ n ∧ n ≤ 9) t (beC (nB T) (nB T 202).toNat t k n) (x_m_bears (x_x_bears T (iz t) (iz k) (iz n)).2 (iz t) (iz k) (iz n)).1 := ms.2.1
  have m2 : Inv (x_m_bears (x_x_bears T (iz t) (iz k) (iz n)).2 (iz t) (iz k) (iz n)).2 := ms.2.2
  have hu : ∀ v w, GV T (0 ≤ k ∧ 1 ≤ n ∧ n ≤ 9) t (beC (nB T) (nB T 202).toNat t k n) v → GV T (0 ≤ k ∧ 1 ≤ n ∧ n ≤ 9) t (beC (nB T) (nB T 202).toNat t k n) w → v = w := fun v w a b => GV_u (g := 0 ≤ k ∧ 1 ≤ n ∧ n ≤ 9) (C := beC (nB T) (nB T 202).toNat t k n) (fun hg _ c v w h1 h2 => beC_u hg.1 h1 h2) a b
  exact ⟨xs.1, ms.1, hu _ _ x1 m1, m2⟩
