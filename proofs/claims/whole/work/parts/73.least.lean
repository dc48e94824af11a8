/-! ===== the pairs least and begins ===== -/
def GV (T : St) (g : Prop) (t : Int) (C : (Nat → Nat) → Int32 → Prop) (v : Int32) : Prop := (¬ ((1 ≤ t ∧ t ≤ 60) ∧ g) → v = -1000001) ∧ ((1 ≤ t ∧ t ≤ 60) ∧ g → T.1 571 7 = 0 → v = -1000002) ∧ ((1 ≤ t ∧ t ≤ 60) ∧ g → ¬ T.1 571 7 = 0 → (SK0 (nB T) t = none → v = -1000000) ∧ ∀ c, SK0 (nB T) t = some c → C c v)
theorem GV_u {T : St} {g : Prop} {t : Int} {C : (Nat → Nat) → Int32 → Prop} {v w : Int32} (hu : g → ¬ T.1 571 7 = 0 → ∀ c v w, C c v → C c w → v = w) (h1 : GV T g t C v) (h2 : GV T g t C w) : v = w := by
  by_cases q : (1 ≤ t ∧ t ≤ 60) ∧ g
  · by_cases q7 : T.1 571 7 = 0
    · rw [h1.2.1 q q7, h2.2.1 q q7]
    · obtain ⟨a1, a2⟩ := h1.2.2 q q7
      obtain ⟨b1, b2⟩ := h2.2.2 q q7
      cases hS : SK0 (nB T) t with
      | none => rw [a1 hS, b1 hS]
      | some c => exact hu q.2 q7 c v w (a2 c hS) (b2 c hS)
  · rw [h1.1 q, h2.1 q]
theorem GV_1 {T : St} {g : Prop} {t : Int} {C : (Nat → Nat) → Int32 → Prop} (h : ¬ ((1 ≤ t ∧ t ≤ 60) ∧ g)) : GV T g t C (-1000001) := ⟨fun _ => rfl, fun z => absurd z h, fun z => absurd z h⟩
theorem GV_2 {T : St} {g : Prop} {t : Int} {C : (Nat → Nat) → Int32 → Prop} (h : (1 ≤ t ∧ t ≤ 60) ∧ g) (h7 : T.1 571 7 = 0) : GV T g t C (-1000002) := ⟨fun z => absurd h z, fun _ _ => rfl, fun _ z => absurd h7 z⟩
theorem GV_3 {T : St} {g : Prop} {t : Int} {C : (Nat → Nat) → Int32 → Prop} {v : Int32} (h : (1 ≤ t ∧ t ≤ 60) ∧ g) (h7 : ¬ T.1 571 7 = 0) (hn : SK0 (nB T) t = none → v = -1000000) (hc : ∀ c, SK0 (nB T) t = some c → C c v) : GV T g t C v := ⟨fun z => absurd h z, fun _ z => absurd z h7, fun _ _ => ⟨hn, hc⟩⟩
theorem GV_cg {T U : St} {g : Prop} {t : Int} {C : (Nat → Nat) → Int32 → Prop} {v : Int32} (e7 : U.1 571 7 = T.1 571 7) (eB : nB U = nB T) (h : GV U g t C v) : GV T g t C v := by
  unfold GV at h ⊢
  rw [e7, eB] at h
  exact h
def LC (B : Nat → Int) (D : Nat) (k : Int) (c : Nat → Nat) (v : Int32) : Prop := (k = -1 → v = iz (csm B D 8 c)) ∧ (¬ k = -1 → (sn D 8 : Int) ≤ k → v = -1000000) ∧ ∀ d, d < 8 → D.testBit d = true → k = (sn D d : Int) → v = iz (c d)
def BC (B : Nat → Int) (D : Nat) (t k : Int) (c : Nat → Nat) (v : Int32) : Prop := ((ps B D 8 : Int) ≤ k → v = -1000000) ∧ ∀ d, d < 8 → D.testBit d = true → ∀ j, j < nO B d → k = ((ps B D d + j : Nat) : Int) → v = iz (bg B t d (c d) j)
theorem LC_u {B : Nat → Int} {D : Nat} {k : Int} {c : Nat → Nat} {v w : Int32} (hk : -1 ≤ k) (h1 : LC B D k c v) (h2 : LC B D k c w) : v = w := by
  by_cases q : k = -1
  · rw [h1.1 q, h2.1 q]
  · by_cases q2 : (sn D 8 : Int) ≤ k
    · rw [h1.2.1 q q2, h2.2.1 q q2]
    · obtain ⟨d, y1, y2, y3⟩ := sn_ex (D := D) (a := k.toNat) 8 (by omega)
      rw [h1.2.2 d y1 y2 (by omega), h2.2.2 d y1 y2 (by omega)]
theorem BC_u {B : Nat → Int} {D : Nat} {t k : Int} {c : Nat → Nat} {v w : Int32} (hk : 0 ≤ k) (h1 : BC B D t k c v) (h2 : BC B D t k c w) : v = w := by
  by_cases q2 : (ps B D 8 : Int) ≤ k
  · rw [h1.1 q2, h2.1 q2]
  · obtain ⟨d, j, y1, y2, y3, y4⟩ := ps_ex (B := B) (D := D) (j := k.toNat) 8 (by omega)
    rw [h1.2 d y1 y2 j y3 (by omega), h2.2 d y1 y2 j y3 (by omega)]
def GX (T : St) (g : Prop) (t : Int) (C : (Nat → Nat) → Int32 → Prop) (r : Int32 × St) : Prop := GV T g t C r.1 ∧ Inv r.2 ∧ nB r.2 = nB T ∧ r.2.1 571 7 = T.1 571 7
theorem lx_least {T : St} {t k : Int} (hI : Inv T) (htr : -2147483648 ≤ t ∧ t < 2147483648) (hkr : -2147483648 ≤ k ∧ k < 2147483648) : ok_x_least T (iz t) (iz k) ∧ GX T (-1 ≤ k) t (LC (nB T) (nB T 202).toNat k) (x_x_least T (iz t) (iz k)) := by
  refine so_x_least (Q := GX T (-1 ≤ k) t (LC (nB T) (nB T 202).toNat k)) _ _ ?_
  unfold wp_x_least
  refine jo ?_
  try dsimp only
  obtain ⟨o0, r0, _⟩ := x_ref hI 0
  obtain ⟨o1, _, r1, r2⟩ := x_ref hI 1
  have no : ¬ ((1 ≤ t ∧ t ≤ 60) ∧ -1 ≤ k) → ∀ P : Prop, ok_x_refusal T 0 ∧ ((x_x_refusal T 0 = 0 → P) ∧ (¬ x_x_refusal T 0 = 0 → GX T (-1 ≤ k) t (LC (nB T) (nB T 202).toNat k) (x_x_refusal T 0, T))) := fun q P => ⟨o0, fun z => absurd z (by rw [r0 rfl]; decide), fun _ => by rw [r0 rfl]; exact ⟨GV_1 q, hI, rfl, rfl⟩⟩
  rw [x_time htr, show (-1 : Int32) = iz (-1) from rfl, iz_lt (by omega)]
  refine ⟨fun q => no (by omega) _, fun q => ⟨fun q2 => no (by omega) _, fun q2 => ⟨o1, fun z => ?_, fun z => ?_⟩⟩⟩
  · have h7 : ¬ T.1 571 7 = 0 := fun y => by rw [r1 (by decide) y] at z; exact absurd z (by decide)
    have hg : (1 ≤ t ∧ t ≤ 60) ∧ -1 ≤ k := by omega
    obtain ⟨n, rfl⟩ : ∃ n : Nat, t = n := ⟨t.toNat, by omega⟩
    obtain ⟨hW, hX, hK, hM, h46⟩ := I_there hI h7
    obtain ⟨D, d1, d2, d3, d4⟩ := WF_D hW
    obtain ⟨ok, f1, f2, f3⟩ := s_fplan (t := n) hI h7 (by omega)
    obtain ⟨i1, i2, i3⟩ := I_fplan (t := n) hI h7 (by omega)
    refine ⟨ok, fun y => ⟨GV_3 hg h7 (fun _ => rfl) (fun c hc => ?_), i1, i2, i3⟩, fun y => ?_⟩
    · rw [(f3 c hc).1] at y; exact absurd y (by decide)
    cases hS : SK0 (nB T) n with
    | none => exact absurd (f2 hS) y
    | some c =>
      obtain ⟨_, g1, g2, g3, g4⟩ := f3 c hS
      rw [d2] at g1 g2 g3 g4 ⊢
      have fin : ∀ v, LC (nB T) D k c v → GX T (-1 ≤ k) n (LC (nB T) D k) (v, (x_x_findsPlan T (iz n)).2) := fun v hv => ⟨GV_3 hg h7 (fun hn => by rw [hS] at hn; cases hn) (fun c' hc => by rw [hS] at hc; injection hc with hc; subst hc; exact hv), i1, i2, i3⟩
      rw [iz_eq (by omega), g2.1, iz_le (by omega)]
      refine ⟨fun w => fin _ ⟨fun _ => g1, fun x => absurd w x, fun d _ _ x => by omega⟩, fun w => ⟨fun w2 => fin _ ⟨fun x => absurd x w, fun _ _ => rfl, fun d hd hm x => ?_⟩, fun w2 => ?_⟩⟩
      · have := sn_lt (D := D) (e := 8) hm hd; omega
      · obtain ⟨d, y1, y2, y3⟩ := sn_ex (D := D) (a := k.toNat) 8 (by omega)
        have hk : k = (sn D d : Int) := by omega
        subst hk
        rw [ix_nat (by omega)]
        refine ⟨in_nat (by omega) (by omega), fin _ ⟨fun x => by omega, fun _ x => absurd x w2, fun e he hm x => ?_⟩⟩
        have : e = d := sn_in hm y2 (by omega)
        rw [this]; exact g4 d y1 y2
  · have h7 : T.1 571 7 = 0 := Classical.byContradiction fun y => z (r2 (by decide) y)
    rw [r1 (by decide) h7]
    exact ⟨GV_2 (by omega) h7, hI, rfl, rfl⟩
theorem lm_least {T U : St} {t k : Int} (x2 : Inv U) (x3 : nB U = nB T) (x4 : U.1 571 7 = T.1 571 7) (htr : -2147483648 ≤ t ∧ t < 2147483648) (hkr : -2147483648 ≤ k ∧ k < 2147483648) : ok_m_least U (iz t) (iz k) ∧ (fun r : Int32 × St => GV T (-1 ≤ k) t (LC (nB T) (nB T 202).toNat k) r.1 ∧ Inv r.2) (x_m_least U (iz t) (iz k)) := by
  refine so_m_least (Q := fun r : Int32 × St => GV T (-1 ≤ k) t (LC (nB T) (nB T 202).toNat k) r.1 ∧ Inv r.2) _ _ ?_
  have tt := Inv_t 0 x2
  have e7' : (sF U 571 0 0).1 571 7 = T.1 571 7 := by rw [gF_F, if_neg (by omega)]; exact x4
  have eB' : nB (sF U 571 0 0) = nB T := x3
  unfold wp_m_least
  rw [m_by htr, e7', show (-1 : Int32) = iz (-1) from rfl, iz_le (by omega)]
  generalize sF U 571 0 0 = V at *
  refine ⟨fun c1 => ⟨GV_1 (by omega), tt⟩, fun c1 => ⟨fun c2 => ⟨fun c7 => ⟨GV_2 (by omega) c7, tt⟩, fun c7 => ?_⟩, fun c2 => ⟨GV_1 (by omega), tt⟩⟩⟩
  have hg : (1 ≤ t ∧ t ≤ 60) ∧ -1 ≤ k := by omega
  obtain ⟨n, rfl⟩ : ∃ n : Nat, t = n := ⟨t.toNat, by omega⟩
  obtain ⟨ok, ⟨q1, q2, q3, q4, q5⟩, i1, i2, i3⟩ := I_know (t := n) tt (by rw [e7']; exact c7) (by omega)
  obtain ⟨hW, _, _, _, _⟩ := I_there tt (by rw [e7']; exact c7)
  rw [eB'] at q1 q4 q5 hW
  obtain ⟨D, d1, d2, d3, d4⟩ := WF_D hW
  refine ⟨ok, fun y => ⟨GV_3 hg c7 (fun _ => rfl) (fun c hc => ?_), i1⟩, fun y => ?_⟩
  · rw [(q5 c hc).1] at y; exact absurd y (by decide)
  cases hS : SK0 (nB T) n with
  | none => exact absurd (q4 hS) y
  | some c =>
    obtain ⟨_, g1, _, g3⟩ := q5 c hS
    rw [d2] at g1 g3 ⊢
    have fin : ∀ v, LC (nB T) D k c v → (fun r : Int32 × St => GV T (-1 ≤ k) n (LC (nB T) D k) r.1 ∧ Inv r.2) (v, (x_m_know V (iz n)).2) := fun v hv => ⟨GV_3 hg c7 (fun hn => by rw [hS] at hn; cases hn) (fun c' hc => by rw [hS] at hc; injection hc with hc; subst hc; exact hv), i1⟩
    have h256 := D_256 hW d3
    obtain ⟨ob, eb⟩ := s_bits (T := (x_m_know V (iz n)).2) h256
    rw [show (202 : Int32).toNatClampNeg = 202 from rfl, q1 202 (by omega), d1, eb, ← sn_8, iz_eq (by omega), iz_le (by omega)]
    refine ⟨fun w => fin _ ⟨fun _ => g1, fun x => absurd w x, fun d _ _ x => by omega⟩, fun w => ⟨ob, fun w2 => fin _ ⟨fun x => absurd x w, fun _ _ => rfl, fun d hd hm x => ?_⟩, fun w2 => ?_⟩⟩
    · have := sn_lt (D := D) (e := 8) hm hd; omega
    · obtain ⟨d, y1, y2, y3⟩ := sn_ex (D := D) (a := k.toNat) 8 (by omega)
      have hk : k = (sn D d : Int) := by omega
      subst hk
      rw [ix_nat (by omega)]
      refine ⟨in_nat (by omega) (by omega), fin _ ⟨fun x => by omega, fun _ x => absurd x w2, fun e he hm x => ?_⟩⟩
      have : e = d := sn_in hm y2 (by omega)
      rw [this]; exact (g3 d y1 y2).1
theorem i_least : P_least Inv := by
  intro T hI p0 p1
  obtain ⟨t, htr, rfl⟩ := iz_ex p0
  obtain ⟨k, hkr, rfl⟩ := iz_ex p1
  have xs := lx_least hI htr hkr
  have ms := lm_least xs.2.2.1 xs.2.2.2.1 xs.2.2.2.2 htr hkr
  have x1 : GV T (-1 ≤ k) t (LC (nB T) (nB T 202).toNat k) (x_x_least T (iz t) (iz k)).1 := xs.2.1
  have m1 : GV T (-1 ≤ k) t (LC (nB T) (nB T 202).toNat k) (x_m_least (x_x_least T (iz t) (iz k)).2 (iz t) (iz k)).1 := ms.2.1
  have m2 : Inv (x_m_least (x_x_least T (iz t) (iz k)).2 (iz t) (iz k)).2 := ms.2.2
  have hu : ∀ v w, GV T (-1 ≤ k) t (LC (nB T) (nB T 202).toNat k) v → GV T (-1 ≤ k) t (LC (nB T) (nB T 202).toNat k) w → v = w := fun v w a b => GV_u (g := -1 ≤ k) (C := LC (nB T) (nB T 202).toNat k) (fun hg _ c v w h1 h2 => LC_u hg h1 h2) a b
  exact ⟨xs.1, ms.1, hu _ _ x1 m1, m2⟩
