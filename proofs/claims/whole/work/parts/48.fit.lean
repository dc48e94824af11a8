def GvQ (T : St) (a w : Nat) (many : Int) (U : St) : Prop := eqA T U ∧ (∀ c j, (c ≠ a + 1 ∨ j < 5 * w ∨ 5 * w + 5 ≤ j) → U.2.2.2 c j = T.2.2.2 c j) ∧ Kv U a w 5 (fun _ => many)
def LsQ (T : St) (a w : Nat) (M : Int64) (U : St) : Prop := eqA T U ∧ (∀ c j, (c ≠ a + 1 ∨ j < 5 * w ∨ 5 * w + 4 ≤ j) → U.2.2.2 c j = T.2.2.2 c j) ∧ ∀ n, 1 ≤ n → n ≤ 4 → U.2.2.2 (a + 1) (5 * w + n - 1) = T.2.2.2 (a + 1) (5 * w + n - 1) ||| (M &&& T.2.2.2 (a + 1) (5 * w + n))
def GaQ (T : St) (a : Nat) (B : Nat → Int) (h : Int) (U : St) : Prop := eqA T U ∧ (∀ c j, c ≠ a + 1 → U.2.2.2 c j = T.2.2.2 c j) ∧ Kv U a 0 5 (fun _ => B 0 + B 1) ∧ Kv U a 1 5 (fun _ => B 1) ∧ Kv U a 2 5 (fun _ => B 2) ∧ Kv U a 3 5 (fun _ => h) ∧ Kv U a 4 5 (fun _ => B 6)
section KI2
variable {T : St} {a b : Nat} {B : Nat → Int} {h o : Int}
theorem s_giveAll (ha : sh a = .inr 3) (hb : sh b = .inr 1) (hK : ∀ i, i < 7 → T.2.2.1 (b + 1) i = iz (B i)) (hW : WF B) (hh : 0 ≤ h ∧ h ≤ 3) : ok_ki_giveAll T a b (iz h) ∧ GaQ T a B h (x_ki_giveAll T a b (iz h)) := by
  refine so_ki_giveAll (Q := GaQ T a B h) _ _ _ ?_
  have k1 := hW.1
  unfold wp_ki_giveAll jn
  rw [n_0, n_1, n_2, n_6, hK 0 (by omega), hK 1 (by omega), iz_add]
  have g0 : ok_ki_give T a 0 (iz (B 0 + B 1)) ∧ GvQ T a 0 (B 0 + B 1) (x_ki_give T a 0 (iz (B 0 + B 1))) := s_give (w := 0) ha (by omega) (by omega)
  refine ⟨hb, g0.1, ha, ?_⟩
  obtain ⟨⟨p1, p2, p3⟩, p4, p5⟩ := g0.2
  generalize x_ki_give T a 0 (iz (B 0 + B 1)) = T1 at *
  try dsimp only
  rw [p3, hK 1 (by omega)]
  have g1 : ok_ki_give T1 a 1 (iz (B 1)) ∧ GvQ T1 a 1 (B 1) (x_ki_give T1 a 1 (iz (B 1))) := s_give (w := 1) ha (by omega) (by omega)
  refine ⟨g1.1, ?_⟩
  obtain ⟨⟨q1, q2, q3⟩, q4, q5⟩ := g1.2
  generalize x_ki_give T1 a 1 (iz (B 1)) = T2 at *
  rw [q3, p3, hK 2 (by omega)]
  have g2 : ok_ki_give T2 a 2 (iz (B 2)) ∧ GvQ T2 a 2 (B 2) (x_ki_give T2 a 2 (iz (B 2))) := s_give (w := 2) ha (by omega) (by omega)
  refine ⟨g2.1, ?_⟩
  obtain ⟨⟨r1, r2, r3⟩, r4, r5⟩ := g2.2
  generalize x_ki_give T2 a 2 (iz (B 2)) = T3 at *
  try dsimp only
  have g3 : ok_ki_give T3 a 3 (iz h) ∧ GvQ T3 a 3 h (x_ki_give T3 a 3 (iz h)) := s_give (w := 3) ha (by omega) (by omega)
  refine ⟨g3.1, ?_⟩
  obtain ⟨⟨s1, s2, s3⟩, s4, s5⟩ := g3.2
  generalize x_ki_give T3 a 3 (iz h) = T4 at *
  rw [s3, r3, q3, p3, hK 6 (by omega)]
  have g4 : ok_ki_give T4 a 4 (iz (B 6)) ∧ GvQ T4 a 4 (B 6) (x_ki_give T4 a 4 (iz (B 6))) := s_give (w := 4) ha (by omega) (by omega)
  refine ⟨g4.1, ?_⟩
  obtain ⟨⟨t1, t2, t3⟩, t4, t5⟩ := g4.2
  generalize x_ki_give T4 a 4 (iz (B 6)) = T5 at *
  refine ⟨⟨by rw [t1, s1, r1, q1, p1], by rw [t2, s2, r2, q2, p2], by rw [t3, s3, r3, q3, p3]⟩, fun c j hc => ?_, ?_, ?_, ?_, ?_, t5⟩
  · rw [t4 c j (by omega), s4 c j (by omega), r4 c j (by omega), q4 c j (by omega), p4 c j (by omega)]
  · exact Kv_eq p5 (by omega) fun j h1 h2 => by rw [t4 _ j (by omega), s4 _ j (by omega), r4 _ j (by omega), q4 _ j (by omega)]
  · exact Kv_eq q5 (by omega) fun j h1 h2 => by rw [t4 _ j (by omega), s4 _ j (by omega), r4 _ j (by omega)]
  · exact Kv_eq r5 (by omega) fun j h1 h2 => by rw [t4 _ j (by omega), s4 _ j (by omega)]
  · exact Kv_eq s5 (by omega) fun j h1 h2 => by rw [t4 _ j (by omega)]
theorem Kit_of (k0 : Kv T a 0 4 (gv B h o 0)) (k1 : Kv T a 1 4 (gv B h o 1)) (k2 : Kv T a 2 4 (gv B h o 2)) (k3 : Kv T a 3 4 (gv B h o 3)) (k4 : Kv T a 4 4 (gv B h o 4)) : KitX T a B h o := by
  intro w n m hw h1 h2 hm
  rcases (show w = 0 ∨ w = 1 ∨ w = 2 ∨ w = 3 ∨ w = 4 by omega) with rfl | rfl | rfl | rfl | rfl
  · exact k0 n m h1 h2 hm
  · exact k1 n m h1 h2 hm
  · exact k2 n m h1 h2 hm
  · exact k3 n m h1 h2 hm
  · exact k4 n m h1 h2 hm
theorem Kv_cg {w lv : Nat} {g g' : Nat → Int} (hk : Kv T a w lv g) {lv' : Nat} (hl : lv' ≤ lv) (hg : ∀ m n : Nat, m < 60 → 1 ≤ n → (g m < n ↔ g' m < n)) : Kv T a w lv' g' := by
  intro n m h1 h2 h3
  rw [hk n m h1 (by omega) h3, hg m n h3 h1]
-- the book without those away
def nAw (B : Nat → Int) (j : Nat) : Int := if j = 7 then 0 else B j
theorem s_giveAll2 (ha : sh a = .inr 3) (hb : sh b = .inr 1) (hK : ∀ i, i < 7 → T.2.2.1 (b + 1) i = iz (B i)) (hW : WF B) (hh : 0 ≤ h ∧ h ≤ 3) : ok_ki_giveAll T a b (iz h) ∧ eqA T (x_ki_giveAll T a b (iz h)) ∧ (∀ c j, c ≠ a + 1 → (x_ki_giveAll T a b (iz h)).2.2.2 c j = T.2.2.2 c j) ∧ KitX (x_ki_giveAll T a b (iz h)) a (nAw B) h 60 := by
  obtain ⟨o1, q1, q2, k0, k1, k2, k3, k4⟩ := s_giveAll (T := T) ha hb hK hW hh
  refine ⟨o1, q1, q2, Kit_of (Kv_cg k0 (by omega) ?_) (Kv_cg k1 (by omega) ?_) (Kv_cg k2 (by omega) ?_) (Kv_cg k3 (by omega) ?_) (Kv_cg k4 (by omega) ?_)⟩
  · intro m n hm hn
    have : gv (nAw B) h 60 0 m = B 0 + (B 1 - (if (m : Int) < 60 then 0 else 1)) := rfl
    rw [this, if_pos (by omega)]; omega
  · intro m n hm hn
    have : gv (nAw B) h 60 1 m = B 1 - (if (m : Int) < 60 then 0 else 1) := rfl
    rw [this, if_pos (by omega)]; omega
  · intro m n hm hn; exact Iff.rfl
  · intro m n hm hn
    have : gv (nAw B) h 60 3 m = (if 0 ≤ h - 0 then h - 0 else 0) := rfl
    rw [this]; split <;> omega
  · intro m n hm hn; exact Iff.rfl
theorem s_fit (ha : sh a = .inr 3) (hb : sh b = .inr 1) (hX : BkX T b B) (hW : WF B) (hh : 0 ≤ h ∧ h ≤ 3) (ho : 0 ≤ o ∧ o ≤ 60) : ok_ki_fit T a b (iz h) (iz o) ∧ (fun U => eqA T U ∧ (∀ c j, c ≠ a + 1 → U.2.2.2 c j = T.2.2.2 c j) ∧ KitX U a B h o) (x_ki_fit T a b (iz h) (iz o)) := by
  refine so_ki_fit (Q := fun U => eqA T U ∧ (∀ c j, c ≠ a + 1 → U.2.2.2 c j = T.2.2.2 c j) ∧ KitX U a B h o) _ _ _ _ ?_
  have k7 := hW.2.1
  obtain ⟨o1, ⟨p1, p2, p3⟩, q2, k0, k1, k2, k3, k4⟩ := s_giveAll (T := T) (h := h) ha hb hX.1 hW hh
  unfold wp_ki_fit
  refine ⟨o1, ha, jo ?_⟩
  try dsimp only
  have spb := fun m => sp_b (T := x_ki_giveAll T a b (iz h)) (a := o) (n := 60 - o) (by omega) (by omega) m
  rw [z_60, iz_sub]
  generalize x_x_span (x_ki_giveAll T a b (iz h)) (iz o) (iz (60 - o)) = M at *
  generalize x_ki_giveAll T a b (iz h) = T1 at *
  have l0 : ok_ki_giveOneLess T1 a 0 M ∧ LsQ T1 a 0 M (x_ki_giveOneLess T1 a 0 M) := s_less (w := 0) ha (by omega)
  obtain ⟨⟨r1, r2, r3⟩, r4, r5⟩ := l0.2
  refine ⟨l0.1, ?_⟩
  generalize x_ki_giveOneLess T1 a 0 M = T2 at *
  have l1 : ok_ki_giveOneLess T2 a 1 M ∧ LsQ T2 a 1 M (x_ki_giveOneLess T2 a 1 M) := s_less (w := 1) ha (by omega)
  obtain ⟨⟨s1, s2, s3⟩, s4, s5⟩ := l1.2
  refine ⟨l1.1, ?_⟩
  generalize x_ki_giveOneLess T2 a 1 M = T3 at *
  have K0 := (Kv_less k0 r4 r5).1
  have K1 := (Kv_less (Kv_eq k1 (by omega) fun j h1 h2 => r4 _ j (by omega)) s4 s5).1
  have K0' : Kv T3 a 0 4 (lss (fun _ => B 0 + B 1) M) := Kv_eq K0 (by omega) fun j h1 h2 => s4 _ j (by omega)
  have K2' : Kv T3 a 2 5 (fun _ => B 2) := Kv_eq k2 (by omega) fun j h1 h2 => by rw [s4 _ j (by omega), r4 _ j (by omega)]
  have K3' : Kv T3 a 3 5 (fun _ => h) := Kv_eq k3 (by omega) fun j h1 h2 => by rw [s4 _ j (by omega), r4 _ j (by omega)]
  have K4' : Kv T3 a 4 5 (fun _ => B 6) := Kv_eq k4 (by omega) fun j h1 h2 => by rw [s4 _ j (by omega), r4 _ j (by omega)]
  refine wr_ki_fit_33 _ _ _ _ _ (fun v U => ∃ i : Nat, (i : Int) ≤ B 7 ∧ v = iz i ∧ eqA T U ∧ (∀ c j, c ≠ a + 1 → U.2.2.2 c j = T.2.2.2 c j) ∧ (∀ j, (j < 15 ∨ 20 ≤ j) → U.2.2.2 (a + 1) j = T3.2.2.2 (a + 1) j) ∧ Kv U a 3 5 (fun m => h - awy B m i)) (fun v U => 4 - v.toInt.toNat) ?_ _ _ _ ?_ ?_
  · rintro _ U ⟨i, h1, rfl, ⟨u1, u2, u3⟩, u4, u5, u6⟩
    unfold bd_ki_fit_33
    rw [u1, hX.2.1.1, iz_le (by omega)]
    refine ⟨hb, fun c => ?_, fun c => ?_⟩
    · have ei : i = (B 7).toNat := by omega
      refine ⟨⟨u1, u2, u3⟩, u4, Kit_of (Kv_cg (Kv_eq K0' (by omega) fun j a1 a2 => u5 j (by omega)) (by omega) ?_) (Kv_cg (Kv_eq K1 (by omega) fun j a1 a2 => u5 j (by omega)) (by omega) ?_) (Kv_cg (Kv_eq K2' (by omega) fun j a1 a2 => u5 j (by omega)) (by omega) ?_) (Kv_cg u6 (by omega) ?_) (Kv_cg (Kv_eq K4' (by omega) fun j a1 a2 => u5 j (by omega)) (by omega) ?_)⟩
      · intro m n hm hn
        have e1 : gv B h o 0 m = B 0 + (B 1 - (if (m : Int) < o then 0 else 1)) := rfl
        rw [e1]
        unfold lss
        dsimp only
        have := spb m
        by_cases q : lb M m = true
        · rw [if_pos q, if_neg (by have := this.1 q; omega)]; omega
        · rw [if_neg q, if_pos (by
            rcases Int.lt_or_le (m : Int) o with z | z
            · exact z
            · exact absurd (this.2 (by omega)) q)]; omega
      · intro m n hm hn
        have e1 : gv B h o 1 m = B 1 - (if (m : Int) < o then 0 else 1) := rfl
        rw [e1]
        unfold lss
        dsimp only
        have := spb m
        by_cases q : lb M m = true
        · rw [if_pos q, if_neg (by have := this.1 q; omega)]
        · rw [if_neg q, if_pos (by
            rcases Int.lt_or_le (m : Int) o with z | z
            · exact z
            · exact absurd (this.2 (by omega)) q)]; omega
      · intro m n hm hn; exact Iff.rfl
      · intro m n hm hn
        have e1 : gv B h o 3 m = (if 0 ≤ h - awy B m (B 7).toNat then h - awy B m (B 7).toNat else 0) := rfl
        rw [e1, ← ei]; split <;> omega
      · intro m n hm hn; exact Iff.rfl
    · have h2 := k7.2.2 i (by omega)
      obtain ⟨f1, f2⟩ := hX.2.1.2 i (by omega)
      have ii : (iz (i : Int)).toNatClampNeg = i := by rw [iz_n (by omega), Int.toNat_natCast]
      rw [ii, u3, f1, f2, z_1, iz_sub, iz_add]
      have sp2 := fun m => sp_b (T := U) (a := B (8 + 2 * i)) (n := B (8 + 2 * i + 1) - B (8 + 2 * i) + 1) (by omega) (by omega) m
      generalize x_x_span U (iz (B (8 + 2 * i))) (iz (B (8 + 2 * i + 1) - B (8 + 2 * i) + 1)) = M2 at *
      have l3 : ok_ki_giveOneLess U a 3 M2 ∧ LsQ U a 3 M2 (x_ki_giveOneLess U a 3 M2) := s_less (w := 3) ha (by omega)
      obtain ⟨⟨v1, v2, v3⟩, v4, v5⟩ := l3.2
      refine ⟨(iz_in (by omega)).2 (by omega), l3.1, ha, ⟨i + 1, by omega, ?_, ⟨v1.trans u1, v2.trans u2, v3.trans u3⟩, fun c j hc => ?_, fun j hj => ?_, ?_⟩, ?_⟩
      · rw [iz_add]; exact iz_inj (by omega)
      · rw [v4 c j (by omega)]; exact u4 c j hc
      · rw [v4 _ j (by omega)]; exact u5 j hj
      · refine Kv_cg ((Kv_less u6 v4 v5).2 (fun m => ?_)) (by omega) (fun m n hm hn => ?_)
        · have := awy_nn (B := B) (m := m) i; omega
        · have e : awy B m (i + 1) = awy B m i + (if B (8 + 2 * i) ≤ m ∧ (m : Int) ≤ B (8 + 2 * i + 1) then 1 else 0) := rfl
          rw [e]
          unfold lss
          dsimp only
          have := sp2 m
          by_cases q : lb M2 m = true
          · rw [if_pos q, if_pos (by have := this.1 q; omega)]; omega
          · rw [if_neg q, if_neg (fun z => q (this.2 (by omega)))]; omega
      · rw [iz_add, iz_t (by omega), iz_t (by omega)]; omega
  · show 4 - (0 : Int32).toInt.toNat < 1000
    omega
  · refine ⟨0, by omega, rfl, ⟨by rw [s1, r1, p1], by rw [s2, r2, p2], by rw [s3, r3, p3]⟩, fun c j hc => ?_, fun _ _ => rfl, Kv_cg K3' (by omega) (fun m n hm hn => ?_)⟩
    · rw [s4 c j (by omega), r4 c j (by omega)]; exact q2 c j hc
    · show h < n ↔ h - 0 < n
      omega
end KI2
