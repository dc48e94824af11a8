/-! ===== the reference's levels ===== -/
def Lv (T : St) (l : Nat) (f : Nat → Nat → Int) : Prop := ∀ m, m < 60 → T.2.2.1 579 (60 * l + m) = iz (f 0 m) ∧ T.2.2.1 578 (60 * l + m) = iz (f 1 m) ∧ T.2.2.1 580 (60 * l + m) = iz (f 2 m) ∧ T.2.2.1 581 (60 * l + m) = iz (f 3 m) ∧ T.2.2.1 582 (60 * l + m) = iz (f 4 m) ∧ T.2.2.1 583 (60 * l + m) = iz (f 5 m) ∧ T.2.2.1 584 (60 * l + m) = iz (f 6 m)
theorem Lv_eq {T T' : St} {l : Nat} {f : Nat → Nat → Int} (h : ∀ c j, 578 ≤ c → c < 585 → 60 * l ≤ j → j < 60 * l + 60 → T'.2.2.1 c j = T.2.2.1 c j) (i : Lv T l f) : Lv T' l f := by
  intro m hm
  have := i m hm
  rw [h 578 _ (by omega) (by omega) (by omega) (by omega), h 579 _ (by omega) (by omega) (by omega) (by omega), h 580 _ (by omega) (by omega) (by omega) (by omega), h 581 _ (by omega) (by omega) (by omega) (by omega), h 582 _ (by omega) (by omega) (by omega) (by omega), h 583 _ (by omega) (by omega) (by omega) (by omega), h 584 _ (by omega) (by omega) (by omega) (by omega)]
  exact this
theorem Lv_cg {T : St} {l : Nat} {f g : Nat → Nat → Int} (h : ∀ w m, w < 7 → m < 60 → f w m = g w m) (i : Lv T l f) : Lv T l g := by
  intro m hm
  have := i m hm
  rw [h 0 m (by omega) hm, h 1 m (by omega) hm, h 2 m (by omega) hm, h 3 m (by omega) hm, h 4 m (by omega) hm, h 5 m (by omega) hm, h 6 m (by omega) hm] at this
  exact this
def lv0 (w m : Nat) : Int := if w = 6 then 9 else 0
theorem s_clear (T : St) : ok_m_clearLevel T ∧ Lv (x_m_clearLevel T) 0 lv0 := by
  refine so_m_clearLevel (Q := fun U => Lv U 0 lv0) ?_
  unfold wp_m_clearLevel
  refine wr_m_clearLevel_2 (fun v U => ∃ i : Nat, i ≤ 60 ∧ v = iz i ∧ ∀ m, m < i → U.2.2.1 579 m = iz 0 ∧ U.2.2.1 578 m = iz 0 ∧ U.2.2.1 580 m = iz 0 ∧ U.2.2.1 581 m = iz 0 ∧ U.2.2.1 582 m = iz 0 ∧ U.2.2.1 583 m = iz 0 ∧ U.2.2.1 584 m = iz 9) (fun v U => 60 - v.toInt.toNat) ?_ _ _ _ ?_ ?_
  · rintro _ U ⟨i, h1, rfl, h2⟩
    unfold bd_m_clearLevel_2 jn
    simp (disch := omega) only [le0, lt0, ge0, gt0, eq0, sub0, add0, iz_le, iz_lt, iz_eq, iz_in, iz_n, iz_add, iz_sub, iz_mul, iz_neg, lz_w, lg_le0, lg_gt0, m_in, iz_t, Int.toNat_natCast, Int.reduceToNat, z_1, z_60]
    refine ⟨fun c m hm => ?_, fun c => ⟨by omega, ⟨i + 1, by omega, iz_inj (by omega), fun m hm => ?_⟩, by omega⟩⟩
    · rw [Nat.mul_zero, Nat.zero_add]; exact h2 m (by omega)
    · simp only [gA_A]
      by_cases e : m = i
      · simp [e]; decide
      · simp [e]; exact h2 m (by omega)
  · show 60 - (0 : Int32).toInt.toNat < 1000
    omega
  · exact ⟨0, by omega, rfl, fun m hm => by omega⟩
theorem s_copy {T : St} {l : Nat} {f : Nat → Nat → Int} (hl : l < 4) (hf : Lv T l f) : ok_m_copyLevel T (iz ((l + 1 : Nat) : Int)) ∧ Lv (x_m_copyLevel T (iz ((l + 1 : Nat) : Int))) (l + 1) f ∧ ∀ c j, j < 60 * (l + 1) → (x_m_copyLevel T (iz ((l + 1 : Nat) : Int))).2.2.1 c j = T.2.2.1 c j := by
  refine so_m_copyLevel (Q := fun U => Lv U (l + 1) f ∧ ∀ c j, j < 60 * (l + 1) → U.2.2.1 c j = T.2.2.1 c j) _ ?_
  unfold wp_m_copyLevel
  refine wr_m_copyLevel_5 _ (fun v U => ∃ i : Nat, i ≤ 60 ∧ v = iz ((60 * (l + 1) + i : Nat) : Int) ∧ (∀ c j, j < 60 * (l + 1) → U.2.2.1 c j = T.2.2.1 c j) ∧ ∀ m, m < i → U.2.2.1 579 (60 * (l + 1) + m) = iz (f 0 m) ∧ U.2.2.1 578 (60 * (l + 1) + m) = iz (f 1 m) ∧ U.2.2.1 580 (60 * (l + 1) + m) = iz (f 2 m) ∧ U.2.2.1 581 (60 * (l + 1) + m) = iz (f 3 m) ∧ U.2.2.1 582 (60 * (l + 1) + m) = iz (f 4 m) ∧ U.2.2.1 583 (60 * (l + 1) + m) = iz (f 5 m) ∧ U.2.2.1 584 (60 * (l + 1) + m) = iz (f 6 m)) (fun v U => 60 * (l + 1) + 60 - v.toInt.toNat) ?_ _ _ _ ?_ ?_
  · rintro _ U ⟨i, h1, rfl, h2, h3⟩
    unfold bd_m_copyLevel_5 jn
    simp (disch := omega) only [le0, lt0, ge0, gt0, eq0, sub0, add0, iz_le, iz_lt, iz_eq, iz_in, iz_n, iz_add, iz_sub, iz_mul, iz_neg, lz_w, lg_le0, lg_gt0, m_in, iz_t, Int.toNat_natCast, Int.reduceToNat, z_1, z_60]
    have e1 : (((60 * (l + 1) + i : Nat) : Int) - 60).toNat = 60 * l + i := by omega
    rw [e1]
    refine ⟨fun c => ⟨fun m hm => h3 m (by omega), h2⟩, fun c => ⟨by omega, by omega, ⟨i + 1, by omega, iz_inj (by omega), fun c j hj => ?_, fun m hm => ?_⟩, by omega⟩⟩
    · simp only [gA_A]
      have : ¬ j = 60 * (l + 1) + i := by omega
      simp only [this, and_false, if_false]
      exact h2 c j hj
    · have hp := hf i (by omega)
      by_cases e : m = i
      · subst e
        have ne : ¬ 60 * l + m = 60 * (l + 1) + m := by omega
        simp [gA_A, ne, h2 _ (60 * l + m) (by omega), hp]
      · have ne : ¬ 60 * (l + 1) + m = 60 * (l + 1) + i := by omega
        simp only [gA_A, ne, and_false, if_false]
        exact h3 m (by omega)
  · simp (disch := omega) only [le0, lt0, ge0, gt0, eq0, sub0, add0, iz_le, iz_lt, iz_eq, iz_in, iz_n, iz_add, iz_sub, iz_mul, iz_neg, lz_w, lg_le0, lg_gt0, m_in, iz_t, Int.toNat_natCast, Int.reduceToNat, z_60]
    omega
  · refine ⟨0, by omega, ?_, fun c j hj => rfl, fun m hm => by omega⟩
    simp (disch := omega) only [le0, lt0, ge0, gt0, eq0, sub0, add0, iz_le, iz_lt, iz_eq, iz_in, iz_n, iz_add, iz_sub, iz_mul, iz_neg, lz_w, lg_le0, lg_gt0, m_in, iz_t, Int.toNat_natCast, Int.reduceToNat, z_60]
    omega
-- a step more in a level
def ads (B : Nat → Int) (s : Nat) (b l : Int) (f : Nat → Nat → Int) (w m : Nat) : Int := if w < 4 then f w m + ub B w s b l m else if w = 5 then max (f 5 m) (ol B s b l m) else if w = 6 then min (f 6 m) (oh B s b l m) else f w m
theorem ads_o {B : Nat → Int} {s : Nat} {b l : Int} {f : Nat → Nat → Int} {w m : Nat} (h5 : 0 ≤ f 5 m) (h6 : f 6 m ≤ 9) (hw : w < 7) (hm : ¬ (b ≤ m ∧ (m : Int) < b + l)) : ads B s b l f w m = f w m := by
  unfold ads ub ol oh
  rcases (show w = 0 ∨ w = 1 ∨ w = 2 ∨ w = 3 ∨ w = 4 ∨ w = 5 ∨ w = 6 by omega) with rfl | rfl | rfl | rfl | rfl | rfl | rfl <;> simp only [hm, and_false, if_false] <;> simp <;> omega
theorem st_sA {T : St} {a k : Nat} {x p q : Int32} (h : a ≠ 575) : x_m_stepOf (sA T a k x) p q = x_m_stepOf T p q := by
  unfold x_m_stepOf
  rw [gA_A, if_neg (fun z => h z.1.symm)]
theorem oks_sA {T : St} {a k : Nat} {x p q : Int32} : ok_m_stepOf (sA T a k x) p q = ok_m_stepOf T p q := rfl
