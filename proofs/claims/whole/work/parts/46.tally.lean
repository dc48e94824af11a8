/-! ===== tallies ===== -/
theorem lbt_or {x y : Int64} {m : Nat} : lb (x ||| y) m = true ↔ lb x m = true ∨ lb y m = true := by rw [lb_or, Bool.or_eq_true]
theorem lbt_and {x y : Int64} {m : Nat} : lb (x &&& y) m = true ↔ lb x m = true ∧ lb y m = true := by rw [lb_and, Bool.and_eq_true]
section TA
variable {T : St} {B : Nat → Int} {h o : Int} {a b q ki : Nat} {f : Nat → Nat → Nat} {P : Nat → Nat → Prop}
theorem s_fewer {w n : Nat} (hw : w < 5) (hn : 1 ≤ n ∧ n ≤ 5) (hs : sh ki = .inr 3) : ok_ki_fewerThan T ki (iz w) (iz n) ∧ x_ki_fewerThan T ki (iz w) (iz n) = T.2.2.2 (ki + 1) (5 * w + n - 1) := by
  unfold ok_ki_fewerThan x_ki_fewerThan
  rw [z_5, z_1, iz_mul, iz_add, iz_sub, iz_in (by omega), iz_n (by omega), show ((w : Int) * 5 + (n : Int) - 1).toNat = 5 * w + n - 1 by omega]
  exact ⟨⟨hs, by omega, trivial⟩, rfl⟩
theorem s_open (ha : sh a = .inr 9) (hk : sh ki = .inr 3) (hne : ki + 1 < a + 1 ∨ a + 4 < ki + 1) (hK : KitX T ki B h o) : ok_ta_open T a ki ∧ TyX (x_ta_open T a ki) a B h o (fun _ _ => 0) := by
  refine so_ta_open (Q := fun U => TyX U a B h o (fun _ _ => 0)) _ _ ?_
  unfold wp_ta_open
  refine wr_ta_open_2 _ _ (fun v U => ∃ w : Nat, w ≤ 5 ∧ v = iz w ∧ (∀ c j, ¬ (a < c ∧ c < a + 5) → U.2.2.2 c j = T.2.2.2 c j) ∧ ∀ w' m : Nat, w' < w → m < 60 → (lb (U.2.2.2 (a + 1) w') m = false) ∧ (lb (U.2.2.2 (a + 2) w') m = false) ∧ (lb (U.2.2.2 (a + 3) w') m = false) ∧ (lb (U.2.2.2 (a + 4) w') m = true ↔ fll B h o w' m 0)) (fun v U => 5 - v.toInt.toNat) ?_ _ _ _ ?_ ?_
  · rintro _ U ⟨w, h1, rfl, h2, h3⟩
    unfold bd_ta_open_2 jn
    simp (disch := omega) only [le0, lt0, ge0, gt0, eq0, sub0, add0, iz_le, iz_lt, iz_eq, iz_in, iz_n, iz_add, iz_sub, iz_mul, iz_neg, lz_w, lg_le0, lg_gt0, m_in, iz_t, Int.toNat_natCast, Int.reduceToNat, z_5]
    have e1 : ∀ V : St, w < 5 → ok_ki_fewerThan V ki (iz w) 1 ∧ x_ki_fewerThan V ki (iz w) 1 = V.2.2.2 (ki + 1) (5 * w + 1 - 1) := fun V hw => s_fewer (n := 1) hw (by omega) hk
    refine ⟨fun c w' m hw' hm => ?_, fun c => ⟨ha, by omega, (e1 _ (by omega)).1, hk, ⟨w + 1, by omega, ?_, fun c j hc => ?_, fun w' m hw' hm => ?_⟩, ?_⟩⟩
    · obtain ⟨g1, g2, g3, g4⟩ := h3 w' m (by omega) hm
      rw [g1, g2, g3]
      exact ⟨⟨fun z => (by cases z), fun z => absurd (show 1 ≤ 0 from z) (by omega)⟩, ⟨fun z => (by cases z), fun z => absurd (show 2 ≤ 0 from z) (by omega)⟩, ⟨fun z => (by cases z), fun z => absurd (show 3 ≤ 0 from z) (by omega)⟩, g4⟩
    · rw [z_1, iz_add]; exact iz_inj (by omega)
    · rw [gL_L, if_neg (by omega), gL_L, if_neg (by omega), gL_L, if_neg (by omega), gL_L, if_neg (by omega)]
      exact h2 c j hc
    · rw [(e1 _ (by omega)).2]
      simp only [gL_L]
      by_cases e : w' = w
      · subst e
        simp only [and_true, show ¬ a + 1 = a + 4 by omega, show ¬ a + 2 = a + 4 by omega, show ¬ a + 3 = a + 4 by omega, show ¬ a + 1 = a + 3 by omega, show ¬ a + 1 = a + 2 by omega, show ¬ a + 2 = a + 3 by omega, show ¬ ki + 1 = a + 3 by omega, show ¬ ki + 1 = a + 2 by omega, show ¬ ki + 1 = a + 1 by omega, false_and, if_false, if_true]
        refine ⟨lb_0 m, lb_0 m, lb_0 m, ?_⟩
        rw [h2 _ _ (by omega), hK w' 1 m (by omega) (by omega) (by omega) hm]
        unfold fll
        omega
      · simp only [e, and_false, if_false]
        exact h3 w' m (by omega) hm
    · rw [z_1, iz_add, iz_t (by omega)]; omega
  · show 5 - (0 : Int32).toInt.toNat < 1000
    omega
  · exact ⟨0, by omega, rfl, fun _ _ _ => rfl, fun w' m hw' => by omega⟩
noncomputable def ad1 (f : Nat → Nat → Nat) (P : Nat → Nat → Prop) (w m : Nat) : Nat := f w m + @ite _ (P w m) (Classical.propDecidable _) 1 0
theorem ad1_y {w m : Nat} (h : P w m) : ad1 f P w m = f w m + 1 := by unfold ad1; rw [if_pos h]
theorem ad1_n {w m : Nat} (h : ¬ P w m) : ad1 f P w m = f w m := by unfold ad1; rw [if_neg h]; rfl
theorem s_add (ha : sh a = .inr 9) (hb : sh b = .inr 9) (hq : sh q = .inl (1, 5)) (hk : sh ki = .inr 3) (hab : a = b ∨ a + 5 ≤ b ∨ b + 5 ≤ a) (hqa : q < a + 1 ∨ a + 4 < q) (hne : ki + 1 < a + 1 ∨ a + 4 < ki + 1) (hK : KitX T ki B h o) (hT : TyX T b B h o f) (hP : BiX T q P) :
    ok_ta_add T a b q ki ∧ TyX (x_ta_add T a b q ki) a B h o (ad1 f P) := by
  refine so_ta_add (Q := fun U => TyX U a B h o (ad1 f P)) _ _ _ _ ?_
  unfold wp_ta_add
  refine wr_ta_add_3 _ _ _ _ (fun v U => ∃ w : Nat, w ≤ 5 ∧ v = iz w ∧ (∀ c j, ¬ (a < c ∧ c < a + 5) ∨ w ≤ j → U.2.2.2 c j = T.2.2.2 c j) ∧ ∀ w' m : Nat, w' < w → m < 60 → (lb (U.2.2.2 (a + 1) w') m = true ↔ 1 ≤ ad1 f P w' m) ∧ (lb (U.2.2.2 (a + 2) w') m = true ↔ 2 ≤ ad1 f P w' m) ∧ (lb (U.2.2.2 (a + 3) w') m = true ↔ 3 ≤ ad1 f P w' m) ∧ (lb (U.2.2.2 (a + 4) w') m = true ↔ fll B h o w' m (ad1 f P w' m))) (fun v U => 5 - v.toInt.toNat) ?_ _ _ _ ?_ ?_
  · rintro _ U ⟨w, h1, rfl, h2, h3⟩
    unfold bd_ta_add_3 jn
    simp (disch := omega) only [le0, lt0, ge0, gt0, eq0, sub0, add0, iz_le, iz_lt, iz_eq, iz_in, iz_n, iz_add, iz_sub, iz_mul, iz_neg, lz_w, lg_le0, lg_gt0, m_in, iz_t, Int.toNat_natCast, Int.reduceToNat, z_5]
    have e1 : ∀ V : St, w < 5 → ok_ki_fewerThan V ki (iz w) 1 ∧ x_ki_fewerThan V ki (iz w) 1 = V.2.2.2 (ki + 1) (5 * w + 1 - 1) := fun V hw => s_fewer (n := 1) hw (by omega) hk
    have e2 : ∀ V : St, w < 5 → ok_ki_fewerThan V ki (iz w) 2 ∧ x_ki_fewerThan V ki (iz w) 2 = V.2.2.2 (ki + 1) (5 * w + 2 - 1) := fun V hw => s_fewer (n := 2) hw (by omega) hk
    have e3 : ∀ V : St, w < 5 → ok_ki_fewerThan V ki (iz w) 3 ∧ x_ki_fewerThan V ki (iz w) 3 = V.2.2.2 (ki + 1) (5 * w + 3 - 1) := fun V hw => s_fewer (n := 3) hw (by omega) hk
    have e4 : ∀ V : St, w < 5 → ok_ki_fewerThan V ki (iz w) 4 ∧ x_ki_fewerThan V ki (iz w) 4 = V.2.2.2 (ki + 1) (5 * w + 4 - 1) := fun V hw => s_fewer (n := 4) hw (by omega) hk
    refine ⟨fun c w' m hw' hm => h3 w' m (by omega) hm, fun c => ⟨hq, by omega, ha, hb, (e1 _ (by omega)).1, hk, (e2 _ (by omega)).1, (e3 _ (by omega)).1, (e4 _ (by omega)).1, ⟨w + 1, by omega, ?_, fun c j hc => ?_, fun w' m hw' hm => ?_⟩, ?_⟩⟩
    · rw [z_1, iz_add]; exact iz_inj (by omega)
    · rw [gL_L, if_neg (by omega), gL_L, if_neg (by omega), gL_L, if_neg (by omega), gL_L, if_neg (by omega)]
      exact h2 c j (by omega)
    · rw [(e1 _ (by omega)).2, (e2 _ (by omega)).2, (e3 _ (by omega)).2, (e4 _ (by omega)).2]
      simp only [gL_L]
      by_cases e : w' = w
      · subst e
        simp only [and_true, show ¬ a + 1 = a + 4 by omega, show ¬ a + 2 = a + 4 by omega, show ¬ a + 3 = a + 4 by omega, show ¬ a + 1 = a + 3 by omega, show ¬ a + 1 = a + 2 by omega, show ¬ a + 2 = a + 3 by omega, show ¬ a + 2 = a + 1 by omega, show ¬ a + 3 = a + 1 by omega, show ¬ a + 3 = a + 2 by omega, show ¬ ki + 1 = a + 3 by omega, show ¬ ki + 1 = a + 2 by omega, show ¬ ki + 1 = a + 1 by omega, show ¬ b + 2 = a + 3 by omega, show ¬ b + 1 = a + 3 by omega, show ¬ b + 1 = a + 2 by omega, false_and, if_false, if_true]
        have k1 := hK w' 1 m (by omega) (by omega) (by omega) hm
        have k2 := hK w' 2 m (by omega) (by omega) (by omega) hm
        have k3 := hK w' 3 m (by omega) (by omega) (by omega) hm
        have k4 := hK w' 4 m (by omega) (by omega) (by omega) hm
        obtain ⟨t1, t2, t3, _⟩ := hT w' m (by omega) hm
        have p := hP w' m (by omega) (by omega)
        rw [h2 (ki + 1) _ (by omega), h2 (ki + 1) _ (by omega), h2 (ki + 1) _ (by omega), h2 (ki + 1) _ (by omega), h2 (b + 1) w' (by omega), h2 (b + 2) w' (by omega), h2 (b + 3) w' (by omega), h2 q w' (by omega)]
        simp only [lbt_or, lbt_and, k1, k2, k3, k4, t1, t2, t3, p]
        unfold fll
        by_cases hp : P w' m
        · rw [ad1_y hp]
          generalize gv B h o w' m = G
          generalize f w' m = F
          simp only [hp, hm, and_true, or_true, true_iff]
          refine ⟨?_, ?_, ?_, ?_⟩ <;> first | trivial | omega
        · rw [ad1_n hp]
          generalize gv B h o w' m = G
          generalize f w' m = F
          simp only [hp, and_false, or_false]
          refine ⟨?_, ?_, ?_, ?_⟩ <;> first | trivial | omega
      · simp only [e, and_false, if_false]
        exact h3 w' m (by omega) hm
    · rw [z_1, iz_add, iz_t (by omega)]; omega
  · show 5 - (0 : Int32).toInt.toNat < 1000
    omega
  · exact ⟨0, by omega, rfl, fun _ _ _ => rfl, fun w' m hw' => by omega⟩
end TA
