/-! ===== kitchens ===== -/
def Kv (T : St) (a w : Nat) (lv : Nat) (g : Nat → Int) : Prop := ∀ n m : Nat, 1 ≤ n → n ≤ lv → m < 60 → (lb (T.2.2.2 (a + 1) (5 * w + n - 1)) m = true ↔ g m < n)
def eqA (T U : St) : Prop := U.1 = T.1 ∧ U.2.1 = T.2.1 ∧ U.2.2.1 = T.2.2.1
section KI
variable {T : St} {a w : Nat} {B : Nat → Int}
theorem s_give {many : Int} (ha : sh a = .inr 3) (hw : w < 5) (hm : -100 ≤ many ∧ many ≤ 100) : ok_ki_give T a (iz w) (iz many) ∧ (fun U => eqA T U ∧ (∀ c j, (c ≠ a + 1 ∨ j < 5 * w ∨ 5 * w + 5 ≤ j) → U.2.2.2 c j = T.2.2.2 c j) ∧ Kv U a w 5 (fun _ => many)) (x_ki_give T a (iz w) (iz many)) := by
  refine so_ki_give (Q := fun U => eqA T U ∧ (∀ c j, (c ≠ a + 1 ∨ j < 5 * w ∨ 5 * w + 5 ≤ j) → U.2.2.2 c j = T.2.2.2 c j) ∧ Kv U a w 5 (fun _ => many)) _ _ _ ?_
  unfold wp_ki_give
  refine wr_ki_give_2 _ _ _ (fun v U => ∃ n : Nat, 1 ≤ n ∧ n ≤ 6 ∧ v = iz n ∧ eqA T U ∧ (∀ c j, (c ≠ a + 1 ∨ j < 5 * w ∨ 5 * w + 5 ≤ j) → U.2.2.2 c j = T.2.2.2 c j) ∧ ∀ n' m : Nat, 1 ≤ n' → n' < n → m < 60 → (lb (U.2.2.2 (a + 1) (5 * w + n' - 1)) m = true ↔ many < n')) (fun v U => 6 - v.toInt.toNat) ?_ _ _ _ ?_ ?_
  · rintro _ U ⟨n, h1, h2, rfl, h3, h4, h5⟩
    unfold bd_ki_give_2
    simp (disch := omega) only [le0, lt0, ge0, gt0, eq0, sub0, add0, iz_le, iz_lt, iz_eq, iz_in, iz_n, iz_add, iz_sub, iz_mul, iz_neg, lz_w, lg_le0, lg_gt0, m_in, iz_t, Int.toNat_natCast, Int.reduceToNat, z_5, z_1]
    have ei : ((w : Int) * 5 + (n : Int) - 1).toNat = 5 * w + n - 1 := by omega
    rw [ei]
    have go : ∀ x : Int64, n ≤ 5 → (∀ m, m < 60 → (lb x m = true ↔ many < n)) → (∃ n_1 : Nat, 1 ≤ n_1 ∧ n_1 ≤ 6 ∧ iz ((n : Int) + 1) = iz n_1 ∧ eqA T (sL U (a + 1) (5 * w + n - 1) x) ∧ (∀ c j, (c ≠ a + 1 ∨ j < 5 * w ∨ 5 * w + 5 ≤ j) → (sL U (a + 1) (5 * w + n - 1) x).2.2.2 c j = T.2.2.2 c j) ∧ ∀ n' m : Nat, 1 ≤ n' → n' < n_1 → m < 60 → (lb ((sL U (a + 1) (5 * w + n - 1) x).2.2.2 (a + 1) (5 * w + n' - 1)) m = true ↔ many < n')) := by
      intro x hn5 hx
      refine ⟨n + 1, by omega, by omega, iz_inj (by omega), h3, fun c j hc => ?_, fun n' m a1 a2 a3 => ?_⟩
      · rw [gL_L, if_neg (by omega)]; exact h4 c j hc
      · rw [gL_L]
        by_cases e : n' = n
        · subst e; rw [if_pos ⟨rfl, rfl⟩]; exact hx m a3
        · rw [if_neg (by omega)]; exact h5 n' m a1 (by omega) a3
    refine ⟨fun c => ⟨h3, h4, fun n' m a1 a2 a3 => h5 n' m a1 (by omega) a3⟩, fun c => ⟨ha, fun c2 => ⟨by omega, go 0 (by omega) (fun m hm' => ?_), by omega⟩, fun c2 => ⟨by omega, go (-1) (by omega) (fun m hm' => ?_), by omega⟩⟩⟩
    · rw [lb_0]; exact ⟨fun z => (by cases z), fun z => by omega⟩
    · rw [lb_m1 (by omega)]; exact ⟨fun z => by omega, fun z => rfl⟩
  · show 6 - (1 : Int32).toInt.toNat < 1000
    omega
  · exact ⟨1, by omega, by omega, rfl, ⟨rfl, rfl, rfl⟩, fun _ _ _ => rfl, fun n' m a1 a2 => by omega⟩
theorem s_less {M : Int64} (ha : sh a = .inr 3) (hw : w < 5) : ok_ki_giveOneLess T a (iz w) M ∧ (fun U => eqA T U ∧ (∀ c j, (c ≠ a + 1 ∨ j < 5 * w ∨ 5 * w + 4 ≤ j) → U.2.2.2 c j = T.2.2.2 c j) ∧ ∀ n, 1 ≤ n → n ≤ 4 → U.2.2.2 (a + 1) (5 * w + n - 1) = T.2.2.2 (a + 1) (5 * w + n - 1) ||| (M &&& T.2.2.2 (a + 1) (5 * w + n))) (x_ki_giveOneLess T a (iz w) M) := by
  refine so_ki_giveOneLess (Q := fun U => eqA T U ∧ (∀ c j, (c ≠ a + 1 ∨ j < 5 * w ∨ 5 * w + 4 ≤ j) → U.2.2.2 c j = T.2.2.2 c j) ∧ ∀ n, 1 ≤ n → n ≤ 4 → U.2.2.2 (a + 1) (5 * w + n - 1) = T.2.2.2 (a + 1) (5 * w + n - 1) ||| (M &&& T.2.2.2 (a + 1) (5 * w + n))) _ _ _ ?_
  unfold wp_ki_giveOneLess
  rw [z_5, iz_mul]
  refine wr_ki_giveOneLess_8 _ _ _ _ (fun v U => ∃ n : Nat, 1 ≤ n ∧ n ≤ 5 ∧ v = iz n ∧ eqA T U ∧ (∀ c j, (c ≠ a + 1 ∨ j < 5 * w ∨ 5 * w + n ≤ j + 1) → U.2.2.2 c j = T.2.2.2 c j) ∧ ∀ n', 1 ≤ n' → n' < n → U.2.2.2 (a + 1) (5 * w + n' - 1) = T.2.2.2 (a + 1) (5 * w + n' - 1) ||| (M &&& T.2.2.2 (a + 1) (5 * w + n'))) (fun v U => 5 - v.toInt.toNat) ?_ _ _ _ ?_ ?_
  · rintro _ U ⟨n, h1, h2, rfl, h3, h4, h5⟩
    unfold bd_ki_giveOneLess_8 jn
    simp (disch := omega) only [le0, lt0, ge0, gt0, eq0, sub0, add0, iz_le, iz_lt, iz_eq, iz_in, iz_n, iz_add, iz_sub, iz_mul, iz_neg, lz_w, lg_le0, lg_gt0, m_in, iz_t, Int.toNat_natCast, Int.reduceToNat, z_5, z_1]
    have ei : ((w : Int) * 5 + (n : Int) - 1).toNat = 5 * w + n - 1 := by omega
    have ej : ((w : Int) * 5 + (n : Int)).toNat = 5 * w + n := by omega
    rw [ei, ej]
    refine ⟨fun c => ⟨h3, fun c j hc => h4 c j (by omega), fun n' a1 a2 => h5 n' a1 (by omega)⟩, fun c => ⟨ha, by omega, by omega, ⟨n + 1, by omega, by omega, iz_inj (by omega), h3, fun c j hc => ?_, fun n' a1 a2 => ?_⟩, by omega⟩⟩
    · rw [gL_L, if_neg (by omega)]; exact h4 c j (by omega)
    · rw [gL_L]
      by_cases e : n' = n
      · subst e; rw [if_pos ⟨rfl, rfl⟩, h4 _ _ (by omega), h4 _ _ (by omega)]
      · rw [if_neg (by omega)]; exact h5 n' a1 (by omega)
  · show 5 - (1 : Int32).toInt.toNat < 1000
    omega
  · exact ⟨1, by omega, by omega, rfl, ⟨rfl, rfl, rfl⟩, fun _ _ _ => rfl, fun n' a1 a2 => by omega⟩
noncomputable def lss (g : Nat → Int) (M : Int64) (m : Nat) : Int := if lb M m = true then g m - 1 else g m
theorem Kv_less {M : Int64} {g : Nat → Int} {U : St} (h : Kv T a w 5 g) (h1 : ∀ c j, (c ≠ a + 1 ∨ j < 5 * w ∨ 5 * w + 4 ≤ j) → U.2.2.2 c j = T.2.2.2 c j) (h2 : ∀ n, 1 ≤ n → n ≤ 4 → U.2.2.2 (a + 1) (5 * w + n - 1) = T.2.2.2 (a + 1) (5 * w + n - 1) ||| (M &&& T.2.2.2 (a + 1) (5 * w + n))) : Kv U a w 4 (lss g M) ∧ ((∀ m, g m < 5) → Kv U a w 5 (lss g M)) := by
  have k4 : Kv U a w 4 (lss g M) := by
    intro n m a1 a2 a3
    have e1 := h n m a1 (by omega) a3
    have e2 := h (n + 1) m (by omega) (by omega) a3
    rw [show 5 * w + (n + 1) - 1 = 5 * w + n by omega] at e2
    rw [h2 n a1 a2, lbt_or, lbt_and, e1, e2]
    unfold lss
    by_cases q : lb M m = true
    · simp only [q, true_and, if_true]; omega
    · rw [if_neg q]; exact ⟨fun z => z.elim id (fun z => absurd z.1 q), Or.inl⟩
  refine ⟨k4, fun hg n m a1 a2 a3 => ?_⟩
  by_cases e : n ≤ 4
  · exact k4 n m a1 e a3
  · have e5 : n = 5 := by omega
    subst e5
    rw [h1 _ _ (by omega), h 5 m a1 a2 a3]
    have := hg m
    unfold lss
    split <;> omega
theorem Kv_eq {U : St} {lv : Nat} {g : Nat → Int} (h : Kv T a w lv g) (hl : lv ≤ 5) (he : ∀ j, 5 * w ≤ j → j < 5 * w + 5 → U.2.2.2 (a + 1) j = T.2.2.2 (a + 1) j) : Kv U a w lv g := by
  intro n m a1 a2 a3
  rw [he _ (by omega) (by omega)]
  exact h n m a1 a2 a3
end KI
