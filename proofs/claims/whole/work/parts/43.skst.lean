/-! ===== the reference's search ===== -/
theorem jk1 {a b K P : Prop} (h : (a ∨ b) → P) (k : ¬ a → ¬ b → K) : jn (fun KJ : Prop => (a → KJ) ∧ (¬ a → ((b → KJ) ∧ (¬ b → K)))) P := ⟨fun q => h (Or.inl q), fun q => ⟨fun q2 => h (Or.inr q2), fun q2 => k q q2⟩⟩
theorem jk2 {a b o1 o2 N P : Prop} (h1 : (a ∨ ¬ b) → P) (h2 : ¬ a → o1 ∧ o2) (h3 : ¬ a → b → N) : jn (fun KJ : Prop => (a → KJ) ∧ (¬ a → o1 ∧ o2 ∧ ((b → N) ∧ (¬ b → KJ)))) P := ⟨fun q => h1 (Or.inl q), fun q => ⟨(h2 q).1, (h2 q).2, fun q2 => h3 q q2, fun q2 => h1 (Or.inr q2)⟩⟩
theorem jk3 {a b o N P : Prop} (h1 : (a ∨ ¬ b) → P) (h2 : ¬ a → o) (h3 : ¬ a → b → N) : jn (fun KJ : Prop => (a → KJ) ∧ (¬ a → o ∧ ((b → N) ∧ (¬ b → KJ)))) P := ⟨fun q => h1 (Or.inl q), fun q => ⟨h2 q, fun q2 => h3 q q2, fun q2 => h1 (Or.inr q2)⟩⟩
def msr (x : Int) (g : Nat → Int) : Nat := if x < 0 then 0 else ((12 - g 0) * 2744 + (if 1 ≤ x then (12 - g 1) * 196 else 0) + (if 2 ≤ x then (12 - g 2) * 14 else 0) + (if 3 ≤ x then (12 - g 3) else 0)).toNat
theorem msr_same {a : Nat} {g g' : Nat → Int} (ha : a < 4) (hl : ∀ l, l < a → g' l = g l ∧ 0 ≤ g l ∧ g l ≤ 11) (hi : g' a = g a + 1) (hr : -1 ≤ g a ∧ g a ≤ 11) : msr a g' < msr a g := by
  unfold msr
  rcases (show a = 0 ∨ a = 1 ∨ a = 2 ∨ a = 3 by omega) with rfl | rfl | rfl | rfl
  · simp; omega
  · have h0 := hl 0 (by omega)
    simp; omega
  · have h0 := hl 0 (by omega)
    have h1 := hl 1 (by omega)
    simp; omega
  · have h0 := hl 0 (by omega)
    have h1 := hl 1 (by omega)
    have h2 := hl 2 (by omega)
    simp; omega
theorem msr_back {a : Nat} {g g' : Nat → Int} (ha : a < 4) (hl : ∀ l, l < a → g' l = g l ∧ 0 ≤ g l ∧ g l ≤ 11) (hr : -1 ≤ g a ∧ g a ≤ 11) : msr ((a : Int) - 1) g' < msr a g := by
  unfold msr
  rcases (show a = 0 ∨ a = 1 ∨ a = 2 ∨ a = 3 by omega) with rfl | rfl | rfl | rfl
  · simp; omega
  · have h0 := hl 0 (by omega)
    simp; omega
  · have h0 := hl 0 (by omega)
    have h1 := hl 1 (by omega)
    simp; omega
  · have h0 := hl 0 (by omega)
    have h1 := hl 1 (by omega)
    have h2 := hl 2 (by omega)
    simp; omega
theorem msr_desc {a : Nat} {g g' : Nat → Int} (ha : a < 3) (hl : ∀ l, l < a → g' l = g l ∧ 0 ≤ g l ∧ g l ≤ 11) (hi : g' a = g a + 1) (hn : g' (a + 1) = -1) (hr : -1 ≤ g a ∧ g a ≤ 11) : msr ((a : Int) + 1) g' < msr a g := by
  unfold msr
  rcases (show a = 0 ∨ a = 1 ∨ a = 2 by omega) with rfl | rfl | rfl
  · simp at hn; simp; omega
  · have h0 := hl 0 (by omega)
    simp at hn; simp; omega
  · have h0 := hl 0 (by omega)
    have h1 := hl 1 (by omega)
    simp at hn; simp; omega
theorem s_best {l1 l2 l3 l4 l5 l6 l7 l8 l9 l10 : Int32} {Q : Int32 × St → Prop} {N : St → Prop} {T4 : St} (hN : ∀ T5 : St, (∀ e j, e ≠ 589 → e ≠ 590 → T5.2.2.1 e j = T4.2.2.1 e j) → T5.1 = T4.1 → (∀ j, j < 4 → T5.2.2.1 589 j = T4.2.2.1 586 j) → (∀ j, j < 12 → T5.2.2.1 590 j = T4.2.2.1 588 j) → N T5) :
    wp_m_seek_226 l1 l2 l3 l4 l5 l6 l7 l8 l9 l10 (fun w2_11 T202 => wp_m_seek_255 l1 l2 l3 l4 l5 l6 l7 l8 l9 l10 (fun w3_11 T203 => N T203) Q 1000 0 T202) Q 1000 0 T4 := by
  refine wr_m_seek_226 _ _ _ _ _ _ _ _ _ _ (fun v U => ∃ k : Nat, k ≤ 4 ∧ v = iz k ∧ (∀ e j, e ≠ 589 → U.2.2.1 e j = T4.2.2.1 e j) ∧ U.1 = T4.1 ∧ ∀ j, j < k → U.2.2.1 589 j = T4.2.2.1 586 j) (fun v U => 4 - v.toInt.toNat) ?_ _ _ _ ?_ ?_
  · rintro _ U ⟨k, h1, rfl, h2, h3, h4⟩
    unfold bd_m_seek_226
    simp (disch := omega) only [le0, lt0, ge0, gt0, eq0, sub0, add0, iz_le, iz_lt, iz_eq, iz_in, iz_n, iz_add, iz_sub, iz_mul, iz_neg, lz_w, lg_le0, lg_gt0, m_in, iz_t, Int.toNat_natCast, Int.reduceToNat, z_1, z_4]
    refine ⟨fun q => ?_, fun q => ⟨by omega, by omega, ⟨k + 1, by omega, iz_inj (by omega), fun e j he => ?_, h3, fun j hj => ?_⟩, by omega⟩⟩
    · refine wr_m_seek_255 _ _ _ _ _ _ _ _ _ _ (fun v V => ∃ k : Nat, k ≤ 12 ∧ v = iz k ∧ (∀ e j, e ≠ 590 → V.2.2.1 e j = U.2.2.1 e j) ∧ V.1 = U.1 ∧ ∀ j, j < k → V.2.2.1 590 j = U.2.2.1 588 j) (fun v U => 12 - v.toInt.toNat) ?_ _ _ _ ?_ ?_
      · rintro _ V ⟨k, g1, rfl, g2, g3, g4⟩
        unfold bd_m_seek_255
        simp (disch := omega) only [le0, lt0, ge0, gt0, eq0, sub0, add0, iz_le, iz_lt, iz_eq, iz_in, iz_n, iz_add, iz_sub, iz_mul, iz_neg, lz_w, lg_le0, lg_gt0, m_in, iz_t, Int.toNat_natCast, Int.reduceToNat, z_1, z_12]
        refine ⟨fun q => ?_, fun q => ⟨by omega, ⟨k + 1, by omega, iz_inj (by omega), fun e j he => ?_, g3, fun j hj => ?_⟩, by omega⟩⟩
        · refine hN V (fun e j a1 a2 => by rw [g2 e j a2, h2 e j a1]) (by rw [g3, h3]) (fun j hj => by rw [g2 589 j (by omega)]; exact h4 j (by omega)) (fun j hj => by rw [g4 j (by omega)]; exact h2 588 j (by omega))
        · rw [gA_A, if_neg (fun z => he z.1)]; exact g2 e j he
        · rw [gA_A]
          by_cases q2 : j = k
          · subst q2; rw [if_pos ⟨rfl, rfl⟩]; exact g2 588 j (by omega)
          · rw [if_neg (by omega)]; exact g4 j (by omega)
      · show 12 - (0 : Int32).toInt.toNat < 1000
        omega
      · exact ⟨0, by omega, rfl, fun _ _ _ => rfl, rfl, fun j hj => by omega⟩
    · rw [gA_A, if_neg (fun z => he z.1)]; exact h2 e j he
    · rw [gA_A]
      by_cases q2 : j = k
      · subst q2; rw [if_pos ⟨rfl, rfl⟩]; exact h2 586 j (by omega)
      · rw [if_neg (by omega)]; exact h4 j (by omega)
  · show 4 - (0 : Int32).toInt.toNat < 1000
    omega
  · exact ⟨0, by omega, rfl, fun _ _ _ => rfl, rfl, fun j hj => by omega⟩
def SkS (T : St) (B : Nat → Int) (D : Nat) (μ : Int) (F : Nat → Nat → Int) : Prop := MkX T B ∧ T.1 571 32 = iz μ ∧ (∀ d, d < 8 → D.testBit d = true → T.2.2.1 585 (sn D d) = iz d) ∧ ∀ d, d < 8 → D.testBit d = true → ∀ k, k < nO B d → T.2.2.1 591 (3 * sn D d + k) = iz (F d k) ∧ -2147483648 ≤ F d k ∧ F d k < 2147483648
def SkF (T : St) (B : Nat → Int) (D : Nat) (t : Int) (b : Option (Nat → Nat)) (v8 : Int32) : Prop := (b = none ∧ v8 = 0) ∨ ∃ c0, b = some c0 ∧ v8 = 1 ∧ T.1 571 31 = iz (csm B D 8 c0) ∧ ∀ d, d < 8 → D.testBit d = true → c0 d < chn B d ∧ T.2.2.1 589 (sn D d) = iz (c0 d) ∧ ∀ k, k < nO B d → T.2.2.1 590 (3 * sn D d + k) = iz (bg B t d (c0 d) k)
def SkP (T : St) (B : Nat → Int) (D : Nat) (t : Int) (X : Nat → Nat → Prop) (d : Nat) (c : Nat → Nat) : Prop := (∀ e, e < d → D.testBit e = true → c e < chn B e ∧ (0 ≤ bg B t e (c e) 0 ∧ X e (c e)) ∧ T.2.2.1 586 (sn D e) = iz (c e) ∧ ∀ k, k < nO B e → T.2.2.1 588 (3 * sn D e + k) = iz (bg B t e (c e) k)) ∧
  ∀ e, e ≤ d → D.testBit e = true → T.2.2.1 587 (sn D e) = iz (csm B D e c) ∧ Lv T (sn D e) (tv B D (fun x => bg B t x (c x)) (lgs B) e)
section SKI
variable {T T' : St} {B : Nat → Int} {D : Nat} {t μ : Int} {F : Nat → Nat → Int} {X : Nat → Nat → Prop} {d : Nat} {c : Nat → Nat} {b : Option (Nat → Nat)} {v8 : Int32}
theorem SkS_fr (h : SkS T B D μ F) (h1 : ∀ e j, (e = 575 ∨ e = 585 ∨ e = 591) → T'.2.2.1 e j = T.2.2.1 e j) (h2 : T'.1 571 32 = T.1 571 32) : SkS T' B D μ F := by
  refine ⟨fun j hj => ?_, ?_, fun d hd hm => ?_, fun d hd hm k hk => ?_⟩
  · rw [h1 _ _ (by omega)]; exact h.1 j hj
  · rw [h2]; exact h.2.1
  · rw [h1 _ _ (by omega)]; exact h.2.2.1 d hd hm
  · rw [h1 _ _ (by omega)]; exact h.2.2.2 d hd hm k hk
theorem SkF_fr (h : SkF T B D t b v8) (h1 : ∀ e j, (e = 589 ∨ e = 590) → T'.2.2.1 e j = T.2.2.1 e j) (h2 : T'.1 571 31 = T.1 571 31) : SkF T' B D t b v8 := by
  rcases h with h | ⟨c0, g1, g2, g3, g4⟩
  · exact Or.inl h
  · refine Or.inr ⟨c0, g1, g2, by rw [h2]; exact g3, fun d hd hm => ⟨(g4 d hd hm).1, ?_, fun k hk => ?_⟩⟩
    · rw [h1 _ _ (by omega)]; exact (g4 d hd hm).2.1
    · rw [h1 _ _ (by omega)]; exact (g4 d hd hm).2.2 k hk
theorem SkP_fr (hW : WF B) (hD : ∀ d, D.testBit d = true → (d : Int) < B 16) (hm : D.testBit d = true) (h : SkP T B D t X d c) (h6 : ∀ j, j < sn D d → T'.2.2.1 586 j = T.2.2.1 586 j) (h8 : ∀ j, j < 3 * sn D d → T'.2.2.1 588 j = T.2.2.1 588 j) (h7 : ∀ j, j ≤ sn D d → T'.2.2.1 587 j = T.2.2.1 587 j) (hl : ∀ e j, 578 ≤ e → e < 585 → j < 60 * (sn D d + 1) → T'.2.2.1 e j = T.2.2.1 e j) : SkP T' B D t X d c := by
  refine ⟨fun e he hme => ?_, fun e he hme => ?_⟩
  · have h1 := sn_lt hme he
    have h2 := wf_n hW (hD e hme)
    obtain ⟨g1, g2, g3, g4⟩ := h.1 e he hme
    refine ⟨g1, g2, by rw [h6 _ (by omega)]; exact g3, fun k hk => ?_⟩
    rw [h8 _ (by omega)]; exact g4 k hk
  · have h1 := sn_mo (D := D) he
    obtain ⟨g1, g2⟩ := h.2 e he hme
    refine ⟨by rw [h7 _ h1]; exact g1, Lv_eq (fun x j a1 a2 a3 a4 => hl x j a1 a2 (by omega)) g2⟩
theorem SkP_l (hW : WF B) (hD : ∀ d, D.testBit d = true → (d : Int) < B 16) (h : SkP T B D t X d c) : ∀ l, l < sn D d → 0 ≤ (T.2.2.1 586 l).toInt ∧ (T.2.2.1 586 l).toInt ≤ 11 := by
  intro l hl
  obtain ⟨e, he, hme, rfl⟩ := sn_ex d hl
  obtain ⟨g1, g2, g3, g4⟩ := h.1 e he hme
  have := ch_b hW (hD e hme)
  rw [g3, iz_t (by omega)]
  omega
end SKI
