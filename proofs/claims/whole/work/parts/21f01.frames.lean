/-! ===== frames: what a method may write ===== -/
-- addresses: an array's cell; a field: 10000 + 100 * cell + slot; a reference that changes: 5000 + its number
def Fr (W : Nat → Prop) (T T' : St) : Prop := (∀ c k, ¬ W (10000 + 100 * c + k) → T'.1 c k = T.1 c k) ∧ (∀ c, ¬ W (5000 + c) → T'.2.1 c = T.2.1 c) ∧ (∀ c j, ¬ W c → T'.2.2.1 c j = T.2.2.1 c j) ∧ (∀ c j, ¬ W c → T'.2.2.2 c j = T.2.2.2 c j)
section FR
variable {W W1 : Nat → Prop} {T0 T T1 T2 : St} {ρ : Type}
theorem fr_rfl : Fr W T T := ⟨fun _ _ _ => rfl, fun _ _ => rfl, fun _ _ _ => rfl, fun _ _ _ => rfl⟩
theorem fr_le (h : Fr W1 T T1) (hw : ∀ c, W1 c → W c) : Fr W T T1 := ⟨fun c k n => h.1 c k fun q => n (hw _ q), fun c n => h.2.1 c fun q => n (hw _ q), fun c j n => h.2.2.1 c j fun q => n (hw _ q), fun c j n => h.2.2.2 c j fun q => n (hw _ q)⟩
theorem fr_tr (h : Fr W T0 T1) (h2 : Fr W1 T1 T2) (hw : ∀ c, W1 c → W c) : Fr W T0 T2 := by
  have h3 := fr_le h2 hw
  exact ⟨fun c k n => (h3.1 c k n).trans (h.1 c k n), fun c n => (h3.2.1 c n).trans (h.2.1 c n), fun c j n => (h3.2.2.1 c j n).trans (h.2.2.1 c j n), fun c j n => (h3.2.2.2 c j n).trans (h.2.2.2 c j n)⟩
theorem fr_sF {a k : Nat} {x : Int32} (h : Fr W T0 T) (hw : W (10000 + 100 * a + k)) : Fr W T0 (sF T a k x) := by
  refine ⟨fun c j n => ?_, h.2.1, h.2.2.1, h.2.2.2⟩
  rw [← h.1 c j n]
  exact if_neg fun q => n (by rw [q.1, q.2]; exact hw)
theorem fr_sA {a k : Nat} {x : Int32} (h : Fr W T0 T) (hw : W a) : Fr W T0 (sA T a k x) := by
  refine ⟨h.1, h.2.1, fun c j n => ?_, h.2.2.2⟩
  rw [← h.2.2.1 c j n]
  exact if_neg fun q => n (by rw [q.1]; exact hw)
theorem fr_sAr {a : Nat} {f : Nat → Int32} (h : Fr W T0 T) (hw : W a) : Fr W T0 (sAr T a f) := by
  refine ⟨h.1, h.2.1, fun c j n => ?_, h.2.2.2⟩
  rw [← h.2.2.1 c j n]
  exact if_neg fun q => n (by rw [q]; exact hw)
theorem fr_sL {a k : Nat} {x : Int64} (h : Fr W T0 T) (hw : W a) : Fr W T0 (sL T a k x) := by
  refine ⟨h.1, h.2.1, h.2.2.1, fun c j n => ?_⟩
  rw [← h.2.2.2 c j n]
  exact if_neg fun q => n (by rw [q.1]; exact hw)
theorem fr_sLr {a : Nat} {f : Nat → Int64} (h : Fr W T0 T) (hw : W a) : Fr W T0 (sLr T a f) := by
  refine ⟨h.1, h.2.1, h.2.2.1, fun c j n => ?_⟩
  rw [← h.2.2.2 c j n]
  exact if_neg fun q => n (by rw [q]; exact hw)
theorem fr_sR {c b : Nat} (h : Fr W T0 T) (hw : W (5000 + c)) : Fr W T0 (sR T c b) := by
  refine ⟨h.1, fun e n => ?_, h.2.2.1, h.2.2.2⟩
  rw [← h.2.1 e n]
  exact if_neg fun q => n (by rw [q]; exact hw)
theorem fr_if {Q : ρ → Prop} {c : Prop} [Decidable c] {a b : ρ} (h1 : c → Q a) (h2 : ¬ c → Q b) : Q (if c then a else b) := by
  by_cases h : c
  · rw [if_pos h]; exact h1 h
  · rw [if_neg h]; exact h2 h
theorem fr_n {Q : ρ → Prop} {α : Type} {x : α} {f : α → ρ} {g : α → Prop} (kk : jn g x) (k : ∀ y, g y → Q (f y)) : Q (jn f x) := k x kk
theorem fr_n0 {Q : ρ → Prop} {α : Type} {x : α} {f : α → ρ} (k : ∀ y, Q (f y)) : Q (jn f x) := k x
theorem fr_nN {Q : ρ → Prop} {x : Nat} {f : Nat → ρ} {g : Nat → Prop} (kk : jn g x) (k : ∀ y, y = x → g y → Q (f y)) : Q (jn f x) := k x rfl kk
theorem fr_nN0 {Q : ρ → Prop} {x : Nat} {f : Nat → ρ} (k : ∀ y, y = x → Q (f y)) : Q (jn f x) := k x rfl
theorem fr_nT {Q : ρ → Prop} {x : St} {f : St → ρ} {g : St → Prop} (hx : Fr W T0 x) (kk : jn g x) (k : ∀ y, Fr W T0 y → g y → Q (f y)) : Q (jn f x) := k x hx kk
theorem fr_nT0 {Q : ρ → Prop} {x : St} {f : St → ρ} (hx : Fr W T0 x) (k : ∀ y, Fr W T0 y → Q (f y)) : Q (jn f x) := k x hx
theorem fr_jn {Q : ρ → Prop} {κ ο : Type} {f : κ → ρ} {g : ο → Prop} {K0 : κ} {O0 : ο} {J : κ → ο → Prop} (kk : jn g O0) (hJ : J K0 O0) (k : ∀ K O, J K O → g O → Q (f K)) : Q (jn f K0) := k K0 O0 hJ kk
theorem fr_jn0 {Q : ρ → Prop} {κ : Type} {f : κ → ρ} {K0 : κ} {J : κ → Prop} (hJ : J K0) (k : ∀ K, J K → Q (f K)) : Q (jn f K0) := k K0 hJ
def FrP {α : Type} (W : Nat → Prop) (T0 : St) (r : α × St) : Prop := Fr W T0 r.2
theorem frp_i {α : Type} {v : α} (h : Fr W T0 T) : FrP W T0 (v, T) := h
theorem frp_o {α : Type} {r : α × St} (h : FrP W T0 r) : Fr W T0 r.2 := h
end FR
def W_fillI (p0 : Nat) (p1 : Int32) : Nat → Prop := fun c => p0 ≤ c ∧ c < p0 + 1
theorem fr_fillI {T : St} (p0 : Nat) (p1 : Int32) (kk : ok_fillI T p0 p1) : Fr (W_fillI p0 p1) T (x_fillI T p0 p1) := fr_sAr fr_rfl (by unfold W_fillI; omega)
def W_fillJ (p0 : Nat) (p1 : Int64) : Nat → Prop := fun c => p0 ≤ c ∧ c < p0 + 1
theorem fr_fillJ {T : St} (p0 : Nat) (p1 : Int64) (kk : ok_fillJ T p0 p1) : Fr (W_fillJ p0 p1) T (x_fillJ T p0 p1) := fr_sLr fr_rfl (by unfold W_fillJ; omega)
def W_ask_begin (T : St) (p0 : Int32) : Nat → Prop := fun c => (556 ≤ c ∧ c < 557) ∨ (65501 ≤ c ∧ c < 65502)
theorem fr_ask_begin {T : St} (p0 : Int32) (kk : ok_ask_begin T p0) : Fr (W_ask_begin T p0) T (x_ask_begin T p0) := by
  unfold ok_ask_begin at kk
  have hW : ∀ c, W_ask_begin T p0 c → W_ask_begin T p0 c := fun _ h => h
  have hT : Fr (W_ask_begin T p0) T T := fr_rfl
  unfold x_ask_begin
  refine fr_if (Q := (Fr (W_ask_begin T p0) T)) (fun c6_1 => ?_) (fun c6_1 => ?_)
  · exact hT
  · have kk := kk c6_1
    obtain ⟨q1, kk⟩ := kk
    have gq1 := in_lt q1
    exact (fr_sF (fr_sA hT (hW _ (by unfold W_ask_begin; omega))) (hW _ (by unfold W_ask_begin; omega)))
def W_ask_sizeOfAny (T : St) (p0 : Nat) (p1 : Int32) : Nat → Prop := fun c => (556 ≤ c ∧ c < 557) ∨ (65501 ≤ c ∧ c < 65502)
theorem fr_ask_sizeOfAny {T : St} (p0 : Nat) (p1 : Int32) (kk : ok_ask_sizeOfAny T p0 p1) : FrP (W_ask_sizeOfAny T p0 p1) T (x_ask_sizeOfAny T p0 p1) := by
  unfold ok_ask_sizeOfAny at kk
  have hW : ∀ c, W_ask_sizeOfAny T p0 p1 c → W_ask_sizeOfAny T p0 p1 c := fun _ h => h
  have hT : Fr (W_ask_sizeOfAny T p0 p1) T T := fr_rfl
  unfold x_ask_sizeOfAny
  obtain ⟨q1, kk⟩ := kk
  obtain ⟨q2, kk⟩ := kk
  obtain ⟨q3, kk⟩ := kk
  have gq3 := in_lt q3
  exact frp_i (fr_tr hT ((fr_ask_begin 10 q1)) (fun c h => hW c (by unfold W_ask_begin at h; unfold W_ask_sizeOfAny; omega)))
def W_ask_sizeOfRinged (T : St) (p0 : Nat) (p1 : Int32) : Nat → Prop := fun c => (556 ≤ c ∧ c < 557) ∨ (65501 ≤ c ∧ c < 65502)
theorem fr_ask_sizeOfRinged {T : St} (p0 : Nat) (p1 : Int32) (kk : ok_ask_sizeOfRinged T p0 p1) : FrP (W_ask_sizeOfRinged T p0 p1) T (x_ask_sizeOfRinged T p0 p1) := by
  unfold ok_ask_sizeOfRinged at kk
  have hW : ∀ c, W_ask_sizeOfRinged T p0 p1 c → W_ask_sizeOfRinged T p0 p1 c := fun _ h => h
  have hT : Fr (W_ask_sizeOfRinged T p0 p1) T T := fr_rfl
  unfold x_ask_sizeOfRinged
  obtain ⟨q1, kk⟩ := kk
  obtain ⟨q2, kk⟩ := kk
  obtain ⟨q3, kk⟩ := kk
  obtain ⟨q4, kk⟩ := kk
  have gq4 := in_lt q4
  exact frp_i (fr_tr (fr_tr hT ((fr_ask_begin 11 q1)) (fun c h => hW c (by unfold W_ask_begin at h; unfold W_ask_sizeOfRinged; omega))) (frp_o (fr_ask_sizeOfAny p0 p1 q2)) (fun c h => hW c (by unfold W_ask_sizeOfAny at h; unfold W_ask_sizeOfRinged; omega)))
def W_ask_markOfAny (T : St) (p0 : Int32) : Nat → Prop := fun c => (556 ≤ c ∧ c < 557) ∨ (65501 ≤ c ∧ c < 65502)
theorem fr_ask_markOfAny {T : St} (p0 : Int32) (kk : ok_ask_markOfAny T p0) : FrP (W_ask_markOfAny T p0) T (x_ask_markOfAny T p0) := by
  unfold ok_ask_markOfAny at kk
  have hW : ∀ c, W_ask_markOfAny T p0 c → W_ask_markOfAny T p0 c := fun _ h => h
  have hT : Fr (W_ask_markOfAny T p0) T T := fr_rfl
  unfold x_ask_markOfAny
  obtain ⟨q1, kk⟩ := kk
  exact frp_i (fr_tr hT ((fr_ask_begin 20 q1)) (fun c h => hW c (by unfold W_ask_begin at h; unfold W_ask_markOfAny; omega)))
def W_ask_markOfRested (T : St) (p0 : Int32) : Nat → Prop := fun c => (556 ≤ c ∧ c < 557) ∨ (65501 ≤ c ∧ c < 65502)
theorem fr_ask_markOfRested {T : St} (p0 : Int32) (kk : ok_ask_markOfRested T p0) : FrP (W_ask_markOfRested T p0) T (x_ask_markOfRested T p0) := by
  unfold ok_ask_markOfRested at kk
  have hW : ∀ c, W_ask_markOfRested T p0 c → W_ask_markOfRested T p0 c := fun _ h => h
  have hT : Fr (W_ask_markOfRested T p0) T T := fr_rfl
  unfold x_ask_markOfRested
  obtain ⟨q1, kk⟩ := kk
  obtain ⟨q2, kk⟩ := kk
  exact frp_i (fr_tr (fr_tr hT ((fr_ask_begin 21 q1)) (fun c h => hW c (by unfold W_ask_begin at h; unfold W_ask_markOfRested; omega))) (frp_o (fr_ask_markOfAny p0 q2)) (fun c h => hW c (by unfold W_ask_markOfAny at h; unfold W_ask_markOfRested; omega)))
def W_bk_clear (T : St) (a : Nat) : Nat → Prop := fun c => (10000 + 100 * a ≤ c ∧ c < 10000 + 100 * a + 100)
theorem fr_bk_clear {T : St} (a : Nat) (kk : ok_bk_clear T a) : Fr (W_bk_clear T a) T (x_bk_clear T a) := by
  unfold ok_bk_clear at kk
  have hW : ∀ c, W_bk_clear T a c → W_bk_clear T a c := fun _ h => h
  have hT : Fr (W_bk_clear T a) T T := fr_rfl
  unfold x_bk_clear
  obtain ⟨q1, kk⟩ := kk
  exact (fr_sF (fr_sF (fr_sF (fr_sF (fr_sF hT (hW _ (by unfold W_bk_clear; omega))) (hW _ (by unfold W_bk_clear; omega))) (hW _ (by unfold W_bk_clear; omega))) (hW _ (by unfold W_bk_clear; omega))) (hW _ (by unfold W_bk_clear; omega)))
def W_bk_take (T : St) (a : Nat) (p0 : Nat) : Nat → Prop := fun c => (a + 1 ≤ c ∧ c < a + 15) ∨ (10000 + 100 * a ≤ c ∧ c < 10000 + 100 * a + 100)
theorem fr_bk_take {T : St} (a : Nat) (p0 : Nat) (kk : ok_bk_take T a p0) : Fr (W_bk_take T a p0) T (x_bk_take T a p0) := by
  unfold ok_bk_take at kk
  have hW : ∀ c, W_bk_take T a p0 c → W_bk_take T a p0 c := fun _ h => h
  have hT : Fr (W_bk_take T a p0) T T := fr_rfl
  unfold x_bk_take
  obtain ⟨q1, kk⟩ := kk
  obtain ⟨q2, kk⟩ := kk
  obtain ⟨q3, kk⟩ := kk
  refine fr_nT (Q := (Fr (W_bk_take T a p0) T)) (fr_sAr hT (hW _ (by unfold W_bk_take; omega))) kk (fun T1 hT1 kk => ?_)
  obtain ⟨q4, kk⟩ := kk
  refine fr_nT (Q := (Fr (W_bk_take T a p0) T)) (fr_sAr (fr_sF hT1 (hW _ (by unfold W_bk_take; omega))) (hW _ (by unfold W_bk_take; omega))) kk (fun T2 hT2 kk => ?_)
  refine fr_nT (Q := (Fr (W_bk_take T a p0) T)) (fr_sAr hT2 (hW _ (by unfold W_bk_take; omega))) kk (fun T3 hT3 kk => ?_)
  obtain ⟨q5, kk⟩ := kk
  refine fr_nT (Q := (Fr (W_bk_take T a p0) T)) (fr_sAr (fr_sF hT3 (hW _ (by unfold W_bk_take; omega))) (hW _ (by unfold W_bk_take; omega))) kk (fun T4 hT4 kk => ?_)
  refine fr_nT (Q := (Fr (W_bk_take T a p0) T)) (fr_sAr hT4 (hW _ (by unfold W_bk_take; omega))) kk (fun T5 hT5 kk => ?_)
  refine fr_nT (Q := (Fr (W_bk_take T a p0) T)) (fr_sAr hT5 (hW _ (by unfold W_bk_take; omega))) kk (fun T6 hT6 kk => ?_)
  refine fr_nT (Q := (Fr (W_bk_take T a p0) T)) (fr_sAr hT6 (hW _ (by unfold W_bk_take; omega))) kk (fun T7 hT7 kk => ?_)
  refine fr_nT (Q := (Fr (W_bk_take T a p0) T)) (fr_sAr hT7 (hW _ (by unfold W_bk_take; omega))) kk (fun T8 hT8 kk => ?_)
  obtain ⟨q6, kk⟩ := kk
  refine fr_nT0 (Q := (Fr (W_bk_take T a p0) T)) (fr_sAr (fr_sF hT8 (hW _ (by unfold W_bk_take; omega))) (hW _ (by unfold W_bk_take; omega))) (fun T9 hT9 => ?_)
  refine fr_nT0 (Q := (Fr (W_bk_take T a p0) T)) (fr_sAr hT9 (hW _ (by unfold W_bk_take; omega))) (fun T10 hT10 => ?_)
  refine fr_nT0 (Q := (Fr (W_bk_take T a p0) T)) (fr_sAr hT10 (hW _ (by unfold W_bk_take; omega))) (fun T11 hT11 => ?_)
  refine fr_nT0 (Q := (Fr (W_bk_take T a p0) T)) (fr_sAr hT11 (hW _ (by unfold W_bk_take; omega))) (fun T12 hT12 => ?_)
  refine fr_nT0 (Q := (Fr (W_bk_take T a p0) T)) (fr_sAr hT12 (hW _ (by unfold W_bk_take; omega))) (fun T13 hT13 => ?_)
  refine fr_nT0 (Q := (Fr (W_bk_take T a p0) T)) (fr_sAr hT13 (hW _ (by unfold W_bk_take; omega))) (fun T14 hT14 => ?_)
  exact (fr_sF (fr_sF hT14 (hW _ (by unfold W_bk_take; omega))) (hW _ (by unfold W_bk_take; omega)))
def WL_ki_give_2 (l0 : Nat) (l1 : Int32) (l2 : Int32) : Nat → Prop := fun c => (l0 + 1 ≤ c ∧ c < l0 + 2)
theorem fr_ki_give_2 {W : Nat → Prop} {T0 : St} (l0 : Nat) (l1 : Int32) (l2 : Int32) {K : Int32 → St → St} {Kk : Int32 → St → Prop} (hW : ∀ c, WL_ki_give_2 l0 l1 l2 c → W c) (hk : ∀ (v3 : Int32) (T : St), Fr W T0 T → Kk v3 T → (Fr W T0) (K v3 T)) : ∀ (f : Nat) (v3 : Int32) (T : St), Fr W T0 T → ok_ki_give_2 l0 l1 l2 Kk f v3 T → (Fr W T0) (x_ki_give_2 l0 l1 l2 K f v3 T) := by
  intro f
  induction f with
  | zero => intro v3 T hT kk; exact kk.elim
  | succ f ih =>
    intro v3 T hT kk
    rw [ok_ki_give_2] at kk
    rw [x_ki_give_2]
    refine fr_if (Q := (Fr W T0)) (fun c4_1 => ?_) (fun c4_1 => ?_)
    · have kk := kk.1 c4_1
      exact hk v3 T hT kk
    · have kk := kk.2 c4_1
      obtain ⟨q1, kk⟩ := kk
      refine fr_if (Q := (Fr W T0)) (fun c20_2 => ?_) (fun c20_2 => ?_)
      · have kk := kk.1 c20_2
        obtain ⟨q2, kk⟩ := kk
        have gq2 := in_lt q2
        exact ih (v3 + 1) (sL T (l0 + 1) (((l1 * 5) + v3) - 1 : Int32).toNatClampNeg 0) (fr_sL hT (hW _ (by unfold WL_ki_give_2; omega))) kk
      · have kk := kk.2 c20_2
        obtain ⟨q3, kk⟩ := kk
        have gq3 := in_lt q3
        exact ih (v3 + 1) (sL T (l0 + 1) (((l1 * 5) + v3) - 1 : Int32).toNatClampNeg (-1)) (fr_sL hT (hW _ (by unfold WL_ki_give_2; omega))) kk
def W_ki_give (T : St) (a : Nat) (p0 : Int32) (p1 : Int32) : Nat → Prop := fun c => (a + 1 ≤ c ∧ c < a + 2)
theorem fr_ki_give {T : St} (a : Nat) (p0 : Int32) (p1 : Int32) (kk : ok_ki_give T a p0 p1) : Fr (W_ki_give T a p0 p1) T (x_ki_give T a p0 p1) := by
  unfold ok_ki_give at kk
  have hW : ∀ c, W_ki_give T a p0 p1 c → W_ki_give T a p0 p1 c := fun _ h => h
  have hT : Fr (W_ki_give T a p0 p1) T T := fr_rfl
  unfold x_ki_give
  refine fr_ki_give_2 a p0 p1 (fun c h => hW c (by unfold WL_ki_give_2 at h; unfold W_ki_give; omega)) (fun w1_3 T201 hT201 kk => ?_) 1000 1 T hT kk
  exact hT201
def WL_ki_giveOneLess_8 (l0 : Nat) (l1 : Int32) (l2 : Int64) (l4 : Int32) : Nat → Prop := fun c => (l0 + 1 ≤ c ∧ c < l0 + 2)
theorem fr_ki_giveOneLess_8 {W : Nat → Prop} {T0 : St} (l0 : Nat) (l1 : Int32) (l2 : Int64) (l4 : Int32) {K : Int32 → St → St} {Kk : Int32 → St → Prop} (hW : ∀ c, WL_ki_giveOneLess_8 l0 l1 l2 l4 c → W c) (hk : ∀ (v5 : Int32) (T : St), Fr W T0 T → Kk v5 T → (Fr W T0) (K v5 T)) : ∀ (f : Nat) (v5 : Int32) (T : St), Fr W T0 T → ok_ki_giveOneLess_8 l0 l1 l2 l4 Kk f v5 T → (Fr W T0) (x_ki_giveOneLess_8 l0 l1 l2 l4 K f v5 T) := by
  intro f
  induction f with
  | zero => intro v5 T hT kk; exact kk.elim
  | succ f ih =>
    intro v5 T hT kk
    rw [ok_ki_giveOneLess_8] at kk
    rw [x_ki_giveOneLess_8]
    refine fr_if (Q := (Fr W T0)) (fun c11_1 => ?_) (fun c11_1 => ?_)
    · have kk := kk.1 c11_1
      exact hk v5 T hT kk
    · have kk := kk.2 c11_1
      obtain ⟨q1, kk⟩ := kk
      obtain ⟨q2, kk⟩ := kk
      have gq2 := in_lt q2
      obtain ⟨q3, kk⟩ := kk
      have gq3 := in_lt q3
      refine fr_nT (Q := (Fr W T0)) (fr_sL hT (hW _ (by unfold WL_ki_giveOneLess_8; omega))) kk (fun T1 hT1 kk => ?_)
      exact ih (v5 + 1) T1 hT1 kk
def W_ki_giveOneLess (T : St) (a : Nat) (p0 : Int32) (p1 : Int64) : Nat → Prop := fun c => (a + 1 ≤ c ∧ c < a + 2)
theorem fr_ki_giveOneLess {T : St} (a : Nat) (p0 : Int32) (p1 : Int64) (kk : ok_ki_giveOneLess T a p0 p1) : Fr (W_ki_giveOneLess T a p0 p1) T (x_ki_giveOneLess T a p0 p1) := by
  unfold ok_ki_giveOneLess at kk
  have hW : ∀ c, W_ki_giveOneLess T a p0 p1 c → W_ki_giveOneLess T a p0 p1 c := fun _ h => h
  have hT : Fr (W_ki_giveOneLess T a p0 p1) T T := fr_rfl
  unfold x_ki_giveOneLess
  refine fr_ki_giveOneLess_8 a p0 p1 (p0 * 5) (fun c h => hW c (by unfold WL_ki_giveOneLess_8 at h; unfold W_ki_giveOneLess; omega)) (fun w1_5 T201 hT201 kk => ?_) 1000 1 T hT kk
  exact hT201
def WL_ov_want_78 (l1 : Nat) (l2 : Nat) (l3 : Int32) (l4 : Int32) (l5 : Int32) : Nat → Prop := fun c => (529 ≤ c ∧ c < 531)
theorem fr_ov_want_78 {W : Nat → Prop} {T0 : St} (l1 : Nat) (l2 : Nat) (l3 : Int32) (l4 : Int32) (l5 : Int32) {K : Int32 → St → St} {Kk : Int32 → St → Prop} (hW : ∀ c, WL_ov_want_78 l1 l2 l3 l4 l5 c → W c) (hk : ∀ (v6 : Int32) (T : St), Fr W T0 T → Kk v6 T → (Fr W T0) (K v6 T)) : ∀ (f : Nat) (v6 : Int32) (T : St), Fr W T0 T → ok_ov_want_78 l1 l2 l3 l4 l5 Kk f v6 T → (Fr W T0) (x_ov_want_78 l1 l2 l3 l4 l5 K f v6 T) := by
  intro f
  induction f with
  | zero => intro v6 T hT kk; exact kk.elim
  | succ f ih =>
    intro v6 T hT kk
    rw [ok_ov_want_78] at kk
    rw [x_ov_want_78]
    refine fr_if (Q := (Fr W T0)) (fun c82_3 => ?_) (fun c82_3 => ?_)
    · have kk := kk.1 c82_3
      exact hk v6 T hT kk
    · have kk := kk.2 c82_3
      obtain ⟨q7, kk⟩ := kk
      have gq7 := in_lt q7
      obtain ⟨q8, kk⟩ := kk
      obtain ⟨q9, kk⟩ := kk
      have gq9 := in_lt q9
      refine fr_nT (Q := (Fr W T0)) (fr_sA hT (hW _ (by unfold WL_ov_want_78; omega))) kk (fun T4 hT4 kk => ?_)
      refine fr_nT (Q := (Fr W T0)) (fr_sA hT4 (hW _ (by unfold WL_ov_want_78; omega))) kk (fun T5 hT5 kk => ?_)
      exact ih (v6 + 1) T5 hT5 kk
def WL_ov_want_19 (l1 : Nat) (l2 : Nat) : Nat → Prop := fun c => (529 ≤ c ∧ c < 531)
theorem fr_ov_want_19 {W : Nat → Prop} {T0 : St} (l1 : Nat) (l2 : Nat) {K : Int32 → St → St} {Kk : Int32 → St → Prop} (hW : ∀ c, WL_ov_want_19 l1 l2 c → W c) (hk : ∀ (v3 : Int32) (T : St), Fr W T0 T → Kk v3 T → (Fr W T0) (K v3 T)) : ∀ (f : Nat) (v3 : Int32) (T : St), Fr W T0 T → ok_ov_want_19 l1 l2 Kk f v3 T → (Fr W T0) (x_ov_want_19 l1 l2 K f v3 T) := by
  intro f
  induction f with
  | zero => intro v3 T hT kk; exact kk.elim
  | succ f ih =>
    intro v3 T hT kk
    rw [ok_ov_want_19] at kk
    rw [x_ov_want_19]
    obtain ⟨q3, kk⟩ := kk
    refine fr_if (Q := (Fr W T0)) (fun c24_1 => ?_) (fun c24_1 => ?_)
    · have kk := kk.1 c24_1
      exact hk v3 T hT kk
    · have kk := kk.2 c24_1
      obtain ⟨q4, kk⟩ := kk
      have gq4 := in_lt q4
      refine fr_n (Q := (Fr W T0)) kk (fun i1 kk => ?_)
      obtain ⟨q5, kk⟩ := kk
      obtain ⟨q6, kk⟩ := kk
      have gq6 := in_lt q6
      refine fr_if (Q := (Fr W T0)) (fun c43_2 => ?_) (fun c43_2 => ?_)
      · have kk := kk.1 c43_2
        refine fr_n (Q := (Fr W T0)) kk (fun i2 kk => ?_)
        refine fr_n (Q := (Fr W T0)) kk (fun i3 kk => ?_)
        refine fr_ov_want_78 l1 l2 v3 i1 i2 (fun c h => hW c (by unfold WL_ov_want_78 at h; unfold WL_ov_want_19; omega)) (fun w1_6 T201 hT201 kk => ?_) 1000 i3 T hT kk
        exact ih (v3 + 1) T201 hT201 kk
      · have kk := kk.2 c43_2
        exact ih (v3 + 1) T hT kk
def W_ov_want (T : St) (p0 : Nat) (p1 : Nat) : Nat → Prop := fun c => (529 ≤ c ∧ c < 531)
theorem fr_ov_want {T : St} (p0 : Nat) (p1 : Nat) (kk : ok_ov_want T p0 p1) : Fr (W_ov_want T p0 p1) T (x_ov_want T p0 p1) := by
  unfold ok_ov_want at kk
  have hW : ∀ c, W_ov_want T p0 p1 c → W_ov_want T p0 p1 c := fun _ h => h
  have hT : Fr (W_ov_want T p0 p1) T T := fr_rfl
  unfold x_ov_want
  obtain ⟨q1, kk⟩ := kk
  obtain ⟨q2, kk⟩ := kk
  refine fr_ov_want_19 p0 p1 (fun c h => hW c (by unfold WL_ov_want_19 at h; unfold W_ov_want; omega)) (fun w2_3 T202 hT202 kk => ?_) 1000 0 (x_fillI (x_fillI T 529 0) 530 9) (fr_tr (fr_tr hT ((fr_fillI 529 0 q1)) (fun c h => hW c (by unfold W_fillI at h; unfold W_ov_want; omega))) ((fr_fillI 530 9 q2)) (fun c h => hW c (by unfold W_fillI at h; unfold W_ov_want; omega))) kk
  exact hT202
def WL_ov_settle_3 (l1 : Int32) (l2 : Int32) : Nat → Prop := fun c => (529 ≤ c ∧ c < 530)
theorem fr_ov_settle_3 {W : Nat → Prop} {T0 : St} (l1 : Int32) (l2 : Int32) {K : Int32 → St → St} {Kk : Int32 → St → Prop} (hW : ∀ c, WL_ov_settle_3 l1 l2 c → W c) (hk : ∀ (v3 : Int32) (T : St), Fr W T0 T → Kk v3 T → (Fr W T0) (K v3 T)) : ∀ (f : Nat) (v3 : Int32) (T : St), Fr W T0 T → ok_ov_settle_3 l1 l2 Kk f v3 T → (Fr W T0) (x_ov_settle_3 l1 l2 K f v3 T) := by
  intro f
  induction f with
  | zero => intro v3 T hT kk; exact kk.elim
  | succ f ih =>
    intro v3 T hT kk
    rw [ok_ov_settle_3] at kk
    rw [x_ov_settle_3]
    refine fr_if (Q := (Fr W T0)) (fun c4_1 => ?_) (fun c4_1 => ?_)
    · have kk := kk.1 c4_1
      exact hk v3 T hT kk
    · have kk := kk.2 c4_1
      obtain ⟨q1, kk⟩ := kk
      have gq1 := in_lt q1
      obtain ⟨q2, kk⟩ := kk
      have gq2 := in_lt q2
      refine fr_nT (Q := (Fr W T0)) (fr_sA hT (hW _ (by unfold WL_ov_settle_3; omega))) kk (fun T1 hT1 kk => ?_)
      exact ih (v3 + (-1)) T1 hT1 kk
def WL_ov_settle_43 (l1 : Int32) (l2 : Int32) : Nat → Prop := fun c => (531 ≤ c ∧ c < 532)
theorem fr_ov_settle_43 {W : Nat → Prop} {T0 : St} (l1 : Int32) (l2 : Int32) {K : Int32 → Int32 → St → St} {Kk : Int32 → Int32 → St → Prop} (hW : ∀ c, WL_ov_settle_43 l1 l2 c → W c) (hk : ∀ (v3 : Int32) (v4 : Int32) (T : St), Fr W T0 T → Kk v3 v4 T → (Fr W T0) (K v3 v4 T)) : ∀ (f : Nat) (v3 : Int32) (v4 : Int32) (T : St), Fr W T0 T → ok_ov_settle_43 l1 l2 Kk f v3 v4 T → (Fr W T0) (x_ov_settle_43 l1 l2 K f v3 v4 T) := by
  intro f
  induction f with
  | zero => intro v3 v4 T hT kk; exact kk.elim
  | succ f ih =>
    intro v3 v4 T hT kk
    rw [ok_ov_settle_43] at kk
    rw [x_ov_settle_43]
    refine fr_if (Q := (Fr W T0)) (fun c47_2 => ?_) (fun c47_2 => ?_)
    · have kk := kk.1 c47_2
      exact hk v3 v4 T hT kk
    · have kk := kk.2 c47_2
      obtain ⟨q3, kk⟩ := kk
      have gq3 := in_lt q3
      refine fr_n (Q := (Fr W T0)) kk (fun i2 kk => ?_)
      exact ih i2 (v4 + 1) (sA T 531 (v4 : Int32).toNatClampNeg i2) (fr_sA hT (hW _ (by unfold WL_ov_settle_43; omega))) kk
def W_ov_settle (T : St) (p0 : Int32) (p1 : Int32) : Nat → Prop := fun c => (529 ≤ c ∧ c < 530) ∨ (531 ≤ c ∧ c < 532)
theorem fr_ov_settle {T : St} (p0 : Int32) (p1 : Int32) (kk : ok_ov_settle T p0 p1) : Fr (W_ov_settle T p0 p1) T (x_ov_settle T p0 p1) := by
  unfold ok_ov_settle at kk
  have hW : ∀ c, W_ov_settle T p0 p1 c → W_ov_settle T p0 p1 c := fun _ h => h
  have hT : Fr (W_ov_settle T p0 p1) T T := fr_rfl
  unfold x_ov_settle
  refine fr_ov_settle_3 p0 p1 (fun c h => hW c (by unfold WL_ov_settle_3 at h; unfold W_ov_settle; omega)) (fun w1_3 T201 hT201 kk => ?_) 1000 58 T hT kk
  refine fr_ov_settle_43 p0 p1 (fun c h => hW c (by unfold WL_ov_settle_43 at h; unfold W_ov_settle; omega)) (fun w2_3 w2_4 T202 hT202 kk => ?_) 1000 0 0 T201 hT201 kk
  exact hT202
def WL_pl_strikeEarly_2  : Nat → Prop := fun c => (22300 ≤ c ∧ c < 60700)
theorem fr_pl_strikeEarly_2 {W : Nat → Prop} {T0 : St}  {K : Int32 → St → St} {Kk : Int32 → St → Prop} (hW : ∀ c, WL_pl_strikeEarly_2  c → W c) (hk : ∀ (v1 : Int32) (T : St), Fr W T0 T → Kk v1 T → (Fr W T0) (K v1 T)) : ∀ (f : Nat) (v1 : Int32) (T : St), Fr W T0 T → ok_pl_strikeEarly_2  Kk f v1 T → (Fr W T0) (x_pl_strikeEarly_2  K f v1 T) := by
  intro f
  induction f with
  | zero => intro v1 T hT kk; exact kk.elim
  | succ f ih =>
    intro v1 T hT kk
    rw [ok_pl_strikeEarly_2] at kk
    rw [x_pl_strikeEarly_2]
    refine fr_if (Q := (Fr W T0)) (fun c8_1 => ?_) (fun c8_1 => ?_)
    · have kk := kk.1 c8_1
      exact hk v1 T hT kk
    · have kk := kk.2 c8_1
      obtain ⟨q1, kk⟩ := kk
      have gq1 := in_lt q1
      refine fr_if (Q := (Fr W T0)) (fun c20_2 => ?_) (fun c20_2 => ?_)
      · have kk := kk.1 c20_2
        exact ih (v1 + 1) T hT kk
      · have kk := kk.2 c20_2
        exact ih (v1 + 1) (sF T (123 + 4 * (v1 : Int32).toNatClampNeg) 6 0) (fr_sF hT (hW _ (by unfold WL_pl_strikeEarly_2; omega))) kk
def W_pl_strikeEarly (T : St)  : Nat → Prop := fun c => (22300 ≤ c ∧ c < 60700)
theorem fr_pl_strikeEarly {T : St}  (kk : ok_pl_strikeEarly T ) : Fr (W_pl_strikeEarly T ) T (x_pl_strikeEarly T ) := by
  unfold ok_pl_strikeEarly at kk
  have hW : ∀ c, W_pl_strikeEarly T  c → W_pl_strikeEarly T  c := fun _ h => h
  have hT : Fr (W_pl_strikeEarly T ) T T := fr_rfl
  unfold x_pl_strikeEarly
  refine fr_pl_strikeEarly_2  (fun c h => hW c (by unfold WL_pl_strikeEarly_2 at h; unfold W_pl_strikeEarly; omega)) (fun w1_1 T201 hT201 kk => ?_) 1000 0 T hT kk
  exact hT201
def WL_pl_strikeUnlike_45 (l1 : Nat) (l2 : Int32) (l3 : Int32) (l4 : Int32) (l5 : Int32) : Nat → Prop := fun c => (22300 ≤ c ∧ c < 60700)
theorem fr_pl_strikeUnlike_45 {W : Nat → Prop} {T0 : St} (l1 : Nat) (l2 : Int32) (l3 : Int32) (l4 : Int32) (l5 : Int32) {K : Int32 → St → St} {Kk : Int32 → St → Prop} (hW : ∀ c, WL_pl_strikeUnlike_45 l1 l2 l3 l4 l5 c → W c) (hk : ∀ (v6 : Int32) (T : St), Fr W T0 T → Kk v6 T → (Fr W T0) (K v6 T)) : ∀ (f : Nat) (v6 : Int32) (T : St), Fr W T0 T → ok_pl_strikeUnlike_45 l1 l2 l3 l4 l5 Kk f v6 T → (Fr W T0) (x_pl_strikeUnlike_45 l1 l2 l3 l4 l5 K f v6 T) := by
  intro f
  induction f with
  | zero => intro v6 T hT kk; exact kk.elim
  | succ f ih =>
    intro v6 T hT kk
    rw [ok_pl_strikeUnlike_45] at kk
    rw [x_pl_strikeUnlike_45]
    obtain ⟨q6, kk⟩ := kk
    have gq6 := in_lt q6
    refine fr_if (Q := (Fr W T0)) (fun c54_2 => ?_) (fun c54_2 => ?_)
    · have kk := kk.1 c54_2
      exact hk v6 T hT kk
    · have kk := kk.2 c54_2
      obtain ⟨q7, kk⟩ := kk
      have gq7 := in_lt q7
      refine fr_nN (Q := (Fr W T0)) kk (fun r3 er3 kk => ?_)
      obtain ⟨q8, kk⟩ := kk
      obtain ⟨q9, kk⟩ := kk
      have gq9 := in_lt q9
      refine fr_n (Q := (Fr W T0)) kk (fun i4 kk => ?_)
      obtain ⟨q10, kk⟩ := kk
      obtain ⟨q11, kk⟩ := kk
      have gq11 := in_lt q11
      refine fr_jn (Q := (Fr W T0)) (J := fun (KJ1 : Int32 → St) (OJ1 : Int32 → Prop) => ∀ (j1_s0 : Int32), OJ1 j1_s0 → (Fr W T0) (KJ1 j1_s0)) kk (fun j1_s0 kk => ?_) (fun KJ1 OJ1 hJ1 kk => ?_)
      · skip
        refine fr_if (Q := (Fr W T0)) (fun c126_6 => ?_) (fun c126_6 => ?_)
        · have kk := kk.1 c126_6
          exact ih (v6 + 1) (sF T r3 6 0) (fr_sF hT (hW _ (by unfold WL_pl_strikeUnlike_45; omega))) kk
        · have kk := kk.2 c126_6
          exact ih (v6 + 1) T hT kk
      · skip
        refine fr_if (Q := (Fr W T0)) (fun c89_7 => ?_) (fun c89_7 => ?_)
        · have kk := kk.1 c89_7
          refine fr_if (Q := (Fr W T0)) (fun c114_8 => ?_) (fun c114_8 => ?_)
          · have kk := kk.1 c114_8
            exact hJ1 0 kk
          · have kk := kk.2 c114_8
            exact hJ1 1 kk
        · have kk := kk.2 c89_7
          refine fr_if (Q := (Fr W T0)) (fun c100_9 => ?_) (fun c100_9 => ?_)
          · have kk := kk.1 c100_9
            exact hJ1 1 kk
          · have kk := kk.2 c100_9
            exact hJ1 0 kk
def WL_pl_strikeUnlike_2 (l1 : Nat) (l2 : Int32) : Nat → Prop := fun c => (22300 ≤ c ∧ c < 60700)
theorem fr_pl_strikeUnlike_2 {W : Nat → Prop} {T0 : St} (l1 : Nat) (l2 : Int32) {K : Int32 → St → St} {Kk : Int32 → St → Prop} (hW : ∀ c, WL_pl_strikeUnlike_2 l1 l2 c → W c) (hk : ∀ (v3 : Int32) (T : St), Fr W T0 T → Kk v3 T → (Fr W T0) (K v3 T)) : ∀ (f : Nat) (v3 : Int32) (T : St), Fr W T0 T → ok_pl_strikeUnlike_2 l1 l2 Kk f v3 T → (Fr W T0) (x_pl_strikeUnlike_2 l1 l2 K f v3 T) := by
  intro f
  induction f with
  | zero => intro v3 T hT kk; exact kk.elim
  | succ f ih =>
    intro v3 T hT kk
    rw [ok_pl_strikeUnlike_2] at kk
    rw [x_pl_strikeUnlike_2]
    obtain ⟨q1, kk⟩ := kk
    refine fr_if (Q := (Fr W T0)) (fun c7_1 => ?_) (fun c7_1 => ?_)
    · have kk := kk.1 c7_1
      exact hk v3 T hT kk
    · have kk := kk.2 c7_1
      obtain ⟨q2, kk⟩ := kk
      have gq2 := in_lt q2
      obtain ⟨q3, kk⟩ := kk
      have gq3 := in_lt q3
      refine fr_n (Q := (Fr W T0)) kk (fun i1 kk => ?_)
      obtain ⟨q4, kk⟩ := kk
      obtain ⟨q5, kk⟩ := kk
      have gq5 := in_lt q5
      refine fr_n (Q := (Fr W T0)) kk (fun i2 kk => ?_)
      refine fr_pl_strikeUnlike_45 l1 l2 v3 i1 i2 (fun c h => hW c (by unfold WL_pl_strikeUnlike_45 at h; unfold WL_pl_strikeUnlike_2; omega)) (fun w1_6 T201 hT201 kk => ?_) 1000 0 T hT kk
      exact ih (v3 + 1) T201 hT201 kk
def W_pl_strikeUnlike (T : St) (p0 : Nat) (p1 : Int32) : Nat → Prop := fun c => (22300 ≤ c ∧ c < 60700)
theorem fr_pl_strikeUnlike {T : St} (p0 : Nat) (p1 : Int32) (kk : ok_pl_strikeUnlike T p0 p1) : Fr (W_pl_strikeUnlike T p0 p1) T (x_pl_strikeUnlike T p0 p1) := by
  unfold ok_pl_strikeUnlike at kk
  have hW : ∀ c, W_pl_strikeUnlike T p0 p1 c → W_pl_strikeUnlike T p0 p1 c := fun _ h => h
  have hT : Fr (W_pl_strikeUnlike T p0 p1) T T := fr_rfl
  unfold x_pl_strikeUnlike
  refine fr_pl_strikeUnlike_2 p0 p1 (fun c h => hW c (by unfold WL_pl_strikeUnlike_2 at h; unfold W_pl_strikeUnlike; omega)) (fun w2_3 T202 hT202 kk => ?_) 1000 0 T hT kk
  exact hT202
def WL_pl_settleDish_84 (l1 : Int32) (l2 : Nat) (l3 : Int32) (l4 : Int32) : Nat → Prop := fun c => (l2 + 0 ≤ c ∧ c < l2 + 1)
theorem fr_pl_settleDish_84 {W : Nat → Prop} {T0 : St} (l1 : Int32) (l2 : Nat) (l3 : Int32) (l4 : Int32) {K : Int32 → St → St} {Kk : Int32 → St → Prop} (hW : ∀ c, WL_pl_settleDish_84 l1 l2 l3 l4 c → W c) (hk : ∀ (v5 : Int32) (T : St), Fr W T0 T → Kk v5 T → (Fr W T0) (K v5 T)) : ∀ (f : Nat) (v5 : Int32) (T : St), Fr W T0 T → ok_pl_settleDish_84 l1 l2 l3 l4 Kk f v5 T → (Fr W T0) (x_pl_settleDish_84 l1 l2 l3 l4 K f v5 T) := by
  intro f
  induction f with
  | zero => intro v5 T hT kk; exact kk.elim
  | succ f ih =>
    intro v5 T hT kk
    rw [ok_pl_settleDish_84] at kk
    rw [x_pl_settleDish_84]
    refine fr_if (Q := (Fr W T0)) (fun c87_3 => ?_) (fun c87_3 => ?_)
    · have kk := kk.1 c87_3
      exact hk v5 T hT kk
    · have kk := kk.2 c87_3
      obtain ⟨q5, kk⟩ := kk
      obtain ⟨q6, kk⟩ := kk
      have gq6 := in_lt q6
      obtain ⟨q7, kk⟩ := kk
      have gq7 := in_lt q7
      obtain ⟨q8, kk⟩ := kk
      refine fr_nT (Q := (Fr W T0)) (fr_sL hT (hW _ (by unfold WL_pl_settleDish_84; omega))) kk (fun T3 hT3 kk => ?_)
      exact ih (v5 + 1) T3 hT3 kk
def WL_pl_settleDish_30 (l1 : Int32) (l2 : Nat) (l3 : Int32) : Nat → Prop := fun c => (83 ≤ c ∧ c < 84) ∨ (l2 + 0 ≤ c ∧ c < l2 + 1)
theorem fr_pl_settleDish_30 {W : Nat → Prop} {T0 : St} (l1 : Int32) (l2 : Nat) (l3 : Int32) {K : Int32 → St → St} {Kk : Int32 → St → Prop} (hW : ∀ c, WL_pl_settleDish_30 l1 l2 l3 c → W c) (hk : ∀ (v4 : Int32) (T : St), Fr W T0 T → Kk v4 T → (Fr W T0) (K v4 T)) : ∀ (f : Nat) (v4 : Int32) (T : St), Fr W T0 T → ok_pl_settleDish_30 l1 l2 l3 Kk f v4 T → (Fr W T0) (x_pl_settleDish_30 l1 l2 l3 K f v4 T) := by
  intro f
  induction f with
  | zero => intro v4 T hT kk; exact kk.elim
  | succ f ih =>
    intro v4 T hT kk
    rw [ok_pl_settleDish_30] at kk
    rw [x_pl_settleDish_30]
    obtain ⟨q3, kk⟩ := kk
    have gq3 := in_lt q3
    refine fr_if (Q := (Fr W T0)) (fun c40_1 => ?_) (fun c40_1 => ?_)
    · have kk := kk.1 c40_1
      exact hk v4 T hT kk
    · have kk := kk.2 c40_1
      obtain ⟨q4, kk⟩ := kk
      have gq4 := in_lt q4
      refine fr_if (Q := (Fr W T0)) (fun c53_2 => ?_) (fun c53_2 => ?_)
      · have kk := kk.1 c53_2
        exact ih (v4 + 1) T hT kk
      · have kk := kk.2 c53_2
        refine fr_nT (Q := (Fr W T0)) (fr_sA hT (hW _ (by unfold WL_pl_settleDish_30; omega))) kk (fun T2 hT2 kk => ?_)
        refine fr_pl_settleDish_84 l1 l2 l3 v4 (fun c h => hW c (by unfold WL_pl_settleDish_84 at h; unfold WL_pl_settleDish_30; omega)) (fun w1_5 T201 hT201 kk => ?_) 1000 0 T2 hT2 kk
        exact ih (v4 + 1) T201 hT201 kk
def WL_pl_settleDish_154 (l1 : Int32) (l2 : Nat) (l3 : Int32) (l4 : Int32) : Nat → Prop := fun c => (123 ≤ c ∧ c < 507)
theorem fr_pl_settleDish_154 {W : Nat → Prop} {T0 : St} (l1 : Int32) (l2 : Nat) (l3 : Int32) (l4 : Int32) {K : Int32 → St → St} {Kk : Int32 → St → Prop} (hW : ∀ c, WL_pl_settleDish_154 l1 l2 l3 l4 c → W c) (hk : ∀ (v5 : Int32) (T : St), Fr W T0 T → Kk v5 T → (Fr W T0) (K v5 T)) : ∀ (f : Nat) (v5 : Int32) (T : St), Fr W T0 T → ok_pl_settleDish_154 l1 l2 l3 l4 Kk f v5 T → (Fr W T0) (x_pl_settleDish_154 l1 l2 l3 l4 K f v5 T) := by
  intro f
  induction f with
  | zero => intro v5 T hT kk; exact kk.elim
  | succ f ih =>
    intro v5 T hT kk
    rw [ok_pl_settleDish_154] at kk
    rw [x_pl_settleDish_154]
    refine fr_if (Q := (Fr W T0)) (fun c157_6 => ?_) (fun c157_6 => ?_)
    · have kk := kk.1 c157_6
      exact hk v5 T hT kk
    · have kk := kk.2 c157_6
      obtain ⟨q11, kk⟩ := kk
      have gq11 := in_lt q11
      obtain ⟨q12, kk⟩ := kk
      obtain ⟨q13, kk⟩ := kk
      have gq13 := in_lt q13
      obtain ⟨q14, kk⟩ := kk
      refine fr_nT (Q := (Fr W T0)) (fr_sL hT (hW _ (by unfold WL_pl_settleDish_154; omega))) kk (fun T4 hT4 kk => ?_)
      exact ih (v5 + 1) T4 hT4 kk
def WL_pl_settleDish_125 (l1 : Int32) (l2 : Nat) (l3 : Int32) : Nat → Prop := fun c => (123 ≤ c ∧ c < 507)
theorem fr_pl_settleDish_125 {W : Nat → Prop} {T0 : St} (l1 : Int32) (l2 : Nat) (l3 : Int32) {K : Int32 → St → St} {Kk : Int32 → St → Prop} (hW : ∀ c, WL_pl_settleDish_125 l1 l2 l3 c → W c) (hk : ∀ (v4 : Int32) (T : St), Fr W T0 T → Kk v4 T → (Fr W T0) (K v4 T)) : ∀ (f : Nat) (v4 : Int32) (T : St), Fr W T0 T → ok_pl_settleDish_125 l1 l2 l3 Kk f v4 T → (Fr W T0) (x_pl_settleDish_125 l1 l2 l3 K f v4 T) := by
  intro f
  induction f with
  | zero => intro v4 T hT kk; exact kk.elim
  | succ f ih =>
    intro v4 T hT kk
    rw [ok_pl_settleDish_125] at kk
    rw [x_pl_settleDish_125]
    obtain ⟨q9, kk⟩ := kk
    have gq9 := in_lt q9
    refine fr_if (Q := (Fr W T0)) (fun c135_4 => ?_) (fun c135_4 => ?_)
    · have kk := kk.1 c135_4
      exact hk v4 T hT kk
    · have kk := kk.2 c135_4
      obtain ⟨q10, kk⟩ := kk
      have gq10 := in_lt q10
      refine fr_if (Q := (Fr W T0)) (fun c148_5 => ?_) (fun c148_5 => ?_)
      · have kk := kk.1 c148_5
        exact ih (v4 + 1) T hT kk
      · have kk := kk.2 c148_5
        refine fr_pl_settleDish_154 l1 l2 l3 v4 (fun c h => hW c (by unfold WL_pl_settleDish_154 at h; unfold WL_pl_settleDish_125; omega)) (fun w3_5 T203 hT203 kk => ?_) 1000 0 T hT kk
        exact ih (v4 + 1) T203 hT203 kk
def WL_pl_settleDish_202 (l1 : Int32) (l2 : Nat) (l3 : Int32) : Nat → Prop := fun c => (98 ≤ c ∧ c < 99)
theorem fr_pl_settleDish_202 {W : Nat → Prop} {T0 : St} (l1 : Int32) (l2 : Nat) (l3 : Int32) {K : Int32 → St → St} {Kk : Int32 → St → Prop} (hW : ∀ c, WL_pl_settleDish_202 l1 l2 l3 c → W c) (hk : ∀ (v4 : Int32) (T : St), Fr W T0 T → Kk v4 T → (Fr W T0) (K v4 T)) : ∀ (f : Nat) (v4 : Int32) (T : St), Fr W T0 T → ok_pl_settleDish_202 l1 l2 l3 Kk f v4 T → (Fr W T0) (x_pl_settleDish_202 l1 l2 l3 K f v4 T) := by
  intro f
  induction f with
  | zero => intro v4 T hT kk; exact kk.elim
  | succ f ih =>
    intro v4 T hT kk
    rw [ok_pl_settleDish_202] at kk
    rw [x_pl_settleDish_202]
    refine fr_if (Q := (Fr W T0)) (fun c211_7 => ?_) (fun c211_7 => ?_)
    · have kk := kk.1 c211_7
      exact hk v4 T hT kk
    · have kk := kk.2 c211_7
      obtain ⟨q15, kk⟩ := kk
      have gq15 := in_lt q15
      exact ih (v4 + 1) (sA T 98 (v4 : Int32).toNatClampNeg (-1)) (fr_sA hT (hW _ (by unfold WL_pl_settleDish_202; omega))) kk
def W_pl_settleDish (T : St) (p0 : Int32) : Nat → Prop := fun c => (83 ≤ c ∧ c < 84) ∨ (85 ≤ c ∧ c < 93) ∨ (98 ≤ c ∧ c < 99) ∨ (123 ≤ c ∧ c < 507)
theorem fr_pl_settleDish {T : St} (p0 : Int32) (kk : ok_pl_settleDish T p0) : Fr (W_pl_settleDish T p0) T (x_pl_settleDish T p0) := by
  unfold ok_pl_settleDish at kk
  have hW : ∀ c, W_pl_settleDish T p0 c → W_pl_settleDish T p0 c := fun _ h => h
  have hT : Fr (W_pl_settleDish T p0) T T := fr_rfl
  unfold x_pl_settleDish
  obtain ⟨q1, kk⟩ := kk
  have gq1 := in_lt q1
  refine fr_nN (Q := (Fr (W_pl_settleDish T p0) T)) kk (fun r1 er1 kk => ?_)
  obtain ⟨q2, kk⟩ := kk
  refine fr_pl_settleDish_30 p0 r1 (p0 * 12) (fun c h => hW c (by unfold WL_pl_settleDish_30 at h; unfold W_pl_settleDish; omega)) (fun w2_4 T202 hT202 kk => ?_) 1000 (p0 * 12) (sA (x_fillJ T r1 (-1)) 83 (p0 : Int32).toNatClampNeg 1000000) (fr_sA (fr_tr hT ((fr_fillJ r1 (-1) q2)) (fun c h => hW c (by unfold W_fillJ at h; unfold W_pl_settleDish; omega))) (hW _ (by unfold W_pl_settleDish; omega))) kk
  refine fr_pl_settleDish_125 p0 r1 (p0 * 12) (fun c h => hW c (by unfold WL_pl_settleDish_125 at h; unfold W_pl_settleDish; omega)) (fun w4_4 T204 hT204 kk => ?_) 1000 (p0 * 12) T202 hT202 kk
  refine fr_pl_settleDish_202 p0 r1 (p0 * 12) (fun c h => hW c (by unfold WL_pl_settleDish_202 at h; unfold W_pl_settleDish; omega)) (fun w5_4 T205 hT205 kk => ?_) 1000 ((p0 * 12) * 8) T204 hT204 kk
  exact hT205
def W_pl_keepPicked (T : St) (p0 : Int32) : Nat → Prop := fun c => (96 ≤ c ∧ c < 97) ∨ (18013 ≤ c ∧ c < 18014) ∨ (18017 ≤ c ∧ c < 18018)
theorem fr_pl_keepPicked {T : St} (p0 : Int32) (kk : ok_pl_keepPicked T p0) : Fr (W_pl_keepPicked T p0) T (x_pl_keepPicked T p0) := by
  unfold ok_pl_keepPicked at kk
  have hW : ∀ c, W_pl_keepPicked T p0 c → W_pl_keepPicked T p0 c := fun _ h => h
  have hT : Fr (W_pl_keepPicked T p0) T T := fr_rfl
  unfold x_pl_keepPicked
  refine fr_jn (Q := (Fr (W_pl_keepPicked T p0) T)) (J := fun (KJ1 : Int32 → St) (OJ1 : Int32 → Prop) => ∀ (j1_s1 : Int32), OJ1 j1_s1 → (Fr (W_pl_keepPicked T p0) T) (KJ1 j1_s1)) kk (fun j1_s1 kk => ?_) (fun KJ1 OJ1 hJ1 kk => ?_)
  · skip
    obtain ⟨q1, kk⟩ := kk
    exact (fr_sAr (fr_sF (fr_sF hT (hW _ (by unfold W_pl_keepPicked; omega))) (hW _ (by unfold W_pl_keepPicked; omega))) (hW _ (by unfold W_pl_keepPicked; omega)))
  · skip
    refine fr_if (Q := (Fr (W_pl_keepPicked T p0) T)) (fun c10_2 => ?_) (fun c10_2 => ?_)
    · have kk := kk.1 c10_2
      exact hJ1 p0 kk
    · have kk := kk.2 c10_2
      exact hJ1 0 kk
def WL_pl_tell_2 (l1 : Nat) : Nat → Prop := fun c => (l1 + 2 ≤ c ∧ c < l1 + 3)
theorem fr_pl_tell_2 {W : Nat → Prop} {T0 : St} (l1 : Nat) {K : Int32 → St → St} {Kk : Int32 → St → Prop} (hW : ∀ c, WL_pl_tell_2 l1 c → W c) (hk : ∀ (v2 : Int32) (T : St), Fr W T0 T → Kk v2 T → (Fr W T0) (K v2 T)) : ∀ (f : Nat) (v2 : Int32) (T : St), Fr W T0 T → ok_pl_tell_2 l1 Kk f v2 T → (Fr W T0) (x_pl_tell_2 l1 K f v2 T) := by
  intro f
  induction f with
  | zero => intro v2 T hT kk; exact kk.elim
  | succ f ih =>
    intro v2 T hT kk
    rw [ok_pl_tell_2] at kk
    rw [x_pl_tell_2]
    obtain ⟨q1, kk⟩ := kk
    refine fr_if (Q := (Fr W T0)) (fun c7_1 => ?_) (fun c7_1 => ?_)
    · have kk := kk.1 c7_1
      exact hk v2 T hT kk
    · have kk := kk.2 c7_1
      refine fr_if (Q := (Fr W T0)) (fun c15_2 => ?_) (fun c15_2 => ?_)
      · have kk := kk.1 c15_2
        exact hk v2 T hT kk
      · have kk := kk.2 c15_2
        obtain ⟨q2, kk⟩ := kk
        have gq2 := in_lt q2
        refine fr_nT (Q := (Fr W T0)) (fr_sA hT (hW _ (by unfold WL_pl_tell_2; omega))) kk (fun T1 hT1 kk => ?_)
        exact ih (v2 + 1) T1 hT1 kk
def WL_pl_tell_48 (l1 : Nat) : Nat → Prop := fun c => (l1 + 5 ≤ c ∧ c < l1 + 6)
theorem fr_pl_tell_48 {W : Nat → Prop} {T0 : St} (l1 : Nat) {K : Int32 → St → St} {Kk : Int32 → St → Prop} (hW : ∀ c, WL_pl_tell_48 l1 c → W c) (hk : ∀ (v2 : Int32) (T : St), Fr W T0 T → Kk v2 T → (Fr W T0) (K v2 T)) : ∀ (f : Nat) (v2 : Int32) (T : St), Fr W T0 T → ok_pl_tell_48 l1 Kk f v2 T → (Fr W T0) (x_pl_tell_48 l1 K f v2 T) := by
  intro f
  induction f with
  | zero => intro v2 T hT kk; exact kk.elim
  | succ f ih =>
    intro v2 T hT kk
    rw [ok_pl_tell_48] at kk
    rw [x_pl_tell_48]
    obtain ⟨q3, kk⟩ := kk
    refine fr_if (Q := (Fr W T0)) (fun c53_3 => ?_) (fun c53_3 => ?_)
    · have kk := kk.1 c53_3
      exact hk v2 T hT kk
    · have kk := kk.2 c53_3
      obtain ⟨q4, kk⟩ := kk
      have gq4 := in_lt q4
      refine fr_n (Q := (Fr W T0)) kk (fun i2 kk => ?_)
      obtain ⟨q5, kk⟩ := kk
      have gq5 := in_lt q5
      obtain ⟨q6, kk⟩ := kk
      have gq6 := in_lt q6
      obtain ⟨q7, kk⟩ := kk
      obtain ⟨q8, kk⟩ := kk
      have gq8 := in_lt q8
      obtain ⟨q9, kk⟩ := kk
      obtain ⟨q10, kk⟩ := kk
      have gq10 := in_lt q10
      refine fr_nT (Q := (Fr W T0)) (fr_sA hT (hW _ (by unfold WL_pl_tell_48; omega))) kk (fun T3 hT3 kk => ?_)
      exact ih (v2 + 1) T3 hT3 kk
def W_pl_tell (T : St) (p0 : Nat) : Nat → Prop := fun c => (p0 + 2 ≤ c ∧ c < p0 + 3) ∨ (p0 + 5 ≤ c ∧ c < p0 + 6)
theorem fr_pl_tell {T : St} (p0 : Nat) (kk : ok_pl_tell T p0) : Fr (W_pl_tell T p0) T (x_pl_tell T p0) := by
  unfold ok_pl_tell at kk
  have hW : ∀ c, W_pl_tell T p0 c → W_pl_tell T p0 c := fun _ h => h
  have hT : Fr (W_pl_tell T p0) T T := fr_rfl
  unfold x_pl_tell
  refine fr_pl_tell_2 p0 (fun c h => hW c (by unfold WL_pl_tell_2 at h; unfold W_pl_tell; omega)) (fun w1_2 T201 hT201 kk => ?_) 1000 0 T hT kk
  refine fr_pl_tell_48 p0 (fun c h => hW c (by unfold WL_pl_tell_48 at h; unfold W_pl_tell; omega)) (fun w2_2 T202 hT202 kk => ?_) 1000 0 T201 hT201 kk
  exact hT202
def WL_rd_put_5 (l1 : Int64) (l3 : Int32) : Nat → Prop := fun c => (14 ≤ c ∧ c < 15) ∨ (11301 ≤ c ∧ c < 11302)
theorem fr_rd_put_5 {W : Nat → Prop} {T0 : St} (l1 : Int64) (l3 : Int32) {K : Int32 → St → St} {Kk : Int32 → St → Prop} (hW : ∀ c, WL_rd_put_5 l1 l3 c → W c) (hk : ∀ (v4 : Int32) (T : St), Fr W T0 T → Kk v4 T → (Fr W T0) (K v4 T)) : ∀ (f : Nat) (v4 : Int32) (T : St), Fr W T0 T → ok_rd_put_5 l1 l3 Kk f v4 T → (Fr W T0) (x_rd_put_5 l1 l3 K f v4 T) := by
  intro f
  induction f with
  | zero => intro v4 T hT kk; exact kk.elim
  | succ f ih =>
    intro v4 T hT kk
    rw [ok_rd_put_5] at kk
    rw [x_rd_put_5]
    refine fr_if (Q := (Fr W T0)) (fun c7_1 => ?_) (fun c7_1 => ?_)
    · have kk := kk.1 c7_1
      exact hk v4 T hT kk
    · have kk := kk.2 c7_1
      refine fr_if (Q := (Fr W T0)) (fun c17_2 => ?_) (fun c17_2 => ?_)
      · have kk := kk.1 c17_2
        exact hk v4 T hT kk
      · have kk := kk.2 c17_2
        obtain ⟨q1, kk⟩ := kk
        have gq1 := in_lt q1
        refine fr_nT (Q := (Fr W T0)) (fr_sA hT (hW _ (by unfold WL_rd_put_5; omega))) kk (fun T1 hT1 kk => ?_)
        exact ih (v4 + (-1)) (sF T1 13 1 ((T1.1 13 1) + 1)) (fr_sF hT1 (hW _ (by unfold WL_rd_put_5; omega))) kk
def W_rd_put (T : St) (p0 : Int64) (p1 : Int32) : Nat → Prop := fun c => (14 ≤ c ∧ c < 15) ∨ (11301 ≤ c ∧ c < 11302)
theorem fr_rd_put {T : St} (p0 : Int64) (p1 : Int32) (kk : ok_rd_put T p0 p1) : Fr (W_rd_put T p0 p1) T (x_rd_put T p0 p1) := by
  unfold ok_rd_put at kk
  have hW : ∀ c, W_rd_put T p0 p1 c → W_rd_put T p0 p1 c := fun _ h => h
  have hT : Fr (W_rd_put T p0 p1) T T := fr_rfl
  unfold x_rd_put
  refine fr_rd_put_5 p0 p1 (fun c h => hW c (by unfold WL_rd_put_5 at h; unfold W_rd_put; omega)) (fun w1_4 T201 hT201 kk => ?_) 1000 (p1 - 1) T hT kk
  exact hT201
def WL_rd_takeFigures_5  : Nat → Prop := fun c => (11304 ≤ c ∧ c < 11305) ∨ (11306 ≤ c ∧ c < 11307)
theorem fr_rd_takeFigures_5 {W : Nat → Prop} {T0 : St}  {K : St → St} {Kk : St → Prop} (hW : ∀ c, WL_rd_takeFigures_5  c → W c) (hk : ∀  (T : St), Fr W T0 T → Kk  T → (Fr W T0) (K  T)) : ∀ (f : Nat)  (T : St), Fr W T0 T → ok_rd_takeFigures_5  Kk f  T → (Fr W T0) (x_rd_takeFigures_5  K f  T) := by
  intro f
  induction f with
  | zero => intro  T hT kk; exact kk.elim
  | succ f ih =>
    intro  T hT kk
    rw [ok_rd_takeFigures_5] at kk
    rw [x_rd_takeFigures_5]
    refine fr_if (Q := (Fr W T0)) (fun c13_1 => ?_) (fun c13_1 => ?_)
    · have kk := kk.1 c13_1
      exact hk  T hT kk
    · have kk := kk.2 c13_1
      obtain ⟨q1, kk⟩ := kk
      have gq1 := in_lt q1
      refine fr_if (Q := (Fr W T0)) (fun c27_2 => ?_) (fun c27_2 => ?_)
      · have kk := kk.1 c27_2
        exact hk  T hT kk
      · have kk := kk.2 c27_2
        refine fr_if (Q := (Fr W T0)) (fun c41_3 => ?_) (fun c41_3 => ?_)
        · have kk := kk.1 c41_3
          exact hk  T hT kk
        · have kk := kk.2 c41_3
          refine fr_nT (Q := (Fr W T0)) (fr_sF (fr_sF hT (hW _ (by unfold WL_rd_takeFigures_5; omega))) (hW _ (by unfold WL_rd_takeFigures_5; omega))) kk (fun T1 hT1 kk => ?_)
          exact ih  T1 hT1 kk
def W_rd_takeFigures (T : St)  : Nat → Prop := fun c => (11304 ≤ c ∧ c < 11307)
theorem fr_rd_takeFigures {T : St}  (kk : ok_rd_takeFigures T ) : Fr (W_rd_takeFigures T ) T (x_rd_takeFigures T ) := by
  unfold ok_rd_takeFigures at kk
  have hW : ∀ c, W_rd_takeFigures T  c → W_rd_takeFigures T  c := fun _ h => h
  have hT : Fr (W_rd_takeFigures T ) T T := fr_rfl
  unfold x_rd_takeFigures
  refine fr_rd_takeFigures_5  (fun c h => hW c (by unfold WL_rd_takeFigures_5 at h; unfold W_rd_takeFigures; omega)) (fun  T201 hT201 kk => ?_) 1000  (sF T 13 6 0) (fr_sF hT (hW _ (by unfold W_rd_takeFigures; omega))) kk
  refine fr_if (Q := (Fr (W_rd_takeFigures T ) T)) (fun c92_4 => ?_) (fun c92_4 => ?_)
  · exact (fr_sF hT201 (hW _ (by unfold W_rd_takeFigures; omega)))
  · exact (fr_sF hT201 (hW _ (by unfold W_rd_takeFigures; omega)))
def WL_ro_fillDish_2 (l0 : Nat) (l1 : Nat) (l2 : Int32) : Nat → Prop := fun c => (l0 + 3 ≤ c ∧ c < l0 + 5) ∨ (l0 + 6 ≤ c ∧ c < l0 + 7) ∨ (10000 + 100 * l0 ≤ c ∧ c < 10000 + 100 * l0 + 100)
theorem fr_ro_fillDish_2 {W : Nat → Prop} {T0 : St} (l0 : Nat) (l1 : Nat) (l2 : Int32) {K : Int32 → St → St} {Kk : Int32 → St → Prop} (hW : ∀ c, WL_ro_fillDish_2 l0 l1 l2 c → W c) (hk : ∀ (v3 : Int32) (T : St), Fr W T0 T → Kk v3 T → (Fr W T0) (K v3 T)) : ∀ (f : Nat) (v3 : Int32) (T : St), Fr W T0 T → ok_ro_fillDish_2 l0 l1 l2 Kk f v3 T → (Fr W T0) (x_ro_fillDish_2 l0 l1 l2 K f v3 T) := by
  intro f
  induction f with
  | zero => intro v3 T hT kk; exact kk.elim
  | succ f ih =>
    intro v3 T hT kk
    rw [ok_ro_fillDish_2] at kk
    rw [x_ro_fillDish_2]
    obtain ⟨q1, kk⟩ := kk
    obtain ⟨q2, kk⟩ := kk
    have gq2 := in_lt q2
    refine fr_if (Q := (Fr W T0)) (fun c9_1 => ?_) (fun c9_1 => ?_)
    · have kk := kk.1 c9_1
      exact hk v3 T hT kk
    · have kk := kk.2 c9_1
      obtain ⟨q3, kk⟩ := kk
      refine fr_if (Q := (Fr W T0)) (fun c18_2 => ?_) (fun c18_2 => ?_)
      · have kk := kk.1 c18_2
        exact hk v3 T hT kk
      · have kk := kk.2 c18_2
        refine fr_n (Q := (Fr W T0)) kk (fun i1 kk => ?_)
        obtain ⟨q4, kk⟩ := kk
        have gq4 := in_lt q4
        obtain ⟨q5, kk⟩ := kk
        have gq5 := in_lt q5
        refine fr_nT (Q := (Fr W T0)) (fr_sA (fr_sA hT (hW _ (by unfold WL_ro_fillDish_2; omega))) (hW _ (by unfold WL_ro_fillDish_2; omega))) kk (fun T2 hT2 kk => ?_)
        obtain ⟨q6, kk⟩ := kk
        have gq6 := in_lt q6
        obtain ⟨q7, kk⟩ := kk
        have gq7 := in_lt q7
        refine fr_nT (Q := (Fr W T0)) (fr_sA hT2 (hW _ (by unfold WL_ro_fillDish_2; omega))) kk (fun T3 hT3 kk => ?_)
        exact ih (v3 + 1) (sF T3 l0 1 ((T3.1 l0 1) + 1)) (fr_sF hT3 (hW _ (by unfold WL_ro_fillDish_2; omega))) kk
def W_ro_fillDish (T : St) (a : Nat) (p0 : Nat) (p1 : Int32) : Nat → Prop := fun c => (a + 3 ≤ c ∧ c < a + 5) ∨ (a + 6 ≤ c ∧ c < a + 7) ∨ (10000 + 100 * a ≤ c ∧ c < 10000 + 100 * a + 100)
theorem fr_ro_fillDish {T : St} (a : Nat) (p0 : Nat) (p1 : Int32) (kk : ok_ro_fillDish T a p0 p1) : Fr (W_ro_fillDish T a p0 p1) T (x_ro_fillDish T a p0 p1) := by
  unfold ok_ro_fillDish at kk
  have hW : ∀ c, W_ro_fillDish T a p0 p1 c → W_ro_fillDish T a p0 p1 c := fun _ h => h
  have hT : Fr (W_ro_fillDish T a p0 p1) T T := fr_rfl
  unfold x_ro_fillDish
  refine fr_ro_fillDish_2 a p0 p1 (fun c h => hW c (by unfold WL_ro_fillDish_2 at h; unfold W_ro_fillDish; omega)) (fun w1_3 T201 hT201 kk => ?_) 1000 0 T hT kk
  exact hT201
def W_ro_take (T : St) (a : Nat) (p0 : Nat) : Nat → Prop := fun c => (a + 1 ≤ c ∧ c < a + 7) ∨ (10000 + 100 * a ≤ c ∧ c < 10000 + 100 * a + 100)
theorem fr_ro_take {T : St} (a : Nat) (p0 : Nat) (kk : ok_ro_take T a p0) : Fr (W_ro_take T a p0) T (x_ro_take T a p0) := by
  unfold ok_ro_take at kk
  have hW : ∀ c, W_ro_take T a p0 c → W_ro_take T a p0 c := fun _ h => h
  have hT : Fr (W_ro_take T a p0) T T := fr_rfl
  unfold x_ro_take
  obtain ⟨q1, kk⟩ := kk
  obtain ⟨q2, kk⟩ := kk
  obtain ⟨q3, kk⟩ := kk
  refine fr_nT (Q := (Fr (W_ro_take T a p0) T)) (fr_sAr (fr_sF (fr_sF hT (hW _ (by unfold W_ro_take; omega))) (hW _ (by unfold W_ro_take; omega))) (hW _ (by unfold W_ro_take; omega))) kk (fun T1 hT1 kk => ?_)
  refine fr_nT (Q := (Fr (W_ro_take T a p0) T)) (fr_sAr hT1 (hW _ (by unfold W_ro_take; omega))) kk (fun T2 hT2 kk => ?_)
  obtain ⟨q4, kk⟩ := kk
  refine fr_nT0 (Q := (Fr (W_ro_take T a p0) T)) (fr_sAr hT2 (hW _ (by unfold W_ro_take; omega))) (fun T3 hT3 => ?_)
  refine fr_nT0 (Q := (Fr (W_ro_take T a p0) T)) (fr_sAr hT3 (hW _ (by unfold W_ro_take; omega))) (fun T4 hT4 => ?_)
  refine fr_nT0 (Q := (Fr (W_ro_take T a p0) T)) (fr_sAr hT4 (hW _ (by unfold W_ro_take; omega))) (fun T5 hT5 => ?_)
  exact (fr_sAr hT5 (hW _ (by unfold W_ro_take; omega)))
def W_sh_lay (T : St) (p0 : Int32) (p1 : Int32) (p2 : Int32) : Nat → Prop := fun c => (2 ≤ c ∧ c < 4) ∨ (5 ≤ c ∧ c < 13)
theorem fr_sh_lay {T : St} (p0 : Int32) (p1 : Int32) (p2 : Int32) (kk : ok_sh_lay T p0 p1 p2) : Fr (W_sh_lay T p0 p1 p2) T (x_sh_lay T p0 p1 p2) := by
  unfold ok_sh_lay at kk
  have hW : ∀ c, W_sh_lay T p0 p1 p2 c → W_sh_lay T p0 p1 p2 c := fun _ h => h
  have hT : Fr (W_sh_lay T p0 p1 p2) T T := fr_rfl
  unfold x_sh_lay
  obtain ⟨q1, kk⟩ := kk
  have gq1 := in_lt q1
  obtain ⟨q2, kk⟩ := kk
  exact (fr_tr (fr_sA (fr_sA hT (hW _ (by unfold W_sh_lay; omega))) (hW _ (by unfold W_sh_lay; omega))) ((fr_fillI (5 + (p0 : Int32).toNatClampNeg) 0 q2)) (fun c h => hW c (by unfold W_fillI at h; unfold W_sh_lay; omega)))
def W_sh_write (T : St) (p0 : Int32) (p1 : Int32) (p2 : Int32) : Nat → Prop := fun c => (5 ≤ c ∧ c < 13)
theorem fr_sh_write {T : St} (p0 : Int32) (p1 : Int32) (p2 : Int32) (kk : ok_sh_write T p0 p1 p2) : FrP (W_sh_write T p0 p1 p2) T (x_sh_write T p0 p1 p2) := by
  unfold ok_sh_write at kk
  have hW : ∀ c, W_sh_write T p0 p1 p2 c → W_sh_write T p0 p1 p2 c := fun _ h => h
  have hT : Fr (W_sh_write T p0 p1 p2) T T := fr_rfl
  unfold x_sh_write
  obtain ⟨q1, kk⟩ := kk
  have gq1 := in_lt q1
  refine fr_jn (Q := (FrP (W_sh_write T p0 p1 p2) T)) (J := fun (KJ1 : Int32 → Int32 × St) (OJ1 : Int32 → Prop) => ∀ (j1_s0 : Int32), OJ1 j1_s0 → (FrP (W_sh_write T p0 p1 p2) T) (KJ1 j1_s0)) kk (fun j1_s0 kk => ?_) (fun KJ1 OJ1 hJ1 kk => ?_)
  · skip
    obtain ⟨q2, kk⟩ := kk
    have gq2 := in_lt q2
    exact frp_i (fr_sA hT (hW _ (by unfold W_sh_write; omega)))
  · skip
    refine fr_if (Q := (FrP (W_sh_write T p0 p1 p2) T)) (fun c6_3 => ?_) (fun c6_3 => ?_)
    · have kk := kk.1 c6_3
      exact hJ1 ((p2 : Int32).toInt8.toInt32) kk
    · have kk := kk.2 c6_3
      refine fr_if (Q := (FrP (W_sh_write T p0 p1 p2) T)) (fun c21_4 => ?_) (fun c21_4 => ?_)
      · have kk := kk.1 c21_4
        exact hJ1 ((p2 : Int32).toInt16.toInt32) kk
      · have kk := kk.2 c21_4
        exact hJ1 p2 kk
def W_sh_lose (T : St) (p0 : Int32) : Nat → Prop := fun c => (2 ≤ c ∧ c < 3)
theorem fr_sh_lose {T : St} (p0 : Int32) (kk : ok_sh_lose T p0) : FrP (W_sh_lose T p0) T (x_sh_lose T p0) := by
  unfold ok_sh_lose at kk
  have hW : ∀ c, W_sh_lose T p0 c → W_sh_lose T p0 c := fun _ h => h
  have hT : Fr (W_sh_lose T p0) T T := fr_rfl
  unfold x_sh_lose
  obtain ⟨q1, kk⟩ := kk
  have gq1 := in_lt q1
  exact frp_i (fr_sA hT (hW _ (by unfold W_sh_lose; omega)))
def WL_ta_open_2 (l0 : Nat) (l1 : Nat) : Nat → Prop := fun c => (l0 + 1 ≤ c ∧ c < l0 + 5)
theorem fr_ta_open_2 {W : Nat → Prop} {T0 : St} (l0 : Nat) (l1 : Nat) {K : Int32 → St → St} {Kk : Int32 → St → Prop} (hW : ∀ c, WL_ta_open_2 l0 l1 c → W c) (hk : ∀ (v2 : Int32) (T : St), Fr W T0 T → Kk v2 T → (Fr W T0) (K v2 T)) : ∀ (f : Nat) (v2 : Int32) (T : St), Fr W T0 T → ok_ta_open_2 l0 l1 Kk f v2 T → (Fr W T0) (x_ta_open_2 l0 l1 K f v2 T) := by
  intro f
  induction f with
  | zero => intro v2 T hT kk; exact kk.elim
  | succ f ih =>
    intro v2 T hT kk
    rw [ok_ta_open_2] at kk
    rw [x_ta_open_2]
    refine fr_if (Q := (Fr W T0)) (fun c4_1 => ?_) (fun c4_1 => ?_)
    · have kk := kk.1 c4_1
      exact hk v2 T hT kk
    · have kk := kk.2 c4_1
      obtain ⟨q1, kk⟩ := kk
      obtain ⟨q2, kk⟩ := kk
      have gq2 := in_lt q2
      refine fr_nT (Q := (Fr W T0)) (fr_sL (fr_sL (fr_sL hT (hW _ (by unfold WL_ta_open_2; omega))) (hW _ (by unfold WL_ta_open_2; omega))) (hW _ (by unfold WL_ta_open_2; omega))) kk (fun T1 hT1 kk => ?_)
      obtain ⟨q3, kk⟩ := kk
      obtain ⟨q4, kk⟩ := kk
      exact ih (v2 + 1) (sL T1 (l0 + 4) (v2 : Int32).toNatClampNeg (x_ki_fewerThan T1 l1 v2 1)) (fr_sL hT1 (hW _ (by unfold WL_ta_open_2; omega))) kk
def W_ta_open (T : St) (a : Nat) (p0 : Nat) : Nat → Prop := fun c => (a + 1 ≤ c ∧ c < a + 5)
theorem fr_ta_open {T : St} (a : Nat) (p0 : Nat) (kk : ok_ta_open T a p0) : Fr (W_ta_open T a p0) T (x_ta_open T a p0) := by
  unfold ok_ta_open at kk
  have hW : ∀ c, W_ta_open T a p0 c → W_ta_open T a p0 c := fun _ h => h
  have hT : Fr (W_ta_open T a p0) T T := fr_rfl
  unfold x_ta_open
  refine fr_ta_open_2 a p0 (fun c h => hW c (by unfold WL_ta_open_2 at h; unfold W_ta_open; omega)) (fun w1_2 T201 hT201 kk => ?_) 1000 0 T hT kk
  exact hT201
def WL_ta_add_3 (l0 : Nat) (l1 : Nat) (l2 : Nat) (l3 : Nat) : Nat → Prop := fun c => (l0 + 1 ≤ c ∧ c < l0 + 5)
theorem fr_ta_add_3 {W : Nat → Prop} {T0 : St} (l0 : Nat) (l1 : Nat) (l2 : Nat) (l3 : Nat) {K : Int32 → St → St} {Kk : Int32 → St → Prop} (hW : ∀ c, WL_ta_add_3 l0 l1 l2 l3 c → W c) (hk : ∀ (v4 : Int32) (T : St), Fr W T0 T → Kk v4 T → (Fr W T0) (K v4 T)) : ∀ (f : Nat) (v4 : Int32) (T : St), Fr W T0 T → ok_ta_add_3 l0 l1 l2 l3 Kk f v4 T → (Fr W T0) (x_ta_add_3 l0 l1 l2 l3 K f v4 T) := by
  intro f
  induction f with
  | zero => intro v4 T hT kk; exact kk.elim
  | succ f ih =>
    intro v4 T hT kk
    rw [ok_ta_add_3] at kk
    rw [x_ta_add_3]
    refine fr_if (Q := (Fr W T0)) (fun c6_1 => ?_) (fun c6_1 => ?_)
    · have kk := kk.1 c6_1
      exact hk v4 T hT kk
    · have kk := kk.2 c6_1
      obtain ⟨q1, kk⟩ := kk
      obtain ⟨q2, kk⟩ := kk
      have gq2 := in_lt q2
      refine fr_n (Q := (Fr W T0)) kk (fun k1 kk => ?_)
      obtain ⟨q3, kk⟩ := kk
      obtain ⟨q4, kk⟩ := kk
      refine fr_nT (Q := (Fr W T0)) (fr_sL hT (hW _ (by unfold WL_ta_add_3; omega))) kk (fun T2 hT2 kk => ?_)
      refine fr_nT (Q := (Fr W T0)) (fr_sL hT2 (hW _ (by unfold WL_ta_add_3; omega))) kk (fun T3 hT3 kk => ?_)
      refine fr_nT (Q := (Fr W T0)) (fr_sL hT3 (hW _ (by unfold WL_ta_add_3; omega))) kk (fun T4 hT4 kk => ?_)
      obtain ⟨q5, kk⟩ := kk
      obtain ⟨q6, kk⟩ := kk
      obtain ⟨q7, kk⟩ := kk
      obtain ⟨q8, kk⟩ := kk
      obtain ⟨q9, kk⟩ := kk
      refine fr_nT (Q := (Fr W T0)) (fr_sL hT4 (hW _ (by unfold WL_ta_add_3; omega))) kk (fun T5 hT5 kk => ?_)
      exact ih (v4 + 1) T5 hT5 kk
def W_ta_add (T : St) (a : Nat) (p0 : Nat) (p1 : Nat) (p2 : Nat) : Nat → Prop := fun c => (a + 1 ≤ c ∧ c < a + 5)
theorem fr_ta_add {T : St} (a : Nat) (p0 : Nat) (p1 : Nat) (p2 : Nat) (kk : ok_ta_add T a p0 p1 p2) : Fr (W_ta_add T a p0 p1 p2) T (x_ta_add T a p0 p1 p2) := by
  unfold ok_ta_add at kk
  have hW : ∀ c, W_ta_add T a p0 p1 p2 c → W_ta_add T a p0 p1 p2 c := fun _ h => h
  have hT : Fr (W_ta_add T a p0 p1 p2) T T := fr_rfl
  unfold x_ta_add
  refine fr_ta_add_3 a p0 p1 p2 (fun c h => hW c (by unfold WL_ta_add_3 at h; unfold W_ta_add; omega)) (fun w1_4 T201 hT201 kk => ?_) 1000 0 T hT kk
  exact hT201
def W_x_feed (T : St) (p0 : Int64) (p1 : Int32) : Nat → Prop := fun c => (14 ≤ c ∧ c < 15) ∨ (11301 ≤ c ∧ c < 11302)
theorem fr_x_feed {T : St} (p0 : Int64) (p1 : Int32) (kk : ok_x_feed T p0 p1) : FrP (W_x_feed T p0 p1) T (x_x_feed T p0 p1) := by
  unfold ok_x_feed at kk
  have hW : ∀ c, W_x_feed T p0 p1 c → W_x_feed T p0 p1 c := fun _ h => h
  have hT : Fr (W_x_feed T p0 p1) T T := fr_rfl
  unfold x_x_feed
  refine fr_if (Q := (FrP (W_x_feed T p0 p1) T)) (fun c2_1 => ?_) (fun c2_1 => ?_)
  · exact frp_i hT
  · have kk := kk c2_1
    refine fr_if (Q := (FrP (W_x_feed T p0 p1) T)) (fun c8_2 => ?_) (fun c8_2 => ?_)
    · have kk := kk c8_2
      refine fr_if (Q := (FrP (W_x_feed T p0 p1) T)) (fun c22_3 => ?_) (fun c22_3 => ?_)
      · exact frp_i hT
      · have kk := kk c22_3
        obtain ⟨q1, kk⟩ := kk
        exact frp_i (fr_tr hT ((fr_rd_put p0 p1 q1)) (fun c h => hW c (by unfold W_rd_put at h; unfold W_x_feed; omega)))
    · exact frp_i hT
def W_x_found (T : St) (p0 : Int32) : Nat → Prop := fun c => (10012 ≤ c ∧ c < 10013)
theorem fr_x_found {T : St} (p0 : Int32) : FrP (W_x_found T p0) T (x_x_found T p0) := by
  have hW : ∀ c, W_x_found T p0 c → W_x_found T p0 c := fun _ h => h
  have hT : Fr (W_x_found T p0) T T := fr_rfl
  unfold x_x_found
  exact frp_i (fr_sF hT (hW _ (by unfold W_x_found; omega)))
def W_x_fine (T : St) (p0 : Int32) : Nat → Prop := fun c => (10012 ≤ c ∧ c < 10013)
theorem fr_x_fine {T : St} (p0 : Int32) : FrP (W_x_fine T p0) T (x_x_fine T p0) := by
  have hW : ∀ c, W_x_fine T p0 c → W_x_fine T p0 c := fun _ h => h
  have hT : Fr (W_x_fine T p0) T T := fr_rfl
  unfold x_x_fine
  exact frp_i (fr_sF hT (hW _ (by unfold W_x_fine; omega)))
def W_m_finding (T : St) (p0 : Int32) : Nat → Prop := fun c => (67101 ≤ c ∧ c < 67102)
theorem fr_m_finding {T : St} (p0 : Int32) : FrP (W_m_finding T p0) T (x_m_finding T p0) := by
  have hW : ∀ c, W_m_finding T p0 c → W_m_finding T p0 c := fun _ h => h
  have hT : Fr (W_m_finding T p0) T T := fr_rfl
  unfold x_m_finding
  exact frp_i (fr_sF hT (hW _ (by unfold W_m_finding; omega)))
def WL_m_sheet_65 (l1 : Int32) (l2 : Int32) (l3 : Int32) : Nat → Prop := fun c => (574 ≤ c ∧ c < 575)
theorem fr_m_sheet_65 {W : Nat → Prop} {T0 : St} (l1 : Int32) (l2 : Int32) (l3 : Int32) {K : Int32 → St → Int32 × St} {Kk : Int32 → St → Prop} (hW : ∀ c, WL_m_sheet_65 l1 l2 l3 c → W c) (hk : ∀ (v4 : Int32) (T : St), Fr W T0 T → Kk v4 T → (FrP W T0) (K v4 T)) : ∀ (f : Nat) (v4 : Int32) (T : St), Fr W T0 T → ok_m_sheet_65 l1 l2 l3 Kk f v4 T → (FrP W T0) (x_m_sheet_65 l1 l2 l3 K f v4 T) := by
  intro f
  induction f with
  | zero => intro v4 T hT kk; exact kk.elim
  | succ f ih =>
    intro v4 T hT kk
    rw [ok_m_sheet_65] at kk
    rw [x_m_sheet_65]
    refine fr_if (Q := (FrP W T0)) (fun c69_5 => ?_) (fun c69_5 => ?_)
    · have kk := kk.1 c69_5
      exact hk v4 T hT kk
    · have kk := kk.2 c69_5
      obtain ⟨q2, kk⟩ := kk
      have gq2 := in_lt q2
      exact ih (v4 + 1) (sA T 574 ((40 * l1) + v4 : Int32).toNatClampNeg 0) (fr_sA hT (hW _ (by unfold WL_m_sheet_65; omega))) kk
def W_m_sheet (T : St) (p0 : Int32) (p1 : Int32) (p2 : Int32) : Nat → Prop := fun c => (572 ≤ c ∧ c < 575) ∨ (67100 ≤ c ∧ c < 67102)
theorem fr_m_sheet {T : St} (p0 : Int32) (p1 : Int32) (p2 : Int32) (kk : ok_m_sheet T p0 p1 p2) : FrP (W_m_sheet T p0 p1 p2) T (x_m_sheet T p0 p1 p2) := by
  unfold ok_m_sheet at kk
  have hW : ∀ c, W_m_sheet T p0 p1 p2 c → W_m_sheet T p0 p1 p2 c := fun _ h => h
  have hT : Fr (W_m_sheet T p0 p1 p2) T T := fr_rfl
  unfold x_m_sheet
  refine fr_if (Q := (FrP (W_m_sheet T p0 p1 p2) T)) (fun c9_1 => ?_) (fun c9_1 => ?_)
  · exact frp_i (fr_sF hT (hW _ (by unfold W_m_sheet; omega)))
  · have kk := kk c9_1
    refine fr_if (Q := (FrP (W_m_sheet T p0 p1 p2) T)) (fun c21_2 => ?_) (fun c21_2 => ?_)
    · exact frp_i (fr_sF hT (hW _ (by unfold W_m_sheet; omega)))
    · have kk := kk c21_2
      refine fr_if (Q := (FrP (W_m_sheet T p0 p1 p2) T)) (fun c27_3 => ?_) (fun c27_3 => ?_)
      · have kk := kk c27_3
        refine fr_if (Q := (FrP (W_m_sheet T p0 p1 p2) T)) (fun c39_4 => ?_) (fun c39_4 => ?_)
        · have kk := kk c39_4
          obtain ⟨q1, kk⟩ := kk
          have gq1 := in_lt q1
          refine fr_nT (Q := (FrP (W_m_sheet T p0 p1 p2) T)) (fr_sA (fr_sA (fr_sF (fr_sF hT (hW _ (by unfold W_m_sheet; omega))) (hW _ (by unfold W_m_sheet; omega))) (hW _ (by unfold W_m_sheet; omega))) (hW _ (by unfold W_m_sheet; omega))) kk (fun T1 hT1 kk => ?_)
          refine fr_m_sheet_65 p0 p1 p2 (fun c h => hW c (by unfold WL_m_sheet_65 at h; unfold W_m_sheet; omega)) (fun w1_4 T201 hT201 kk => ?_) 1000 0 T1 hT1 kk
          exact frp_i hT201
        · exact frp_i (fr_tr (fr_sF (fr_sF hT (hW _ (by unfold W_m_sheet; omega))) (hW _ (by unfold W_m_sheet; omega))) (frp_o (fr_m_finding 4)) (fun c h => hW c (by unfold W_m_finding at h; unfold W_m_sheet; omega)))
      · exact frp_i (fr_sF hT (hW _ (by unfold W_m_sheet; omega)))
def W_m_set (T : St) (p0 : Int32) (p1 : Int32) (p2 : Int32) : Nat → Prop := fun c => (574 ≤ c ∧ c < 575) ∨ (67100 ≤ c ∧ c < 67102)
theorem fr_m_set {T : St} (p0 : Int32) (p1 : Int32) (p2 : Int32) (kk : ok_m_set T p0 p1 p2) : FrP (W_m_set T p0 p1 p2) T (x_m_set T p0 p1 p2) := by
  unfold ok_m_set at kk
  have hW : ∀ c, W_m_set T p0 p1 p2 c → W_m_set T p0 p1 p2 c := fun _ h => h
  have hT : Fr (W_m_set T p0 p1 p2) T T := fr_rfl
  unfold x_m_set
  refine fr_if (Q := (FrP (W_m_set T p0 p1 p2) T)) (fun c9_1 => ?_) (fun c9_1 => ?_)
  · exact frp_i (fr_sF hT (hW _ (by unfold W_m_set; omega)))
  · have kk := kk c9_1
    obtain ⟨q1, kk⟩ := kk
    have gq1 := in_lt q1
    refine fr_if (Q := (FrP (W_m_set T p0 p1 p2) T)) (fun c26_2 => ?_) (fun c26_2 => ?_)
    · have kk := kk c26_2
      refine fr_if (Q := (FrP (W_m_set T p0 p1 p2) T)) (fun c50_3 => ?_) (fun c50_3 => ?_)
      · exact frp_i (fr_tr (fr_sF (fr_sF hT (hW _ (by unfold W_m_set; omega))) (hW _ (by unfold W_m_set; omega))) (frp_o (fr_m_finding 2)) (fun c h => hW c (by unfold W_m_finding at h; unfold W_m_set; omega)))
      · have kk := kk c50_3
        refine fr_jn (Q := (FrP (W_m_set T p0 p1 p2) T)) (J := fun (KJ1 : Int32 → Int32 × St) (OJ1 : Int32 → Prop) => ∀ (j1_s2 : Int32), OJ1 j1_s2 → (FrP (W_m_set T p0 p1 p2) T) (KJ1 j1_s2)) kk (fun j1_s2 kk => ?_) (fun KJ1 OJ1 hJ1 kk => ?_)
        · skip
          obtain ⟨q2, kk⟩ := kk
          have gq2 := in_lt q2
          exact frp_i (fr_sA (fr_sF (fr_sF hT (hW _ (by unfold W_m_set; omega))) (hW _ (by unfold W_m_set; omega))) (hW _ (by unfold W_m_set; omega)))
        · skip
          refine fr_if (Q := (FrP (W_m_set T p0 p1 p2) T)) (fun c75_6 => ?_) (fun c75_6 => ?_)
          · have kk := kk.1 c75_6
            exact hJ1 ((p2 : Int32).toInt8.toInt32) kk
          · have kk := kk.2 c75_6
            refine fr_if (Q := (FrP (W_m_set T p0 p1 p2) T)) (fun c90_7 => ?_) (fun c90_7 => ?_)
            · have kk := kk.1 c90_7
              exact hJ1 ((p2 : Int32).toInt16.toInt32) kk
            · have kk := kk.2 c90_7
              exact hJ1 p2 kk
    · exact frp_i (fr_tr (fr_sF (fr_sF hT (hW _ (by unfold W_m_set; omega))) (hW _ (by unfold W_m_set; omega))) (frp_o (fr_m_finding 1)) (fun c h => hW c (by unfold W_m_finding at h; unfold W_m_set; omega)))
def WL_m_copy_143 (l1 : Int32) (l2 : Int32) (l3 : Int32) (l4 : Int32) (l5 : Int32) (l6 : Int32) : Nat → Prop := fun c => (574 ≤ c ∧ c < 575)
theorem fr_m_copy_143 {W : Nat → Prop} {T0 : St} (l1 : Int32) (l2 : Int32) (l3 : Int32) (l4 : Int32) (l5 : Int32) (l6 : Int32) {K : Int32 → St → Int32 × St} {Kk : Int32 → St → Prop} (hW : ∀ c, WL_m_copy_143 l1 l2 l3 l4 l5 l6 c → W c) (hk : ∀ (v7 : Int32) (T : St), Fr W T0 T → Kk v7 T → (FrP W T0) (K v7 T)) : ∀ (f : Nat) (v7 : Int32) (T : St), Fr W T0 T → ok_m_copy_143 l1 l2 l3 l4 l5 l6 Kk f v7 T → (FrP W T0) (x_m_copy_143 l1 l2 l3 l4 l5 l6 K f v7 T) := by
  intro f
  induction f with
  | zero => intro v7 T hT kk; exact kk.elim
  | succ f ih =>
    intro v7 T hT kk
    rw [ok_m_copy_143] at kk
    rw [x_m_copy_143]
    refine fr_if (Q := (FrP W T0)) (fun c147_12 => ?_) (fun c147_12 => ?_)
    · have kk := kk.1 c147_12
      exact hk v7 T hT kk
    · have kk := kk.2 c147_12
      refine fr_jn (Q := (FrP W T0)) (J := fun (KJ2 : Int32 → Int32 × St) (OJ2 : Int32 → Prop) => ∀ (j2_s0 : Int32), OJ2 j2_s0 → (FrP W T0) (KJ2 j2_s0)) kk (fun j2_s0 kk => ?_) (fun KJ2 OJ2 hJ2 kk => ?_)
      · skip
        obtain ⟨q3, kk⟩ := kk
        have gq3 := in_lt q3
        obtain ⟨q4, kk⟩ := kk
        have gq4 := in_lt q4
        refine fr_nT (Q := (FrP W T0)) (fr_sA hT (hW _ (by unfold WL_m_copy_143; omega))) kk (fun T1 hT1 kk => ?_)
        exact ih (v7 + 1) T1 hT1 kk
      · skip
        refine fr_if (Q := (FrP W T0)) (fun c152_14 => ?_) (fun c152_14 => ?_)
        · have kk := kk.1 c152_14
          exact hJ2 ((l5 - 1) - v7) kk
        · have kk := kk.2 c152_14
          exact hJ2 v7 kk
def W_m_copy (T : St) (p0 : Int32) (p1 : Int32) (p2 : Int32) (p3 : Int32) (p4 : Int32) : Nat → Prop := fun c => (574 ≤ c ∧ c < 575) ∨ (67100 ≤ c ∧ c < 67102)
theorem fr_m_copy {T : St} (p0 : Int32) (p1 : Int32) (p2 : Int32) (p3 : Int32) (p4 : Int32) (kk : ok_m_copy T p0 p1 p2 p3 p4) : FrP (W_m_copy T p0 p1 p2 p3 p4) T (x_m_copy T p0 p1 p2 p3 p4) := by
  unfold ok_m_copy at kk
  have hW : ∀ c, W_m_copy T p0 p1 p2 p3 p4 c → W_m_copy T p0 p1 p2 p3 p4 c := fun _ h => h
  have hT : Fr (W_m_copy T p0 p1 p2 p3 p4) T T := fr_rfl
  unfold x_m_copy
  refine fr_if (Q := (FrP (W_m_copy T p0 p1 p2 p3 p4) T)) (fun c9_1 => ?_) (fun c9_1 => ?_)
  · exact frp_i (fr_sF hT (hW _ (by unfold W_m_copy; omega)))
  · have kk := kk c9_1
    refine fr_if (Q := (FrP (W_m_copy T p0 p1 p2 p3 p4) T)) (fun c16_2 => ?_) (fun c16_2 => ?_)
    · exact frp_i (fr_sF hT (hW _ (by unfold W_m_copy; omega)))
    · have kk := kk c16_2
      obtain ⟨q1, kk⟩ := kk
      have gq1 := in_lt q1
      refine fr_if (Q := (FrP (W_m_copy T p0 p1 p2 p3 p4) T)) (fun c33_3 => ?_) (fun c33_3 => ?_)
      · exact frp_i (fr_tr (fr_sF (fr_sF hT (hW _ (by unfold W_m_copy; omega))) (hW _ (by unfold W_m_copy; omega))) (frp_o (fr_m_finding 1)) (fun c h => hW c (by unfold W_m_finding at h; unfold W_m_copy; omega)))
      · have kk := kk c33_3
        obtain ⟨q2, kk⟩ := kk
        have gq2 := in_lt q2
        refine fr_if (Q := (FrP (W_m_copy T p0 p1 p2 p3 p4) T)) (fun c42_4 => ?_) (fun c42_4 => ?_)
        · have kk := kk c42_4
          refine fr_if (Q := (FrP (W_m_copy T p0 p1 p2 p3 p4) T)) (fun c63_5 => ?_) (fun c63_5 => ?_)
          · have kk := kk c63_5
            refine fr_if (Q := (FrP (W_m_copy T p0 p1 p2 p3 p4) T)) (fun c73_6 => ?_) (fun c73_6 => ?_)
            · exact frp_i (fr_tr (fr_sF (fr_sF hT (hW _ (by unfold W_m_copy; omega))) (hW _ (by unfold W_m_copy; omega))) (frp_o (fr_m_finding 2)) (fun c h => hW c (by unfold W_m_finding at h; unfold W_m_copy; omega)))
            · have kk := kk c73_6
              refine fr_if (Q := (FrP (W_m_copy T p0 p1 p2 p3 p4) T)) (fun c78_7 => ?_) (fun c78_7 => ?_)
              · exact frp_i (fr_tr (fr_sF (fr_sF hT (hW _ (by unfold W_m_copy; omega))) (hW _ (by unfold W_m_copy; omega))) (frp_o (fr_m_finding 2)) (fun c h => hW c (by unfold W_m_finding at h; unfold W_m_copy; omega)))
              · have kk := kk c78_7
                refine fr_if (Q := (FrP (W_m_copy T p0 p1 p2 p3 p4) T)) (fun c83_8 => ?_) (fun c83_8 => ?_)
                · exact frp_i (fr_tr (fr_sF (fr_sF hT (hW _ (by unfold W_m_copy; omega))) (hW _ (by unfold W_m_copy; omega))) (frp_o (fr_m_finding 2)) (fun c h => hW c (by unfold W_m_finding at h; unfold W_m_copy; omega)))
                · have kk := kk c83_8
                  refine fr_if (Q := (FrP (W_m_copy T p0 p1 p2 p3 p4) T)) (fun c100_9 => ?_) (fun c100_9 => ?_)
                  · exact frp_i (fr_tr (fr_sF (fr_sF hT (hW _ (by unfold W_m_copy; omega))) (hW _ (by unfold W_m_copy; omega))) (frp_o (fr_m_finding 2)) (fun c h => hW c (by unfold W_m_finding at h; unfold W_m_copy; omega)))
                  · have kk := kk c100_9
                    refine fr_if (Q := (FrP (W_m_copy T p0 p1 p2 p3 p4) T)) (fun c118_10 => ?_) (fun c118_10 => ?_)
                    · have kk := kk c118_10
                      refine fr_jn (Q := (FrP (W_m_copy T p0 p1 p2 p3 p4) T)) (J := fun (KJ1 : Int32 → Int32 × St) (OJ1 : Int32 → Prop) => ∀ (j1_s0 : Int32), OJ1 j1_s0 → (FrP (W_m_copy T p0 p1 p2 p3 p4) T) (KJ1 j1_s0)) kk (fun j1_s0 kk => ?_) (fun KJ1 OJ1 hJ1 kk => ?_)
                      · skip
                        refine fr_m_copy_143 p0 p1 p2 p3 p4 j1_s0 (fun c h => hW c (by unfold WL_m_copy_143 at h; unfold W_m_copy; omega)) (fun w1_7 T201 hT201 kk => ?_) 1000 0 (sF (sF T 571 0 0) 571 1 0) (fr_sF (fr_sF hT (hW _ (by unfold W_m_copy; omega))) (hW _ (by unfold W_m_copy; omega))) kk
                        exact frp_i hT201
                      · skip
                        refine fr_if (Q := (FrP (W_m_copy T p0 p1 p2 p3 p4) T)) (fun c130_15 => ?_) (fun c130_15 => ?_)
                        · have kk := kk.1 c130_15
                          exact hJ1 0 kk
                        · have kk := kk.2 c130_15
                          exact hJ1 1 kk
                    · exact frp_i (fr_tr (fr_sF (fr_sF hT (hW _ (by unfold W_m_copy; omega))) (hW _ (by unfold W_m_copy; omega))) (frp_o (fr_m_finding 2)) (fun c h => hW c (by unfold W_m_finding at h; unfold W_m_copy; omega)))
          · exact frp_i (fr_tr (fr_sF (fr_sF hT (hW _ (by unfold W_m_copy; omega))) (hW _ (by unfold W_m_copy; omega))) (frp_o (fr_m_finding 5)) (fun c h => hW c (by unfold W_m_finding at h; unfold W_m_copy; omega)))
        · exact frp_i (fr_tr (fr_sF (fr_sF hT (hW _ (by unfold W_m_copy; omega))) (hW _ (by unfold W_m_copy; omega))) (frp_o (fr_m_finding 1)) (fun c h => hW c (by unfold W_m_finding at h; unfold W_m_copy; omega)))
