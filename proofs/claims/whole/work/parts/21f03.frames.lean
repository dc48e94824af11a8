def WL_m_seek_6 (l1 : Int32) (l2 : Int32) (l3 : Int32) (l4 : Int32) (l5 : Int32) (l6 : Int32) : Nat → Prop := fun c => (585 ≤ c ∧ c < 586)
theorem fr_m_seek_6 {W : Nat → Prop} {T0 : St} (l1 : Int32) (l2 : Int32) (l3 : Int32) (l4 : Int32) (l5 : Int32) (l6 : Int32) {K : Int32 → Int32 → St → Int32 × St} {Kk : Int32 → Int32 → St → Prop} (hW : ∀ c, WL_m_seek_6 l1 l2 l3 l4 l5 l6 c → W c) (hk : ∀ (v7 : Int32) (v8 : Int32) (T : St), Fr W T0 T → Kk v7 v8 T → (FrP W T0) (K v7 v8 T)) : ∀ (f : Nat) (v7 : Int32) (v8 : Int32) (T : St), Fr W T0 T → ok_m_seek_6 l1 l2 l3 l4 l5 l6 Kk f v7 v8 T → (FrP W T0) (x_m_seek_6 l1 l2 l3 l4 l5 l6 K f v7 v8 T) := by
  intro f
  induction f with
  | zero => intro v7 v8 T hT kk; exact kk.elim
  | succ f ih =>
    intro v7 v8 T hT kk
    rw [ok_m_seek_6] at kk
    rw [x_m_seek_6]
    refine fr_if (Q := (FrP W T0)) (fun c15_1 => ?_) (fun c15_1 => ?_)
    · have kk := kk.1 c15_1
      exact hk v7 v8 T hT kk
    · have kk := kk.2 c15_1
      refine fr_if (Q := (FrP W T0)) (fun c25_2 => ?_) (fun c25_2 => ?_)
      · have kk := kk.1 c25_2
        obtain ⟨q1, kk⟩ := kk
        have gq1 := in_lt q1
        exact ih (v7 + 1) (v8 + 1) (sA T 585 (v7 : Int32).toNatClampNeg v8) (fr_sA hT (hW _ (by unfold WL_m_seek_6; omega))) kk
      · have kk := kk.2 c25_2
        exact ih v7 (v8 + 1) T hT kk
def WL_m_seek_226 (l1 : Int32) (l2 : Int32) (l3 : Int32) (l4 : Int32) (l5 : Int32) (l6 : Int32) (l7 : Int32) (l8 : Int32) (l9 : Int32) (l10 : Int32) : Nat → Prop := fun c => (589 ≤ c ∧ c < 590)
theorem fr_m_seek_226 {W : Nat → Prop} {T0 : St} (l1 : Int32) (l2 : Int32) (l3 : Int32) (l4 : Int32) (l5 : Int32) (l6 : Int32) (l7 : Int32) (l8 : Int32) (l9 : Int32) (l10 : Int32) {K : Int32 → St → Int32 × St} {Kk : Int32 → St → Prop} (hW : ∀ c, WL_m_seek_226 l1 l2 l3 l4 l5 l6 l7 l8 l9 l10 c → W c) (hk : ∀ (v11 : Int32) (T : St), Fr W T0 T → Kk v11 T → (FrP W T0) (K v11 T)) : ∀ (f : Nat) (v11 : Int32) (T : St), Fr W T0 T → ok_m_seek_226 l1 l2 l3 l4 l5 l6 l7 l8 l9 l10 Kk f v11 T → (FrP W T0) (x_m_seek_226 l1 l2 l3 l4 l5 l6 l7 l8 l9 l10 K f v11 T) := by
  intro f
  induction f with
  | zero => intro v11 T hT kk; exact kk.elim
  | succ f ih =>
    intro v11 T hT kk
    rw [ok_m_seek_226] at kk
    rw [x_m_seek_226]
    refine fr_if (Q := (FrP W T0)) (fun c229_13 => ?_) (fun c229_13 => ?_)
    · have kk := kk.1 c229_13
      exact hk v11 T hT kk
    · have kk := kk.2 c229_13
      obtain ⟨q11, kk⟩ := kk
      have gq11 := in_lt q11
      obtain ⟨q12, kk⟩ := kk
      have gq12 := in_lt q12
      exact ih (v11 + 1) (sA T 589 (v11 : Int32).toNatClampNeg (T.2.2.1 586 (v11 : Int32).toNatClampNeg)) (fr_sA hT (hW _ (by unfold WL_m_seek_226; omega))) kk
def WL_m_seek_255 (l1 : Int32) (l2 : Int32) (l3 : Int32) (l4 : Int32) (l5 : Int32) (l6 : Int32) (l7 : Int32) (l8 : Int32) (l9 : Int32) (l10 : Int32) : Nat → Prop := fun c => (590 ≤ c ∧ c < 591)
theorem fr_m_seek_255 {W : Nat → Prop} {T0 : St} (l1 : Int32) (l2 : Int32) (l3 : Int32) (l4 : Int32) (l5 : Int32) (l6 : Int32) (l7 : Int32) (l8 : Int32) (l9 : Int32) (l10 : Int32) {K : Int32 → St → Int32 × St} {Kk : Int32 → St → Prop} (hW : ∀ c, WL_m_seek_255 l1 l2 l3 l4 l5 l6 l7 l8 l9 l10 c → W c) (hk : ∀ (v11 : Int32) (T : St), Fr W T0 T → Kk v11 T → (FrP W T0) (K v11 T)) : ∀ (f : Nat) (v11 : Int32) (T : St), Fr W T0 T → ok_m_seek_255 l1 l2 l3 l4 l5 l6 l7 l8 l9 l10 Kk f v11 T → (FrP W T0) (x_m_seek_255 l1 l2 l3 l4 l5 l6 l7 l8 l9 l10 K f v11 T) := by
  intro f
  induction f with
  | zero => intro v11 T hT kk; exact kk.elim
  | succ f ih =>
    intro v11 T hT kk
    rw [ok_m_seek_255] at kk
    rw [x_m_seek_255]
    refine fr_if (Q := (FrP W T0)) (fun c259_14 => ?_) (fun c259_14 => ?_)
    · have kk := kk.1 c259_14
      exact hk v11 T hT kk
    · have kk := kk.2 c259_14
      obtain ⟨q13, kk⟩ := kk
      have gq13 := in_lt q13
      exact ih (v11 + 1) (sA T 590 (v11 : Int32).toNatClampNeg (T.2.2.1 588 (v11 : Int32).toNatClampNeg)) (fr_sA hT (hW _ (by unfold WL_m_seek_255; omega))) kk
def WL_m_seek_70 (l1 : Int32) (l2 : Int32) (l3 : Int32) (l4 : Int32) (l5 : Int32) (l6 : Int32) (l7 : Int32) : Nat → Prop := fun c => (578 ≤ c ∧ c < 585) ∨ (586 ≤ c ∧ c < 591) ∨ (67131 ≤ c ∧ c < 67132)
theorem fr_m_seek_70 {W : Nat → Prop} {T0 : St} (l1 : Int32) (l2 : Int32) (l3 : Int32) (l4 : Int32) (l5 : Int32) (l6 : Int32) (l7 : Int32) {K : Int32 → Int32 → St → Int32 × St} {Kk : Int32 → Int32 → St → Prop} (hW : ∀ c, WL_m_seek_70 l1 l2 l3 l4 l5 l6 l7 c → W c) (hk : ∀ (v8 : Int32) (v9 : Int32) (T : St), Fr W T0 T → Kk v8 v9 T → (FrP W T0) (K v8 v9 T)) : ∀ (f : Nat) (v8 : Int32) (v9 : Int32) (T : St), Fr W T0 T → ok_m_seek_70 l1 l2 l3 l4 l5 l6 l7 Kk f v8 v9 T → (FrP W T0) (x_m_seek_70 l1 l2 l3 l4 l5 l6 l7 K f v8 v9 T) := by
  intro f
  induction f with
  | zero => intro v8 v9 T hT kk; exact kk.elim
  | succ f ih =>
    intro v8 v9 T hT kk
    rw [ok_m_seek_70] at kk
    rw [x_m_seek_70]
    refine fr_if (Q := (FrP W T0)) (fun c72_3 => ?_) (fun c72_3 => ?_)
    · have kk := kk.1 c72_3
      exact hk v8 v9 T hT kk
    · have kk := kk.2 c72_3
      refine fr_jn (Q := (FrP W T0)) (J := fun (KJ1 : Int32 × St) (OJ1 : Prop) => OJ1 → (FrP W T0) (KJ1)) kk (fun  kk => ?_) (fun KJ1 OJ1 hJ1 kk => ?_)
      · skip
        obtain ⟨q3, kk⟩ := kk
        have gq3 := in_lt q3
        obtain ⟨q4, kk⟩ := kk
        have gq4 := in_lt q4
        refine fr_n (Q := (FrP W T0)) kk (fun i2 kk => ?_)
        obtain ⟨q5, kk⟩ := kk
        refine fr_if (Q := (FrP W T0)) (fun c118_6 => ?_) (fun c118_6 => ?_)
        · have kk := kk.1 c118_6
          exact ih v8 (v9 + (-1)) (sA T 586 (v9 : Int32).toNatClampNeg ((T.2.2.1 586 (v9 : Int32).toNatClampNeg) + 1)) (fr_sA hT (hW _ (by unfold WL_m_seek_70; omega))) kk
        · have kk := kk.2 c118_6
          refine fr_jn (Q := (FrP W T0)) (J := fun (KJ2 : Int32 × St) (OJ2 : Prop) => OJ2 → (FrP W T0) (KJ2)) kk (fun  kk => ?_) (fun KJ2 OJ2 hJ2 kk => ?_)
          · skip
            obtain ⟨q8, kk⟩ := kk
            refine fr_nT (Q := (FrP W T0)) (fr_tr (fr_sA hT (hW _ (by unfold WL_m_seek_70; omega))) (frp_o (fr_m_fits v9 l2 l3 l4 q8)) (fun c h => hW c (by unfold W_m_fits at h; unfold WL_m_seek_70; omega))) kk (fun T3 hT3 kk => ?_)
            refine fr_if (Q := (FrP W T0)) (fun c162_9 => ?_) (fun c162_9 => ?_)
            · have kk := kk.1 c162_9
              exact ih v8 v9 T3 hT3 kk
            · have kk := kk.2 c162_9
              refine fr_jn (Q := (FrP W T0)) (J := fun (KJ3 : Int32 × St) (OJ3 : Prop) => OJ3 → (FrP W T0) (KJ3)) kk (fun  kk => ?_) (fun KJ3 OJ3 hJ3 kk => ?_)
              · skip
                refine fr_if (Q := (FrP W T0)) (fun c192_12 => ?_) (fun c192_12 => ?_)
                · have kk := kk.1 c192_12
                  obtain ⟨q10, kk⟩ := kk
                  have gq10 := in_lt q10
                  refine fr_m_seek_226 l1 l2 l3 l4 l5 l6 l7 1 v9 i2 (fun c h => hW c (by unfold WL_m_seek_226 at h; unfold WL_m_seek_70; omega)) (fun w2_11 T202 hT202 kk => ?_) 1000 0 (sF T3 571 31 (T3.2.2.1 587 (l7 : Int32).toNatClampNeg)) (fr_sF hT3 (hW _ (by unfold WL_m_seek_70; omega))) kk
                  refine fr_m_seek_255 l1 l2 l3 l4 l5 l6 l7 1 v9 i2 (fun c h => hW c (by unfold WL_m_seek_255 at h; unfold WL_m_seek_70; omega)) (fun w3_11 T203 hT203 kk => ?_) 1000 0 T202 hT202 kk
                  exact ih 1 v9 T203 hT203 kk
                · have kk := kk.2 c192_12
                  obtain ⟨q14, kk⟩ := kk
                  have gq14 := in_lt q14
                  exact ih v8 (v9 + 1) (sA T3 586 (v9 + 1 : Int32).toNatClampNeg (-1)) (fr_sA hT3 (hW _ (by unfold WL_m_seek_70; omega))) kk
              · skip
                refine fr_if (Q := (FrP W T0)) (fun c167_15 => ?_) (fun c167_15 => ?_)
                · have kk := kk.1 c167_15
                  exact hJ3  kk
                · have kk := kk.2 c167_15
                  obtain ⟨q15, kk⟩ := kk
                  have gq15 := in_lt q15
                  refine fr_if (Q := (FrP W T0)) (fun c183_16 => ?_) (fun c183_16 => ?_)
                  · have kk := kk.1 c183_16
                    exact ih v8 v9 T3 hT3 kk
                  · have kk := kk.2 c183_16
                    exact hJ3  kk
          · skip
            refine fr_if (Q := (FrP W T0)) (fun c129_17 => ?_) (fun c129_17 => ?_)
            · have kk := kk.1 c129_17
              exact hJ2  kk
            · have kk := kk.2 c129_17
              obtain ⟨q16, kk⟩ := kk
              obtain ⟨q17, kk⟩ := kk
              refine fr_if (Q := (FrP W T0)) (fun c149_18 => ?_) (fun c149_18 => ?_)
              · have kk := kk.1 c149_18
                exact ih v8 v9 (sA T 586 (v9 : Int32).toNatClampNeg ((T.2.2.1 586 (v9 : Int32).toNatClampNeg) + 1)) (fr_sA hT (hW _ (by unfold WL_m_seek_70; omega))) kk
              · have kk := kk.2 c149_18
                exact hJ2  kk
      · skip
        refine fr_if (Q := (FrP W T0)) (fun c77_19 => ?_) (fun c77_19 => ?_)
        · have kk := kk.1 c77_19
          exact hJ1  kk
        · have kk := kk.2 c77_19
          refine fr_if (Q := (FrP W T0)) (fun c82_20 => ?_) (fun c82_20 => ?_)
          · have kk := kk.1 c82_20
            exact hJ1  kk
          · have kk := kk.2 c82_20
            exact hk v8 v9 T hT kk
def W_m_seek (T : St) (p0 : Int32) (p1 : Int32) (p2 : Int32) (p3 : Int32) (p4 : Int32) (p5 : Int32) : Nat → Prop := fun c => (578 ≤ c ∧ c < 591) ∨ (67131 ≤ c ∧ c < 67132)
theorem fr_m_seek {T : St} (p0 : Int32) (p1 : Int32) (p2 : Int32) (p3 : Int32) (p4 : Int32) (p5 : Int32) (kk : ok_m_seek T p0 p1 p2 p3 p4 p5) : FrP (W_m_seek T p0 p1 p2 p3 p4 p5) T (x_m_seek T p0 p1 p2 p3 p4 p5) := by
  unfold ok_m_seek at kk
  have hW : ∀ c, W_m_seek T p0 p1 p2 p3 p4 p5 c → W_m_seek T p0 p1 p2 p3 p4 p5 c := fun _ h => h
  have hT : Fr (W_m_seek T p0 p1 p2 p3 p4 p5) T T := fr_rfl
  unfold x_m_seek
  refine fr_m_seek_6 p0 p1 p2 p3 p4 p5 (fun c h => hW c (by unfold WL_m_seek_6 at h; unfold W_m_seek; omega)) (fun w1_7 w1_8 T201 hT201 kk => ?_) 1000 0 0 T hT kk
  obtain ⟨q2, kk⟩ := kk
  refine fr_nT (Q := (FrP (W_m_seek T p0 p1 p2 p3 p4 p5) T)) (fr_sA (fr_sA (fr_tr hT201 ((fr_m_clearLevel  q2)) (fun c h => hW c (by unfold W_m_clearLevel at h; unfold W_m_seek; omega))) (hW _ (by unfold W_m_seek; omega))) (hW _ (by unfold W_m_seek; omega))) kk (fun T1 hT1 kk => ?_)
  refine fr_m_seek_70 p0 p1 p2 p3 p4 p5 w1_7 (fun c h => hW c (by unfold WL_m_seek_70 at h; unfold W_m_seek; omega)) (fun w4_8 w4_9 T204 hT204 kk => ?_) 1000000 0 0 T1 hT1 kk
  obtain ⟨q18, kk⟩ := kk
  exact frp_i hT204
def W_m_forget (T : St)  : Nat → Prop := fun c => (67132 ≤ c ∧ c < 67133) ∨ (67134 ≤ c ∧ c < 67135)
theorem fr_m_forget {T : St}  : Fr (W_m_forget T ) T (x_m_forget T ) := by
  have hW : ∀ c, W_m_forget T  c → W_m_forget T  c := fun _ h => h
  have hT : Fr (W_m_forget T ) T T := fr_rfl
  unfold x_m_forget
  exact (fr_sF (fr_sF hT (hW _ (by unfold W_m_forget; omega))) (hW _ (by unfold W_m_forget; omega)))
def WL_m_layRow_38 (l1 : Int32) (l2 : Int32) : Nat → Prop := fun c => (594 ≤ c ∧ c < 597) ∨ (67139 ≤ c ∧ c < 67140)
theorem fr_m_layRow_38 {W : Nat → Prop} {T0 : St} (l1 : Int32) (l2 : Int32) {K : Int32 → St → St} {Kk : Int32 → St → Prop} (hW : ∀ c, WL_m_layRow_38 l1 l2 c → W c) (hk : ∀ (v3 : Int32) (T : St), Fr W T0 T → Kk v3 T → (Fr W T0) (K v3 T)) : ∀ (f : Nat) (v3 : Int32) (T : St), Fr W T0 T → ok_m_layRow_38 l1 l2 Kk f v3 T → (Fr W T0) (x_m_layRow_38 l1 l2 K f v3 T) := by
  intro f
  induction f with
  | zero => intro v3 T hT kk; exact kk.elim
  | succ f ih =>
    intro v3 T hT kk
    rw [ok_m_layRow_38] at kk
    rw [x_m_layRow_38]
    obtain ⟨q1, kk⟩ := kk
    refine fr_if (Q := (Fr W T0)) (fun c45_3 => ?_) (fun c45_3 => ?_)
    · have kk := kk.1 c45_3
      exact hk v3 T hT kk
    · have kk := kk.2 c45_3
      obtain ⟨q2, kk⟩ := kk
      obtain ⟨q3, kk⟩ := kk
      have gq3 := in_lt q3
      obtain ⟨q4, kk⟩ := kk
      have gq4 := in_lt q4
      obtain ⟨q5, kk⟩ := kk
      have gq5 := in_lt q5
      refine fr_nT (Q := (Fr W T0)) (fr_sA (fr_sA hT (hW _ (by unfold WL_m_layRow_38; omega))) (hW _ (by unfold WL_m_layRow_38; omega))) kk (fun T1 hT1 kk => ?_)
      obtain ⟨q6, kk⟩ := kk
      have gq6 := in_lt q6
      refine fr_nT (Q := (Fr W T0)) (fr_sF (fr_sA hT1 (hW _ (by unfold WL_m_layRow_38; omega))) (hW _ (by unfold WL_m_layRow_38; omega))) kk (fun T2 hT2 kk => ?_)
      exact ih (v3 + 1) T2 hT2 kk
def WL_m_layRow_9  : Nat → Prop := fun c => (594 ≤ c ∧ c < 597) ∨ (67139 ≤ c ∧ c < 67140)
theorem fr_m_layRow_9 {W : Nat → Prop} {T0 : St}  {K : Int32 → Int32 → St → St} {Kk : Int32 → Int32 → St → Prop} (hW : ∀ c, WL_m_layRow_9  c → W c) (hk : ∀ (v1 : Int32) (v2 : Int32) (T : St), Fr W T0 T → Kk v1 v2 T → (Fr W T0) (K v1 v2 T)) : ∀ (f : Nat) (v1 : Int32) (v2 : Int32) (T : St), Fr W T0 T → ok_m_layRow_9  Kk f v1 v2 T → (Fr W T0) (x_m_layRow_9  K f v1 v2 T) := by
  intro f
  induction f with
  | zero => intro v1 v2 T hT kk; exact kk.elim
  | succ f ih =>
    intro v1 v2 T hT kk
    rw [ok_m_layRow_9] at kk
    rw [x_m_layRow_9]
    refine fr_if (Q := (Fr W T0)) (fun c17_1 => ?_) (fun c17_1 => ?_)
    · have kk := kk.1 c17_1
      exact hk v1 v2 T hT kk
    · have kk := kk.2 c17_1
      refine fr_if (Q := (Fr W T0)) (fun c33_2 => ?_) (fun c33_2 => ?_)
      · have kk := kk.1 c33_2
        refine fr_m_layRow_38 v1 v2 (fun c h => hW c (by unfold WL_m_layRow_38 at h; unfold WL_m_layRow_9; omega)) (fun w1_3 T201 hT201 kk => ?_) 1000 0 T hT kk
        exact ih (v1 + 1) (v2 + 1) T201 hT201 kk
      · have kk := kk.2 c33_2
        exact ih v1 (v2 + 1) T hT kk
def W_m_layRow (T : St)  : Nat → Prop := fun c => (594 ≤ c ∧ c < 597) ∨ (67139 ≤ c ∧ c < 67140)
theorem fr_m_layRow {T : St}  (kk : ok_m_layRow T ) : Fr (W_m_layRow T ) T (x_m_layRow T ) := by
  unfold ok_m_layRow at kk
  have hW : ∀ c, W_m_layRow T  c → W_m_layRow T  c := fun _ h => h
  have hT : Fr (W_m_layRow T ) T T := fr_rfl
  unfold x_m_layRow
  refine fr_m_layRow_9  (fun c h => hW c (by unfold WL_m_layRow_9 at h; unfold W_m_layRow; omega)) (fun w2_1 w2_2 T202 hT202 kk => ?_) 1000 0 0 (sF T 571 39 0) (fr_sF hT (hW _ (by unfold W_m_layRow; omega))) kk
  exact hT202
def WL_m_know_61 (l1 : Int32) : Nat → Prop := fun c => (592 ≤ c ∧ c < 593)
theorem fr_m_know_61 {W : Nat → Prop} {T0 : St} (l1 : Int32) {K : Int32 → St → Int32 × St} {Kk : Int32 → St → Prop} (hW : ∀ c, WL_m_know_61 l1 c → W c) (hk : ∀ (v2 : Int32) (T : St), Fr W T0 T → Kk v2 T → (FrP W T0) (K v2 T)) : ∀ (f : Nat) (v2 : Int32) (T : St), Fr W T0 T → ok_m_know_61 l1 Kk f v2 T → (FrP W T0) (x_m_know_61 l1 K f v2 T) := by
  intro f
  induction f with
  | zero => intro v2 T hT kk; exact kk.elim
  | succ f ih =>
    intro v2 T hT kk
    rw [ok_m_know_61] at kk
    rw [x_m_know_61]
    refine fr_if (Q := (FrP W T0)) (fun c63_2 => ?_) (fun c63_2 => ?_)
    · have kk := kk.1 c63_2
      exact hk v2 T hT kk
    · have kk := kk.2 c63_2
      obtain ⟨q3, kk⟩ := kk
      have gq3 := in_lt q3
      exact ih (v2 + 1) (sA T 592 (v2 : Int32).toNatClampNeg (T.2.2.1 589 (v2 : Int32).toNatClampNeg)) (fr_sA hT (hW _ (by unfold WL_m_know_61; omega))) kk
def WL_m_know_86 (l1 : Int32) : Nat → Prop := fun c => (593 ≤ c ∧ c < 594)
theorem fr_m_know_86 {W : Nat → Prop} {T0 : St} (l1 : Int32) {K : Int32 → St → Int32 × St} {Kk : Int32 → St → Prop} (hW : ∀ c, WL_m_know_86 l1 c → W c) (hk : ∀ (v2 : Int32) (T : St), Fr W T0 T → Kk v2 T → (FrP W T0) (K v2 T)) : ∀ (f : Nat) (v2 : Int32) (T : St), Fr W T0 T → ok_m_know_86 l1 Kk f v2 T → (FrP W T0) (x_m_know_86 l1 K f v2 T) := by
  intro f
  induction f with
  | zero => intro v2 T hT kk; exact kk.elim
  | succ f ih =>
    intro v2 T hT kk
    rw [ok_m_know_86] at kk
    rw [x_m_know_86]
    refine fr_if (Q := (FrP W T0)) (fun c89_3 => ?_) (fun c89_3 => ?_)
    · have kk := kk.1 c89_3
      exact hk v2 T hT kk
    · have kk := kk.2 c89_3
      obtain ⟨q4, kk⟩ := kk
      have gq4 := in_lt q4
      exact ih (v2 + 1) (sA T 593 (v2 : Int32).toNatClampNeg (T.2.2.1 590 (v2 : Int32).toNatClampNeg)) (fr_sA hT (hW _ (by unfold WL_m_know_86; omega))) kk
def W_m_know (T : St) (p0 : Int32) : Nat → Prop := fun c => (578 ≤ c ∧ c < 591) ∨ (592 ≤ c ∧ c < 597) ∨ (67131 ≤ c ∧ c < 67133) ∨ (67134 ≤ c ∧ c < 67137) ∨ (67139 ≤ c ∧ c < 67140)
theorem fr_m_know {T : St} (p0 : Int32) (kk : ok_m_know T p0) : FrP (W_m_know T p0) T (x_m_know T p0) := by
  unfold ok_m_know at kk
  have hW : ∀ c, W_m_know T p0 c → W_m_know T p0 c := fun _ h => h
  have hT : Fr (W_m_know T p0) T T := fr_rfl
  unfold x_m_know
  refine fr_jn (Q := (FrP (W_m_know T p0) T)) (J := fun (KJ1 : St → Int32 × St) (OJ1 : St → Prop) => ∀ (T301 : St), Fr (W_m_know T p0) T T301 → OJ1 T301 → (FrP (W_m_know T p0) T) (KJ1 T301)) kk (fun T301 hT301 kk => ?_) (fun KJ1 OJ1 hJ1 kk => ?_)
  · skip
    obtain ⟨q5, kk⟩ := kk
    obtain ⟨q6, kk⟩ := kk
    exact frp_i (fr_tr hT301 ((fr_m_layRow  q5)) (fun c h => hW c (by unfold W_m_layRow at h; unfold W_m_know; omega)))
  · skip
    refine fr_if (Q := (FrP (W_m_know T p0) T)) (fun c5_4 => ?_) (fun c5_4 => ?_)
    · have kk := kk.1 c5_4
      exact hJ1 T hT kk
    · have kk := kk.2 c5_4
      obtain ⟨q7, kk⟩ := kk
      refine fr_nT (Q := (FrP (W_m_know T p0) T)) (fr_tr (fr_sF hT (hW _ (by unfold W_m_know; omega))) (frp_o (fr_m_seek ((sF T 571 32 0).2.2.1 575 (202 : Int32).toNatClampNeg) p0 ((sF T 571 32 0).2.2.1 575 (5 : Int32).toNatClampNeg) ((sF T 571 32 0).2.2.1 575 (203 : Int32).toNatClampNeg) 0 0 q7)) (fun c h => hW c (by unfold W_m_seek at h; unfold W_m_know; omega))) kk (fun T3 hT3 kk => ?_)
      obtain ⟨q8, kk⟩ := kk
      refine fr_nT (Q := (FrP (W_m_know T p0) T)) (fr_sF hT3 (hW _ (by unfold W_m_know; omega))) kk (fun T4 hT4 kk => ?_)
      refine fr_m_know_61 p0 (fun c h => hW c (by unfold WL_m_know_61 at h; unfold W_m_know; omega)) (fun w3_2 T203 hT203 kk => ?_) 1000 0 (sF (sF T4 571 34 p0) 571 36 ((sF T4 571 34 p0).1 571 31)) (fr_sF (fr_sF hT4 (hW _ (by unfold W_m_know; omega))) (hW _ (by unfold W_m_know; omega))) kk
      refine fr_m_know_86 p0 (fun c h => hW c (by unfold WL_m_know_86 at h; unfold W_m_know; omega)) (fun w4_2 T204 hT204 kk => ?_) 1000 0 T203 hT203 kk
      exact hJ1 T204 hT204 kk
def W_m_least (T : St) (p0 : Int32) (p1 : Int32) : Nat → Prop := fun c => (578 ≤ c ∧ c < 591) ∨ (592 ≤ c ∧ c < 597) ∨ (67100 ≤ c ∧ c < 67101) ∨ (67131 ≤ c ∧ c < 67133) ∨ (67134 ≤ c ∧ c < 67137) ∨ (67139 ≤ c ∧ c < 67140)
theorem fr_m_least {T : St} (p0 : Int32) (p1 : Int32) (kk : ok_m_least T p0 p1) : FrP (W_m_least T p0 p1) T (x_m_least T p0 p1) := by
  unfold ok_m_least at kk
  have hW : ∀ c, W_m_least T p0 p1 c → W_m_least T p0 p1 c := fun _ h => h
  have hT : Fr (W_m_least T p0 p1) T T := fr_rfl
  unfold x_m_least
  refine fr_if (Q := (FrP (W_m_least T p0 p1) T)) (fun c9_1 => ?_) (fun c9_1 => ?_)
  · exact frp_i (fr_sF hT (hW _ (by unfold W_m_least; omega)))
  · have kk := kk c9_1
    refine fr_if (Q := (FrP (W_m_least T p0 p1) T)) (fun c14_2 => ?_) (fun c14_2 => ?_)
    · have kk := kk c14_2
      refine fr_if (Q := (FrP (W_m_least T p0 p1) T)) (fun c24_3 => ?_) (fun c24_3 => ?_)
      · exact frp_i (fr_sF hT (hW _ (by unfold W_m_least; omega)))
      · have kk := kk c24_3
        obtain ⟨q1, kk⟩ := kk
        refine fr_if (Q := (FrP (W_m_least T p0 p1) T)) (fun c35_4 => ?_) (fun c35_4 => ?_)
        · exact frp_i (fr_tr (fr_sF hT (hW _ (by unfold W_m_least; omega))) (frp_o (fr_m_know p0 q1)) (fun c h => hW c (by unfold W_m_know at h; unfold W_m_least; omega)))
        · have kk := kk c35_4
          refine fr_if (Q := (FrP (W_m_least T p0 p1) T)) (fun c43_5 => ?_) (fun c43_5 => ?_)
          · exact frp_i (fr_tr (fr_sF hT (hW _ (by unfold W_m_least; omega))) (frp_o (fr_m_know p0 q1)) (fun c h => hW c (by unfold W_m_know at h; unfold W_m_least; omega)))
          · have kk := kk c43_5
            obtain ⟨q2, kk⟩ := kk
            refine fr_if (Q := (FrP (W_m_least T p0 p1) T)) (fun c65_6 => ?_) (fun c65_6 => ?_)
            · exact frp_i (fr_tr (fr_sF hT (hW _ (by unfold W_m_least; omega))) (frp_o (fr_m_know p0 q1)) (fun c h => hW c (by unfold W_m_know at h; unfold W_m_least; omega)))
            · have kk := kk c65_6
              obtain ⟨q3, kk⟩ := kk
              have gq3 := in_lt q3
              exact frp_i (fr_tr (fr_sF hT (hW _ (by unfold W_m_least; omega))) (frp_o (fr_m_know p0 q1)) (fun c h => hW c (by unfold W_m_know at h; unfold W_m_least; omega)))
    · exact frp_i (fr_sF hT (hW _ (by unfold W_m_least; omega)))
def W_m_begins (T : St) (p0 : Int32) (p1 : Int32) : Nat → Prop := fun c => (578 ≤ c ∧ c < 591) ∨ (592 ≤ c ∧ c < 597) ∨ (67100 ≤ c ∧ c < 67101) ∨ (67131 ≤ c ∧ c < 67133) ∨ (67134 ≤ c ∧ c < 67137) ∨ (67139 ≤ c ∧ c < 67140)
theorem fr_m_begins {T : St} (p0 : Int32) (p1 : Int32) (kk : ok_m_begins T p0 p1) : FrP (W_m_begins T p0 p1) T (x_m_begins T p0 p1) := by
  unfold ok_m_begins at kk
  have hW : ∀ c, W_m_begins T p0 p1 c → W_m_begins T p0 p1 c := fun _ h => h
  have hT : Fr (W_m_begins T p0 p1) T T := fr_rfl
  unfold x_m_begins
  refine fr_if (Q := (FrP (W_m_begins T p0 p1) T)) (fun c9_1 => ?_) (fun c9_1 => ?_)
  · exact frp_i (fr_sF hT (hW _ (by unfold W_m_begins; omega)))
  · have kk := kk c9_1
    refine fr_if (Q := (FrP (W_m_begins T p0 p1) T)) (fun c13_2 => ?_) (fun c13_2 => ?_)
    · have kk := kk c13_2
      refine fr_if (Q := (FrP (W_m_begins T p0 p1) T)) (fun c23_3 => ?_) (fun c23_3 => ?_)
      · exact frp_i (fr_sF hT (hW _ (by unfold W_m_begins; omega)))
      · have kk := kk c23_3
        obtain ⟨q1, kk⟩ := kk
        refine fr_if (Q := (FrP (W_m_begins T p0 p1) T)) (fun c34_4 => ?_) (fun c34_4 => ?_)
        · exact frp_i (fr_tr (fr_sF hT (hW _ (by unfold W_m_begins; omega))) (frp_o (fr_m_know p0 q1)) (fun c h => hW c (by unfold W_m_know at h; unfold W_m_begins; omega)))
        · have kk := kk c34_4
          refine fr_if (Q := (FrP (W_m_begins T p0 p1) T)) (fun c42_5 => ?_) (fun c42_5 => ?_)
          · exact frp_i (fr_tr (fr_sF hT (hW _ (by unfold W_m_begins; omega))) (frp_o (fr_m_know p0 q1)) (fun c h => hW c (by unfold W_m_know at h; unfold W_m_begins; omega)))
          · have kk := kk c42_5
            obtain ⟨q2, kk⟩ := kk
            have gq2 := in_lt q2
            exact frp_i (fr_tr (fr_sF hT (hW _ (by unfold W_m_begins; omega))) (frp_o (fr_m_know p0 q1)) (fun c h => hW c (by unfold W_m_know at h; unfold W_m_begins; omega)))
    · exact frp_i (fr_sF hT (hW _ (by unfold W_m_begins; omega)))
def W_m_seven (T : St) (p0 : Int32) : Nat → Prop := fun c => (578 ≤ c ∧ c < 591) ∨ (67100 ≤ c ∧ c < 67101) ∨ (67131 ≤ c ∧ c < 67133)
theorem fr_m_seven {T : St} (p0 : Int32) (kk : ok_m_seven T p0) : FrP (W_m_seven T p0) T (x_m_seven T p0) := by
  unfold ok_m_seven at kk
  have hW : ∀ c, W_m_seven T p0 c → W_m_seven T p0 c := fun _ h => h
  have hT : Fr (W_m_seven T p0) T T := fr_rfl
  unfold x_m_seven
  refine fr_if (Q := (FrP (W_m_seven T p0) T)) (fun c9_1 => ?_) (fun c9_1 => ?_)
  · exact frp_i (fr_sF hT (hW _ (by unfold W_m_seven; omega)))
  · have kk := kk c9_1
    refine fr_if (Q := (FrP (W_m_seven T p0) T)) (fun c19_2 => ?_) (fun c19_2 => ?_)
    · exact frp_i (fr_sF hT (hW _ (by unfold W_m_seven; omega)))
    · have kk := kk c19_2
      obtain ⟨q1, kk⟩ := kk
      refine fr_nT0 (Q := (FrP (W_m_seven T p0) T)) (fr_tr (fr_sF (fr_sF hT (hW _ (by unfold W_m_seven; omega))) (hW _ (by unfold W_m_seven; omega))) (frp_o (fr_m_seek ((sF (sF T 571 0 0) 571 32 0).2.2.1 575 (202 : Int32).toNatClampNeg) p0 ((sF (sF T 571 0 0) 571 32 0).2.2.1 575 (5 : Int32).toNatClampNeg) ((sF (sF T 571 0 0) 571 32 0).2.2.1 575 (203 : Int32).toNatClampNeg) 1 1 q1)) (fun c h => hW c (by unfold W_m_seek at h; unfold W_m_seven; omega))) (fun T1 hT1 => ?_)
      refine fr_if (Q := (FrP (W_m_seven T p0) T)) (fun c59_3 => ?_) (fun c59_3 => ?_)
      · exact frp_i hT1
      · exact frp_i hT1
def W_m_canBe (T : St) (p0 : Int32) (p1 : Int32) (p2 : Int32) : Nat → Prop := fun c => (578 ≤ c ∧ c < 591) ∨ (67131 ≤ c ∧ c < 67133)
theorem fr_m_canBe {T : St} (p0 : Int32) (p1 : Int32) (p2 : Int32) (kk : ok_m_canBe T p0 p1 p2) : FrP (W_m_canBe T p0 p1 p2) T (x_m_canBe T p0 p1 p2) := by
  unfold ok_m_canBe at kk
  have hW : ∀ c, W_m_canBe T p0 p1 p2 c → W_m_canBe T p0 p1 p2 c := fun _ h => h
  have hT : Fr (W_m_canBe T p0 p1 p2) T T := fr_rfl
  unfold x_m_canBe
  obtain ⟨q1, kk⟩ := kk
  obtain ⟨q2, kk⟩ := kk
  exact frp_i (fr_tr (fr_sF hT (hW _ (by unfold W_m_canBe; omega))) (frp_o (fr_m_seek p0 p1 p2 ((sF T 571 32 0).2.2.1 575 (203 : Int32).toNatClampNeg) 0 1 q1)) (fun c h => hW c (by unfold W_m_seek at h; unfold W_m_canBe; omega)))
def WL_m_earliest_17  : Nat → Prop := fun c => (578 ≤ c ∧ c < 591) ∨ (67131 ≤ c ∧ c < 67133)
theorem fr_m_earliest_17 {W : Nat → Prop} {T0 : St}  {K : Int32 → St → Int32 × St} {Kk : Int32 → St → Prop} (hW : ∀ c, WL_m_earliest_17  c → W c) (hk : ∀ (v1 : Int32) (T : St), Fr W T0 T → Kk v1 T → (FrP W T0) (K v1 T)) : ∀ (f : Nat) (v1 : Int32) (T : St), Fr W T0 T → ok_m_earliest_17  Kk f v1 T → (FrP W T0) (x_m_earliest_17  K f v1 T) := by
  intro f
  induction f with
  | zero => intro v1 T hT kk; exact kk.elim
  | succ f ih =>
    intro v1 T hT kk
    rw [ok_m_earliest_17] at kk
    rw [x_m_earliest_17]
    refine fr_if (Q := (FrP W T0)) (fun c20_2 => ?_) (fun c20_2 => ?_)
    · have kk := kk.1 c20_2
      exact hk v1 T hT kk
    · have kk := kk.2 c20_2
      obtain ⟨q1, kk⟩ := kk
      refine fr_nT (Q := (FrP W T0)) (fr_tr hT (frp_o (fr_m_canBe (T.2.2.1 575 (202 : Int32).toNatClampNeg) v1 (T.2.2.1 575 (5 : Int32).toNatClampNeg) q1)) (fun c h => hW c (by unfold W_m_canBe at h; unfold WL_m_earliest_17; omega))) kk (fun T1 hT1 kk => ?_)
      refine fr_if (Q := (FrP W T0)) (fun c42_3 => ?_) (fun c42_3 => ?_)
      · have kk := kk c42_3
        exact ih (v1 + 1) T1 hT1 kk
      · exact frp_i hT1
def W_m_earliest (T : St)  : Nat → Prop := fun c => (578 ≤ c ∧ c < 591) ∨ (67100 ≤ c ∧ c < 67101) ∨ (67131 ≤ c ∧ c < 67133)
theorem fr_m_earliest {T : St}  (kk : ok_m_earliest T ) : FrP (W_m_earliest T ) T (x_m_earliest T ) := by
  unfold ok_m_earliest at kk
  have hW : ∀ c, W_m_earliest T  c → W_m_earliest T  c := fun _ h => h
  have hT : Fr (W_m_earliest T ) T T := fr_rfl
  unfold x_m_earliest
  refine fr_if (Q := (FrP (W_m_earliest T ) T)) (fun c9_1 => ?_) (fun c9_1 => ?_)
  · exact frp_i (fr_sF hT (hW _ (by unfold W_m_earliest; omega)))
  · have kk := kk c9_1
    refine fr_m_earliest_17  (fun c h => hW c (by unfold WL_m_earliest_17 at h; unfold W_m_earliest; omega)) (fun w1_1 T201 hT201 kk => ?_) 1000 1 (sF T 571 0 0) (fr_sF hT (hW _ (by unfold W_m_earliest; omega))) kk
    exact frp_i hT201
def WL_m_dinners_57 (l1 : Int32) (l2 : Int32) (l3 : Int32) : Nat → Prop := fun c => (578 ≤ c ∧ c < 591) ∨ (67131 ≤ c ∧ c < 67133)
theorem fr_m_dinners_57 {W : Nat → Prop} {T0 : St} (l1 : Int32) (l2 : Int32) (l3 : Int32) {K : Int32 → Int32 → Int32 → St → Int32 × St} {Kk : Int32 → Int32 → Int32 → St → Prop} (hW : ∀ c, WL_m_dinners_57 l1 l2 l3 c → W c) (hk : ∀ (v4 : Int32) (v5 : Int32) (v6 : Int32) (T : St), Fr W T0 T → Kk v4 v5 v6 T → (FrP W T0) (K v4 v5 v6 T)) : ∀ (f : Nat) (v4 : Int32) (v5 : Int32) (v6 : Int32) (T : St), Fr W T0 T → ok_m_dinners_57 l1 l2 l3 Kk f v4 v5 v6 T → (FrP W T0) (x_m_dinners_57 l1 l2 l3 K f v4 v5 v6 T) := by
  intro f
  induction f with
  | zero => intro v4 v5 v6 T hT kk; exact kk.elim
  | succ f ih =>
    intro v4 v5 v6 T hT kk
    rw [ok_m_dinners_57] at kk
    rw [x_m_dinners_57]
    refine fr_if (Q := (FrP W T0)) (fun c68_5 => ?_) (fun c68_5 => ?_)
    · have kk := kk.1 c68_5
      exact hk v4 v5 v6 T hT kk
    · have kk := kk.2 c68_5
      obtain ⟨q1, kk⟩ := kk
      refine fr_if (Q := (FrP W T0)) (fun c77_6 => ?_) (fun c77_6 => ?_)
      · have kk := kk.1 c77_6
        exact ih v4 v5 (v6 + 1) T hT kk
      · have kk := kk.2 c77_6
        obtain ⟨q2, kk⟩ := kk
        refine fr_if (Q := (FrP W T0)) (fun c88_7 => ?_) (fun c88_7 => ?_)
        · have kk := kk.1 c88_7
          exact ih v4 v5 (v6 + 1) ((x_m_canBe T v6 l2 l1).2) (fr_tr hT (frp_o (fr_m_canBe v6 l2 l1 q2)) (fun c h => hW c (by unfold W_m_canBe at h; unfold WL_m_dinners_57; omega))) kk
        · have kk := kk.2 c88_7
          refine fr_jn (Q := (FrP W T0)) (J := fun (KJ1 : Int32 × St) (OJ1 : Prop) => OJ1 → (FrP W T0) (KJ1)) kk (fun  kk => ?_) (fun KJ1 OJ1 hJ1 kk => ?_)
          · skip
            exact ih (v4 + 1) v6 (v6 + 1) ((x_m_canBe T v6 l2 l1).2) (fr_tr hT (frp_o (fr_m_canBe v6 l2 l1 q2)) (fun c h => hW c (by unfold W_m_canBe at h; unfold WL_m_dinners_57; omega))) kk
          · skip
            refine fr_if (Q := (FrP W T0)) (fun c98_10 => ?_) (fun c98_10 => ?_)
            · have kk := kk.1 c98_10
              exact hJ1  kk
            · have kk := kk.2 c98_10
              obtain ⟨q5, kk⟩ := kk
              obtain ⟨q6, kk⟩ := kk
              refine fr_if (Q := (FrP W T0)) (fun c111_11 => ?_) (fun c111_11 => ?_)
              · have kk := kk.1 c111_11
                exact ih (v4 + 1) v5 (v6 + 1) ((x_m_canBe T v6 l2 l1).2) (fr_tr hT (frp_o (fr_m_canBe v6 l2 l1 q2)) (fun c h => hW c (by unfold W_m_canBe at h; unfold WL_m_dinners_57; omega))) kk
              · have kk := kk.2 c111_11
                exact hJ1  kk
def W_m_dinners (T : St) (p0 : Int32) (p1 : Int32) (p2 : Int32) : Nat → Prop := fun c => (578 ≤ c ∧ c < 591) ∨ (67100 ≤ c ∧ c < 67101) ∨ (67131 ≤ c ∧ c < 67133)
theorem fr_m_dinners {T : St} (p0 : Int32) (p1 : Int32) (p2 : Int32) (kk : ok_m_dinners T p0 p1 p2) : FrP (W_m_dinners T p0 p1 p2) T (x_m_dinners T p0 p1 p2) := by
  unfold ok_m_dinners at kk
  have hW : ∀ c, W_m_dinners T p0 p1 p2 c → W_m_dinners T p0 p1 p2 c := fun _ h => h
  have hT : Fr (W_m_dinners T p0 p1 p2) T T := fr_rfl
  unfold x_m_dinners
  refine fr_if (Q := (FrP (W_m_dinners T p0 p1 p2) T)) (fun c14_1 => ?_) (fun c14_1 => ?_)
  · exact frp_i (fr_sF hT (hW _ (by unfold W_m_dinners; omega)))
  · have kk := kk c14_1
    refine fr_if (Q := (FrP (W_m_dinners T p0 p1 p2) T)) (fun c21_2 => ?_) (fun c21_2 => ?_)
    · exact frp_i (fr_sF hT (hW _ (by unfold W_m_dinners; omega)))
    · have kk := kk c21_2
      refine fr_if (Q := (FrP (W_m_dinners T p0 p1 p2) T)) (fun c31_3 => ?_) (fun c31_3 => ?_)
      · exact frp_i (fr_sF hT (hW _ (by unfold W_m_dinners; omega)))
      · have kk := kk c31_3
        refine fr_if (Q := (FrP (W_m_dinners T p0 p1 p2) T)) (fun c41_4 => ?_) (fun c41_4 => ?_)
        · exact frp_i (fr_sF hT (hW _ (by unfold W_m_dinners; omega)))
        · have kk := kk c41_4
          refine fr_m_dinners_57 p0 p1 p2 (fun c h => hW c (by unfold WL_m_dinners_57 at h; unfold W_m_dinners; omega)) (fun w1_4 w1_5 w1_6 T201 hT201 kk => ?_) 1000 0 (-1000000) 1 (sF T 571 0 0) (fr_sF hT (hW _ (by unfold W_m_dinners; omega))) kk
          refine fr_if (Q := (FrP (W_m_dinners T p0 p1 p2) T)) (fun c130_12 => ?_) (fun c130_12 => ?_)
          · exact frp_i hT201
          · exact frp_i hT201
def WL_m_more_29 (l1 : Int32) : Nat → Prop := fun c => (578 ≤ c ∧ c < 591) ∨ (67131 ≤ c ∧ c < 67133)
theorem fr_m_more_29 {W : Nat → Prop} {T0 : St} (l1 : Int32) {K : Int32 → Int32 → St → Int32 × St} {Kk : Int32 → Int32 → St → Prop} (hW : ∀ c, WL_m_more_29 l1 c → W c) (hk : ∀ (v2 : Int32) (v3 : Int32) (T : St), Fr W T0 T → Kk v2 v3 T → (FrP W T0) (K v2 v3 T)) : ∀ (f : Nat) (v2 : Int32) (v3 : Int32) (T : St), Fr W T0 T → ok_m_more_29 l1 Kk f v2 v3 T → (FrP W T0) (x_m_more_29 l1 K f v2 v3 T) := by
  intro f
  induction f with
  | zero => intro v2 v3 T hT kk; exact kk.elim
  | succ f ih =>
    intro v2 v3 T hT kk
    rw [ok_m_more_29] at kk
    rw [x_m_more_29]
    refine fr_if (Q := (FrP W T0)) (fun c37_3 => ?_) (fun c37_3 => ?_)
    · have kk := kk.1 c37_3
      exact hk v2 v3 T hT kk
    · have kk := kk.2 c37_3
      obtain ⟨q1, kk⟩ := kk
      refine fr_if (Q := (FrP W T0)) (fun c52_4 => ?_) (fun c52_4 => ?_)
      · have kk := kk.1 c52_4
        exact hk v2 v3 T hT kk
      · have kk := kk.2 c52_4
        refine fr_jn (Q := (FrP W T0)) (J := fun (KJ1 : Int32 → Int32 × St) (OJ1 : Int32 → Prop) => ∀ (j1_s0 : Int32), OJ1 j1_s0 → (FrP W T0) (KJ1 j1_s0)) kk (fun j1_s0 kk => ?_) (fun KJ1 OJ1 hJ1 kk => ?_)
        · skip
          refine fr_jn (Q := (FrP W T0)) (J := fun (KJ2 : St → Int32 × St) (OJ2 : St → Prop) => ∀ (T302 : St), Fr W T0 T302 → OJ2 T302 → (FrP W T0) (KJ2 T302)) kk (fun T302 hT302 kk => ?_) (fun KJ2 OJ2 hJ2 kk => ?_)
          · skip
            exact ih (v2 ||| 0) (v3 + 1) T302 hT302 kk
          · skip
            refine fr_if (Q := (FrP W T0)) (fun c80_8 => ?_) (fun c80_8 => ?_)
            · have kk := kk.1 c80_8
              exact hJ2 T hT kk
            · have kk := kk.2 c80_8
              obtain ⟨q3, kk⟩ := kk
              refine fr_nT (Q := (FrP W T0)) (fr_tr hT (frp_o (fr_m_canBe ((T.2.2.1 575 (202 : Int32).toNatClampNeg) ||| (1 <<< (v3 &&& 31))) l1 (T.2.2.1 575 (5 : Int32).toNatClampNeg) q3)) (fun c h => hW c (by unfold W_m_canBe at h; unfold WL_m_more_29; omega))) kk (fun T3 hT3 kk => ?_)
              refine fr_if (Q := (FrP W T0)) (fun c106_9 => ?_) (fun c106_9 => ?_)
              · have kk := kk.1 c106_9
                exact hJ2 T3 hT3 kk
              · have kk := kk.2 c106_9
                refine fr_n (Q := (FrP W T0)) kk (fun i4 kk => ?_)
                exact ih i4 (v3 + 1) T3 hT3 kk
        · skip
          refine fr_if (Q := (FrP W T0)) (fun c67_10 => ?_) (fun c67_10 => ?_)
          · have kk := kk.1 c67_10
            exact hJ1 1 kk
          · have kk := kk.2 c67_10
            exact hJ1 0 kk
def W_m_more (T : St) (p0 : Int32) : Nat → Prop := fun c => (578 ≤ c ∧ c < 591) ∨ (67100 ≤ c ∧ c < 67101) ∨ (67131 ≤ c ∧ c < 67133)
theorem fr_m_more {T : St} (p0 : Int32) (kk : ok_m_more T p0) : FrP (W_m_more T p0) T (x_m_more T p0) := by
  unfold ok_m_more at kk
  have hW : ∀ c, W_m_more T p0 c → W_m_more T p0 c := fun _ h => h
  have hT : Fr (W_m_more T p0) T T := fr_rfl
  unfold x_m_more
  refine fr_if (Q := (FrP (W_m_more T p0) T)) (fun c9_1 => ?_) (fun c9_1 => ?_)
  · exact frp_i (fr_sF hT (hW _ (by unfold W_m_more; omega)))
  · have kk := kk c9_1
    refine fr_if (Q := (FrP (W_m_more T p0) T)) (fun c19_2 => ?_) (fun c19_2 => ?_)
    · exact frp_i (fr_sF hT (hW _ (by unfold W_m_more; omega)))
    · have kk := kk c19_2
      refine fr_m_more_29 p0 (fun c h => hW c (by unfold WL_m_more_29 at h; unfold W_m_more; omega)) (fun w1_2 w1_3 T201 hT201 kk => ?_) 1000 0 0 (sF T 571 0 0) (fr_sF hT (hW _ (by unfold W_m_more; omega))) kk
      exact frp_i hT201
def WL_m_mend_67 (l1 : Int32) (l2 : Int32) : Nat → Prop := fun c => (591 ≤ c ∧ c < 592)
theorem fr_m_mend_67 {W : Nat → Prop} {T0 : St} (l1 : Int32) (l2 : Int32) {K : Int32 → St → Int32 × St} {Kk : Int32 → St → Prop} (hW : ∀ c, WL_m_mend_67 l1 l2 c → W c) (hk : ∀ (v3 : Int32) (T : St), Fr W T0 T → Kk v3 T → (FrP W T0) (K v3 T)) : ∀ (f : Nat) (v3 : Int32) (T : St), Fr W T0 T → ok_m_mend_67 l1 l2 Kk f v3 T → (FrP W T0) (x_m_mend_67 l1 l2 K f v3 T) := by
  intro f
  induction f with
  | zero => intro v3 T hT kk; exact kk.elim
  | succ f ih =>
    intro v3 T hT kk
    rw [ok_m_mend_67] at kk
    rw [x_m_mend_67]
    refine fr_if (Q := (FrP W T0)) (fun c70_7 => ?_) (fun c70_7 => ?_)
    · have kk := kk.1 c70_7
      exact hk v3 T hT kk
    · have kk := kk.2 c70_7
      obtain ⟨q2, kk⟩ := kk
      have gq2 := in_lt q2
      exact ih (v3 + 1) (sA T 591 (v3 : Int32).toNatClampNeg (T.2.2.1 593 (v3 : Int32).toNatClampNeg)) (fr_sA hT (hW _ (by unfold WL_m_mend_67; omega))) kk
def W_m_mend (T : St) (p0 : Int32) (p1 : Int32) : Nat → Prop := fun c => (578 ≤ c ∧ c < 597) ∨ (67100 ≤ c ∧ c < 67101) ∨ (67131 ≤ c ∧ c < 67133) ∨ (67134 ≤ c ∧ c < 67137) ∨ (67139 ≤ c ∧ c < 67140)
theorem fr_m_mend {T : St} (p0 : Int32) (p1 : Int32) (kk : ok_m_mend T p0 p1) : FrP (W_m_mend T p0 p1) T (x_m_mend T p0 p1) := by
  unfold ok_m_mend at kk
  have hW : ∀ c, W_m_mend T p0 p1 c → W_m_mend T p0 p1 c := fun _ h => h
  have hT : Fr (W_m_mend T p0 p1) T T := fr_rfl
  unfold x_m_mend
  refine fr_if (Q := (FrP (W_m_mend T p0 p1) T)) (fun c9_1 => ?_) (fun c9_1 => ?_)
  · exact frp_i (fr_sF hT (hW _ (by unfold W_m_mend; omega)))
  · have kk := kk c9_1
    refine fr_if (Q := (FrP (W_m_mend T p0 p1) T)) (fun c16_2 => ?_) (fun c16_2 => ?_)
    · exact frp_i (fr_sF hT (hW _ (by unfold W_m_mend; omega)))
    · have kk := kk c16_2
      refine fr_if (Q := (FrP (W_m_mend T p0 p1) T)) (fun c26_3 => ?_) (fun c26_3 => ?_)
      · exact frp_i (fr_sF hT (hW _ (by unfold W_m_mend; omega)))
      · have kk := kk c26_3
        refine fr_if (Q := (FrP (W_m_mend T p0 p1) T)) (fun c35_4 => ?_) (fun c35_4 => ?_)
        · exact frp_i (fr_sF hT (hW _ (by unfold W_m_mend; omega)))
        · have kk := kk c35_4
          refine fr_if (Q := (FrP (W_m_mend T p0 p1) T)) (fun c48_5 => ?_) (fun c48_5 => ?_)
          · have kk := kk c48_5
            obtain ⟨q1, kk⟩ := kk
            refine fr_if (Q := (FrP (W_m_mend T p0 p1) T)) (fun c59_6 => ?_) (fun c59_6 => ?_)
            · exact frp_i (fr_tr (fr_sF hT (hW _ (by unfold W_m_mend; omega))) (frp_o (fr_m_know p0 q1)) (fun c h => hW c (by unfold W_m_know at h; unfold W_m_mend; omega)))
            · have kk := kk c59_6
              refine fr_m_mend_67 p0 p1 (fun c h => hW c (by unfold WL_m_mend_67 at h; unfold W_m_mend; omega)) (fun w1_3 T201 hT201 kk => ?_) 1000 0 ((x_m_know (sF T 571 0 0) p0).2) (fr_tr (fr_sF hT (hW _ (by unfold W_m_mend; omega))) (frp_o (fr_m_know p0 q1)) (fun c h => hW c (by unfold W_m_know at h; unfold W_m_mend; omega))) kk
              obtain ⟨q3, kk⟩ := kk
              refine fr_nT0 (Q := (FrP (W_m_mend T p0 p1) T)) (fr_tr (fr_sF hT201 (hW _ (by unfold W_m_mend; omega))) (frp_o (fr_m_seek ((sF T201 571 32 p1).2.2.1 575 (202 : Int32).toNatClampNeg) p0 ((sF T201 571 32 p1).2.2.1 575 (5 : Int32).toNatClampNeg) p1 0 0 q3)) (fun c h => hW c (by unfold W_m_seek at h; unfold W_m_mend; omega))) (fun T1 hT1 => ?_)
              refine fr_n0 (Q := (FrP (W_m_mend T p0 p1) T)) (fun i2 => ?_)
              refine fr_if (Q := (FrP (W_m_mend T p0 p1) T)) (fun c125_8 => ?_) (fun c125_8 => ?_)
              · exact frp_i (fr_sF hT1 (hW _ (by unfold W_m_mend; omega)))
              · exact frp_i (fr_sF hT1 (hW _ (by unfold W_m_mend; omega)))
          · exact frp_i (fr_sF hT (hW _ (by unfold W_m_mend; omega)))
def WL_m_mind_38 (l1 : Int32) (l2 : Int32) : Nat → Prop := fun c => (578 ≤ c ∧ c < 591) ∨ (592 ≤ c ∧ c < 597) ∨ (67131 ≤ c ∧ c < 67133) ∨ (67134 ≤ c ∧ c < 67137) ∨ (67139 ≤ c ∧ c < 67140)
theorem fr_m_mind_38 {W : Nat → Prop} {T0 : St} (l1 : Int32) (l2 : Int32) {K : Int32 → Int32 → St → Int32 × St} {Kk : Int32 → Int32 → St → Prop} (hW : ∀ c, WL_m_mind_38 l1 l2 c → W c) (hk : ∀ (v3 : Int32) (v4 : Int32) (T : St), Fr W T0 T → Kk v3 v4 T → (FrP W T0) (K v3 v4 T)) : ∀ (f : Nat) (v3 : Int32) (v4 : Int32) (T : St), Fr W T0 T → ok_m_mind_38 l1 l2 Kk f v3 v4 T → (FrP W T0) (x_m_mind_38 l1 l2 K f v3 v4 T) := by
  intro f
  induction f with
  | zero => intro v3 v4 T hT kk; exact kk.elim
  | succ f ih =>
    intro v3 v4 T hT kk
    rw [ok_m_mind_38] at kk
    rw [x_m_mind_38]
    obtain ⟨q1, kk⟩ := kk
    refine fr_if (Q := (FrP W T0)) (fun c43_4 => ?_) (fun c43_4 => ?_)
    · have kk := kk.1 c43_4
      exact hk v3 v4 ((x_m_know T l1).2) (fr_tr hT (frp_o (fr_m_know l1 q1)) (fun c h => hW c (by unfold W_m_know at h; unfold WL_m_mind_38; omega))) kk
    · have kk := kk.2 c43_4
      refine fr_if (Q := (FrP W T0)) (fun c52_5 => ?_) (fun c52_5 => ?_)
      · have kk := kk.1 c52_5
        exact hk v3 v4 ((x_m_know T l1).2) (fr_tr hT (frp_o (fr_m_know l1 q1)) (fun c h => hW c (by unfold W_m_know at h; unfold WL_m_mind_38; omega))) kk
      · have kk := kk.2 c52_5
        obtain ⟨q2, kk⟩ := kk
        have gq2 := in_lt q2
        refine fr_if (Q := (FrP W T0)) (fun c63_6 => ?_) (fun c63_6 => ?_)
        · have kk := kk.1 c63_6
          exact ih v3 (v4 + 1) ((x_m_know T l1).2) (fr_tr hT (frp_o (fr_m_know l1 q1)) (fun c h => hW c (by unfold W_m_know at h; unfold WL_m_mind_38; omega))) kk
        · have kk := kk.2 c63_6
          refine fr_jn (Q := (FrP W T0)) (J := fun (KJ1 : Int32 × St) (OJ1 : Prop) => OJ1 → (FrP W T0) (KJ1)) kk (fun  kk => ?_) (fun KJ1 OJ1 hJ1 kk => ?_)
          · skip
            exact ih v4 (v4 + 1) ((x_m_know T l1).2) (fr_tr hT (frp_o (fr_m_know l1 q1)) (fun c h => hW c (by unfold W_m_know at h; unfold WL_m_mind_38; omega))) kk
          · skip
            refine fr_if (Q := (FrP W T0)) (fun c69_9 => ?_) (fun c69_9 => ?_)
            · have kk := kk.1 c69_9
              exact hJ1  kk
            · have kk := kk.2 c69_9
              obtain ⟨q4, kk⟩ := kk
              have gq4 := in_lt q4
              refine fr_if (Q := (FrP W T0)) (fun c85_10 => ?_) (fun c85_10 => ?_)
              · have kk := kk.1 c85_10
                exact ih v3 (v4 + 1) ((x_m_know T l1).2) (fr_tr hT (frp_o (fr_m_know l1 q1)) (fun c h => hW c (by unfold W_m_know at h; unfold WL_m_mind_38; omega))) kk
              · have kk := kk.2 c85_10
                exact hJ1  kk
def W_m_mind (T : St) (p0 : Int32) (p1 : Int32) : Nat → Prop := fun c => (578 ≤ c ∧ c < 591) ∨ (592 ≤ c ∧ c < 597) ∨ (67100 ≤ c ∧ c < 67101) ∨ (67131 ≤ c ∧ c < 67133) ∨ (67134 ≤ c ∧ c < 67137) ∨ (67139 ≤ c ∧ c < 67140)
theorem fr_m_mind {T : St} (p0 : Int32) (p1 : Int32) (kk : ok_m_mind T p0 p1) : FrP (W_m_mind T p0 p1) T (x_m_mind T p0 p1) := by
  unfold ok_m_mind at kk
  have hW : ∀ c, W_m_mind T p0 p1 c → W_m_mind T p0 p1 c := fun _ h => h
  have hT : Fr (W_m_mind T p0 p1) T T := fr_rfl
  unfold x_m_mind
  refine fr_if (Q := (FrP (W_m_mind T p0 p1) T)) (fun c9_1 => ?_) (fun c9_1 => ?_)
  · exact frp_i (fr_sF hT (hW _ (by unfold W_m_mind; omega)))
  · have kk := kk c9_1
    refine fr_if (Q := (FrP (W_m_mind T p0 p1) T)) (fun c16_2 => ?_) (fun c16_2 => ?_)
    · exact frp_i (fr_sF hT (hW _ (by unfold W_m_mind; omega)))
    · have kk := kk c16_2
      refine fr_if (Q := (FrP (W_m_mind T p0 p1) T)) (fun c26_3 => ?_) (fun c26_3 => ?_)
      · exact frp_i (fr_sF hT (hW _ (by unfold W_m_mind; omega)))
      · have kk := kk c26_3
        refine fr_m_mind_38 p0 p1 (fun c h => hW c (by unfold WL_m_mind_38 at h; unfold W_m_mind; omega)) (fun w1_3 w1_4 T201 hT201 kk => ?_) 1000 (-1000000) 0 (sF T 571 0 0) (fr_sF hT (hW _ (by unfold W_m_mind; omega))) kk
        exact frp_i hT201
def WL_m_image_30 (l1 : Int32) : Nat → Prop := fun c => (600 ≤ c ∧ c < 601)
theorem fr_m_image_30 {W : Nat → Prop} {T0 : St} (l1 : Int32) {K : Int32 → St → Int32 × St} {Kk : Int32 → St → Prop} (hW : ∀ c, WL_m_image_30 l1 c → W c) (hk : ∀ (v2 : Int32) (T : St), Fr W T0 T → Kk v2 T → (FrP W T0) (K v2 T)) : ∀ (f : Nat) (v2 : Int32) (T : St), Fr W T0 T → ok_m_image_30 l1 Kk f v2 T → (FrP W T0) (x_m_image_30 l1 K f v2 T) := by
  intro f
  induction f with
  | zero => intro v2 T hT kk; exact kk.elim
  | succ f ih =>
    intro v2 T hT kk
    rw [ok_m_image_30] at kk
    rw [x_m_image_30]
    refine fr_if (Q := (FrP W T0)) (fun c34_3 => ?_) (fun c34_3 => ?_)
    · have kk := kk.1 c34_3
      exact hk v2 T hT kk
    · have kk := kk.2 c34_3
      obtain ⟨q1, kk⟩ := kk
      have gq1 := in_lt q1
      obtain ⟨q2, kk⟩ := kk
      have gq2 := in_lt q2
      exact ih (v2 + 1) (sA T 600 ((204 * l1) + v2 : Int32).toNatClampNeg (T.2.2.1 575 (v2 : Int32).toNatClampNeg)) (fr_sA hT (hW _ (by unfold WL_m_image_30; omega))) kk
def W_m_image (T : St) (p0 : Int32) : Nat → Prop := fun c => (599 ≤ c ∧ c < 601) ∨ (67100 ≤ c ∧ c < 67101)
theorem fr_m_image {T : St} (p0 : Int32) (kk : ok_m_image T p0) : FrP (W_m_image T p0) T (x_m_image T p0) := by
  unfold ok_m_image at kk
  have hW : ∀ c, W_m_image T p0 c → W_m_image T p0 c := fun _ h => h
  have hT : Fr (W_m_image T p0) T T := fr_rfl
  unfold x_m_image
  refine fr_if (Q := (FrP (W_m_image T p0) T)) (fun c12_1 => ?_) (fun c12_1 => ?_)
  · exact frp_i (fr_sF hT (hW _ (by unfold W_m_image; omega)))
  · have kk := kk c12_1
    refine fr_if (Q := (FrP (W_m_image T p0) T)) (fun c22_2 => ?_) (fun c22_2 => ?_)
    · exact frp_i (fr_sF hT (hW _ (by unfold W_m_image; omega)))
    · have kk := kk c22_2
      refine fr_m_image_30 p0 (fun c h => hW c (by unfold WL_m_image_30 at h; unfold W_m_image; omega)) (fun w1_2 T201 hT201 kk => ?_) 1000 0 (sF T 571 0 0) (fr_sF hT (hW _ (by unfold W_m_image; omega))) kk
      obtain ⟨q3, kk⟩ := kk
      have gq3 := in_lt q3
      exact frp_i (fr_sA hT201 (hW _ (by unfold W_m_image; omega)))
def WL_m_restore_32 (l1 : Int32) : Nat → Prop := fun c => (575 ≤ c ∧ c < 576)
theorem fr_m_restore_32 {W : Nat → Prop} {T0 : St} (l1 : Int32) {K : Int32 → St → Int32 × St} {Kk : Int32 → St → Prop} (hW : ∀ c, WL_m_restore_32 l1 c → W c) (hk : ∀ (v2 : Int32) (T : St), Fr W T0 T → Kk v2 T → (FrP W T0) (K v2 T)) : ∀ (f : Nat) (v2 : Int32) (T : St), Fr W T0 T → ok_m_restore_32 l1 Kk f v2 T → (FrP W T0) (x_m_restore_32 l1 K f v2 T) := by
  intro f
  induction f with
  | zero => intro v2 T hT kk; exact kk.elim
  | succ f ih =>
    intro v2 T hT kk
    rw [ok_m_restore_32] at kk
    rw [x_m_restore_32]
    refine fr_if (Q := (FrP W T0)) (fun c36_3 => ?_) (fun c36_3 => ?_)
    · have kk := kk.1 c36_3
      exact hk v2 T hT kk
    · have kk := kk.2 c36_3
      obtain ⟨q2, kk⟩ := kk
      have gq2 := in_lt q2
      obtain ⟨q3, kk⟩ := kk
      have gq3 := in_lt q3
      exact ih (v2 + 1) (sA T 575 (v2 : Int32).toNatClampNeg (T.2.2.1 600 ((204 * l1) + v2 : Int32).toNatClampNeg)) (fr_sA hT (hW _ (by unfold WL_m_restore_32; omega))) kk
def W_m_restore (T : St) (p0 : Int32) : Nat → Prop := fun c => (575 ≤ c ∧ c < 576) ∨ (67100 ≤ c ∧ c < 67101) ∨ (67132 ≤ c ∧ c < 67133) ∨ (67134 ≤ c ∧ c < 67135)
theorem fr_m_restore {T : St} (p0 : Int32) (kk : ok_m_restore T p0) : FrP (W_m_restore T p0) T (x_m_restore T p0) := by
  unfold ok_m_restore at kk
  have hW : ∀ c, W_m_restore T p0 c → W_m_restore T p0 c := fun _ h => h
  have hT : Fr (W_m_restore T p0) T T := fr_rfl
  unfold x_m_restore
  refine fr_if (Q := (FrP (W_m_restore T p0) T)) (fun c12_1 => ?_) (fun c12_1 => ?_)
  · exact frp_i (fr_sF hT (hW _ (by unfold W_m_restore; omega)))
  · have kk := kk c12_1
    obtain ⟨q1, kk⟩ := kk
    have gq1 := in_lt q1
    refine fr_if (Q := (FrP (W_m_restore T p0) T)) (fun c24_2 => ?_) (fun c24_2 => ?_)
    · exact frp_i (fr_sF hT (hW _ (by unfold W_m_restore; omega)))
    · have kk := kk c24_2
      refine fr_m_restore_32 p0 (fun c h => hW c (by unfold WL_m_restore_32 at h; unfold W_m_restore; omega)) (fun w1_2 T201 hT201 kk => ?_) 1000 0 (sF T 571 0 0) (fr_sF hT (hW _ (by unfold W_m_restore; omega))) kk
      exact frp_i (fr_tr hT201 ((fr_m_forget )) (fun c h => hW c (by unfold W_m_forget at h; unfold W_m_restore; omega)))
def W_m_kind (T : St) (p0 : Int32) : Nat → Prop := fun c => (67100 ≤ c ∧ c < 67101)
theorem fr_m_kind {T : St} (p0 : Int32) (kk : ok_m_kind T p0) : FrP (W_m_kind T p0) T (x_m_kind T p0) := by
  unfold ok_m_kind at kk
  have hW : ∀ c, W_m_kind T p0 c → W_m_kind T p0 c := fun _ h => h
  have hT : Fr (W_m_kind T p0) T T := fr_rfl
  unfold x_m_kind
  refine fr_if (Q := (FrP (W_m_kind T p0) T)) (fun c10_1 => ?_) (fun c10_1 => ?_)
  · exact frp_i (fr_sF hT (hW _ (by unfold W_m_kind; omega)))
  · have kk := kk c10_1
    obtain ⟨q1, kk⟩ := kk
    exact frp_i (fr_sF hT (hW _ (by unfold W_m_kind; omega)))
def W_m_as (T : St) (p0 : Int32) (p1 : Int32) : Nat → Prop := fun c => (67100 ≤ c ∧ c < 67102)
theorem fr_m_as {T : St} (p0 : Int32) (p1 : Int32) (kk : ok_m_as T p0 p1) : FrP (W_m_as T p0 p1) T (x_m_as T p0 p1) := by
  unfold ok_m_as at kk
  have hW : ∀ c, W_m_as T p0 p1 c → W_m_as T p0 p1 c := fun _ h => h
  have hT : Fr (W_m_as T p0 p1) T T := fr_rfl
  unfold x_m_as
  refine fr_if (Q := (FrP (W_m_as T p0 p1) T)) (fun c10_1 => ?_) (fun c10_1 => ?_)
  · exact frp_i (fr_sF hT (hW _ (by unfold W_m_as; omega)))
  · have kk := kk c10_1
    refine fr_if (Q := (FrP (W_m_as T p0 p1) T)) (fun c22_2 => ?_) (fun c22_2 => ?_)
    · exact frp_i (fr_sF hT (hW _ (by unfold W_m_as; omega)))
    · have kk := kk c22_2
      obtain ⟨q1, kk⟩ := kk
      refine fr_if (Q := (FrP (W_m_as T p0 p1) T)) (fun c42_3 => ?_) (fun c42_3 => ?_)
      · exact frp_i (fr_tr (fr_sF (fr_sF hT (hW _ (by unfold W_m_as; omega))) (hW _ (by unfold W_m_as; omega))) (frp_o (fr_m_finding 3)) (fun c h => hW c (by unfold W_m_finding at h; unfold W_m_as; omega)))
      · exact frp_i (fr_sF (fr_sF hT (hW _ (by unfold W_m_as; omega))) (hW _ (by unfold W_m_as; omega)))
def W_m_began (T : St) (p0 : Int32) : Nat → Prop := fun c => (601 ≤ c ∧ c < 602) ∨ (67148 ≤ c ∧ c < 67149)
theorem fr_m_began {T : St} (p0 : Int32) (kk : ok_m_began T p0) : Fr (W_m_began T p0) T (x_m_began T p0) := by
  unfold ok_m_began at kk
  have hW : ∀ c, W_m_began T p0 c → W_m_began T p0 c := fun _ h => h
  have hT : Fr (W_m_began T p0) T T := fr_rfl
  unfold x_m_began
  refine fr_if (Q := (Fr (W_m_began T p0) T)) (fun c6_1 => ?_) (fun c6_1 => ?_)
  · exact hT
  · have kk := kk c6_1
    obtain ⟨q1, kk⟩ := kk
    have gq1 := in_lt q1
    exact (fr_sF (fr_sA hT (hW _ (by unfold W_m_began; omega))) (hW _ (by unfold W_m_began; omega)))
def W_m_markOf (T : St) (p0 : Int32) (p1 : Int32) : Nat → Prop := fun c => (601 ≤ c ∧ c < 602) ∨ (67148 ≤ c ∧ c < 67149)
theorem fr_m_markOf {T : St} (p0 : Int32) (p1 : Int32) (kk : ok_m_markOf T p0 p1) : FrP (W_m_markOf T p0 p1) T (x_m_markOf T p0 p1) := by
  unfold ok_m_markOf at kk
  have hW : ∀ c, W_m_markOf T p0 p1 c → W_m_markOf T p0 p1 c := fun _ h => h
  have hT : Fr (W_m_markOf T p0 p1) T T := fr_rfl
  unfold x_m_markOf
  refine fr_jn (Q := (FrP (W_m_markOf T p0 p1) T)) (J := fun (KJ1 : Int32 × St) (OJ1 : Prop) => OJ1 → (FrP (W_m_markOf T p0 p1) T) (KJ1)) kk (fun  kk => ?_) (fun KJ1 OJ1 hJ1 kk => ?_)
  · skip
    refine fr_jn (Q := (FrP (W_m_markOf T p0 p1) T)) (J := fun (KJ2 : Int32 → Int32 × St) (OJ2 : Int32 → Prop) => ∀ (j2_s1 : Int32), OJ2 j2_s1 → (FrP (W_m_markOf T p0 p1) T) (KJ2 j2_s1)) kk (fun j2_s1 kk => ?_) (fun KJ2 OJ2 hJ2 kk => ?_)
    · skip
      obtain ⟨q12, kk⟩ := kk
      refine fr_jn (Q := (FrP (W_m_markOf T p0 p1) T)) (J := fun (KJ3 : St → Int32 × St) (OJ3 : St → Prop) => ∀ (T303 : St), Fr (W_m_markOf T p0 p1) T T303 → OJ3 T303 → (FrP (W_m_markOf T p0 p1) T) (KJ3 T303)) kk (fun T303 hT303 kk => ?_) (fun KJ3 OJ3 hJ3 kk => ?_)
      · skip
        obtain ⟨q14, kk⟩ := kk
        refine fr_if (Q := (FrP (W_m_markOf T p0 p1) T)) (fun c64_20 => ?_) (fun c64_20 => ?_)
        · have kk := kk.1 c64_20
          obtain ⟨q16, kk⟩ := kk
          obtain ⟨q17, kk⟩ := kk
          exact frp_i (fr_tr (fr_tr hT303 ((fr_m_began 20 q14)) (fun c h => hW c (by unfold W_m_began at h; unfold W_m_markOf; omega))) ((fr_m_began 10 q16)) (fun c h => hW c (by unfold W_m_began at h; unfold W_m_markOf; omega)))
        · have kk := kk.2 c64_20
          refine fr_jn (Q := (FrP (W_m_markOf T p0 p1) T)) (J := fun (KJ4 : Int32 → Int32 × St) (OJ4 : Int32 → Prop) => ∀ (j4_s0 : Int32), OJ4 j4_s0 → (FrP (W_m_markOf T p0 p1) T) (KJ4 j4_s0)) kk (fun j4_s0 kk => ?_) (fun KJ4 OJ4 hJ4 kk => ?_)
          · skip
            refine fr_if (Q := (FrP (W_m_markOf T p0 p1) T)) (fun c101_22 => ?_) (fun c101_22 => ?_)
            · have kk := kk c101_22
              obtain ⟨q15, kk⟩ := kk
              exact frp_i (fr_tr hT303 ((fr_m_began 20 q14)) (fun c h => hW c (by unfold W_m_began at h; unfold W_m_markOf; omega)))
            · refine fr_if (Q := (FrP (W_m_markOf T p0 p1) T)) (fun c118_23 => ?_) (fun c118_23 => ?_)
              · exact frp_i (fr_tr hT303 ((fr_m_began 20 q14)) (fun c h => hW c (by unfold W_m_began at h; unfold W_m_markOf; omega)))
              · exact frp_i (fr_tr hT303 ((fr_m_began 20 q14)) (fun c h => hW c (by unfold W_m_began at h; unfold W_m_markOf; omega)))
          · skip
            refine fr_if (Q := (FrP (W_m_markOf T p0 p1) T)) (fun c87_24 => ?_) (fun c87_24 => ?_)
            · have kk := kk.1 c87_24
              exact hJ4 p0 kk
            · have kk := kk.2 c87_24
              exact hJ4 (p0 + 50) kk
      · skip
        refine fr_if (Q := (FrP (W_m_markOf T p0 p1) T)) (fun c47_25 => ?_) (fun c47_25 => ?_)
        · have kk := kk.1 c47_25
          exact hJ3 (x_m_began T j2_s1) (fr_tr hT ((fr_m_began j2_s1 q12)) (fun c h => hW c (by unfold W_m_began at h; unfold W_m_markOf; omega))) kk
        · have kk := kk.2 c47_25
          obtain ⟨q18, kk⟩ := kk
          exact hJ3 (x_m_began (x_m_began T j2_s1) 21) (fr_tr (fr_tr hT ((fr_m_began j2_s1 q12)) (fun c h => hW c (by unfold W_m_began at h; unfold W_m_markOf; omega))) ((fr_m_began 21 q18)) (fun c h => hW c (by unfold W_m_began at h; unfold W_m_markOf; omega))) kk
    · skip
      refine fr_if (Q := (FrP (W_m_markOf T p0 p1) T)) (fun c19_26 => ?_) (fun c19_26 => ?_)
      · have kk := kk.1 c19_26
        exact hJ2 22 kk
      · have kk := kk.2 c19_26
        refine fr_if (Q := (FrP (W_m_markOf T p0 p1) T)) (fun c29_27 => ?_) (fun c29_27 => ?_)
        · have kk := kk.1 c29_27
          exact hJ2 23 kk
        · have kk := kk.2 c29_27
          exact hJ2 24 kk
  · skip
    refine fr_if (Q := (FrP (W_m_markOf T p0 p1) T)) (fun c2_28 => ?_) (fun c2_28 => ?_)
    · have kk := kk.1 c2_28
      exact hJ1  kk
    · have kk := kk.2 c2_28
      refine fr_if (Q := (FrP (W_m_markOf T p0 p1) T)) (fun c7_29 => ?_) (fun c7_29 => ?_)
      · have kk := kk.1 c7_29
        exact hJ1  kk
      · have kk := kk.2 c7_29
        refine fr_if (Q := (FrP (W_m_markOf T p0 p1) T)) (fun c13_30 => ?_) (fun c13_30 => ?_)
        · have kk := kk.1 c13_30
          exact hJ1  kk
        · have kk := kk.2 c13_30
          refine fr_jn (Q := (FrP (W_m_markOf T p0 p1) T)) (J := fun (KJ5 : St → Int32 × St) (OJ5 : St → Prop) => ∀ (T305 : St), Fr (W_m_markOf T p0 p1) T T305 → OJ5 T305 → (FrP (W_m_markOf T p0 p1) T) (KJ5 T305)) kk (fun T305 hT305 kk => ?_) (fun KJ5 OJ5 hJ5 kk => ?_)
          · skip
            obtain ⟨q20, kk⟩ := kk
            refine fr_if (Q := (FrP (W_m_markOf T p0 p1) T)) (fun c64_32 => ?_) (fun c64_32 => ?_)
            · have kk := kk.1 c64_32
              obtain ⟨q22, kk⟩ := kk
              obtain ⟨q23, kk⟩ := kk
              exact frp_i (fr_tr (fr_tr hT305 ((fr_m_began 20 q20)) (fun c h => hW c (by unfold W_m_began at h; unfold W_m_markOf; omega))) ((fr_m_began 10 q22)) (fun c h => hW c (by unfold W_m_began at h; unfold W_m_markOf; omega)))
            · have kk := kk.2 c64_32
              refine fr_jn (Q := (FrP (W_m_markOf T p0 p1) T)) (J := fun (KJ6 : Int32 → Int32 × St) (OJ6 : Int32 → Prop) => ∀ (j6_s0 : Int32), OJ6 j6_s0 → (FrP (W_m_markOf T p0 p1) T) (KJ6 j6_s0)) kk (fun j6_s0 kk => ?_) (fun KJ6 OJ6 hJ6 kk => ?_)
              · skip
                refine fr_if (Q := (FrP (W_m_markOf T p0 p1) T)) (fun c101_34 => ?_) (fun c101_34 => ?_)
                · have kk := kk c101_34
                  obtain ⟨q21, kk⟩ := kk
                  exact frp_i (fr_tr hT305 ((fr_m_began 20 q20)) (fun c h => hW c (by unfold W_m_began at h; unfold W_m_markOf; omega)))
                · refine fr_if (Q := (FrP (W_m_markOf T p0 p1) T)) (fun c118_35 => ?_) (fun c118_35 => ?_)
                  · exact frp_i (fr_tr hT305 ((fr_m_began 20 q20)) (fun c h => hW c (by unfold W_m_began at h; unfold W_m_markOf; omega)))
                  · exact frp_i (fr_tr hT305 ((fr_m_began 20 q20)) (fun c h => hW c (by unfold W_m_began at h; unfold W_m_markOf; omega)))
              · skip
                refine fr_if (Q := (FrP (W_m_markOf T p0 p1) T)) (fun c87_36 => ?_) (fun c87_36 => ?_)
                · have kk := kk.1 c87_36
                  exact hJ6 p0 kk
                · have kk := kk.2 c87_36
                  exact hJ6 (p0 + 50) kk
          · skip
            refine fr_if (Q := (FrP (W_m_markOf T p0 p1) T)) (fun c47_37 => ?_) (fun c47_37 => ?_)
            · have kk := kk.1 c47_37
              exact hJ5 T hT kk
            · have kk := kk.2 c47_37
              obtain ⟨q24, kk⟩ := kk
              exact hJ5 (x_m_began T 21) (fr_tr hT ((fr_m_began 21 q24)) (fun c h => hW c (by unfold W_m_began at h; unfold W_m_markOf; omega))) kk
def W_m_sizeOf (T : St) (p0 : Int32) (p1 : Int32) : Nat → Prop := fun c => (601 ≤ c ∧ c < 602) ∨ (67148 ≤ c ∧ c < 67149)
theorem fr_m_sizeOf {T : St} (p0 : Int32) (p1 : Int32) (kk : ok_m_sizeOf T p0 p1) : FrP (W_m_sizeOf T p0 p1) T (x_m_sizeOf T p0 p1) := by
  unfold ok_m_sizeOf at kk
  have hW : ∀ c, W_m_sizeOf T p0 p1 c → W_m_sizeOf T p0 p1 c := fun _ h => h
  have hT : Fr (W_m_sizeOf T p0 p1) T T := fr_rfl
  unfold x_m_sizeOf
  refine fr_jn (Q := (FrP (W_m_sizeOf T p0 p1) T)) (J := fun (KJ1 : Int32 × St) (OJ1 : Prop) => OJ1 → (FrP (W_m_sizeOf T p0 p1) T) (KJ1)) kk (fun  kk => ?_) (fun KJ1 OJ1 hJ1 kk => ?_)
  · skip
    refine fr_jn (Q := (FrP (W_m_sizeOf T p0 p1) T)) (J := fun (KJ2 : Int32 → Int32 × St) (OJ2 : Int32 → Prop) => ∀ (j2_s1 : Int32), OJ2 j2_s1 → (FrP (W_m_sizeOf T p0 p1) T) (KJ2 j2_s1)) kk (fun j2_s1 kk => ?_) (fun KJ2 OJ2 hJ2 kk => ?_)
    · skip
      obtain ⟨q18, kk⟩ := kk
      refine fr_n (Q := (FrP (W_m_sizeOf T p0 p1) T)) kk (fun i5 kk => ?_)
      refine fr_jn (Q := (FrP (W_m_sizeOf T p0 p1) T)) (J := fun (KJ3 : St → Int32 × St) (OJ3 : St → Prop) => ∀ (T303 : St), Fr (W_m_sizeOf T p0 p1) T T303 → OJ3 T303 → (FrP (W_m_sizeOf T p0 p1) T) (KJ3 T303)) kk (fun T303 hT303 kk => ?_) (fun KJ3 OJ3 hJ3 kk => ?_)
      · skip
        obtain ⟨q20, kk⟩ := kk
        obtain ⟨q21, kk⟩ := kk
        refine fr_jn (Q := (FrP (W_m_sizeOf T p0 p1) T)) (J := fun (KJ4 : Int32 → Int32 × St) (OJ4 : Int32 → Prop) => ∀ (j4_s1 : Int32), OJ4 j4_s1 → (FrP (W_m_sizeOf T p0 p1) T) (KJ4 j4_s1)) kk (fun j4_s1 kk => ?_) (fun KJ4 OJ4 hJ4 kk => ?_)
        · skip
          refine fr_n (Q := (FrP (W_m_sizeOf T p0 p1) T)) kk (fun i6 kk => ?_)
          refine fr_if (Q := (FrP (W_m_sizeOf T p0 p1) T)) (fun c94_23 => ?_) (fun c94_23 => ?_)
          · exact frp_i (fr_tr hT303 ((fr_m_began 10 q20)) (fun c h => hW c (by unfold W_m_began at h; unfold W_m_sizeOf; omega)))
          · have kk := kk c94_23
            refine fr_if (Q := (FrP (W_m_sizeOf T p0 p1) T)) (fun c106_24 => ?_) (fun c106_24 => ?_)
            · have kk := kk.1 c106_24
              obtain ⟨q24, kk⟩ := kk
              obtain ⟨q25, kk⟩ := kk
              exact frp_i (fr_tr hT303 ((fr_m_began 10 q20)) (fun c h => hW c (by unfold W_m_began at h; unfold W_m_sizeOf; omega)))
            · have kk := kk.2 c106_24
              refine fr_if (Q := (FrP (W_m_sizeOf T p0 p1) T)) (fun c130_25 => ?_) (fun c130_25 => ?_)
              · have kk := kk c130_25
                obtain ⟨q23, kk⟩ := kk
                exact frp_i (fr_tr (fr_tr hT303 ((fr_m_began 10 q20)) (fun c h => hW c (by unfold W_m_began at h; unfold W_m_sizeOf; omega))) (frp_o (fr_m_markOf p0 p1 q23)) (fun c h => hW c (by unfold W_m_markOf at h; unfold W_m_sizeOf; omega)))
              · exact frp_i (fr_tr hT303 ((fr_m_began 10 q20)) (fun c h => hW c (by unfold W_m_began at h; unfold W_m_sizeOf; omega)))
        · skip
          refine fr_if (Q := (FrP (W_m_sizeOf T p0 p1) T)) (fun c72_26 => ?_) (fun c72_26 => ?_)
          · have kk := kk.1 c72_26
            exact hJ4 0 kk
          · have kk := kk.2 c72_26
            obtain ⟨q26, kk⟩ := kk
            exact hJ4 (10 * (x_m_stepOf (x_m_began T303 10) p0 4)) kk
      · skip
        refine fr_if (Q := (FrP (W_m_sizeOf T p0 p1) T)) (fun c50_27 => ?_) (fun c50_27 => ?_)
        · have kk := kk.1 c50_27
          exact hJ3 (x_m_began T j2_s1) (fr_tr hT ((fr_m_began j2_s1 q18)) (fun c h => hW c (by unfold W_m_began at h; unfold W_m_sizeOf; omega))) kk
        · have kk := kk.2 c50_27
          obtain ⟨q27, kk⟩ := kk
          exact hJ3 (x_m_began (x_m_began T j2_s1) 11) (fr_tr (fr_tr hT ((fr_m_began j2_s1 q18)) (fun c h => hW c (by unfold W_m_began at h; unfold W_m_sizeOf; omega))) ((fr_m_began 11 q27)) (fun c h => hW c (by unfold W_m_began at h; unfold W_m_sizeOf; omega))) kk
    · skip
      refine fr_if (Q := (FrP (W_m_sizeOf T p0 p1) T)) (fun c20_28 => ?_) (fun c20_28 => ?_)
      · have kk := kk.1 c20_28
        exact hJ2 12 kk
      · have kk := kk.2 c20_28
        refine fr_if (Q := (FrP (W_m_sizeOf T p0 p1) T)) (fun c30_29 => ?_) (fun c30_29 => ?_)
        · have kk := kk.1 c30_29
          exact hJ2 13 kk
        · have kk := kk.2 c30_29
          exact hJ2 14 kk
  · skip
    refine fr_if (Q := (FrP (W_m_sizeOf T p0 p1) T)) (fun c3_30 => ?_) (fun c3_30 => ?_)
    · have kk := kk.1 c3_30
      exact hJ1  kk
    · have kk := kk.2 c3_30
      refine fr_if (Q := (FrP (W_m_sizeOf T p0 p1) T)) (fun c8_31 => ?_) (fun c8_31 => ?_)
      · have kk := kk.1 c8_31
        exact hJ1  kk
      · have kk := kk.2 c8_31
        refine fr_if (Q := (FrP (W_m_sizeOf T p0 p1) T)) (fun c13_32 => ?_) (fun c13_32 => ?_)
        · have kk := kk.1 c13_32
          exact hJ1  kk
        · have kk := kk.2 c13_32
          refine fr_jn (Q := (FrP (W_m_sizeOf T p0 p1) T)) (J := fun (KJ5 : St → Int32 × St) (OJ5 : St → Prop) => ∀ (T305 : St), Fr (W_m_sizeOf T p0 p1) T T305 → OJ5 T305 → (FrP (W_m_sizeOf T p0 p1) T) (KJ5 T305)) kk (fun T305 hT305 kk => ?_) (fun KJ5 OJ5 hJ5 kk => ?_)
          · skip
            obtain ⟨q29, kk⟩ := kk
            obtain ⟨q30, kk⟩ := kk
            refine fr_jn (Q := (FrP (W_m_sizeOf T p0 p1) T)) (J := fun (KJ6 : Int32 → Int32 × St) (OJ6 : Int32 → Prop) => ∀ (j6_s1 : Int32), OJ6 j6_s1 → (FrP (W_m_sizeOf T p0 p1) T) (KJ6 j6_s1)) kk (fun j6_s1 kk => ?_) (fun KJ6 OJ6 hJ6 kk => ?_)
            · skip
              refine fr_n (Q := (FrP (W_m_sizeOf T p0 p1) T)) kk (fun i7 kk => ?_)
              refine fr_if (Q := (FrP (W_m_sizeOf T p0 p1) T)) (fun c94_35 => ?_) (fun c94_35 => ?_)
              · exact frp_i (fr_tr hT305 ((fr_m_began 10 q29)) (fun c h => hW c (by unfold W_m_began at h; unfold W_m_sizeOf; omega)))
              · have kk := kk c94_35
                refine fr_if (Q := (FrP (W_m_sizeOf T p0 p1) T)) (fun c106_36 => ?_) (fun c106_36 => ?_)
                · have kk := kk.1 c106_36
                  obtain ⟨q33, kk⟩ := kk
                  obtain ⟨q34, kk⟩ := kk
                  exact frp_i (fr_tr hT305 ((fr_m_began 10 q29)) (fun c h => hW c (by unfold W_m_began at h; unfold W_m_sizeOf; omega)))
                · have kk := kk.2 c106_36
                  refine fr_if (Q := (FrP (W_m_sizeOf T p0 p1) T)) (fun c130_37 => ?_) (fun c130_37 => ?_)
                  · have kk := kk c130_37
                    obtain ⟨q32, kk⟩ := kk
                    exact frp_i (fr_tr (fr_tr hT305 ((fr_m_began 10 q29)) (fun c h => hW c (by unfold W_m_began at h; unfold W_m_sizeOf; omega))) (frp_o (fr_m_markOf p0 p1 q32)) (fun c h => hW c (by unfold W_m_markOf at h; unfold W_m_sizeOf; omega)))
                  · exact frp_i (fr_tr hT305 ((fr_m_began 10 q29)) (fun c h => hW c (by unfold W_m_began at h; unfold W_m_sizeOf; omega)))
            · skip
              refine fr_if (Q := (FrP (W_m_sizeOf T p0 p1) T)) (fun c72_38 => ?_) (fun c72_38 => ?_)
              · have kk := kk.1 c72_38
                exact hJ6 0 kk
              · have kk := kk.2 c72_38
                obtain ⟨q35, kk⟩ := kk
                exact hJ6 (10 * (x_m_stepOf (x_m_began T305 10) p0 4)) kk
          · skip
            refine fr_if (Q := (FrP (W_m_sizeOf T p0 p1) T)) (fun c50_39 => ?_) (fun c50_39 => ?_)
            · have kk := kk.1 c50_39
              exact hJ5 T hT kk
            · have kk := kk.2 c50_39
              obtain ⟨q36, kk⟩ := kk
              exact hJ5 (x_m_began T 11) (fr_tr hT ((fr_m_began 11 q36)) (fun c h => hW c (by unfold W_m_began at h; unfold W_m_sizeOf; omega))) kk
