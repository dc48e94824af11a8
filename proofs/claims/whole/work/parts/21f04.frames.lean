def W_m_ask (T : St) (p0 : Int32) (p1 : Int32) : Nat → Prop := fun c => (601 ≤ c ∧ c < 602) ∨ (67100 ≤ c ∧ c < 67101) ∨ (67148 ≤ c ∧ c < 67149)
theorem fr_m_ask {T : St} (p0 : Int32) (p1 : Int32) (kk : ok_m_ask T p0 p1) : FrP (W_m_ask T p0 p1) T (x_m_ask T p0 p1) := by
  unfold ok_m_ask at kk
  have hW : ∀ c, W_m_ask T p0 p1 c → W_m_ask T p0 p1 c := fun _ h => h
  have hT : Fr (W_m_ask T p0 p1) T T := fr_rfl
  unfold x_m_ask
  refine fr_if (Q := (FrP (W_m_ask T p0 p1) T)) (fun c10_1 => ?_) (fun c10_1 => ?_)
  · exact frp_i (fr_sF hT (hW _ (by unfold W_m_ask; omega)))
  · have kk := kk c10_1
    refine fr_if (Q := (FrP (W_m_ask T p0 p1) T)) (fun c20_2 => ?_) (fun c20_2 => ?_)
    · exact frp_i (fr_sF hT (hW _ (by unfold W_m_ask; omega)))
    · have kk := kk c20_2
      refine fr_if (Q := (FrP (W_m_ask T p0 p1) T)) (fun c32_3 => ?_) (fun c32_3 => ?_)
      · have kk := kk.1 c32_3
        obtain ⟨q3, kk⟩ := kk
        obtain ⟨q4, kk⟩ := kk
        refine fr_nT0 (Q := (FrP (W_m_ask T p0 p1) T)) (fr_tr (fr_sF (fr_sF hT (hW _ (by unfold W_m_ask; omega))) (hW _ (by unfold W_m_ask; omega))) (frp_o (fr_m_sizeOf p0 (x_m_kindOf (sF (sF T 571 0 0) 571 48 0) p0) q4)) (fun c h => hW c (by unfold W_m_sizeOf at h; unfold W_m_ask; omega))) (fun T1 hT1 => ?_)
        exact frp_i hT1
      · have kk := kk.2 c32_3
        obtain ⟨q1, kk⟩ := kk
        obtain ⟨q2, kk⟩ := kk
        exact frp_i (fr_tr (fr_sF (fr_sF hT (hW _ (by unfold W_m_ask; omega))) (hW _ (by unfold W_m_ask; omega))) (frp_o (fr_m_markOf p0 (x_m_kindOf (sF (sF T 571 0 0) 571 48 0) p0) q2)) (fun c h => hW c (by unfold W_m_markOf at h; unfold W_m_ask; omega)))
def W_m_trace (T : St) (p0 : Int32) : Nat → Prop := fun c => (67100 ≤ c ∧ c < 67101)
theorem fr_m_trace {T : St} (p0 : Int32) (kk : ok_m_trace T p0) : FrP (W_m_trace T p0) T (x_m_trace T p0) := by
  unfold ok_m_trace at kk
  have hW : ∀ c, W_m_trace T p0 c → W_m_trace T p0 c := fun _ h => h
  have hT : Fr (W_m_trace T p0) T T := fr_rfl
  unfold x_m_trace
  refine fr_if (Q := (FrP (W_m_trace T p0) T)) (fun c18_1 => ?_) (fun c18_1 => ?_)
  · exact frp_i (fr_sF hT (hW _ (by unfold W_m_trace; omega)))
  · have kk := kk c18_1
    obtain ⟨q1, kk⟩ := kk
    have gq1 := in_lt q1
    exact frp_i (fr_sF hT (hW _ (by unfold W_m_trace; omega)))
def WL_m_count_58 (l1 : Int32) : Nat → Prop := fun c => c < 0
theorem fr_m_count_58 {W : Nat → Prop} {T0 : St} (l1 : Int32) {K : Int32 → Int32 → St → Int32 × St} {Kk : Int32 → Int32 → St → Prop} (hW : ∀ c, WL_m_count_58 l1 c → W c) (hk : ∀ (v2 : Int32) (v3 : Int32) (T : St), Fr W T0 T → Kk v2 v3 T → (FrP W T0) (K v2 v3 T)) : ∀ (f : Nat) (v2 : Int32) (v3 : Int32) (T : St), Fr W T0 T → ok_m_count_58 l1 Kk f v2 v3 T → (FrP W T0) (x_m_count_58 l1 K f v2 v3 T) := by
  intro f
  induction f with
  | zero => intro v2 v3 T hT kk; exact kk.elim
  | succ f ih =>
    intro v2 v3 T hT kk
    rw [ok_m_count_58] at kk
    rw [x_m_count_58]
    refine fr_if (Q := (FrP W T0)) (fun c61_2 => ?_) (fun c61_2 => ?_)
    · have kk := kk.1 c61_2
      exact hk v2 v3 T hT kk
    · have kk := kk.2 c61_2
      obtain ⟨q1, kk⟩ := kk
      have gq1 := in_lt q1
      refine fr_if (Q := (FrP W T0)) (fun c71_3 => ?_) (fun c71_3 => ?_)
      · have kk := kk.1 c71_3
        exact ih (v2 + 0) (v3 + 1) T hT kk
      · have kk := kk.2 c71_3
        exact ih (v2 + 1) (v3 + 1) T hT kk
def WL_m_count_119 (l1 : Int32) : Nat → Prop := fun c => c < 0
theorem fr_m_count_119 {W : Nat → Prop} {T0 : St} (l1 : Int32) {K : Int32 → Int32 → St → Int32 × St} {Kk : Int32 → Int32 → St → Prop} (hW : ∀ c, WL_m_count_119 l1 c → W c) (hk : ∀ (v2 : Int32) (v3 : Int32) (T : St), Fr W T0 T → Kk v2 v3 T → (FrP W T0) (K v2 v3 T)) : ∀ (f : Nat) (v2 : Int32) (v3 : Int32) (T : St), Fr W T0 T → ok_m_count_119 l1 Kk f v2 v3 T → (FrP W T0) (x_m_count_119 l1 K f v2 v3 T) := by
  intro f
  induction f with
  | zero => intro v2 v3 T hT kk; exact kk.elim
  | succ f ih =>
    intro v2 v3 T hT kk
    rw [ok_m_count_119] at kk
    rw [x_m_count_119]
    refine fr_if (Q := (FrP W T0)) (fun c127_4 => ?_) (fun c127_4 => ?_)
    · have kk := kk.1 c127_4
      exact hk v2 v3 T hT kk
    · have kk := kk.2 c127_4
      refine fr_if (Q := (FrP W T0)) (fun c144_5 => ?_) (fun c144_5 => ?_)
      · have kk := kk.1 c144_5
        obtain ⟨q3, kk⟩ := kk
        refine fr_n (Q := (FrP W T0)) kk (fun i1 kk => ?_)
        exact ih i1 (v3 + 1) T hT kk
      · have kk := kk.2 c144_5
        exact ih (v2 + 0) (v3 + 1) T hT kk
def W_m_count (T : St) (p0 : Int32) : Nat → Prop := fun c => (67100 ≤ c ∧ c < 67101)
theorem fr_m_count {T : St} (p0 : Int32) (kk : ok_m_count T p0) : FrP (W_m_count T p0) T (x_m_count T p0) := by
  unfold ok_m_count at kk
  have hW : ∀ c, W_m_count T p0 c → W_m_count T p0 c := fun _ h => h
  have hT : Fr (W_m_count T p0) T T := fr_rfl
  unfold x_m_count
  refine fr_if (Q := (FrP (W_m_count T p0) T)) (fun s8_1_0 => ?_) (fun s8_1_0 => ?_)
  · have kk := kk.1 s8_1_0
    refine fr_m_count_58 p0 (fun c h => hW c (by unfold WL_m_count_58 at h; unfold W_m_count; omega)) (fun w1_2 w1_3 T201 hT201 kk => ?_) 1000 0 0 (sF T 571 0 0) (fr_sF hT (hW _ (by unfold W_m_count; omega))) kk
    exact frp_i hT201
  · have kk := kk.2 s8_1_0
    refine fr_if (Q := (FrP (W_m_count T p0) T)) (fun s8_1_1 => ?_) (fun s8_1_1 => ?_)
    · exact frp_i (fr_sF hT (hW _ (by unfold W_m_count; omega)))
    · have kk := kk s8_1_1
      refine fr_if (Q := (FrP (W_m_count T p0) T)) (fun s8_1_2 => ?_) (fun s8_1_2 => ?_)
      · exact frp_i (fr_sF hT (hW _ (by unfold W_m_count; omega)))
      · have kk := kk s8_1_2
        refine fr_if (Q := (FrP (W_m_count T p0) T)) (fun s8_1_3 => ?_) (fun s8_1_3 => ?_)
        · have kk := kk.1 s8_1_3
          obtain ⟨q2, kk⟩ := kk
          exact frp_i (fr_sF hT (hW _ (by unfold W_m_count; omega)))
        · have kk := kk.2 s8_1_3
          refine fr_if (Q := (FrP (W_m_count T p0) T)) (fun s8_1_4 => ?_) (fun s8_1_4 => ?_)
          · have kk := kk s8_1_4
            refine fr_m_count_119 p0 (fun c h => hW c (by unfold WL_m_count_119 at h; unfold W_m_count; omega)) (fun w2_2 w2_3 T202 hT202 kk => ?_) 1000 0 0 (sF T 571 0 0) (fr_sF hT (hW _ (by unfold W_m_count; omega))) kk
            exact frp_i hT202
          · refine fr_if (Q := (FrP (W_m_count T p0) T)) (fun s8_1_5 => ?_) (fun s8_1_5 => ?_)
            · exact frp_i (fr_sF hT (hW _ (by unfold W_m_count; omega)))
            · refine fr_if (Q := (FrP (W_m_count T p0) T)) (fun s8_1_6 => ?_) (fun s8_1_6 => ?_)
              · exact frp_i (fr_sF hT (hW _ (by unfold W_m_count; omega)))
              · refine fr_if (Q := (FrP (W_m_count T p0) T)) (fun s8_1_7 => ?_) (fun s8_1_7 => ?_)
                · refine fr_if (Q := (FrP (W_m_count T p0) T)) (fun c184_6 => ?_) (fun c184_6 => ?_)
                  · exact frp_i (fr_sF hT (hW _ (by unfold W_m_count; omega)))
                  · exact frp_i (fr_sF hT (hW _ (by unfold W_m_count; omega)))
                · exact frp_i (fr_sF hT (hW _ (by unfold W_m_count; omega)))
def W_m_status (T : St)  : Nat → Prop := fun c => (67100 ≤ c ∧ c < 67101)
theorem fr_m_status {T : St}  : FrP (W_m_status T ) T (x_m_status T ) := by
  have hW : ∀ c, W_m_status T  c → W_m_status T  c := fun _ h => h
  have hT : Fr (W_m_status T ) T T := fr_rfl
  unfold x_m_status
  exact frp_i (fr_sF hT (hW _ (by unfold W_m_status; omega)))
def W_ki_giveAll (T : St) (a : Nat) (p0 : Nat) (p1 : Int32) : Nat → Prop := fun c => (a + 1 ≤ c ∧ c < a + 2)
theorem fr_ki_giveAll {T : St} (a : Nat) (p0 : Nat) (p1 : Int32) (kk : ok_ki_giveAll T a p0 p1) : Fr (W_ki_giveAll T a p0 p1) T (x_ki_giveAll T a p0 p1) := by
  unfold ok_ki_giveAll at kk
  have hW : ∀ c, W_ki_giveAll T a p0 p1 c → W_ki_giveAll T a p0 p1 c := fun _ h => h
  have hT : Fr (W_ki_giveAll T a p0 p1) T T := fr_rfl
  unfold x_ki_giveAll
  obtain ⟨q1, kk⟩ := kk
  obtain ⟨q2, kk⟩ := kk
  obtain ⟨q3, kk⟩ := kk
  refine fr_nT (Q := (Fr (W_ki_giveAll T a p0 p1) T)) (fr_tr hT ((fr_ki_give a 0 ((T.2.2.1 (p0 + 1) (0 : Int32).toNatClampNeg) + (T.2.2.1 (p0 + 1) (1 : Int32).toNatClampNeg)) q2)) (fun c h => hW c (by unfold W_ki_give at h; unfold W_ki_giveAll; omega))) kk (fun T1 hT1 kk => ?_)
  obtain ⟨q4, kk⟩ := kk
  obtain ⟨q5, kk⟩ := kk
  refine fr_nT (Q := (Fr (W_ki_giveAll T a p0 p1) T)) (fr_tr (fr_tr hT1 ((fr_ki_give a 1 (T1.2.2.1 (p0 + 1) (1 : Int32).toNatClampNeg) q4)) (fun c h => hW c (by unfold W_ki_give at h; unfold W_ki_giveAll; omega))) ((fr_ki_give a 2 ((x_ki_give T1 a 1 (T1.2.2.1 (p0 + 1) (1 : Int32).toNatClampNeg)).2.2.1 (p0 + 1) (2 : Int32).toNatClampNeg) q5)) (fun c h => hW c (by unfold W_ki_give at h; unfold W_ki_giveAll; omega))) kk (fun T2 hT2 kk => ?_)
  obtain ⟨q6, kk⟩ := kk
  obtain ⟨q7, kk⟩ := kk
  exact (fr_tr (fr_tr hT2 ((fr_ki_give a 3 p1 q6)) (fun c h => hW c (by unfold W_ki_give at h; unfold W_ki_giveAll; omega))) ((fr_ki_give a 4 ((x_ki_give T2 a 3 p1).2.2.1 (p0 + 1) (6 : Int32).toNatClampNeg) q7)) (fun c h => hW c (by unfold W_ki_give at h; unfold W_ki_giveAll; omega)))
def WL_ki_fit_33 (l0 : Nat) (l1 : Nat) (l2 : Int32) (l3 : Int32) (l4 : Int64) : Nat → Prop := fun c => (l0 + 1 ≤ c ∧ c < l0 + 2)
theorem fr_ki_fit_33 {W : Nat → Prop} {T0 : St} (l0 : Nat) (l1 : Nat) (l2 : Int32) (l3 : Int32) (l4 : Int64) {K : Int32 → St → St} {Kk : Int32 → St → Prop} (hW : ∀ c, WL_ki_fit_33 l0 l1 l2 l3 l4 c → W c) (hk : ∀ (v6 : Int32) (T : St), Fr W T0 T → Kk v6 T → (Fr W T0) (K v6 T)) : ∀ (f : Nat) (v6 : Int32) (T : St), Fr W T0 T → ok_ki_fit_33 l0 l1 l2 l3 l4 Kk f v6 T → (Fr W T0) (x_ki_fit_33 l0 l1 l2 l3 l4 K f v6 T) := by
  intro f
  induction f with
  | zero => intro v6 T hT kk; exact kk.elim
  | succ f ih =>
    intro v6 T hT kk
    rw [ok_ki_fit_33] at kk
    rw [x_ki_fit_33]
    obtain ⟨q5, kk⟩ := kk
    refine fr_if (Q := (Fr W T0)) (fun c39_1 => ?_) (fun c39_1 => ?_)
    · have kk := kk.1 c39_1
      exact hk v6 T hT kk
    · have kk := kk.2 c39_1
      obtain ⟨q6, kk⟩ := kk
      have gq6 := in_lt q6
      obtain ⟨q7, kk⟩ := kk
      obtain ⟨q8, kk⟩ := kk
      refine fr_nT (Q := (Fr W T0)) (fr_tr hT ((fr_ki_giveOneLess l0 3 (x_x_span T (T.2.2.1 (l1 + 2) (v6 : Int32).toNatClampNeg) (((T.2.2.1 (l1 + 3) (v6 : Int32).toNatClampNeg) - (T.2.2.1 (l1 + 2) (v6 : Int32).toNatClampNeg)) + 1)) q7)) (fun c h => hW c (by unfold W_ki_giveOneLess at h; unfold WL_ki_fit_33; omega))) kk (fun T2 hT2 kk => ?_)
      exact ih (v6 + 1) T2 hT2 kk
def W_ki_fit (T : St) (a : Nat) (p0 : Nat) (p1 : Int32) (p2 : Int32) : Nat → Prop := fun c => (a + 1 ≤ c ∧ c < a + 2)
theorem fr_ki_fit {T : St} (a : Nat) (p0 : Nat) (p1 : Int32) (p2 : Int32) (kk : ok_ki_fit T a p0 p1 p2) : Fr (W_ki_fit T a p0 p1 p2) T (x_ki_fit T a p0 p1 p2) := by
  unfold ok_ki_fit at kk
  have hW : ∀ c, W_ki_fit T a p0 p1 p2 c → W_ki_fit T a p0 p1 p2 c := fun _ h => h
  have hT : Fr (W_ki_fit T a p0 p1 p2) T T := fr_rfl
  unfold x_ki_fit
  obtain ⟨q1, kk⟩ := kk
  obtain ⟨q2, kk⟩ := kk
  refine fr_n (Q := (Fr (W_ki_fit T a p0 p1 p2) T)) kk (fun k1 kk => ?_)
  obtain ⟨q3, kk⟩ := kk
  obtain ⟨q4, kk⟩ := kk
  refine fr_ki_fit_33 a p0 p1 p2 k1 (fun c h => hW c (by unfold WL_ki_fit_33 at h; unfold W_ki_fit; omega)) (fun w1_6 T201 hT201 kk => ?_) 1000 0 (x_ki_giveOneLess (x_ki_giveOneLess (x_ki_giveAll T a p0 p1) a 0 k1) a 1 k1) (fr_tr (fr_tr (fr_tr hT ((fr_ki_giveAll a p0 p1 q1)) (fun c h => hW c (by unfold W_ki_giveAll at h; unfold W_ki_fit; omega))) ((fr_ki_giveOneLess a 0 k1 q3)) (fun c h => hW c (by unfold W_ki_giveOneLess at h; unfold W_ki_fit; omega))) ((fr_ki_giveOneLess a 1 k1 q4)) (fun c h => hW c (by unfold W_ki_giveOneLess at h; unfold W_ki_fit; omega))) kk
  exact hT201
def WL_pl_settle_2 (l1 : Int32) : Nat → Prop := fun c => (83 ≤ c ∧ c < 84) ∨ (85 ≤ c ∧ c < 93) ∨ (98 ≤ c ∧ c < 99) ∨ (123 ≤ c ∧ c < 507)
theorem fr_pl_settle_2 {W : Nat → Prop} {T0 : St} (l1 : Int32) {K : Int32 → St → St} {Kk : Int32 → St → Prop} (hW : ∀ c, WL_pl_settle_2 l1 c → W c) (hk : ∀ (v2 : Int32) (T : St), Fr W T0 T → Kk v2 T → (Fr W T0) (K v2 T)) : ∀ (f : Nat) (v2 : Int32) (T : St), Fr W T0 T → ok_pl_settle_2 l1 Kk f v2 T → (Fr W T0) (x_pl_settle_2 l1 K f v2 T) := by
  intro f
  induction f with
  | zero => intro v2 T hT kk; exact kk.elim
  | succ f ih =>
    intro v2 T hT kk
    rw [ok_pl_settle_2] at kk
    rw [x_pl_settle_2]
    obtain ⟨q1, kk⟩ := kk
    refine fr_if (Q := (Fr W T0)) (fun c10_1 => ?_) (fun c10_1 => ?_)
    · have kk := kk.1 c10_1
      exact hk v2 T hT kk
    · have kk := kk.2 c10_1
      refine fr_if (Q := (Fr W T0)) (fun c18_2 => ?_) (fun c18_2 => ?_)
      · have kk := kk.1 c18_2
        exact ih (v2 + 1) T hT kk
      · have kk := kk.2 c18_2
        obtain ⟨q2, kk⟩ := kk
        exact ih (v2 + 1) (x_pl_settleDish T v2) (fr_tr hT ((fr_pl_settleDish v2 q2)) (fun c h => hW c (by unfold W_pl_settleDish at h; unfold WL_pl_settle_2; omega))) kk
def W_pl_settle (T : St) (p0 : Int32) : Nat → Prop := fun c => (83 ≤ c ∧ c < 84) ∨ (85 ≤ c ∧ c < 93) ∨ (98 ≤ c ∧ c < 99) ∨ (123 ≤ c ∧ c < 507)
theorem fr_pl_settle {T : St} (p0 : Int32) (kk : ok_pl_settle T p0) : Fr (W_pl_settle T p0) T (x_pl_settle T p0) := by
  unfold ok_pl_settle at kk
  have hW : ∀ c, W_pl_settle T p0 c → W_pl_settle T p0 c := fun _ h => h
  have hT : Fr (W_pl_settle T p0) T T := fr_rfl
  unfold x_pl_settle
  refine fr_pl_settle_2 p0 (fun c h => hW c (by unfold WL_pl_settle_2 at h; unfold W_pl_settle; omega)) (fun w1_2 T201 hT201 kk => ?_) 1000 0 T hT kk
  exact hT201
def WL_pl_seatAll_7 (l1 : Int32) : Nat → Prop := fun c => (94 ≤ c ∧ c < 95) ∨ (100 ≤ c ∧ c < 105) ∨ (18012 ≤ c ∧ c < 18013)
theorem fr_pl_seatAll_7 {W : Nat → Prop} {T0 : St} (l1 : Int32) {K : Int32 → St → Int32 × St} {Kk : Int32 → St → Prop} (hW : ∀ c, WL_pl_seatAll_7 l1 c → W c) (hk : ∀ (v2 : Int32) (T : St), Fr W T0 T → Kk v2 T → (FrP W T0) (K v2 T)) : ∀ (f : Nat) (v2 : Int32) (T : St), Fr W T0 T → ok_pl_seatAll_7 l1 Kk f v2 T → (FrP W T0) (x_pl_seatAll_7 l1 K f v2 T) := by
  intro f
  induction f with
  | zero => intro v2 T hT kk; exact kk.elim
  | succ f ih =>
    intro v2 T hT kk
    rw [ok_pl_seatAll_7] at kk
    rw [x_pl_seatAll_7]
    have z0 : (0 : Int32).toNatClampNeg = 0 := rfl
    obtain ⟨q1, kk⟩ := kk
    refine fr_if (Q := (FrP W T0)) (fun c15_1 => ?_) (fun c15_1 => ?_)
    · have kk := kk.1 c15_1
      exact hk v2 T hT kk
    · have kk := kk.2 c15_1
      refine fr_if (Q := (FrP W T0)) (fun c23_2 => ?_) (fun c23_2 => ?_)
      · have kk := kk.1 c23_2
        exact hk v2 T hT kk
      · have kk := kk.2 c23_2
        refine fr_if (Q := (FrP W T0)) (fun c31_3 => ?_) (fun c31_3 => ?_)
        · have kk := kk.1 c31_3
          exact ih (v2 + 1) T hT kk
        · have kk := kk.2 c31_3
          obtain ⟨q2, kk⟩ := kk
          have gq2 := in_lt q2
          refine fr_if (Q := (FrP W T0)) (fun c42_4 => ?_) (fun c42_4 => ?_)
          · exact frp_i hT
          · have kk := kk c42_4
            obtain ⟨q3, kk⟩ := kk
            have gq3 := in_lt q3
            obtain ⟨q4, kk⟩ := kk
            obtain ⟨q5, kk⟩ := kk
            have gq5 := in_lt q5
            refine fr_nT (Q := (FrP W T0)) (fr_sA (fr_sA hT (hW _ (by unfold WL_pl_seatAll_7; omega))) (hW _ (by unfold WL_pl_seatAll_7; omega))) kk (fun T1 hT1 kk => ?_)
            exact ih (v2 + 1) (sF T1 80 12 ((T1.1 80 12) + 1)) (fr_sF hT1 (hW _ (by unfold WL_pl_seatAll_7; omega))) kk
def WL_pl_seatAll_119 (l1 : Int32) : Nat → Prop := fun c => (97 ≤ c ∧ c < 98) ∨ (507 ≤ c ∧ c < 527)
theorem fr_pl_seatAll_119 {W : Nat → Prop} {T0 : St} (l1 : Int32) {K : Int32 → St → Int32 × St} {Kk : Int32 → St → Prop} (hW : ∀ c, WL_pl_seatAll_119 l1 c → W c) (hk : ∀ (v2 : Int32) (T : St), Fr W T0 T → Kk v2 T → (FrP W T0) (K v2 T)) : ∀ (f : Nat) (v2 : Int32) (T : St), Fr W T0 T → ok_pl_seatAll_119 l1 Kk f v2 T → (FrP W T0) (x_pl_seatAll_119 l1 K f v2 T) := by
  intro f
  induction f with
  | zero => intro v2 T hT kk; exact kk.elim
  | succ f ih =>
    intro v2 T hT kk
    rw [ok_pl_seatAll_119] at kk
    rw [x_pl_seatAll_119]
    have z0 : (0 : Int32).toNatClampNeg = 0 := rfl
    refine fr_if (Q := (FrP W T0)) (fun c120_5 => ?_) (fun c120_5 => ?_)
    · have kk := kk.1 c120_5
      exact hk v2 T hT kk
    · have kk := kk.2 c120_5
      obtain ⟨q8, kk⟩ := kk
      have gq8 := in_lt q8
      obtain ⟨q9, kk⟩ := kk
      have gq9 := in_lt q9
      refine fr_nN (Q := (FrP W T0)) kk (fun r3 er3 kk => ?_)
      obtain ⟨q10, kk⟩ := kk
      refine fr_if (Q := (FrP W T0)) (fun c145_6 => ?_) (fun c145_6 => ?_)
      · exact frp_i hT
      · have kk := kk c145_6
        obtain ⟨q11, kk⟩ := kk
        refine fr_nT (Q := (FrP W T0)) (fr_tr hT ((fr_ta_add (507 + 5 * (0 : Int32).toNatClampNeg) (507 + 5 * (0 : Int32).toNatClampNeg) r3 (T.2.1 3) q11)) (fun c h => hW c (by unfold W_ta_add at h; unfold WL_pl_seatAll_119; omega))) kk (fun T4 hT4 kk => ?_)
        obtain ⟨q12, kk⟩ := kk
        have gq12 := in_lt q12
        obtain ⟨q13, kk⟩ := kk
        have gq13 := in_lt q13
        obtain ⟨q14, kk⟩ := kk
        have gq14 := in_lt q14
        refine fr_nT (Q := (FrP W T0)) (fr_sA hT4 (hW _ (by unfold WL_pl_seatAll_119; omega))) kk (fun T5 hT5 kk => ?_)
        exact ih (v2 + (-1)) T5 hT5 kk
def W_pl_seatAll (T : St) (p0 : Int32) : Nat → Prop := fun c => (94 ≤ c ∧ c < 95) ∨ (97 ≤ c ∧ c < 98) ∨ (100 ≤ c ∧ c < 105) ∨ (507 ≤ c ∧ c < 527) ∨ (18012 ≤ c ∧ c < 18013)
theorem fr_pl_seatAll {T : St} (p0 : Int32) (kk : ok_pl_seatAll T p0) : FrP (W_pl_seatAll T p0) T (x_pl_seatAll T p0) := by
  unfold ok_pl_seatAll at kk
  have hW : ∀ c, W_pl_seatAll T p0 c → W_pl_seatAll T p0 c := fun _ h => h
  have hT : Fr (W_pl_seatAll T p0) T T := fr_rfl
  unfold x_pl_seatAll
  have z0 : (0 : Int32).toNatClampNeg = 0 := rfl
  refine fr_pl_seatAll_7 p0 (fun c h => hW c (by unfold WL_pl_seatAll_7 at h; unfold W_pl_seatAll; omega)) (fun w1_2 T201 hT201 kk => ?_) 1000 0 (sF T 80 12 0) (fr_sF hT (hW _ (by unfold W_pl_seatAll; omega))) kk
  obtain ⟨q6, kk⟩ := kk
  have gq6 := in_lt q6
  obtain ⟨q7, kk⟩ := kk
  refine fr_nT (Q := (FrP (W_pl_seatAll T p0) T)) (fr_tr (fr_sA hT201 (hW _ (by unfold W_pl_seatAll; omega))) ((fr_ta_open (507 + 5 * (0 : Int32).toNatClampNeg) ((sA T201 97 (T201.1 80 12 : Int32).toNatClampNeg 0).2.1 3) q7)) (fun c h => hW c (by unfold W_ta_open at h; unfold W_pl_seatAll; omega))) kk (fun T2 hT2 kk => ?_)
  refine fr_pl_seatAll_119 p0 (fun c h => hW c (by unfold WL_pl_seatAll_119 at h; unfold W_pl_seatAll; omega)) (fun w2_2 T202 hT202 kk => ?_) 1000 ((T2.1 80 12) - 1) T2 hT2 kk
  exact frp_i hT202
def WL_pl_agreeing_31 (l1 : Int32) (l2 : Int32) (l3 : Int32) (l4 : Nat) : Nat → Prop := fun c => c < 0
theorem fr_pl_agreeing_31 {W : Nat → Prop} {T0 : St} (l1 : Int32) (l2 : Int32) (l3 : Int32) (l4 : Nat) {K : Int32 → Int32 → St → Int32 × St} {Kk : Int32 → Int32 → St → Prop} (hW : ∀ c, WL_pl_agreeing_31 l1 l2 l3 l4 c → W c) (hk : ∀ (v5 : Int32) (v6 : Int32) (T : St), Fr W T0 T → Kk v5 v6 T → (FrP W T0) (K v5 v6 T)) : ∀ (f : Nat) (v5 : Int32) (v6 : Int32) (T : St), Fr W T0 T → ok_pl_agreeing_31 l1 l2 l3 l4 Kk f v5 v6 T → (FrP W T0) (x_pl_agreeing_31 l1 l2 l3 l4 K f v5 v6 T) := by
  intro f
  induction f with
  | zero => intro v5 v6 T hT kk; exact kk.elim
  | succ f ih =>
    intro v5 v6 T hT kk
    rw [ok_pl_agreeing_31] at kk
    rw [x_pl_agreeing_31]
    obtain ⟨q3, kk⟩ := kk
    have gq3 := in_lt q3
    refine fr_if (Q := (FrP W T0)) (fun c39_2 => ?_) (fun c39_2 => ?_)
    · have kk := kk.1 c39_2
      exact hk v5 v6 T hT kk
    · have kk := kk.2 c39_2
      obtain ⟨q4, kk⟩ := kk
      have gq4 := in_lt q4
      refine fr_nN (Q := (FrP W T0)) kk (fun r2 er2 kk => ?_)
      obtain ⟨q5, kk⟩ := kk
      refine fr_if (Q := (FrP W T0)) (fun c61_3 => ?_) (fun c61_3 => ?_)
      · have kk := kk.1 c61_3
        exact ih v5 (v6 + 1) T hT kk
      · have kk := kk.2 c61_3
        obtain ⟨q6, kk⟩ := kk
        obtain ⟨q7, kk⟩ := kk
        refine fr_if (Q := (FrP W T0)) (fun c78_4 => ?_) (fun c78_4 => ?_)
        · have kk := kk.1 c78_4
          obtain ⟨q8, kk⟩ := kk
          refine fr_if (Q := (FrP W T0)) (fun c92_5 => ?_) (fun c92_5 => ?_)
          · have kk := kk.1 c92_5
            exact ih v5 (v6 + 1) T hT kk
          · have kk := kk.2 c92_5
            refine fr_n (Q := (FrP W T0)) kk (fun i3 kk => ?_)
            exact ih i3 (v6 + 1) T hT kk
        · have kk := kk.2 c78_4
          exact ih v5 (v6 + 1) T hT kk
def W_pl_agreeing (T : St) (p0 : Int32) (p1 : Int32) : Nat → Prop := fun c => (98 ≤ c ∧ c < 99)
theorem fr_pl_agreeing {T : St} (p0 : Int32) (p1 : Int32) (kk : ok_pl_agreeing T p0 p1) : FrP (W_pl_agreeing T p0 p1) T (x_pl_agreeing T p0 p1) := by
  unfold ok_pl_agreeing at kk
  have hW : ∀ c, W_pl_agreeing T p0 p1 c → W_pl_agreeing T p0 p1 c := fun _ h => h
  have hT : Fr (W_pl_agreeing T p0 p1) T T := fr_rfl
  unfold x_pl_agreeing
  obtain ⟨q1, kk⟩ := kk
  have gq1 := in_lt q1
  refine fr_jn0 (Q := (FrP (W_pl_agreeing T p0 p1) T)) (J := fun (KJ1 : St → Int32 × St) => ∀ (T301 : St), Fr (W_pl_agreeing T p0 p1) T T301 → (FrP (W_pl_agreeing T p0 p1) T) (KJ1 T301)) (fun T301 hT301 => ?_) (fun KJ1 hJ1 => ?_)
  · skip
    exact frp_i hT301
  · skip
    refine fr_if (Q := (FrP (W_pl_agreeing T p0 p1) T)) (fun c14_6 => ?_) (fun c14_6 => ?_)
    · have kk := kk c14_6
      obtain ⟨q9, kk⟩ := kk
      have gq9 := in_lt q9
      refine fr_nN (Q := (FrP (W_pl_agreeing T p0 p1) T)) kk (fun r4 er4 kk => ?_)
      refine fr_pl_agreeing_31 p0 p1 ((p0 * 8) + p1) r4 (fun c h => hW c (by unfold WL_pl_agreeing_31 at h; unfold W_pl_agreeing; omega)) (fun w2_5 w2_6 T202 hT202 kk => ?_) 1000 0 0 T hT kk
      exact hJ1 (sA T202 98 ((p0 * 8) + p1 : Int32).toNatClampNeg w2_5) (fr_sA hT202 (hW _ (by unfold W_pl_agreeing; omega)))
    · exact hJ1 T hT
def WL_rd_advance_8  : Nat → Prop := fun c => (11303 ≤ c ∧ c < 11304)
theorem fr_rd_advance_8 {W : Nat → Prop} {T0 : St}  {K : St → St} {Kk : St → Prop} (hW : ∀ c, WL_rd_advance_8  c → W c) (hk : ∀  (T : St), Fr W T0 T → Kk  T → (Fr W T0) (K  T)) : ∀ (f : Nat)  (T : St), Fr W T0 T → ok_rd_advance_8  Kk f  T → (Fr W T0) (x_rd_advance_8  K f  T) := by
  intro f
  induction f with
  | zero => intro  T hT kk; exact kk.elim
  | succ f ih =>
    intro  T hT kk
    rw [ok_rd_advance_8] at kk
    rw [x_rd_advance_8]
    refine fr_if (Q := (Fr W T0)) (fun c16_1 => ?_) (fun c16_1 => ?_)
    · have kk := kk.1 c16_1
      exact hk  T hT kk
    · have kk := kk.2 c16_1
      obtain ⟨q1, kk⟩ := kk
      have gq1 := in_lt q1
      refine fr_jn (Q := (Fr W T0)) (J := fun (KJ1 : St) (OJ1 : Prop) => OJ1 → (Fr W T0) (KJ1)) kk (fun  kk => ?_) (fun KJ1 OJ1 hJ1 kk => ?_)
      · skip
        exact ih  (sF T 13 3 ((T.1 13 3) + 1)) (fr_sF hT (hW _ (by unfold WL_rd_advance_8; omega))) kk
      · skip
        refine fr_if (Q := (Fr W T0)) (fun c30_4 => ?_) (fun c30_4 => ?_)
        · have kk := kk.1 c30_4
          exact hJ1  kk
        · have kk := kk.2 c30_4
          refine fr_if (Q := (Fr W T0)) (fun c44_5 => ?_) (fun c44_5 => ?_)
          · have kk := kk.1 c44_5
            exact hJ1  kk
          · have kk := kk.2 c44_5
            exact hk  T hT kk
def WL_rd_advance_115  : Nat → Prop := fun c => (11304 ≤ c ∧ c < 11305)
theorem fr_rd_advance_115 {W : Nat → Prop} {T0 : St}  {K : St → St} {Kk : St → Prop} (hW : ∀ c, WL_rd_advance_115  c → W c) (hk : ∀  (T : St), Fr W T0 T → Kk  T → (Fr W T0) (K  T)) : ∀ (f : Nat)  (T : St), Fr W T0 T → ok_rd_advance_115  Kk f  T → (Fr W T0) (x_rd_advance_115  K f  T) := by
  intro f
  induction f with
  | zero => intro  T hT kk; exact kk.elim
  | succ f ih =>
    intro  T hT kk
    rw [ok_rd_advance_115] at kk
    rw [x_rd_advance_115]
    refine fr_if (Q := (Fr W T0)) (fun c123_9 => ?_) (fun c123_9 => ?_)
    · have kk := kk.1 c123_9
      exact hk  T hT kk
    · have kk := kk.2 c123_9
      obtain ⟨q3, kk⟩ := kk
      have gq3 := in_lt q3
      refine fr_if (Q := (Fr W T0)) (fun c137_10 => ?_) (fun c137_10 => ?_)
      · have kk := kk.1 c137_10
        exact hk  T hT kk
      · have kk := kk.2 c137_10
        refine fr_if (Q := (Fr W T0)) (fun c151_11 => ?_) (fun c151_11 => ?_)
        · have kk := kk.1 c151_11
          exact hk  T hT kk
        · have kk := kk.2 c151_11
          exact ih  (sF T 13 4 ((T.1 13 4) + 1)) (fr_sF hT (hW _ (by unfold WL_rd_advance_115; omega))) kk
def W_rd_advance (T : St)  : Nat → Prop := fun c => (11303 ≤ c ∧ c < 11307)
theorem fr_rd_advance {T : St}  (kk : ok_rd_advance T ) : Fr (W_rd_advance T ) T (x_rd_advance T ) := by
  unfold ok_rd_advance at kk
  have hW : ∀ c, W_rd_advance T  c → W_rd_advance T  c := fun _ h => h
  have hT : Fr (W_rd_advance T ) T T := fr_rfl
  unfold x_rd_advance
  refine fr_rd_advance_8  (fun c h => hW c (by unfold WL_rd_advance_8 at h; unfold W_rd_advance; omega)) (fun  T201 hT201 kk => ?_) 1000  (sF T 13 3 (T.1 13 4)) (fr_sF hT (hW _ (by unfold W_rd_advance; omega))) kk
  refine fr_if (Q := (Fr (W_rd_advance T ) T)) (fun c76_6 => ?_) (fun c76_6 => ?_)
  · have kk := kk c76_6
    obtain ⟨q2, kk⟩ := kk
    have gq2 := in_lt q2
    refine fr_jn (Q := (Fr (W_rd_advance T ) T)) (J := fun (KJ2 : St) (OJ2 : Prop) => OJ2 → (Fr (W_rd_advance T ) T) (KJ2)) kk (fun  kk => ?_) (fun KJ2 OJ2 hJ2 kk => ?_)
    · skip
      refine fr_jn0 (Q := (Fr (W_rd_advance T ) T)) (J := fun (KJ3 : St) => (Fr (W_rd_advance T ) T) (KJ3)) (?_) (fun KJ3 hJ3 => ?_)
      · skip
        refine fr_jn0 (Q := (Fr (W_rd_advance T ) T)) (J := fun (KJ4 : Int32 → St) => ∀ (j4_s1 : Int32), (Fr (W_rd_advance T ) T) (KJ4 j4_s1)) (fun j4_s1 => ?_) (fun KJ4 hJ4 => ?_)
        · skip
          exact (fr_sF (fr_sF (fr_sF hT201 (hW _ (by unfold W_rd_advance; omega))) (hW _ (by unfold W_rd_advance; omega))) (hW _ (by unfold W_rd_advance; omega)))
        · skip
          refine fr_if (Q := (Fr (W_rd_advance T ) T)) (fun c222_15 => ?_) (fun c222_15 => ?_)
          · exact hJ4 3
          · exact hJ4 4
      · skip
        refine fr_if (Q := (Fr (W_rd_advance T ) T)) (fun c186_16 => ?_) (fun c186_16 => ?_)
        · exact hJ3 
        · have kk := kk c186_16
          refine fr_if (Q := (Fr (W_rd_advance T ) T)) (fun c200_17 => ?_) (fun c200_17 => ?_)
          · exact hJ3 
          · have kk := kk c200_17
            obtain ⟨q5, kk⟩ := kk
            exact (fr_tr (fr_sF hT201 (hW _ (by unfold W_rd_advance; omega))) ((fr_rd_takeFigures  q5)) (fun c h => hW c (by unfold W_rd_takeFigures at h; unfold W_rd_advance; omega)))
    · skip
      refine fr_if (Q := (Fr (W_rd_advance T ) T)) (fun c98_18 => ?_) (fun c98_18 => ?_)
      · have kk := kk.1 c98_18
        exact hJ2  kk
      · have kk := kk.2 c98_18
        refine fr_if (Q := (Fr (W_rd_advance T ) T)) (fun c112_19 => ?_) (fun c112_19 => ?_)
        · have kk := kk.1 c112_19
          exact hJ2  kk
        · have kk := kk.2 c112_19
          refine fr_rd_advance_115  (fun c h => hW c (by unfold WL_rd_advance_115 at h; unfold W_rd_advance; omega)) (fun  T203 hT203 kk => ?_) 1000  (sF T201 13 4 (T201.1 13 3)) (fr_sF hT201 (hW _ (by unfold W_rd_advance; omega))) kk
          exact (fr_sF hT203 (hW _ (by unfold W_rd_advance; omega)))
  · exact (fr_sF (fr_sF hT201 (hW _ (by unfold W_rd_advance; omega))) (hW _ (by unfold W_rd_advance; omega)))
def WL_ro_fill_12 (l0 : Nat) (l1 : Nat) : Nat → Prop := fun c => (l0 + 1 ≤ c ∧ c < l0 + 2) ∨ (l0 + 3 ≤ c ∧ c < l0 + 5) ∨ (l0 + 6 ≤ c ∧ c < l0 + 7) ∨ (10000 + 100 * l0 ≤ c ∧ c < 10000 + 100 * l0 + 100)
theorem fr_ro_fill_12 {W : Nat → Prop} {T0 : St} (l0 : Nat) (l1 : Nat) {K : Int32 → St → St} {Kk : Int32 → St → Prop} (hW : ∀ c, WL_ro_fill_12 l0 l1 c → W c) (hk : ∀ (v2 : Int32) (T : St), Fr W T0 T → Kk v2 T → (Fr W T0) (K v2 T)) : ∀ (f : Nat) (v2 : Int32) (T : St), Fr W T0 T → ok_ro_fill_12 l0 l1 Kk f v2 T → (Fr W T0) (x_ro_fill_12 l0 l1 K f v2 T) := by
  intro f
  induction f with
  | zero => intro v2 T hT kk; exact kk.elim
  | succ f ih =>
    intro v2 T hT kk
    rw [ok_ro_fill_12] at kk
    rw [x_ro_fill_12]
    obtain ⟨q2, kk⟩ := kk
    refine fr_if (Q := (Fr W T0)) (fun c17_1 => ?_) (fun c17_1 => ?_)
    · have kk := kk.1 c17_1
      exact hk v2 T hT kk
    · have kk := kk.2 c17_1
      obtain ⟨q3, kk⟩ := kk
      refine fr_if (Q := (Fr W T0)) (fun c25_2 => ?_) (fun c25_2 => ?_)
      · have kk := kk.1 c25_2
        exact hk v2 T hT kk
      · have kk := kk.2 c25_2
        refine fr_if (Q := (Fr W T0)) (fun c36_3 => ?_) (fun c36_3 => ?_)
        · have kk := kk.1 c36_3
          exact ih (v2 + 1) T hT kk
        · have kk := kk.2 c36_3
          obtain ⟨q4, kk⟩ := kk
          obtain ⟨q5, kk⟩ := kk
          have gq5 := in_lt q5
          refine fr_nT (Q := (Fr W T0)) (fr_sA (fr_tr hT ((fr_ro_fillDish l0 l1 v2 q4)) (fun c h => hW c (by unfold W_ro_fillDish at h; unfold WL_ro_fill_12; omega))) (hW _ (by unfold WL_ro_fill_12; omega))) kk (fun T1 hT1 kk => ?_)
          exact ih (v2 + 1) (sF T1 l0 0 ((T1.1 l0 0) + 1)) (fr_sF hT1 (hW _ (by unfold WL_ro_fill_12; omega))) kk
def W_ro_fill (T : St) (a : Nat) (p0 : Nat) : Nat → Prop := fun c => (a + 1 ≤ c ∧ c < a + 2) ∨ (a + 3 ≤ c ∧ c < a + 5) ∨ (a + 6 ≤ c ∧ c < a + 7) ∨ (10000 + 100 * a ≤ c ∧ c < 10000 + 100 * a + 100)
theorem fr_ro_fill {T : St} (a : Nat) (p0 : Nat) (kk : ok_ro_fill T a p0) : Fr (W_ro_fill T a p0) T (x_ro_fill T a p0) := by
  unfold ok_ro_fill at kk
  have hW : ∀ c, W_ro_fill T a p0 c → W_ro_fill T a p0 c := fun _ h => h
  have hT : Fr (W_ro_fill T a p0) T T := fr_rfl
  unfold x_ro_fill
  obtain ⟨q1, kk⟩ := kk
  refine fr_ro_fill_12 a p0 (fun c h => hW c (by unfold WL_ro_fill_12 at h; unfold W_ro_fill; omega)) (fun w1_2 T201 hT201 kk => ?_) 1000 0 (sF (sF T a 0 0) a 1 0) (fr_sF (fr_sF hT (hW _ (by unfold W_ro_fill; omega))) (hW _ (by unfold W_ro_fill; omega))) kk
  exact hT201
def WL_wa_lay_33 (l0 : Nat) (l1 : Nat) (l2 : Int32) (l3 : Int32) : Nat → Prop := fun c => (l0 + 3 ≤ c ∧ c < l0 + 4)
theorem fr_wa_lay_33 {W : Nat → Prop} {T0 : St} (l0 : Nat) (l1 : Nat) (l2 : Int32) (l3 : Int32) {K : Int32 → St → St} {Kk : Int32 → St → Prop} (hW : ∀ c, WL_wa_lay_33 l0 l1 l2 l3 c → W c) (hk : ∀ (v4 : Int32) (T : St), Fr W T0 T → Kk v4 T → (Fr W T0) (K v4 T)) : ∀ (f : Nat) (v4 : Int32) (T : St), Fr W T0 T → ok_wa_lay_33 l0 l1 l2 l3 Kk f v4 T → (Fr W T0) (x_wa_lay_33 l0 l1 l2 l3 K f v4 T) := by
  intro f
  induction f with
  | zero => intro v4 T hT kk; exact kk.elim
  | succ f ih =>
    intro v4 T hT kk
    rw [ok_wa_lay_33] at kk
    rw [x_wa_lay_33]
    refine fr_if (Q := (Fr W T0)) (fun c36_1 => ?_) (fun c36_1 => ?_)
    · have kk := kk.1 c36_1
      exact hk v4 T hT kk
    · have kk := kk.2 c36_1
      obtain ⟨q5, kk⟩ := kk
      obtain ⟨q6, kk⟩ := kk
      have gq6 := in_lt q6
      refine fr_n (Q := (Fr W T0)) kk (fun k3 kk => ?_)
      obtain ⟨q7, kk⟩ := kk
      obtain ⟨q8, kk⟩ := kk
      have gq8 := in_lt q8
      refine fr_n (Q := (Fr W T0)) kk (fun i4 kk => ?_)
      refine fr_n (Q := (Fr W T0)) kk (fun i5 kk => ?_)
      refine fr_jn (Q := (Fr W T0)) (J := fun (KJ1 : St → St) (OJ1 : St → Prop) => ∀ (T301 : St), Fr W T0 T301 → OJ1 T301 → (Fr W T0) (KJ1 T301)) kk (fun T301 hT301 kk => ?_) (fun KJ1 OJ1 hJ1 kk => ?_)
      · skip
        refine fr_jn (Q := (Fr W T0)) (J := fun (KJ2 : St → St) (OJ2 : St → Prop) => ∀ (T302 : St), Fr W T0 T302 → OJ2 T302 → (Fr W T0) (KJ2 T302)) kk (fun T302 hT302 kk => ?_) (fun KJ2 OJ2 hJ2 kk => ?_)
        · skip
          refine fr_jn (Q := (Fr W T0)) (J := fun (KJ3 : St → St) (OJ3 : St → Prop) => ∀ (T303 : St), Fr W T0 T303 → OJ3 T303 → (Fr W T0) (KJ3 T303)) kk (fun T303 hT303 kk => ?_) (fun KJ3 OJ3 hJ3 kk => ?_)
          · skip
            refine fr_jn (Q := (Fr W T0)) (J := fun (KJ4 : St → St) (OJ4 : St → Prop) => ∀ (T304 : St), Fr W T0 T304 → OJ4 T304 → (Fr W T0) (KJ4 T304)) kk (fun T304 hT304 kk => ?_) (fun KJ4 OJ4 hJ4 kk => ?_)
            · skip
              refine fr_if (Q := (Fr W T0)) (fun c171_7 => ?_) (fun c171_7 => ?_)
              · have kk := kk.1 c171_7
                refine fr_nT (Q := (Fr W T0)) (fr_sL hT304 (hW _ (by unfold WL_wa_lay_33; omega))) kk (fun T10 hT10 kk => ?_)
                exact ih (v4 + 1) T10 hT10 kk
              · have kk := kk.2 c171_7
                exact ih (v4 + 1) T304 hT304 kk
            · skip
              refine fr_if (Q := (Fr W T0)) (fun c145_8 => ?_) (fun c145_8 => ?_)
              · have kk := kk.1 c145_8
                refine fr_nT (Q := (Fr W T0)) (fr_sL hT303 (hW _ (by unfold WL_wa_lay_33; omega))) kk (fun T11 hT11 kk => ?_)
                exact hJ4 T11 hT11 kk
              · have kk := kk.2 c145_8
                exact hJ4 T303 hT303 kk
          · skip
            refine fr_if (Q := (Fr W T0)) (fun c128_9 => ?_) (fun c128_9 => ?_)
            · have kk := kk.1 c128_9
              refine fr_nT (Q := (Fr W T0)) (fr_sL hT302 (hW _ (by unfold WL_wa_lay_33; omega))) kk (fun T12 hT12 kk => ?_)
              exact hJ3 T12 hT12 kk
            · have kk := kk.2 c128_9
              exact hJ3 T302 hT302 kk
        · skip
          refine fr_if (Q := (Fr W T0)) (fun c98_10 => ?_) (fun c98_10 => ?_)
          · have kk := kk.1 c98_10
            refine fr_if (Q := (Fr W T0)) (fun c111_11 => ?_) (fun c111_11 => ?_)
            · have kk := kk.1 c111_11
              refine fr_nT (Q := (Fr W T0)) (fr_sL hT301 (hW _ (by unfold WL_wa_lay_33; omega))) kk (fun T13 hT13 kk => ?_)
              exact hJ2 T13 hT13 kk
            · have kk := kk.2 c111_11
              exact hJ2 T301 hT301 kk
          · have kk := kk.2 c98_10
            exact hJ2 T301 hT301 kk
      · skip
        refine fr_if (Q := (Fr W T0)) (fun c82_12 => ?_) (fun c82_12 => ?_)
        · have kk := kk.1 c82_12
          refine fr_nT (Q := (Fr W T0)) (fr_sL hT (hW _ (by unfold WL_wa_lay_33; omega))) kk (fun T14 hT14 kk => ?_)
          exact hJ1 T14 hT14 kk
        · have kk := kk.2 c82_12
          exact hJ1 T hT kk
def W_wa_lay (T : St) (a : Nat) (p0 : Nat) : Nat → Prop := fun c => (a + 3 ≤ c ∧ c < a + 4)
theorem fr_wa_lay {T : St} (a : Nat) (p0 : Nat) (kk : ok_wa_lay T a p0) : Fr (W_wa_lay T a p0) T (x_wa_lay T a p0) := by
  unfold ok_wa_lay at kk
  have hW : ∀ c, W_wa_lay T a p0 c → W_wa_lay T a p0 c := fun _ h => h
  have hT : Fr (W_wa_lay T a p0) T T := fr_rfl
  unfold x_wa_lay
  obtain ⟨q1, kk⟩ := kk
  obtain ⟨q2, kk⟩ := kk
  obtain ⟨q3, kk⟩ := kk
  obtain ⟨q4, kk⟩ := kk
  have gq4 := in_lt q4
  refine fr_n (Q := (Fr (W_wa_lay T a p0) T)) kk (fun i1 kk => ?_)
  refine fr_n (Q := (Fr (W_wa_lay T a p0) T)) kk (fun i2 kk => ?_)
  refine fr_wa_lay_33 a p0 i1 i2 (fun c h => hW c (by unfold WL_wa_lay_33 at h; unfold W_wa_lay; omega)) (fun w1_4 T201 hT201 kk => ?_) 1000 0 (x_fillJ T (a + 3) 0) (fr_tr hT ((fr_fillJ (a + 3) 0 q2)) (fun c h => hW c (by unfold W_fillJ at h; unfold W_wa_lay; omega))) kk
  obtain ⟨q9, kk⟩ := kk
  have gq9 := in_lt q9
  refine fr_if (Q := (Fr (W_wa_lay T a p0) T)) (fun c201_13 => ?_) (fun c201_13 => ?_)
  · have kk := kk c201_13
    obtain ⟨q10, kk⟩ := kk
    have gq10 := in_lt q10
    exact (fr_sL hT201 (hW _ (by unfold W_wa_lay; omega)))
  · exact hT201
def W_x_sheet (T : St) (p0 : Int32) (p1 : Int32) (p2 : Int32) : Nat → Prop := fun c => (2 ≤ c ∧ c < 4) ∨ (5 ≤ c ∧ c < 13) ∨ (10012 ≤ c ∧ c < 10013)
theorem fr_x_sheet {T : St} (p0 : Int32) (p1 : Int32) (p2 : Int32) (kk : ok_x_sheet T p0 p1 p2) : FrP (W_x_sheet T p0 p1 p2) T (x_x_sheet T p0 p1 p2) := by
  unfold ok_x_sheet at kk
  have hW : ∀ c, W_x_sheet T p0 p1 p2 c → W_x_sheet T p0 p1 p2 c := fun _ h => h
  have hT : Fr (W_x_sheet T p0 p1 p2) T T := fr_rfl
  unfold x_x_sheet
  refine fr_if (Q := (FrP (W_x_sheet T p0 p1 p2) T)) (fun c8_1 => ?_) (fun c8_1 => ?_)
  · exact frp_i hT
  · have kk := kk c8_1
    refine fr_if (Q := (FrP (W_x_sheet T p0 p1 p2) T)) (fun c12_2 => ?_) (fun c12_2 => ?_)
    · exact frp_i hT
    · have kk := kk c12_2
      refine fr_if (Q := (FrP (W_x_sheet T p0 p1 p2) T)) (fun c17_3 => ?_) (fun c17_3 => ?_)
      · exact frp_i hT
      · have kk := kk c17_3
        refine fr_if (Q := (FrP (W_x_sheet T p0 p1 p2) T)) (fun c23_4 => ?_) (fun c23_4 => ?_)
        · have kk := kk c23_4
          refine fr_if (Q := (FrP (W_x_sheet T p0 p1 p2) T)) (fun c30_5 => ?_) (fun c30_5 => ?_)
          · have kk := kk c30_5
            obtain ⟨q1, kk⟩ := kk
            exact frp_i (fr_tr (fr_tr hT ((fr_sh_lay p0 p1 p2 q1)) (fun c h => hW c (by unfold W_sh_lay at h; unfold W_x_sheet; omega))) (frp_o (fr_x_fine p2)) (fun c h => hW c (by unfold W_x_fine at h; unfold W_x_sheet; omega)))
          · exact frp_i (fr_tr hT (frp_o (fr_x_found 4)) (fun c h => hW c (by unfold W_x_found at h; unfold W_x_sheet; omega)))
        · exact frp_i hT
def W_x_set (T : St) (p0 : Int32) (p1 : Int32) (p2 : Int32) : Nat → Prop := fun c => (5 ≤ c ∧ c < 13) ∨ (10012 ≤ c ∧ c < 10013)
theorem fr_x_set {T : St} (p0 : Int32) (p1 : Int32) (p2 : Int32) (kk : ok_x_set T p0 p1 p2) : FrP (W_x_set T p0 p1 p2) T (x_x_set T p0 p1 p2) := by
  unfold ok_x_set at kk
  have hW : ∀ c, W_x_set T p0 p1 p2 c → W_x_set T p0 p1 p2 c := fun _ h => h
  have hT : Fr (W_x_set T p0 p1 p2) T T := fr_rfl
  unfold x_x_set
  refine fr_if (Q := (FrP (W_x_set T p0 p1 p2) T)) (fun c8_1 => ?_) (fun c8_1 => ?_)
  · exact frp_i hT
  · have kk := kk c8_1
    obtain ⟨q1, kk⟩ := kk
    refine fr_if (Q := (FrP (W_x_set T p0 p1 p2) T)) (fun c22_2 => ?_) (fun c22_2 => ?_)
    · have kk := kk c22_2
      obtain ⟨q2, kk⟩ := kk
      refine fr_if (Q := (FrP (W_x_set T p0 p1 p2) T)) (fun c41_3 => ?_) (fun c41_3 => ?_)
      · exact frp_i (fr_tr hT (frp_o (fr_x_found 2)) (fun c h => hW c (by unfold W_x_found at h; unfold W_x_set; omega)))
      · have kk := kk c41_3
        obtain ⟨q3, kk⟩ := kk
        exact frp_i (fr_tr (fr_tr hT (frp_o (fr_sh_write p0 p1 p2 q3)) (fun c h => hW c (by unfold W_sh_write at h; unfold W_x_set; omega))) (frp_o (fr_x_fine ((x_sh_write T p0 p1 p2).1))) (fun c h => hW c (by unfold W_x_fine at h; unfold W_x_set; omega)))
    · exact frp_i (fr_tr hT (frp_o (fr_x_found 1)) (fun c h => hW c (by unfold W_x_found at h; unfold W_x_set; omega)))
def W_x_copy (T : St) (p0 : Int32) (p1 : Int32) (p2 : Int32) (p3 : Int32) (p4 : Int32) : Nat → Prop := fun c => (5 ≤ c ∧ c < 13) ∨ (10012 ≤ c ∧ c < 10013)
theorem fr_x_copy {T : St} (p0 : Int32) (p1 : Int32) (p2 : Int32) (p3 : Int32) (p4 : Int32) (kk : ok_x_copy T p0 p1 p2 p3 p4) : FrP (W_x_copy T p0 p1 p2 p3 p4) T (x_x_copy T p0 p1 p2 p3 p4) := by
  unfold ok_x_copy at kk
  have hW : ∀ c, W_x_copy T p0 p1 p2 p3 p4 c → W_x_copy T p0 p1 p2 p3 p4 c := fun _ h => h
  have hT : Fr (W_x_copy T p0 p1 p2 p3 p4) T T := fr_rfl
  unfold x_x_copy
  refine fr_if (Q := (FrP (W_x_copy T p0 p1 p2 p3 p4) T)) (fun c8_1 => ?_) (fun c8_1 => ?_)
  · exact frp_i hT
  · have kk := kk c8_1
    refine fr_if (Q := (FrP (W_x_copy T p0 p1 p2 p3 p4) T)) (fun c19_2 => ?_) (fun c19_2 => ?_)
    · exact frp_i hT
    · have kk := kk c19_2
      obtain ⟨q1, kk⟩ := kk
      refine fr_if (Q := (FrP (W_x_copy T p0 p1 p2 p3 p4) T)) (fun c33_3 => ?_) (fun c33_3 => ?_)
      · have kk := kk c33_3
        obtain ⟨q2, kk⟩ := kk
        refine fr_if (Q := (FrP (W_x_copy T p0 p1 p2 p3 p4) T)) (fun c44_4 => ?_) (fun c44_4 => ?_)
        · have kk := kk c44_4
          obtain ⟨q3, kk⟩ := kk
          have gq3 := in_lt q3
          obtain ⟨q4, kk⟩ := kk
          have gq4 := in_lt q4
          refine fr_if (Q := (FrP (W_x_copy T p0 p1 p2 p3 p4) T)) (fun c71_5 => ?_) (fun c71_5 => ?_)
          · have kk := kk c71_5
            obtain ⟨q5, kk⟩ := kk
            refine fr_if (Q := (FrP (W_x_copy T p0 p1 p2 p3 p4) T)) (fun c91_6 => ?_) (fun c91_6 => ?_)
            · exact frp_i (fr_tr hT (frp_o (fr_x_found 2)) (fun c h => hW c (by unfold W_x_found at h; unfold W_x_copy; omega)))
            · have kk := kk c91_6
              obtain ⟨q6, kk⟩ := kk
              refine fr_if (Q := (FrP (W_x_copy T p0 p1 p2 p3 p4) T)) (fun c106_7 => ?_) (fun c106_7 => ?_)
              · exact frp_i (fr_tr hT (frp_o (fr_x_found 2)) (fun c h => hW c (by unfold W_x_found at h; unfold W_x_copy; omega)))
              · have kk := kk c106_7
                obtain ⟨q7, kk⟩ := kk
                refine fr_nT0 (Q := (FrP (W_x_copy T p0 p1 p2 p3 p4) T)) (fr_sAr hT (hW _ (by unfold W_x_copy; omega))) (fun T1 hT1 => ?_)
                exact frp_i (fr_tr hT1 (frp_o (fr_x_fine p4)) (fun c h => hW c (by unfold W_x_fine at h; unfold W_x_copy; omega)))
          · exact frp_i (fr_tr hT (frp_o (fr_x_found 5)) (fun c h => hW c (by unfold W_x_found at h; unfold W_x_copy; omega)))
        · exact frp_i (fr_tr hT (frp_o (fr_x_found 1)) (fun c h => hW c (by unfold W_x_found at h; unfold W_x_copy; omega)))
      · exact frp_i (fr_tr hT (frp_o (fr_x_found 1)) (fun c h => hW c (by unfold W_x_found at h; unfold W_x_copy; omega)))
def W_x_drop (T : St) (p0 : Int32) : Nat → Prop := fun c => (2 ≤ c ∧ c < 3) ∨ (10012 ≤ c ∧ c < 10013)
theorem fr_x_drop {T : St} (p0 : Int32) (kk : ok_x_drop T p0) : FrP (W_x_drop T p0) T (x_x_drop T p0) := by
  unfold ok_x_drop at kk
  have hW : ∀ c, W_x_drop T p0 c → W_x_drop T p0 c := fun _ h => h
  have hT : Fr (W_x_drop T p0) T T := fr_rfl
  unfold x_x_drop
  refine fr_if (Q := (FrP (W_x_drop T p0) T)) (fun c8_1 => ?_) (fun c8_1 => ?_)
  · exact frp_i hT
  · have kk := kk c8_1
    obtain ⟨q1, kk⟩ := kk
    refine fr_if (Q := (FrP (W_x_drop T p0) T)) (fun c22_2 => ?_) (fun c22_2 => ?_)
    · have kk := kk c22_2
      obtain ⟨q2, kk⟩ := kk
      exact frp_i (fr_tr (fr_tr hT (frp_o (fr_sh_lose p0 q2)) (fun c h => hW c (by unfold W_sh_lose at h; unfold W_x_drop; omega))) (frp_o (fr_x_fine ((x_sh_lose T p0).1))) (fun c h => hW c (by unfold W_x_fine at h; unfold W_x_drop; omega)))
    · exact frp_i (fr_tr hT (frp_o (fr_x_found 1)) (fun c h => hW c (by unfold W_x_found at h; unfold W_x_drop; omega)))
def W_x_image (T : St) (p0 : Int32) : Nat → Prop := fun c => (16 ≤ c ∧ c < 46) ∨ (11600 ≤ c ∧ c < 14600)
theorem fr_x_image {T : St} (p0 : Int32) (kk : ok_x_image T p0) : FrP (W_x_image T p0) T (x_x_image T p0) := by
  unfold ok_x_image at kk
  have hW : ∀ c, W_x_image T p0 c → W_x_image T p0 c := fun _ h => h
  have hT : Fr (W_x_image T p0) T T := fr_rfl
  unfold x_x_image
  refine fr_jn (Q := (FrP (W_x_image T p0) T)) (J := fun (KJ1 : Int32 × St) (OJ1 : Prop) => OJ1 → (FrP (W_x_image T p0) T) (KJ1)) kk (fun  kk => ?_) (fun KJ1 OJ1 hJ1 kk => ?_)
  · skip
    obtain ⟨q4, kk⟩ := kk
    refine fr_if (Q := (FrP (W_x_image T p0) T)) (fun c20_4 => ?_) (fun c20_4 => ?_)
    · have kk := kk c20_4
      obtain ⟨q5, kk⟩ := kk
      have gq5 := in_lt q5
      obtain ⟨q6, kk⟩ := kk
      exact frp_i (fr_tr hT ((fr_bk_take (16 + 15 * (p0 : Int32).toNatClampNeg) (T.2.1 0) q6)) (fun c h => hW c (by unfold W_bk_take at h; unfold W_x_image; omega)))
    · exact frp_i hT
  · skip
    refine fr_if (Q := (FrP (W_x_image T p0) T)) (fun c2_5 => ?_) (fun c2_5 => ?_)
    · have kk := kk.1 c2_5
      exact hJ1  kk
    · have kk := kk.2 c2_5
      refine fr_if (Q := (FrP (W_x_image T p0) T)) (fun c7_6 => ?_) (fun c7_6 => ?_)
      · have kk := kk.1 c7_6
        exact hJ1  kk
      · have kk := kk.2 c7_6
        obtain ⟨q7, kk⟩ := kk
        refine fr_if (Q := (FrP (W_x_image T p0) T)) (fun c20_7 => ?_) (fun c20_7 => ?_)
        · have kk := kk c20_7
          obtain ⟨q8, kk⟩ := kk
          have gq8 := in_lt q8
          obtain ⟨q9, kk⟩ := kk
          exact frp_i (fr_tr hT ((fr_bk_take (16 + 15 * (p0 : Int32).toNatClampNeg) (T.2.1 0) q9)) (fun c h => hW c (by unfold W_bk_take at h; unfold W_x_image; omega)))
        · exact frp_i hT
def W_x_as (T : St) (p0 : Int32) (p1 : Int32) : Nat → Prop := fun c => (10012 ≤ c ∧ c < 10013)
theorem fr_x_as {T : St} (p0 : Int32) (p1 : Int32) (kk : ok_x_as T p0 p1) : FrP (W_x_as T p0 p1) T (x_x_as T p0 p1) := by
  unfold ok_x_as at kk
  have hW : ∀ c, W_x_as T p0 p1 c → W_x_as T p0 p1 c := fun _ h => h
  have hT : Fr (W_x_as T p0 p1) T T := fr_rfl
  unfold x_x_as
  obtain ⟨q1, kk⟩ := kk
  obtain ⟨q2, kk⟩ := kk
  refine fr_if (Q := (FrP (W_x_as T p0 p1) T)) (fun c8_1 => ?_) (fun c8_1 => ?_)
  · exact frp_i hT
  · have kk := kk c8_1
    refine fr_if (Q := (FrP (W_x_as T p0 p1) T)) (fun c12_2 => ?_) (fun c12_2 => ?_)
    · exact frp_i hT
    · have kk := kk c12_2
      refine fr_if (Q := (FrP (W_x_as T p0 p1) T)) (fun c18_3 => ?_) (fun c18_3 => ?_)
      · have kk := kk c18_3
        obtain ⟨q3, kk⟩ := kk
        obtain ⟨q4, kk⟩ := kk
        refine fr_if (Q := (FrP (W_x_as T p0 p1) T)) (fun c40_4 => ?_) (fun c40_4 => ?_)
        · exact frp_i (fr_tr hT (frp_o (fr_x_found 3)) (fun c h => hW c (by unfold W_x_found at h; unfold W_x_as; omega)))
        · exact frp_i (fr_tr hT (frp_o (fr_x_fine p0)) (fun c h => hW c (by unfold W_x_fine at h; unfold W_x_as; omega)))
      · exact frp_i hT
def W_x_changed (T : St)  : Nat → Prop := fun c => (77 ≤ c ∧ c < 78) ∨ (10014 ≤ c ∧ c < 10015) ∨ (10016 ≤ c ∧ c < 10017)
theorem fr_x_changed {T : St}  (kk : ok_x_changed T ) : Fr (W_x_changed T ) T (x_x_changed T ) := by
  unfold ok_x_changed at kk
  have hW : ∀ c, W_x_changed T  c → W_x_changed T  c := fun _ h => h
  have hT : Fr (W_x_changed T ) T T := fr_rfl
  unfold x_x_changed
  obtain ⟨q1, kk⟩ := kk
  obtain ⟨q2, kk⟩ := kk
  exact (fr_tr (fr_sF (fr_sF hT (hW _ (by unfold W_x_changed; omega))) (hW _ (by unfold W_x_changed; omega))) ((fr_ki_fit 76 ((sF (sF T 0 14 0) 0 16 0).2.1 0) ((sF (sF T 0 14 0) 0 16 0).2.2.1 (((sF (sF T 0 14 0) 0 16 0).2.1 0) + 1) (5 : Int32).toNatClampNeg) ((sF (sF T 0 14 0) 0 16 0).1 ((sF (sF T 0 14 0) 0 16 0).2.1 0) 18) q2)) (fun c h => hW c (by unfold W_ki_fit at h; unfold W_x_changed; omega)))
def WL_m_book_30  : Nat → Prop := fun c => (576 ≤ c ∧ c < 577)
theorem fr_m_book_30 {W : Nat → Prop} {T0 : St}  {K : Int32 → St → Int32 × St} {Kk : Int32 → St → Prop} (hW : ∀ c, WL_m_book_30  c → W c) (hk : ∀ (v1 : Int32) (T : St), Fr W T0 T → Kk v1 T → (FrP W T0) (K v1 T)) : ∀ (f : Nat) (v1 : Int32) (T : St), Fr W T0 T → ok_m_book_30  Kk f v1 T → (FrP W T0) (x_m_book_30  K f v1 T) := by
  intro f
  induction f with
  | zero => intro v1 T hT kk; exact kk.elim
  | succ f ih =>
    intro v1 T hT kk
    rw [ok_m_book_30] at kk
    rw [x_m_book_30]
    refine fr_if (Q := (FrP W T0)) (fun c34_1 => ?_) (fun c34_1 => ?_)
    · have kk := kk.1 c34_1
      exact hk v1 T hT kk
    · have kk := kk.2 c34_1
      obtain ⟨q1, kk⟩ := kk
      have gq1 := in_lt q1
      exact ih (v1 + 1) (sA T 576 (v1 : Int32).toNatClampNeg 0) (fr_sA hT (hW _ (by unfold WL_m_book_30; omega))) kk
def WL_m_book_76  : Nat → Prop := fun c => (576 ≤ c ∧ c < 577) ∨ (67112 ≤ c ∧ c < 67118)
theorem fr_m_book_76 {W : Nat → Prop} {T0 : St}  {K : Int32 → St → Int32 × St} {Kk : Int32 → St → Prop} (hW : ∀ c, WL_m_book_76  c → W c) (hk : ∀ (v1 : Int32) (T : St), Fr W T0 T → Kk v1 T → (FrP W T0) (K v1 T)) : ∀ (f : Nat) (v1 : Int32) (T : St), Fr W T0 T → ok_m_book_76  Kk f v1 T → (FrP W T0) (x_m_book_76  K f v1 T) := by
  intro f
  induction f with
  | zero => intro v1 T hT kk; exact kk.elim
  | succ f ih =>
    intro v1 T hT kk
    rw [ok_m_book_76] at kk
    rw [x_m_book_76]
    refine fr_if (Q := (FrP W T0)) (fun c79_3 => ?_) (fun c79_3 => ?_)
    · have kk := kk.1 c79_3
      exact hk v1 T hT kk
    · have kk := kk.2 c79_3
      refine fr_jn (Q := (FrP W T0)) (J := fun (KJ2 : Int32 → Int32 × St) (OJ2 : Int32 → Prop) => ∀ (j2_s2 : Int32), OJ2 j2_s2 → (FrP W T0) (KJ2 j2_s2)) kk (fun j2_s2 kk => ?_) (fun KJ2 OJ2 hJ2 kk => ?_)
      · skip
        refine fr_jn (Q := (FrP W T0)) (J := fun (KJ3 : Int32 × St) (OJ3 : Prop) => OJ3 → (FrP W T0) (KJ3)) kk (fun  kk => ?_) (fun KJ3 OJ3 hJ3 kk => ?_)
        · skip
          obtain ⟨q6, kk⟩ := kk
          exact ih (v1 + 1) (x_m_number T v1 j2_s2 3) (fr_tr hT ((fr_m_number v1 j2_s2 3 q6)) (fun c h => hW c (by unfold W_m_number at h; unfold WL_m_book_76; omega))) kk
        · skip
          refine fr_if (Q := (FrP W T0)) (fun c96_7 => ?_) (fun c96_7 => ?_)
          · have kk := kk.1 c96_7
            exact hJ3  kk
          · have kk := kk.2 c96_7
            refine fr_if (Q := (FrP W T0)) (fun c101_8 => ?_) (fun c101_8 => ?_)
            · have kk := kk.1 c101_8
              exact hJ3  kk
            · have kk := kk.2 c101_8
              obtain ⟨q7, kk⟩ := kk
              exact ih (v1 + 1) (x_m_number T v1 j2_s2 9) (fr_tr hT ((fr_m_number v1 j2_s2 9 q7)) (fun c h => hW c (by unfold W_m_number at h; unfold WL_m_book_76; omega))) kk
      · skip
        refine fr_if (Q := (FrP W T0)) (fun c86_9 => ?_) (fun c86_9 => ?_)
        · have kk := kk.1 c86_9
          exact hJ2 1 kk
        · have kk := kk.2 c86_9
          exact hJ2 0 kk
def WL_m_book_123 (l1 : Int32) : Nat → Prop := fun c => (576 ≤ c ∧ c < 577) ∨ (67112 ≤ c ∧ c < 67118)
theorem fr_m_book_123 {W : Nat → Prop} {T0 : St} (l1 : Int32) {K : St → Int32 × St} {Kk : St → Prop} (hW : ∀ c, WL_m_book_123 l1 c → W c) (hk : ∀  (T : St), Fr W T0 T → Kk  T → (FrP W T0) (K  T)) : ∀ (f : Nat)  (T : St), Fr W T0 T → ok_m_book_123 l1 Kk f  T → (FrP W T0) (x_m_book_123 l1 K f  T) := by
  intro f
  induction f with
  | zero => intro  T hT kk; exact kk.elim
  | succ f ih =>
    intro  T hT kk
    rw [ok_m_book_123] at kk
    rw [x_m_book_123]
    obtain ⟨q9, kk⟩ := kk
    refine fr_if (Q := (FrP W T0)) (fun c131_10 => ?_) (fun c131_10 => ?_)
    · have kk := kk.1 c131_10
      obtain ⟨q10, kk⟩ := kk
      exact ih  (x_m_readAway T) (fr_tr hT ((fr_m_readAway  q10)) (fun c h => hW c (by unfold W_m_readAway at h; unfold WL_m_book_123; omega))) kk
    · have kk := kk.2 c131_10
      exact hk  T hT kk
def WL_m_book_164 (l1 : Int32) : Nat → Prop := fun c => (576 ≤ c ∧ c < 577) ∨ (67112 ≤ c ∧ c < 67118)
theorem fr_m_book_164 {W : Nat → Prop} {T0 : St} (l1 : Int32) {K : St → Int32 × St} {Kk : St → Prop} (hW : ∀ c, WL_m_book_164 l1 c → W c) (hk : ∀  (T : St), Fr W T0 T → Kk  T → (FrP W T0) (K  T)) : ∀ (f : Nat)  (T : St), Fr W T0 T → ok_m_book_164 l1 Kk f  T → (FrP W T0) (x_m_book_164 l1 K f  T) := by
  intro f
  induction f with
  | zero => intro  T hT kk; exact kk.elim
  | succ f ih =>
    intro  T hT kk
    rw [ok_m_book_164] at kk
    rw [x_m_book_164]
    obtain ⟨q12, kk⟩ := kk
    refine fr_if (Q := (FrP W T0)) (fun c172_13 => ?_) (fun c172_13 => ?_)
    · have kk := kk.1 c172_13
      obtain ⟨q13, kk⟩ := kk
      exact ih  (x_m_readDish T) (fr_tr hT ((fr_m_readDish  q13)) (fun c h => hW c (by unfold W_m_readDish at h; unfold WL_m_book_164; omega))) kk
    · have kk := kk.2 c172_13
      exact hk  T hT kk
def WL_m_book_246  : Nat → Prop := fun c => (575 ≤ c ∧ c < 576)
theorem fr_m_book_246 {W : Nat → Prop} {T0 : St}  {K : Int32 → St → Int32 × St} {Kk : Int32 → St → Prop} (hW : ∀ c, WL_m_book_246  c → W c) (hk : ∀ (v1 : Int32) (T : St), Fr W T0 T → Kk v1 T → (FrP W T0) (K v1 T)) : ∀ (f : Nat) (v1 : Int32) (T : St), Fr W T0 T → ok_m_book_246  Kk f v1 T → (FrP W T0) (x_m_book_246  K f v1 T) := by
  intro f
  induction f with
  | zero => intro v1 T hT kk; exact kk.elim
  | succ f ih =>
    intro v1 T hT kk
    rw [ok_m_book_246] at kk
    rw [x_m_book_246]
    refine fr_if (Q := (FrP W T0)) (fun c250_17 => ?_) (fun c250_17 => ?_)
    · have kk := kk.1 c250_17
      exact hk v1 T hT kk
    · have kk := kk.2 c250_17
      obtain ⟨q14, kk⟩ := kk
      have gq14 := in_lt q14
      exact ih (v1 + 1) (sA T 575 (v1 : Int32).toNatClampNeg (T.2.2.1 576 (v1 : Int32).toNatClampNeg)) (fr_sA hT (hW _ (by unfold WL_m_book_246; omega))) kk
def W_m_book (T : St)  : Nat → Prop := fun c => (575 ≤ c ∧ c < 577) ∨ (67100 ≤ c ∧ c < 67101) ∨ (67107 ≤ c ∧ c < 67108) ∨ (67109 ≤ c ∧ c < 67118) ∨ (67132 ≤ c ∧ c < 67133) ∨ (67134 ≤ c ∧ c < 67135)
theorem fr_m_book {T : St}  (kk : ok_m_book T ) : FrP (W_m_book T ) T (x_m_book T ) := by
  unfold ok_m_book at kk
  have hW : ∀ c, W_m_book T  c → W_m_book T  c := fun _ h => h
  have hT : Fr (W_m_book T ) T T := fr_rfl
  unfold x_m_book
  refine fr_m_book_30  (fun c h => hW c (by unfold WL_m_book_30 at h; unfold W_m_book; omega)) (fun w1_1 T201 hT201 kk => ?_) 1000 0 (sF (sF (sF (sF (sF T 571 0 0) 571 11 ((sF T 571 0 0).1 571 9)) 571 9 0) 571 12 0) 571 16 0) (fr_sF (fr_sF (fr_sF (fr_sF (fr_sF hT (hW _ (by unfold W_m_book; omega))) (hW _ (by unfold W_m_book; omega))) (hW _ (by unfold W_m_book; omega))) (hW _ (by unfold W_m_book; omega))) (hW _ (by unfold W_m_book; omega))) kk
  obtain ⟨q2, kk⟩ := kk
  obtain ⟨q3, kk⟩ := kk
  refine fr_jn (Q := (FrP (W_m_book T ) T)) (J := fun (KJ1 : Int32 → Int32 × St) (OJ1 : Int32 → Prop) => ∀ (j1_s1 : Int32), OJ1 j1_s1 → (FrP (W_m_book T ) T) (KJ1 j1_s1)) kk (fun j1_s1 kk => ?_) (fun KJ1 OJ1 hJ1 kk => ?_)
  · skip
    obtain ⟨q4, kk⟩ := kk
    refine fr_m_book_76  (fun c h => hW c (by unfold WL_m_book_76 at h; unfold W_m_book; omega)) (fun w2_1 T202 hT202 kk => ?_) 1000 0 (x_m_must (x_m_next T201) j1_s1) (fr_tr (fr_tr hT201 ((fr_m_next  q2)) (fun c h => hW c (by unfold W_m_next at h; unfold W_m_book; omega))) ((fr_m_must j1_s1 q4)) (fun c h => hW c (by unfold W_m_must at h; unfold W_m_book; omega))) kk
    obtain ⟨q8, kk⟩ := kk
    refine fr_m_book_123 w2_1 (fun c h => hW c (by unfold WL_m_book_123 at h; unfold W_m_book; omega)) (fun  T203 hT203 kk => ?_) 1000  (x_m_mustEnd T202) (fr_tr hT202 ((fr_m_mustEnd  q8)) (fun c h => hW c (by unfold W_m_mustEnd at h; unfold W_m_book; omega))) kk
    refine fr_jn (Q := (FrP (W_m_book T ) T)) (J := fun (KJ4 : St → Int32 × St) (OJ4 : St → Prop) => ∀ (T304 : St), Fr (W_m_book T ) T T304 → OJ4 T304 → (FrP (W_m_book T ) T) (KJ4 T304)) kk (fun T304 hT304 kk => ?_) (fun KJ4 OJ4 hJ4 kk => ?_)
    · skip
      refine fr_m_book_164 w2_1 (fun c h => hW c (by unfold WL_m_book_164 at h; unfold W_m_book; omega)) (fun  T204 hT204 kk => ?_) 1000  T304 hT304 kk
      refine fr_jn (Q := (FrP (W_m_book T ) T)) (J := fun (KJ5 : St → Int32 × St) (OJ5 : St → Prop) => ∀ (T305 : St), Fr (W_m_book T ) T T305 → OJ5 T305 → (FrP (W_m_book T ) T) (KJ5 T305)) kk (fun T305 hT305 kk => ?_) (fun KJ5 OJ5 hJ5 kk => ?_)
      · skip
        refine fr_if (Q := (FrP (W_m_book T ) T)) (fun c206_16 => ?_) (fun c206_16 => ?_)
        · have kk := kk c206_16
          refine fr_m_book_246  (fun c h => hW c (by unfold WL_m_book_246 at h; unfold W_m_book; omega)) (fun w5_1 T205 hT205 kk => ?_) 1000 0 (sA (sA T305 576 (202 : Int32).toNatClampNeg 1) 576 (203 : Int32).toNatClampNeg 60) (fr_sA (fr_sA hT305 (hW _ (by unfold W_m_book; omega))) (hW _ (by unfold W_m_book; omega))) kk
          exact frp_i (fr_tr (fr_sF hT205 (hW _ (by unfold W_m_book; omega))) ((fr_m_forget )) (fun c h => hW c (by unfold W_m_forget at h; unfold W_m_book; omega)))
        · exact frp_i (fr_sF hT305 (hW _ (by unfold W_m_book; omega)))
      · skip
        refine fr_if (Q := (FrP (W_m_book T ) T)) (fun c186_18 => ?_) (fun c186_18 => ?_)
        · have kk := kk.1 c186_18
          refine fr_if (Q := (FrP (W_m_book T ) T)) (fun c194_19 => ?_) (fun c194_19 => ?_)
          · have kk := kk.1 c194_19
            exact hJ5 T204 hT204 kk
          · have kk := kk.2 c194_19
            exact hJ5 (x_m_bad T204 1) (fr_tr hT204 ((fr_m_bad 1)) (fun c h => hW c (by unfold W_m_bad at h; unfold W_m_book; omega))) kk
        · have kk := kk.2 c186_18
          exact hJ5 T204 hT204 kk
    · skip
      refine fr_if (Q := (FrP (W_m_book T ) T)) (fun c145_20 => ?_) (fun c145_20 => ?_)
      · have kk := kk.1 c145_20
        obtain ⟨q15, kk⟩ := kk
        refine fr_if (Q := (FrP (W_m_book T ) T)) (fun c156_21 => ?_) (fun c156_21 => ?_)
        · have kk := kk.1 c156_21
          exact hJ4 T203 hT203 kk
        · have kk := kk.2 c156_21
          exact hJ4 (x_m_bad T203 1) (fr_tr hT203 ((fr_m_bad 1)) (fun c h => hW c (by unfold W_m_bad at h; unfold W_m_book; omega))) kk
      · have kk := kk.2 c145_20
        exact hJ4 T203 hT203 kk
  · skip
    refine fr_if (Q := (FrP (W_m_book T ) T)) (fun c63_22 => ?_) (fun c63_22 => ?_)
    · have kk := kk.1 c63_22
      exact hJ1 1 kk
    · have kk := kk.2 c63_22
      exact hJ1 0 kk
def W_m_dinner (T : St) (p0 : Int32) : Nat → Prop := fun c => (575 ≤ c ∧ c < 576) ∨ (67100 ≤ c ∧ c < 67101) ∨ (67132 ≤ c ∧ c < 67133) ∨ (67134 ≤ c ∧ c < 67135)
theorem fr_m_dinner {T : St} (p0 : Int32) (kk : ok_m_dinner T p0) : FrP (W_m_dinner T p0) T (x_m_dinner T p0) := by
  unfold ok_m_dinner at kk
  have hW : ∀ c, W_m_dinner T p0 c → W_m_dinner T p0 c := fun _ h => h
  have hT : Fr (W_m_dinner T p0) T T := fr_rfl
  unfold x_m_dinner
  refine fr_if (Q := (FrP (W_m_dinner T p0) T)) (fun c23_1 => ?_) (fun c23_1 => ?_)
  · exact frp_i (fr_sF hT (hW _ (by unfold W_m_dinner; omega)))
  · have kk := kk c23_1
    obtain ⟨q1, kk⟩ := kk
    refine fr_if (Q := (FrP (W_m_dinner T p0) T)) (fun c31_2 => ?_) (fun c31_2 => ?_)
    · have kk := kk c31_2
      obtain ⟨q2, kk⟩ := kk
      exact frp_i (fr_tr (fr_sA (fr_sF hT (hW _ (by unfold W_m_dinner; omega))) (hW _ (by unfold W_m_dinner; omega))) ((fr_m_forget )) (fun c h => hW c (by unfold W_m_forget at h; unfold W_m_dinner; omega)))
    · exact frp_i (fr_sF hT (hW _ (by unfold W_m_dinner; omega)))
def W_m_out (T : St) (p0 : Int32) : Nat → Prop := fun c => (575 ≤ c ∧ c < 576) ∨ (67100 ≤ c ∧ c < 67101) ∨ (67132 ≤ c ∧ c < 67133) ∨ (67134 ≤ c ∧ c < 67135)
theorem fr_m_out {T : St} (p0 : Int32) : FrP (W_m_out T p0) T (x_m_out T p0) := by
  have hW : ∀ c, W_m_out T p0 c → W_m_out T p0 c := fun _ h => h
  have hT : Fr (W_m_out T p0) T T := fr_rfl
  unfold x_m_out
  refine fr_if (Q := (FrP (W_m_out T p0) T)) (fun c14_1 => ?_) (fun c14_1 => ?_)
  · exact frp_i (fr_sF hT (hW _ (by unfold W_m_out; omega)))
  · refine fr_if (Q := (FrP (W_m_out T p0) T)) (fun c24_2 => ?_) (fun c24_2 => ?_)
    · exact frp_i (fr_sF hT (hW _ (by unfold W_m_out; omega)))
    · refine fr_if (Q := (FrP (W_m_out T p0) T)) (fun c33_3 => ?_) (fun c33_3 => ?_)
      · exact frp_i (fr_sF hT (hW _ (by unfold W_m_out; omega)))
      · exact frp_i (fr_tr (fr_sA (fr_sF hT (hW _ (by unfold W_m_out; omega))) (hW _ (by unfold W_m_out; omega))) ((fr_m_forget )) (fun c h => hW c (by unfold W_m_forget at h; unfold W_m_out; omega)))
def WL_m_judged_2 (l1 : Int32) : Nat → Prop := fun c => c < 0
theorem fr_m_judged_2 {W : Nat → Prop} {T0 : St} (l1 : Int32) {K : Int32 → St → Int32 × St} {Kk : Int32 → St → Prop} (hW : ∀ c, WL_m_judged_2 l1 c → W c) (hk : ∀ (v2 : Int32) (T : St), Fr W T0 T → Kk v2 T → (FrP W T0) (K v2 T)) : ∀ (f : Nat) (v2 : Int32) (T : St), Fr W T0 T → ok_m_judged_2 l1 Kk f v2 T → (FrP W T0) (x_m_judged_2 l1 K f v2 T) := by
  intro f
  induction f with
  | zero => intro v2 T hT kk; exact kk.elim
  | succ f ih =>
    intro v2 T hT kk
    rw [ok_m_judged_2] at kk
    rw [x_m_judged_2]
    refine fr_if (Q := (FrP W T0)) (fun c7_1 => ?_) (fun c7_1 => ?_)
    · have kk := kk.1 c7_1
      exact hk v2 T hT kk
    · have kk := kk.2 c7_1
      obtain ⟨q1, kk⟩ := kk
      have gq1 := in_lt q1
      refine fr_jn0 (Q := (FrP W T0)) (J := fun (KJ1 : Int32 × St) => (FrP W T0) (KJ1)) (?_) (fun KJ1 hJ1 => ?_)
      · skip
        exact frp_i hT
      · skip
        refine fr_if (Q := (FrP W T0)) (fun c16_5 => ?_) (fun c16_5 => ?_)
        · exact hJ1 
        · have kk := kk c16_5
          refine fr_if (Q := (FrP W T0)) (fun c27_6 => ?_) (fun c27_6 => ?_)
          · exact hJ1 
          · have kk := kk c27_6
            obtain ⟨q3, kk⟩ := kk
            refine fr_if (Q := (FrP W T0)) (fun c37_7 => ?_) (fun c37_7 => ?_)
            · have kk := kk c37_7
              exact ih (v2 + 1) T hT kk
            · exact hJ1 
def WL_m_judged_55 (l1 : Int32) : Nat → Prop := fun c => c < 0
theorem fr_m_judged_55 {W : Nat → Prop} {T0 : St} (l1 : Int32) {K : Int32 → St → Int32 × St} {Kk : Int32 → St → Prop} (hW : ∀ c, WL_m_judged_55 l1 c → W c) (hk : ∀ (v2 : Int32) (T : St), Fr W T0 T → Kk v2 T → (FrP W T0) (K v2 T)) : ∀ (f : Nat) (v2 : Int32) (T : St), Fr W T0 T → ok_m_judged_55 l1 Kk f v2 T → (FrP W T0) (x_m_judged_55 l1 K f v2 T) := by
  intro f
  induction f with
  | zero => intro v2 T hT kk; exact kk.elim
  | succ f ih =>
    intro v2 T hT kk
    rw [ok_m_judged_55] at kk
    rw [x_m_judged_55]
    refine fr_if (Q := (FrP W T0)) (fun c60_8 => ?_) (fun c60_8 => ?_)
    · have kk := kk.1 c60_8
      exact hk v2 T hT kk
    · have kk := kk.2 c60_8
      obtain ⟨q4, kk⟩ := kk
      refine fr_if (Q := (FrP W T0)) (fun c68_9 => ?_) (fun c68_9 => ?_)
      · have kk := kk.1 c68_9
        obtain ⟨q5, kk⟩ := kk
        have gq5 := in_lt q5
        obtain ⟨q6, kk⟩ := kk
        obtain ⟨q7, kk⟩ := kk
        have gq7 := in_lt q7
        obtain ⟨q8, kk⟩ := kk
        refine fr_if (Q := (FrP W T0)) (fun c104_10 => ?_) (fun c104_10 => ?_)
        · exact frp_i hT
        · have kk := kk c104_10
          exact ih (v2 + 1) T hT kk
      · have kk := kk.2 c68_9
        exact ih (v2 + 1) T hT kk
def WL_m_judged_122 (l1 : Int32) : Nat → Prop := fun c => c < 0
theorem fr_m_judged_122 {W : Nat → Prop} {T0 : St} (l1 : Int32) {K : Int32 → St → Int32 × St} {Kk : Int32 → St → Prop} (hW : ∀ c, WL_m_judged_122 l1 c → W c) (hk : ∀ (v2 : Int32) (T : St), Fr W T0 T → Kk v2 T → (FrP W T0) (K v2 T)) : ∀ (f : Nat) (v2 : Int32) (T : St), Fr W T0 T → ok_m_judged_122 l1 Kk f v2 T → (FrP W T0) (x_m_judged_122 l1 K f v2 T) := by
  intro f
  induction f with
  | zero => intro v2 T hT kk; exact kk.elim
  | succ f ih =>
    intro v2 T hT kk
    rw [ok_m_judged_122] at kk
    rw [x_m_judged_122]
    refine fr_if (Q := (FrP W T0)) (fun c127_11 => ?_) (fun c127_11 => ?_)
    · have kk := kk.1 c127_11
      exact hk v2 T hT kk
    · have kk := kk.2 c127_11
      obtain ⟨q9, kk⟩ := kk
      refine fr_if (Q := (FrP W T0)) (fun c135_12 => ?_) (fun c135_12 => ?_)
      · have kk := kk.1 c135_12
        exact ih (v2 + 1) T hT kk
      · have kk := kk.2 c135_12
        obtain ⟨q10, kk⟩ := kk
        obtain ⟨q11, kk⟩ := kk
        have gq11 := in_lt q11
        obtain ⟨q12, kk⟩ := kk
        obtain ⟨q13, kk⟩ := kk
        refine fr_if (Q := (FrP W T0)) (fun c166_13 => ?_) (fun c166_13 => ?_)
        · exact frp_i hT
        · have kk := kk c166_13
          exact ih (v2 + 1) T hT kk
def WL_m_judged_190 (l1 : Int32) : Nat → Prop := fun c => (578 ≤ c ∧ c < 585)
theorem fr_m_judged_190 {W : Nat → Prop} {T0 : St} (l1 : Int32) {K : Int32 → Int32 → St → Int32 × St} {Kk : Int32 → Int32 → St → Prop} (hW : ∀ c, WL_m_judged_190 l1 c → W c) (hk : ∀ (v2 : Int32) (v3 : Int32) (T : St), Fr W T0 T → Kk v2 v3 T → (FrP W T0) (K v2 v3 T)) : ∀ (f : Nat) (v2 : Int32) (v3 : Int32) (T : St), Fr W T0 T → ok_m_judged_190 l1 Kk f v2 v3 T → (FrP W T0) (x_m_judged_190 l1 K f v2 v3 T) := by
  intro f
  induction f with
  | zero => intro v2 v3 T hT kk; exact kk.elim
  | succ f ih =>
    intro v2 v3 T hT kk
    rw [ok_m_judged_190] at kk
    rw [x_m_judged_190]
    refine fr_if (Q := (FrP W T0)) (fun c195_14 => ?_) (fun c195_14 => ?_)
    · have kk := kk.1 c195_14
      exact hk v2 v3 T hT kk
    · have kk := kk.2 c195_14
      obtain ⟨q15, kk⟩ := kk
      have gq15 := in_lt q15
      obtain ⟨q16, kk⟩ := kk
      obtain ⟨q17, kk⟩ := kk
      refine fr_nT (Q := (FrP W T0)) (fr_tr hT ((fr_m_addStep 0 (T.2.2.1 594 (v3 : Int32).toNatClampNeg) (T.2.2.1 595 (v3 : Int32).toNatClampNeg) ((x_m_endOf T v3) - (T.2.2.1 595 (v3 : Int32).toNatClampNeg)) q17)) (fun c h => hW c (by unfold W_m_addStep at h; unfold WL_m_judged_190; omega))) kk (fun T1 hT1 kk => ?_)
      obtain ⟨q18, kk⟩ := kk
      refine fr_jn (Q := (FrP W T0)) (J := fun (KJ2 : Int32 → Int32 × St) (OJ2 : Int32 → Prop) => ∀ (j2_s0 : Int32), OJ2 j2_s0 → (FrP W T0) (KJ2 j2_s0)) kk (fun j2_s0 kk => ?_) (fun KJ2 OJ2 hJ2 kk => ?_)
      · skip
        obtain ⟨q19, kk⟩ := kk
        refine fr_if (Q := (FrP W T0)) (fun c251_16 => ?_) (fun c251_16 => ?_)
        · have kk := kk.1 c251_16
          exact ih j2_s0 (v3 + 1) T1 hT1 kk
        · have kk := kk.2 c251_16
          obtain ⟨q20, kk⟩ := kk
          obtain ⟨q21, kk⟩ := kk
          refine fr_if (Q := (FrP W T0)) (fun c270_17 => ?_) (fun c270_17 => ?_)
          · have kk := kk.1 c270_17
            obtain ⟨q22, kk⟩ := kk
            obtain ⟨q23, kk⟩ := kk
            exact ih j2_s0 (v3 + 1) (x_m_addPan T1 0 j2_s0 (x_m_endOf T1 v3)) (fr_tr hT1 ((fr_m_addPan 0 j2_s0 (x_m_endOf T1 v3) q23)) (fun c h => hW c (by unfold W_m_addPan at h; unfold WL_m_judged_190; omega))) kk
          · have kk := kk.2 c270_17
            exact ih j2_s0 (v3 + 1) T1 hT1 kk
      · skip
        refine fr_if (Q := (FrP W T0)) (fun c232_18 => ?_) (fun c232_18 => ?_)
        · have kk := kk.1 c232_18
          exact hJ2 v2 kk
        · have kk := kk.2 c232_18
          exact hJ2 (T1.2.2.1 595 (v3 : Int32).toNatClampNeg) kk
def W_m_judged (T : St) (p0 : Int32) : Nat → Prop := fun c => (578 ≤ c ∧ c < 585)
theorem fr_m_judged {T : St} (p0 : Int32) (kk : ok_m_judged T p0) : FrP (W_m_judged T p0) T (x_m_judged T p0) := by
  unfold ok_m_judged at kk
  have hW : ∀ c, W_m_judged T p0 c → W_m_judged T p0 c := fun _ h => h
  have hT : Fr (W_m_judged T p0) T T := fr_rfl
  unfold x_m_judged
  refine fr_m_judged_2 p0 (fun c h => hW c (by unfold WL_m_judged_2 at h; unfold W_m_judged; omega)) (fun w1_2 T201 hT201 kk => ?_) 1000 0 T hT kk
  refine fr_m_judged_55 p0 (fun c h => hW c (by unfold WL_m_judged_55 at h; unfold W_m_judged; omega)) (fun w2_2 T202 hT202 kk => ?_) 1000 0 T201 hT201 kk
  refine fr_m_judged_122 p0 (fun c h => hW c (by unfold WL_m_judged_122 at h; unfold W_m_judged; omega)) (fun w3_2 T203 hT203 kk => ?_) 1000 0 T202 hT202 kk
  obtain ⟨q14, kk⟩ := kk
  refine fr_m_judged_190 p0 (fun c h => hW c (by unfold WL_m_judged_190 at h; unfold W_m_judged; omega)) (fun w4_2 w4_3 T204 hT204 kk => ?_) 1000 0 0 (x_m_clearLevel T203) (fr_tr hT203 ((fr_m_clearLevel  q14)) (fun c h => hW c (by unfold W_m_clearLevel at h; unfold W_m_judged; omega))) kk
  obtain ⟨q24, kk⟩ := kk
  refine fr_n0 (Q := (FrP (W_m_judged T p0) T)) (fun i2 => ?_)
  refine fr_if (Q := (FrP (W_m_judged T p0) T)) (fun c313_19 => ?_) (fun c313_19 => ?_)
  · exact frp_i hT204
  · exact frp_i hT204
