def WL_m_judge_88 (l1 : Int32) (l2 : Int32) (l3 : Int32) : Nat → Prop := fun c => (595 ≤ c ∧ c < 596)
theorem fr_m_judge_88 {W : Nat → Prop} {T0 : St} (l1 : Int32) (l2 : Int32) (l3 : Int32) {K : Int32 → St → Int32 × St} {Kk : Int32 → St → Prop} (hW : ∀ c, WL_m_judge_88 l1 l2 l3 c → W c) (hk : ∀ (v4 : Int32) (T : St), Fr W T0 T → Kk v4 T → (FrP W T0) (K v4 T)) : ∀ (f : Nat) (v4 : Int32) (T : St), Fr W T0 T → ok_m_judge_88 l1 l2 l3 Kk f v4 T → (FrP W T0) (x_m_judge_88 l1 l2 l3 K f v4 T) := by
  intro f
  induction f with
  | zero => intro v4 T hT kk; exact kk.elim
  | succ f ih =>
    intro v4 T hT kk
    rw [ok_m_judge_88] at kk
    rw [x_m_judge_88]
    refine fr_if (Q := (FrP W T0)) (fun c94_7 => ?_) (fun c94_7 => ?_)
    · have kk := kk.1 c94_7
      exact hk v4 T hT kk
    · have kk := kk.2 c94_7
      obtain ⟨q3, kk⟩ := kk
      have gq3 := in_lt q3
      obtain ⟨q4, kk⟩ := kk
      have gq4 := in_lt q4
      refine fr_nT (Q := (FrP W T0)) (fr_sA hT (hW _ (by unfold WL_m_judge_88; omega))) kk (fun T1 hT1 kk => ?_)
      exact ih (v4 + 1) T1 hT1 kk
def W_m_judge (T : St) (p0 : Int32) (p1 : Int32) (p2 : Int32) : Nat → Prop := fun c => (578 ≤ c ∧ c < 585) ∨ (594 ≤ c ∧ c < 597) ∨ (67100 ≤ c ∧ c < 67102) ∨ (67139 ≤ c ∧ c < 67140)
theorem fr_m_judge {T : St} (p0 : Int32) (p1 : Int32) (p2 : Int32) (kk : ok_m_judge T p0 p1 p2) : FrP (W_m_judge T p0 p1 p2) T (x_m_judge T p0 p1 p2) := by
  unfold ok_m_judge at kk
  have hW : ∀ c, W_m_judge T p0 p1 p2 c → W_m_judge T p0 p1 p2 c := fun _ h => h
  have hT : Fr (W_m_judge T p0 p1 p2) T T := fr_rfl
  unfold x_m_judge
  refine fr_if (Q := (FrP (W_m_judge T p0 p1 p2) T)) (fun c9_1 => ?_) (fun c9_1 => ?_)
  · exact frp_i (fr_sF hT (hW _ (by unfold W_m_judge; omega)))
  · have kk := kk c9_1
    refine fr_if (Q := (FrP (W_m_judge T p0 p1 p2) T)) (fun c16_2 => ?_) (fun c16_2 => ?_)
    · exact frp_i (fr_sF hT (hW _ (by unfold W_m_judge; omega)))
    · have kk := kk c16_2
      refine fr_if (Q := (FrP (W_m_judge T p0 p1 p2) T)) (fun c26_3 => ?_) (fun c26_3 => ?_)
      · exact frp_i (fr_sF hT (hW _ (by unfold W_m_judge; omega)))
      · have kk := kk c26_3
        obtain ⟨q1, kk⟩ := kk
        have gq1 := in_lt q1
        refine fr_if (Q := (FrP (W_m_judge T p0 p1 p2) T)) (fun c38_4 => ?_) (fun c38_4 => ?_)
        · have kk := kk c38_4
          obtain ⟨q2, kk⟩ := kk
          refine fr_if (Q := (FrP (W_m_judge T p0 p1 p2) T)) (fun c52_5 => ?_) (fun c52_5 => ?_)
          · exact frp_i (fr_tr (fr_tr (fr_sF hT (hW _ (by unfold W_m_judge; omega))) ((fr_m_layRow  q2)) (fun c h => hW c (by unfold W_m_layRow at h; unfold W_m_judge; omega))) (frp_o (fr_m_finding 2)) (fun c h => hW c (by unfold W_m_finding at h; unfold W_m_judge; omega)))
          · have kk := kk c52_5
            refine fr_if (Q := (FrP (W_m_judge T p0 p1 p2) T)) (fun c71_6 => ?_) (fun c71_6 => ?_)
            · have kk := kk c71_6
              refine fr_m_judge_88 p0 p1 p2 (fun c h => hW c (by unfold WL_m_judge_88 at h; unfold W_m_judge; omega)) (fun w1_4 T201 hT201 kk => ?_) 1000 0 (sF (x_m_layRow (sF T 571 0 0)) 571 1 0) (fr_sF (fr_tr (fr_sF hT (hW _ (by unfold W_m_judge; omega))) ((fr_m_layRow  q2)) (fun c h => hW c (by unfold W_m_layRow at h; unfold W_m_judge; omega))) (hW _ (by unfold W_m_judge; omega))) kk
              obtain ⟨q5, kk⟩ := kk
              exact frp_i (fr_tr hT201 (frp_o (fr_m_judged p2 q5)) (fun c h => hW c (by unfold W_m_judged at h; unfold W_m_judge; omega)))
            · exact frp_i (fr_tr (fr_tr (fr_sF hT (hW _ (by unfold W_m_judge; omega))) ((fr_m_layRow  q2)) (fun c h => hW c (by unfold W_m_layRow at h; unfold W_m_judge; omega))) (frp_o (fr_m_finding 2)) (fun c h => hW c (by unfold W_m_finding at h; unfold W_m_judge; omega)))
        · exact frp_i (fr_tr (fr_sF hT (hW _ (by unfold W_m_judge; omega))) (frp_o (fr_m_finding 1)) (fun c h => hW c (by unfold W_m_finding at h; unfold W_m_judge; omega)))
def WL_m_layPlan_8  : Nat → Prop := fun c => (578 ≤ c ∧ c < 585)
theorem fr_m_layPlan_8 {W : Nat → Prop} {T0 : St}  {K : Int32 → Int32 → St → St} {Kk : Int32 → Int32 → St → Prop} (hW : ∀ c, WL_m_layPlan_8  c → W c) (hk : ∀ (v1 : Int32) (v2 : Int32) (T : St), Fr W T0 T → Kk v1 v2 T → (Fr W T0) (K v1 v2 T)) : ∀ (f : Nat) (v1 : Int32) (v2 : Int32) (T : St), Fr W T0 T → ok_m_layPlan_8  Kk f v1 v2 T → (Fr W T0) (x_m_layPlan_8  K f v1 v2 T) := by
  intro f
  induction f with
  | zero => intro v1 v2 T hT kk; exact kk.elim
  | succ f ih =>
    intro v1 v2 T hT kk
    rw [ok_m_layPlan_8] at kk
    rw [x_m_layPlan_8]
    refine fr_if (Q := (Fr W T0)) (fun c13_1 => ?_) (fun c13_1 => ?_)
    · have kk := kk.1 c13_1
      exact hk v1 v2 T hT kk
    · have kk := kk.2 c13_1
      obtain ⟨q2, kk⟩ := kk
      have gq2 := in_lt q2
      obtain ⟨q3, kk⟩ := kk
      obtain ⟨q4, kk⟩ := kk
      refine fr_nT (Q := (Fr W T0)) (fr_tr hT ((fr_m_addStep 0 (T.2.2.1 594 (v2 : Int32).toNatClampNeg) (T.2.2.1 595 (v2 : Int32).toNatClampNeg) ((x_m_endOf T v2) - (T.2.2.1 595 (v2 : Int32).toNatClampNeg)) q4)) (fun c h => hW c (by unfold W_m_addStep at h; unfold WL_m_layPlan_8; omega))) kk (fun T1 hT1 kk => ?_)
      obtain ⟨q5, kk⟩ := kk
      refine fr_jn (Q := (Fr W T0)) (J := fun (KJ1 : Int32 → St) (OJ1 : Int32 → Prop) => ∀ (j1_s0 : Int32), OJ1 j1_s0 → (Fr W T0) (KJ1 j1_s0)) kk (fun j1_s0 kk => ?_) (fun KJ1 OJ1 hJ1 kk => ?_)
      · skip
        obtain ⟨q6, kk⟩ := kk
        refine fr_if (Q := (Fr W T0)) (fun c69_3 => ?_) (fun c69_3 => ?_)
        · have kk := kk.1 c69_3
          exact ih j1_s0 (v2 + 1) T1 hT1 kk
        · have kk := kk.2 c69_3
          obtain ⟨q7, kk⟩ := kk
          obtain ⟨q8, kk⟩ := kk
          refine fr_if (Q := (Fr W T0)) (fun c88_4 => ?_) (fun c88_4 => ?_)
          · have kk := kk.1 c88_4
            obtain ⟨q9, kk⟩ := kk
            obtain ⟨q10, kk⟩ := kk
            exact ih j1_s0 (v2 + 1) (x_m_addPan T1 0 j1_s0 (x_m_endOf T1 v2)) (fr_tr hT1 ((fr_m_addPan 0 j1_s0 (x_m_endOf T1 v2) q10)) (fun c h => hW c (by unfold W_m_addPan at h; unfold WL_m_layPlan_8; omega))) kk
          · have kk := kk.2 c88_4
            exact ih j1_s0 (v2 + 1) T1 hT1 kk
      · skip
        refine fr_if (Q := (Fr W T0)) (fun c50_5 => ?_) (fun c50_5 => ?_)
        · have kk := kk.1 c50_5
          exact hJ1 v1 kk
        · have kk := kk.2 c50_5
          exact hJ1 (T1.2.2.1 595 (v2 : Int32).toNatClampNeg) kk
def W_m_layPlan (T : St)  : Nat → Prop := fun c => (578 ≤ c ∧ c < 585)
theorem fr_m_layPlan {T : St}  (kk : ok_m_layPlan T ) : Fr (W_m_layPlan T ) T (x_m_layPlan T ) := by
  unfold ok_m_layPlan at kk
  have hW : ∀ c, W_m_layPlan T  c → W_m_layPlan T  c := fun _ h => h
  have hT : Fr (W_m_layPlan T ) T T := fr_rfl
  unfold x_m_layPlan
  obtain ⟨q1, kk⟩ := kk
  refine fr_m_layPlan_8  (fun c h => hW c (by unfold WL_m_layPlan_8 at h; unfold W_m_layPlan; omega)) (fun w1_1 w1_2 T201 hT201 kk => ?_) 1000 0 0 (x_m_clearLevel T) (fr_tr hT ((fr_m_clearLevel  q1)) (fun c h => hW c (by unfold W_m_clearLevel at h; unfold W_m_layPlan; omega))) kk
  exact hT201
def WL_m_heat_67 (l1 : Int32) (l2 : Int32) : Nat → Prop := fun c => (597 ≤ c ∧ c < 599)
theorem fr_m_heat_67 {W : Nat → Prop} {T0 : St} (l1 : Int32) (l2 : Int32) {K : Int32 → St → Int32 × St} {Kk : Int32 → St → Prop} (hW : ∀ c, WL_m_heat_67 l1 l2 c → W c) (hk : ∀ (v3 : Int32) (T : St), Fr W T0 T → Kk v3 T → (FrP W T0) (K v3 T)) : ∀ (f : Nat) (v3 : Int32) (T : St), Fr W T0 T → ok_m_heat_67 l1 l2 Kk f v3 T → (FrP W T0) (x_m_heat_67 l1 l2 K f v3 T) := by
  intro f
  induction f with
  | zero => intro v3 T hT kk; exact kk.elim
  | succ f ih =>
    intro v3 T hT kk
    rw [ok_m_heat_67] at kk
    rw [x_m_heat_67]
    refine fr_if (Q := (FrP W T0)) (fun c68_5 => ?_) (fun c68_5 => ?_)
    · have kk := kk.1 c68_5
      exact hk v3 T hT kk
    · have kk := kk.2 c68_5
      obtain ⟨q3, kk⟩ := kk
      have gq3 := in_lt q3
      refine fr_n (Q := (FrP W T0)) kk (fun i2 kk => ?_)
      refine fr_n (Q := (FrP W T0)) kk (fun i3 kk => ?_)
      obtain ⟨q4, kk⟩ := kk
      have gq4 := in_lt q4
      refine fr_jn (Q := (FrP W T0)) (J := fun (KJ1 : Int32 → Int32 × St) (OJ1 : Int32 → Prop) => ∀ (j1_s2 : Int32), OJ1 j1_s2 → (FrP W T0) (KJ1 j1_s2)) kk (fun j1_s2 kk => ?_) (fun KJ1 OJ1 hJ1 kk => ?_)
      · skip
        obtain ⟨q5, kk⟩ := kk
        have gq5 := in_lt q5
        refine fr_if (Q := (FrP W T0)) (fun c146_7 => ?_) (fun c146_7 => ?_)
        · have kk := kk.1 c146_7
          refine fr_nT (Q := (FrP W T0)) (fr_sA (fr_sA hT (hW _ (by unfold WL_m_heat_67; omega))) (hW _ (by unfold WL_m_heat_67; omega))) kk (fun T4 hT4 kk => ?_)
          exact ih (v3 + (-1)) T4 hT4 kk
        · have kk := kk.2 c146_7
          exact ih (v3 + (-1)) (sA (sA T 597 (v3 : Int32).toNatClampNeg j1_s2) 598 (v3 : Int32).toNatClampNeg i3) (fr_sA (fr_sA hT (hW _ (by unfold WL_m_heat_67; omega))) (hW _ (by unfold WL_m_heat_67; omega))) kk
      · skip
        refine fr_if (Q := (FrP W T0)) (fun c118_8 => ?_) (fun c118_8 => ?_)
        · have kk := kk.1 c118_8
          exact hJ1 (T.2.2.1 583 (v3 : Int32).toNatClampNeg) kk
        · have kk := kk.2 c118_8
          exact hJ1 i2 kk
def WL_m_heat_172 (l1 : Int32) (l2 : Int32) : Nat → Prop := fun c => c < 0
theorem fr_m_heat_172 {W : Nat → Prop} {T0 : St} (l1 : Int32) (l2 : Int32) {K : Int32 → Int32 → St → Int32 × St} {Kk : Int32 → Int32 → St → Prop} (hW : ∀ c, WL_m_heat_172 l1 l2 c → W c) (hk : ∀ (v3 : Int32) (v4 : Int32) (T : St), Fr W T0 T → Kk v3 v4 T → (FrP W T0) (K v3 v4 T)) : ∀ (f : Nat) (v3 : Int32) (v4 : Int32) (T : St), Fr W T0 T → ok_m_heat_172 l1 l2 Kk f v3 v4 T → (FrP W T0) (x_m_heat_172 l1 l2 K f v3 v4 T) := by
  intro f
  induction f with
  | zero => intro v3 v4 T hT kk; exact kk.elim
  | succ f ih =>
    intro v3 v4 T hT kk
    rw [ok_m_heat_172] at kk
    rw [x_m_heat_172]
    refine fr_if (Q := (FrP W T0)) (fun c175_9 => ?_) (fun c175_9 => ?_)
    · have kk := kk.1 c175_9
      exact hk v3 v4 T hT kk
    · have kk := kk.2 c175_9
      refine fr_n (Q := (FrP W T0)) kk (fun i5 kk => ?_)
      obtain ⟨q6, kk⟩ := kk
      have gq6 := in_lt q6
      refine fr_if (Q := (FrP W T0)) (fun c197_10 => ?_) (fun c197_10 => ?_)
      · have kk := kk.1 c197_10
        refine fr_n (Q := (FrP W T0)) kk (fun i6 kk => ?_)
        exact ih i6 (v4 + 1) T hT kk
      · have kk := kk.2 c197_10
        exact ih i5 (v4 + 1) T hT kk
def W_m_heat (T : St) (p0 : Int32) (p1 : Int32) : Nat → Prop := fun c => (578 ≤ c ∧ c < 591) ∨ (592 ≤ c ∧ c < 599) ∨ (67100 ≤ c ∧ c < 67101) ∨ (67131 ≤ c ∧ c < 67133) ∨ (67134 ≤ c ∧ c < 67137) ∨ (67139 ≤ c ∧ c < 67140)
theorem fr_m_heat {T : St} (p0 : Int32) (p1 : Int32) (kk : ok_m_heat T p0 p1) : FrP (W_m_heat T p0 p1) T (x_m_heat T p0 p1) := by
  unfold ok_m_heat at kk
  have hW : ∀ c, W_m_heat T p0 p1 c → W_m_heat T p0 p1 c := fun _ h => h
  have hT : Fr (W_m_heat T p0 p1) T T := fr_rfl
  unfold x_m_heat
  refine fr_if (Q := (FrP (W_m_heat T p0 p1) T)) (fun c9_1 => ?_) (fun c9_1 => ?_)
  · exact frp_i (fr_sF hT (hW _ (by unfold W_m_heat; omega)))
  · have kk := kk c9_1
    refine fr_if (Q := (FrP (W_m_heat T p0 p1) T)) (fun c16_2 => ?_) (fun c16_2 => ?_)
    · exact frp_i (fr_sF hT (hW _ (by unfold W_m_heat; omega)))
    · have kk := kk c16_2
      refine fr_if (Q := (FrP (W_m_heat T p0 p1) T)) (fun c26_3 => ?_) (fun c26_3 => ?_)
      · exact frp_i (fr_sF hT (hW _ (by unfold W_m_heat; omega)))
      · have kk := kk c26_3
        obtain ⟨q1, kk⟩ := kk
        refine fr_if (Q := (FrP (W_m_heat T p0 p1) T)) (fun c37_4 => ?_) (fun c37_4 => ?_)
        · exact frp_i (fr_tr (fr_sF hT (hW _ (by unfold W_m_heat; omega))) (frp_o (fr_m_know p0 q1)) (fun c h => hW c (by unfold W_m_know at h; unfold W_m_heat; omega)))
        · have kk := kk c37_4
          obtain ⟨q2, kk⟩ := kk
          refine fr_nT (Q := (FrP (W_m_heat T p0 p1) T)) (fr_sA (fr_sA (fr_tr (fr_tr (fr_sF hT (hW _ (by unfold W_m_heat; omega))) (frp_o (fr_m_know p0 q1)) (fun c h => hW c (by unfold W_m_know at h; unfold W_m_heat; omega))) ((fr_m_layPlan  q2)) (fun c h => hW c (by unfold W_m_layPlan at h; unfold W_m_heat; omega))) (hW _ (by unfold W_m_heat; omega))) (hW _ (by unfold W_m_heat; omega))) kk (fun T1 hT1 kk => ?_)
          refine fr_m_heat_67 p0 p1 (fun c h => hW c (by unfold WL_m_heat_67 at h; unfold W_m_heat; omega)) (fun w1_3 T201 hT201 kk => ?_) 1000 59 T1 hT1 kk
          refine fr_m_heat_172 p0 p1 (fun c h => hW c (by unfold WL_m_heat_172 at h; unfold W_m_heat; omega)) (fun w2_3 w2_4 T202 hT202 kk => ?_) 1000 0 0 T201 hT201 kk
          exact frp_i hT202
def W_m_wanted (T : St) (p0 : Int32) (p1 : Int32) (p2 : Int32) : Nat → Prop := fun c => (578 ≤ c ∧ c < 591) ∨ (592 ≤ c ∧ c < 597) ∨ (67100 ≤ c ∧ c < 67101) ∨ (67131 ≤ c ∧ c < 67133) ∨ (67134 ≤ c ∧ c < 67137) ∨ (67139 ≤ c ∧ c < 67140)
theorem fr_m_wanted {T : St} (p0 : Int32) (p1 : Int32) (p2 : Int32) (kk : ok_m_wanted T p0 p1 p2) : FrP (W_m_wanted T p0 p1 p2) T (x_m_wanted T p0 p1 p2) := by
  unfold ok_m_wanted at kk
  have hW : ∀ c, W_m_wanted T p0 p1 p2 c → W_m_wanted T p0 p1 p2 c := fun _ h => h
  have hT : Fr (W_m_wanted T p0 p1 p2) T T := fr_rfl
  unfold x_m_wanted
  refine fr_if (Q := (FrP (W_m_wanted T p0 p1 p2) T)) (fun c9_1 => ?_) (fun c9_1 => ?_)
  · exact frp_i (fr_sF hT (hW _ (by unfold W_m_wanted; omega)))
  · have kk := kk c9_1
    refine fr_if (Q := (FrP (W_m_wanted T p0 p1 p2) T)) (fun c16_2 => ?_) (fun c16_2 => ?_)
    · exact frp_i (fr_sF hT (hW _ (by unfold W_m_wanted; omega)))
    · have kk := kk c16_2
      refine fr_if (Q := (FrP (W_m_wanted T p0 p1 p2) T)) (fun c28_3 => ?_) (fun c28_3 => ?_)
      · exact frp_i (fr_sF hT (hW _ (by unfold W_m_wanted; omega)))
      · have kk := kk c28_3
        refine fr_if (Q := (FrP (W_m_wanted T p0 p1 p2) T)) (fun c38_4 => ?_) (fun c38_4 => ?_)
        · exact frp_i (fr_sF hT (hW _ (by unfold W_m_wanted; omega)))
        · have kk := kk c38_4
          obtain ⟨q1, kk⟩ := kk
          refine fr_if (Q := (FrP (W_m_wanted T p0 p1 p2) T)) (fun c49_5 => ?_) (fun c49_5 => ?_)
          · exact frp_i (fr_tr (fr_sF hT (hW _ (by unfold W_m_wanted; omega))) (frp_o (fr_m_know p0 q1)) (fun c h => hW c (by unfold W_m_know at h; unfold W_m_wanted; omega)))
          · have kk := kk c49_5
            obtain ⟨q2, kk⟩ := kk
            refine fr_if (Q := (FrP (W_m_wanted T p0 p1 p2) T)) (fun c60_6 => ?_) (fun c60_6 => ?_)
            · have kk := kk.1 c60_6
              obtain ⟨q6, kk⟩ := kk
              have gq6 := in_lt q6
              exact frp_i (fr_tr (fr_tr (fr_sF hT (hW _ (by unfold W_m_wanted; omega))) (frp_o (fr_m_know p0 q1)) (fun c h => hW c (by unfold W_m_know at h; unfold W_m_wanted; omega))) ((fr_m_layPlan  q2)) (fun c h => hW c (by unfold W_m_layPlan at h; unfold W_m_wanted; omega)))
            · have kk := kk.2 c60_6
              refine fr_if (Q := (FrP (W_m_wanted T p0 p1 p2) T)) (fun c74_7 => ?_) (fun c74_7 => ?_)
              · have kk := kk.1 c74_7
                obtain ⟨q5, kk⟩ := kk
                have gq5 := in_lt q5
                exact frp_i (fr_tr (fr_tr (fr_sF hT (hW _ (by unfold W_m_wanted; omega))) (frp_o (fr_m_know p0 q1)) (fun c h => hW c (by unfold W_m_know at h; unfold W_m_wanted; omega))) ((fr_m_layPlan  q2)) (fun c h => hW c (by unfold W_m_layPlan at h; unfold W_m_wanted; omega)))
              · have kk := kk.2 c74_7
                refine fr_if (Q := (FrP (W_m_wanted T p0 p1 p2) T)) (fun c88_8 => ?_) (fun c88_8 => ?_)
                · have kk := kk.1 c88_8
                  obtain ⟨q4, kk⟩ := kk
                  have gq4 := in_lt q4
                  exact frp_i (fr_tr (fr_tr (fr_sF hT (hW _ (by unfold W_m_wanted; omega))) (frp_o (fr_m_know p0 q1)) (fun c h => hW c (by unfold W_m_know at h; unfold W_m_wanted; omega))) ((fr_m_layPlan  q2)) (fun c h => hW c (by unfold W_m_layPlan at h; unfold W_m_wanted; omega)))
                · have kk := kk.2 c88_8
                  obtain ⟨q3, kk⟩ := kk
                  have gq3 := in_lt q3
                  exact frp_i (fr_tr (fr_tr (fr_sF hT (hW _ (by unfold W_m_wanted; omega))) (frp_o (fr_m_know p0 q1)) (fun c h => hW c (by unfold W_m_know at h; unfold W_m_wanted; omega))) ((fr_m_layPlan  q2)) (fun c h => hW c (by unfold W_m_layPlan at h; unfold W_m_wanted; omega)))
def WL_m_slack_53 (l1 : Int32) (l2 : Int32) : Nat → Prop := fun c => (578 ≤ c ∧ c < 585) ∨ (595 ≤ c ∧ c < 596)
theorem fr_m_slack_53 {W : Nat → Prop} {T0 : St} (l1 : Int32) (l2 : Int32) {K : Int32 → Int32 → St → Int32 × St} {Kk : Int32 → Int32 → St → Prop} (hW : ∀ c, WL_m_slack_53 l1 l2 c → W c) (hk : ∀ (v3 : Int32) (v4 : Int32) (T : St), Fr W T0 T → Kk v3 v4 T → (FrP W T0) (K v3 v4 T)) : ∀ (f : Nat) (v3 : Int32) (v4 : Int32) (T : St), Fr W T0 T → ok_m_slack_53 l1 l2 Kk f v3 v4 T → (FrP W T0) (x_m_slack_53 l1 l2 K f v3 v4 T) := by
  intro f
  induction f with
  | zero => intro v3 v4 T hT kk; exact kk.elim
  | succ f ih =>
    intro v3 v4 T hT kk
    rw [ok_m_slack_53] at kk
    rw [x_m_slack_53]
    refine fr_if (Q := (FrP W T0)) (fun c55_6 => ?_) (fun c55_6 => ?_)
    · have kk := kk.1 c55_6
      exact hk v3 v4 T hT kk
    · have kk := kk.2 c55_6
      obtain ⟨q2, kk⟩ := kk
      have gq2 := in_lt q2
      obtain ⟨q3, kk⟩ := kk
      refine fr_nT (Q := (FrP W T0)) (fr_tr (fr_sA hT (hW _ (by unfold WL_m_slack_53; omega))) (frp_o (fr_m_judged l1 q3)) (fun c h => hW c (by unfold W_m_judged at h; unfold WL_m_slack_53; omega))) kk (fun T1 hT1 kk => ?_)
      refine fr_jn (Q := (FrP W T0)) (J := fun (KJ1 : Int32 → Int32 × St) (OJ1 : Int32 → Prop) => ∀ (j1_s0 : Int32), OJ1 j1_s0 → (FrP W T0) (KJ1 j1_s0)) kk (fun j1_s0 kk => ?_) (fun KJ1 OJ1 hJ1 kk => ?_)
      · skip
        refine fr_if (Q := (FrP W T0)) (fun c86_8 => ?_) (fun c86_8 => ?_)
        · have kk := kk.1 c86_8
          exact ih (v3 + 0) j1_s0 T1 hT1 kk
        · have kk := kk.2 c86_8
          exact ih (v3 + 1) j1_s0 T1 hT1 kk
      · skip
        refine fr_if (Q := (FrP W T0)) (fun c73_9 => ?_) (fun c73_9 => ?_)
        · have kk := kk.1 c73_9
          exact hJ1 1 kk
        · have kk := kk.2 c73_9
          exact hJ1 0 kk
def W_m_slack (T : St) (p0 : Int32) (p1 : Int32) : Nat → Prop := fun c => (578 ≤ c ∧ c < 591) ∨ (592 ≤ c ∧ c < 597) ∨ (67100 ≤ c ∧ c < 67101) ∨ (67131 ≤ c ∧ c < 67133) ∨ (67134 ≤ c ∧ c < 67137) ∨ (67139 ≤ c ∧ c < 67140)
theorem fr_m_slack {T : St} (p0 : Int32) (p1 : Int32) (kk : ok_m_slack T p0 p1) : FrP (W_m_slack T p0 p1) T (x_m_slack T p0 p1) := by
  unfold ok_m_slack at kk
  have hW : ∀ c, W_m_slack T p0 p1 c → W_m_slack T p0 p1 c := fun _ h => h
  have hT : Fr (W_m_slack T p0 p1) T T := fr_rfl
  unfold x_m_slack
  refine fr_if (Q := (FrP (W_m_slack T p0 p1) T)) (fun c9_1 => ?_) (fun c9_1 => ?_)
  · exact frp_i (fr_sF hT (hW _ (by unfold W_m_slack; omega)))
  · have kk := kk c9_1
    refine fr_if (Q := (FrP (W_m_slack T p0 p1) T)) (fun c13_2 => ?_) (fun c13_2 => ?_)
    · have kk := kk c13_2
      refine fr_if (Q := (FrP (W_m_slack T p0 p1) T)) (fun c23_3 => ?_) (fun c23_3 => ?_)
      · exact frp_i (fr_sF hT (hW _ (by unfold W_m_slack; omega)))
      · have kk := kk c23_3
        obtain ⟨q1, kk⟩ := kk
        refine fr_if (Q := (FrP (W_m_slack T p0 p1) T)) (fun c34_4 => ?_) (fun c34_4 => ?_)
        · exact frp_i (fr_tr (fr_sF hT (hW _ (by unfold W_m_slack; omega))) (frp_o (fr_m_know p0 q1)) (fun c h => hW c (by unfold W_m_know at h; unfold W_m_slack; omega)))
        · have kk := kk c34_4
          refine fr_if (Q := (FrP (W_m_slack T p0 p1) T)) (fun c42_5 => ?_) (fun c42_5 => ?_)
          · have kk := kk c42_5
            refine fr_m_slack_53 p0 p1 (fun c h => hW c (by unfold WL_m_slack_53 at h; unfold W_m_slack; omega)) (fun w1_3 w1_4 T201 hT201 kk => ?_) 1000 0 1 ((x_m_know (sF T 571 0 0) p0).2) (fr_tr (fr_sF hT (hW _ (by unfold W_m_slack; omega))) (frp_o (fr_m_know p0 q1)) (fun c h => hW c (by unfold W_m_know at h; unfold W_m_slack; omega))) kk
            exact frp_i hT201
          · exact frp_i (fr_tr (fr_sF hT (hW _ (by unfold W_m_slack; omega))) (frp_o (fr_m_know p0 q1)) (fun c h => hW c (by unfold W_m_know at h; unfold W_m_slack; omega)))
    · exact frp_i (fr_sF hT (hW _ (by unfold W_m_slack; omega)))
def W_m_bears (T : St) (p0 : Int32) (p1 : Int32) (p2 : Int32) : Nat → Prop := fun c => (578 ≤ c ∧ c < 591) ∨ (592 ≤ c ∧ c < 597) ∨ (67100 ≤ c ∧ c < 67101) ∨ (67131 ≤ c ∧ c < 67133) ∨ (67134 ≤ c ∧ c < 67137) ∨ (67139 ≤ c ∧ c < 67140)
theorem fr_m_bears {T : St} (p0 : Int32) (p1 : Int32) (p2 : Int32) (kk : ok_m_bears T p0 p1 p2) : FrP (W_m_bears T p0 p1 p2) T (x_m_bears T p0 p1 p2) := by
  unfold ok_m_bears at kk
  have hW : ∀ c, W_m_bears T p0 p1 p2 c → W_m_bears T p0 p1 p2 c := fun _ h => h
  have hT : Fr (W_m_bears T p0 p1 p2) T T := fr_rfl
  unfold x_m_bears
  refine fr_if (Q := (FrP (W_m_bears T p0 p1 p2) T)) (fun c9_1 => ?_) (fun c9_1 => ?_)
  · exact frp_i (fr_sF hT (hW _ (by unfold W_m_bears; omega)))
  · have kk := kk c9_1
    refine fr_if (Q := (FrP (W_m_bears T p0 p1 p2) T)) (fun c13_2 => ?_) (fun c13_2 => ?_)
    · exact frp_i (fr_sF hT (hW _ (by unfold W_m_bears; omega)))
    · have kk := kk c13_2
      refine fr_if (Q := (FrP (W_m_bears T p0 p1 p2) T)) (fun c25_3 => ?_) (fun c25_3 => ?_)
      · exact frp_i (fr_sF hT (hW _ (by unfold W_m_bears; omega)))
      · have kk := kk c25_3
        refine fr_if (Q := (FrP (W_m_bears T p0 p1 p2) T)) (fun c35_4 => ?_) (fun c35_4 => ?_)
        · exact frp_i (fr_sF hT (hW _ (by unfold W_m_bears; omega)))
        · have kk := kk c35_4
          obtain ⟨q1, kk⟩ := kk
          refine fr_if (Q := (FrP (W_m_bears T p0 p1 p2) T)) (fun c46_5 => ?_) (fun c46_5 => ?_)
          · exact frp_i (fr_tr (fr_sF hT (hW _ (by unfold W_m_bears; omega))) (frp_o (fr_m_know p0 q1)) (fun c h => hW c (by unfold W_m_know at h; unfold W_m_bears; omega)))
          · have kk := kk c46_5
            refine fr_if (Q := (FrP (W_m_bears T p0 p1 p2) T)) (fun c54_6 => ?_) (fun c54_6 => ?_)
            · have kk := kk c54_6
              obtain ⟨q2, kk⟩ := kk
              have gq2 := in_lt q2
              obtain ⟨q3, kk⟩ := kk
              refine fr_if (Q := (FrP (W_m_bears T p0 p1 p2) T)) (fun c72_7 => ?_) (fun c72_7 => ?_)
              · exact frp_i (fr_tr (fr_sA (fr_tr (fr_sF hT (hW _ (by unfold W_m_bears; omega))) (frp_o (fr_m_know p0 q1)) (fun c h => hW c (by unfold W_m_know at h; unfold W_m_bears; omega))) (hW _ (by unfold W_m_bears; omega))) (frp_o (fr_m_judged p0 q3)) (fun c h => hW c (by unfold W_m_judged at h; unfold W_m_bears; omega)))
              · exact frp_i (fr_tr (fr_sA (fr_tr (fr_sF hT (hW _ (by unfold W_m_bears; omega))) (frp_o (fr_m_know p0 q1)) (fun c h => hW c (by unfold W_m_know at h; unfold W_m_bears; omega))) (hW _ (by unfold W_m_bears; omega))) (frp_o (fr_m_judged p0 q3)) (fun c h => hW c (by unfold W_m_judged at h; unfold W_m_bears; omega)))
            · exact frp_i (fr_tr (fr_sF hT (hW _ (by unfold W_m_bears; omega))) (frp_o (fr_m_know p0 q1)) (fun c h => hW c (by unfold W_m_know at h; unfold W_m_bears; omega)))
def WL_jd_lay_127 (l1 : Nat) (l2 : Nat) (l3 : Nat) (l4 : Int32) (l5 : Nat) (l6 : Int32) : Nat → Prop := fun c => (538 ≤ c ∧ c < 539)
theorem fr_jd_lay_127 {W : Nat → Prop} {T0 : St} (l1 : Nat) (l2 : Nat) (l3 : Nat) (l4 : Int32) (l5 : Nat) (l6 : Int32) {K : Int32 → St → St} {Kk : Int32 → St → Prop} (hW : ∀ c, WL_jd_lay_127 l1 l2 l3 l4 l5 l6 c → W c) (hk : ∀ (v7 : Int32) (T : St), Fr W T0 T → Kk v7 T → (Fr W T0) (K v7 T)) : ∀ (f : Nat) (v7 : Int32) (T : St), Fr W T0 T → ok_jd_lay_127 l1 l2 l3 l4 l5 l6 Kk f v7 T → (Fr W T0) (x_jd_lay_127 l1 l2 l3 l4 l5 l6 K f v7 T) := by
  intro f
  induction f with
  | zero => intro v7 T hT kk; exact kk.elim
  | succ f ih =>
    intro v7 T hT kk
    rw [ok_jd_lay_127] at kk
    rw [x_jd_lay_127]
    refine fr_if (Q := (Fr W T0)) (fun c130_3 => ?_) (fun c130_3 => ?_)
    · have kk := kk.1 c130_3
      exact hk v7 T hT kk
    · have kk := kk.2 c130_3
      obtain ⟨q12, kk⟩ := kk
      have gq12 := in_lt q12
      obtain ⟨q13, kk⟩ := kk
      refine fr_nT (Q := (Fr W T0)) (fr_sL hT (hW _ (by unfold WL_jd_lay_127; omega))) kk (fun T5 hT5 kk => ?_)
      exact ih (v7 + 1) T5 hT5 kk
def WL_jd_lay_19 (l1 : Nat) (l2 : Nat) (l3 : Nat) : Nat → Prop := fun c => (534 ≤ c ∧ c < 555) ∨ (63900 ≤ c ∧ c < 65500)
theorem fr_jd_lay_19 {W : Nat → Prop} {T0 : St} (l1 : Nat) (l2 : Nat) (l3 : Nat) {K : Int32 → St → St} {Kk : Int32 → St → Prop} (hW : ∀ c, WL_jd_lay_19 l1 l2 l3 c → W c) (hk : ∀ (v4 : Int32) (T : St), Fr W T0 T → Kk v4 T → (Fr W T0) (K v4 T)) : ∀ (f : Nat) (v4 : Int32) (T : St), Fr W T0 T → ok_jd_lay_19 l1 l2 l3 Kk f v4 T → (Fr W T0) (x_jd_lay_19 l1 l2 l3 K f v4 T) := by
  intro f
  induction f with
  | zero => intro v4 T hT kk; exact kk.elim
  | succ f ih =>
    intro v4 T hT kk
    rw [ok_jd_lay_19] at kk
    rw [x_jd_lay_19]
    obtain ⟨q3, kk⟩ := kk
    refine fr_if (Q := (Fr W T0)) (fun c25_1 => ?_) (fun c25_1 => ?_)
    · have kk := kk.1 c25_1
      exact hk v4 T hT kk
    · have kk := kk.2 c25_1
      obtain ⟨q4, kk⟩ := kk
      have gq4 := in_lt q4
      obtain ⟨q5, kk⟩ := kk
      have gq5 := in_lt q5
      refine fr_nN (Q := (Fr W T0)) kk (fun r1 er1 kk => ?_)
      obtain ⟨q6, kk⟩ := kk
      refine fr_nT (Q := (Fr W T0)) (fr_sF hT (hW _ (by unfold WL_jd_lay_19; omega))) kk (fun T2 hT2 kk => ?_)
      obtain ⟨q7, kk⟩ := kk
      obtain ⟨q8, kk⟩ := kk
      have gq8 := in_lt q8
      refine fr_n (Q := (Fr W T0)) kk (fun i3 kk => ?_)
      obtain ⟨q9, kk⟩ := kk
      have gq9 := in_lt q9
      refine fr_nT (Q := (Fr W T0)) (fr_sA (fr_sA hT2 (hW _ (by unfold WL_jd_lay_19; omega))) (hW _ (by unfold WL_jd_lay_19; omega))) kk (fun T4 hT4 kk => ?_)
      obtain ⟨q10, kk⟩ := kk
      refine fr_if (Q := (Fr W T0)) (fun c115_2 => ?_) (fun c115_2 => ?_)
      · have kk := kk.1 c115_2
        exact ih (v4 + 1) T4 hT4 kk
      · have kk := kk.2 c115_2
        obtain ⟨q11, kk⟩ := kk
        refine fr_jd_lay_127 l1 l2 l3 v4 r1 i3 (fun c h => hW c (by unfold WL_jd_lay_127 at h; unfold WL_jd_lay_19; omega)) (fun w1_7 T201 hT201 kk => ?_) 1000 0 (x_wa_lay T4 r1 l1) (fr_tr hT4 ((fr_wa_lay r1 l1 q11)) (fun c h => hW c (by unfold W_wa_lay at h; unfold WL_jd_lay_19; omega))) kk
        obtain ⟨q14, kk⟩ := kk
        exact ih (v4 + 1) (x_ta_add T201 533 533 (r1 + 3) l2) (fr_tr hT201 ((fr_ta_add 533 533 (r1 + 3) l2 q14)) (fun c h => hW c (by unfold W_ta_add at h; unfold WL_jd_lay_19; omega))) kk
def W_jd_lay (T : St) (p0 : Nat) (p1 : Nat) (p2 : Nat) : Nat → Prop := fun c => (534 ≤ c ∧ c < 555) ∨ (63900 ≤ c ∧ c < 65500)
theorem fr_jd_lay {T : St} (p0 : Nat) (p1 : Nat) (p2 : Nat) (kk : ok_jd_lay T p0 p1 p2) : Fr (W_jd_lay T p0 p1 p2) T (x_jd_lay T p0 p1 p2) := by
  unfold ok_jd_lay at kk
  have hW : ∀ c, W_jd_lay T p0 p1 p2 c → W_jd_lay T p0 p1 p2 c := fun _ h => h
  have hT : Fr (W_jd_lay T p0 p1 p2) T T := fr_rfl
  unfold x_jd_lay
  obtain ⟨q1, kk⟩ := kk
  obtain ⟨q2, kk⟩ := kk
  refine fr_jd_lay_19 p0 p1 p2 (fun c h => hW c (by unfold WL_jd_lay_19 at h; unfold W_jd_lay; omega)) (fun w2_4 T202 hT202 kk => ?_) 1000 0 (x_ta_open (x_fillJ T 538 0) 533 p1) (fr_tr (fr_tr hT ((fr_fillJ 538 0 q1)) (fun c h => hW c (by unfold W_fillJ at h; unfold W_jd_lay; omega))) ((fr_ta_open 533 p1 q2)) (fun c h => hW c (by unfold W_ta_open at h; unfold W_jd_lay; omega))) kk
  exact hT202
def WL_pl_leavesOpen_4 (l1 : Int32) (l2 : Int32) : Nat → Prop := fun c => (98 ≤ c ∧ c < 99) ∨ (100 ≤ c ∧ c < 105)
theorem fr_pl_leavesOpen_4 {W : Nat → Prop} {T0 : St} (l1 : Int32) (l2 : Int32) {K : Int32 → St → Int32 × St} {Kk : Int32 → St → Prop} (hW : ∀ c, WL_pl_leavesOpen_4 l1 l2 c → W c) (hk : ∀ (v3 : Int32) (T : St), Fr W T0 T → Kk v3 T → (FrP W T0) (K v3 T)) : ∀ (f : Nat) (v3 : Int32) (T : St), Fr W T0 T → ok_pl_leavesOpen_4 l1 l2 Kk f v3 T → (FrP W T0) (x_pl_leavesOpen_4 l1 l2 K f v3 T) := by
  intro f
  induction f with
  | zero => intro v3 T hT kk; exact kk.elim
  | succ f ih =>
    intro v3 T hT kk
    rw [ok_pl_leavesOpen_4] at kk
    rw [x_pl_leavesOpen_4]
    refine fr_if (Q := (FrP W T0)) (fun c9_1 => ?_) (fun c9_1 => ?_)
    · have kk := kk.1 c9_1
      exact hk v3 T hT kk
    · have kk := kk.2 c9_1
      obtain ⟨q1, kk⟩ := kk
      have gq1 := in_lt q1
      obtain ⟨q2, kk⟩ := kk
      have gq2 := in_lt q2
      obtain ⟨q3, kk⟩ := kk
      refine fr_n (Q := (FrP W T0)) kk (fun i1 kk => ?_)
      refine fr_if (Q := (FrP W T0)) (fun c36_2 => ?_) (fun c36_2 => ?_)
      · exact frp_i (fr_tr hT (frp_o (fr_pl_agreeing l2 (T.2.2.1 94 (v3 : Int32).toNatClampNeg) q3)) (fun c h => hW c (by unfold W_pl_agreeing at h; unfold WL_pl_leavesOpen_4; omega)))
      · have kk := kk c36_2
        obtain ⟨q4, kk⟩ := kk
        have gq4 := in_lt q4
        refine fr_nT (Q := (FrP W T0)) (fr_sA (fr_tr hT (frp_o (fr_pl_agreeing l2 (T.2.2.1 94 (v3 : Int32).toNatClampNeg) q3)) (fun c h => hW c (by unfold W_pl_agreeing at h; unfold WL_pl_leavesOpen_4; omega))) (hW _ (by unfold WL_pl_leavesOpen_4; omega))) kk (fun T2 hT2 kk => ?_)
        exact ih (v3 + 1) T2 hT2 kk
def W_pl_leavesOpen (T : St) (p0 : Int32) (p1 : Int32) : Nat → Prop := fun c => (98 ≤ c ∧ c < 99) ∨ (100 ≤ c ∧ c < 105)
theorem fr_pl_leavesOpen {T : St} (p0 : Int32) (p1 : Int32) (kk : ok_pl_leavesOpen T p0 p1) : FrP (W_pl_leavesOpen T p0 p1) T (x_pl_leavesOpen T p0 p1) := by
  unfold ok_pl_leavesOpen at kk
  have hW : ∀ c, W_pl_leavesOpen T p0 p1 c → W_pl_leavesOpen T p0 p1 c := fun _ h => h
  have hT : Fr (W_pl_leavesOpen T p0 p1) T T := fr_rfl
  unfold x_pl_leavesOpen
  refine fr_pl_leavesOpen_4 p0 p1 (fun c h => hW c (by unfold WL_pl_leavesOpen_4 at h; unfold W_pl_leavesOpen; omega)) (fun w1_3 T201 hT201 kk => ?_) 1000 (p0 + 1) T hT kk
  exact frp_i hT201
def W_rd_takeWord (T : St) (p0 : Nat) : Nat → Prop := fun c => (11302 ≤ c ∧ c < 11307)
theorem fr_rd_takeWord {T : St} (p0 : Nat) (kk : ok_rd_takeWord T p0) : Fr (W_rd_takeWord T p0) T (x_rd_takeWord T p0) := by
  unfold ok_rd_takeWord at kk
  have hW : ∀ c, W_rd_takeWord T p0 c → W_rd_takeWord T p0 c := fun _ h => h
  have hT : Fr (W_rd_takeWord T p0) T T := fr_rfl
  unfold x_rd_takeWord
  refine fr_if (Q := (Fr (W_rd_takeWord T p0) T)) (fun c4_1 => ?_) (fun c4_1 => ?_)
  · have kk := kk c4_1
    obtain ⟨q1, kk⟩ := kk
    refine fr_if (Q := (Fr (W_rd_takeWord T p0) T)) (fun c13_2 => ?_) (fun c13_2 => ?_)
    · exact (fr_sF hT (hW _ (by unfold W_rd_takeWord; omega)))
    · have kk := kk c13_2
      obtain ⟨q2, kk⟩ := kk
      exact (fr_tr hT ((fr_rd_advance  q2)) (fun c h => hW c (by unfold W_rd_advance at h; unfold W_rd_takeWord; omega)))
  · exact hT
def W_rd_takeSign (T : St)  : Nat → Prop := fun c => (11302 ≤ c ∧ c < 11307)
theorem fr_rd_takeSign {T : St}  (kk : ok_rd_takeSign T ) : Fr (W_rd_takeSign T ) T (x_rd_takeSign T ) := by
  unfold ok_rd_takeSign at kk
  have hW : ∀ c, W_rd_takeSign T  c → W_rd_takeSign T  c := fun _ h => h
  have hT : Fr (W_rd_takeSign T ) T T := fr_rfl
  unfold x_rd_takeSign
  refine fr_if (Q := (Fr (W_rd_takeSign T ) T)) (fun c4_1 => ?_) (fun c4_1 => ?_)
  · have kk := kk c4_1
    refine fr_if (Q := (Fr (W_rd_takeSign T ) T)) (fun c13_2 => ?_) (fun c13_2 => ?_)
    · have kk := kk c13_2
      obtain ⟨q1, kk⟩ := kk
      exact (fr_tr hT ((fr_rd_advance  q1)) (fun c h => hW c (by unfold W_rd_advance at h; unfold W_rd_takeSign; omega)))
    · exact (fr_sF hT (hW _ (by unfold W_rd_takeSign; omega)))
  · exact hT
def W_rd_takeNumber (T : St) (p0 : Int32) (p1 : Int32) : Nat → Prop := fun c => (11302 ≤ c ∧ c < 11307)
theorem fr_rd_takeNumber {T : St} (p0 : Int32) (p1 : Int32) (kk : ok_rd_takeNumber T p0 p1) : FrP (W_rd_takeNumber T p0 p1) T (x_rd_takeNumber T p0 p1) := by
  unfold ok_rd_takeNumber at kk
  have hW : ∀ c, W_rd_takeNumber T p0 p1 c → W_rd_takeNumber T p0 p1 c := fun _ h => h
  have hT : Fr (W_rd_takeNumber T p0 p1) T T := fr_rfl
  unfold x_rd_takeNumber
  refine fr_if (Q := (FrP (W_rd_takeNumber T p0 p1) T)) (fun c4_1 => ?_) (fun c4_1 => ?_)
  · have kk := kk c4_1
    refine fr_if (Q := (FrP (W_rd_takeNumber T p0 p1) T)) (fun c14_2 => ?_) (fun c14_2 => ?_)
    · have kk := kk c14_2
      refine fr_jn0 (Q := (FrP (W_rd_takeNumber T p0 p1) T)) (J := fun (KJ1 : Int32 × St) => (FrP (W_rd_takeNumber T p0 p1) T) (KJ1)) (?_) (fun KJ1 hJ1 => ?_)
      · skip
        exact frp_i (fr_sF hT (hW _ (by unfold W_rd_takeNumber; omega)))
      · skip
        refine fr_if (Q := (FrP (W_rd_takeNumber T p0 p1) T)) (fun c29_5 => ?_) (fun c29_5 => ?_)
        · exact hJ1 
        · have kk := kk c29_5
          refine fr_if (Q := (FrP (W_rd_takeNumber T p0 p1) T)) (fun c37_6 => ?_) (fun c37_6 => ?_)
          · have kk := kk c37_6
            obtain ⟨q2, kk⟩ := kk
            exact frp_i (fr_tr hT ((fr_rd_advance  q2)) (fun c h => hW c (by unfold W_rd_advance at h; unfold W_rd_takeNumber; omega)))
          · exact hJ1 
    · exact frp_i (fr_sF hT (hW _ (by unfold W_rd_takeNumber; omega)))
  · exact frp_i hT
def WL_wa_choose_41 (l0 : Nat) (l1 : Nat) (l2 : Int32) (l3 : Int32) (l4 : Int32) (l5 : Int32) (l6 : Int32) : Nat → Prop := fun c => (l0 + 1 ≤ c ∧ c < l0 + 3) ∨ (10000 + 100 * l0 ≤ c ∧ c < 10000 + 100 * l0 + 100)
theorem fr_wa_choose_41 {W : Nat → Prop} {T0 : St} (l0 : Nat) (l1 : Nat) (l2 : Int32) (l3 : Int32) (l4 : Int32) (l5 : Int32) (l6 : Int32) {K : Int32 → Int32 → St → St} {Kk : Int32 → Int32 → St → Prop} (hW : ∀ c, WL_wa_choose_41 l0 l1 l2 l3 l4 l5 l6 c → W c) (hk : ∀ (v7 : Int32) (v8 : Int32) (T : St), Fr W T0 T → Kk v7 v8 T → (Fr W T0) (K v7 v8 T)) : ∀ (f : Nat) (v7 : Int32) (v8 : Int32) (T : St), Fr W T0 T → ok_wa_choose_41 l0 l1 l2 l3 l4 l5 l6 Kk f v7 v8 T → (Fr W T0) (x_wa_choose_41 l0 l1 l2 l3 l4 l5 l6 K f v7 v8 T) := by
  intro f
  induction f with
  | zero => intro v7 v8 T hT kk; exact kk.elim
  | succ f ih =>
    intro v7 v8 T hT kk
    rw [ok_wa_choose_41] at kk
    rw [x_wa_choose_41]
    refine fr_if (Q := (Fr W T0)) (fun c43_1 => ?_) (fun c43_1 => ?_)
    · have kk := kk.1 c43_1
      exact hk v7 v8 T hT kk
    · have kk := kk.2 c43_1
      obtain ⟨q5, kk⟩ := kk
      obtain ⟨q6, kk⟩ := kk
      obtain ⟨q7, kk⟩ := kk
      have gq7 := in_lt q7
      obtain ⟨q8, kk⟩ := kk
      have gq8 := in_lt q8
      refine fr_nT (Q := (Fr W T0)) (fr_sA hT (hW _ (by unfold WL_wa_choose_41; omega))) kk (fun T3 hT3 kk => ?_)
      refine fr_jn (Q := (Fr W T0)) (J := fun (KJ1 : Int32 → St) (OJ1 : Int32 → Prop) => ∀ (j1_s2 : Int32), OJ1 j1_s2 → (Fr W T0) (KJ1 j1_s2)) kk (fun j1_s2 kk => ?_) (fun KJ1 OJ1 hJ1 kk => ?_)
      · skip
        refine fr_n (Q := (Fr W T0)) kk (fun i4 kk => ?_)
        refine fr_if (Q := (Fr W T0)) (fun c118_4 => ?_) (fun c118_4 => ?_)
        · have kk := kk.1 c118_4
          refine fr_nT (Q := (Fr W T0)) (fr_sF (fr_sA hT3 (hW _ (by unfold WL_wa_choose_41; omega))) (hW _ (by unfold WL_wa_choose_41; omega))) kk (fun T5 hT5 kk => ?_)
          exact ih i4 (v8 + (-1)) T5 hT5 kk
        · have kk := kk.2 c118_4
          exact ih i4 (v8 + (-1)) (sA T3 (l0 + 1) (v8 : Int32).toNatClampNeg i4) (fr_sA hT3 (hW _ (by unfold WL_wa_choose_41; omega))) kk
      · skip
        refine fr_if (Q := (Fr W T0)) (fun c74_5 => ?_) (fun c74_5 => ?_)
        · have kk := kk.1 c74_5
          exact hJ1 l4 kk
        · have kk := kk.2 c74_5
          refine fr_if (Q := (Fr W T0)) (fun c85_6 => ?_) (fun c85_6 => ?_)
          · have kk := kk.1 c85_6
            exact hJ1 l5 kk
          · have kk := kk.2 c85_6
            exact hJ1 0 kk
def W_wa_choose (T : St) (a : Nat) (p0 : Nat) (p1 : Int32) (p2 : Int32) (p3 : Int32) (p4 : Int32) : Nat → Prop := fun c => (a + 1 ≤ c ∧ c < a + 4) ∨ (10000 + 100 * a ≤ c ∧ c < 10000 + 100 * a + 100)
theorem fr_wa_choose {T : St} (a : Nat) (p0 : Nat) (p1 : Int32) (p2 : Int32) (p3 : Int32) (p4 : Int32) (kk : ok_wa_choose T a p0 p1 p2 p3 p4) : Fr (W_wa_choose T a p0 p1 p2 p3 p4) T (x_wa_choose T a p0 p1 p2 p3 p4) := by
  unfold ok_wa_choose at kk
  have hW : ∀ c, W_wa_choose T a p0 p1 p2 p3 p4 c → W_wa_choose T a p0 p1 p2 p3 p4 c := fun _ h => h
  have hT : Fr (W_wa_choose T a p0 p1 p2 p3 p4) T T := fr_rfl
  unfold x_wa_choose
  obtain ⟨q1, kk⟩ := kk
  obtain ⟨q2, kk⟩ := kk
  obtain ⟨q3, kk⟩ := kk
  have gq3 := in_lt q3
  refine fr_n (Q := (Fr (W_wa_choose T a p0 p1 p2 p3 p4) T)) kk (fun i1 kk => ?_)
  obtain ⟨q4, kk⟩ := kk
  have gq4 := in_lt q4
  refine fr_n (Q := (Fr (W_wa_choose T a p0 p1 p2 p3 p4) T)) kk (fun i2 kk => ?_)
  refine fr_wa_choose_41 a p0 p1 p2 p3 p4 i1 (fun c h => hW c (by unfold WL_wa_choose_41 at h; unfold W_wa_choose; omega)) (fun w1_7 w1_8 T201 hT201 kk => ?_) 1000 p2 i2 (sF (sF T a 3 p1) a 5 (p3 + p4)) (fr_sF (fr_sF hT (hW _ (by unfold W_wa_choose; omega))) (hW _ (by unfold W_wa_choose; omega))) kk
  refine fr_jn (Q := (Fr (W_wa_choose T a p0 p1 p2 p3 p4) T)) (J := fun (KJ2 : St) (OJ2 : Prop) => OJ2 → (Fr (W_wa_choose T a p0 p1 p2 p3 p4) T) (KJ2)) kk (fun  kk => ?_) (fun KJ2 OJ2 hJ2 kk => ?_)
  · skip
    refine fr_if (Q := (Fr (W_wa_choose T a p0 p1 p2 p3 p4) T)) (fun c189_11 => ?_) (fun c189_11 => ?_)
    · exact (fr_sF hT201 (hW _ (by unfold W_wa_choose; omega)))
    · have kk := kk c189_11
      obtain ⟨q12, kk⟩ := kk
      exact (fr_tr (fr_sF hT201 (hW _ (by unfold W_wa_choose; omega))) ((fr_wa_lay a p0 q12)) (fun c h => hW c (by unfold W_wa_lay at h; unfold W_wa_choose; omega)))
  · skip
    refine fr_if (Q := (Fr (W_wa_choose T a p0 p1 p2 p3 p4) T)) (fun c157_12 => ?_) (fun c157_12 => ?_)
    · have kk := kk.1 c157_12
      exact hJ2  kk
    · have kk := kk.2 c157_12
      obtain ⟨q13, kk⟩ := kk
      refine fr_if (Q := (Fr (W_wa_choose T a p0 p1 p2 p3 p4) T)) (fun c165_13 => ?_) (fun c165_13 => ?_)
      · have kk := kk.1 c165_13
        exact hJ2  kk
      · have kk := kk.2 c165_13
        obtain ⟨q14, kk⟩ := kk
        refine fr_if (Q := (Fr (W_wa_choose T a p0 p1 p2 p3 p4) T)) (fun c174_14 => ?_) (fun c174_14 => ?_)
        · have kk := kk.1 c174_14
          exact hJ2  kk
        · have kk := kk.2 c174_14
          refine fr_if (Q := (Fr (W_wa_choose T a p0 p1 p2 p3 p4) T)) (fun c189_15 => ?_) (fun c189_15 => ?_)
          · exact (fr_sF hT201 (hW _ (by unfold W_wa_choose; omega)))
          · have kk := kk c189_15
            obtain ⟨q15, kk⟩ := kk
            exact (fr_tr (fr_sF hT201 (hW _ (by unfold W_wa_choose; omega))) ((fr_wa_lay a p0 q15)) (fun c h => hW c (by unfold W_wa_lay at h; unfold W_wa_choose; omega)))
def W_x_dinner (T : St) (p0 : Int32) : Nat → Prop := fun c => (77 ≤ c ∧ c < 78) ∨ (10014 ≤ c ∧ c < 10015) ∨ (10016 ≤ c ∧ c < 10017) ∨ (10000 + 100 * (T.2.1 0) ≤ c ∧ c < 10000 + 100 * (T.2.1 0) + 100)
theorem fr_x_dinner {T : St} (p0 : Int32) (kk : ok_x_dinner T p0) : FrP (W_x_dinner T p0) T (x_x_dinner T p0) := by
  unfold ok_x_dinner at kk
  have hW : ∀ c, W_x_dinner T p0 c → W_x_dinner T p0 c := fun _ h => h
  have hT : Fr (W_x_dinner T p0) T T := fr_rfl
  unfold x_x_dinner
  refine fr_if (Q := (FrP (W_x_dinner T p0) T)) (fun c7_1 => ?_) (fun c7_1 => ?_)
  · exact frp_i hT
  · have kk := kk c7_1
    refine fr_if (Q := (FrP (W_x_dinner T p0) T)) (fun c12_2 => ?_) (fun c12_2 => ?_)
    · exact frp_i hT
    · have kk := kk c12_2
      obtain ⟨q1, kk⟩ := kk
      obtain ⟨q2, kk⟩ := kk
      refine fr_if (Q := (FrP (W_x_dinner T p0) T)) (fun c26_3 => ?_) (fun c26_3 => ?_)
      · have kk := kk c26_3
        obtain ⟨q3, kk⟩ := kk
        exact frp_i (fr_tr (fr_sF hT (hW _ (by unfold W_x_dinner; omega))) ((fr_x_changed  q3)) (fun c h => hW c (by unfold W_x_changed at h; unfold W_x_dinner; omega)))
      · exact frp_i hT
def W_x_out (T : St) (p0 : Int32) : Nat → Prop := fun c => (77 ≤ c ∧ c < 78) ∨ (10014 ≤ c ∧ c < 10015) ∨ (10016 ≤ c ∧ c < 10017) ∨ (10000 + 100 * (T.2.1 0) ≤ c ∧ c < 10000 + 100 * (T.2.1 0) + 100)
theorem fr_x_out {T : St} (p0 : Int32) (kk : ok_x_out T p0) : FrP (W_x_out T p0) T (x_x_out T p0) := by
  unfold ok_x_out at kk
  have hW : ∀ c, W_x_out T p0 c → W_x_out T p0 c := fun _ h => h
  have hT : Fr (W_x_out T p0) T T := fr_rfl
  unfold x_x_out
  refine fr_if (Q := (FrP (W_x_out T p0) T)) (fun c1_1 => ?_) (fun c1_1 => ?_)
  · exact frp_i hT
  · have kk := kk c1_1
    refine fr_if (Q := (FrP (W_x_out T p0) T)) (fun c7_2 => ?_) (fun c7_2 => ?_)
    · have kk := kk c7_2
      obtain ⟨q1, kk⟩ := kk
      obtain ⟨q2, kk⟩ := kk
      refine fr_if (Q := (FrP (W_x_out T p0) T)) (fun c20_3 => ?_) (fun c20_3 => ?_)
      · exact frp_i hT
      · have kk := kk c20_3
        refine fr_if (Q := (FrP (W_x_out T p0) T)) (fun c32_4 => ?_) (fun c32_4 => ?_)
        · exact frp_i hT
        · have kk := kk c32_4
          obtain ⟨q3, kk⟩ := kk
          exact frp_i (fr_tr (fr_sF hT (hW _ (by unfold W_x_out; omega))) ((fr_x_changed  q3)) (fun c h => hW c (by unfold W_x_changed at h; unfold W_x_out; omega)))
    · exact frp_i hT
def W_x_restore (T : St) (p0 : Int32) : Nat → Prop := fun c => (77 ≤ c ∧ c < 78) ∨ (10014 ≤ c ∧ c < 10015) ∨ (10016 ≤ c ∧ c < 10017) ∨ ((T.2.1 0) + 1 ≤ c ∧ c < (T.2.1 0) + 15) ∨ (10000 + 100 * (T.2.1 0) ≤ c ∧ c < 10000 + 100 * (T.2.1 0) + 100)
theorem fr_x_restore {T : St} (p0 : Int32) (kk : ok_x_restore T p0) : FrP (W_x_restore T p0) T (x_x_restore T p0) := by
  unfold ok_x_restore at kk
  have hW : ∀ c, W_x_restore T p0 c → W_x_restore T p0 c := fun _ h => h
  have hT : Fr (W_x_restore T p0) T T := fr_rfl
  unfold x_x_restore
  refine fr_if (Q := (FrP (W_x_restore T p0) T)) (fun c1_1 => ?_) (fun c1_1 => ?_)
  · exact frp_i hT
  · have kk := kk c1_1
    refine fr_if (Q := (FrP (W_x_restore T p0) T)) (fun c6_2 => ?_) (fun c6_2 => ?_)
    · have kk := kk c6_2
      obtain ⟨q1, kk⟩ := kk
      have gq1 := in_lt q1
      obtain ⟨q2, kk⟩ := kk
      refine fr_if (Q := (FrP (W_x_restore T p0) T)) (fun c21_3 => ?_) (fun c21_3 => ?_)
      · exact frp_i hT
      · have kk := kk c21_3
        obtain ⟨q3, kk⟩ := kk
        obtain ⟨q4, kk⟩ := kk
        obtain ⟨q5, kk⟩ := kk
        exact frp_i (fr_tr (fr_tr hT ((fr_bk_take (T.2.1 0) (16 + 15 * (p0 : Int32).toNatClampNeg) q3)) (fun c h => hW c (by unfold W_bk_take at h; unfold W_x_restore; omega))) ((fr_x_changed  q5)) (fun c h => hW c (by unfold W_x_changed at h; unfold W_x_restore; omega)))
    · exact frp_i hT
def WL_jd_firstLack_40 (l1 : Nat) (l2 : Nat) (l3 : Nat) (l4 : Int32) : Nat → Prop := fun c => c < 0
theorem fr_jd_firstLack_40 {W : Nat → Prop} {T0 : St} (l1 : Nat) (l2 : Nat) (l3 : Nat) (l4 : Int32) {K : Int32 → St → Int32 × St} {Kk : Int32 → St → Prop} (hW : ∀ c, WL_jd_firstLack_40 l1 l2 l3 l4 c → W c) (hk : ∀ (v5 : Int32) (T : St), Fr W T0 T → Kk v5 T → (FrP W T0) (K v5 T)) : ∀ (f : Nat) (v5 : Int32) (T : St), Fr W T0 T → ok_jd_firstLack_40 l1 l2 l3 l4 Kk f v5 T → (FrP W T0) (x_jd_firstLack_40 l1 l2 l3 l4 K f v5 T) := by
  intro f
  induction f with
  | zero => intro v5 T hT kk; exact kk.elim
  | succ f ih =>
    intro v5 T hT kk
    rw [ok_jd_firstLack_40] at kk
    rw [x_jd_firstLack_40]
    refine fr_if (Q := (FrP W T0)) (fun c44_1 => ?_) (fun c44_1 => ?_)
    · have kk := kk.1 c44_1
      exact hk v5 T hT kk
    · have kk := kk.2 c44_1
      refine fr_jn (Q := (FrP W T0)) (J := fun (KJ1 : Int32 → Int32 × St) (OJ1 : Int32 → Prop) => ∀ (j1_s2 : Int32), OJ1 j1_s2 → (FrP W T0) (KJ1 j1_s2)) kk (fun j1_s2 kk => ?_) (fun KJ1 OJ1 hJ1 kk => ?_)
      · skip
        refine fr_n (Q := (FrP W T0)) kk (fun i2 kk => ?_)
        refine fr_if (Q := (FrP W T0)) (fun c71_3 => ?_) (fun c71_3 => ?_)
        · have kk := kk c71_3
          exact ih (v5 + 1) T hT kk
        · exact frp_i hT
      · skip
        refine fr_if (Q := (FrP W T0)) (fun c56_4 => ?_) (fun c56_4 => ?_)
        · have kk := kk.1 c56_4
          exact hJ1 1 kk
        · have kk := kk.2 c56_4
          exact hJ1 0 kk
def W_jd_firstLack (T : St) (p0 : Nat) (p1 : Nat) (p2 : Nat) : Nat → Prop := fun c => (529 ≤ c ∧ c < 531) ∨ (534 ≤ c ∧ c < 555) ∨ (63900 ≤ c ∧ c < 65500)
theorem fr_jd_firstLack {T : St} (p0 : Nat) (p1 : Nat) (p2 : Nat) (kk : ok_jd_firstLack T p0 p1 p2) : FrP (W_jd_firstLack T p0 p1 p2) T (x_jd_firstLack T p0 p1 p2) := by
  unfold ok_jd_firstLack at kk
  have hW : ∀ c, W_jd_firstLack T p0 p1 p2 c → W_jd_firstLack T p0 p1 p2 c := fun _ h => h
  have hT : Fr (W_jd_firstLack T p0 p1 p2) T T := fr_rfl
  unfold x_jd_firstLack
  obtain ⟨q1, kk⟩ := kk
  obtain ⟨q2, kk⟩ := kk
  obtain ⟨q3, kk⟩ := kk
  obtain ⟨q4, kk⟩ := kk
  refine fr_n (Q := (FrP (W_jd_firstLack T p0 p1 p2) T)) kk (fun i1 kk => ?_)
  refine fr_jd_firstLack_40 p0 p1 p2 i1 (fun c h => hW c (by unfold WL_jd_firstLack_40 at h; unfold W_jd_firstLack; omega)) (fun w1_5 T201 hT201 kk => ?_) 1000 0 (x_ov_want (x_jd_lay T p0 p1 p2) p0 p2) (fr_tr (fr_tr hT ((fr_jd_lay p0 p1 p2 q1)) (fun c h => hW c (by unfold W_jd_lay at h; unfold W_jd_firstLack; omega))) ((fr_ov_want p0 p2 q2)) (fun c h => hW c (by unfold W_ov_want at h; unfold W_jd_firstLack; omega))) kk
  exact frp_i hT201
def WL_pl_layDish_39 (l1 : Int32) (l2 : Int32) (l4 : Int32) (l5 : Int32) : Nat → Prop := fun c => (123 ≤ c ∧ c < 507) ∨ (22300 ≤ c ∧ c < 60700)
theorem fr_pl_layDish_39 {W : Nat → Prop} {T0 : St} (l1 : Int32) (l2 : Int32) (l4 : Int32) (l5 : Int32) {K : Int32 → Int32 → St → St} {Kk : Int32 → Int32 → St → Prop} (hW : ∀ c, WL_pl_layDish_39 l1 l2 l4 l5 c → W c) (hk : ∀ (v3 : Int32) (v6 : Int32) (T : St), Fr W T0 T → Kk v3 v6 T → (Fr W T0) (K v3 v6 T)) : ∀ (f : Nat) (v3 : Int32) (v6 : Int32) (T : St), Fr W T0 T → ok_pl_layDish_39 l1 l2 l4 l5 Kk f v3 v6 T → (Fr W T0) (x_pl_layDish_39 l1 l2 l4 l5 K f v3 v6 T) := by
  intro f
  induction f with
  | zero => intro v3 v6 T hT kk; exact kk.elim
  | succ f ih =>
    intro v3 v6 T hT kk
    rw [ok_pl_layDish_39] at kk
    rw [x_pl_layDish_39]
    obtain ⟨q5, kk⟩ := kk
    obtain ⟨q6, kk⟩ := kk
    have gq6 := in_lt q6
    refine fr_if (Q := (Fr W T0)) (fun c50_3 => ?_) (fun c50_3 => ?_)
    · have kk := kk.1 c50_3
      exact hk v3 v6 T hT kk
    · have kk := kk.2 c50_3
      refine fr_if (Q := (Fr W T0)) (fun c56_4 => ?_) (fun c56_4 => ?_)
      · have kk := kk.1 c56_4
        exact hk v3 v6 T hT kk
      · have kk := kk.2 c56_4
        obtain ⟨q7, kk⟩ := kk
        have gq7 := in_lt q7
        refine fr_nN (Q := (Fr W T0)) kk (fun r1 er1 kk => ?_)
        obtain ⟨q8, kk⟩ := kk
        obtain ⟨q9, kk⟩ := kk
        obtain ⟨q10, kk⟩ := kk
        refine fr_nT (Q := (Fr W T0)) (fr_sF (fr_sF (fr_tr hT ((fr_wa_choose r1 (T.2.1 2) l1 (l2 - v6) l5 l4 q8)) (fun c h => hW c (by unfold W_wa_choose at h; unfold WL_pl_layDish_39; omega))) (hW _ (by unfold WL_pl_layDish_39; omega))) (hW _ (by unfold WL_pl_layDish_39; omega))) kk (fun T2 hT2 kk => ?_)
        refine fr_if (Q := (Fr W T0)) (fun c124_5 => ?_) (fun c124_5 => ?_)
        · have kk := kk.1 c124_5
          exact ih (v3 + 1) (v6 + 1) T2 hT2 kk
        · have kk := kk.2 c124_5
          obtain ⟨q11, kk⟩ := kk
          refine fr_if (Q := (Fr W T0)) (fun c141_6 => ?_) (fun c141_6 => ?_)
          · have kk := kk.1 c141_6
            exact ih (v3 + 1) (v6 + 1) (sF T2 r1 6 0) (fr_sF hT2 (hW _ (by unfold WL_pl_layDish_39; omega))) kk
          · have kk := kk.2 c141_6
            exact ih (v3 + 1) (v6 + 1) T2 hT2 kk
def WL_pl_layDish_22 (l1 : Int32) (l2 : Int32) (l4 : Int32) : Nat → Prop := fun c => (123 ≤ c ∧ c < 507) ∨ (22300 ≤ c ∧ c < 60700)
theorem fr_pl_layDish_22 {W : Nat → Prop} {T0 : St} (l1 : Int32) (l2 : Int32) (l4 : Int32) {K : Int32 → Int32 → St → St} {Kk : Int32 → Int32 → St → Prop} (hW : ∀ c, WL_pl_layDish_22 l1 l2 l4 c → W c) (hk : ∀ (v3 : Int32) (v5 : Int32) (T : St), Fr W T0 T → Kk v3 v5 T → (Fr W T0) (K v3 v5 T)) : ∀ (f : Nat) (v3 : Int32) (v5 : Int32) (T : St), Fr W T0 T → ok_pl_layDish_22 l1 l2 l4 Kk f v3 v5 T → (Fr W T0) (x_pl_layDish_22 l1 l2 l4 K f v3 v5 T) := by
  intro f
  induction f with
  | zero => intro v3 v5 T hT kk; exact kk.elim
  | succ f ih =>
    intro v3 v5 T hT kk
    rw [ok_pl_layDish_22] at kk
    rw [x_pl_layDish_22]
    obtain ⟨q3, kk⟩ := kk
    obtain ⟨q4, kk⟩ := kk
    refine fr_if (Q := (Fr W T0)) (fun c33_2 => ?_) (fun c33_2 => ?_)
    · have kk := kk.1 c33_2
      exact hk v3 v5 T hT kk
    · have kk := kk.2 c33_2
      refine fr_pl_layDish_39 l1 l2 l4 v5 (fun c h => hW c (by unfold WL_pl_layDish_39 at h; unfold WL_pl_layDish_22; omega)) (fun w1_3 w1_6 T201 hT201 kk => ?_) 1000 v3 0 T hT kk
      exact ih w1_3 (v5 + 1) T201 hT201 kk
def WL_pl_layDish_5 (l1 : Int32) (l2 : Int32) : Nat → Prop := fun c => (123 ≤ c ∧ c < 507) ∨ (22300 ≤ c ∧ c < 60700)
theorem fr_pl_layDish_5 {W : Nat → Prop} {T0 : St} (l1 : Int32) (l2 : Int32) {K : Int32 → Int32 → St → St} {Kk : Int32 → Int32 → St → Prop} (hW : ∀ c, WL_pl_layDish_5 l1 l2 c → W c) (hk : ∀ (v3 : Int32) (v4 : Int32) (T : St), Fr W T0 T → Kk v3 v4 T → (Fr W T0) (K v3 v4 T)) : ∀ (f : Nat) (v3 : Int32) (v4 : Int32) (T : St), Fr W T0 T → ok_pl_layDish_5 l1 l2 Kk f v3 v4 T → (Fr W T0) (x_pl_layDish_5 l1 l2 K f v3 v4 T) := by
  intro f
  induction f with
  | zero => intro v3 v4 T hT kk; exact kk.elim
  | succ f ih =>
    intro v3 v4 T hT kk
    rw [ok_pl_layDish_5] at kk
    rw [x_pl_layDish_5]
    obtain ⟨q1, kk⟩ := kk
    obtain ⟨q2, kk⟩ := kk
    refine fr_if (Q := (Fr W T0)) (fun c16_1 => ?_) (fun c16_1 => ?_)
    · have kk := kk.1 c16_1
      exact hk v3 v4 T hT kk
    · have kk := kk.2 c16_1
      refine fr_pl_layDish_22 l1 l2 v4 (fun c h => hW c (by unfold WL_pl_layDish_22 at h; unfold WL_pl_layDish_5; omega)) (fun w2_3 w2_5 T202 hT202 kk => ?_) 1000 v3 0 T hT kk
      exact ih w2_3 (v4 + 1) T202 hT202 kk
def W_pl_layDish (T : St) (p0 : Int32) (p1 : Int32) : Nat → Prop := fun c => (82 ≤ c ∧ c < 83) ∨ (123 ≤ c ∧ c < 507) ∨ (22300 ≤ c ∧ c < 60700)
theorem fr_pl_layDish {T : St} (p0 : Int32) (p1 : Int32) (kk : ok_pl_layDish T p0 p1) : Fr (W_pl_layDish T p0 p1) T (x_pl_layDish T p0 p1) := by
  unfold ok_pl_layDish at kk
  have hW : ∀ c, W_pl_layDish T p0 p1 c → W_pl_layDish T p0 p1 c := fun _ h => h
  have hT : Fr (W_pl_layDish T p0 p1) T T := fr_rfl
  unfold x_pl_layDish
  refine fr_pl_layDish_5 p0 p1 (fun c h => hW c (by unfold WL_pl_layDish_5 at h; unfold W_pl_layDish; omega)) (fun w3_3 w3_4 T203 hT203 kk => ?_) 1000 0 0 T hT kk
  obtain ⟨q12, kk⟩ := kk
  have gq12 := in_lt q12
  exact (fr_sA hT203 (hW _ (by unfold W_pl_layDish; omega)))
def WL_rd_readKitchen_8 (l1 : Nat) : Nat → Prop := fun c => (11302 ≤ c ∧ c < 11307) ∨ (l1 + 1 ≤ c ∧ c < l1 + 2)
theorem fr_rd_readKitchen_8 {W : Nat → Prop} {T0 : St} (l1 : Nat) {K : Int32 → St → St} {Kk : Int32 → St → Prop} (hW : ∀ c, WL_rd_readKitchen_8 l1 c → W c) (hk : ∀ (v2 : Int32) (T : St), Fr W T0 T → Kk v2 T → (Fr W T0) (K v2 T)) : ∀ (f : Nat) (v2 : Int32) (T : St), Fr W T0 T → ok_rd_readKitchen_8 l1 Kk f v2 T → (Fr W T0) (x_rd_readKitchen_8 l1 K f v2 T) := by
  intro f
  induction f with
  | zero => intro v2 T hT kk; exact kk.elim
  | succ f ih =>
    intro v2 T hT kk
    rw [ok_rd_readKitchen_8] at kk
    rw [x_rd_readKitchen_8]
    refine fr_if (Q := (Fr W T0)) (fun c13_1 => ?_) (fun c13_1 => ?_)
    · have kk := kk.1 c13_1
      exact hk v2 T hT kk
    · have kk := kk.2 c13_1
      obtain ⟨q2, kk⟩ := kk
      obtain ⟨q3, kk⟩ := kk
      have gq3 := in_lt q3
      obtain ⟨q4, kk⟩ := kk
      refine fr_nT (Q := (Fr W T0)) (fr_tr hT (frp_o (fr_rd_takeNumber (([0, 0, 0, 0, 0, 1, 0] : List Int32).getD (v2 : Int32).toNatClampNeg 0) (([3, 3, 3, 9, 9, 3, 9] : List Int32).getD (v2 : Int32).toNatClampNeg 0) q4)) (fun c h => hW c (by unfold W_rd_takeNumber at h; unfold WL_rd_readKitchen_8; omega))) kk (fun T1 hT1 kk => ?_)
      refine fr_nT (Q := (Fr W T0)) (fr_sA hT1 (hW _ (by unfold WL_rd_readKitchen_8; omega))) kk (fun T2 hT2 kk => ?_)
      exact ih (v2 + 1) T2 hT2 kk
def W_rd_readKitchen (T : St) (p0 : Nat) : Nat → Prop := fun c => (11302 ≤ c ∧ c < 11307) ∨ (p0 + 1 ≤ c ∧ c < p0 + 2)
theorem fr_rd_readKitchen {T : St} (p0 : Nat) (kk : ok_rd_readKitchen T p0) : Fr (W_rd_readKitchen T p0) T (x_rd_readKitchen T p0) := by
  unfold ok_rd_readKitchen at kk
  have hW : ∀ c, W_rd_readKitchen T p0 c → W_rd_readKitchen T p0 c := fun _ h => h
  have hT : Fr (W_rd_readKitchen T p0) T T := fr_rfl
  unfold x_rd_readKitchen
  obtain ⟨q1, kk⟩ := kk
  refine fr_rd_readKitchen_8 p0 (fun c h => hW c (by unfold WL_rd_readKitchen_8 at h; unfold W_rd_readKitchen; omega)) (fun w1_2 T201 hT201 kk => ?_) 1000 0 (x_rd_takeWord T 0) (fr_tr hT ((fr_rd_takeWord 0 q1)) (fun c h => hW c (by unfold W_rd_takeWord at h; unfold W_rd_readKitchen; omega))) kk
  obtain ⟨q5, kk⟩ := kk
  exact (fr_tr hT201 ((fr_rd_takeSign  q5)) (fun c h => hW c (by unfold W_rd_takeSign at h; unfold W_rd_readKitchen; omega)))
def W_rd_readAway (T : St) (p0 : Nat) : Nat → Prop := fun c => (11302 ≤ c ∧ c < 11307) ∨ (p0 + 2 ≤ c ∧ c < p0 + 4) ∨ (10000 + 100 * p0 ≤ c ∧ c < 10000 + 100 * p0 + 100)
theorem fr_rd_readAway {T : St} (p0 : Nat) (kk : ok_rd_readAway T p0) : Fr (W_rd_readAway T p0) T (x_rd_readAway T p0) := by
  unfold ok_rd_readAway at kk
  have hW : ∀ c, W_rd_readAway T p0 c → W_rd_readAway T p0 c := fun _ h => h
  have hT : Fr (W_rd_readAway T p0) T T := fr_rfl
  unfold x_rd_readAway
  obtain ⟨q1, kk⟩ := kk
  refine fr_if (Q := (Fr (W_rd_readAway T p0) T)) (fun c5_1 => ?_) (fun c5_1 => ?_)
  · have kk := kk c5_1
    obtain ⟨q2, kk⟩ := kk
    obtain ⟨q3, kk⟩ := kk
    refine fr_n (Q := (Fr (W_rd_readAway T p0) T)) kk (fun i1 kk => ?_)
    obtain ⟨q4, kk⟩ := kk
    have gq4 := in_lt q4
    refine fr_nT (Q := (Fr (W_rd_readAway T p0) T)) (fr_sA (fr_tr (fr_tr hT ((fr_rd_takeWord 1 q2)) (fun c h => hW c (by unfold W_rd_takeWord at h; unfold W_rd_readAway; omega))) (frp_o (fr_rd_takeNumber 0 59 q3)) (fun c h => hW c (by unfold W_rd_takeNumber at h; unfold W_rd_readAway; omega))) (hW _ (by unfold W_rd_readAway; omega))) kk (fun T2 hT2 kk => ?_)
    obtain ⟨q5, kk⟩ := kk
    obtain ⟨q6, kk⟩ := kk
    have gq6 := in_lt q6
    refine fr_nT (Q := (Fr (W_rd_readAway T p0) T)) (fr_sA (fr_tr hT2 (frp_o (fr_rd_takeNumber i1 59 q5)) (fun c h => hW c (by unfold W_rd_takeNumber at h; unfold W_rd_readAway; omega))) (hW _ (by unfold W_rd_readAway; omega))) kk (fun T3 hT3 kk => ?_)
    obtain ⟨q7, kk⟩ := kk
    exact (fr_sF (fr_tr hT3 ((fr_rd_takeSign  q7)) (fun c h => hW c (by unfold W_rd_takeSign at h; unfold W_rd_readAway; omega))) (hW _ (by unfold W_rd_readAway; omega)))
  · exact (fr_sF hT (hW _ (by unfold W_rd_readAway; omega)))
def W_rd_readStep (T : St) (p0 : Nat) (p1 : Int32) (p2 : Int32) : Nat → Prop := fun c => (11302 ≤ c ∧ c < 11307) ∨ (p0 + 9 ≤ c ∧ c < p0 + 15)
theorem fr_rd_readStep {T : St} (p0 : Nat) (p1 : Int32) (p2 : Int32) (kk : ok_rd_readStep T p0 p1 p2) : Fr (W_rd_readStep T p0 p1 p2) T (x_rd_readStep T p0 p1 p2) := by
  unfold ok_rd_readStep at kk
  have hW : ∀ c, W_rd_readStep T p0 p1 p2 c → W_rd_readStep T p0 p1 p2 c := fun _ h => h
  have hT : Fr (W_rd_readStep T p0 p1 p2) T T := fr_rfl
  unfold x_rd_readStep
  obtain ⟨q1, kk⟩ := kk
  obtain ⟨q2, kk⟩ := kk
  have gq2 := in_lt q2
  obtain ⟨q3, kk⟩ := kk
  refine fr_nT (Q := (Fr (W_rd_readStep T p0 p1 p2) T)) (fr_sA (fr_tr (fr_sA hT (hW _ (by unfold W_rd_readStep; omega))) (frp_o (fr_rd_takeNumber 1 30 q3)) (fun c h => hW c (by unfold W_rd_takeNumber at h; unfold W_rd_readStep; omega))) (hW _ (by unfold W_rd_readStep; omega))) kk (fun T1 hT1 kk => ?_)
  obtain ⟨q4, kk⟩ := kk
  refine fr_nT (Q := (Fr (W_rd_readStep T p0 p1 p2) T)) (fr_sA (fr_tr hT1 (frp_o (fr_rd_takeNumber 0 1 q4)) (fun c h => hW c (by unfold W_rd_takeNumber at h; unfold W_rd_readStep; omega))) (hW _ (by unfold W_rd_readStep; omega))) kk (fun T2 hT2 kk => ?_)
  refine fr_jn (Q := (Fr (W_rd_readStep T p0 p1 p2) T)) (J := fun (KJ1 : St) (OJ1 : Prop) => OJ1 → (Fr (W_rd_readStep T p0 p1 p2) T) (KJ1)) kk (fun  kk => ?_) (fun KJ1 OJ1 hJ1 kk => ?_)
  · skip
    obtain ⟨q27, kk⟩ := kk
    refine fr_nT (Q := (Fr (W_rd_readStep T p0 p1 p2) T)) (fr_sA (fr_tr hT2 (frp_o (fr_rd_takeNumber 0 2 q27)) (fun c h => hW c (by unfold W_rd_takeNumber at h; unfold W_rd_readStep; omega))) (hW _ (by unfold W_rd_readStep; omega))) kk (fun T19 hT19 kk => ?_)
    refine fr_jn (Q := (Fr (W_rd_readStep T p0 p1 p2) T)) (J := fun (KJ2 : Int32 → St) (OJ2 : Int32 → Prop) => ∀ (j2_s2 : Int32), OJ2 j2_s2 → (Fr (W_rd_readStep T p0 p1 p2) T) (KJ2 j2_s2)) kk (fun j2_s2 kk => ?_) (fun KJ2 OJ2 hJ2 kk => ?_)
    · skip
      obtain ⟨q28, kk⟩ := kk
      refine fr_n (Q := (Fr (W_rd_readStep T p0 p1 p2) T)) kk (fun i20 kk => ?_)
      refine fr_if (Q := (Fr (W_rd_readStep T p0 p1 p2) T)) (fun c137_15 => ?_) (fun c137_15 => ?_)
      · have kk := kk.1 c137_15
        obtain ⟨q30, kk⟩ := kk
        refine fr_nT (Q := (Fr (W_rd_readStep T p0 p1 p2) T)) (fr_tr (fr_sA (fr_tr hT19 (frp_o (fr_rd_takeNumber 0 j2_s2 q28)) (fun c h => hW c (by unfold W_rd_takeNumber at h; unfold W_rd_readStep; omega))) (hW _ (by unfold W_rd_readStep; omega))) (frp_o (fr_rd_takeNumber i20 9 q30)) (fun c h => hW c (by unfold W_rd_takeNumber at h; unfold W_rd_readStep; omega))) kk (fun T22 hT22 kk => ?_)
        refine fr_nT (Q := (Fr (W_rd_readStep T p0 p1 p2) T)) (fr_sA hT22 (hW _ (by unfold W_rd_readStep; omega))) kk (fun T23 hT23 kk => ?_)
        obtain ⟨q31, kk⟩ := kk
        exact (fr_tr hT23 ((fr_rd_takeSign  q31)) (fun c h => hW c (by unfold W_rd_takeSign at h; unfold W_rd_readStep; omega)))
      · have kk := kk.2 c137_15
        refine fr_nT (Q := (Fr (W_rd_readStep T p0 p1 p2) T)) (fr_sA (fr_sA (fr_tr hT19 (frp_o (fr_rd_takeNumber 0 j2_s2 q28)) (fun c h => hW c (by unfold W_rd_takeNumber at h; unfold W_rd_readStep; omega))) (hW _ (by unfold W_rd_readStep; omega))) (hW _ (by unfold W_rd_readStep; omega))) kk (fun T21 hT21 kk => ?_)
        obtain ⟨q29, kk⟩ := kk
        exact (fr_tr hT21 ((fr_rd_takeSign  q29)) (fun c h => hW c (by unfold W_rd_takeSign at h; unfold W_rd_readStep; omega)))
    · skip
      refine fr_if (Q := (Fr (W_rd_readStep T p0 p1 p2) T)) (fun c103_16 => ?_) (fun c103_16 => ?_)
      · have kk := kk.1 c103_16
        exact hJ2 1 kk
      · have kk := kk.2 c103_16
        exact hJ2 9 kk
  · skip
    refine fr_if (Q := (Fr (W_rd_readStep T p0 p1 p2) T)) (fun c33_17 => ?_) (fun c33_17 => ?_)
    · have kk := kk.1 c33_17
      exact hJ1  kk
    · have kk := kk.2 c33_17
      refine fr_if (Q := (Fr (W_rd_readStep T p0 p1 p2) T)) (fun c38_18 => ?_) (fun c38_18 => ?_)
      · have kk := kk.1 c38_18
        exact hJ1  kk
      · have kk := kk.2 c38_18
        refine fr_jn (Q := (Fr (W_rd_readStep T p0 p1 p2) T)) (J := fun (KJ3 : Int32 → St) (OJ3 : Int32 → Prop) => ∀ (j3_s2 : Int32), OJ3 j3_s2 → (Fr (W_rd_readStep T p0 p1 p2) T) (KJ3 j3_s2)) kk (fun j3_s2 kk => ?_) (fun KJ3 OJ3 hJ3 kk => ?_)
        · skip
          refine fr_jn (Q := (Fr (W_rd_readStep T p0 p1 p2) T)) (J := fun (KJ4 : Int32 → St) (OJ4 : Int32 → Prop) => ∀ (j4_s0 : Int32), OJ4 j4_s0 → (Fr (W_rd_readStep T p0 p1 p2) T) (KJ4 j4_s0)) kk (fun j4_s0 kk => ?_) (fun KJ4 OJ4 hJ4 kk => ?_)
          · skip
            refine fr_jn (Q := (Fr (W_rd_readStep T p0 p1 p2) T)) (J := fun (KJ5 : Int32 → St → St) (OJ5 : Int32 → St → Prop) => ∀ (j5_s0 : Int32) (T305 : St), Fr (W_rd_readStep T p0 p1 p2) T T305 → OJ5 j5_s0 T305 → (Fr (W_rd_readStep T p0 p1 p2) T) (KJ5 j5_s0 T305)) kk (fun j5_s0 T305 hT305 kk => ?_) (fun KJ5 OJ5 hJ5 kk => ?_)
            · skip
              refine fr_if (Q := (Fr (W_rd_readStep T p0 p1 p2) T)) (fun c137_23 => ?_) (fun c137_23 => ?_)
              · have kk := kk.1 c137_23
                obtain ⟨q35, kk⟩ := kk
                refine fr_nT (Q := (Fr (W_rd_readStep T p0 p1 p2) T)) (fr_sA (fr_tr (fr_sA hT305 (hW _ (by unfold W_rd_readStep; omega))) (frp_o (fr_rd_takeNumber j5_s0 9 q35)) (fun c h => hW c (by unfold W_rd_takeNumber at h; unfold W_rd_readStep; omega))) (hW _ (by unfold W_rd_readStep; omega))) kk (fun T25 hT25 kk => ?_)
                obtain ⟨q36, kk⟩ := kk
                exact (fr_tr hT25 ((fr_rd_takeSign  q36)) (fun c h => hW c (by unfold W_rd_takeSign at h; unfold W_rd_readStep; omega)))
              · have kk := kk.2 c137_23
                refine fr_nT (Q := (Fr (W_rd_readStep T p0 p1 p2) T)) (fr_sA (fr_sA hT305 (hW _ (by unfold W_rd_readStep; omega))) (hW _ (by unfold W_rd_readStep; omega))) kk (fun T24 hT24 kk => ?_)
                obtain ⟨q34, kk⟩ := kk
                exact (fr_tr hT24 ((fr_rd_takeSign  q34)) (fun c h => hW c (by unfold W_rd_takeSign at h; unfold W_rd_readStep; omega)))
            · skip
              refine fr_if (Q := (Fr (W_rd_readStep T p0 p1 p2) T)) (fun c97_24 => ?_) (fun c97_24 => ?_)
              · have kk := kk.1 c97_24
                exact hJ5 (-1000000) (sA T2 (p0 + 12) (p1 : Int32).toNatClampNeg j3_s2) (fr_sA hT2 (hW _ (by unfold W_rd_readStep; omega))) kk
              · have kk := kk.2 c97_24
                refine fr_if (Q := (Fr (W_rd_readStep T p0 p1 p2) T)) (fun c103_25 => ?_) (fun c103_25 => ?_)
                · have kk := kk.1 c103_25
                  obtain ⟨q38, kk⟩ := kk
                  exact hJ5 ((x_rd_takeNumber (sA T2 (p0 + 12) (p1 : Int32).toNatClampNeg j3_s2) 0 1).1) ((x_rd_takeNumber (sA T2 (p0 + 12) (p1 : Int32).toNatClampNeg j3_s2) 0 1).2) (fr_tr (fr_sA hT2 (hW _ (by unfold W_rd_readStep; omega))) (frp_o (fr_rd_takeNumber 0 1 q38)) (fun c h => hW c (by unfold W_rd_takeNumber at h; unfold W_rd_readStep; omega))) kk
                · have kk := kk.2 c103_25
                  obtain ⟨q37, kk⟩ := kk
                  exact hJ5 ((x_rd_takeNumber (sA T2 (p0 + 12) (p1 : Int32).toNatClampNeg j3_s2) 0 9).1) ((x_rd_takeNumber (sA T2 (p0 + 12) (p1 : Int32).toNatClampNeg j3_s2) 0 9).2) (fr_tr (fr_sA hT2 (hW _ (by unfold W_rd_readStep; omega))) (frp_o (fr_rd_takeNumber 0 9 q37)) (fun c h => hW c (by unfold W_rd_takeNumber at h; unfold W_rd_readStep; omega))) kk
          · skip
            refine fr_if (Q := (Fr (W_rd_readStep T p0 p1 p2) T)) (fun c85_26 => ?_) (fun c85_26 => ?_)
            · have kk := kk.1 c85_26
              exact hJ4 1 kk
            · have kk := kk.2 c85_26
              exact hJ4 0 kk
        · skip
          refine fr_if (Q := (Fr (W_rd_readStep T p0 p1 p2) T)) (fun c69_27 => ?_) (fun c69_27 => ?_)
          · have kk := kk.1 c69_27
            exact hJ3 2 kk
          · have kk := kk.2 c69_27
            exact hJ3 0 kk
