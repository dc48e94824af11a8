def WL_jd_judged_3 (l1 : Nat) (l2 : Nat) (l3 : Nat) (l4 : Int32) : Nat → Prop := fun c => c < 0
theorem fr_jd_judged_3 {W : Nat → Prop} {T0 : St} (l1 : Nat) (l2 : Nat) (l3 : Nat) (l4 : Int32) {K : Int32 → St → Int32 × St} {Kk : Int32 → St → Prop} (hW : ∀ c, WL_jd_judged_3 l1 l2 l3 l4 c → W c) (hk : ∀ (v5 : Int32) (T : St), Fr W T0 T → Kk v5 T → (FrP W T0) (K v5 T)) : ∀ (f : Nat) (v5 : Int32) (T : St), Fr W T0 T → ok_jd_judged_3 l1 l2 l3 l4 Kk f v5 T → (FrP W T0) (x_jd_judged_3 l1 l2 l3 l4 K f v5 T) := by
  intro f
  induction f with
  | zero => intro v5 T hT kk; exact kk.elim
  | succ f ih =>
    intro v5 T hT kk
    rw [ok_jd_judged_3] at kk
    rw [x_jd_judged_3]
    obtain ⟨q1, kk⟩ := kk
    refine fr_if (Q := (FrP W T0)) (fun c9_1 => ?_) (fun c9_1 => ?_)
    · have kk := kk.1 c9_1
      exact hk v5 T hT kk
    · have kk := kk.2 c9_1
      obtain ⟨q2, kk⟩ := kk
      have gq2 := in_lt q2
      refine fr_jn0 (Q := (FrP W T0)) (J := fun (KJ1 : Int32 × St) => (FrP W T0) (KJ1)) (?_) (fun KJ1 hJ1 => ?_)
      · skip
        exact frp_i hT
      · skip
        refine fr_if (Q := (FrP W T0)) (fun c19_4 => ?_) (fun c19_4 => ?_)
        · exact hJ1 
        · have kk := kk c19_4
          refine fr_if (Q := (FrP W T0)) (fun c39_5 => ?_) (fun c39_5 => ?_)
          · have kk := kk c39_5
            exact ih (v5 + 1) T hT kk
          · exact hJ1 
def WL_jd_judged_59 (l1 : Nat) (l2 : Nat) (l3 : Nat) (l4 : Int32) : Nat → Prop := fun c => c < 0
theorem fr_jd_judged_59 {W : Nat → Prop} {T0 : St} (l1 : Nat) (l2 : Nat) (l3 : Nat) (l4 : Int32) {K : Int32 → St → Int32 × St} {Kk : Int32 → St → Prop} (hW : ∀ c, WL_jd_judged_59 l1 l2 l3 l4 c → W c) (hk : ∀ (v5 : Int32) (T : St), Fr W T0 T → Kk v5 T → (FrP W T0) (K v5 T)) : ∀ (f : Nat) (v5 : Int32) (T : St), Fr W T0 T → ok_jd_judged_59 l1 l2 l3 l4 Kk f v5 T → (FrP W T0) (x_jd_judged_59 l1 l2 l3 l4 K f v5 T) := by
  intro f
  induction f with
  | zero => intro v5 T hT kk; exact kk.elim
  | succ f ih =>
    intro v5 T hT kk
    rw [ok_jd_judged_59] at kk
    rw [x_jd_judged_59]
    obtain ⟨q3, kk⟩ := kk
    refine fr_if (Q := (FrP W T0)) (fun c65_6 => ?_) (fun c65_6 => ?_)
    · have kk := kk.1 c65_6
      exact hk v5 T hT kk
    · have kk := kk.2 c65_6
      obtain ⟨q4, kk⟩ := kk
      refine fr_if (Q := (FrP W T0)) (fun c74_7 => ?_) (fun c74_7 => ?_)
      · have kk := kk.1 c74_7
        obtain ⟨q5, kk⟩ := kk
        refine fr_if (Q := (FrP W T0)) (fun c85_8 => ?_) (fun c85_8 => ?_)
        · exact frp_i hT
        · have kk := kk c85_8
          exact ih (v5 + 1) T hT kk
      · have kk := kk.2 c74_7
        exact ih (v5 + 1) T hT kk
def WL_jd_judged_105 (l1 : Nat) (l2 : Nat) (l3 : Nat) (l4 : Int32) : Nat → Prop := fun c => c < 0
theorem fr_jd_judged_105 {W : Nat → Prop} {T0 : St} (l1 : Nat) (l2 : Nat) (l3 : Nat) (l4 : Int32) {K : Int32 → St → Int32 × St} {Kk : Int32 → St → Prop} (hW : ∀ c, WL_jd_judged_105 l1 l2 l3 l4 c → W c) (hk : ∀ (v5 : Int32) (T : St), Fr W T0 T → Kk v5 T → (FrP W T0) (K v5 T)) : ∀ (f : Nat) (v5 : Int32) (T : St), Fr W T0 T → ok_jd_judged_105 l1 l2 l3 l4 Kk f v5 T → (FrP W T0) (x_jd_judged_105 l1 l2 l3 l4 K f v5 T) := by
  intro f
  induction f with
  | zero => intro v5 T hT kk; exact kk.elim
  | succ f ih =>
    intro v5 T hT kk
    rw [ok_jd_judged_105] at kk
    rw [x_jd_judged_105]
    obtain ⟨q6, kk⟩ := kk
    refine fr_if (Q := (FrP W T0)) (fun c111_9 => ?_) (fun c111_9 => ?_)
    · have kk := kk.1 c111_9
      exact hk v5 T hT kk
    · have kk := kk.2 c111_9
      obtain ⟨q7, kk⟩ := kk
      have gq7 := in_lt q7
      refine fr_n (Q := (FrP W T0)) kk (fun i1 kk => ?_)
      refine fr_jn (Q := (FrP W T0)) (J := fun (KJ2 : Int32 × St) (OJ2 : Prop) => OJ2 → (FrP W T0) (KJ2)) kk (fun  kk => ?_) (fun KJ2 OJ2 hJ2 kk => ?_)
      · skip
        obtain ⟨q12, kk⟩ := kk
        refine fr_if (Q := (FrP W T0)) (fun c174_13 => ?_) (fun c174_13 => ?_)
        · have kk := kk c174_13
          exact ih (v5 + 1) T hT kk
        · exact frp_i hT
      · skip
        refine fr_if (Q := (FrP W T0)) (fun c136_14 => ?_) (fun c136_14 => ?_)
        · have kk := kk.1 c136_14
          exact hJ2  kk
        · have kk := kk.2 c136_14
          obtain ⟨q13, kk⟩ := kk
          obtain ⟨q14, kk⟩ := kk
          have gq14 := in_lt q14
          obtain ⟨q15, kk⟩ := kk
          have gq15 := in_lt q15
          refine fr_if (Q := (FrP W T0)) (fun c158_15 => ?_) (fun c158_15 => ?_)
          · have kk := kk.1 c158_15
            exact hJ2  kk
          · have kk := kk.2 c158_15
            obtain ⟨q16, kk⟩ := kk
            refine fr_if (Q := (FrP W T0)) (fun c174_16 => ?_) (fun c174_16 => ?_)
            · have kk := kk.1 c174_16
              exact ih (v5 + 1) T hT kk
            · have kk := kk.2 c174_16
              exact ih (v5 + 1) T hT kk
def W_jd_judged (T : St) (p0 : Nat) (p1 : Nat) (p2 : Nat) (p3 : Int32) : Nat → Prop := fun c => (529 ≤ c ∧ c < 531) ∨ (534 ≤ c ∧ c < 555) ∨ (63900 ≤ c ∧ c < 65500)
theorem fr_jd_judged {T : St} (p0 : Nat) (p1 : Nat) (p2 : Nat) (p3 : Int32) (kk : ok_jd_judged T p0 p1 p2 p3) : FrP (W_jd_judged T p0 p1 p2 p3) T (x_jd_judged T p0 p1 p2 p3) := by
  unfold ok_jd_judged at kk
  have hW : ∀ c, W_jd_judged T p0 p1 p2 p3 c → W_jd_judged T p0 p1 p2 p3 c := fun _ h => h
  have hT : Fr (W_jd_judged T p0 p1 p2 p3) T T := fr_rfl
  unfold x_jd_judged
  refine fr_jd_judged_3 p0 p1 p2 p3 (fun c h => hW c (by unfold WL_jd_judged_3 at h; unfold W_jd_judged; omega)) (fun w1_5 T201 hT201 kk => ?_) 1000 0 T hT kk
  refine fr_jd_judged_59 p0 p1 p2 p3 (fun c h => hW c (by unfold WL_jd_judged_59 at h; unfold W_jd_judged; omega)) (fun w2_5 T202 hT202 kk => ?_) 1000 0 T201 hT201 kk
  refine fr_jd_judged_105 p0 p1 p2 p3 (fun c h => hW c (by unfold WL_jd_judged_105 at h; unfold W_jd_judged; omega)) (fun w3_5 T203 hT203 kk => ?_) 1000 0 T202 hT202 kk
  obtain ⟨q17, kk⟩ := kk
  exact frp_i (fr_tr hT203 (frp_o (fr_jd_firstLack p0 p1 p2 q17)) (fun c h => hW c (by unfold W_jd_firstLack at h; unfold W_jd_judged; omega)))
def WL_pl_lay_26 (l1 : Nat) (l2 : Nat) (l3 : Int32) (l4 : Int32) : Nat → Prop := fun c => (82 ≤ c ∧ c < 83) ∨ (123 ≤ c ∧ c < 507) ∨ (22300 ≤ c ∧ c < 60700)
theorem fr_pl_lay_26 {W : Nat → Prop} {T0 : St} (l1 : Nat) (l2 : Nat) (l3 : Int32) (l4 : Int32) {K : Int32 → St → St} {Kk : Int32 → St → Prop} (hW : ∀ c, WL_pl_lay_26 l1 l2 l3 l4 c → W c) (hk : ∀ (v5 : Int32) (T : St), Fr W T0 T → Kk v5 T → (Fr W T0) (K v5 T)) : ∀ (f : Nat) (v5 : Int32) (T : St), Fr W T0 T → ok_pl_lay_26 l1 l2 l3 l4 Kk f v5 T → (Fr W T0) (x_pl_lay_26 l1 l2 l3 l4 K f v5 T) := by
  intro f
  induction f with
  | zero => intro v5 T hT kk; exact kk.elim
  | succ f ih =>
    intro v5 T hT kk
    rw [ok_pl_lay_26] at kk
    rw [x_pl_lay_26]
    have z0 : (0 : Int32).toNatClampNeg = 0 := rfl
    obtain ⟨q2, kk⟩ := kk
    refine fr_if (Q := (Fr W T0)) (fun c35_1 => ?_) (fun c35_1 => ?_)
    · have kk := kk.1 c35_1
      exact hk v5 T hT kk
    · have kk := kk.2 c35_1
      refine fr_if (Q := (Fr W T0)) (fun c44_2 => ?_) (fun c44_2 => ?_)
      · have kk := kk.1 c44_2
        exact ih (v5 + 1) T hT kk
      · have kk := kk.2 c44_2
        obtain ⟨q3, kk⟩ := kk
        exact ih (v5 + 1) (x_pl_layDish T v5 l4) (fr_tr hT ((fr_pl_layDish v5 l4 q3)) (fun c h => hW c (by unfold W_pl_layDish at h; unfold WL_pl_lay_26; omega))) kk
def W_pl_lay (T : St) (p0 : Nat) (p1 : Nat) (p2 : Int32) (p3 : Int32) : Nat → Prop := fun c => (82 ≤ c ∧ c < 83) ∨ (123 ≤ c ∧ c < 527) ∨ (22300 ≤ c ∧ c < 60700) ∨ c = 5002 ∨ c = 5003
theorem fr_pl_lay {T : St} (p0 : Nat) (p1 : Nat) (p2 : Int32) (p3 : Int32) (kk : ok_pl_lay T p0 p1 p2 p3) : Fr (W_pl_lay T p0 p1 p2 p3) T (x_pl_lay T p0 p1 p2 p3) := by
  unfold ok_pl_lay at kk
  have hW : ∀ c, W_pl_lay T p0 p1 p2 p3 c → W_pl_lay T p0 p1 p2 p3 c := fun _ h => h
  have hT : Fr (W_pl_lay T p0 p1 p2 p3) T T := fr_rfl
  unfold x_pl_lay
  have z0 : (0 : Int32).toNatClampNeg = 0 := rfl
  obtain ⟨q1, kk⟩ := kk
  refine fr_nT (Q := (Fr (W_pl_lay T p0 p1 p2 p3) T)) (fr_tr (fr_sR (fr_sR hT (hW _ (by unfold W_pl_lay; omega))) (hW _ (by unfold W_pl_lay; omega))) ((fr_ta_open (507 + 5 * (0 : Int32).toNatClampNeg) ((sR (sR T 2 p0) 3 p1).2.1 3) q1)) (fun c h => hW c (by unfold W_ta_open at h; unfold W_pl_lay; omega))) kk (fun T1 hT1 kk => ?_)
  refine fr_pl_lay_26 p0 p1 p2 p3 (fun c h => hW c (by unfold WL_pl_lay_26 at h; unfold W_pl_lay; omega)) (fun w1_5 T201 hT201 kk => ?_) 1000 0 T1 hT1 kk
  exact hT201
def WL_rd_readSteps_2 (l1 : Nat) : Nat → Prop := fun c => (11302 ≤ c ∧ c < 11307) ∨ (l1 + 9 ≤ c ∧ c < l1 + 15) ∨ (10000 + 100 * l1 ≤ c ∧ c < 10000 + 100 * l1 + 100)
theorem fr_rd_readSteps_2 {W : Nat → Prop} {T0 : St} (l1 : Nat) {K : Int32 → St → St} {Kk : Int32 → St → Prop} (hW : ∀ c, WL_rd_readSteps_2 l1 c → W c) (hk : ∀ (v2 : Int32) (T : St), Fr W T0 T → Kk v2 T → (Fr W T0) (K v2 T)) : ∀ (f : Nat) (v2 : Int32) (T : St), Fr W T0 T → ok_rd_readSteps_2 l1 Kk f v2 T → (Fr W T0) (x_rd_readSteps_2 l1 K f v2 T) := by
  intro f
  induction f with
  | zero => intro v2 T hT kk; exact kk.elim
  | succ f ih =>
    intro v2 T hT kk
    rw [ok_rd_readSteps_2] at kk
    rw [x_rd_readSteps_2]
    refine fr_if (Q := (Fr W T0)) (fun c4_1 => ?_) (fun c4_1 => ?_)
    · have kk := kk.1 c4_1
      exact hk v2 T hT kk
    · have kk := kk.2 c4_1
      refine fr_if (Q := (Fr W T0)) (fun c11_2 => ?_) (fun c11_2 => ?_)
      · have kk := kk.1 c11_2
        obtain ⟨q1, kk⟩ := kk
        refine fr_if (Q := (Fr W T0)) (fun c21_3 => ?_) (fun c21_3 => ?_)
        · refine fr_if (Q := (Fr W T0)) (fun c25_6 => ?_) (fun c25_6 => ?_)
          · exact (fr_sF hT (hW _ (by unfold WL_rd_readSteps_2; omega)))
          · exact hT
        · have kk := kk c21_3
          refine fr_if (Q := (Fr W T0)) (fun c36_4 => ?_) (fun c36_4 => ?_)
          · exact (fr_sF hT (hW _ (by unfold WL_rd_readSteps_2; omega)))
          · have kk := kk c36_4
            obtain ⟨q2, kk⟩ := kk
            refine fr_if (Q := (Fr W T0)) (fun c45_5 => ?_) (fun c45_5 => ?_)
            · have kk := kk c45_5
              obtain ⟨q3, kk⟩ := kk
              obtain ⟨q4, kk⟩ := kk
              refine fr_nT (Q := (Fr W T0)) (fr_sF (fr_tr (fr_tr hT ((fr_rd_advance  q3)) (fun c h => hW c (by unfold W_rd_advance at h; unfold WL_rd_readSteps_2; omega))) ((fr_rd_readStep l1 ((x_rd_advance T).1 l1 10) (x_rd_stepWord T) q4)) (fun c h => hW c (by unfold W_rd_readStep at h; unfold WL_rd_readSteps_2; omega))) (hW _ (by unfold WL_rd_readSteps_2; omega))) kk (fun T1 hT1 kk => ?_)
              exact ih (v2 + 1) T1 hT1 kk
            · exact (fr_sF hT (hW _ (by unfold WL_rd_readSteps_2; omega)))
      · have kk := kk.2 c11_2
        exact hk v2 T hT kk
def W_rd_readSteps (T : St) (p0 : Nat) : Nat → Prop := fun c => (11302 ≤ c ∧ c < 11307) ∨ (p0 + 9 ≤ c ∧ c < p0 + 15) ∨ (10000 + 100 * p0 ≤ c ∧ c < 10000 + 100 * p0 + 100)
theorem fr_rd_readSteps {T : St} (p0 : Nat) (kk : ok_rd_readSteps T p0) : Fr (W_rd_readSteps T p0) T (x_rd_readSteps T p0) := by
  unfold ok_rd_readSteps at kk
  have hW : ∀ c, W_rd_readSteps T p0 c → W_rd_readSteps T p0 c := fun _ h => h
  have hT : Fr (W_rd_readSteps T p0) T T := fr_rfl
  unfold x_rd_readSteps
  refine fr_rd_readSteps_2 p0 (fun c h => hW c (by unfold WL_rd_readSteps_2 at h; unfold W_rd_readSteps; omega)) (fun w1_2 T201 hT201 kk => ?_) 1000 0 T hT kk
  exact hT201
def W_x_judge (T : St) (p0 : Int32) (p1 : Int32) (p2 : Int32) : Nat → Prop := fun c => (529 ≤ c ∧ c < 531) ∨ (534 ≤ c ∧ c < 555) ∨ (565 ≤ c ∧ c < 566) ∨ (567 ≤ c ∧ c < 571) ∨ (10012 ≤ c ∧ c < 10013) ∨ (63900 ≤ c ∧ c < 65500) ∨ (66400 ≤ c ∧ c < 66500)
theorem fr_x_judge {T : St} (p0 : Int32) (p1 : Int32) (p2 : Int32) (kk : ok_x_judge T p0 p1 p2) : FrP (W_x_judge T p0 p1 p2) T (x_x_judge T p0 p1 p2) := by
  unfold ok_x_judge at kk
  have hW : ∀ c, W_x_judge T p0 p1 p2 c → W_x_judge T p0 p1 p2 c := fun _ h => h
  have hT : Fr (W_x_judge T p0 p1 p2) T T := fr_rfl
  unfold x_x_judge
  refine fr_jn (Q := (FrP (W_x_judge T p0 p1 p2) T)) (J := fun (KJ1 : Int32 × St) (OJ1 : Prop) => OJ1 → (FrP (W_x_judge T p0 p1 p2) T) (KJ1)) kk (fun  kk => ?_) (fun KJ1 OJ1 hJ1 kk => ?_)
  · skip
    obtain ⟨q8, kk⟩ := kk
    refine fr_if (Q := (FrP (W_x_judge T p0 p1 p2) T)) (fun c31_6 => ?_) (fun c31_6 => ?_)
    · have kk := kk c31_6
      obtain ⟨q9, kk⟩ := kk
      refine fr_if (Q := (FrP (W_x_judge T p0 p1 p2) T)) (fun c45_7 => ?_) (fun c45_7 => ?_)
      · have kk := kk c45_7
        obtain ⟨q10, kk⟩ := kk
        obtain ⟨q11, kk⟩ := kk
        refine fr_if (Q := (FrP (W_x_judge T p0 p1 p2) T)) (fun c81_8 => ?_) (fun c81_8 => ?_)
        · exact frp_i (fr_tr (fr_tr hT ((fr_ro_fill 564 (T.2.1 0) q10)) (fun c h => hW c (by unfold W_ro_fill at h; unfold W_x_judge; omega))) (frp_o (fr_x_found 2)) (fun c h => hW c (by unfold W_x_found at h; unfold W_x_judge; omega)))
        · have kk := kk c81_8
          obtain ⟨q12, kk⟩ := kk
          have gq12 := in_lt q12
          obtain ⟨q13, kk⟩ := kk
          refine fr_nT (Q := (FrP (W_x_judge T p0 p1 p2) T)) (fr_sAr (fr_tr hT ((fr_ro_fill 564 (T.2.1 0) q10)) (fun c h => hW c (by unfold W_ro_fill at h; unfold W_x_judge; omega))) (hW _ (by unfold W_x_judge; omega))) kk (fun T2 hT2 kk => ?_)
          obtain ⟨q14, kk⟩ := kk
          exact frp_i (fr_tr (fr_tr hT2 (frp_o (fr_jd_judged (T2.2.1 0) 76 564 p2 q14)) (fun c h => hW c (by unfold W_jd_judged at h; unfold W_x_judge; omega))) (frp_o (fr_x_fine ((x_jd_judged T2 (T2.2.1 0) 76 564 p2).1))) (fun c h => hW c (by unfold W_x_fine at h; unfold W_x_judge; omega)))
      · exact frp_i (fr_tr hT (frp_o (fr_x_found 1)) (fun c h => hW c (by unfold W_x_found at h; unfold W_x_judge; omega)))
    · exact frp_i hT
  · skip
    refine fr_if (Q := (FrP (W_x_judge T p0 p1 p2) T)) (fun c9_9 => ?_) (fun c9_9 => ?_)
    · have kk := kk.1 c9_9
      exact hJ1  kk
    · have kk := kk.2 c9_9
      refine fr_if (Q := (FrP (W_x_judge T p0 p1 p2) T)) (fun c16_10 => ?_) (fun c16_10 => ?_)
      · have kk := kk.1 c16_10
        exact hJ1  kk
      · have kk := kk.2 c16_10
        obtain ⟨q15, kk⟩ := kk
        refine fr_if (Q := (FrP (W_x_judge T p0 p1 p2) T)) (fun c31_11 => ?_) (fun c31_11 => ?_)
        · have kk := kk c31_11
          obtain ⟨q16, kk⟩ := kk
          refine fr_if (Q := (FrP (W_x_judge T p0 p1 p2) T)) (fun c45_12 => ?_) (fun c45_12 => ?_)
          · have kk := kk c45_12
            obtain ⟨q17, kk⟩ := kk
            obtain ⟨q18, kk⟩ := kk
            refine fr_if (Q := (FrP (W_x_judge T p0 p1 p2) T)) (fun c81_13 => ?_) (fun c81_13 => ?_)
            · exact frp_i (fr_tr (fr_tr hT ((fr_ro_fill 564 (T.2.1 0) q17)) (fun c h => hW c (by unfold W_ro_fill at h; unfold W_x_judge; omega))) (frp_o (fr_x_found 2)) (fun c h => hW c (by unfold W_x_found at h; unfold W_x_judge; omega)))
            · have kk := kk c81_13
              obtain ⟨q19, kk⟩ := kk
              have gq19 := in_lt q19
              obtain ⟨q20, kk⟩ := kk
              refine fr_nT (Q := (FrP (W_x_judge T p0 p1 p2) T)) (fr_sAr (fr_tr hT ((fr_ro_fill 564 (T.2.1 0) q17)) (fun c h => hW c (by unfold W_ro_fill at h; unfold W_x_judge; omega))) (hW _ (by unfold W_x_judge; omega))) kk (fun T3 hT3 kk => ?_)
              obtain ⟨q21, kk⟩ := kk
              exact frp_i (fr_tr (fr_tr hT3 (frp_o (fr_jd_judged (T3.2.1 0) 76 564 p2 q21)) (fun c h => hW c (by unfold W_jd_judged at h; unfold W_x_judge; omega))) (frp_o (fr_x_fine ((x_jd_judged T3 (T3.2.1 0) 76 564 p2).1))) (fun c h => hW c (by unfold W_x_fine at h; unfold W_x_judge; omega)))
          · exact frp_i (fr_tr hT (frp_o (fr_x_found 1)) (fun c h => hW c (by unfold W_x_found at h; unfold W_x_judge; omega)))
        · exact frp_i hT
def W_rd_readDish (T : St) (p0 : Nat) : Nat → Prop := fun c => (11302 ≤ c ∧ c < 11307) ∨ (p0 + 4 ≤ c ∧ c < p0 + 15) ∨ (10000 + 100 * p0 ≤ c ∧ c < 10000 + 100 * p0 + 100)
theorem fr_rd_readDish {T : St} (p0 : Nat) (kk : ok_rd_readDish T p0) : Fr (W_rd_readDish T p0) T (x_rd_readDish T p0) := by
  unfold ok_rd_readDish at kk
  have hW : ∀ c, W_rd_readDish T p0 c → W_rd_readDish T p0 c := fun _ h => h
  have hT : Fr (W_rd_readDish T p0) T T := fr_rfl
  unfold x_rd_readDish
  refine fr_jn (Q := (Fr (W_rd_readDish T p0) T)) (J := fun (KJ1 : St → St) (OJ1 : St → Prop) => ∀ (T301 : St), Fr (W_rd_readDish T p0) T T301 → OJ1 T301 → (Fr (W_rd_readDish T p0) T) (KJ1 T301)) kk (fun T301 hT301 kk => ?_) (fun KJ1 OJ1 hJ1 kk => ?_)
  · skip
    obtain ⟨q3, kk⟩ := kk
    refine fr_if (Q := (Fr (W_rd_readDish T p0) T)) (fun c40_4 => ?_) (fun c40_4 => ?_)
    · have kk := kk c40_4
      obtain ⟨q4, kk⟩ := kk
      refine fr_n (Q := (Fr (W_rd_readDish T p0) T)) kk (fun i1 kk => ?_)
      obtain ⟨q5, kk⟩ := kk
      obtain ⟨q6, kk⟩ := kk
      have gq6 := in_lt q6
      refine fr_nT (Q := (Fr (W_rd_readDish T p0) T)) (fr_sA (fr_tr (fr_tr hT301 ((fr_rd_takeWord 2 q3)) (fun c h => hW c (by unfold W_rd_takeWord at h; unfold W_rd_readDish; omega))) (frp_o (fr_rd_takeNumber 0 2 q5)) (fun c h => hW c (by unfold W_rd_takeNumber at h; unfold W_rd_readDish; omega))) (hW _ (by unfold W_rd_readDish; omega))) kk (fun T2 hT2 kk => ?_)
      obtain ⟨q7, kk⟩ := kk
      refine fr_nT (Q := (Fr (W_rd_readDish T p0) T)) (fr_sA (fr_tr hT2 (frp_o (fr_rd_takeNumber 0 9 q7)) (fun c h => hW c (by unfold W_rd_takeNumber at h; unfold W_rd_readDish; omega))) (hW _ (by unfold W_rd_readDish; omega))) kk (fun T3 hT3 kk => ?_)
      obtain ⟨q8, kk⟩ := kk
      refine fr_nT (Q := (Fr (W_rd_readDish T p0) T)) (fr_sA (fr_tr hT3 (frp_o (fr_rd_takeNumber 0 1 q8)) (fun c h => hW c (by unfold W_rd_takeNumber at h; unfold W_rd_readDish; omega))) (hW _ (by unfold W_rd_readDish; omega))) kk (fun T4 hT4 kk => ?_)
      obtain ⟨q9, kk⟩ := kk
      obtain ⟨q10, kk⟩ := kk
      refine fr_nT0 (Q := (Fr (W_rd_readDish T p0) T)) (fr_tr (fr_sA (fr_tr hT4 ((fr_rd_takeSign  q9)) (fun c h => hW c (by unfold W_rd_takeSign at h; unfold W_rd_readDish; omega))) (hW _ (by unfold W_rd_readDish; omega))) ((fr_rd_readSteps p0 q10)) (fun c h => hW c (by unfold W_rd_readSteps at h; unfold W_rd_readDish; omega))) (fun T5 hT5 => ?_)
      refine fr_nT0 (Q := (Fr (W_rd_readDish T p0) T)) (fr_sA hT5 (hW _ (by unfold W_rd_readDish; omega))) (fun T6 hT6 => ?_)
      exact (fr_sF hT6 (hW _ (by unfold W_rd_readDish; omega)))
    · exact (fr_tr hT301 ((fr_rd_takeWord 2 q3)) (fun c h => hW c (by unfold W_rd_takeWord at h; unfold W_rd_readDish; omega)))
  · skip
    refine fr_if (Q := (Fr (W_rd_readDish T p0) T)) (fun c4_5 => ?_) (fun c4_5 => ?_)
    · have kk := kk.1 c4_5
      obtain ⟨q11, kk⟩ := kk
      refine fr_if (Q := (Fr (W_rd_readDish T p0) T)) (fun c13_6 => ?_) (fun c13_6 => ?_)
      · have kk := kk.1 c13_6
        exact hJ1 T hT kk
      · have kk := kk.2 c13_6
        obtain ⟨q12, kk⟩ := kk
        refine fr_if (Q := (Fr (W_rd_readDish T p0) T)) (fun c22_7 => ?_) (fun c22_7 => ?_)
        · have kk := kk.1 c22_7
          exact hJ1 T hT kk
        · have kk := kk.2 c22_7
          exact hJ1 (sF T 13 2 3) (fr_sF hT (hW _ (by unfold W_rd_readDish; omega))) kk
    · have kk := kk.2 c4_5
      exact hJ1 T hT kk
def WL_rd_read_25 (l1 : Nat) : Nat → Prop := fun c => (11302 ≤ c ∧ c < 11307) ∨ (l1 + 2 ≤ c ∧ c < l1 + 4) ∨ (10000 + 100 * l1 ≤ c ∧ c < 10000 + 100 * l1 + 100)
theorem fr_rd_read_25 {W : Nat → Prop} {T0 : St} (l1 : Nat) {K : Int32 → St → St} {Kk : Int32 → St → Prop} (hW : ∀ c, WL_rd_read_25 l1 c → W c) (hk : ∀ (v2 : Int32) (T : St), Fr W T0 T → Kk v2 T → (Fr W T0) (K v2 T)) : ∀ (f : Nat) (v2 : Int32) (T : St), Fr W T0 T → ok_rd_read_25 l1 Kk f v2 T → (Fr W T0) (x_rd_read_25 l1 K f v2 T) := by
  intro f
  induction f with
  | zero => intro v2 T hT kk; exact kk.elim
  | succ f ih =>
    intro v2 T hT kk
    rw [ok_rd_read_25] at kk
    rw [x_rd_read_25]
    refine fr_if (Q := (Fr W T0)) (fun c27_1 => ?_) (fun c27_1 => ?_)
    · have kk := kk.1 c27_1
      exact hk v2 T hT kk
    · have kk := kk.2 c27_1
      refine fr_if (Q := (Fr W T0)) (fun c34_2 => ?_) (fun c34_2 => ?_)
      · have kk := kk.1 c34_2
        obtain ⟨q5, kk⟩ := kk
        refine fr_if (Q := (Fr W T0)) (fun c43_3 => ?_) (fun c43_3 => ?_)
        · have kk := kk.1 c43_3
          exact hk v2 T hT kk
        · have kk := kk.2 c43_3
          obtain ⟨q6, kk⟩ := kk
          exact ih (v2 + 1) (x_rd_readAway T l1) (fr_tr hT ((fr_rd_readAway l1 q6)) (fun c h => hW c (by unfold W_rd_readAway at h; unfold WL_rd_read_25; omega))) kk
      · have kk := kk.2 c34_2
        exact hk v2 T hT kk
def WL_rd_read_64 (l1 : Nat) : Nat → Prop := fun c => (11302 ≤ c ∧ c < 11307) ∨ (l1 + 4 ≤ c ∧ c < l1 + 15) ∨ (10000 + 100 * l1 ≤ c ∧ c < 10000 + 100 * l1 + 100)
theorem fr_rd_read_64 {W : Nat → Prop} {T0 : St} (l1 : Nat) {K : Int32 → St → St} {Kk : Int32 → St → Prop} (hW : ∀ c, WL_rd_read_64 l1 c → W c) (hk : ∀ (v2 : Int32) (T : St), Fr W T0 T → Kk v2 T → (Fr W T0) (K v2 T)) : ∀ (f : Nat) (v2 : Int32) (T : St), Fr W T0 T → ok_rd_read_64 l1 Kk f v2 T → (Fr W T0) (x_rd_read_64 l1 K f v2 T) := by
  intro f
  induction f with
  | zero => intro v2 T hT kk; exact kk.elim
  | succ f ih =>
    intro v2 T hT kk
    rw [ok_rd_read_64] at kk
    rw [x_rd_read_64]
    refine fr_if (Q := (Fr W T0)) (fun c67_4 => ?_) (fun c67_4 => ?_)
    · have kk := kk.1 c67_4
      exact hk v2 T hT kk
    · have kk := kk.2 c67_4
      refine fr_if (Q := (Fr W T0)) (fun c74_5 => ?_) (fun c74_5 => ?_)
      · have kk := kk.1 c74_5
        refine fr_if (Q := (Fr W T0)) (fun c81_6 => ?_) (fun c81_6 => ?_)
        · have kk := kk.1 c81_6
          exact hk v2 T hT kk
        · have kk := kk.2 c81_6
          obtain ⟨q8, kk⟩ := kk
          exact ih (v2 + 1) (x_rd_readDish T l1) (fr_tr hT ((fr_rd_readDish l1 q8)) (fun c h => hW c (by unfold W_rd_readDish at h; unfold WL_rd_read_64; omega))) kk
      · have kk := kk.2 c74_5
        exact hk v2 T hT kk
def W_rd_read (T : St) (p0 : Nat) : Nat → Prop := fun c => (11301 ≤ c ∧ c < 11307) ∨ (p0 + 1 ≤ c ∧ c < p0 + 15) ∨ (10000 + 100 * p0 ≤ c ∧ c < 10000 + 100 * p0 + 100)
theorem fr_rd_read {T : St} (p0 : Nat) (kk : ok_rd_read T p0) : Fr (W_rd_read T p0) T (x_rd_read T p0) := by
  unfold ok_rd_read at kk
  have hW : ∀ c, W_rd_read T p0 c → W_rd_read T p0 c := fun _ h => h
  have hT : Fr (W_rd_read T p0) T T := fr_rfl
  unfold x_rd_read
  obtain ⟨q1, kk⟩ := kk
  obtain ⟨q2, kk⟩ := kk
  obtain ⟨q3, kk⟩ := kk
  obtain ⟨q4, kk⟩ := kk
  refine fr_rd_read_25 p0 (fun c h => hW c (by unfold WL_rd_read_25 at h; unfold W_rd_read; omega)) (fun w1_2 T201 hT201 kk => ?_) 1000 0 (x_rd_readKitchen (x_rd_advance (sF (sF (x_bk_clear T p0) 13 2 0) 13 4 0)) p0) (fr_tr (fr_tr (fr_sF (fr_sF (fr_tr hT ((fr_bk_clear p0 q1)) (fun c h => hW c (by unfold W_bk_clear at h; unfold W_rd_read; omega))) (hW _ (by unfold W_rd_read; omega))) (hW _ (by unfold W_rd_read; omega))) ((fr_rd_advance  q3)) (fun c h => hW c (by unfold W_rd_advance at h; unfold W_rd_read; omega))) ((fr_rd_readKitchen p0 q4)) (fun c h => hW c (by unfold W_rd_readKitchen at h; unfold W_rd_read; omega))) kk
  obtain ⟨q7, kk⟩ := kk
  refine fr_rd_read_64 p0 (fun c h => hW c (by unfold WL_rd_read_64 at h; unfold W_rd_read; omega)) (fun w2_2 T202 hT202 kk => ?_) 1000 0 (x_rd_readDish T201 p0) (fr_tr hT201 ((fr_rd_readDish p0 q7)) (fun c h => hW c (by unfold W_rd_readDish at h; unfold W_rd_read; omega))) kk
  exact (fr_sF hT202 (hW _ (by unfold W_rd_read; omega)))
def W_x_book (T : St)  : Nat → Prop := fun c => (77 ≤ c ∧ c < 78) ∨ (10013 ≤ c ∧ c < 10015) ∨ (10016 ≤ c ∧ c < 10017) ∨ (11301 ≤ c ∧ c < 11307) ∨ ((T.2.1 1) + 1 ≤ c ∧ c < (T.2.1 1) + 15) ∨ (10000 + 100 * (T.2.1 1) ≤ c ∧ c < 10000 + 100 * (T.2.1 1) + 100) ∨ c = 5000 ∨ c = 5001
theorem fr_x_book {T : St}  (kk : ok_x_book T ) : FrP (W_x_book T ) T (x_x_book T ) := by
  unfold ok_x_book at kk
  have hW : ∀ c, W_x_book T  c → W_x_book T  c := fun _ h => h
  have hT : Fr (W_x_book T ) T T := fr_rfl
  unfold x_x_book
  obtain ⟨q1, kk⟩ := kk
  refine fr_if (Q := (FrP (W_x_book T ) T)) (fun c18_1 => ?_) (fun c18_1 => ?_)
  · have kk := kk c18_1
    refine fr_nN (Q := (FrP (W_x_book T ) T)) kk (fun r1 er1 kk => ?_)
    obtain ⟨q2, kk⟩ := kk
    obtain ⟨q3, kk⟩ := kk
    exact frp_i (fr_tr (fr_sR (fr_sR (fr_tr hT ((fr_rd_read (T.2.1 1) q1)) (fun c h => hW c (by unfold W_rd_read at h; unfold W_x_book; omega))) (hW _ (by unfold W_x_book; omega))) (hW _ (by unfold W_x_book; omega))) ((fr_x_changed  q2)) (fun c h => hW c (by unfold W_x_changed at h; unfold W_x_book; omega)))
  · exact frp_i (fr_sF (fr_tr hT ((fr_rd_read (T.2.1 1) q1)) (fun c h => hW c (by unfold W_rd_read at h; unfold W_x_book; omega))) (hW _ (by unfold W_x_book; omega)))
def W_ask_markOf0 (T : St) (p0 : Nat) (p1 : Int32) (p2 : Int32) : Nat → Prop := fun c => (556 ≤ c ∧ c < 557) ∨ (65501 ≤ c ∧ c < 65502)
theorem fr_ask_markOf0 {T : St} (p0 : Nat) (p1 : Int32) (p2 : Int32) (kk : ok_ask_markOf0 T p0 p1 p2) : FrP (W_ask_markOf0 T p0 p1 p2) T (x_ask_markOf0 T p0 p1 p2) := by
  unfold ok_ask_markOf0 at kk
  have hW : ∀ c, W_ask_markOf0 T p0 p1 p2 c → W_ask_markOf0 T p0 p1 p2 c := fun _ h => h
  have hT : Fr (W_ask_markOf0 T p0 p1 p2) T T := fr_rfl
  unfold x_ask_markOf0
  refine fr_if (Q := (FrP (W_ask_markOf0 T p0 p1 p2) T)) (fun c3_1 => ?_) (fun c3_1 => ?_)
  · have kk := kk c3_1
    obtain ⟨q1, kk⟩ := kk
    obtain ⟨q2, kk⟩ := kk
    refine fr_if (Q := (FrP (W_ask_markOf0 T p0 p1 p2) T)) (fun s13_2_0 => ?_) (fun s13_2_0 => ?_)
    · have kk := kk.1 s13_2_0
      obtain ⟨q3, kk⟩ := kk
      obtain ⟨q4, kk⟩ := kk
      exact kk.elim
    · have kk := kk.2 s13_2_0
      refine fr_if (Q := (FrP (W_ask_markOf0 T p0 p1 p2) T)) (fun s13_2_1 => ?_) (fun s13_2_1 => ?_)
      · have kk := kk.1 s13_2_1
        obtain ⟨q5, kk⟩ := kk
        exact frp_i (fr_tr hT (frp_o (fr_ask_markOfRested p1 q5)) (fun c h => hW c (by unfold W_ask_markOfRested at h; unfold W_ask_markOf0; omega)))
      · have kk := kk.2 s13_2_1
        refine fr_if (Q := (FrP (W_ask_markOf0 T p0 p1 p2) T)) (fun s13_2_2 => ?_) (fun s13_2_2 => ?_)
        · have kk := kk.1 s13_2_2
          obtain ⟨q6, kk⟩ := kk
          obtain ⟨q7, kk⟩ := kk
          obtain ⟨q8, kk⟩ := kk
          have gq8 := in_lt q8
          exact frp_i (fr_tr (fr_tr hT ((fr_ask_begin 22 q6)) (fun c h => hW c (by unfold W_ask_begin at h; unfold W_ask_markOf0; omega))) (frp_o (fr_ask_markOfRested p1 q7)) (fun c h => hW c (by unfold W_ask_markOfRested at h; unfold W_ask_markOf0; omega)))
        · have kk := kk.2 s13_2_2
          refine fr_if (Q := (FrP (W_ask_markOf0 T p0 p1 p2) T)) (fun s13_2_3 => ?_) (fun s13_2_3 => ?_)
          · have kk := kk.1 s13_2_3
            obtain ⟨q9, kk⟩ := kk
            obtain ⟨q10, kk⟩ := kk
            exact frp_i (fr_tr (fr_tr hT ((fr_ask_begin 24 q9)) (fun c h => hW c (by unfold W_ask_begin at h; unfold W_ask_markOf0; omega))) (frp_o (fr_ask_markOfAny p1 q10)) (fun c h => hW c (by unfold W_ask_markOfAny at h; unfold W_ask_markOf0; omega)))
          · have kk := kk.2 s13_2_3
            obtain ⟨q11, kk⟩ := kk
            exact frp_i (fr_tr hT (frp_o (fr_ask_markOfAny p1 q11)) (fun c h => hW c (by unfold W_ask_markOfAny at h; unfold W_ask_markOf0; omega)))
  · exact frp_i hT
def W_ask_sizeOf (T : St) (p0 : Nat) (p1 : Int32) (p2 : Int32) : Nat → Prop := fun c => (556 ≤ c ∧ c < 557) ∨ (65501 ≤ c ∧ c < 65502)
theorem fr_ask_sizeOf {T : St} (p0 : Nat) (p1 : Int32) (p2 : Int32) (kk : ok_ask_sizeOf T p0 p1 p2) : FrP (W_ask_sizeOf T p0 p1 p2) T (x_ask_sizeOf T p0 p1 p2) := by
  unfold ok_ask_sizeOf at kk
  have hW : ∀ c, W_ask_sizeOf T p0 p1 p2 c → W_ask_sizeOf T p0 p1 p2 c := fun _ h => h
  have hT : Fr (W_ask_sizeOf T p0 p1 p2) T T := fr_rfl
  unfold x_ask_sizeOf
  refine fr_if (Q := (FrP (W_ask_sizeOf T p0 p1 p2) T)) (fun c3_1 => ?_) (fun c3_1 => ?_)
  · have kk := kk c3_1
    obtain ⟨q1, kk⟩ := kk
    obtain ⟨q2, kk⟩ := kk
    refine fr_if (Q := (FrP (W_ask_sizeOf T p0 p1 p2) T)) (fun s13_2_0 => ?_) (fun s13_2_0 => ?_)
    · have kk := kk.1 s13_2_0
      obtain ⟨q3, kk⟩ := kk
      exact frp_i (fr_tr hT (frp_o (fr_ask_sizeOfRinged p0 p1 q3)) (fun c h => hW c (by unfold W_ask_sizeOfRinged at h; unfold W_ask_sizeOf; omega)))
    · have kk := kk.2 s13_2_0
      refine fr_if (Q := (FrP (W_ask_sizeOf T p0 p1 p2) T)) (fun s13_2_1 => ?_) (fun s13_2_1 => ?_)
      · have kk := kk.1 s13_2_1
        obtain ⟨q4, kk⟩ := kk
        obtain ⟨q5, kk⟩ := kk
        obtain ⟨q6, kk⟩ := kk
        have gq6 := in_lt q6
        exact frp_i (fr_tr (fr_tr hT ((fr_ask_begin 13 q4)) (fun c h => hW c (by unfold W_ask_begin at h; unfold W_ask_sizeOf; omega))) (frp_o (fr_ask_sizeOfAny p0 p1 q5)) (fun c h => hW c (by unfold W_ask_sizeOfAny at h; unfold W_ask_sizeOf; omega)))
      · have kk := kk.2 s13_2_1
        refine fr_if (Q := (FrP (W_ask_sizeOf T p0 p1 p2) T)) (fun s13_2_2 => ?_) (fun s13_2_2 => ?_)
        · have kk := kk.1 s13_2_2
          obtain ⟨q7, kk⟩ := kk
          exact frp_i (fr_tr hT (frp_o (fr_ask_sizeOfAny p0 p1 q7)) (fun c h => hW c (by unfold W_ask_sizeOfAny at h; unfold W_ask_sizeOf; omega)))
        · have kk := kk.2 s13_2_2
          refine fr_if (Q := (FrP (W_ask_sizeOf T p0 p1 p2) T)) (fun s13_2_3 => ?_) (fun s13_2_3 => ?_)
          · have kk := kk.1 s13_2_3
            obtain ⟨q8, kk⟩ := kk
            exact frp_i (fr_tr hT (frp_o (fr_ask_sizeOfAny p0 p1 q8)) (fun c h => hW c (by unfold W_ask_sizeOfAny at h; unfold W_ask_sizeOf; omega)))
          · have kk := kk.2 s13_2_3
            refine fr_if (Q := (FrP (W_ask_sizeOf T p0 p1 p2) T)) (fun s13_2_4 => ?_) (fun s13_2_4 => ?_)
            · have kk := kk.1 s13_2_4
              obtain ⟨q9, kk⟩ := kk
              obtain ⟨q10, kk⟩ := kk
              obtain ⟨q11, kk⟩ := kk
              exact frp_i (fr_tr (fr_tr (fr_tr hT ((fr_ask_begin 14 q9)) (fun c h => hW c (by unfold W_ask_begin at h; unfold W_ask_sizeOf; omega))) (frp_o (fr_ask_sizeOfAny p0 p1 q10)) (fun c h => hW c (by unfold W_ask_sizeOfAny at h; unfold W_ask_sizeOf; omega))) (frp_o (fr_ask_markOf0 p0 p1 (p2 + 1) q11)) (fun c h => hW c (by unfold W_ask_markOf0 at h; unfold W_ask_sizeOf; omega)))
            · have kk := kk.2 s13_2_4
              refine fr_if (Q := (FrP (W_ask_sizeOf T p0 p1 p2) T)) (fun s13_2_5 => ?_) (fun s13_2_5 => ?_)
              · have kk := kk.1 s13_2_5
                obtain ⟨q12, kk⟩ := kk
                obtain ⟨q13, kk⟩ := kk
                exact frp_i (fr_tr (fr_tr hT ((fr_ask_begin 12 q12)) (fun c h => hW c (by unfold W_ask_begin at h; unfold W_ask_sizeOf; omega))) (frp_o (fr_ask_sizeOfRinged p0 p1 q13)) (fun c h => hW c (by unfold W_ask_sizeOfRinged at h; unfold W_ask_sizeOf; omega)))
              · have kk := kk.2 s13_2_5
                obtain ⟨q14, kk⟩ := kk
                exact frp_i (fr_tr hT (frp_o (fr_ask_sizeOfAny p0 p1 q14)) (fun c h => hW c (by unfold W_ask_sizeOfAny at h; unfold W_ask_sizeOf; omega)))
  · exact frp_i hT
def W_ask_markOf (T : St) (p0 : Nat) (p1 : Int32) (p2 : Int32) : Nat → Prop := fun c => (556 ≤ c ∧ c < 557) ∨ (65501 ≤ c ∧ c < 65502)
theorem fr_ask_markOf {T : St} (p0 : Nat) (p1 : Int32) (p2 : Int32) (kk : ok_ask_markOf T p0 p1 p2) : FrP (W_ask_markOf T p0 p1 p2) T (x_ask_markOf T p0 p1 p2) := by
  unfold ok_ask_markOf at kk
  have hW : ∀ c, W_ask_markOf T p0 p1 p2 c → W_ask_markOf T p0 p1 p2 c := fun _ h => h
  have hT : Fr (W_ask_markOf T p0 p1 p2) T T := fr_rfl
  unfold x_ask_markOf
  refine fr_if (Q := (FrP (W_ask_markOf T p0 p1 p2) T)) (fun c3_1 => ?_) (fun c3_1 => ?_)
  · have kk := kk c3_1
    obtain ⟨q1, kk⟩ := kk
    obtain ⟨q2, kk⟩ := kk
    refine fr_if (Q := (FrP (W_ask_markOf T p0 p1 p2) T)) (fun s13_2_0 => ?_) (fun s13_2_0 => ?_)
    · have kk := kk.1 s13_2_0
      obtain ⟨q3, kk⟩ := kk
      obtain ⟨q4, kk⟩ := kk
      obtain ⟨q5, kk⟩ := kk
      exact frp_i (fr_tr (fr_tr (fr_tr hT ((fr_ask_begin 23 q3)) (fun c h => hW c (by unfold W_ask_begin at h; unfold W_ask_markOf; omega))) (frp_o (fr_ask_markOfAny p1 q4)) (fun c h => hW c (by unfold W_ask_markOfAny at h; unfold W_ask_markOf; omega))) (frp_o (fr_ask_sizeOf p0 p1 (p2 + 1) q5)) (fun c h => hW c (by unfold W_ask_sizeOf at h; unfold W_ask_markOf; omega)))
    · have kk := kk.2 s13_2_0
      refine fr_if (Q := (FrP (W_ask_markOf T p0 p1 p2) T)) (fun s13_2_1 => ?_) (fun s13_2_1 => ?_)
      · have kk := kk.1 s13_2_1
        obtain ⟨q6, kk⟩ := kk
        exact frp_i (fr_tr hT (frp_o (fr_ask_markOfRested p1 q6)) (fun c h => hW c (by unfold W_ask_markOfRested at h; unfold W_ask_markOf; omega)))
      · have kk := kk.2 s13_2_1
        refine fr_if (Q := (FrP (W_ask_markOf T p0 p1 p2) T)) (fun s13_2_2 => ?_) (fun s13_2_2 => ?_)
        · have kk := kk.1 s13_2_2
          obtain ⟨q7, kk⟩ := kk
          obtain ⟨q8, kk⟩ := kk
          obtain ⟨q9, kk⟩ := kk
          have gq9 := in_lt q9
          exact frp_i (fr_tr (fr_tr hT ((fr_ask_begin 22 q7)) (fun c h => hW c (by unfold W_ask_begin at h; unfold W_ask_markOf; omega))) (frp_o (fr_ask_markOfRested p1 q8)) (fun c h => hW c (by unfold W_ask_markOfRested at h; unfold W_ask_markOf; omega)))
        · have kk := kk.2 s13_2_2
          refine fr_if (Q := (FrP (W_ask_markOf T p0 p1 p2) T)) (fun s13_2_3 => ?_) (fun s13_2_3 => ?_)
          · have kk := kk.1 s13_2_3
            obtain ⟨q10, kk⟩ := kk
            obtain ⟨q11, kk⟩ := kk
            exact frp_i (fr_tr (fr_tr hT ((fr_ask_begin 24 q10)) (fun c h => hW c (by unfold W_ask_begin at h; unfold W_ask_markOf; omega))) (frp_o (fr_ask_markOfAny p1 q11)) (fun c h => hW c (by unfold W_ask_markOfAny at h; unfold W_ask_markOf; omega)))
          · have kk := kk.2 s13_2_3
            obtain ⟨q12, kk⟩ := kk
            exact frp_i (fr_tr hT (frp_o (fr_ask_markOfAny p1 q12)) (fun c h => hW c (by unfold W_ask_markOfAny at h; unfold W_ask_markOf; omega)))
  · exact frp_i hT
def WL_pl_seek0_27 (l1 : Int32) (l2 : Int32) (l3 : Int32) : Nat → Prop := fun c => (95 ≤ c ∧ c < 96) ∨ (98 ≤ c ∧ c < 99) ∨ (100 ≤ c ∧ c < 105) ∨ (507 ≤ c ∧ c < 527)
theorem fr_pl_seek0_27 {W : Nat → Prop} {T0 : St} (l1 : Int32) (l2 : Int32) (l3 : Int32) {K : Int32 → St → St} {Kk : Int32 → St → Prop} (hW : ∀ c, WL_pl_seek0_27 l1 l2 l3 c → W c) (hk : ∀ (v4 : Int32) (T : St), Fr W T0 T → Kk v4 T → (Fr W T0) (K v4 T)) : ∀ (f : Nat) (v4 : Int32) (T : St), Fr W T0 T → ok_pl_seek0_27 l1 l2 l3 Kk f v4 T → (Fr W T0) (x_pl_seek0_27 l1 l2 l3 K f v4 T) := by
  intro f
  induction f with
  | zero => intro v4 T hT kk; exact kk.elim
  | succ f ih =>
    intro v4 T hT kk
    rw [ok_pl_seek0_27] at kk
    rw [x_pl_seek0_27]
    obtain ⟨q2, kk⟩ := kk
    have gq2 := in_lt q2
    obtain ⟨q3, kk⟩ := kk
    have gq3 := in_lt q3
    refine fr_if (Q := (Fr W T0)) (fun c40_2 => ?_) (fun c40_2 => ?_)
    · have kk := kk.1 c40_2
      exact hk v4 T hT kk
    · have kk := kk.2 c40_2
      obtain ⟨q4, kk⟩ := kk
      have gq4 := in_lt q4
      refine fr_if (Q := (Fr W T0)) (fun c56_3 => ?_) (fun c56_3 => ?_)
      · have kk := kk.1 c56_3
        exact ih (v4 + 1) T hT kk
      · have kk := kk.2 c56_3
        obtain ⟨q5, kk⟩ := kk
        have gq5 := in_lt q5
        refine fr_nN (Q := (Fr W T0)) kk (fun r2 er2 kk => ?_)
        obtain ⟨q6, kk⟩ := kk
        obtain ⟨q7, kk⟩ := kk
        have gq7 := in_lt q7
        refine fr_if (Q := (Fr W T0)) (fun c93_4 => ?_) (fun c93_4 => ?_)
        · have kk := kk.1 c93_4
          exact ih (v4 + 1) T hT kk
        · have kk := kk.2 c93_4
          obtain ⟨q8, kk⟩ := kk
          refine fr_if (Q := (Fr W T0)) (fun c110_5 => ?_) (fun c110_5 => ?_)
          · have kk := kk.1 c110_5
            exact ih (v4 + 1) T hT kk
          · have kk := kk.2 c110_5
            obtain ⟨q9, kk⟩ := kk
            refine fr_if (Q := (Fr W T0)) (fun c122_6 => ?_) (fun c122_6 => ?_)
            · have kk := kk.1 c122_6
              exact ih (v4 + 1) ((x_pl_leavesOpen T l1 (l3 + v4)).2) (fr_tr hT (frp_o (fr_pl_leavesOpen l1 (l3 + v4) q9)) (fun c h => hW c (by unfold W_pl_leavesOpen at h; unfold WL_pl_seek0_27; omega))) kk
            · have kk := kk.2 c122_6
              refine fr_jn (Q := (Fr W T0)) (J := fun (KJ1 : St → St) (OJ1 : St → Prop) => ∀ (T301 : St), Fr W T0 T301 → OJ1 T301 → (Fr W T0) (KJ1 T301)) kk (fun T301 hT301 kk => ?_) (fun KJ1 OJ1 hJ1 kk => ?_)
              · skip
                exact kk.elim
              · skip
                refine fr_if (Q := (Fr W T0)) (fun c142_8 => ?_) (fun c142_8 => ?_)
                · have kk := kk.1 c142_8
                  exact hJ1 (sA ((x_pl_leavesOpen T l1 (l3 + v4)).2) 95 (l1 : Int32).toNatClampNeg (l3 + v4)) (fr_sA (fr_tr hT (frp_o (fr_pl_leavesOpen l1 (l3 + v4) q9)) (fun c h => hW c (by unfold W_pl_leavesOpen at h; unfold WL_pl_seek0_27; omega))) (hW _ (by unfold WL_pl_seek0_27; omega))) kk
                · have kk := kk.2 c142_8
                  obtain ⟨q12, kk⟩ := kk
                  have gq12 := in_lt q12
                  obtain ⟨q13, kk⟩ := kk
                  refine fr_nT (Q := (Fr W T0)) (fr_tr (fr_sA (fr_tr hT (frp_o (fr_pl_leavesOpen l1 (l3 + v4) q9)) (fun c h => hW c (by unfold W_pl_leavesOpen at h; unfold WL_pl_seek0_27; omega))) (hW _ (by unfold WL_pl_seek0_27; omega))) ((fr_ta_add (507 + 5 * (l1 + 1 : Int32).toNatClampNeg) (507 + 5 * (l1 : Int32).toNatClampNeg) (r2 + 3) ((sA ((x_pl_leavesOpen T l1 (l3 + v4)).2) 95 (l1 : Int32).toNatClampNeg (l3 + v4)).2.1 3) q13)) (fun c h => hW c (by unfold W_ta_add at h; unfold WL_pl_seek0_27; omega))) kk (fun T4 hT4 kk => ?_)
                  exact hJ1 T4 hT4 kk
def W_pl_seek0 (T : St) (p0 : Int32) (p1 : Int32) : Nat → Prop := fun c => (95 ≤ c ∧ c < 97) ∨ (98 ≤ c ∧ c < 99) ∨ (100 ≤ c ∧ c < 105) ∨ (507 ≤ c ∧ c < 527) ∨ (18013 ≤ c ∧ c < 18014) ∨ (18017 ≤ c ∧ c < 18018)
theorem fr_pl_seek0 {T : St} (p0 : Int32) (p1 : Int32) (kk : ok_pl_seek0 T p0 p1) : Fr (W_pl_seek0 T p0 p1) T (x_pl_seek0 T p0 p1) := by
  unfold ok_pl_seek0 at kk
  have hW : ∀ c, W_pl_seek0 T p0 p1 c → W_pl_seek0 T p0 p1 c := fun _ h => h
  have hT : Fr (W_pl_seek0 T p0 p1) T T := fr_rfl
  unfold x_pl_seek0
  refine fr_if (Q := (Fr (W_pl_seek0 T p0 p1) T)) (fun c5_1 => ?_) (fun c5_1 => ?_)
  · have kk := kk.1 c5_1
    obtain ⟨q1, kk⟩ := kk
    have gq1 := in_lt q1
    refine fr_n (Q := (Fr (W_pl_seek0 T p0 p1) T)) kk (fun i1 kk => ?_)
    refine fr_pl_seek0_27 p0 p1 i1 (fun c h => hW c (by unfold WL_pl_seek0_27 at h; unfold W_pl_seek0; omega)) (fun w1_4 T201 hT201 kk => ?_) 1000 0 T hT kk
    exact hT201
  · have kk := kk.2 c5_1
    obtain ⟨q14, kk⟩ := kk
    exact (fr_tr hT ((fr_pl_keepPicked p1 q14)) (fun c h => hW c (by unfold W_pl_keepPicked at h; unfold W_pl_seek0; omega)))
def WL_pl_seek1_27 (l1 : Int32) (l2 : Int32) (l3 : Int32) : Nat → Prop := fun c => (95 ≤ c ∧ c < 97) ∨ (98 ≤ c ∧ c < 99) ∨ (100 ≤ c ∧ c < 105) ∨ (507 ≤ c ∧ c < 527) ∨ (18013 ≤ c ∧ c < 18014) ∨ (18017 ≤ c ∧ c < 18018)
theorem fr_pl_seek1_27 {W : Nat → Prop} {T0 : St} (l1 : Int32) (l2 : Int32) (l3 : Int32) {K : Int32 → St → St} {Kk : Int32 → St → Prop} (hW : ∀ c, WL_pl_seek1_27 l1 l2 l3 c → W c) (hk : ∀ (v4 : Int32) (T : St), Fr W T0 T → Kk v4 T → (Fr W T0) (K v4 T)) : ∀ (f : Nat) (v4 : Int32) (T : St), Fr W T0 T → ok_pl_seek1_27 l1 l2 l3 Kk f v4 T → (Fr W T0) (x_pl_seek1_27 l1 l2 l3 K f v4 T) := by
  intro f
  induction f with
  | zero => intro v4 T hT kk; exact kk.elim
  | succ f ih =>
    intro v4 T hT kk
    rw [ok_pl_seek1_27] at kk
    rw [x_pl_seek1_27]
    obtain ⟨q2, kk⟩ := kk
    have gq2 := in_lt q2
    obtain ⟨q3, kk⟩ := kk
    have gq3 := in_lt q3
    refine fr_if (Q := (Fr W T0)) (fun c40_2 => ?_) (fun c40_2 => ?_)
    · have kk := kk.1 c40_2
      exact hk v4 T hT kk
    · have kk := kk.2 c40_2
      obtain ⟨q4, kk⟩ := kk
      have gq4 := in_lt q4
      refine fr_if (Q := (Fr W T0)) (fun c56_3 => ?_) (fun c56_3 => ?_)
      · have kk := kk.1 c56_3
        exact ih (v4 + 1) T hT kk
      · have kk := kk.2 c56_3
        obtain ⟨q5, kk⟩ := kk
        have gq5 := in_lt q5
        refine fr_nN (Q := (Fr W T0)) kk (fun r2 er2 kk => ?_)
        obtain ⟨q6, kk⟩ := kk
        obtain ⟨q7, kk⟩ := kk
        have gq7 := in_lt q7
        refine fr_if (Q := (Fr W T0)) (fun c93_4 => ?_) (fun c93_4 => ?_)
        · have kk := kk.1 c93_4
          exact ih (v4 + 1) T hT kk
        · have kk := kk.2 c93_4
          obtain ⟨q8, kk⟩ := kk
          refine fr_if (Q := (Fr W T0)) (fun c110_5 => ?_) (fun c110_5 => ?_)
          · have kk := kk.1 c110_5
            exact ih (v4 + 1) T hT kk
          · have kk := kk.2 c110_5
            obtain ⟨q9, kk⟩ := kk
            refine fr_if (Q := (Fr W T0)) (fun c122_6 => ?_) (fun c122_6 => ?_)
            · have kk := kk.1 c122_6
              exact ih (v4 + 1) ((x_pl_leavesOpen T l1 (l3 + v4)).2) (fr_tr hT (frp_o (fr_pl_leavesOpen l1 (l3 + v4) q9)) (fun c h => hW c (by unfold W_pl_leavesOpen at h; unfold WL_pl_seek1_27; omega))) kk
            · have kk := kk.2 c122_6
              refine fr_jn (Q := (Fr W T0)) (J := fun (KJ1 : St → St) (OJ1 : St → Prop) => ∀ (T301 : St), Fr W T0 T301 → OJ1 T301 → (Fr W T0) (KJ1 T301)) kk (fun T301 hT301 kk => ?_) (fun KJ1 OJ1 hJ1 kk => ?_)
              · skip
                obtain ⟨q12, kk⟩ := kk
                exact ih (v4 + 1) (x_pl_seek0 T301 (l1 + 1) (l2 + (T301.1 r2 5))) (fr_tr hT301 ((fr_pl_seek0 (l1 + 1) (l2 + (T301.1 r2 5)) q12)) (fun c h => hW c (by unfold W_pl_seek0 at h; unfold WL_pl_seek1_27; omega))) kk
              · skip
                refine fr_if (Q := (Fr W T0)) (fun c142_8 => ?_) (fun c142_8 => ?_)
                · have kk := kk.1 c142_8
                  exact hJ1 (sA ((x_pl_leavesOpen T l1 (l3 + v4)).2) 95 (l1 : Int32).toNatClampNeg (l3 + v4)) (fr_sA (fr_tr hT (frp_o (fr_pl_leavesOpen l1 (l3 + v4) q9)) (fun c h => hW c (by unfold W_pl_leavesOpen at h; unfold WL_pl_seek1_27; omega))) (hW _ (by unfold WL_pl_seek1_27; omega))) kk
                · have kk := kk.2 c142_8
                  obtain ⟨q13, kk⟩ := kk
                  have gq13 := in_lt q13
                  obtain ⟨q14, kk⟩ := kk
                  refine fr_nT (Q := (Fr W T0)) (fr_tr (fr_sA (fr_tr hT (frp_o (fr_pl_leavesOpen l1 (l3 + v4) q9)) (fun c h => hW c (by unfold W_pl_leavesOpen at h; unfold WL_pl_seek1_27; omega))) (hW _ (by unfold WL_pl_seek1_27; omega))) ((fr_ta_add (507 + 5 * (l1 + 1 : Int32).toNatClampNeg) (507 + 5 * (l1 : Int32).toNatClampNeg) (r2 + 3) ((sA ((x_pl_leavesOpen T l1 (l3 + v4)).2) 95 (l1 : Int32).toNatClampNeg (l3 + v4)).2.1 3) q14)) (fun c h => hW c (by unfold W_ta_add at h; unfold WL_pl_seek1_27; omega))) kk (fun T4 hT4 kk => ?_)
                  exact hJ1 T4 hT4 kk
def W_pl_seek1 (T : St) (p0 : Int32) (p1 : Int32) : Nat → Prop := fun c => (95 ≤ c ∧ c < 97) ∨ (98 ≤ c ∧ c < 99) ∨ (100 ≤ c ∧ c < 105) ∨ (507 ≤ c ∧ c < 527) ∨ (18013 ≤ c ∧ c < 18014) ∨ (18017 ≤ c ∧ c < 18018)
theorem fr_pl_seek1 {T : St} (p0 : Int32) (p1 : Int32) (kk : ok_pl_seek1 T p0 p1) : Fr (W_pl_seek1 T p0 p1) T (x_pl_seek1 T p0 p1) := by
  unfold ok_pl_seek1 at kk
  have hW : ∀ c, W_pl_seek1 T p0 p1 c → W_pl_seek1 T p0 p1 c := fun _ h => h
  have hT : Fr (W_pl_seek1 T p0 p1) T T := fr_rfl
  unfold x_pl_seek1
  refine fr_if (Q := (Fr (W_pl_seek1 T p0 p1) T)) (fun c5_1 => ?_) (fun c5_1 => ?_)
  · have kk := kk.1 c5_1
    obtain ⟨q1, kk⟩ := kk
    have gq1 := in_lt q1
    refine fr_n (Q := (Fr (W_pl_seek1 T p0 p1) T)) kk (fun i1 kk => ?_)
    refine fr_pl_seek1_27 p0 p1 i1 (fun c h => hW c (by unfold WL_pl_seek1_27 at h; unfold W_pl_seek1; omega)) (fun w1_4 T201 hT201 kk => ?_) 1000 0 T hT kk
    exact hT201
  · have kk := kk.2 c5_1
    obtain ⟨q15, kk⟩ := kk
    exact (fr_tr hT ((fr_pl_keepPicked p1 q15)) (fun c h => hW c (by unfold W_pl_keepPicked at h; unfold W_pl_seek1; omega)))
def WL_pl_seek2_27 (l1 : Int32) (l2 : Int32) (l3 : Int32) : Nat → Prop := fun c => (95 ≤ c ∧ c < 97) ∨ (98 ≤ c ∧ c < 99) ∨ (100 ≤ c ∧ c < 105) ∨ (507 ≤ c ∧ c < 527) ∨ (18013 ≤ c ∧ c < 18014) ∨ (18017 ≤ c ∧ c < 18018)
theorem fr_pl_seek2_27 {W : Nat → Prop} {T0 : St} (l1 : Int32) (l2 : Int32) (l3 : Int32) {K : Int32 → St → St} {Kk : Int32 → St → Prop} (hW : ∀ c, WL_pl_seek2_27 l1 l2 l3 c → W c) (hk : ∀ (v4 : Int32) (T : St), Fr W T0 T → Kk v4 T → (Fr W T0) (K v4 T)) : ∀ (f : Nat) (v4 : Int32) (T : St), Fr W T0 T → ok_pl_seek2_27 l1 l2 l3 Kk f v4 T → (Fr W T0) (x_pl_seek2_27 l1 l2 l3 K f v4 T) := by
  intro f
  induction f with
  | zero => intro v4 T hT kk; exact kk.elim
  | succ f ih =>
    intro v4 T hT kk
    rw [ok_pl_seek2_27] at kk
    rw [x_pl_seek2_27]
    obtain ⟨q2, kk⟩ := kk
    have gq2 := in_lt q2
    obtain ⟨q3, kk⟩ := kk
    have gq3 := in_lt q3
    refine fr_if (Q := (Fr W T0)) (fun c40_2 => ?_) (fun c40_2 => ?_)
    · have kk := kk.1 c40_2
      exact hk v4 T hT kk
    · have kk := kk.2 c40_2
      obtain ⟨q4, kk⟩ := kk
      have gq4 := in_lt q4
      refine fr_if (Q := (Fr W T0)) (fun c56_3 => ?_) (fun c56_3 => ?_)
      · have kk := kk.1 c56_3
        exact ih (v4 + 1) T hT kk
      · have kk := kk.2 c56_3
        obtain ⟨q5, kk⟩ := kk
        have gq5 := in_lt q5
        refine fr_nN (Q := (Fr W T0)) kk (fun r2 er2 kk => ?_)
        obtain ⟨q6, kk⟩ := kk
        obtain ⟨q7, kk⟩ := kk
        have gq7 := in_lt q7
        refine fr_if (Q := (Fr W T0)) (fun c93_4 => ?_) (fun c93_4 => ?_)
        · have kk := kk.1 c93_4
          exact ih (v4 + 1) T hT kk
        · have kk := kk.2 c93_4
          obtain ⟨q8, kk⟩ := kk
          refine fr_if (Q := (Fr W T0)) (fun c110_5 => ?_) (fun c110_5 => ?_)
          · have kk := kk.1 c110_5
            exact ih (v4 + 1) T hT kk
          · have kk := kk.2 c110_5
            obtain ⟨q9, kk⟩ := kk
            refine fr_if (Q := (Fr W T0)) (fun c122_6 => ?_) (fun c122_6 => ?_)
            · have kk := kk.1 c122_6
              exact ih (v4 + 1) ((x_pl_leavesOpen T l1 (l3 + v4)).2) (fr_tr hT (frp_o (fr_pl_leavesOpen l1 (l3 + v4) q9)) (fun c h => hW c (by unfold W_pl_leavesOpen at h; unfold WL_pl_seek2_27; omega))) kk
            · have kk := kk.2 c122_6
              refine fr_jn (Q := (Fr W T0)) (J := fun (KJ1 : St → St) (OJ1 : St → Prop) => ∀ (T301 : St), Fr W T0 T301 → OJ1 T301 → (Fr W T0) (KJ1 T301)) kk (fun T301 hT301 kk => ?_) (fun KJ1 OJ1 hJ1 kk => ?_)
              · skip
                obtain ⟨q12, kk⟩ := kk
                exact ih (v4 + 1) (x_pl_seek1 T301 (l1 + 1) (l2 + (T301.1 r2 5))) (fr_tr hT301 ((fr_pl_seek1 (l1 + 1) (l2 + (T301.1 r2 5)) q12)) (fun c h => hW c (by unfold W_pl_seek1 at h; unfold WL_pl_seek2_27; omega))) kk
              · skip
                refine fr_if (Q := (Fr W T0)) (fun c142_8 => ?_) (fun c142_8 => ?_)
                · have kk := kk.1 c142_8
                  exact hJ1 (sA ((x_pl_leavesOpen T l1 (l3 + v4)).2) 95 (l1 : Int32).toNatClampNeg (l3 + v4)) (fr_sA (fr_tr hT (frp_o (fr_pl_leavesOpen l1 (l3 + v4) q9)) (fun c h => hW c (by unfold W_pl_leavesOpen at h; unfold WL_pl_seek2_27; omega))) (hW _ (by unfold WL_pl_seek2_27; omega))) kk
                · have kk := kk.2 c142_8
                  obtain ⟨q13, kk⟩ := kk
                  have gq13 := in_lt q13
                  obtain ⟨q14, kk⟩ := kk
                  refine fr_nT (Q := (Fr W T0)) (fr_tr (fr_sA (fr_tr hT (frp_o (fr_pl_leavesOpen l1 (l3 + v4) q9)) (fun c h => hW c (by unfold W_pl_leavesOpen at h; unfold WL_pl_seek2_27; omega))) (hW _ (by unfold WL_pl_seek2_27; omega))) ((fr_ta_add (507 + 5 * (l1 + 1 : Int32).toNatClampNeg) (507 + 5 * (l1 : Int32).toNatClampNeg) (r2 + 3) ((sA ((x_pl_leavesOpen T l1 (l3 + v4)).2) 95 (l1 : Int32).toNatClampNeg (l3 + v4)).2.1 3) q14)) (fun c h => hW c (by unfold W_ta_add at h; unfold WL_pl_seek2_27; omega))) kk (fun T4 hT4 kk => ?_)
                  exact hJ1 T4 hT4 kk
def W_pl_seek2 (T : St) (p0 : Int32) (p1 : Int32) : Nat → Prop := fun c => (95 ≤ c ∧ c < 97) ∨ (98 ≤ c ∧ c < 99) ∨ (100 ≤ c ∧ c < 105) ∨ (507 ≤ c ∧ c < 527) ∨ (18013 ≤ c ∧ c < 18014) ∨ (18017 ≤ c ∧ c < 18018)
theorem fr_pl_seek2 {T : St} (p0 : Int32) (p1 : Int32) (kk : ok_pl_seek2 T p0 p1) : Fr (W_pl_seek2 T p0 p1) T (x_pl_seek2 T p0 p1) := by
  unfold ok_pl_seek2 at kk
  have hW : ∀ c, W_pl_seek2 T p0 p1 c → W_pl_seek2 T p0 p1 c := fun _ h => h
  have hT : Fr (W_pl_seek2 T p0 p1) T T := fr_rfl
  unfold x_pl_seek2
  refine fr_if (Q := (Fr (W_pl_seek2 T p0 p1) T)) (fun c5_1 => ?_) (fun c5_1 => ?_)
  · have kk := kk.1 c5_1
    obtain ⟨q1, kk⟩ := kk
    have gq1 := in_lt q1
    refine fr_n (Q := (Fr (W_pl_seek2 T p0 p1) T)) kk (fun i1 kk => ?_)
    refine fr_pl_seek2_27 p0 p1 i1 (fun c h => hW c (by unfold WL_pl_seek2_27 at h; unfold W_pl_seek2; omega)) (fun w1_4 T201 hT201 kk => ?_) 1000 0 T hT kk
    exact hT201
  · have kk := kk.2 c5_1
    obtain ⟨q15, kk⟩ := kk
    exact (fr_tr hT ((fr_pl_keepPicked p1 q15)) (fun c h => hW c (by unfold W_pl_keepPicked at h; unfold W_pl_seek2; omega)))
def WL_pl_seek3_27 (l1 : Int32) (l2 : Int32) (l3 : Int32) : Nat → Prop := fun c => (95 ≤ c ∧ c < 97) ∨ (98 ≤ c ∧ c < 99) ∨ (100 ≤ c ∧ c < 105) ∨ (507 ≤ c ∧ c < 527) ∨ (18013 ≤ c ∧ c < 18014) ∨ (18017 ≤ c ∧ c < 18018)
theorem fr_pl_seek3_27 {W : Nat → Prop} {T0 : St} (l1 : Int32) (l2 : Int32) (l3 : Int32) {K : Int32 → St → St} {Kk : Int32 → St → Prop} (hW : ∀ c, WL_pl_seek3_27 l1 l2 l3 c → W c) (hk : ∀ (v4 : Int32) (T : St), Fr W T0 T → Kk v4 T → (Fr W T0) (K v4 T)) : ∀ (f : Nat) (v4 : Int32) (T : St), Fr W T0 T → ok_pl_seek3_27 l1 l2 l3 Kk f v4 T → (Fr W T0) (x_pl_seek3_27 l1 l2 l3 K f v4 T) := by
  intro f
  induction f with
  | zero => intro v4 T hT kk; exact kk.elim
  | succ f ih =>
    intro v4 T hT kk
    rw [ok_pl_seek3_27] at kk
    rw [x_pl_seek3_27]
    obtain ⟨q2, kk⟩ := kk
    have gq2 := in_lt q2
    obtain ⟨q3, kk⟩ := kk
    have gq3 := in_lt q3
    refine fr_if (Q := (Fr W T0)) (fun c40_2 => ?_) (fun c40_2 => ?_)
    · have kk := kk.1 c40_2
      exact hk v4 T hT kk
    · have kk := kk.2 c40_2
      obtain ⟨q4, kk⟩ := kk
      have gq4 := in_lt q4
      refine fr_if (Q := (Fr W T0)) (fun c56_3 => ?_) (fun c56_3 => ?_)
      · have kk := kk.1 c56_3
        exact ih (v4 + 1) T hT kk
      · have kk := kk.2 c56_3
        obtain ⟨q5, kk⟩ := kk
        have gq5 := in_lt q5
        refine fr_nN (Q := (Fr W T0)) kk (fun r2 er2 kk => ?_)
        obtain ⟨q6, kk⟩ := kk
        obtain ⟨q7, kk⟩ := kk
        have gq7 := in_lt q7
        refine fr_if (Q := (Fr W T0)) (fun c93_4 => ?_) (fun c93_4 => ?_)
        · have kk := kk.1 c93_4
          exact ih (v4 + 1) T hT kk
        · have kk := kk.2 c93_4
          obtain ⟨q8, kk⟩ := kk
          refine fr_if (Q := (Fr W T0)) (fun c110_5 => ?_) (fun c110_5 => ?_)
          · have kk := kk.1 c110_5
            exact ih (v4 + 1) T hT kk
          · have kk := kk.2 c110_5
            obtain ⟨q9, kk⟩ := kk
            refine fr_if (Q := (Fr W T0)) (fun c122_6 => ?_) (fun c122_6 => ?_)
            · have kk := kk.1 c122_6
              exact ih (v4 + 1) ((x_pl_leavesOpen T l1 (l3 + v4)).2) (fr_tr hT (frp_o (fr_pl_leavesOpen l1 (l3 + v4) q9)) (fun c h => hW c (by unfold W_pl_leavesOpen at h; unfold WL_pl_seek3_27; omega))) kk
            · have kk := kk.2 c122_6
              refine fr_jn (Q := (Fr W T0)) (J := fun (KJ1 : St → St) (OJ1 : St → Prop) => ∀ (T301 : St), Fr W T0 T301 → OJ1 T301 → (Fr W T0) (KJ1 T301)) kk (fun T301 hT301 kk => ?_) (fun KJ1 OJ1 hJ1 kk => ?_)
              · skip
                obtain ⟨q12, kk⟩ := kk
                exact ih (v4 + 1) (x_pl_seek2 T301 (l1 + 1) (l2 + (T301.1 r2 5))) (fr_tr hT301 ((fr_pl_seek2 (l1 + 1) (l2 + (T301.1 r2 5)) q12)) (fun c h => hW c (by unfold W_pl_seek2 at h; unfold WL_pl_seek3_27; omega))) kk
              · skip
                refine fr_if (Q := (Fr W T0)) (fun c142_8 => ?_) (fun c142_8 => ?_)
                · have kk := kk.1 c142_8
                  exact hJ1 (sA ((x_pl_leavesOpen T l1 (l3 + v4)).2) 95 (l1 : Int32).toNatClampNeg (l3 + v4)) (fr_sA (fr_tr hT (frp_o (fr_pl_leavesOpen l1 (l3 + v4) q9)) (fun c h => hW c (by unfold W_pl_leavesOpen at h; unfold WL_pl_seek3_27; omega))) (hW _ (by unfold WL_pl_seek3_27; omega))) kk
                · have kk := kk.2 c142_8
                  obtain ⟨q13, kk⟩ := kk
                  have gq13 := in_lt q13
                  obtain ⟨q14, kk⟩ := kk
                  refine fr_nT (Q := (Fr W T0)) (fr_tr (fr_sA (fr_tr hT (frp_o (fr_pl_leavesOpen l1 (l3 + v4) q9)) (fun c h => hW c (by unfold W_pl_leavesOpen at h; unfold WL_pl_seek3_27; omega))) (hW _ (by unfold WL_pl_seek3_27; omega))) ((fr_ta_add (507 + 5 * (l1 + 1 : Int32).toNatClampNeg) (507 + 5 * (l1 : Int32).toNatClampNeg) (r2 + 3) ((sA ((x_pl_leavesOpen T l1 (l3 + v4)).2) 95 (l1 : Int32).toNatClampNeg (l3 + v4)).2.1 3) q14)) (fun c h => hW c (by unfold W_ta_add at h; unfold WL_pl_seek3_27; omega))) kk (fun T4 hT4 kk => ?_)
                  exact hJ1 T4 hT4 kk
def W_pl_seek3 (T : St) (p0 : Int32) (p1 : Int32) : Nat → Prop := fun c => (95 ≤ c ∧ c < 97) ∨ (98 ≤ c ∧ c < 99) ∨ (100 ≤ c ∧ c < 105) ∨ (507 ≤ c ∧ c < 527) ∨ (18013 ≤ c ∧ c < 18014) ∨ (18017 ≤ c ∧ c < 18018)
theorem fr_pl_seek3 {T : St} (p0 : Int32) (p1 : Int32) (kk : ok_pl_seek3 T p0 p1) : Fr (W_pl_seek3 T p0 p1) T (x_pl_seek3 T p0 p1) := by
  unfold ok_pl_seek3 at kk
  have hW : ∀ c, W_pl_seek3 T p0 p1 c → W_pl_seek3 T p0 p1 c := fun _ h => h
  have hT : Fr (W_pl_seek3 T p0 p1) T T := fr_rfl
  unfold x_pl_seek3
  refine fr_if (Q := (Fr (W_pl_seek3 T p0 p1) T)) (fun c5_1 => ?_) (fun c5_1 => ?_)
  · have kk := kk.1 c5_1
    obtain ⟨q1, kk⟩ := kk
    have gq1 := in_lt q1
    refine fr_n (Q := (Fr (W_pl_seek3 T p0 p1) T)) kk (fun i1 kk => ?_)
    refine fr_pl_seek3_27 p0 p1 i1 (fun c h => hW c (by unfold WL_pl_seek3_27 at h; unfold W_pl_seek3; omega)) (fun w1_4 T201 hT201 kk => ?_) 1000 0 T hT kk
    exact hT201
  · have kk := kk.2 c5_1
    obtain ⟨q15, kk⟩ := kk
    exact (fr_tr hT ((fr_pl_keepPicked p1 q15)) (fun c h => hW c (by unfold W_pl_keepPicked at h; unfold W_pl_seek3; omega)))
def WL_pl_seek4_27 (l1 : Int32) (l2 : Int32) (l3 : Int32) : Nat → Prop := fun c => (95 ≤ c ∧ c < 97) ∨ (98 ≤ c ∧ c < 99) ∨ (100 ≤ c ∧ c < 105) ∨ (507 ≤ c ∧ c < 527) ∨ (18013 ≤ c ∧ c < 18014) ∨ (18017 ≤ c ∧ c < 18018)
theorem fr_pl_seek4_27 {W : Nat → Prop} {T0 : St} (l1 : Int32) (l2 : Int32) (l3 : Int32) {K : Int32 → St → St} {Kk : Int32 → St → Prop} (hW : ∀ c, WL_pl_seek4_27 l1 l2 l3 c → W c) (hk : ∀ (v4 : Int32) (T : St), Fr W T0 T → Kk v4 T → (Fr W T0) (K v4 T)) : ∀ (f : Nat) (v4 : Int32) (T : St), Fr W T0 T → ok_pl_seek4_27 l1 l2 l3 Kk f v4 T → (Fr W T0) (x_pl_seek4_27 l1 l2 l3 K f v4 T) := by
  intro f
  induction f with
  | zero => intro v4 T hT kk; exact kk.elim
  | succ f ih =>
    intro v4 T hT kk
    rw [ok_pl_seek4_27] at kk
    rw [x_pl_seek4_27]
    obtain ⟨q2, kk⟩ := kk
    have gq2 := in_lt q2
    obtain ⟨q3, kk⟩ := kk
    have gq3 := in_lt q3
    refine fr_if (Q := (Fr W T0)) (fun c40_2 => ?_) (fun c40_2 => ?_)
    · have kk := kk.1 c40_2
      exact hk v4 T hT kk
    · have kk := kk.2 c40_2
      obtain ⟨q4, kk⟩ := kk
      have gq4 := in_lt q4
      refine fr_if (Q := (Fr W T0)) (fun c56_3 => ?_) (fun c56_3 => ?_)
      · have kk := kk.1 c56_3
        exact ih (v4 + 1) T hT kk
      · have kk := kk.2 c56_3
        obtain ⟨q5, kk⟩ := kk
        have gq5 := in_lt q5
        refine fr_nN (Q := (Fr W T0)) kk (fun r2 er2 kk => ?_)
        obtain ⟨q6, kk⟩ := kk
        obtain ⟨q7, kk⟩ := kk
        have gq7 := in_lt q7
        refine fr_if (Q := (Fr W T0)) (fun c93_4 => ?_) (fun c93_4 => ?_)
        · have kk := kk.1 c93_4
          exact ih (v4 + 1) T hT kk
        · have kk := kk.2 c93_4
          obtain ⟨q8, kk⟩ := kk
          refine fr_if (Q := (Fr W T0)) (fun c110_5 => ?_) (fun c110_5 => ?_)
          · have kk := kk.1 c110_5
            exact ih (v4 + 1) T hT kk
          · have kk := kk.2 c110_5
            obtain ⟨q9, kk⟩ := kk
            refine fr_if (Q := (Fr W T0)) (fun c122_6 => ?_) (fun c122_6 => ?_)
            · have kk := kk.1 c122_6
              exact ih (v4 + 1) ((x_pl_leavesOpen T l1 (l3 + v4)).2) (fr_tr hT (frp_o (fr_pl_leavesOpen l1 (l3 + v4) q9)) (fun c h => hW c (by unfold W_pl_leavesOpen at h; unfold WL_pl_seek4_27; omega))) kk
            · have kk := kk.2 c122_6
              refine fr_jn (Q := (Fr W T0)) (J := fun (KJ1 : St → St) (OJ1 : St → Prop) => ∀ (T301 : St), Fr W T0 T301 → OJ1 T301 → (Fr W T0) (KJ1 T301)) kk (fun T301 hT301 kk => ?_) (fun KJ1 OJ1 hJ1 kk => ?_)
              · skip
                obtain ⟨q12, kk⟩ := kk
                exact ih (v4 + 1) (x_pl_seek3 T301 (l1 + 1) (l2 + (T301.1 r2 5))) (fr_tr hT301 ((fr_pl_seek3 (l1 + 1) (l2 + (T301.1 r2 5)) q12)) (fun c h => hW c (by unfold W_pl_seek3 at h; unfold WL_pl_seek4_27; omega))) kk
              · skip
                refine fr_if (Q := (Fr W T0)) (fun c142_8 => ?_) (fun c142_8 => ?_)
                · have kk := kk.1 c142_8
                  exact hJ1 (sA ((x_pl_leavesOpen T l1 (l3 + v4)).2) 95 (l1 : Int32).toNatClampNeg (l3 + v4)) (fr_sA (fr_tr hT (frp_o (fr_pl_leavesOpen l1 (l3 + v4) q9)) (fun c h => hW c (by unfold W_pl_leavesOpen at h; unfold WL_pl_seek4_27; omega))) (hW _ (by unfold WL_pl_seek4_27; omega))) kk
                · have kk := kk.2 c142_8
                  obtain ⟨q13, kk⟩ := kk
                  have gq13 := in_lt q13
                  obtain ⟨q14, kk⟩ := kk
                  refine fr_nT (Q := (Fr W T0)) (fr_tr (fr_sA (fr_tr hT (frp_o (fr_pl_leavesOpen l1 (l3 + v4) q9)) (fun c h => hW c (by unfold W_pl_leavesOpen at h; unfold WL_pl_seek4_27; omega))) (hW _ (by unfold WL_pl_seek4_27; omega))) ((fr_ta_add (507 + 5 * (l1 + 1 : Int32).toNatClampNeg) (507 + 5 * (l1 : Int32).toNatClampNeg) (r2 + 3) ((sA ((x_pl_leavesOpen T l1 (l3 + v4)).2) 95 (l1 : Int32).toNatClampNeg (l3 + v4)).2.1 3) q14)) (fun c h => hW c (by unfold W_ta_add at h; unfold WL_pl_seek4_27; omega))) kk (fun T4 hT4 kk => ?_)
                  exact hJ1 T4 hT4 kk
def W_pl_seek4 (T : St) (p0 : Int32) (p1 : Int32) : Nat → Prop := fun c => (95 ≤ c ∧ c < 97) ∨ (98 ≤ c ∧ c < 99) ∨ (100 ≤ c ∧ c < 105) ∨ (507 ≤ c ∧ c < 527) ∨ (18013 ≤ c ∧ c < 18014) ∨ (18017 ≤ c ∧ c < 18018)
theorem fr_pl_seek4 {T : St} (p0 : Int32) (p1 : Int32) (kk : ok_pl_seek4 T p0 p1) : Fr (W_pl_seek4 T p0 p1) T (x_pl_seek4 T p0 p1) := by
  unfold ok_pl_seek4 at kk
  have hW : ∀ c, W_pl_seek4 T p0 p1 c → W_pl_seek4 T p0 p1 c := fun _ h => h
  have hT : Fr (W_pl_seek4 T p0 p1) T T := fr_rfl
  unfold x_pl_seek4
  refine fr_if (Q := (Fr (W_pl_seek4 T p0 p1) T)) (fun c5_1 => ?_) (fun c5_1 => ?_)
  · have kk := kk.1 c5_1
    obtain ⟨q1, kk⟩ := kk
    have gq1 := in_lt q1
    refine fr_n (Q := (Fr (W_pl_seek4 T p0 p1) T)) kk (fun i1 kk => ?_)
    refine fr_pl_seek4_27 p0 p1 i1 (fun c h => hW c (by unfold WL_pl_seek4_27 at h; unfold W_pl_seek4; omega)) (fun w1_4 T201 hT201 kk => ?_) 1000 0 T hT kk
    exact hT201
  · have kk := kk.2 c5_1
    obtain ⟨q15, kk⟩ := kk
    exact (fr_tr hT ((fr_pl_keepPicked p1 q15)) (fun c h => hW c (by unfold W_pl_keepPicked at h; unfold W_pl_seek4; omega)))
def W_ask_answer (T : St) (p0 : Nat) (p1 : Int32) (p2 : Int32) : Nat → Prop := fun c => (556 ≤ c ∧ c < 557) ∨ (65501 ≤ c ∧ c < 65502)
theorem fr_ask_answer {T : St} (p0 : Nat) (p1 : Int32) (p2 : Int32) (kk : ok_ask_answer T p0 p1 p2) : FrP (W_ask_answer T p0 p1 p2) T (x_ask_answer T p0 p1 p2) := by
  unfold ok_ask_answer at kk
  have hW : ∀ c, W_ask_answer T p0 p1 p2 c → W_ask_answer T p0 p1 p2 c := fun _ h => h
  have hT : Fr (W_ask_answer T p0 p1 p2) T T := fr_rfl
  unfold x_ask_answer
  refine fr_if (Q := (FrP (W_ask_answer T p0 p1 p2) T)) (fun c6_1 => ?_) (fun c6_1 => ?_)
  · have kk := kk.1 c6_1
    obtain ⟨q2, kk⟩ := kk
    exact frp_i (fr_tr (fr_sF hT (hW _ (by unfold W_ask_answer; omega))) (frp_o (fr_ask_sizeOf p0 p1 0 q2)) (fun c h => hW c (by unfold W_ask_sizeOf at h; unfold W_ask_answer; omega)))
  · have kk := kk.2 c6_1
    obtain ⟨q1, kk⟩ := kk
    exact frp_i (fr_tr (fr_sF hT (hW _ (by unfold W_ask_answer; omega))) (frp_o (fr_ask_markOf p0 p1 0 q1)) (fun c h => hW c (by unfold W_ask_markOf at h; unfold W_ask_answer; omega)))
def W_pl_finds (T : St) (p0 : Int32) (p1 : Int32) : Nat → Prop := fun c => (94 ≤ c ∧ c < 99) ∨ (100 ≤ c ∧ c < 105) ∨ (507 ≤ c ∧ c < 527) ∨ (18012 ≤ c ∧ c < 18015) ∨ (18017 ≤ c ∧ c < 18018)
theorem fr_pl_finds {T : St} (p0 : Int32) (p1 : Int32) (kk : ok_pl_finds T p0 p1) : FrP (W_pl_finds T p0 p1) T (x_pl_finds T p0 p1) := by
  unfold ok_pl_finds at kk
  have hW : ∀ c, W_pl_finds T p0 p1 c → W_pl_finds T p0 p1 c := fun _ h => h
  have hT : Fr (W_pl_finds T p0 p1) T T := fr_rfl
  unfold x_pl_finds
  obtain ⟨q1, kk⟩ := kk
  obtain ⟨q2, kk⟩ := kk
  refine fr_jn0 (Q := (FrP (W_pl_finds T p0 p1) T)) (J := fun (KJ1 : St → Int32 × St) => ∀ (T301 : St), Fr (W_pl_finds T p0 p1) T T301 → (FrP (W_pl_finds T p0 p1) T) (KJ1 T301)) (fun T301 hT301 => ?_) (fun KJ1 hJ1 => ?_)
  · skip
    refine fr_if (Q := (FrP (W_pl_finds T p0 p1) T)) (fun c37_2 => ?_) (fun c37_2 => ?_)
    · exact frp_i hT301
    · exact frp_i hT301
  · skip
    refine fr_if (Q := (FrP (W_pl_finds T p0 p1) T)) (fun c22_3 => ?_) (fun c22_3 => ?_)
    · exact hJ1 ((x_pl_seatAll (sF (sF (sF T 80 14 p1) 80 13 1000000) 80 17 (-1000000)) p0).2) (fr_tr (fr_sF (fr_sF (fr_sF hT (hW _ (by unfold W_pl_finds; omega))) (hW _ (by unfold W_pl_finds; omega))) (hW _ (by unfold W_pl_finds; omega))) (frp_o (fr_pl_seatAll p0 q2)) (fun c h => hW c (by unfold W_pl_seatAll at h; unfold W_pl_finds; omega)))
    · have kk := kk c22_3
      obtain ⟨q4, kk⟩ := kk
      refine fr_nT0 (Q := (FrP (W_pl_finds T p0 p1) T)) (fr_tr (fr_tr (fr_sF (fr_sF (fr_sF hT (hW _ (by unfold W_pl_finds; omega))) (hW _ (by unfold W_pl_finds; omega))) (hW _ (by unfold W_pl_finds; omega))) (frp_o (fr_pl_seatAll p0 q2)) (fun c h => hW c (by unfold W_pl_seatAll at h; unfold W_pl_finds; omega))) ((fr_pl_seek4 0 0 q4)) (fun c h => hW c (by unfold W_pl_seek4 at h; unfold W_pl_finds; omega))) (fun T2 hT2 => ?_)
      exact hJ1 T2 hT2
