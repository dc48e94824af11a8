def WL_pl_countDinners_15  : Nat → Prop := fun c => (94 ≤ c ∧ c < 99) ∨ (100 ≤ c ∧ c < 106) ∨ (507 ≤ c ∧ c < 527) ∨ (18012 ≤ c ∧ c < 18015) ∨ (18017 ≤ c ∧ c < 18020)
theorem fr_pl_countDinners_15 {W : Nat → Prop} {T0 : St}  {K : Int32 → Int32 → St → St} {Kk : Int32 → Int32 → St → Prop} (hW : ∀ c, WL_pl_countDinners_15  c → W c) (hk : ∀ (v1 : Int32) (v2 : Int32) (T : St), Fr W T0 T → Kk v1 v2 T → (Fr W T0) (K v1 v2 T)) : ∀ (f : Nat) (v1 : Int32) (v2 : Int32) (T : St), Fr W T0 T → ok_pl_countDinners_15  Kk f v1 v2 T → (Fr W T0) (x_pl_countDinners_15  K f v1 v2 T) := by
  intro f
  induction f with
  | zero => intro v1 v2 T hT kk; exact kk.elim
  | succ f ih =>
    intro v1 v2 T hT kk
    rw [ok_pl_countDinners_15] at kk
    rw [x_pl_countDinners_15]
    obtain ⟨q1, kk⟩ := kk
    obtain ⟨q2, kk⟩ := kk
    refine fr_if (Q := (Fr W T0)) (fun c23_1 => ?_) (fun c23_1 => ?_)
    · have kk := kk.1 c23_1
      exact hk v1 v2 T hT kk
    · have kk := kk.2 c23_1
      refine fr_jn (Q := (Fr W T0)) (J := fun (KJ1 : St → St) (OJ1 : St → Prop) => ∀ (T301 : St), Fr W T0 T301 → OJ1 T301 → (Fr W T0) (KJ1 T301)) kk (fun T301 hT301 kk => ?_) (fun KJ1 OJ1 hJ1 kk => ?_)
      · skip
        obtain ⟨q6, kk⟩ := kk
        have gq6 := in_lt q6
        refine fr_if (Q := (Fr W T0)) (fun c70_7 => ?_) (fun c70_7 => ?_)
        · have kk := kk.1 c70_7
          exact ih v1 (v2 + 1) (sA T301 105 (v2 : Int32).toNatClampNeg (vp_nar .boolean 0)) (fr_sA hT301 (hW _ (by unfold WL_pl_countDinners_15; omega))) kk
        · have kk := kk.2 c70_7
          refine fr_nT (Q := (Fr W T0)) (fr_sF (fr_sA hT301 (hW _ (by unfold WL_pl_countDinners_15; omega))) (hW _ (by unfold WL_pl_countDinners_15; omega))) kk (fun T2 hT2 kk => ?_)
          refine fr_if (Q := (Fr W T0)) (fun c85_8 => ?_) (fun c85_8 => ?_)
          · have kk := kk.1 c85_8
            exact ih v1 (v2 + 1) T2 hT2 kk
          · have kk := kk.2 c85_8
            exact ih (x_J_bitCount T v2) (v2 + 1) (sF T2 80 19 v2) (fr_sF hT2 (hW _ (by unfold WL_pl_countDinners_15; omega))) kk
      · skip
        refine fr_if (Q := (Fr W T0)) (fun c38_9 => ?_) (fun c38_9 => ?_)
        · have kk := kk.1 c38_9
          exact hJ1 T hT kk
        · have kk := kk.2 c38_9
          obtain ⟨q7, kk⟩ := kk
          refine fr_if (Q := (Fr W T0)) (fun c46_10 => ?_) (fun c46_10 => ?_)
          · have kk := kk.1 c46_10
            exact hJ1 T hT kk
          · have kk := kk.2 c46_10
            obtain ⟨q8, kk⟩ := kk
            refine fr_if (Q := (Fr W T0)) (fun c55_11 => ?_) (fun c55_11 => ?_)
            · have kk := kk.1 c55_11
              exact hJ1 ((x_pl_finds T v2 1).2) (fr_tr hT (frp_o (fr_pl_finds v2 1 q8)) (fun c h => hW c (by unfold W_pl_finds at h; unfold WL_pl_countDinners_15; omega))) kk
            · have kk := kk.2 c55_11
              obtain ⟨q9, kk⟩ := kk
              have gq9 := in_lt q9
              refine fr_if (Q := (Fr W T0)) (fun c70_12 => ?_) (fun c70_12 => ?_)
              · have kk := kk.1 c70_12
                exact ih v1 (v2 + 1) (sA ((x_pl_finds T v2 1).2) 105 (v2 : Int32).toNatClampNeg (vp_nar .boolean 1)) (fr_sA (fr_tr hT (frp_o (fr_pl_finds v2 1 q8)) (fun c h => hW c (by unfold W_pl_finds at h; unfold WL_pl_countDinners_15; omega))) (hW _ (by unfold WL_pl_countDinners_15; omega))) kk
              · have kk := kk.2 c70_12
                refine fr_nT (Q := (Fr W T0)) (fr_sF (fr_sA (fr_tr hT (frp_o (fr_pl_finds v2 1 q8)) (fun c h => hW c (by unfold W_pl_finds at h; unfold WL_pl_countDinners_15; omega))) (hW _ (by unfold WL_pl_countDinners_15; omega))) (hW _ (by unfold WL_pl_countDinners_15; omega))) kk (fun T3 hT3 kk => ?_)
                refine fr_if (Q := (Fr W T0)) (fun c85_13 => ?_) (fun c85_13 => ?_)
                · have kk := kk.1 c85_13
                  exact ih v1 (v2 + 1) T3 hT3 kk
                · have kk := kk.2 c85_13
                  exact ih (x_J_bitCount T v2) (v2 + 1) (sF T3 80 19 v2) (fr_sF hT3 (hW _ (by unfold WL_pl_countDinners_15; omega))) kk
def W_pl_countDinners (T : St)  : Nat → Prop := fun c => (94 ≤ c ∧ c < 99) ∨ (100 ≤ c ∧ c < 106) ∨ (507 ≤ c ∧ c < 527) ∨ (18012 ≤ c ∧ c < 18015) ∨ (18017 ≤ c ∧ c < 18020)
theorem fr_pl_countDinners {T : St}  (kk : ok_pl_countDinners T ) : Fr (W_pl_countDinners T ) T (x_pl_countDinners T ) := by
  unfold ok_pl_countDinners at kk
  have hW : ∀ c, W_pl_countDinners T  c → W_pl_countDinners T  c := fun _ h => h
  have hT : Fr (W_pl_countDinners T ) T T := fr_rfl
  unfold x_pl_countDinners
  refine fr_pl_countDinners_15  (fun c h => hW c (by unfold WL_pl_countDinners_15 at h; unfold W_pl_countDinners; omega)) (fun w1_1 w1_2 T201 hT201 kk => ?_) 1000 0 1 (sF (sF T 80 18 0) 80 19 (-1000000)) (fr_sF (fr_sF hT (hW _ (by unfold W_pl_countDinners; omega))) (hW _ (by unfold W_pl_countDinners; omega))) kk
  exact hT201
def W_x_seven (T : St) (p0 : Int32) : Nat → Prop := fun c => (82 ≤ c ∧ c < 84) ∨ (85 ≤ c ∧ c < 93) ∨ (94 ≤ c ∧ c < 99) ∨ (100 ≤ c ∧ c < 105) ∨ (123 ≤ c ∧ c < 527) ∨ (18012 ≤ c ∧ c < 18015) ∨ (18017 ≤ c ∧ c < 18018) ∨ (22300 ≤ c ∧ c < 60700) ∨ c = 5002 ∨ c = 5003
theorem fr_x_seven {T : St} (p0 : Int32) (kk : ok_x_seven T p0) : FrP (W_x_seven T p0) T (x_x_seven T p0) := by
  unfold ok_x_seven at kk
  have hW : ∀ c, W_x_seven T p0 c → W_x_seven T p0 c := fun _ h => h
  have hT : Fr (W_x_seven T p0) T T := fr_rfl
  unfold x_x_seven
  obtain ⟨q1, kk⟩ := kk
  refine fr_n (Q := (FrP (W_x_seven T p0) T)) kk (fun i1 kk => ?_)
  refine fr_if (Q := (FrP (W_x_seven T p0) T)) (fun c10_1 => ?_) (fun c10_1 => ?_)
  · have kk := kk c10_1
    obtain ⟨q2, kk⟩ := kk
    obtain ⟨q3, kk⟩ := kk
    obtain ⟨q4, kk⟩ := kk
    obtain ⟨q5, kk⟩ := kk
    obtain ⟨q6, kk⟩ := kk
    refine fr_nT (Q := (FrP (W_x_seven T p0) T)) (fr_tr (fr_tr (fr_tr hT ((fr_pl_lay (T.2.1 0) 76 (T.1 (T.2.1 0) 17) p0 q3)) (fun c h => hW c (by unfold W_pl_lay at h; unfold W_x_seven; omega))) ((fr_pl_strikeEarly  q4)) (fun c h => hW c (by unfold W_pl_strikeEarly at h; unfold W_x_seven; omega))) ((fr_pl_settle ((x_pl_strikeEarly (x_pl_lay T (T.2.1 0) 76 (T.1 (T.2.1 0) 17) p0)).1 ((x_pl_strikeEarly (x_pl_lay T (T.2.1 0) 76 (T.1 (T.2.1 0) 17) p0)).2.1 0) 17) q6)) (fun c h => hW c (by unfold W_pl_settle at h; unfold W_x_seven; omega))) kk (fun T2 hT2 kk => ?_)
    obtain ⟨q7, kk⟩ := kk
    obtain ⟨q8, kk⟩ := kk
    refine fr_if (Q := (FrP (W_x_seven T p0) T)) (fun c74_2 => ?_) (fun c74_2 => ?_)
    · exact frp_i (fr_tr hT2 (frp_o (fr_pl_finds (T2.1 (T2.2.1 0) 17) 1 q8)) (fun c h => hW c (by unfold W_pl_finds at h; unfold W_x_seven; omega)))
    · exact frp_i (fr_tr hT2 (frp_o (fr_pl_finds (T2.1 (T2.2.1 0) 17) 1 q8)) (fun c h => hW c (by unfold W_pl_finds at h; unfold W_x_seven; omega)))
  · exact frp_i hT
def W_x_dinners (T : St) (p0 : Int32) (p1 : Int32) (p2 : Int32) : Nat → Prop := fun c => (79 ≤ c ∧ c < 80) ∨ (82 ≤ c ∧ c < 84) ∨ (85 ≤ c ∧ c < 93) ∨ (94 ≤ c ∧ c < 99) ∨ (100 ≤ c ∧ c < 106) ∨ (123 ≤ c ∧ c < 527) ∨ (10016 ≤ c ∧ c < 10017) ∨ (18012 ≤ c ∧ c < 18015) ∨ (18017 ≤ c ∧ c < 18020) ∨ (22300 ≤ c ∧ c < 60700) ∨ c = 5002 ∨ c = 5003
theorem fr_x_dinners {T : St} (p0 : Int32) (p1 : Int32) (p2 : Int32) (kk : ok_x_dinners T p0 p1 p2) : FrP (W_x_dinners T p0 p1 p2) T (x_x_dinners T p0 p1 p2) := by
  unfold ok_x_dinners at kk
  have hW : ∀ c, W_x_dinners T p0 p1 p2 c → W_x_dinners T p0 p1 p2 c := fun _ h => h
  have hT : Fr (W_x_dinners T p0 p1 p2) T T := fr_rfl
  unfold x_x_dinners
  refine fr_jn (Q := (FrP (W_x_dinners T p0 p1 p2) T)) (J := fun (KJ1 : Int32 × St) (OJ1 : Prop) => OJ1 → (FrP (W_x_dinners T p0 p1 p2) T) (KJ1)) kk (fun  kk => ?_) (fun KJ1 OJ1 hJ1 kk => ?_)
  · skip
    obtain ⟨q11, kk⟩ := kk
    refine fr_if (Q := (FrP (W_x_dinners T p0 p1 p2) T)) (fun c39_10 => ?_) (fun c39_10 => ?_)
    · have kk := kk c39_10
      refine fr_jn0 (Q := (FrP (W_x_dinners T p0 p1 p2) T)) (J := fun (KJ2 : St → Int32 × St) => ∀ (T302 : St), Fr (W_x_dinners T p0 p1 p2) T T302 → (FrP (W_x_dinners T p0 p1 p2) T) (KJ2 T302)) (fun T302 hT302 => ?_) (fun KJ2 hJ2 => ?_)
      · skip
        refine fr_if (Q := (FrP (W_x_dinners T p0 p1 p2) T)) (fun c132_12 => ?_) (fun c132_12 => ?_)
        · exact frp_i hT302
        · exact frp_i hT302
      · skip
        refine fr_if (Q := (FrP (W_x_dinners T p0 p1 p2) T)) (fun c59_13 => ?_) (fun c59_13 => ?_)
        · exact hJ2 T hT
        · have kk := kk c59_13
          obtain ⟨q21, kk⟩ := kk
          obtain ⟨q22, kk⟩ := kk
          obtain ⟨q23, kk⟩ := kk
          obtain ⟨q24, kk⟩ := kk
          obtain ⟨q25, kk⟩ := kk
          refine fr_nT (Q := (FrP (W_x_dinners T p0 p1 p2) T)) (fr_tr (fr_tr hT ((fr_ki_fit 78 (T.2.1 0) p0 (T.1 (T.2.1 0) 18) q22)) (fun c h => hW c (by unfold W_ki_fit at h; unfold W_x_dinners; omega))) ((fr_pl_lay ((x_ki_fit T 78 (T.2.1 0) p0 (T.1 (T.2.1 0) 18)).2.1 0) 78 (x_bk_allDishes (x_ki_fit T 78 (T.2.1 0) p0 (T.1 (T.2.1 0) 18)) ((x_ki_fit T 78 (T.2.1 0) p0 (T.1 (T.2.1 0) 18)).2.1 0)) p1 q25)) (fun c h => hW c (by unfold W_pl_lay at h; unfold W_x_dinners; omega))) kk (fun T5 hT5 kk => ?_)
          obtain ⟨q26, kk⟩ := kk
          obtain ⟨q27, kk⟩ := kk
          obtain ⟨q28, kk⟩ := kk
          obtain ⟨q29, kk⟩ := kk
          refine fr_nT0 (Q := (FrP (W_x_dinners T p0 p1 p2) T)) (fr_sF (fr_tr (fr_tr hT5 ((fr_pl_settle (x_bk_allDishes T5 (T5.2.1 0)) q28)) (fun c h => hW c (by unfold W_pl_settle at h; unfold W_x_dinners; omega))) ((fr_pl_countDinners  q29)) (fun c h => hW c (by unfold W_pl_countDinners at h; unfold W_x_dinners; omega))) (hW _ (by unfold W_x_dinners; omega))) (fun T6 hT6 => ?_)
          exact hJ2 T6 hT6
    · exact frp_i hT
  · skip
    refine fr_if (Q := (FrP (W_x_dinners T p0 p1 p2) T)) (fun c3_14 => ?_) (fun c3_14 => ?_)
    · have kk := kk.1 c3_14
      exact hJ1  kk
    · have kk := kk.2 c3_14
      refine fr_if (Q := (FrP (W_x_dinners T p0 p1 p2) T)) (fun c8_15 => ?_) (fun c8_15 => ?_)
      · have kk := kk.1 c8_15
        exact hJ1  kk
      · have kk := kk.2 c8_15
        refine fr_if (Q := (FrP (W_x_dinners T p0 p1 p2) T)) (fun c15_16 => ?_) (fun c15_16 => ?_)
        · have kk := kk.1 c15_16
          exact hJ1  kk
        · have kk := kk.2 c15_16
          refine fr_if (Q := (FrP (W_x_dinners T p0 p1 p2) T)) (fun c19_17 => ?_) (fun c19_17 => ?_)
          · have kk := kk.1 c19_17
            exact hJ1  kk
          · have kk := kk.2 c19_17
            refine fr_if (Q := (FrP (W_x_dinners T p0 p1 p2) T)) (fun c24_18 => ?_) (fun c24_18 => ?_)
            · have kk := kk.1 c24_18
              exact hJ1  kk
            · have kk := kk.2 c24_18
              obtain ⟨q30, kk⟩ := kk
              refine fr_if (Q := (FrP (W_x_dinners T p0 p1 p2) T)) (fun c39_19 => ?_) (fun c39_19 => ?_)
              · have kk := kk c39_19
                refine fr_jn0 (Q := (FrP (W_x_dinners T p0 p1 p2) T)) (J := fun (KJ3 : St → Int32 × St) => ∀ (T303 : St), Fr (W_x_dinners T p0 p1 p2) T T303 → (FrP (W_x_dinners T p0 p1 p2) T) (KJ3 T303)) (fun T303 hT303 => ?_) (fun KJ3 hJ3 => ?_)
                · skip
                  refine fr_if (Q := (FrP (W_x_dinners T p0 p1 p2) T)) (fun c132_21 => ?_) (fun c132_21 => ?_)
                  · exact frp_i hT303
                  · exact frp_i hT303
                · skip
                  refine fr_if (Q := (FrP (W_x_dinners T p0 p1 p2) T)) (fun c59_22 => ?_) (fun c59_22 => ?_)
                  · exact hJ3 T hT
                  · have kk := kk c59_22
                    obtain ⟨q40, kk⟩ := kk
                    obtain ⟨q41, kk⟩ := kk
                    obtain ⟨q42, kk⟩ := kk
                    obtain ⟨q43, kk⟩ := kk
                    obtain ⟨q44, kk⟩ := kk
                    refine fr_nT (Q := (FrP (W_x_dinners T p0 p1 p2) T)) (fr_tr (fr_tr hT ((fr_ki_fit 78 (T.2.1 0) p0 (T.1 (T.2.1 0) 18) q41)) (fun c h => hW c (by unfold W_ki_fit at h; unfold W_x_dinners; omega))) ((fr_pl_lay ((x_ki_fit T 78 (T.2.1 0) p0 (T.1 (T.2.1 0) 18)).2.1 0) 78 (x_bk_allDishes (x_ki_fit T 78 (T.2.1 0) p0 (T.1 (T.2.1 0) 18)) ((x_ki_fit T 78 (T.2.1 0) p0 (T.1 (T.2.1 0) 18)).2.1 0)) p1 q44)) (fun c h => hW c (by unfold W_pl_lay at h; unfold W_x_dinners; omega))) kk (fun T9 hT9 kk => ?_)
                    obtain ⟨q45, kk⟩ := kk
                    obtain ⟨q46, kk⟩ := kk
                    obtain ⟨q47, kk⟩ := kk
                    obtain ⟨q48, kk⟩ := kk
                    refine fr_nT0 (Q := (FrP (W_x_dinners T p0 p1 p2) T)) (fr_sF (fr_tr (fr_tr hT9 ((fr_pl_settle (x_bk_allDishes T9 (T9.2.1 0)) q47)) (fun c h => hW c (by unfold W_pl_settle at h; unfold W_x_dinners; omega))) ((fr_pl_countDinners  q48)) (fun c h => hW c (by unfold W_pl_countDinners at h; unfold W_x_dinners; omega))) (hW _ (by unfold W_x_dinners; omega))) (fun T10 hT10 => ?_)
                    exact hJ3 T10 hT10
              · exact frp_i hT
def W_x_ask (T : St) (p0 : Int32) (p1 : Int32) : Nat → Prop := fun c => (556 ≤ c ∧ c < 557) ∨ (65501 ≤ c ∧ c < 65502)
theorem fr_x_ask {T : St} (p0 : Int32) (p1 : Int32) (kk : ok_x_ask T p0 p1) : FrP (W_x_ask T p0 p1) T (x_x_ask T p0 p1) := by
  unfold ok_x_ask at kk
  have hW : ∀ c, W_x_ask T p0 p1 c → W_x_ask T p0 p1 c := fun _ h => h
  have hT : Fr (W_x_ask T p0 p1) T T := fr_rfl
  unfold x_x_ask
  obtain ⟨q1, kk⟩ := kk
  obtain ⟨q2, kk⟩ := kk
  refine fr_if (Q := (FrP (W_x_ask T p0 p1) T)) (fun c8_1 => ?_) (fun c8_1 => ?_)
  · exact frp_i hT
  · have kk := kk c8_1
    refine fr_if (Q := (FrP (W_x_ask T p0 p1) T)) (fun c12_2 => ?_) (fun c12_2 => ?_)
    · exact frp_i hT
    · have kk := kk c12_2
      refine fr_if (Q := (FrP (W_x_ask T p0 p1) T)) (fun c17_3 => ?_) (fun c17_3 => ?_)
      · have kk := kk c17_3
        obtain ⟨q3, kk⟩ := kk
        exact frp_i (fr_tr hT (frp_o (fr_ask_answer (T.2.1 0) p0 p1 q3)) (fun c h => hW c (by unfold W_ask_answer at h; unfold W_x_ask; omega)))
      · exact frp_i hT
def W_x_findsPlan (T : St) (p0 : Int32) : Nat → Prop := fun c => (82 ≤ c ∧ c < 84) ∨ (85 ≤ c ∧ c < 93) ∨ (94 ≤ c ∧ c < 99) ∨ (100 ≤ c ∧ c < 105) ∨ (123 ≤ c ∧ c < 527) ∨ (558 ≤ c ∧ c < 564) ∨ (10014 ≤ c ∧ c < 10016) ∨ (18012 ≤ c ∧ c < 18015) ∨ (18017 ≤ c ∧ c < 18018) ∨ (22300 ≤ c ∧ c < 60700) ∨ (65700 ≤ c ∧ c < 65800) ∨ c = 5002 ∨ c = 5003
theorem fr_x_findsPlan {T : St} (p0 : Int32) (kk : ok_x_findsPlan T p0) : FrP (W_x_findsPlan T p0) T (x_x_findsPlan T p0) := by
  unfold ok_x_findsPlan at kk
  have hW : ∀ c, W_x_findsPlan T p0 c → W_x_findsPlan T p0 c := fun _ h => h
  have hT : Fr (W_x_findsPlan T p0) T T := fr_rfl
  unfold x_x_findsPlan
  refine fr_jn0 (Q := (FrP (W_x_findsPlan T p0) T)) (J := fun (KJ1 : St → Int32 × St) => ∀ (T301 : St), Fr (W_x_findsPlan T p0) T T301 → (FrP (W_x_findsPlan T p0) T) (KJ1 T301)) (fun T301 hT301 => ?_) (fun KJ1 hJ1 => ?_)
  · skip
    refine fr_if (Q := (FrP (W_x_findsPlan T p0) T)) (fun c113_3 => ?_) (fun c113_3 => ?_)
    · exact frp_i hT301
    · exact frp_i hT301
  · skip
    refine fr_if (Q := (FrP (W_x_findsPlan T p0) T)) (fun c5_4 => ?_) (fun c5_4 => ?_)
    · exact hJ1 T hT
    · have kk := kk c5_4
      obtain ⟨q9, kk⟩ := kk
      obtain ⟨q10, kk⟩ := kk
      obtain ⟨q11, kk⟩ := kk
      obtain ⟨q12, kk⟩ := kk
      refine fr_nT (Q := (FrP (W_x_findsPlan T p0) T)) (fr_tr (fr_tr hT ((fr_pl_lay (T.2.1 0) 76 (T.1 (T.2.1 0) 17) p0 q10)) (fun c h => hW c (by unfold W_pl_lay at h; unfold W_x_findsPlan; omega))) ((fr_pl_settle ((x_pl_lay T (T.2.1 0) 76 (T.1 (T.2.1 0) 17) p0).1 ((x_pl_lay T (T.2.1 0) 76 (T.1 (T.2.1 0) 17) p0).2.1 0) 17) q12)) (fun c h => hW c (by unfold W_pl_settle at h; unfold W_x_findsPlan; omega))) kk (fun T4 hT4 kk => ?_)
      obtain ⟨q13, kk⟩ := kk
      obtain ⟨q14, kk⟩ := kk
      refine fr_nT (Q := (FrP (W_x_findsPlan T p0) T)) (fr_tr (fr_sF hT4 (hW _ (by unfold W_x_findsPlan; omega))) (frp_o (fr_pl_finds ((sF T4 0 15 (-1000000)).1 ((sF T4 0 15 (-1000000)).2.1 0) 17) 0 q14)) (fun c h => hW c (by unfold W_pl_finds at h; unfold W_x_findsPlan; omega))) kk (fun T5 hT5 kk => ?_)
      refine fr_if (Q := (FrP (W_x_findsPlan T p0) T)) (fun c66_5 => ?_) (fun c66_5 => ?_)
      · exact hJ1 (sF T5 0 14 p0) (fr_sF hT5 (hW _ (by unfold W_x_findsPlan; omega)))
      · have kk := kk c66_5
        obtain ⟨q15, kk⟩ := kk
        obtain ⟨q16, kk⟩ := kk
        refine fr_nT0 (Q := (FrP (W_x_findsPlan T p0) T)) (fr_sF (fr_tr (fr_tr (fr_sF hT5 (hW _ (by unfold W_x_findsPlan; omega))) ((fr_ro_fill 557 ((sF T5 0 15 (T5.1 80 17)).2.1 0) q15)) (fun c h => hW c (by unfold W_ro_fill at h; unfold W_x_findsPlan; omega))) ((fr_pl_tell 557 q16)) (fun c h => hW c (by unfold W_pl_tell at h; unfold W_x_findsPlan; omega))) (hW _ (by unfold W_x_findsPlan; omega))) (fun T6 hT6 => ?_)
        exact hJ1 T6 hT6
def W_x_isPossible (T : St) (p0 : Nat) (p1 : Int32) (p2 : Int32) : Nat → Prop := fun c => (82 ≤ c ∧ c < 84) ∨ (85 ≤ c ∧ c < 93) ∨ (94 ≤ c ∧ c < 99) ∨ (100 ≤ c ∧ c < 105) ∨ (123 ≤ c ∧ c < 527) ∨ (18012 ≤ c ∧ c < 18015) ∨ (18017 ≤ c ∧ c < 18018) ∨ (22300 ≤ c ∧ c < 60700) ∨ c = 5002 ∨ c = 5003
theorem fr_x_isPossible {T : St} (p0 : Nat) (p1 : Int32) (p2 : Int32) (kk : ok_x_isPossible T p0 p1 p2) : FrP (W_x_isPossible T p0 p1 p2) T (x_x_isPossible T p0 p1 p2) := by
  unfold ok_x_isPossible at kk
  have hW : ∀ c, W_x_isPossible T p0 p1 p2 c → W_x_isPossible T p0 p1 p2 c := fun _ h => h
  have hT : Fr (W_x_isPossible T p0 p1 p2) T T := fr_rfl
  unfold x_x_isPossible
  obtain ⟨q1, kk⟩ := kk
  obtain ⟨q2, kk⟩ := kk
  obtain ⟨q3, kk⟩ := kk
  obtain ⟨q4, kk⟩ := kk
  exact frp_i (fr_tr (fr_tr (fr_tr hT ((fr_pl_lay (T.2.1 0) p0 p1 p2 q1)) (fun c h => hW c (by unfold W_pl_lay at h; unfold W_x_isPossible; omega))) ((fr_pl_settle p1 q2)) (fun c h => hW c (by unfold W_pl_settle at h; unfold W_x_isPossible; omega))) (frp_o (fr_pl_finds p1 1 q3)) (fun c h => hW c (by unfold W_pl_finds at h; unfold W_x_isPossible; omega)))
def W_x_least (T : St) (p0 : Int32) (p1 : Int32) : Nat → Prop := fun c => (82 ≤ c ∧ c < 84) ∨ (85 ≤ c ∧ c < 93) ∨ (94 ≤ c ∧ c < 99) ∨ (100 ≤ c ∧ c < 105) ∨ (123 ≤ c ∧ c < 527) ∨ (558 ≤ c ∧ c < 564) ∨ (10014 ≤ c ∧ c < 10016) ∨ (18012 ≤ c ∧ c < 18015) ∨ (18017 ≤ c ∧ c < 18018) ∨ (22300 ≤ c ∧ c < 60700) ∨ (65700 ≤ c ∧ c < 65800) ∨ c = 5002 ∨ c = 5003
theorem fr_x_least {T : St} (p0 : Int32) (p1 : Int32) (kk : ok_x_least T p0 p1) : FrP (W_x_least T p0 p1) T (x_x_least T p0 p1) := by
  unfold ok_x_least at kk
  have hW : ∀ c, W_x_least T p0 p1 c → W_x_least T p0 p1 c := fun _ h => h
  have hT : Fr (W_x_least T p0 p1) T T := fr_rfl
  unfold x_x_least
  refine fr_jn (Q := (FrP (W_x_least T p0 p1) T)) (J := fun (KJ1 : Int32 × St) (OJ1 : Prop) => OJ1 → (FrP (W_x_least T p0 p1) T) (KJ1)) kk (fun  kk => ?_) (fun KJ1 OJ1 hJ1 kk => ?_)
  · skip
    obtain ⟨q4, kk⟩ := kk
    refine fr_if (Q := (FrP (W_x_least T p0 p1) T)) (fun c23_7 => ?_) (fun c23_7 => ?_)
    · have kk := kk c23_7
      obtain ⟨q5, kk⟩ := kk
      refine fr_if (Q := (FrP (W_x_least T p0 p1) T)) (fun c33_8 => ?_) (fun c33_8 => ?_)
      · exact frp_i (fr_tr hT (frp_o (fr_x_findsPlan p0 q5)) (fun c h => hW c (by unfold W_x_findsPlan at h; unfold W_x_least; omega)))
      · have kk := kk c33_8
        refine fr_if (Q := (FrP (W_x_least T p0 p1) T)) (fun c41_9 => ?_) (fun c41_9 => ?_)
        · exact frp_i (fr_tr hT (frp_o (fr_x_findsPlan p0 q5)) (fun c h => hW c (by unfold W_x_findsPlan at h; unfold W_x_least; omega)))
        · have kk := kk c41_9
          refine fr_if (Q := (FrP (W_x_least T p0 p1) T)) (fun c57_10 => ?_) (fun c57_10 => ?_)
          · exact frp_i (fr_tr hT (frp_o (fr_x_findsPlan p0 q5)) (fun c h => hW c (by unfold W_x_findsPlan at h; unfold W_x_least; omega)))
          · have kk := kk c57_10
            obtain ⟨q6, kk⟩ := kk
            have gq6 := in_lt q6
            exact frp_i (fr_tr hT (frp_o (fr_x_findsPlan p0 q5)) (fun c h => hW c (by unfold W_x_findsPlan at h; unfold W_x_least; omega)))
    · exact frp_i hT
  · skip
    refine fr_if (Q := (FrP (W_x_least T p0 p1) T)) (fun c5_11 => ?_) (fun c5_11 => ?_)
    · have kk := kk.1 c5_11
      exact hJ1  kk
    · have kk := kk.2 c5_11
      refine fr_if (Q := (FrP (W_x_least T p0 p1) T)) (fun c10_12 => ?_) (fun c10_12 => ?_)
      · have kk := kk.1 c10_12
        exact hJ1  kk
      · have kk := kk.2 c10_12
        obtain ⟨q7, kk⟩ := kk
        refine fr_if (Q := (FrP (W_x_least T p0 p1) T)) (fun c23_13 => ?_) (fun c23_13 => ?_)
        · have kk := kk c23_13
          obtain ⟨q8, kk⟩ := kk
          refine fr_if (Q := (FrP (W_x_least T p0 p1) T)) (fun c33_14 => ?_) (fun c33_14 => ?_)
          · exact frp_i (fr_tr hT (frp_o (fr_x_findsPlan p0 q8)) (fun c h => hW c (by unfold W_x_findsPlan at h; unfold W_x_least; omega)))
          · have kk := kk c33_14
            refine fr_if (Q := (FrP (W_x_least T p0 p1) T)) (fun c41_15 => ?_) (fun c41_15 => ?_)
            · exact frp_i (fr_tr hT (frp_o (fr_x_findsPlan p0 q8)) (fun c h => hW c (by unfold W_x_findsPlan at h; unfold W_x_least; omega)))
            · have kk := kk c41_15
              refine fr_if (Q := (FrP (W_x_least T p0 p1) T)) (fun c57_16 => ?_) (fun c57_16 => ?_)
              · exact frp_i (fr_tr hT (frp_o (fr_x_findsPlan p0 q8)) (fun c h => hW c (by unfold W_x_findsPlan at h; unfold W_x_least; omega)))
              · have kk := kk c57_16
                obtain ⟨q9, kk⟩ := kk
                have gq9 := in_lt q9
                exact frp_i (fr_tr hT (frp_o (fr_x_findsPlan p0 q8)) (fun c h => hW c (by unfold W_x_findsPlan at h; unfold W_x_least; omega)))
        · exact frp_i hT
def W_x_begins (T : St) (p0 : Int32) (p1 : Int32) : Nat → Prop := fun c => (82 ≤ c ∧ c < 84) ∨ (85 ≤ c ∧ c < 93) ∨ (94 ≤ c ∧ c < 99) ∨ (100 ≤ c ∧ c < 105) ∨ (123 ≤ c ∧ c < 527) ∨ (558 ≤ c ∧ c < 564) ∨ (10014 ≤ c ∧ c < 10016) ∨ (18012 ≤ c ∧ c < 18015) ∨ (18017 ≤ c ∧ c < 18018) ∨ (22300 ≤ c ∧ c < 60700) ∨ (65700 ≤ c ∧ c < 65800) ∨ c = 5002 ∨ c = 5003
theorem fr_x_begins {T : St} (p0 : Int32) (p1 : Int32) (kk : ok_x_begins T p0 p1) : FrP (W_x_begins T p0 p1) T (x_x_begins T p0 p1) := by
  unfold ok_x_begins at kk
  have hW : ∀ c, W_x_begins T p0 p1 c → W_x_begins T p0 p1 c := fun _ h => h
  have hT : Fr (W_x_begins T p0 p1) T T := fr_rfl
  unfold x_x_begins
  refine fr_jn (Q := (FrP (W_x_begins T p0 p1) T)) (J := fun (KJ1 : Int32 × St) (OJ1 : Prop) => OJ1 → (FrP (W_x_begins T p0 p1) T) (KJ1)) kk (fun  kk => ?_) (fun KJ1 OJ1 hJ1 kk => ?_)
  · skip
    obtain ⟨q4, kk⟩ := kk
    refine fr_if (Q := (FrP (W_x_begins T p0 p1) T)) (fun c22_6 => ?_) (fun c22_6 => ?_)
    · have kk := kk c22_6
      obtain ⟨q5, kk⟩ := kk
      refine fr_if (Q := (FrP (W_x_begins T p0 p1) T)) (fun c32_7 => ?_) (fun c32_7 => ?_)
      · exact frp_i (fr_tr hT (frp_o (fr_x_findsPlan p0 q5)) (fun c h => hW c (by unfold W_x_findsPlan at h; unfold W_x_begins; omega)))
      · have kk := kk c32_7
        refine fr_if (Q := (FrP (W_x_begins T p0 p1) T)) (fun c43_8 => ?_) (fun c43_8 => ?_)
        · exact frp_i (fr_tr hT (frp_o (fr_x_findsPlan p0 q5)) (fun c h => hW c (by unfold W_x_findsPlan at h; unfold W_x_begins; omega)))
        · have kk := kk c43_8
          obtain ⟨q6, kk⟩ := kk
          have gq6 := in_lt q6
          exact frp_i (fr_tr hT (frp_o (fr_x_findsPlan p0 q5)) (fun c h => hW c (by unfold W_x_findsPlan at h; unfold W_x_begins; omega)))
    · exact frp_i hT
  · skip
    refine fr_if (Q := (FrP (W_x_begins T p0 p1) T)) (fun c5_9 => ?_) (fun c5_9 => ?_)
    · have kk := kk.1 c5_9
      exact hJ1  kk
    · have kk := kk.2 c5_9
      refine fr_if (Q := (FrP (W_x_begins T p0 p1) T)) (fun c9_10 => ?_) (fun c9_10 => ?_)
      · have kk := kk.1 c9_10
        exact hJ1  kk
      · have kk := kk.2 c9_10
        obtain ⟨q7, kk⟩ := kk
        refine fr_if (Q := (FrP (W_x_begins T p0 p1) T)) (fun c22_11 => ?_) (fun c22_11 => ?_)
        · have kk := kk c22_11
          obtain ⟨q8, kk⟩ := kk
          refine fr_if (Q := (FrP (W_x_begins T p0 p1) T)) (fun c32_12 => ?_) (fun c32_12 => ?_)
          · exact frp_i (fr_tr hT (frp_o (fr_x_findsPlan p0 q8)) (fun c h => hW c (by unfold W_x_findsPlan at h; unfold W_x_begins; omega)))
          · have kk := kk c32_12
            refine fr_if (Q := (FrP (W_x_begins T p0 p1) T)) (fun c43_13 => ?_) (fun c43_13 => ?_)
            · exact frp_i (fr_tr hT (frp_o (fr_x_findsPlan p0 q8)) (fun c h => hW c (by unfold W_x_findsPlan at h; unfold W_x_begins; omega)))
            · have kk := kk c43_13
              obtain ⟨q9, kk⟩ := kk
              have gq9 := in_lt q9
              exact frp_i (fr_tr hT (frp_o (fr_x_findsPlan p0 q8)) (fun c h => hW c (by unfold W_x_findsPlan at h; unfold W_x_begins; omega)))
        · exact frp_i hT
def WL_x_earliest_58  : Nat → Prop := fun c => (82 ≤ c ∧ c < 84) ∨ (85 ≤ c ∧ c < 93) ∨ (94 ≤ c ∧ c < 99) ∨ (100 ≤ c ∧ c < 105) ∨ (123 ≤ c ∧ c < 527) ∨ (18012 ≤ c ∧ c < 18015) ∨ (18017 ≤ c ∧ c < 18018) ∨ (22300 ≤ c ∧ c < 60700) ∨ c = 5002 ∨ c = 5003
theorem fr_x_earliest_58 {W : Nat → Prop} {T0 : St}  {K : Int32 → St → Int32 × St} {Kk : Int32 → St → Prop} (hW : ∀ c, WL_x_earliest_58  c → W c) (hk : ∀ (v1 : Int32) (T : St), Fr W T0 T → Kk v1 T → (FrP W T0) (K v1 T)) : ∀ (f : Nat) (v1 : Int32) (T : St), Fr W T0 T → ok_x_earliest_58  Kk f v1 T → (FrP W T0) (x_x_earliest_58  K f v1 T) := by
  intro f
  induction f with
  | zero => intro v1 T hT kk; exact kk.elim
  | succ f ih =>
    intro v1 T hT kk
    rw [ok_x_earliest_58] at kk
    rw [x_x_earliest_58]
    refine fr_if (Q := (FrP W T0)) (fun c61_3 => ?_) (fun c61_3 => ?_)
    · have kk := kk.1 c61_3
      exact hk v1 T hT kk
    · have kk := kk.2 c61_3
      obtain ⟨q6, kk⟩ := kk
      obtain ⟨q7, kk⟩ := kk
      refine fr_if (Q := (FrP W T0)) (fun c80_4 => ?_) (fun c80_4 => ?_)
      · have kk := kk c80_4
        exact ih (v1 + 1) ((x_x_isPossible T 76 (T.1 (T.2.1 0) 17) v1).2) (fr_tr hT (frp_o (fr_x_isPossible 76 (T.1 (T.2.1 0) 17) v1 q7)) (fun c h => hW c (by unfold W_x_isPossible at h; unfold WL_x_earliest_58; omega))) kk
      · exact frp_i (fr_tr hT (frp_o (fr_x_isPossible 76 (T.1 (T.2.1 0) 17) v1 q7)) (fun c h => hW c (by unfold W_x_isPossible at h; unfold WL_x_earliest_58; omega)))
def W_x_earliest (T : St)  : Nat → Prop := fun c => (79 ≤ c ∧ c < 80) ∨ (82 ≤ c ∧ c < 84) ∨ (85 ≤ c ∧ c < 93) ∨ (94 ≤ c ∧ c < 99) ∨ (100 ≤ c ∧ c < 105) ∨ (123 ≤ c ∧ c < 527) ∨ (18012 ≤ c ∧ c < 18015) ∨ (18017 ≤ c ∧ c < 18018) ∨ (22300 ≤ c ∧ c < 60700) ∨ c = 5002 ∨ c = 5003
theorem fr_x_earliest {T : St}  (kk : ok_x_earliest T ) : FrP (W_x_earliest T ) T (x_x_earliest T ) := by
  unfold ok_x_earliest at kk
  have hW : ∀ c, W_x_earliest T  c → W_x_earliest T  c := fun _ h => h
  have hT : Fr (W_x_earliest T ) T T := fr_rfl
  unfold x_x_earliest
  obtain ⟨q1, kk⟩ := kk
  obtain ⟨q2, kk⟩ := kk
  refine fr_if (Q := (FrP (W_x_earliest T ) T)) (fun c7_1 => ?_) (fun c7_1 => ?_)
  · exact frp_i hT
  · have kk := kk c7_1
    obtain ⟨q3, kk⟩ := kk
    obtain ⟨q4, kk⟩ := kk
    obtain ⟨q5, kk⟩ := kk
    refine fr_nT (Q := (FrP (W_x_earliest T ) T)) (fr_tr (fr_tr hT ((fr_ki_giveAll 78 (T.2.1 0) (T.2.2.1 ((T.2.1 0) + 1) (5 : Int32).toNatClampNeg) q3)) (fun c h => hW c (by unfold W_ki_giveAll at h; unfold W_x_earliest; omega))) (frp_o (fr_x_isPossible 78 ((x_ki_giveAll T 78 (T.2.1 0) (T.2.2.1 ((T.2.1 0) + 1) (5 : Int32).toNatClampNeg)).1 ((x_ki_giveAll T 78 (T.2.1 0) (T.2.2.1 ((T.2.1 0) + 1) (5 : Int32).toNatClampNeg)).2.1 0) 17) 60 q5)) (fun c h => hW c (by unfold W_x_isPossible at h; unfold W_x_earliest; omega))) kk (fun T1 hT1 kk => ?_)
    refine fr_if (Q := (FrP (W_x_earliest T ) T)) (fun c50_2 => ?_) (fun c50_2 => ?_)
    · exact frp_i hT1
    · have kk := kk c50_2
      refine fr_x_earliest_58  (fun c h => hW c (by unfold WL_x_earliest_58 at h; unfold W_x_earliest; omega)) (fun w1_1 T201 hT201 kk => ?_) 1000 1 T1 hT1 kk
      exact frp_i hT201
def W_x_heat (T : St) (p0 : Int32) (p1 : Int32) : Nat → Prop := fun c => (82 ≤ c ∧ c < 84) ∨ (85 ≤ c ∧ c < 93) ∨ (94 ≤ c ∧ c < 99) ∨ (100 ≤ c ∧ c < 105) ∨ (123 ≤ c ∧ c < 527) ∨ (529 ≤ c ∧ c < 532) ∨ (558 ≤ c ∧ c < 564) ∨ (10014 ≤ c ∧ c < 10016) ∨ (18012 ≤ c ∧ c < 18015) ∨ (18017 ≤ c ∧ c < 18018) ∨ (22300 ≤ c ∧ c < 60700) ∨ (65700 ≤ c ∧ c < 65800) ∨ c = 5002 ∨ c = 5003
theorem fr_x_heat {T : St} (p0 : Int32) (p1 : Int32) (kk : ok_x_heat T p0 p1) : FrP (W_x_heat T p0 p1) T (x_x_heat T p0 p1) := by
  unfold ok_x_heat at kk
  have hW : ∀ c, W_x_heat T p0 p1 c → W_x_heat T p0 p1 c := fun _ h => h
  have hT : Fr (W_x_heat T p0 p1) T T := fr_rfl
  unfold x_x_heat
  refine fr_jn (Q := (FrP (W_x_heat T p0 p1) T)) (J := fun (KJ1 : Int32 × St) (OJ1 : Prop) => OJ1 → (FrP (W_x_heat T p0 p1) T) (KJ1)) kk (fun  kk => ?_) (fun KJ1 OJ1 hJ1 kk => ?_)
  · skip
    obtain ⟨q7, kk⟩ := kk
    refine fr_if (Q := (FrP (W_x_heat T p0 p1) T)) (fun c25_5 => ?_) (fun c25_5 => ?_)
    · have kk := kk c25_5
      obtain ⟨q8, kk⟩ := kk
      refine fr_if (Q := (FrP (W_x_heat T p0 p1) T)) (fun c35_6 => ?_) (fun c35_6 => ?_)
      · exact frp_i (fr_tr hT (frp_o (fr_x_findsPlan p0 q8)) (fun c h => hW c (by unfold W_x_findsPlan at h; unfold W_x_heat; omega)))
      · have kk := kk c35_6
        obtain ⟨q9, kk⟩ := kk
        obtain ⟨q10, kk⟩ := kk
        obtain ⟨q11, kk⟩ := kk
        refine fr_nT (Q := (FrP (W_x_heat T p0 p1) T)) (fr_tr (fr_tr (fr_tr hT (frp_o (fr_x_findsPlan p0 q8)) (fun c h => hW c (by unfold W_x_findsPlan at h; unfold W_x_heat; omega))) ((fr_ov_want (((x_x_findsPlan T p0).2).2.1 0) 557 q9)) (fun c h => hW c (by unfold W_ov_want at h; unfold W_x_heat; omega))) ((fr_ov_settle ((x_ov_want ((x_x_findsPlan T p0).2) (((x_x_findsPlan T p0).2).2.1 0) 557).2.2.1 (((x_ov_want ((x_x_findsPlan T p0).2) (((x_x_findsPlan T p0).2).2.1 0) 557).2.1 0) + 1) (3 : Int32).toNatClampNeg) ((x_ov_want ((x_x_findsPlan T p0).2) (((x_x_findsPlan T p0).2).2.1 0) 557).2.2.1 (((x_ov_want ((x_x_findsPlan T p0).2) (((x_x_findsPlan T p0).2).2.1 0) 557).2.1 0) + 1) (4 : Int32).toNatClampNeg) q11)) (fun c h => hW c (by unfold W_ov_settle at h; unfold W_x_heat; omega))) kk (fun T2 hT2 kk => ?_)
        obtain ⟨q12, kk⟩ := kk
        have gq12 := in_lt q12
        exact frp_i hT2
    · exact frp_i hT
  · skip
    refine fr_if (Q := (FrP (W_x_heat T p0 p1) T)) (fun c5_7 => ?_) (fun c5_7 => ?_)
    · have kk := kk.1 c5_7
      exact hJ1  kk
    · have kk := kk.2 c5_7
      refine fr_if (Q := (FrP (W_x_heat T p0 p1) T)) (fun c12_8 => ?_) (fun c12_8 => ?_)
      · have kk := kk.1 c12_8
        exact hJ1  kk
      · have kk := kk.2 c12_8
        obtain ⟨q13, kk⟩ := kk
        refine fr_if (Q := (FrP (W_x_heat T p0 p1) T)) (fun c25_9 => ?_) (fun c25_9 => ?_)
        · have kk := kk c25_9
          obtain ⟨q14, kk⟩ := kk
          refine fr_if (Q := (FrP (W_x_heat T p0 p1) T)) (fun c35_10 => ?_) (fun c35_10 => ?_)
          · exact frp_i (fr_tr hT (frp_o (fr_x_findsPlan p0 q14)) (fun c h => hW c (by unfold W_x_findsPlan at h; unfold W_x_heat; omega)))
          · have kk := kk c35_10
            obtain ⟨q15, kk⟩ := kk
            obtain ⟨q16, kk⟩ := kk
            obtain ⟨q17, kk⟩ := kk
            refine fr_nT (Q := (FrP (W_x_heat T p0 p1) T)) (fr_tr (fr_tr (fr_tr hT (frp_o (fr_x_findsPlan p0 q14)) (fun c h => hW c (by unfold W_x_findsPlan at h; unfold W_x_heat; omega))) ((fr_ov_want (((x_x_findsPlan T p0).2).2.1 0) 557 q15)) (fun c h => hW c (by unfold W_ov_want at h; unfold W_x_heat; omega))) ((fr_ov_settle ((x_ov_want ((x_x_findsPlan T p0).2) (((x_x_findsPlan T p0).2).2.1 0) 557).2.2.1 (((x_ov_want ((x_x_findsPlan T p0).2) (((x_x_findsPlan T p0).2).2.1 0) 557).2.1 0) + 1) (3 : Int32).toNatClampNeg) ((x_ov_want ((x_x_findsPlan T p0).2) (((x_x_findsPlan T p0).2).2.1 0) 557).2.2.1 (((x_ov_want ((x_x_findsPlan T p0).2) (((x_x_findsPlan T p0).2).2.1 0) 557).2.1 0) + 1) (4 : Int32).toNatClampNeg) q17)) (fun c h => hW c (by unfold W_ov_settle at h; unfold W_x_heat; omega))) kk (fun T3 hT3 kk => ?_)
            obtain ⟨q18, kk⟩ := kk
            have gq18 := in_lt q18
            exact frp_i hT3
        · exact frp_i hT
def W_x_wanted (T : St) (p0 : Int32) (p1 : Int32) (p2 : Int32) : Nat → Prop := fun c => (82 ≤ c ∧ c < 84) ∨ (85 ≤ c ∧ c < 93) ∨ (94 ≤ c ∧ c < 99) ∨ (100 ≤ c ∧ c < 105) ∨ (123 ≤ c ∧ c < 527) ∨ (534 ≤ c ∧ c < 555) ∨ (558 ≤ c ∧ c < 564) ∨ (10014 ≤ c ∧ c < 10016) ∨ (18012 ≤ c ∧ c < 18015) ∨ (18017 ≤ c ∧ c < 18018) ∨ (22300 ≤ c ∧ c < 60700) ∨ (63900 ≤ c ∧ c < 65500) ∨ (65700 ≤ c ∧ c < 65800) ∨ c = 5002 ∨ c = 5003
theorem fr_x_wanted {T : St} (p0 : Int32) (p1 : Int32) (p2 : Int32) (kk : ok_x_wanted T p0 p1 p2) : FrP (W_x_wanted T p0 p1 p2) T (x_x_wanted T p0 p1 p2) := by
  unfold ok_x_wanted at kk
  have hW : ∀ c, W_x_wanted T p0 p1 p2 c → W_x_wanted T p0 p1 p2 c := fun _ h => h
  have hT : Fr (W_x_wanted T p0 p1 p2) T T := fr_rfl
  unfold x_x_wanted
  refine fr_jn (Q := (FrP (W_x_wanted T p0 p1 p2) T)) (J := fun (KJ1 : Int32 × St) (OJ1 : Prop) => OJ1 → (FrP (W_x_wanted T p0 p1 p2) T) (KJ1)) kk (fun  kk => ?_) (fun KJ1 OJ1 hJ1 kk => ?_)
  · skip
    obtain ⟨q6, kk⟩ := kk
    refine fr_if (Q := (FrP (W_x_wanted T p0 p1 p2) T)) (fun c39_7 => ?_) (fun c39_7 => ?_)
    · have kk := kk c39_7
      obtain ⟨q7, kk⟩ := kk
      refine fr_if (Q := (FrP (W_x_wanted T p0 p1 p2) T)) (fun c50_8 => ?_) (fun c50_8 => ?_)
      · exact frp_i (fr_tr hT (frp_o (fr_x_findsPlan p0 q7)) (fun c h => hW c (by unfold W_x_findsPlan at h; unfold W_x_wanted; omega)))
      · have kk := kk c50_8
        obtain ⟨q8, kk⟩ := kk
        obtain ⟨q9, kk⟩ := kk
        have gq9 := in_lt q9
        obtain ⟨q10, kk⟩ := kk
        exact frp_i (fr_tr (fr_tr hT (frp_o (fr_x_findsPlan p0 q7)) (fun c h => hW c (by unfold W_x_findsPlan at h; unfold W_x_wanted; omega))) ((fr_jd_lay (((x_x_findsPlan T p0).2).2.1 0) 76 557 q8)) (fun c h => hW c (by unfold W_jd_lay at h; unfold W_x_wanted; omega)))
    · exact frp_i hT
  · skip
    refine fr_if (Q := (FrP (W_x_wanted T p0 p1 p2) T)) (fun c5_9 => ?_) (fun c5_9 => ?_)
    · have kk := kk.1 c5_9
      exact hJ1  kk
    · have kk := kk.2 c5_9
      refine fr_if (Q := (FrP (W_x_wanted T p0 p1 p2) T)) (fun c12_10 => ?_) (fun c12_10 => ?_)
      · have kk := kk.1 c12_10
        exact hJ1  kk
      · have kk := kk.2 c12_10
        refine fr_if (Q := (FrP (W_x_wanted T p0 p1 p2) T)) (fun c16_11 => ?_) (fun c16_11 => ?_)
        · have kk := kk.1 c16_11
          exact hJ1  kk
        · have kk := kk.2 c16_11
          refine fr_if (Q := (FrP (W_x_wanted T p0 p1 p2) T)) (fun c24_12 => ?_) (fun c24_12 => ?_)
          · have kk := kk.1 c24_12
            exact hJ1  kk
          · have kk := kk.2 c24_12
            obtain ⟨q11, kk⟩ := kk
            refine fr_if (Q := (FrP (W_x_wanted T p0 p1 p2) T)) (fun c39_13 => ?_) (fun c39_13 => ?_)
            · have kk := kk c39_13
              obtain ⟨q12, kk⟩ := kk
              refine fr_if (Q := (FrP (W_x_wanted T p0 p1 p2) T)) (fun c50_14 => ?_) (fun c50_14 => ?_)
              · exact frp_i (fr_tr hT (frp_o (fr_x_findsPlan p0 q12)) (fun c h => hW c (by unfold W_x_findsPlan at h; unfold W_x_wanted; omega)))
              · have kk := kk c50_14
                obtain ⟨q13, kk⟩ := kk
                obtain ⟨q14, kk⟩ := kk
                have gq14 := in_lt q14
                obtain ⟨q15, kk⟩ := kk
                exact frp_i (fr_tr (fr_tr hT (frp_o (fr_x_findsPlan p0 q12)) (fun c h => hW c (by unfold W_x_findsPlan at h; unfold W_x_wanted; omega))) ((fr_jd_lay (((x_x_findsPlan T p0).2).2.1 0) 76 557 q13)) (fun c h => hW c (by unfold W_jd_lay at h; unfold W_x_wanted; omega)))
            · exact frp_i hT
def WL_x_more_34 (l1 : Int32) (l2 : Int32) : Nat → Prop := fun c => (82 ≤ c ∧ c < 84) ∨ (85 ≤ c ∧ c < 93) ∨ (94 ≤ c ∧ c < 99) ∨ (100 ≤ c ∧ c < 105) ∨ (123 ≤ c ∧ c < 527) ∨ (18012 ≤ c ∧ c < 18015) ∨ (18017 ≤ c ∧ c < 18018) ∨ (22300 ≤ c ∧ c < 60700) ∨ c = 5002 ∨ c = 5003
theorem fr_x_more_34 {W : Nat → Prop} {T0 : St} (l1 : Int32) (l2 : Int32) {K : Int32 → Int32 → St → Int32 × St} {Kk : Int32 → Int32 → St → Prop} (hW : ∀ c, WL_x_more_34 l1 l2 c → W c) (hk : ∀ (v3 : Int32) (v4 : Int32) (T : St), Fr W T0 T → Kk v3 v4 T → (FrP W T0) (K v3 v4 T)) : ∀ (f : Nat) (v3 : Int32) (v4 : Int32) (T : St), Fr W T0 T → ok_x_more_34 l1 l2 Kk f v3 v4 T → (FrP W T0) (x_x_more_34 l1 l2 K f v3 v4 T) := by
  intro f
  induction f with
  | zero => intro v3 v4 T hT kk; exact kk.elim
  | succ f ih =>
    intro v3 v4 T hT kk
    rw [ok_x_more_34] at kk
    rw [x_x_more_34]
    obtain ⟨q3, kk⟩ := kk
    refine fr_if (Q := (FrP W T0)) (fun c43_3 => ?_) (fun c43_3 => ?_)
    · have kk := kk.1 c43_3
      exact hk v3 v4 T hT kk
    · have kk := kk.2 c43_3
      refine fr_if (Q := (FrP W T0)) (fun c62_4 => ?_) (fun c62_4 => ?_)
      · have kk := kk.1 c62_4
        obtain ⟨q4, kk⟩ := kk
        refine fr_if (Q := (FrP W T0)) (fun c84_5 => ?_) (fun c84_5 => ?_)
        · have kk := kk.1 c84_5
          exact ih v3 (v4 + 1) ((x_x_isPossible T 76 ((T.1 (T.2.1 0) 17) ||| (1 <<< (v4 &&& 31))) l1).2) (fr_tr hT (frp_o (fr_x_isPossible 76 ((T.1 (T.2.1 0) 17) ||| (1 <<< (v4 &&& 31))) l1 q4)) (fun c h => hW c (by unfold W_x_isPossible at h; unfold WL_x_more_34; omega))) kk
        · have kk := kk.2 c84_5
          refine fr_n (Q := (FrP W T0)) kk (fun i2 kk => ?_)
          exact ih i2 (v4 + 1) ((x_x_isPossible T 76 ((T.1 (T.2.1 0) 17) ||| (1 <<< (v4 &&& 31))) l1).2) (fr_tr hT (frp_o (fr_x_isPossible 76 ((T.1 (T.2.1 0) 17) ||| (1 <<< (v4 &&& 31))) l1 q4)) (fun c h => hW c (by unfold W_x_isPossible at h; unfold WL_x_more_34; omega))) kk
      · have kk := kk.2 c62_4
        exact ih v3 (v4 + 1) T hT kk
def W_x_more (T : St) (p0 : Int32) : Nat → Prop := fun c => (82 ≤ c ∧ c < 84) ∨ (85 ≤ c ∧ c < 93) ∨ (94 ≤ c ∧ c < 99) ∨ (100 ≤ c ∧ c < 105) ∨ (123 ≤ c ∧ c < 527) ∨ (18012 ≤ c ∧ c < 18015) ∨ (18017 ≤ c ∧ c < 18018) ∨ (22300 ≤ c ∧ c < 60700) ∨ c = 5002 ∨ c = 5003
theorem fr_x_more {T : St} (p0 : Int32) (kk : ok_x_more T p0) : FrP (W_x_more T p0) T (x_x_more T p0) := by
  unfold ok_x_more at kk
  have hW : ∀ c, W_x_more T p0 c → W_x_more T p0 c := fun _ h => h
  have hT : Fr (W_x_more T p0) T T := fr_rfl
  unfold x_x_more
  obtain ⟨q1, kk⟩ := kk
  refine fr_n (Q := (FrP (W_x_more T p0) T)) kk (fun i1 kk => ?_)
  refine fr_if (Q := (FrP (W_x_more T p0) T)) (fun c10_1 => ?_) (fun c10_1 => ?_)
  · have kk := kk c10_1
    obtain ⟨q2, kk⟩ := kk
    refine fr_if (Q := (FrP (W_x_more T p0) T)) (fun c28_2 => ?_) (fun c28_2 => ?_)
    · exact frp_i hT
    · have kk := kk c28_2
      refine fr_x_more_34 p0 i1 (fun c h => hW c (by unfold WL_x_more_34 at h; unfold W_x_more; omega)) (fun w1_3 w1_4 T201 hT201 kk => ?_) 1000 0 0 T hT kk
      exact frp_i hT201
  · exact frp_i hT
def W_x_mend (T : St) (p0 : Int32) (p1 : Int32) : Nat → Prop := fun c => (79 ≤ c ∧ c < 80) ∨ (82 ≤ c ∧ c < 84) ∨ (85 ≤ c ∧ c < 93) ∨ (94 ≤ c ∧ c < 99) ∨ (100 ≤ c ∧ c < 105) ∨ (123 ≤ c ∧ c < 527) ∨ (558 ≤ c ∧ c < 564) ∨ (10014 ≤ c ∧ c < 10016) ∨ (18012 ≤ c ∧ c < 18015) ∨ (18017 ≤ c ∧ c < 18018) ∨ (22300 ≤ c ∧ c < 60700) ∨ (65700 ≤ c ∧ c < 65800) ∨ c = 5002 ∨ c = 5003
theorem fr_x_mend {T : St} (p0 : Int32) (p1 : Int32) (kk : ok_x_mend T p0 p1) : FrP (W_x_mend T p0 p1) T (x_x_mend T p0 p1) := by
  unfold ok_x_mend at kk
  have hW : ∀ c, W_x_mend T p0 p1 c → W_x_mend T p0 p1 c := fun _ h => h
  have hT : Fr (W_x_mend T p0 p1) T T := fr_rfl
  unfold x_x_mend
  refine fr_jn (Q := (FrP (W_x_mend T p0 p1) T)) (J := fun (KJ1 : Int32 × St) (OJ1 : Prop) => OJ1 → (FrP (W_x_mend T p0 p1) T) (KJ1)) kk (fun  kk => ?_) (fun KJ1 OJ1 hJ1 kk => ?_)
  · skip
    obtain ⟨q13, kk⟩ := kk
    refine fr_if (Q := (FrP (W_x_mend T p0 p1) T)) (fun c25_8 => ?_) (fun c25_8 => ?_)
    · have kk := kk c25_8
      obtain ⟨q14, kk⟩ := kk
      refine fr_if (Q := (FrP (W_x_mend T p0 p1) T)) (fun c39_9 => ?_) (fun c39_9 => ?_)
      · exact frp_i hT
      · have kk := kk c39_9
        refine fr_if (Q := (FrP (W_x_mend T p0 p1) T)) (fun c51_10 => ?_) (fun c51_10 => ?_)
        · have kk := kk c51_10
          obtain ⟨q15, kk⟩ := kk
          refine fr_if (Q := (FrP (W_x_mend T p0 p1) T)) (fun c62_11 => ?_) (fun c62_11 => ?_)
          · exact frp_i (fr_tr hT (frp_o (fr_x_findsPlan p0 q15)) (fun c h => hW c (by unfold W_x_findsPlan at h; unfold W_x_mend; omega)))
          · have kk := kk c62_11
            obtain ⟨q16, kk⟩ := kk
            obtain ⟨q17, kk⟩ := kk
            refine fr_nT (Q := (FrP (W_x_mend T p0 p1) T)) (fr_tr (fr_tr hT (frp_o (fr_x_findsPlan p0 q15)) (fun c h => hW c (by unfold W_x_findsPlan at h; unfold W_x_mend; omega))) ((fr_ki_fit 78 (((x_x_findsPlan T p0).2).2.1 0) (((x_x_findsPlan T p0).2).2.2.1 ((((x_x_findsPlan T p0).2).2.1 0) + 1) (5 : Int32).toNatClampNeg) p1 q17)) (fun c h => hW c (by unfold W_ki_fit at h; unfold W_x_mend; omega))) kk (fun T3 hT3 kk => ?_)
            obtain ⟨q18, kk⟩ := kk
            obtain ⟨q19, kk⟩ := kk
            obtain ⟨q20, kk⟩ := kk
            obtain ⟨q21, kk⟩ := kk
            obtain ⟨q22, kk⟩ := kk
            refine fr_nT (Q := (FrP (W_x_mend T p0 p1) T)) (fr_tr (fr_tr (fr_tr hT3 ((fr_pl_lay (T3.2.1 0) 78 (T3.1 (T3.2.1 0) 17) p0 q19)) (fun c h => hW c (by unfold W_pl_lay at h; unfold W_x_mend; omega))) ((fr_pl_strikeUnlike 557 p1 q20)) (fun c h => hW c (by unfold W_pl_strikeUnlike at h; unfold W_x_mend; omega))) ((fr_pl_settle ((x_pl_strikeUnlike (x_pl_lay T3 (T3.2.1 0) 78 (T3.1 (T3.2.1 0) 17) p0) 557 p1).1 ((x_pl_strikeUnlike (x_pl_lay T3 (T3.2.1 0) 78 (T3.1 (T3.2.1 0) 17) p0) 557 p1).2.1 0) 17) q22)) (fun c h => hW c (by unfold W_pl_settle at h; unfold W_x_mend; omega))) kk (fun T4 hT4 kk => ?_)
            obtain ⟨q23, kk⟩ := kk
            obtain ⟨q24, kk⟩ := kk
            refine fr_if (Q := (FrP (W_x_mend T p0 p1) T)) (fun c153_12 => ?_) (fun c153_12 => ?_)
            · exact frp_i (fr_tr hT4 (frp_o (fr_pl_finds (T4.1 (T4.2.1 0) 17) 0 q24)) (fun c h => hW c (by unfold W_pl_finds at h; unfold W_x_mend; omega)))
            · exact frp_i (fr_tr hT4 (frp_o (fr_pl_finds (T4.1 (T4.2.1 0) 17) 0 q24)) (fun c h => hW c (by unfold W_pl_finds at h; unfold W_x_mend; omega)))
        · exact frp_i hT
    · exact frp_i hT
  · skip
    refine fr_if (Q := (FrP (W_x_mend T p0 p1) T)) (fun c5_13 => ?_) (fun c5_13 => ?_)
    · have kk := kk.1 c5_13
      exact hJ1  kk
    · have kk := kk.2 c5_13
      refine fr_if (Q := (FrP (W_x_mend T p0 p1) T)) (fun c12_14 => ?_) (fun c12_14 => ?_)
      · have kk := kk.1 c12_14
        exact hJ1  kk
      · have kk := kk.2 c12_14
        obtain ⟨q25, kk⟩ := kk
        refine fr_if (Q := (FrP (W_x_mend T p0 p1) T)) (fun c25_15 => ?_) (fun c25_15 => ?_)
        · have kk := kk c25_15
          obtain ⟨q26, kk⟩ := kk
          refine fr_if (Q := (FrP (W_x_mend T p0 p1) T)) (fun c39_16 => ?_) (fun c39_16 => ?_)
          · exact frp_i hT
          · have kk := kk c39_16
            refine fr_if (Q := (FrP (W_x_mend T p0 p1) T)) (fun c51_17 => ?_) (fun c51_17 => ?_)
            · have kk := kk c51_17
              obtain ⟨q27, kk⟩ := kk
              refine fr_if (Q := (FrP (W_x_mend T p0 p1) T)) (fun c62_18 => ?_) (fun c62_18 => ?_)
              · exact frp_i (fr_tr hT (frp_o (fr_x_findsPlan p0 q27)) (fun c h => hW c (by unfold W_x_findsPlan at h; unfold W_x_mend; omega)))
              · have kk := kk c62_18
                obtain ⟨q28, kk⟩ := kk
                obtain ⟨q29, kk⟩ := kk
                refine fr_nT (Q := (FrP (W_x_mend T p0 p1) T)) (fr_tr (fr_tr hT (frp_o (fr_x_findsPlan p0 q27)) (fun c h => hW c (by unfold W_x_findsPlan at h; unfold W_x_mend; omega))) ((fr_ki_fit 78 (((x_x_findsPlan T p0).2).2.1 0) (((x_x_findsPlan T p0).2).2.2.1 ((((x_x_findsPlan T p0).2).2.1 0) + 1) (5 : Int32).toNatClampNeg) p1 q29)) (fun c h => hW c (by unfold W_ki_fit at h; unfold W_x_mend; omega))) kk (fun T5 hT5 kk => ?_)
                obtain ⟨q30, kk⟩ := kk
                obtain ⟨q31, kk⟩ := kk
                obtain ⟨q32, kk⟩ := kk
                obtain ⟨q33, kk⟩ := kk
                obtain ⟨q34, kk⟩ := kk
                refine fr_nT (Q := (FrP (W_x_mend T p0 p1) T)) (fr_tr (fr_tr (fr_tr hT5 ((fr_pl_lay (T5.2.1 0) 78 (T5.1 (T5.2.1 0) 17) p0 q31)) (fun c h => hW c (by unfold W_pl_lay at h; unfold W_x_mend; omega))) ((fr_pl_strikeUnlike 557 p1 q32)) (fun c h => hW c (by unfold W_pl_strikeUnlike at h; unfold W_x_mend; omega))) ((fr_pl_settle ((x_pl_strikeUnlike (x_pl_lay T5 (T5.2.1 0) 78 (T5.1 (T5.2.1 0) 17) p0) 557 p1).1 ((x_pl_strikeUnlike (x_pl_lay T5 (T5.2.1 0) 78 (T5.1 (T5.2.1 0) 17) p0) 557 p1).2.1 0) 17) q34)) (fun c h => hW c (by unfold W_pl_settle at h; unfold W_x_mend; omega))) kk (fun T6 hT6 kk => ?_)
                obtain ⟨q35, kk⟩ := kk
                obtain ⟨q36, kk⟩ := kk
                refine fr_if (Q := (FrP (W_x_mend T p0 p1) T)) (fun c153_19 => ?_) (fun c153_19 => ?_)
                · exact frp_i (fr_tr hT6 (frp_o (fr_pl_finds (T6.1 (T6.2.1 0) 17) 0 q36)) (fun c h => hW c (by unfold W_pl_finds at h; unfold W_x_mend; omega)))
                · exact frp_i (fr_tr hT6 (frp_o (fr_pl_finds (T6.1 (T6.2.1 0) 17) 0 q36)) (fun c h => hW c (by unfold W_pl_finds at h; unfold W_x_mend; omega)))
            · exact frp_i hT
        · exact frp_i hT
def WL_x_slack_63 (l1 : Int32) (l2 : Int32) (l3 : Int32) : Nat → Prop := fun c => (529 ≤ c ∧ c < 531) ∨ (534 ≤ c ∧ c < 555) ∨ (569 ≤ c ∧ c < 570) ∨ (63900 ≤ c ∧ c < 65500)
theorem fr_x_slack_63 {W : Nat → Prop} {T0 : St} (l1 : Int32) (l2 : Int32) (l3 : Int32) {K : Int32 → St → Int32 × St} {Kk : Int32 → St → Prop} (hW : ∀ c, WL_x_slack_63 l1 l2 l3 c → W c) (hk : ∀ (v4 : Int32) (T : St), Fr W T0 T → Kk v4 T → (FrP W T0) (K v4 T)) : ∀ (f : Nat) (v4 : Int32) (T : St), Fr W T0 T → ok_x_slack_63 l1 l2 l3 Kk f v4 T → (FrP W T0) (x_x_slack_63 l1 l2 l3 K f v4 T) := by
  intro f
  induction f with
  | zero => intro v4 T hT kk; exact kk.elim
  | succ f ih =>
    intro v4 T hT kk
    rw [ok_x_slack_63] at kk
    rw [x_x_slack_63]
    refine fr_if (Q := (FrP W T0)) (fun c67_6 => ?_) (fun c67_6 => ?_)
    · have kk := kk.1 c67_6
      exact hk v4 T hT kk
    · have kk := kk.2 c67_6
      obtain ⟨q4, kk⟩ := kk
      have gq4 := in_lt q4
      obtain ⟨q5, kk⟩ := kk
      refine fr_nT (Q := (FrP W T0)) (fr_tr (fr_sA hT (hW _ (by unfold WL_x_slack_63; omega))) (frp_o (fr_jd_judged ((sA T 569 (l2 : Int32).toNatClampNeg ((T.2.2.1 569 (l2 : Int32).toNatClampNeg) + 1)).2.1 0) 76 564 l1 q5)) (fun c h => hW c (by unfold W_jd_judged at h; unfold WL_x_slack_63; omega))) kk (fun T1 hT1 kk => ?_)
      refine fr_if (Q := (FrP W T0)) (fun c103_7 => ?_) (fun c103_7 => ?_)
      · have kk := kk c103_7
        exact ih (v4 + 1) T1 hT1 kk
      · exact frp_i hT1
def W_x_slack (T : St) (p0 : Int32) (p1 : Int32) : Nat → Prop := fun c => (82 ≤ c ∧ c < 84) ∨ (85 ≤ c ∧ c < 93) ∨ (94 ≤ c ∧ c < 99) ∨ (100 ≤ c ∧ c < 105) ∨ (123 ≤ c ∧ c < 527) ∨ (529 ≤ c ∧ c < 531) ∨ (534 ≤ c ∧ c < 555) ∨ (558 ≤ c ∧ c < 564) ∨ (565 ≤ c ∧ c < 571) ∨ (10014 ≤ c ∧ c < 10016) ∨ (18012 ≤ c ∧ c < 18015) ∨ (18017 ≤ c ∧ c < 18018) ∨ (22300 ≤ c ∧ c < 60700) ∨ (63900 ≤ c ∧ c < 65500) ∨ (65700 ≤ c ∧ c < 65800) ∨ (66400 ≤ c ∧ c < 66500) ∨ c = 5002 ∨ c = 5003
theorem fr_x_slack {T : St} (p0 : Int32) (p1 : Int32) (kk : ok_x_slack T p0 p1) : FrP (W_x_slack T p0 p1) T (x_x_slack T p0 p1) := by
  unfold ok_x_slack at kk
  have hW : ∀ c, W_x_slack T p0 p1 c → W_x_slack T p0 p1 c := fun _ h => h
  have hT : Fr (W_x_slack T p0 p1) T T := fr_rfl
  unfold x_x_slack
  refine fr_jn (Q := (FrP (W_x_slack T p0 p1) T)) (J := fun (KJ1 : Int32 × St) (OJ1 : Prop) => OJ1 → (FrP (W_x_slack T p0 p1) T) (KJ1)) kk (fun  kk => ?_) (fun KJ1 OJ1 hJ1 kk => ?_)
  · skip
    obtain ⟨q6, kk⟩ := kk
    refine fr_if (Q := (FrP (W_x_slack T p0 p1) T)) (fun c22_8 => ?_) (fun c22_8 => ?_)
    · have kk := kk c22_8
      obtain ⟨q7, kk⟩ := kk
      refine fr_if (Q := (FrP (W_x_slack T p0 p1) T)) (fun c32_9 => ?_) (fun c32_9 => ?_)
      · exact frp_i (fr_tr hT (frp_o (fr_x_findsPlan p0 q7)) (fun c h => hW c (by unfold W_x_findsPlan at h; unfold W_x_slack; omega)))
      · have kk := kk c32_9
        refine fr_if (Q := (FrP (W_x_slack T p0 p1) T)) (fun c43_10 => ?_) (fun c43_10 => ?_)
        · have kk := kk c43_10
          obtain ⟨q8, kk⟩ := kk
          refine fr_x_slack_63 p0 p1 (x_x_refusal T 0) (fun c h => hW c (by unfold WL_x_slack_63 at h; unfold W_x_slack; omega)) (fun w2_4 T202 hT202 kk => ?_) 1000 0 (x_ro_take ((x_x_findsPlan T p0).2) 564 557) (fr_tr (fr_tr hT (frp_o (fr_x_findsPlan p0 q7)) (fun c h => hW c (by unfold W_x_findsPlan at h; unfold W_x_slack; omega))) ((fr_ro_take 564 557 q8)) (fun c h => hW c (by unfold W_ro_take at h; unfold W_x_slack; omega))) kk
          exact frp_i hT202
        · exact frp_i (fr_tr hT (frp_o (fr_x_findsPlan p0 q7)) (fun c h => hW c (by unfold W_x_findsPlan at h; unfold W_x_slack; omega)))
    · exact frp_i hT
  · skip
    refine fr_if (Q := (FrP (W_x_slack T p0 p1) T)) (fun c5_11 => ?_) (fun c5_11 => ?_)
    · have kk := kk.1 c5_11
      exact hJ1  kk
    · have kk := kk.2 c5_11
      refine fr_if (Q := (FrP (W_x_slack T p0 p1) T)) (fun c9_12 => ?_) (fun c9_12 => ?_)
      · have kk := kk.1 c9_12
        exact hJ1  kk
      · have kk := kk.2 c9_12
        obtain ⟨q9, kk⟩ := kk
        refine fr_if (Q := (FrP (W_x_slack T p0 p1) T)) (fun c22_13 => ?_) (fun c22_13 => ?_)
        · have kk := kk c22_13
          obtain ⟨q10, kk⟩ := kk
          refine fr_if (Q := (FrP (W_x_slack T p0 p1) T)) (fun c32_14 => ?_) (fun c32_14 => ?_)
          · exact frp_i (fr_tr hT (frp_o (fr_x_findsPlan p0 q10)) (fun c h => hW c (by unfold W_x_findsPlan at h; unfold W_x_slack; omega)))
          · have kk := kk c32_14
            refine fr_if (Q := (FrP (W_x_slack T p0 p1) T)) (fun c43_15 => ?_) (fun c43_15 => ?_)
            · have kk := kk c43_15
              obtain ⟨q11, kk⟩ := kk
              refine fr_x_slack_63 p0 p1 (x_x_refusal T 1) (fun c h => hW c (by unfold WL_x_slack_63 at h; unfold W_x_slack; omega)) (fun w3_4 T203 hT203 kk => ?_) 1000 0 (x_ro_take ((x_x_findsPlan T p0).2) 564 557) (fr_tr (fr_tr hT (frp_o (fr_x_findsPlan p0 q10)) (fun c h => hW c (by unfold W_x_findsPlan at h; unfold W_x_slack; omega))) ((fr_ro_take 564 557 q11)) (fun c h => hW c (by unfold W_ro_take at h; unfold W_x_slack; omega))) kk
              exact frp_i hT203
            · exact frp_i (fr_tr hT (frp_o (fr_x_findsPlan p0 q10)) (fun c h => hW c (by unfold W_x_findsPlan at h; unfold W_x_slack; omega)))
        · exact frp_i hT
def W_x_bears (T : St) (p0 : Int32) (p1 : Int32) (p2 : Int32) : Nat → Prop := fun c => (82 ≤ c ∧ c < 84) ∨ (85 ≤ c ∧ c < 93) ∨ (94 ≤ c ∧ c < 99) ∨ (100 ≤ c ∧ c < 105) ∨ (123 ≤ c ∧ c < 527) ∨ (529 ≤ c ∧ c < 531) ∨ (534 ≤ c ∧ c < 555) ∨ (558 ≤ c ∧ c < 564) ∨ (565 ≤ c ∧ c < 571) ∨ (10014 ≤ c ∧ c < 10016) ∨ (18012 ≤ c ∧ c < 18015) ∨ (18017 ≤ c ∧ c < 18018) ∨ (22300 ≤ c ∧ c < 60700) ∨ (63900 ≤ c ∧ c < 65500) ∨ (65700 ≤ c ∧ c < 65800) ∨ (66400 ≤ c ∧ c < 66500) ∨ c = 5002 ∨ c = 5003
theorem fr_x_bears {T : St} (p0 : Int32) (p1 : Int32) (p2 : Int32) (kk : ok_x_bears T p0 p1 p2) : FrP (W_x_bears T p0 p1 p2) T (x_x_bears T p0 p1 p2) := by
  unfold ok_x_bears at kk
  have hW : ∀ c, W_x_bears T p0 p1 p2 c → W_x_bears T p0 p1 p2 c := fun _ h => h
  have hT : Fr (W_x_bears T p0 p1 p2) T T := fr_rfl
  unfold x_x_bears
  refine fr_jn (Q := (FrP (W_x_bears T p0 p1 p2) T)) (J := fun (KJ1 : Int32 × St) (OJ1 : Prop) => OJ1 → (FrP (W_x_bears T p0 p1 p2) T) (KJ1)) kk (fun  kk => ?_) (fun KJ1 OJ1 hJ1 kk => ?_)
  · skip
    obtain ⟨q6, kk⟩ := kk
    refine fr_if (Q := (FrP (W_x_bears T p0 p1 p2) T)) (fun c35_9 => ?_) (fun c35_9 => ?_)
    · have kk := kk c35_9
      obtain ⟨q7, kk⟩ := kk
      refine fr_if (Q := (FrP (W_x_bears T p0 p1 p2) T)) (fun c46_10 => ?_) (fun c46_10 => ?_)
      · exact frp_i (fr_tr hT (frp_o (fr_x_findsPlan p0 q7)) (fun c h => hW c (by unfold W_x_findsPlan at h; unfold W_x_bears; omega)))
      · have kk := kk c46_10
        refine fr_if (Q := (FrP (W_x_bears T p0 p1 p2) T)) (fun c57_11 => ?_) (fun c57_11 => ?_)
        · have kk := kk c57_11
          obtain ⟨q8, kk⟩ := kk
          obtain ⟨q9, kk⟩ := kk
          have gq9 := in_lt q9
          refine fr_nT (Q := (FrP (W_x_bears T p0 p1 p2) T)) (fr_sA (fr_tr (fr_tr hT (frp_o (fr_x_findsPlan p0 q7)) (fun c h => hW c (by unfold W_x_findsPlan at h; unfold W_x_bears; omega))) ((fr_ro_take 564 557 q8)) (fun c h => hW c (by unfold W_ro_take at h; unfold W_x_bears; omega))) (hW _ (by unfold W_x_bears; omega))) kk (fun T2 hT2 kk => ?_)
          obtain ⟨q10, kk⟩ := kk
          refine fr_if (Q := (FrP (W_x_bears T p0 p1 p2) T)) (fun c107_12 => ?_) (fun c107_12 => ?_)
          · exact frp_i (fr_tr hT2 (frp_o (fr_jd_judged (T2.2.1 0) 76 564 p0 q10)) (fun c h => hW c (by unfold W_jd_judged at h; unfold W_x_bears; omega)))
          · exact frp_i (fr_tr hT2 (frp_o (fr_jd_judged (T2.2.1 0) 76 564 p0 q10)) (fun c h => hW c (by unfold W_jd_judged at h; unfold W_x_bears; omega)))
        · exact frp_i (fr_tr hT (frp_o (fr_x_findsPlan p0 q7)) (fun c h => hW c (by unfold W_x_findsPlan at h; unfold W_x_bears; omega)))
    · exact frp_i hT
  · skip
    refine fr_if (Q := (FrP (W_x_bears T p0 p1 p2) T)) (fun c5_13 => ?_) (fun c5_13 => ?_)
    · have kk := kk.1 c5_13
      exact hJ1  kk
    · have kk := kk.2 c5_13
      refine fr_if (Q := (FrP (W_x_bears T p0 p1 p2) T)) (fun c9_14 => ?_) (fun c9_14 => ?_)
      · have kk := kk.1 c9_14
        exact hJ1  kk
      · have kk := kk.2 c9_14
        refine fr_if (Q := (FrP (W_x_bears T p0 p1 p2) T)) (fun c14_15 => ?_) (fun c14_15 => ?_)
        · have kk := kk.1 c14_15
          exact hJ1  kk
        · have kk := kk.2 c14_15
          refine fr_if (Q := (FrP (W_x_bears T p0 p1 p2) T)) (fun c20_16 => ?_) (fun c20_16 => ?_)
          · have kk := kk.1 c20_16
            exact hJ1  kk
          · have kk := kk.2 c20_16
            obtain ⟨q11, kk⟩ := kk
            refine fr_if (Q := (FrP (W_x_bears T p0 p1 p2) T)) (fun c35_17 => ?_) (fun c35_17 => ?_)
            · have kk := kk c35_17
              obtain ⟨q12, kk⟩ := kk
              refine fr_if (Q := (FrP (W_x_bears T p0 p1 p2) T)) (fun c46_18 => ?_) (fun c46_18 => ?_)
              · exact frp_i (fr_tr hT (frp_o (fr_x_findsPlan p0 q12)) (fun c h => hW c (by unfold W_x_findsPlan at h; unfold W_x_bears; omega)))
              · have kk := kk c46_18
                refine fr_if (Q := (FrP (W_x_bears T p0 p1 p2) T)) (fun c57_19 => ?_) (fun c57_19 => ?_)
                · have kk := kk c57_19
                  obtain ⟨q13, kk⟩ := kk
                  obtain ⟨q14, kk⟩ := kk
                  have gq14 := in_lt q14
                  refine fr_nT (Q := (FrP (W_x_bears T p0 p1 p2) T)) (fr_sA (fr_tr (fr_tr hT (frp_o (fr_x_findsPlan p0 q12)) (fun c h => hW c (by unfold W_x_findsPlan at h; unfold W_x_bears; omega))) ((fr_ro_take 564 557 q13)) (fun c h => hW c (by unfold W_ro_take at h; unfold W_x_bears; omega))) (hW _ (by unfold W_x_bears; omega))) kk (fun T3 hT3 kk => ?_)
                  obtain ⟨q15, kk⟩ := kk
                  refine fr_if (Q := (FrP (W_x_bears T p0 p1 p2) T)) (fun c107_20 => ?_) (fun c107_20 => ?_)
                  · exact frp_i (fr_tr hT3 (frp_o (fr_jd_judged (T3.2.1 0) 76 564 p0 q15)) (fun c h => hW c (by unfold W_jd_judged at h; unfold W_x_bears; omega)))
                  · exact frp_i (fr_tr hT3 (frp_o (fr_jd_judged (T3.2.1 0) 76 564 p0 q15)) (fun c h => hW c (by unfold W_jd_judged at h; unfold W_x_bears; omega)))
                · exact frp_i (fr_tr hT (frp_o (fr_x_findsPlan p0 q12)) (fun c h => hW c (by unfold W_x_findsPlan at h; unfold W_x_bears; omega)))
            · exact frp_i hT
def WL_x_mind_52 (l1 : Int32) (l2 : Int32) (l3 : Int32) : Nat → Prop := fun c => c < 0
theorem fr_x_mind_52 {W : Nat → Prop} {T0 : St} (l1 : Int32) (l2 : Int32) (l3 : Int32) {K : Int32 → Int32 → Int32 → St → Int32 × St} {Kk : Int32 → Int32 → Int32 → St → Prop} (hW : ∀ c, WL_x_mind_52 l1 l2 l3 c → W c) (hk : ∀ (v4 : Int32) (v5 : Int32) (v6 : Int32) (T : St), Fr W T0 T → Kk v4 v5 v6 T → (FrP W T0) (K v4 v5 v6 T)) : ∀ (f : Nat) (v4 : Int32) (v5 : Int32) (v6 : Int32) (T : St), Fr W T0 T → ok_x_mind_52 l1 l2 l3 Kk f v4 v5 v6 T → (FrP W T0) (x_x_mind_52 l1 l2 l3 K f v4 v5 v6 T) := by
  intro f
  induction f with
  | zero => intro v4 v5 v6 T hT kk; exact kk.elim
  | succ f ih =>
    intro v4 v5 v6 T hT kk
    rw [ok_x_mind_52] at kk
    rw [x_x_mind_52]
    refine fr_if (Q := (FrP W T0)) (fun c61_5 => ?_) (fun c61_5 => ?_)
    · have kk := kk.1 c61_5
      exact hk v4 v5 v6 T hT kk
    · have kk := kk.2 c61_5
      obtain ⟨q3, kk⟩ := kk
      have gq3 := in_lt q3
      refine fr_if (Q := (FrP W T0)) (fun c75_6 => ?_) (fun c75_6 => ?_)
      · have kk := kk.1 c75_6
        exact ih v4 v5 (v6 + 1) T hT kk
      · have kk := kk.2 c75_6
        refine fr_if (Q := (FrP W T0)) (fun c90_7 => ?_) (fun c90_7 => ?_)
        · have kk := kk.1 c90_7
          exact ih v4 v5 (v6 + 1) T hT kk
        · have kk := kk.2 c90_7
          refine fr_n (Q := (FrP W T0)) kk (fun i1 kk => ?_)
          exact ih v6 i1 (v6 + 1) T hT kk
def W_x_mind (T : St) (p0 : Int32) (p1 : Int32) : Nat → Prop := fun c => (82 ≤ c ∧ c < 84) ∨ (85 ≤ c ∧ c < 93) ∨ (94 ≤ c ∧ c < 99) ∨ (100 ≤ c ∧ c < 105) ∨ (123 ≤ c ∧ c < 527) ∨ (558 ≤ c ∧ c < 564) ∨ (10014 ≤ c ∧ c < 10016) ∨ (18012 ≤ c ∧ c < 18015) ∨ (18017 ≤ c ∧ c < 18018) ∨ (22300 ≤ c ∧ c < 60700) ∨ (65700 ≤ c ∧ c < 65800) ∨ c = 5002 ∨ c = 5003
theorem fr_x_mind {T : St} (p0 : Int32) (p1 : Int32) (kk : ok_x_mind T p0 p1) : FrP (W_x_mind T p0 p1) T (x_x_mind T p0 p1) := by
  unfold ok_x_mind at kk
  have hW : ∀ c, W_x_mind T p0 p1 c → W_x_mind T p0 p1 c := fun _ h => h
  have hT : Fr (W_x_mind T p0 p1) T T := fr_rfl
  unfold x_x_mind
  refine fr_jn (Q := (FrP (W_x_mind T p0 p1) T)) (J := fun (KJ1 : Int32 × St) (OJ1 : Prop) => OJ1 → (FrP (W_x_mind T p0 p1) T) (KJ1)) kk (fun  kk => ?_) (fun KJ1 OJ1 hJ1 kk => ?_)
  · skip
    obtain ⟨q4, kk⟩ := kk
    refine fr_if (Q := (FrP (W_x_mind T p0 p1) T)) (fun c25_8 => ?_) (fun c25_8 => ?_)
    · have kk := kk c25_8
      obtain ⟨q5, kk⟩ := kk
      refine fr_if (Q := (FrP (W_x_mind T p0 p1) T)) (fun c35_9 => ?_) (fun c35_9 => ?_)
      · exact frp_i (fr_tr hT (frp_o (fr_x_findsPlan p0 q5)) (fun c h => hW c (by unfold W_x_findsPlan at h; unfold W_x_mind; omega)))
      · have kk := kk c35_9
        refine fr_x_mind_52 p0 p1 (x_x_refusal T 0) (fun c h => hW c (by unfold WL_x_mind_52 at h; unfold W_x_mind; omega)) (fun w2_4 w2_5 w2_6 T202 hT202 kk => ?_) 1000 (-1000000) 60 0 ((x_x_findsPlan T p0).2) (fr_tr hT (frp_o (fr_x_findsPlan p0 q5)) (fun c h => hW c (by unfold W_x_findsPlan at h; unfold W_x_mind; omega))) kk
        exact frp_i hT202
    · exact frp_i hT
  · skip
    refine fr_if (Q := (FrP (W_x_mind T p0 p1) T)) (fun c5_10 => ?_) (fun c5_10 => ?_)
    · have kk := kk.1 c5_10
      exact hJ1  kk
    · have kk := kk.2 c5_10
      refine fr_if (Q := (FrP (W_x_mind T p0 p1) T)) (fun c12_11 => ?_) (fun c12_11 => ?_)
      · have kk := kk.1 c12_11
        exact hJ1  kk
      · have kk := kk.2 c12_11
        obtain ⟨q6, kk⟩ := kk
        refine fr_if (Q := (FrP (W_x_mind T p0 p1) T)) (fun c25_12 => ?_) (fun c25_12 => ?_)
        · have kk := kk c25_12
          obtain ⟨q7, kk⟩ := kk
          refine fr_if (Q := (FrP (W_x_mind T p0 p1) T)) (fun c35_13 => ?_) (fun c35_13 => ?_)
          · exact frp_i (fr_tr hT (frp_o (fr_x_findsPlan p0 q7)) (fun c h => hW c (by unfold W_x_findsPlan at h; unfold W_x_mind; omega)))
          · have kk := kk c35_13
            refine fr_x_mind_52 p0 p1 (x_x_refusal T 1) (fun c h => hW c (by unfold WL_x_mind_52 at h; unfold W_x_mind; omega)) (fun w3_4 w3_5 w3_6 T203 hT203 kk => ?_) 1000 (-1000000) 60 0 ((x_x_findsPlan T p0).2) (fr_tr hT (frp_o (fr_x_findsPlan p0 q7)) (fun c h => hW c (by unfold W_x_findsPlan at h; unfold W_x_mind; omega))) kk
            exact frp_i hT203
        · exact frp_i hT
