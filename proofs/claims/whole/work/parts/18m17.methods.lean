def x_x_image (T : St) (p0 : Int32) : Int32 × St := jn (fun (KJ1 : Int32 × St) => if p0 < 0 then (KJ1) else (if 2 ≤ p0 then (KJ1) else (if (x_x_refusal T 1) = 0 then (1, x_bk_take T (16 + 15 * (p0 : Int32).toNatClampNeg) (T.2.1 0)) else (x_x_refusal T 1, T)))) (if (x_x_refusal T 0) = 0 then (1, x_bk_take T (16 + 15 * (p0 : Int32).toNatClampNeg) (T.2.1 0)) else (x_x_refusal T 0, T))
def ok_x_image (T : St) (p0 : Int32) : Prop := jn (fun (OJ1 : Prop) => ((p0 < 0 → OJ1) ∧ (¬ p0 < 0 → ((2 ≤ p0 → OJ1) ∧ (¬ 2 ≤ p0 → (ok_x_refusal T 1) ∧ ((x_x_refusal T 1) = 0 → (vp_in p0 2) ∧ (ok_bk_take T (16 + 15 * (p0 : Int32).toNatClampNeg) (T.2.1 0)) ∧ (sh (16 + 15 * (p0 : Int32).toNatClampNeg) = .inr 1) ∧ True)))))) ((ok_x_refusal T 0) ∧ ((x_x_refusal T 0) = 0 → (vp_in p0 2) ∧ (ok_bk_take T (16 + 15 * (p0 : Int32).toNatClampNeg) (T.2.1 0)) ∧ (sh (16 + 15 * (p0 : Int32).toNatClampNeg) = .inr 1) ∧ True))
theorem c_x_image {X : Nat × (Nat → Int32)} {T : St} (p0 : Int32) (kk : ok_x_image T p0) : tC X 3 mX11_image [.ref 0, .int p0] T (some (.int (x_x_image T p0).1)) ((x_x_image T p0).2) := by
  unfold ok_x_image at kk
  refine tC_of ?_
  refine r_p dX11_image_0 rfl rfl ?_
  refine r_p dX11_image_1 rfl rfl ?_
  obtain ⟨KJ1, hKJ1⟩ : ∃ q : Int32 × St, q = (if (x_x_refusal T 0) = 0 then (1, x_bk_take T (16 + 15 * (p0 : Int32).toNatClampNeg) (T.2.1 0)) else (x_x_refusal T 0, T)) := ⟨_, rfl⟩
  obtain ⟨OJ1, hOJ1⟩ : ∃ q : Prop, q = ((ok_x_refusal T 0) ∧ ((x_x_refusal T 0) = 0 → (vp_in p0 2) ∧ (ok_bk_take T (16 + 15 * (p0 : Int32).toNatClampNeg) (T.2.1 0)) ∧ (sh (16 + 15 * (p0 : Int32).toNatClampNeg) = .inr 1) ∧ True)) := ⟨_, rfl⟩
  rw [← hOJ1] at kk
  simp only [jn] at kk
  have hJ1 : OJ1 → tR X 2 mX11_image 14 [some (.ref 0), some (.int p0), none] [.ref 0] T (some (.int KJ1.1)) KJ1.2 := by
    intro  kk
    rw [hOJ1] at kk
    try dsimp only at kk
    rw [hKJ1]
    refine r_ci (x := 0) dX11_image_14 rfl ?_
    obtain ⟨q5, kk⟩ := kk
    refine r_cv (d1 := 2) dX11_image_15 cvX11_221 rfl rfl rfl rfl (Nat.le_of_ble_eq_true rfl) (Nat.le_of_ble_eq_true rfl) (Nat.le_of_ble_eq_true rfl) (c_x_refusal 0 q5) ?_
    refine r_p dX11_image_18 rfl rfl ?_
    refine r_p dX11_image_19 rfl rfl ?_
    refine r_ieq dX11_image_20 rfl (fun c20_4 => ?_) (fun c20_4 => ?_)
    · have kk := kk c20_4
      refine r_p dX11_image_25 rfl rfl ?_
      refine r_get dX11_image_26 fkX11_26 rfl rfl ?_
      refine r_p dX11_image_29 rfl rfl ?_
      obtain ⟨q6, kk⟩ := kk
      refine r_aa dX11_image_30 rfl (by decide) q6 (rf15 q6) ?_
      refine r_p dX11_image_31 rfl rfl ?_
      refine r_get dX11_image_32 fkX11_30 rfl rfl ?_
      obtain ⟨q7, kk⟩ := kk
      obtain ⟨q8, kk⟩ := kk
      refine r_cv (d1 := 1) dX11_image_35 cvX11_325 rfl rfl q8 rfl (Nat.le_of_ble_eq_true rfl) (Nat.le_of_ble_eq_true rfl) (Nat.le_of_ble_eq_true rfl) (c_bk_take (16 + 15 * (p0 : Int32).toNatClampNeg) (T.2.1 0) q7) ?_
      refine r_ci (x := 1) dX11_image_38 rfl ?_
      exact r_eI (r' := (1, x_bk_take T (16 + 15 * (p0 : Int32).toNatClampNeg) (T.2.1 0))) (by first | rw [if_pos c20_4] | (dsimp only; rw [if_pos c20_4])) (r_ri dX11_image_39 rfl rfl rfl rfl)
    · refine r_p dX11_image_23 rfl rfl ?_
      exact r_eI (r' := (x_x_refusal T 0, T)) (by first | rw [if_neg c20_4] | (dsimp only; rw [if_neg c20_4])) (r_ri dX11_image_24 rfl rfl rfl rfl)
  refine r_eI (r' := jn (fun (KJ1 : Int32 × St) => if p0 < 0 then (KJ1) else (if 2 ≤ p0 then (KJ1) else (if (x_x_refusal T 1) = 0 then (1, x_bk_take T (16 + 15 * (p0 : Int32).toNatClampNeg) (T.2.1 0)) else (x_x_refusal T 1, T)))) KJ1) (by rw [hKJ1]; unfold x_x_image; rfl) ?_
  refine r_ilt dX11_image_2 rfl (fun c2_5 => ?_) (fun c2_5 => ?_)
  · have kk := kk.1 c2_5
    show tR _ _ _ _ [some (.ref 0), some (.int p0), none] [.ref 0] _ _ _
    exact r_eI (r' := KJ1) (by simp only [jn]; rw [if_pos c2_5]) ((hJ1  kk))
  · have kk := kk.2 c2_5
    refine r_p dX11_image_5 rfl rfl ?_
    refine r_ci (x := 2) dX11_image_6 rfl ?_
    refine r_cge dX11_image_7 rfl (fun c7_6 => ?_) (fun c7_6 => ?_)
    · have kk := kk.1 c7_6
      show tR _ _ _ _ [some (.ref 0), some (.int p0), none] [.ref 0] _ _ _
      exact r_eI (r' := KJ1) (by simp only [jn]; rw [if_neg c2_5, if_pos c7_6]) ((hJ1  kk))
    · have kk := kk.2 c7_6
      refine r_ci (x := 1) dX11_image_10 rfl ?_
      refine r_go dX11_image_11 rfl ?_
      obtain ⟨q9, kk⟩ := kk
      refine r_cv (d1 := 2) dX11_image_15 cvX11_221 rfl rfl rfl rfl (Nat.le_of_ble_eq_true rfl) (Nat.le_of_ble_eq_true rfl) (Nat.le_of_ble_eq_true rfl) (c_x_refusal 1 q9) ?_
      refine r_p dX11_image_18 rfl rfl ?_
      refine r_p dX11_image_19 rfl rfl ?_
      refine r_ieq dX11_image_20 rfl (fun c20_7 => ?_) (fun c20_7 => ?_)
      · have kk := kk c20_7
        refine r_p dX11_image_25 rfl rfl ?_
        refine r_get dX11_image_26 fkX11_26 rfl rfl ?_
        refine r_p dX11_image_29 rfl rfl ?_
        obtain ⟨q10, kk⟩ := kk
        refine r_aa dX11_image_30 rfl (by decide) q10 (rf15 q10) ?_
        refine r_p dX11_image_31 rfl rfl ?_
        refine r_get dX11_image_32 fkX11_30 rfl rfl ?_
        obtain ⟨q11, kk⟩ := kk
        obtain ⟨q12, kk⟩ := kk
        refine r_cv (d1 := 1) dX11_image_35 cvX11_325 rfl rfl q12 rfl (Nat.le_of_ble_eq_true rfl) (Nat.le_of_ble_eq_true rfl) (Nat.le_of_ble_eq_true rfl) (c_bk_take (16 + 15 * (p0 : Int32).toNatClampNeg) (T.2.1 0) q11) ?_
        refine r_ci (x := 1) dX11_image_38 rfl ?_
        exact r_eI (r' := (1, x_bk_take T (16 + 15 * (p0 : Int32).toNatClampNeg) (T.2.1 0))) (by simp only [jn]; rw [if_neg c2_5, if_neg c7_6, if_pos c20_7]) (r_ri dX11_image_39 rfl rfl rfl rfl)
      · refine r_p dX11_image_23 rfl rfl ?_
        exact r_eI (r' := (x_x_refusal T 1, T)) (by simp only [jn]; rw [if_neg c2_5, if_neg c7_6, if_neg c20_7]) (r_ri dX11_image_24 rfl rfl rfl rfl)
def x_x_as (T : St) (p0 : Int32) (p1 : Int32) : Int32 × St := if (x_bk_hasStep T (T.2.1 0) p0) = 0 then ((-1000001), T) else (if p1 < 0 then ((-1000001), T) else (if p1 < 7 then (if (x_ask_isKind T (x_bk_kindOf T (T.2.1 0) p0) p1) = 0 then ((x_x_found T 3).1, (x_x_found T 3).2) else ((x_x_fine T p0).1, (x_x_fine T p0).2)) else ((-1000001), T)))
def ok_x_as (T : St) (p0 : Int32) (p1 : Int32) : Prop := (ok_bk_hasStep T (T.2.1 0) p0) ∧ (sh (T.2.1 0) = .inr 1) ∧ (¬ (x_bk_hasStep T (T.2.1 0) p0) = 0 → (¬ p1 < 0 → (p1 < 7 → (ok_bk_kindOf T (T.2.1 0) p0) ∧ (ok_ask_isKind T (x_bk_kindOf T (T.2.1 0) p0) p1) ∧ True)))
theorem c_x_as {X : Nat × (Nat → Int32)} {T : St} (p0 : Int32) (p1 : Int32) (kk : ok_x_as T p0 p1) : tC X 2 mX11_as [.ref 0, .int p0, .int p1] T (some (.int (x_x_as T p0 p1).1)) ((x_x_as T p0 p1).2) := by
  unfold ok_x_as at kk
  refine tC_of ?_
  refine r_p dX11_as_0 rfl rfl ?_
  refine r_get dX11_as_1 fkX11_30 rfl rfl ?_
  refine r_p dX11_as_4 rfl rfl ?_
  obtain ⟨q1, kk⟩ := kk
  obtain ⟨q2, kk⟩ := kk
  refine r_cv (d1 := 1) dX11_as_5 cvX11_171 rfl rfl q2 rfl (Nat.le_of_ble_eq_true rfl) (Nat.le_of_ble_eq_true rfl) (Nat.le_of_ble_eq_true rfl) (c_bk_hasStep (T.2.1 0) p0 q1) ?_
  refine r_ieq dX11_as_8 rfl (fun c8_1 => ?_) (fun c8_1 => ?_)
  · refine r_k dX11_as_21 kkX11_82 ?_
    exact r_eI (r' := ((-1000001), T)) (by unfold x_x_as; rw [if_pos c8_1]) (r_ri dX11_as_23 rfl rfl rfl rfl)
  · have kk := kk c8_1
    refine r_p dX11_as_11 rfl rfl ?_
    refine r_ilt dX11_as_12 rfl (fun c12_2 => ?_) (fun c12_2 => ?_)
    · refine r_k dX11_as_21 kkX11_82 ?_
      exact r_eI (r' := ((-1000001), T)) (by unfold x_x_as; rw [if_neg c8_1, if_pos c12_2]) (r_ri dX11_as_23 rfl rfl rfl rfl)
    · have kk := kk c12_2
      refine r_p dX11_as_15 rfl rfl ?_
      refine r_cb (x := 7) dX11_as_16 rfl ?_
      refine r_clt dX11_as_18 rfl (fun c18_3 => ?_) (fun c18_3 => ?_)
      · have kk := kk c18_3
        refine r_p dX11_as_24 rfl rfl ?_
        refine r_get dX11_as_25 fkX11_64 rfl rfl ?_
        refine r_p dX11_as_28 rfl rfl ?_
        refine r_get dX11_as_29 fkX11_30 rfl rfl ?_
        refine r_p dX11_as_32 rfl rfl ?_
        obtain ⟨q3, kk⟩ := kk
        refine r_cv (d1 := 1) dX11_as_33 cvX11_327 rfl rfl q2 rfl (Nat.le_of_ble_eq_true rfl) (Nat.le_of_ble_eq_true rfl) (Nat.le_of_ble_eq_true rfl) (c_bk_kindOf (T.2.1 0) p0 q3) ?_
        refine r_p dX11_as_36 rfl rfl ?_
        obtain ⟨q4, kk⟩ := kk
        refine r_cv (d1 := 1) dX11_as_37 cvX11_330 rfl rfl rfl rfl (Nat.le_of_ble_eq_true rfl) (Nat.le_of_ble_eq_true rfl) (Nat.le_of_ble_eq_true rfl) (c_ask_isKind (x_bk_kindOf T (T.2.1 0) p0) p1 q4) ?_
        refine r_ine dX11_as_40 rfl (fun c40_4 => ?_) (fun c40_4 => ?_)
        · refine r_p dX11_as_49 rfl rfl ?_
          refine r_p dX11_as_50 rfl rfl ?_
          refine r_cv (d1 := 1) dX11_as_51 cvX11_91 rfl rfl rfl rfl (Nat.le_of_ble_eq_true rfl) (Nat.le_of_ble_eq_true rfl) (Nat.le_of_ble_eq_true rfl) (c_x_fine p0) ?_
          exact r_eI (r' := ((x_x_fine T p0).1, (x_x_fine T p0).2)) (by unfold x_x_as; rw [if_neg c8_1, if_neg c12_2, if_pos c18_3, if_neg c40_4]) (r_ri dX11_as_54 rfl rfl rfl rfl)
        · refine r_p dX11_as_43 rfl rfl ?_
          refine r_ci (x := 3) dX11_as_44 rfl ?_
          refine r_cv (d1 := 1) dX11_as_45 cvX11_83 rfl rfl rfl rfl (Nat.le_of_ble_eq_true rfl) (Nat.le_of_ble_eq_true rfl) (Nat.le_of_ble_eq_true rfl) (c_x_found 3) ?_
          exact r_eI (r' := ((x_x_found T 3).1, (x_x_found T 3).2)) (by unfold x_x_as; rw [if_neg c8_1, if_neg c12_2, if_pos c18_3, if_pos c40_4]) (r_ri dX11_as_48 rfl rfl rfl rfl)
      · refine r_k dX11_as_21 kkX11_82 ?_
        exact r_eI (r' := ((-1000001), T)) (by unfold x_x_as; rw [if_neg c8_1, if_neg c12_2, if_neg c18_3]) (r_ri dX11_as_23 rfl rfl rfl rfl)
def x_x_count (T : St) (p0 : Int32) : Int32 := if p0 = 0 then (x_sh_present T) else (if p0 = 1 then (T.1 (T.2.1 0) 4) else (if p0 = 2 then (T.1 (T.2.1 0) 10) else (if p0 = 3 then (x_J_bitCount T (T.1 (T.2.1 0) 17)) else (if p0 = 4 then (x_bk_dinnerSteps T (T.2.1 0)) else (if p0 = 5 then (T.1 (T.2.1 0) 1) else (if p0 = 6 then (T.1 13 1) else (if p0 = 7 then (T.1 (T.2.1 0) 18) else (-1000001))))))))
def ok_x_count (T : St) (p0 : Int32) : Prop := ((p0 = 0 → (ok_sh_present T) ∧ True) ∧ (¬ p0 = 0 → ((p0 = 1 → (sh (T.2.1 0) = .inr 1) ∧ True) ∧ (¬ p0 = 1 → ((p0 = 2 → (sh (T.2.1 0) = .inr 1) ∧ True) ∧ (¬ p0 = 2 → ((p0 = 3 → (sh (T.2.1 0) = .inr 1) ∧ True) ∧ (¬ p0 = 3 → ((p0 = 4 → (ok_bk_dinnerSteps T (T.2.1 0)) ∧ (sh (T.2.1 0) = .inr 1) ∧ True) ∧ (¬ p0 = 4 → ((p0 = 5 → (sh (T.2.1 0) = .inr 1) ∧ True) ∧ (¬ p0 = 5 → (¬ p0 = 6 → (p0 = 7 → (sh (T.2.1 0) = .inr 1) ∧ True))))))))))))))
theorem c_x_count {X : Nat × (Nat → Int32)} {T : St} (p0 : Int32) (kk : ok_x_count T p0) : tC X 2 mX11_count [.ref 0, .int p0] T (some (.int (x_x_count T p0))) T := by
  unfold ok_x_count at kk
  refine tC_of ?_
  refine r_p dX11_count_0 rfl rfl ?_
  by_cases s1_1_0 : p0 = 0
  · have kk := kk.1 s1_1_0
    refine r_tin dX11_count_1 (by rw [s1_1_0]; decide) (by rw [s1_1_0]; decide) (off := 47) (by rw [s1_1_0]; rfl) rfl ?_
    refine r_p dX11_count_48 rfl rfl ?_
    refine r_get dX11_count_49 fkX11_10 rfl rfl ?_
    obtain ⟨q1, kk⟩ := kk
    refine r_cv (d1 := 1) dX11_count_52 cvX11_342 rfl rfl rfl rfl (Nat.le_of_ble_eq_true rfl) (Nat.le_of_ble_eq_true rfl) (Nat.le_of_ble_eq_true rfl) (c_sh_present  q1) ?_
    exact r_eIp (r' := (x_sh_present T)) (by unfold x_x_count; rw [if_pos s1_1_0]) (r_ri dX11_count_55 rfl rfl rfl rfl)
  · have kk := kk.2 s1_1_0
    by_cases s1_1_1 : p0 = 1
    · have kk := kk.1 s1_1_1
      refine r_tin dX11_count_1 (by rw [s1_1_1]; decide) (by rw [s1_1_1]; decide) (off := 55) (by rw [s1_1_1]; rfl) rfl ?_
      refine r_p dX11_count_56 rfl rfl ?_
      refine r_get dX11_count_57 fkX11_30 rfl rfl ?_
      obtain ⟨q2, kk⟩ := kk
      refine r_get dX11_count_60 fkX11_149 q2 rfl ?_
      exact r_eIp (r' := (T.1 (T.2.1 0) 4)) (by unfold x_x_count; rw [if_neg s1_1_0, if_pos s1_1_1]) (r_ri dX11_count_63 rfl rfl rfl rfl)
    · have kk := kk.2 s1_1_1
      by_cases s1_1_2 : p0 = 2
      · have kk := kk.1 s1_1_2
        refine r_tin dX11_count_1 (by rw [s1_1_2]; decide) (by rw [s1_1_2]; decide) (off := 63) (by rw [s1_1_2]; rfl) rfl ?_
        refine r_p dX11_count_64 rfl rfl ?_
        refine r_get dX11_count_65 fkX11_30 rfl rfl ?_
        obtain ⟨q3, kk⟩ := kk
        refine r_get dX11_count_68 fkX11_345 q3 rfl ?_
        exact r_eIp (r' := (T.1 (T.2.1 0) 10)) (by unfold x_x_count; rw [if_neg s1_1_0, if_neg s1_1_1, if_pos s1_1_2]) (r_ri dX11_count_71 rfl rfl rfl rfl)
      · have kk := kk.2 s1_1_2
        by_cases s1_1_3 : p0 = 3
        · have kk := kk.1 s1_1_3
          refine r_tin dX11_count_1 (by rw [s1_1_3]; decide) (by rw [s1_1_3]; decide) (off := 71) (by rw [s1_1_3]; rfl) rfl ?_
          refine r_p dX11_count_72 rfl rfl ?_
          refine r_get dX11_count_73 fkX11_30 rfl rfl ?_
          obtain ⟨q4, kk⟩ := kk
          refine r_get dX11_count_76 fkX11_209 q4 rfl ?_
          refine r_cs (d1 := 1) dX11_count_79 csX11_200 rfl rfl (Nat.le_of_ble_eq_true rfl) (Nat.le_of_ble_eq_true rfl) (Nat.le_of_ble_eq_true rfl) (c_J_bitCount (T.1 (T.2.1 0) 17)) ?_
          exact r_eIp (r' := (x_J_bitCount T (T.1 (T.2.1 0) 17))) (by unfold x_x_count; rw [if_neg s1_1_0, if_neg s1_1_1, if_neg s1_1_2, if_pos s1_1_3]) (r_ri dX11_count_82 rfl rfl rfl rfl)
        · have kk := kk.2 s1_1_3
          by_cases s1_1_4 : p0 = 4
          · have kk := kk.1 s1_1_4
            refine r_tin dX11_count_1 (by rw [s1_1_4]; decide) (by rw [s1_1_4]; decide) (off := 82) (by rw [s1_1_4]; rfl) rfl ?_
            refine r_p dX11_count_83 rfl rfl ?_
            refine r_get dX11_count_84 fkX11_30 rfl rfl ?_
            obtain ⟨q5, kk⟩ := kk
            obtain ⟨q6, kk⟩ := kk
            refine r_cv (d1 := 1) dX11_count_87 cvX11_348 rfl rfl q6 rfl (Nat.le_of_ble_eq_true rfl) (Nat.le_of_ble_eq_true rfl) (Nat.le_of_ble_eq_true rfl) (c_bk_dinnerSteps (T.2.1 0) q5) ?_
            exact r_eIp (r' := (x_bk_dinnerSteps T (T.2.1 0))) (by unfold x_x_count; rw [if_neg s1_1_0, if_neg s1_1_1, if_neg s1_1_2, if_neg s1_1_3, if_pos s1_1_4]) (r_ri dX11_count_90 rfl rfl rfl rfl)
          · have kk := kk.2 s1_1_4
            by_cases s1_1_5 : p0 = 5
            · have kk := kk.1 s1_1_5
              refine r_tin dX11_count_1 (by rw [s1_1_5]; decide) (by rw [s1_1_5]; decide) (off := 90) (by rw [s1_1_5]; rfl) rfl ?_
              refine r_p dX11_count_91 rfl rfl ?_
              refine r_get dX11_count_92 fkX11_30 rfl rfl ?_
              obtain ⟨q7, kk⟩ := kk
              refine r_get dX11_count_95 fkX11_351 q7 rfl ?_
              exact r_eIp (r' := (T.1 (T.2.1 0) 1)) (by unfold x_x_count; rw [if_neg s1_1_0, if_neg s1_1_1, if_neg s1_1_2, if_neg s1_1_3, if_neg s1_1_4, if_pos s1_1_5]) (r_ri dX11_count_98 rfl rfl rfl rfl)
            · have kk := kk.2 s1_1_5
              by_cases s1_1_6 : p0 = 6
              · refine r_tin dX11_count_1 (by rw [s1_1_6]; decide) (by rw [s1_1_6]; decide) (off := 98) (by rw [s1_1_6]; rfl) rfl ?_
                refine r_p dX11_count_99 rfl rfl ?_
                refine r_get dX11_count_100 fkX11_19 rfl rfl ?_
                refine r_get dX11_count_103 fkX11_130 rfl rfl ?_
                exact r_eIp (r' := (T.1 13 1)) (by unfold x_x_count; rw [if_neg s1_1_0, if_neg s1_1_1, if_neg s1_1_2, if_neg s1_1_3, if_neg s1_1_4, if_neg s1_1_5, if_pos s1_1_6]) (r_ri dX11_count_106 rfl rfl rfl rfl)
              · have kk := kk s1_1_6
                by_cases s1_1_7 : p0 = 7
                · have kk := kk s1_1_7
                  refine r_tin dX11_count_1 (by rw [s1_1_7]; decide) (by rw [s1_1_7]; decide) (off := 106) (by rw [s1_1_7]; rfl) rfl ?_
                  refine r_p dX11_count_107 rfl rfl ?_
                  refine r_get dX11_count_108 fkX11_30 rfl rfl ?_
                  obtain ⟨q8, kk⟩ := kk
                  refine r_get dX11_count_111 fkX11_215 q8 rfl ?_
                  exact r_eIp (r' := (T.1 (T.2.1 0) 18)) (by unfold x_x_count; rw [if_neg s1_1_0, if_neg s1_1_1, if_neg s1_1_2, if_neg s1_1_3, if_neg s1_1_4, if_neg s1_1_5, if_neg s1_1_6, if_pos s1_1_7]) (r_ri dX11_count_114 rfl rfl rfl rfl)
                · refine r_tout dX11_count_1 (by have := i_rg (p0); simp only [i_eq, i_0, i_1, i_2, i_3, i_4, i_5, i_6, i_7] at s1_1_0 s1_1_1 s1_1_2 s1_1_3 s1_1_4 s1_1_5 s1_1_6 s1_1_7; omega) rfl ?_
                  refine r_k dX11_count_115 kkX11_82 ?_
                  exact r_eIp (r' := (-1000001)) (by unfold x_x_count; rw [if_neg s1_1_0, if_neg s1_1_1, if_neg s1_1_2, if_neg s1_1_3, if_neg s1_1_4, if_neg s1_1_5, if_neg s1_1_6, if_neg s1_1_7]) (r_ri dX11_count_117 rfl rfl rfl rfl)
def x_x_changed (T : St)  : St := x_ki_fit (sF (sF T 0 14 0) 0 16 0) 76 ((sF (sF T 0 14 0) 0 16 0).2.1 0) ((sF (sF T 0 14 0) 0 16 0).2.2.1 (((sF (sF T 0 14 0) 0 16 0).2.1 0) + 1) (5 : Int32).toNatClampNeg) ((sF (sF T 0 14 0) 0 16 0).1 ((sF (sF T 0 14 0) 0 16 0).2.1 0) 18)
def ok_x_changed (T : St)  : Prop := (sh ((sF (sF T 0 14 0) 0 16 0).2.1 0) = .inr 1) ∧ (sh (((sF (sF T 0 14 0) 0 16 0).2.1 0) + 1) = .inl (0, 7)) ∧ (vp_in 5 7) ∧ (ok_ki_fit (sF (sF T 0 14 0) 0 16 0) 76 ((sF (sF T 0 14 0) 0 16 0).2.1 0) ((sF (sF T 0 14 0) 0 16 0).2.2.1 (((sF (sF T 0 14 0) 0 16 0).2.1 0) + 1) (5 : Int32).toNatClampNeg) ((sF (sF T 0 14 0) 0 16 0).1 ((sF (sF T 0 14 0) 0 16 0).2.1 0) 18)) ∧ True
theorem c_x_changed {X : Nat × (Nat → Int32)} {T : St}  (kk : ok_x_changed T ) : tC X 4 mX11_changed [.ref 0] T none (x_x_changed T) := by
  unfold ok_x_changed at kk
  refine tC_of ?_
  refine r_p dX11_changed_0 rfl rfl ?_
  refine r_ci (x := 0) dX11_changed_1 rfl ?_
  refine r_put dX11_changed_2 fkX11_358 rfl rfl rfl (Nat.le_of_ble_eq_true rfl) rfl rfl ?_
  refine r_p dX11_changed_5 rfl rfl ?_
  refine r_ci (x := 0) dX11_changed_6 rfl ?_
  refine r_put dX11_changed_7 fkX11_297 rfl rfl rfl (Nat.le_of_ble_eq_true rfl) rfl rfl ?_
  refine r_p dX11_changed_10 rfl rfl ?_
  refine r_get dX11_changed_11 fkX11_40 rfl rfl ?_
  refine r_p dX11_changed_14 rfl rfl ?_
  refine r_get dX11_changed_15 fkX11_30 rfl rfl ?_
  refine r_p dX11_changed_18 rfl rfl ?_
  refine r_get dX11_changed_19 fkX11_30 rfl rfl ?_
  obtain ⟨q1, kk⟩ := kk
  refine r_get dX11_changed_22 fkX11_212 q1 rfl ?_
  refine r_ci (x := 5) dX11_changed_25 rfl ?_
  obtain ⟨q2, kk⟩ := kk
  obtain ⟨q3, kk⟩ := kk
  refine r_ia dX11_changed_26 q2 q3 ?_
  refine r_p dX11_changed_27 rfl rfl ?_
  refine r_get dX11_changed_28 fkX11_30 rfl rfl ?_
  refine r_get dX11_changed_31 fkX11_215 q1 rfl ?_
  obtain ⟨q4, kk⟩ := kk
  refine r_cv (d1 := 3) dX11_changed_34 cvX11_300 rfl rfl rfl rfl (Nat.le_of_ble_eq_true rfl) (Nat.le_of_ble_eq_true rfl) (Nat.le_of_ble_eq_true rfl) (c_ki_fit 76 ((sF (sF T 0 14 0) 0 16 0).2.1 0) ((sF (sF T 0 14 0) 0 16 0).2.2.1 (((sF (sF T 0 14 0) 0 16 0).2.1 0) + 1) (5 : Int32).toNatClampNeg) ((sF (sF T 0 14 0) 0 16 0).1 ((sF (sF T 0 14 0) 0 16 0).2.1 0) 18) q4) ?_
  exact r_eV (r' := (x_ki_fit (sF (sF T 0 14 0) 0 16 0) 76 ((sF (sF T 0 14 0) 0 16 0).2.1 0) ((sF (sF T 0 14 0) 0 16 0).2.2.1 (((sF (sF T 0 14 0) 0 16 0).2.1 0) + 1) (5 : Int32).toNatClampNeg) ((sF (sF T 0 14 0) 0 16 0).1 ((sF (sF T 0 14 0) 0 16 0).2.1 0) 18))) (by unfold x_x_changed; rfl) (r_rv dX11_changed_37 rfl rfl rfl)
def x_m_book_30  (K : Int32 → St → Int32 × St) : Nat → Int32 → St → Int32 × St
  | 0, _, T => (0, T)
  | f + 1, v1, T => if 204 ≤ v1 then (K v1 T) else (x_m_book_30 K f (v1 + 1) (sA T 576 (v1 : Int32).toNatClampNeg 0))
def ok_m_book_30  (Kk : Int32 → St → Prop) : Nat → Int32 → St → Prop
  | 0, _, _ => False
  | f + 1, v1, T => ((204 ≤ v1 → Kk v1 T) ∧ (¬ 204 ≤ v1 → (vp_in v1 204) ∧ ok_m_book_30 Kk f (v1 + 1) (sA T 576 (v1 : Int32).toNatClampNeg 0)))
theorem c_m_book_30 {X : Nat × (Nat → Int32)}  {K : Int32 → St → Int32 × St} {Kk : Int32 → St → Prop} (hk : ∀ (v1 : Int32) (T : St), Kk v1 T → tR X 6 mX12_book 50 [some (.ref 571), some (.int v1)] [] T (some (.int (K v1 T).1)) ((K v1 T).2)) : ∀ (f : Nat) (v1 : Int32) (T : St), ok_m_book_30  Kk f v1 T → tR X 6 mX12_book 30 [some (.ref 571), some (.int v1)] [] T (some (.int (x_m_book_30 K f v1 T).1)) ((x_m_book_30 K f v1 T).2) := by
  intro f
  induction f with
  | zero => intro v1 T kk; exact kk.elim
  | succ f ih =>
    intro v1 T kk
    rw [ok_m_book_30] at kk
    refine r_p dX12_book_30 rfl rfl ?_
    refine r_csi (x := 204) dX12_book_31 rfl ?_
    refine r_cge dX12_book_34 rfl (fun c34_1 => ?_) (fun c34_1 => ?_)
    · have kk := kk.1 c34_1
      show tR _ _ _ _ [some (.ref 571), some (.int v1)] _ _ _ _
      exact r_eI (r' := K v1 T) (by rw [x_m_book_30]; rw [if_pos c34_1]) ((hk v1 T kk))
    · have kk := kk.2 c34_1
      refine r_p dX12_book_37 rfl rfl ?_
      refine r_get dX12_book_38 fkX12_22 rfl rfl ?_
      refine r_p dX12_book_41 rfl rfl ?_
      refine r_ci (x := 0) dX12_book_42 rfl ?_
      obtain ⟨q1, kk⟩ := kk
      refine r_ias dX12_book_43 rfl q1 ?_
      refine r_inc (y := 1) dX12_book_44 rfl rfl rfl ?_
      refine r_go dX12_book_47 rfl ?_
      show tR _ _ _ _ [some (.ref 571), some (.int (v1 + 1))] _ _ _ _
      exact r_eI (r' := x_m_book_30 K f (v1 + 1) (sA T 576 (v1 : Int32).toNatClampNeg 0)) (by rw [x_m_book_30]; rw [if_neg c34_1]) ((ih (v1 + 1) (sA T 576 (v1 : Int32).toNatClampNeg 0) kk))
def x_m_book_76  (K : Int32 → St → Int32 × St) : Nat → Int32 → St → Int32 × St
  | 0, _, T => (0, T)
  | f + 1, v1, T => if 7 ≤ v1 then (K v1 T) else (jn (fun (KJ2 : Int32 → Int32 × St) => if v1 = 5 then (KJ2 1) else (KJ2 0)) (fun (j2_s2 : Int32) => jn (fun (KJ3 : Int32 × St) => if v1 < 3 then (KJ3) else (if v1 = 5 then (KJ3) else (x_m_book_76 K f (v1 + 1) (x_m_number T v1 j2_s2 9)))) (x_m_book_76 K f (v1 + 1) (x_m_number T v1 j2_s2 3))))
def ok_m_book_76  (Kk : Int32 → St → Prop) : Nat → Int32 → St → Prop
  | 0, _, _ => False
  | f + 1, v1, T => ((7 ≤ v1 → Kk v1 T) ∧ (¬ 7 ≤ v1 → jn (fun (OJ2 : Int32 → Prop) => ((v1 = 5 → OJ2 1) ∧ (¬ v1 = 5 → OJ2 0))) (fun (j2_s2 : Int32) => jn (fun (OJ3 : Prop) => ((v1 < 3 → OJ3) ∧ (¬ v1 < 3 → ((v1 = 5 → OJ3) ∧ (¬ v1 = 5 → (ok_m_number T v1 j2_s2 9) ∧ ok_m_book_76 Kk f (v1 + 1) (x_m_number T v1 j2_s2 9)))))) ((ok_m_number T v1 j2_s2 3) ∧ ok_m_book_76 Kk f (v1 + 1) (x_m_number T v1 j2_s2 3)))))
theorem c_m_book_76 {X : Nat × (Nat → Int32)}  {K : Int32 → St → Int32 × St} {Kk : Int32 → St → Prop} (hk : ∀ (v1 : Int32) (T : St), Kk v1 T → tR X 6 mX12_book 119 [some (.ref 571), some (.int v1)] [] T (some (.int (K v1 T).1)) ((K v1 T).2)) : ∀ (f : Nat) (v1 : Int32) (T : St), ok_m_book_76  Kk f v1 T → tR X 6 mX12_book 76 [some (.ref 571), some (.int v1)] [] T (some (.int (x_m_book_76 K f v1 T).1)) ((x_m_book_76 K f v1 T).2) := by
  intro f
  induction f with
  | zero => intro v1 T kk; exact kk.elim
  | succ f ih =>
    intro v1 T kk
    rw [ok_m_book_76] at kk
    refine r_p dX12_book_76 rfl rfl ?_
    refine r_cb (x := 7) dX12_book_77 rfl ?_
    refine r_cge dX12_book_79 rfl (fun c79_3 => ?_) (fun c79_3 => ?_)
    · have kk := kk.1 c79_3
      show tR _ _ _ _ [some (.ref 571), some (.int v1)] _ _ _ _
      exact r_eI (r' := K v1 T) (by rw [x_m_book_76]; rw [if_pos c79_3]) ((hk v1 T kk))
    · have kk := kk.2 c79_3
      refine r_p dX12_book_82 rfl rfl ?_
      refine r_p dX12_book_83 rfl rfl ?_
      refine r_p dX12_book_84 rfl rfl ?_
      refine r_ci (x := 5) dX12_book_85 rfl ?_
      obtain ⟨KJ2, hKJ2⟩ : ∃ q : Int32 → Int32 × St, q = (fun (j2_s2 : Int32) => jn (fun (KJ3 : Int32 × St) => if v1 < 3 then (KJ3) else (if v1 = 5 then (KJ3) else (x_m_book_76 K f (v1 + 1) (x_m_number T v1 j2_s2 9)))) (x_m_book_76 K f (v1 + 1) (x_m_number T v1 j2_s2 3))) := ⟨_, rfl⟩
      obtain ⟨OJ2, hOJ2⟩ : ∃ q : Int32 → Prop, q = (fun (j2_s2 : Int32) => jn (fun (OJ3 : Prop) => ((v1 < 3 → OJ3) ∧ (¬ v1 < 3 → ((v1 = 5 → OJ3) ∧ (¬ v1 = 5 → (ok_m_number T v1 j2_s2 9) ∧ ok_m_book_76 Kk f (v1 + 1) (x_m_number T v1 j2_s2 9)))))) ((ok_m_number T v1 j2_s2 3) ∧ ok_m_book_76 Kk f (v1 + 1) (x_m_number T v1 j2_s2 3))) := ⟨_, rfl⟩
      rw [← hOJ2] at kk
      simp only [jn] at kk
      have hJ2 : ∀ (j2_s2 : Int32), OJ2 j2_s2 → tR X 6 mX12_book 94 [some (.ref 571), some (.int v1)] [.int j2_s2, .int v1, .ref 571] T (some (.int (KJ2 j2_s2).1)) ((KJ2 j2_s2).2) := by
        intro j2_s2 kk
        rw [hOJ2] at kk
        try dsimp only at kk
        rw [hKJ2]
        refine r_p dX12_book_94 rfl rfl ?_
        refine r_ci (x := 3) dX12_book_95 rfl ?_
        obtain ⟨KJ3, hKJ3⟩ : ∃ q : Int32 × St, q = (x_m_book_76 K f (v1 + 1) (x_m_number T v1 j2_s2 3)) := ⟨_, rfl⟩
        obtain ⟨OJ3, hOJ3⟩ : ∃ q : Prop, q = ((ok_m_number T v1 j2_s2 3) ∧ ok_m_book_76 Kk f (v1 + 1) (x_m_number T v1 j2_s2 3)) := ⟨_, rfl⟩
        rw [← hOJ3] at kk
        simp only [jn] at kk
        have hJ3 : OJ3 → tR X 6 mX12_book 104 [some (.ref 571), some (.int v1)] [.int j2_s2, .int v1, .ref 571] T (some (.int KJ3.1)) KJ3.2 := by
          intro  kk
          rw [hOJ3] at kk
          try dsimp only at kk
          rw [hKJ3]
          refine r_ci (x := 3) dX12_book_104 rfl ?_
          refine r_go dX12_book_105 rfl ?_
          obtain ⟨q6, kk⟩ := kk
          refine r_cv (d1 := 4) dX12_book_110 cvX12_190 rfl rfl rfl rfl (Nat.le_of_ble_eq_true rfl) (Nat.le_of_ble_eq_true rfl) (Nat.le_of_ble_eq_true rfl) (c_m_number v1 j2_s2 3 q6) ?_
          refine r_inc (y := 1) dX12_book_113 rfl rfl rfl ?_
          refine r_go dX12_book_116 rfl ?_
          show tR _ _ _ _ [some (.ref 571), some (.int (v1 + 1))] _ _ _ _
          exact r_eI (r' := x_m_book_76 K f (v1 + 1) (x_m_number T v1 j2_s2 3)) rfl ((ih (v1 + 1) (x_m_number T v1 j2_s2 3) kk))
        refine r_eI (r' := jn (fun (KJ3 : Int32 × St) => if v1 < 3 then (KJ3) else (if v1 = 5 then (KJ3) else (x_m_book_76 K f (v1 + 1) (x_m_number T v1 j2_s2 9)))) KJ3) (by rw [hKJ3]) ?_
        refine r_clt dX12_book_96 rfl (fun c96_7 => ?_) (fun c96_7 => ?_)
        · have kk := kk.1 c96_7
          show tR _ _ _ _ [some (.ref 571), some (.int v1)] [.int j2_s2, .int v1, .ref 571] _ _ _
          exact r_eI (r' := KJ3) (by simp only [jn]; rw [if_pos c96_7]) ((hJ3  kk))
        · have kk := kk.2 c96_7
          refine r_p dX12_book_99 rfl rfl ?_
          refine r_ci (x := 5) dX12_book_100 rfl ?_
          refine r_cne dX12_book_101 rfl (fun c101_8 => ?_) (fun c101_8 => ?_)
          · have kk := kk.2 c101_8
            refine r_cb (x := 9) dX12_book_108 rfl ?_
            obtain ⟨q7, kk⟩ := kk
            refine r_cv (d1 := 4) dX12_book_110 cvX12_190 rfl rfl rfl rfl (Nat.le_of_ble_eq_true rfl) (Nat.le_of_ble_eq_true rfl) (Nat.le_of_ble_eq_true rfl) (c_m_number v1 j2_s2 9 q7) ?_
            refine r_inc (y := 1) dX12_book_113 rfl rfl rfl ?_
            refine r_go dX12_book_116 rfl ?_
            show tR _ _ _ _ [some (.ref 571), some (.int (v1 + 1))] _ _ _ _
            exact r_eI (r' := x_m_book_76 K f (v1 + 1) (x_m_number T v1 j2_s2 9)) (by simp only [jn]; rw [if_neg c96_7, if_neg c101_8]) ((ih (v1 + 1) (x_m_number T v1 j2_s2 9) kk))
          · have kk := kk.1 c101_8
            show tR _ _ _ _ [some (.ref 571), some (.int v1)] [.int j2_s2, .int v1, .ref 571] _ _ _
            exact r_eI (r' := KJ3) (by simp only [jn]; rw [if_neg c96_7, if_pos c101_8]) ((hJ3  kk))
      refine r_eI (r' := jn (fun (KJ2 : Int32 → Int32 × St) => if v1 = 5 then (KJ2 1) else (KJ2 0)) KJ2) (by rw [hKJ2]; rw [x_m_book_76]; rw [if_neg c79_3]) ?_
      refine r_cne dX12_book_86 rfl (fun c86_9 => ?_) (fun c86_9 => ?_)
      · have kk := kk.2 c86_9
        refine r_ci (x := 0) dX12_book_93 rfl ?_
        show tR _ _ _ _ [some (.ref 571), some (.int v1)] [.int 0, .int v1, .ref 571] _ _ _
        exact r_eI (r' := KJ2 0) (by simp only [jn]; rw [if_neg c86_9]) ((hJ2 0 kk))
      · have kk := kk.1 c86_9
        refine r_ci (x := 1) dX12_book_89 rfl ?_
        refine r_go dX12_book_90 rfl ?_
        show tR _ _ _ _ [some (.ref 571), some (.int v1)] [.int 1, .int v1, .ref 571] _ _ _
        exact r_eI (r' := KJ2 1) (by simp only [jn]; rw [if_pos c86_9]) ((hJ2 1 kk))
def x_m_book_123 (l1 : Int32) (K : St → Int32 × St) : Nat → St → Int32 × St
  | 0, T => (0, T)
  | f + 1, T => if (lg_cmp (x_m_word T) 1635213689) = 0 then (x_m_book_123 l1 K f  (x_m_readAway T)) else (K  T)
def ok_m_book_123 (l1 : Int32) (Kk : St → Prop) : Nat → St → Prop
  | 0, _ => False
  | f + 1, T => (ok_m_word T) ∧ (((lg_cmp (x_m_word T) 1635213689) = 0 → (ok_m_readAway T) ∧ ok_m_book_123 l1 Kk f  (x_m_readAway T)) ∧ (¬ (lg_cmp (x_m_word T) 1635213689) = 0 → Kk  T))
theorem c_m_book_123 {X : Nat × (Nat → Int32)} (l1 : Int32) {K : St → Int32 × St} {Kk : St → Prop} (hk : ∀  (T : St), Kk  T → tR X 6 mX12_book 141 [some (.ref 571), some (.int l1)] [] T (some (.int (K  T).1)) ((K  T).2)) : ∀ (f : Nat)  (T : St), ok_m_book_123 l1 Kk f  T → tR X 6 mX12_book 123 [some (.ref 571), some (.int l1)] [] T (some (.int (x_m_book_123 l1 K f T).1)) ((x_m_book_123 l1 K f T).2) := by
  intro f
  induction f with
  | zero => intro  T kk; exact kk.elim
  | succ f ih =>
    intro  T kk
    rw [ok_m_book_123] at kk
    refine r_p dX12_book_123 rfl rfl ?_
    obtain ⟨q9, kk⟩ := kk
    refine r_cv (d1 := 1) dX12_book_124 cvX12_176 rfl rfl rfl rfl (Nat.le_of_ble_eq_true rfl) (Nat.le_of_ble_eq_true rfl) (Nat.le_of_ble_eq_true rfl) (c_m_word  q9) ?_
    refine r_kl dX12_book_127 klX12_207 ?_
    refine r_p dX12_book_130 rfl rfl ?_
    refine r_ine dX12_book_131 rfl (fun c131_10 => ?_) (fun c131_10 => ?_)
    · have kk := kk.2 c131_10
      show tR _ _ _ _ [some (.ref 571), some (.int l1)] _ _ _ _
      exact r_eI (r' := K  T) (by rw [x_m_book_123]; rw [if_neg c131_10]) ((hk  T kk))
    · have kk := kk.1 c131_10
      refine r_p dX12_book_134 rfl rfl ?_
      obtain ⟨q10, kk⟩ := kk
      refine r_cv (d1 := 5) dX12_book_135 cvX12_209 rfl rfl rfl rfl (Nat.le_of_ble_eq_true rfl) (Nat.le_of_ble_eq_true rfl) (Nat.le_of_ble_eq_true rfl) (c_m_readAway  q10) ?_
      refine r_go dX12_book_138 rfl ?_
      show tR _ _ _ _ [some (.ref 571), some (.int l1)] _ _ _ _
      exact r_eI (r' := x_m_book_123 l1 K f  (x_m_readAway T)) (by rw [x_m_book_123]; rw [if_pos c131_10]) ((ih  (x_m_readAway T) kk))
def x_m_book_164 (l1 : Int32) (K : St → Int32 × St) : Nat → St → Int32 × St
  | 0, T => (0, T)
  | f + 1, T => if (lg_cmp (x_m_word T) 1684632424) = 0 then (x_m_book_164 l1 K f  (x_m_readDish T)) else (K  T)
def ok_m_book_164 (l1 : Int32) (Kk : St → Prop) : Nat → St → Prop
  | 0, _ => False
  | f + 1, T => (ok_m_word T) ∧ (((lg_cmp (x_m_word T) 1684632424) = 0 → (ok_m_readDish T) ∧ ok_m_book_164 l1 Kk f  (x_m_readDish T)) ∧ (¬ (lg_cmp (x_m_word T) 1684632424) = 0 → Kk  T))
theorem c_m_book_164 {X : Nat × (Nat → Int32)} (l1 : Int32) {K : St → Int32 × St} {Kk : St → Prop} (hk : ∀  (T : St), Kk  T → tR X 6 mX12_book 182 [some (.ref 571), some (.int l1)] [] T (some (.int (K  T).1)) ((K  T).2)) : ∀ (f : Nat)  (T : St), ok_m_book_164 l1 Kk f  T → tR X 6 mX12_book 164 [some (.ref 571), some (.int l1)] [] T (some (.int (x_m_book_164 l1 K f T).1)) ((x_m_book_164 l1 K f T).2) := by
  intro f
  induction f with
  | zero => intro  T kk; exact kk.elim
  | succ f ih =>
    intro  T kk
    rw [ok_m_book_164] at kk
    refine r_p dX12_book_164 rfl rfl ?_
    obtain ⟨q12, kk⟩ := kk
    refine r_cv (d1 := 1) dX12_book_165 cvX12_176 rfl rfl rfl rfl (Nat.le_of_ble_eq_true rfl) (Nat.le_of_ble_eq_true rfl) (Nat.le_of_ble_eq_true rfl) (c_m_word  q12) ?_
    refine r_kl dX12_book_168 klX12_212 ?_
    refine r_p dX12_book_171 rfl rfl ?_
    refine r_ine dX12_book_172 rfl (fun c172_13 => ?_) (fun c172_13 => ?_)
    · have kk := kk.2 c172_13
      show tR _ _ _ _ [some (.ref 571), some (.int l1)] _ _ _ _
      exact r_eI (r' := K  T) (by rw [x_m_book_164]; rw [if_neg c172_13]) ((hk  T kk))
    · have kk := kk.1 c172_13
      refine r_p dX12_book_175 rfl rfl ?_
      obtain ⟨q13, kk⟩ := kk
      refine r_cv (d1 := 6) dX12_book_176 cvX12_214 rfl rfl rfl rfl (Nat.le_of_ble_eq_true rfl) (Nat.le_of_ble_eq_true rfl) (Nat.le_of_ble_eq_true rfl) (c_m_readDish  q13) ?_
      refine r_go dX12_book_179 rfl ?_
      show tR _ _ _ _ [some (.ref 571), some (.int l1)] _ _ _ _
      exact r_eI (r' := x_m_book_164 l1 K f  (x_m_readDish T)) (by rw [x_m_book_164]; rw [if_pos c172_13]) ((ih  (x_m_readDish T) kk))
def x_m_book_246  (K : Int32 → St → Int32 × St) : Nat → Int32 → St → Int32 × St
  | 0, _, T => (0, T)
  | f + 1, v1, T => if 204 ≤ v1 then (K v1 T) else (x_m_book_246 K f (v1 + 1) (sA T 575 (v1 : Int32).toNatClampNeg (T.2.2.1 576 (v1 : Int32).toNatClampNeg)))
def ok_m_book_246  (Kk : Int32 → St → Prop) : Nat → Int32 → St → Prop
  | 0, _, _ => False
  | f + 1, v1, T => ((204 ≤ v1 → Kk v1 T) ∧ (¬ 204 ≤ v1 → (vp_in v1 204) ∧ ok_m_book_246 Kk f (v1 + 1) (sA T 575 (v1 : Int32).toNatClampNeg (T.2.2.1 576 (v1 : Int32).toNatClampNeg))))
theorem c_m_book_246 {X : Nat × (Nat → Int32)}  {K : Int32 → St → Int32 × St} {Kk : Int32 → St → Prop} (hk : ∀ (v1 : Int32) (T : St), Kk v1 T → tR X 6 mX12_book 271 [some (.ref 571), some (.int v1)] [] T (some (.int (K v1 T).1)) ((K v1 T).2)) : ∀ (f : Nat) (v1 : Int32) (T : St), ok_m_book_246  Kk f v1 T → tR X 6 mX12_book 246 [some (.ref 571), some (.int v1)] [] T (some (.int (x_m_book_246 K f v1 T).1)) ((x_m_book_246 K f v1 T).2) := by
  intro f
  induction f with
  | zero => intro v1 T kk; exact kk.elim
  | succ f ih =>
    intro v1 T kk
    rw [ok_m_book_246] at kk
    refine r_p dX12_book_246 rfl rfl ?_
    refine r_csi (x := 204) dX12_book_247 rfl ?_
    refine r_cge dX12_book_250 rfl (fun c250_17 => ?_) (fun c250_17 => ?_)
    · have kk := kk.1 c250_17
      show tR _ _ _ _ [some (.ref 571), some (.int v1)] _ _ _ _
      exact r_eI (r' := K v1 T) (by rw [x_m_book_246]; rw [if_pos c250_17]) ((hk v1 T kk))
    · have kk := kk.2 c250_17
      refine r_p dX12_book_253 rfl rfl ?_
      refine r_get dX12_book_254 fkX12_19 rfl rfl ?_
      refine r_p dX12_book_257 rfl rfl ?_
      refine r_p dX12_book_258 rfl rfl ?_
      refine r_get dX12_book_259 fkX12_22 rfl rfl ?_
      refine r_p dX12_book_262 rfl rfl ?_
      obtain ⟨q16, kk⟩ := kk
      refine r_ia dX12_book_263 rfl q16 ?_
      refine r_ias dX12_book_264 rfl q16 ?_
      refine r_inc (y := 1) dX12_book_265 rfl rfl rfl ?_
      refine r_go dX12_book_268 rfl ?_
      show tR _ _ _ _ [some (.ref 571), some (.int (v1 + 1))] _ _ _ _
      exact r_eI (r' := x_m_book_246 K f (v1 + 1) (sA T 575 (v1 : Int32).toNatClampNeg (T.2.2.1 576 (v1 : Int32).toNatClampNeg))) (by rw [x_m_book_246]; rw [if_neg c250_17]) ((ih (v1 + 1) (sA T 575 (v1 : Int32).toNatClampNeg (T.2.2.1 576 (v1 : Int32).toNatClampNeg)) kk))
def x_m_book (T : St)  : Int32 × St := x_m_book_30  (fun (w1_1 : Int32) (T201 : St) => jn (fun (KJ1 : Int32 → Int32 × St) => if (lg_cmp (x_m_word (x_m_next T201)) 30233771112949102) = 0 then (KJ1 1) else (KJ1 0)) (fun (j1_s1 : Int32) => x_m_book_76  (fun (w2_1 : Int32) (T202 : St) => x_m_book_123 w2_1 (fun  (T203 : St) => jn (fun (KJ4 : St → Int32 × St) => if (T203.1 571 16) = 0 then (if (lg_cmp (x_m_word T203) 1684632424) = 0 then (KJ4 T203) else (KJ4 (x_m_bad T203 1))) else (KJ4 T203)) (fun (T304 : St) => x_m_book_164 w2_1 (fun  (T204 : St) => jn (fun (KJ5 : St → Int32 × St) => if (T204.1 571 16) = 0 then (if (T204.1 571 13) = 1 then (KJ5 T204) else (KJ5 (x_m_bad T204 1))) else (KJ5 T204)) (fun (T305 : St) => if (T305.1 571 16) ≤ 0 then (x_m_book_246  (fun (w5_1 : Int32) (T205 : St) => ((x_m_forget (sF T205 571 7 1)).2.2.1 575 (16 : Int32).toNatClampNeg, x_m_forget (sF T205 571 7 1))) 1000 0 (sA (sA T305 576 (202 : Int32).toNatClampNeg 1) 576 (203 : Int32).toNatClampNeg 60)) else ((-1000100) - ((sF T305 571 10 (T305.1 571 16)).1 571 17), sF T305 571 10 (T305.1 571 16)))) 1000  T304)) 1000  (x_m_mustEnd T202)) 1000 0 (x_m_must (x_m_next T201) j1_s1))) 1000 0 (sF (sF (sF (sF (sF T 571 0 0) 571 11 ((sF T 571 0 0).1 571 9)) 571 9 0) 571 12 0) 571 16 0)
def ok_m_book (T : St)  : Prop := ok_m_book_30  (fun (w1_1 : Int32) (T201 : St) => (ok_m_next T201) ∧ (ok_m_word (x_m_next T201)) ∧ jn (fun (OJ1 : Int32 → Prop) => (((lg_cmp (x_m_word (x_m_next T201)) 30233771112949102) = 0 → OJ1 1) ∧ (¬ (lg_cmp (x_m_word (x_m_next T201)) 30233771112949102) = 0 → OJ1 0))) (fun (j1_s1 : Int32) => (ok_m_must (x_m_next T201) j1_s1) ∧ ok_m_book_76  (fun (w2_1 : Int32) (T202 : St) => (ok_m_mustEnd T202) ∧ ok_m_book_123 w2_1 (fun  (T203 : St) => jn (fun (OJ4 : St → Prop) => (((T203.1 571 16) = 0 → (ok_m_word T203) ∧ (((lg_cmp (x_m_word T203) 1684632424) = 0 → OJ4 T203) ∧ (¬ (lg_cmp (x_m_word T203) 1684632424) = 0 → OJ4 (x_m_bad T203 1)))) ∧ (¬ (T203.1 571 16) = 0 → OJ4 T203))) (fun (T304 : St) => ok_m_book_164 w2_1 (fun  (T204 : St) => jn (fun (OJ5 : St → Prop) => (((T204.1 571 16) = 0 → (((T204.1 571 13) = 1 → OJ5 T204) ∧ (¬ (T204.1 571 13) = 1 → OJ5 (x_m_bad T204 1)))) ∧ (¬ (T204.1 571 16) = 0 → OJ5 T204))) (fun (T305 : St) => ((T305.1 571 16) ≤ 0 → (vp_in 202 204) ∧ (vp_in 203 204) ∧ ok_m_book_246  (fun (w5_1 : Int32) (T205 : St) => (vp_in 16 204) ∧ True) 1000 0 (sA (sA T305 576 (202 : Int32).toNatClampNeg 1) 576 (203 : Int32).toNatClampNeg 60)))) 1000  T304)) 1000  (x_m_mustEnd T202)) 1000 0 (x_m_must (x_m_next T201) j1_s1))) 1000 0 (sF (sF (sF (sF (sF T 571 0 0) 571 11 ((sF T 571 0 0).1 571 9)) 571 9 0) 571 12 0) 571 16 0)
theorem c_m_book {X : Nat × (Nat → Int32)} {T : St}  (kk : ok_m_book T ) : tC X 7 mX12_book [.ref 571] T (some (.int (x_m_book T).1)) ((x_m_book T).2) := by
  unfold ok_m_book at kk
  refine tC_of ?_
  refine r_p dX12_book_0 rfl rfl ?_
  refine r_ci (x := 0) dX12_book_1 rfl ?_
  refine r_put dX12_book_2 fkX12_101 rfl rfl rfl (Nat.le_of_ble_eq_true rfl) rfl rfl ?_
  refine r_p dX12_book_5 rfl rfl ?_
  refine r_p dX12_book_6 rfl rfl ?_
  refine r_get dX12_book_7 fkX12_128 rfl rfl ?_
  refine r_put dX12_book_10 fkX12_134 rfl rfl rfl (Nat.le_of_ble_eq_true rfl) rfl rfl ?_
  refine r_p dX12_book_13 rfl rfl ?_
  refine r_ci (x := 0) dX12_book_14 rfl ?_
  refine r_put dX12_book_15 fkX12_128 rfl rfl rfl (Nat.le_of_ble_eq_true rfl) rfl rfl ?_
  refine r_p dX12_book_18 rfl rfl ?_
  refine r_ci (x := 0) dX12_book_19 rfl ?_
  refine r_put dX12_book_20 fkX12_138 rfl rfl rfl (Nat.le_of_ble_eq_true rfl) rfl rfl ?_
  refine r_p dX12_book_23 rfl rfl ?_
  refine r_ci (x := 0) dX12_book_24 rfl ?_
  refine r_put dX12_book_25 fkX12_159 rfl rfl rfl (Nat.le_of_ble_eq_true rfl) rfl rfl ?_
  refine r_ci (x := 0) dX12_book_28 rfl ?_
  refine r_p dX12_book_29 rfl rfl ?_
  show tR _ _ _ _ [some (.ref 571), some (.int 0)] _ _ _ _
  refine r_eI (r' := x_m_book_30  (fun (w1_1 : Int32) (T201 : St) => jn (fun (KJ1 : Int32 → Int32 × St) => if (lg_cmp (x_m_word (x_m_next T201)) 30233771112949102) = 0 then (KJ1 1) else (KJ1 0)) (fun (j1_s1 : Int32) => x_m_book_76  (fun (w2_1 : Int32) (T202 : St) => x_m_book_123 w2_1 (fun  (T203 : St) => jn (fun (KJ4 : St → Int32 × St) => if (T203.1 571 16) = 0 then (if (lg_cmp (x_m_word T203) 1684632424) = 0 then (KJ4 T203) else (KJ4 (x_m_bad T203 1))) else (KJ4 T203)) (fun (T304 : St) => x_m_book_164 w2_1 (fun  (T204 : St) => jn (fun (KJ5 : St → Int32 × St) => if (T204.1 571 16) = 0 then (if (T204.1 571 13) = 1 then (KJ5 T204) else (KJ5 (x_m_bad T204 1))) else (KJ5 T204)) (fun (T305 : St) => if (T305.1 571 16) ≤ 0 then (x_m_book_246  (fun (w5_1 : Int32) (T205 : St) => ((x_m_forget (sF T205 571 7 1)).2.2.1 575 (16 : Int32).toNatClampNeg, x_m_forget (sF T205 571 7 1))) 1000 0 (sA (sA T305 576 (202 : Int32).toNatClampNeg 1) 576 (203 : Int32).toNatClampNeg 60)) else ((-1000100) - ((sF T305 571 10 (T305.1 571 16)).1 571 17), sF T305 571 10 (T305.1 571 16)))) 1000  T304)) 1000  (x_m_mustEnd T202)) 1000 0 (x_m_must (x_m_next T201) j1_s1))) 1000 0 (sF (sF (sF (sF (sF T 571 0 0) 571 11 ((sF T 571 0 0).1 571 9)) 571 9 0) 571 12 0) 571 16 0)) (by unfold x_m_book; rfl) ((c_m_book_30  (fun w1_1 T201 kk => ?_) 1000 0 (sF (sF (sF (sF (sF T 571 0 0) 571 11 ((sF T 571 0 0).1 571 9)) 571 9 0) 571 12 0) 571 16 0) kk))
  · try dsimp only at kk
    refine r_p dX12_book_50 rfl rfl ?_
    obtain ⟨q2, kk⟩ := kk
    refine r_cv (d1 := 2) dX12_book_51 cvX12_169 rfl rfl rfl rfl (Nat.le_of_ble_eq_true rfl) (Nat.le_of_ble_eq_true rfl) (Nat.le_of_ble_eq_true rfl) (c_m_next  q2) ?_
    refine r_p dX12_book_54 rfl rfl ?_
    refine r_p dX12_book_55 rfl rfl ?_
    obtain ⟨q3, kk⟩ := kk
    refine r_cv (d1 := 1) dX12_book_56 cvX12_176 rfl rfl rfl rfl (Nat.le_of_ble_eq_true rfl) (Nat.le_of_ble_eq_true rfl) (Nat.le_of_ble_eq_true rfl) (c_m_word  q3) ?_
    refine r_kl dX12_book_59 klX12_205 ?_
    refine r_p dX12_book_62 rfl rfl ?_
    obtain ⟨KJ1, hKJ1⟩ : ∃ q : Int32 → Int32 × St, q = (fun (j1_s1 : Int32) => x_m_book_76  (fun (w2_1 : Int32) (T202 : St) => x_m_book_123 w2_1 (fun  (T203 : St) => jn (fun (KJ4 : St → Int32 × St) => if (T203.1 571 16) = 0 then (if (lg_cmp (x_m_word T203) 1684632424) = 0 then (KJ4 T203) else (KJ4 (x_m_bad T203 1))) else (KJ4 T203)) (fun (T304 : St) => x_m_book_164 w2_1 (fun  (T204 : St) => jn (fun (KJ5 : St → Int32 × St) => if (T204.1 571 16) = 0 then (if (T204.1 571 13) = 1 then (KJ5 T204) else (KJ5 (x_m_bad T204 1))) else (KJ5 T204)) (fun (T305 : St) => if (T305.1 571 16) ≤ 0 then (x_m_book_246  (fun (w5_1 : Int32) (T205 : St) => ((x_m_forget (sF T205 571 7 1)).2.2.1 575 (16 : Int32).toNatClampNeg, x_m_forget (sF T205 571 7 1))) 1000 0 (sA (sA T305 576 (202 : Int32).toNatClampNeg 1) 576 (203 : Int32).toNatClampNeg 60)) else ((-1000100) - ((sF T305 571 10 (T305.1 571 16)).1 571 17), sF T305 571 10 (T305.1 571 16)))) 1000  T304)) 1000  (x_m_mustEnd T202)) 1000 0 (x_m_must (x_m_next T201) j1_s1)) := ⟨_, rfl⟩
    obtain ⟨OJ1, hOJ1⟩ : ∃ q : Int32 → Prop, q = (fun (j1_s1 : Int32) => (ok_m_must (x_m_next T201) j1_s1) ∧ ok_m_book_76  (fun (w2_1 : Int32) (T202 : St) => (ok_m_mustEnd T202) ∧ ok_m_book_123 w2_1 (fun  (T203 : St) => jn (fun (OJ4 : St → Prop) => (((T203.1 571 16) = 0 → (ok_m_word T203) ∧ (((lg_cmp (x_m_word T203) 1684632424) = 0 → OJ4 T203) ∧ (¬ (lg_cmp (x_m_word T203) 1684632424) = 0 → OJ4 (x_m_bad T203 1)))) ∧ (¬ (T203.1 571 16) = 0 → OJ4 T203))) (fun (T304 : St) => ok_m_book_164 w2_1 (fun  (T204 : St) => jn (fun (OJ5 : St → Prop) => (((T204.1 571 16) = 0 → (((T204.1 571 13) = 1 → OJ5 T204) ∧ (¬ (T204.1 571 13) = 1 → OJ5 (x_m_bad T204 1)))) ∧ (¬ (T204.1 571 16) = 0 → OJ5 T204))) (fun (T305 : St) => ((T305.1 571 16) ≤ 0 → (vp_in 202 204) ∧ (vp_in 203 204) ∧ ok_m_book_246  (fun (w5_1 : Int32) (T205 : St) => (vp_in 16 204) ∧ True) 1000 0 (sA (sA T305 576 (202 : Int32).toNatClampNeg 1) 576 (203 : Int32).toNatClampNeg 60)))) 1000  T304)) 1000  (x_m_mustEnd T202)) 1000 0 (x_m_must (x_m_next T201) j1_s1)) := ⟨_, rfl⟩
    rw [← hOJ1] at kk
    simp only [jn] at kk
    have hJ1 : ∀ (j1_s1 : Int32), OJ1 j1_s1 → tR X 6 mX12_book 71 [some (.ref 571), some (.int w1_1)] [.int j1_s1, .ref 571] (x_m_next T201) (some (.int (KJ1 j1_s1).1)) ((KJ1 j1_s1).2) := by
      intro j1_s1 kk
      rw [hOJ1] at kk
      try dsimp only at kk
      rw [hKJ1]
      obtain ⟨q4, kk⟩ := kk
      refine r_cv (d1 := 3) dX12_book_71 cvX12_172 rfl rfl rfl rfl (Nat.le_of_ble_eq_true rfl) (Nat.le_of_ble_eq_true rfl) (Nat.le_of_ble_eq_true rfl) (c_m_must j1_s1 q4) ?_
      refine r_ci (x := 0) dX12_book_74 rfl ?_
      refine r_p dX12_book_75 rfl rfl ?_
      show tR _ _ _ _ [some (.ref 571), some (.int 0)] _ _ _ _
      refine r_eI (r' := x_m_book_76  (fun (w2_1 : Int32) (T202 : St) => x_m_book_123 w2_1 (fun  (T203 : St) => jn (fun (KJ4 : St → Int32 × St) => if (T203.1 571 16) = 0 then (if (lg_cmp (x_m_word T203) 1684632424) = 0 then (KJ4 T203) else (KJ4 (x_m_bad T203 1))) else (KJ4 T203)) (fun (T304 : St) => x_m_book_164 w2_1 (fun  (T204 : St) => jn (fun (KJ5 : St → Int32 × St) => if (T204.1 571 16) = 0 then (if (T204.1 571 13) = 1 then (KJ5 T204) else (KJ5 (x_m_bad T204 1))) else (KJ5 T204)) (fun (T305 : St) => if (T305.1 571 16) ≤ 0 then (x_m_book_246  (fun (w5_1 : Int32) (T205 : St) => ((x_m_forget (sF T205 571 7 1)).2.2.1 575 (16 : Int32).toNatClampNeg, x_m_forget (sF T205 571 7 1))) 1000 0 (sA (sA T305 576 (202 : Int32).toNatClampNeg 1) 576 (203 : Int32).toNatClampNeg 60)) else ((-1000100) - ((sF T305 571 10 (T305.1 571 16)).1 571 17), sF T305 571 10 (T305.1 571 16)))) 1000  T304)) 1000  (x_m_mustEnd T202)) 1000 0 (x_m_must (x_m_next T201) j1_s1)) rfl ((c_m_book_76  (fun w2_1 T202 kk => ?_) 1000 0 (x_m_must (x_m_next T201) j1_s1) kk))
      · try dsimp only at kk
        refine r_p dX12_book_119 rfl rfl ?_
        obtain ⟨q8, kk⟩ := kk
        refine r_cv (d1 := 4) dX12_book_120 cvX12_194 rfl rfl rfl rfl (Nat.le_of_ble_eq_true rfl) (Nat.le_of_ble_eq_true rfl) (Nat.le_of_ble_eq_true rfl) (c_m_mustEnd  q8) ?_
        show tR _ _ _ _ [some (.ref 571), some (.int w2_1)] _ _ _ _
        refine r_eI (r' := x_m_book_123 w2_1 (fun  (T203 : St) => jn (fun (KJ4 : St → Int32 × St) => if (T203.1 571 16) = 0 then (if (lg_cmp (x_m_word T203) 1684632424) = 0 then (KJ4 T203) else (KJ4 (x_m_bad T203 1))) else (KJ4 T203)) (fun (T304 : St) => x_m_book_164 w2_1 (fun  (T204 : St) => jn (fun (KJ5 : St → Int32 × St) => if (T204.1 571 16) = 0 then (if (T204.1 571 13) = 1 then (KJ5 T204) else (KJ5 (x_m_bad T204 1))) else (KJ5 T204)) (fun (T305 : St) => if (T305.1 571 16) ≤ 0 then (x_m_book_246  (fun (w5_1 : Int32) (T205 : St) => ((x_m_forget (sF T205 571 7 1)).2.2.1 575 (16 : Int32).toNatClampNeg, x_m_forget (sF T205 571 7 1))) 1000 0 (sA (sA T305 576 (202 : Int32).toNatClampNeg 1) 576 (203 : Int32).toNatClampNeg 60)) else ((-1000100) - ((sF T305 571 10 (T305.1 571 16)).1 571 17), sF T305 571 10 (T305.1 571 16)))) 1000  T304)) 1000  (x_m_mustEnd T202)) rfl ((c_m_book_123 w2_1 (fun  T203 kk => ?_) 1000  (x_m_mustEnd T202) kk))
        · try dsimp only at kk
          refine r_p dX12_book_141 rfl rfl ?_
          refine r_get dX12_book_142 fkX12_159 rfl rfl ?_
          obtain ⟨KJ4, hKJ4⟩ : ∃ q : St → Int32 × St, q = (fun (T304 : St) => x_m_book_164 w2_1 (fun  (T204 : St) => jn (fun (KJ5 : St → Int32 × St) => if (T204.1 571 16) = 0 then (if (T204.1 571 13) = 1 then (KJ5 T204) else (KJ5 (x_m_bad T204 1))) else (KJ5 T204)) (fun (T305 : St) => if (T305.1 571 16) ≤ 0 then (x_m_book_246  (fun (w5_1 : Int32) (T205 : St) => ((x_m_forget (sF T205 571 7 1)).2.2.1 575 (16 : Int32).toNatClampNeg, x_m_forget (sF T205 571 7 1))) 1000 0 (sA (sA T305 576 (202 : Int32).toNatClampNeg 1) 576 (203 : Int32).toNatClampNeg 60)) else ((-1000100) - ((sF T305 571 10 (T305.1 571 16)).1 571 17), sF T305 571 10 (T305.1 571 16)))) 1000  T304) := ⟨_, rfl⟩
          obtain ⟨OJ4, hOJ4⟩ : ∃ q : St → Prop, q = (fun (T304 : St) => ok_m_book_164 w2_1 (fun  (T204 : St) => jn (fun (OJ5 : St → Prop) => (((T204.1 571 16) = 0 → (((T204.1 571 13) = 1 → OJ5 T204) ∧ (¬ (T204.1 571 13) = 1 → OJ5 (x_m_bad T204 1)))) ∧ (¬ (T204.1 571 16) = 0 → OJ5 T204))) (fun (T305 : St) => ((T305.1 571 16) ≤ 0 → (vp_in 202 204) ∧ (vp_in 203 204) ∧ ok_m_book_246  (fun (w5_1 : Int32) (T205 : St) => (vp_in 16 204) ∧ True) 1000 0 (sA (sA T305 576 (202 : Int32).toNatClampNeg 1) 576 (203 : Int32).toNatClampNeg 60)))) 1000  T304) := ⟨_, rfl⟩
          rw [← hOJ4] at kk
          simp only [jn] at kk
          have hJ4 : ∀ (T304 : St), OJ4 T304 → tR X 6 mX12_book 164 [some (.ref 571), some (.int w2_1)] [] T304 (some (.int (KJ4 T304).1)) ((KJ4 T304).2) := by
            intro T304 kk
            rw [hOJ4] at kk
            try dsimp only at kk
            rw [hKJ4]
            show tR _ _ _ _ [some (.ref 571), some (.int w2_1)] _ _ _ _
            refine r_eI (r' := x_m_book_164 w2_1 (fun  (T204 : St) => jn (fun (KJ5 : St → Int32 × St) => if (T204.1 571 16) = 0 then (if (T204.1 571 13) = 1 then (KJ5 T204) else (KJ5 (x_m_bad T204 1))) else (KJ5 T204)) (fun (T305 : St) => if (T305.1 571 16) ≤ 0 then (x_m_book_246  (fun (w5_1 : Int32) (T205 : St) => ((x_m_forget (sF T205 571 7 1)).2.2.1 575 (16 : Int32).toNatClampNeg, x_m_forget (sF T205 571 7 1))) 1000 0 (sA (sA T305 576 (202 : Int32).toNatClampNeg 1) 576 (203 : Int32).toNatClampNeg 60)) else ((-1000100) - ((sF T305 571 10 (T305.1 571 16)).1 571 17), sF T305 571 10 (T305.1 571 16)))) 1000  T304) rfl ((c_m_book_164 w2_1 (fun  T204 kk => ?_) 1000  T304 kk))
            · try dsimp only at kk
              refine r_p dX12_book_182 rfl rfl ?_
              refine r_get dX12_book_183 fkX12_159 rfl rfl ?_
              obtain ⟨KJ5, hKJ5⟩ : ∃ q : St → Int32 × St, q = (fun (T305 : St) => if (T305.1 571 16) ≤ 0 then (x_m_book_246  (fun (w5_1 : Int32) (T205 : St) => ((x_m_forget (sF T205 571 7 1)).2.2.1 575 (16 : Int32).toNatClampNeg, x_m_forget (sF T205 571 7 1))) 1000 0 (sA (sA T305 576 (202 : Int32).toNatClampNeg 1) 576 (203 : Int32).toNatClampNeg 60)) else ((-1000100) - ((sF T305 571 10 (T305.1 571 16)).1 571 17), sF T305 571 10 (T305.1 571 16))) := ⟨_, rfl⟩
              obtain ⟨OJ5, hOJ5⟩ : ∃ q : St → Prop, q = (fun (T305 : St) => ((T305.1 571 16) ≤ 0 → (vp_in 202 204) ∧ (vp_in 203 204) ∧ ok_m_book_246  (fun (w5_1 : Int32) (T205 : St) => (vp_in 16 204) ∧ True) 1000 0 (sA (sA T305 576 (202 : Int32).toNatClampNeg 1) 576 (203 : Int32).toNatClampNeg 60))) := ⟨_, rfl⟩
              rw [← hOJ5] at kk
              simp only [jn] at kk
              have hJ5 : ∀ (T305 : St), OJ5 T305 → tR X 6 mX12_book 202 [some (.ref 571), some (.int w2_1)] [] T305 (some (.int (KJ5 T305).1)) ((KJ5 T305).2) := by
                intro T305 kk
                rw [hOJ5] at kk
                try dsimp only at kk
                rw [hKJ5]
                refine r_p dX12_book_202 rfl rfl ?_
                refine r_get dX12_book_203 fkX12_159 rfl rfl ?_
                refine r_ile dX12_book_206 rfl (fun c206_16 => ?_) (fun c206_16 => ?_)
                · have kk := kk c206_16
                  refine r_p dX12_book_225 rfl rfl ?_
                  refine r_get dX12_book_226 fkX12_22 rfl rfl ?_
                  refine r_csi (x := 202) dX12_book_229 rfl ?_
                  refine r_ci (x := 1) dX12_book_232 rfl ?_
                  obtain ⟨q14, kk⟩ := kk
                  refine r_ias dX12_book_233 rfl q14 ?_
                  refine r_p dX12_book_234 rfl rfl ?_
                  refine r_get dX12_book_235 fkX12_22 rfl rfl ?_
                  refine r_csi (x := 203) dX12_book_238 rfl ?_
                  refine r_cb (x := 60) dX12_book_241 rfl ?_
                  obtain ⟨q15, kk⟩ := kk
                  refine r_ias dX12_book_243 rfl q15 ?_
                  refine r_ci (x := 0) dX12_book_244 rfl ?_
                  refine r_p dX12_book_245 rfl rfl ?_
                  show tR _ _ _ _ [some (.ref 571), some (.int 0)] _ _ _ _
                  refine r_eI (r' := x_m_book_246  (fun (w5_1 : Int32) (T205 : St) => ((x_m_forget (sF T205 571 7 1)).2.2.1 575 (16 : Int32).toNatClampNeg, x_m_forget (sF T205 571 7 1))) 1000 0 (sA (sA T305 576 (202 : Int32).toNatClampNeg 1) 576 (203 : Int32).toNatClampNeg 60)) (by first | rw [if_pos c206_16] | (dsimp only; rw [if_pos c206_16])) ((c_m_book_246  (fun w5_1 T205 kk => ?_) 1000 0 (sA (sA T305 576 (202 : Int32).toNatClampNeg 1) 576 (203 : Int32).toNatClampNeg 60) kk))
                  · try dsimp only at kk
                    refine r_p dX12_book_271 rfl rfl ?_
                    refine r_ci (x := 1) dX12_book_272 rfl ?_
                    refine r_put dX12_book_273 fkX12_221 rfl rfl rfl (Nat.le_of_ble_eq_true rfl) rfl rfl ?_
                    refine r_p dX12_book_276 rfl rfl ?_
                    refine r_cv (d1 := 1) dX12_book_277 cvX12_225 rfl rfl rfl rfl (Nat.le_of_ble_eq_true rfl) (Nat.le_of_ble_eq_true rfl) (Nat.le_of_ble_eq_true rfl) (c_m_forget ) ?_
                    refine r_p dX12_book_280 rfl rfl ?_
                    refine r_get dX12_book_281 fkX12_19 rfl rfl ?_
                    refine r_cb (x := 16) dX12_book_284 rfl ?_
                    obtain ⟨q17, kk⟩ := kk
                    refine r_ia dX12_book_286 rfl q17 ?_
                    exact r_eI (r' := ((x_m_forget (sF T205 571 7 1)).2.2.1 575 (16 : Int32).toNatClampNeg, x_m_forget (sF T205 571 7 1))) rfl (r_ri dX12_book_287 rfl rfl rfl rfl)
                · refine r_p dX12_book_209 rfl rfl ?_
                  refine r_p dX12_book_210 rfl rfl ?_
                  refine r_get dX12_book_211 fkX12_159 rfl rfl ?_
                  refine r_put dX12_book_214 fkX12_217 rfl rfl rfl (Nat.le_of_ble_eq_true rfl) rfl rfl ?_
                  refine r_k dX12_book_217 kkX12_220 ?_
                  refine r_p dX12_book_219 rfl rfl ?_
                  refine r_get dX12_book_220 fkX12_162 rfl rfl ?_
                  refine r_p dX12_book_223 rfl rfl ?_
                  exact r_eI (r' := ((-1000100) - ((sF T305 571 10 (T305.1 571 16)).1 571 17), sF T305 571 10 (T305.1 571 16))) (by first | rw [if_neg c206_16] | (dsimp only; rw [if_neg c206_16])) (r_ri dX12_book_224 rfl rfl rfl rfl)
              refine r_eI (r' := jn (fun (KJ5 : St → Int32 × St) => if (T204.1 571 16) = 0 then (if (T204.1 571 13) = 1 then (KJ5 T204) else (KJ5 (x_m_bad T204 1))) else (KJ5 T204)) KJ5) (by rw [hKJ5]) ?_
              refine r_ine dX12_book_186 rfl (fun c186_18 => ?_) (fun c186_18 => ?_)
              · have kk := kk.2 c186_18
                show tR _ _ _ _ [some (.ref 571), some (.int w2_1)] [] _ _ _
                exact r_eI (r' := KJ5 T204) (by simp only [jn]; rw [if_neg c186_18]) ((hJ5 T204 kk))
              · have kk := kk.1 c186_18
                refine r_p dX12_book_189 rfl rfl ?_
                refine r_get dX12_book_190 fkX12_147 rfl rfl ?_
                refine r_ci (x := 1) dX12_book_193 rfl ?_
                refine r_ceq dX12_book_194 rfl (fun c194_19 => ?_) (fun c194_19 => ?_)
                · have kk := kk.1 c194_19
                  show tR _ _ _ _ [some (.ref 571), some (.int w2_1)] [] _ _ _
                  exact r_eI (r' := KJ5 T204) (by simp only [jn]; rw [if_pos c186_18, if_pos c194_19]) ((hJ5 T204 kk))
                · have kk := kk.2 c194_19
                  refine r_p dX12_book_197 rfl rfl ?_
                  refine r_ci (x := 1) dX12_book_198 rfl ?_
                  refine r_cv (d1 := 1) dX12_book_199 cvX12_165 rfl rfl rfl rfl (Nat.le_of_ble_eq_true rfl) (Nat.le_of_ble_eq_true rfl) (Nat.le_of_ble_eq_true rfl) (c_m_bad 1) ?_
                  show tR _ _ _ _ [some (.ref 571), some (.int w2_1)] [] _ _ _
                  exact r_eI (r' := KJ5 (x_m_bad T204 1)) (by simp only [jn]; rw [if_pos c186_18, if_neg c194_19]) ((hJ5 (x_m_bad T204 1) kk))
          refine r_eI (r' := jn (fun (KJ4 : St → Int32 × St) => if (T203.1 571 16) = 0 then (if (lg_cmp (x_m_word T203) 1684632424) = 0 then (KJ4 T203) else (KJ4 (x_m_bad T203 1))) else (KJ4 T203)) KJ4) (by rw [hKJ4]) ?_
          refine r_ine dX12_book_145 rfl (fun c145_20 => ?_) (fun c145_20 => ?_)
          · have kk := kk.2 c145_20
            show tR _ _ _ _ [some (.ref 571), some (.int w2_1)] [] _ _ _
            exact r_eI (r' := KJ4 T203) (by simp only [jn]; rw [if_neg c145_20]) ((hJ4 T203 kk))
          · have kk := kk.1 c145_20
            refine r_p dX12_book_148 rfl rfl ?_
            obtain ⟨q18, kk⟩ := kk
            refine r_cv (d1 := 1) dX12_book_149 cvX12_176 rfl rfl rfl rfl (Nat.le_of_ble_eq_true rfl) (Nat.le_of_ble_eq_true rfl) (Nat.le_of_ble_eq_true rfl) (c_m_word  q18) ?_
            refine r_kl dX12_book_152 klX12_212 ?_
            refine r_p dX12_book_155 rfl rfl ?_
            refine r_ieq dX12_book_156 rfl (fun c156_21 => ?_) (fun c156_21 => ?_)
            · have kk := kk.1 c156_21
              show tR _ _ _ _ [some (.ref 571), some (.int w2_1)] [] _ _ _
              exact r_eI (r' := KJ4 T203) (by simp only [jn]; rw [if_pos c145_20, if_pos c156_21]) ((hJ4 T203 kk))
            · have kk := kk.2 c156_21
              refine r_p dX12_book_159 rfl rfl ?_
              refine r_ci (x := 1) dX12_book_160 rfl ?_
              refine r_cv (d1 := 1) dX12_book_161 cvX12_165 rfl rfl rfl rfl (Nat.le_of_ble_eq_true rfl) (Nat.le_of_ble_eq_true rfl) (Nat.le_of_ble_eq_true rfl) (c_m_bad 1) ?_
              show tR _ _ _ _ [some (.ref 571), some (.int w2_1)] [] _ _ _
              exact r_eI (r' := KJ4 (x_m_bad T203 1)) (by simp only [jn]; rw [if_pos c145_20, if_neg c156_21]) ((hJ4 (x_m_bad T203 1) kk))
    refine r_eI (r' := jn (fun (KJ1 : Int32 → Int32 × St) => if (lg_cmp (x_m_word (x_m_next T201)) 30233771112949102) = 0 then (KJ1 1) else (KJ1 0)) KJ1) (by rw [hKJ1]) ?_
    refine r_ine dX12_book_63 rfl (fun c63_22 => ?_) (fun c63_22 => ?_)
    · have kk := kk.2 c63_22
      refine r_ci (x := 0) dX12_book_70 rfl ?_
      show tR _ _ _ _ [some (.ref 571), some (.int w1_1)] [.int 0, .ref 571] _ _ _
      exact r_eI (r' := KJ1 0) (by simp only [jn]; rw [if_neg c63_22]) ((hJ1 0 kk))
    · have kk := kk.1 c63_22
      refine r_ci (x := 1) dX12_book_66 rfl ?_
      refine r_go dX12_book_67 rfl ?_
      show tR _ _ _ _ [some (.ref 571), some (.int w1_1)] [.int 1, .ref 571] _ _ _
      exact r_eI (r' := KJ1 1) (by simp only [jn]; rw [if_pos c63_22]) ((hJ1 1 kk))
def x_m_dinner (T : St) (p0 : Int32) : Int32 × St := if (x_m_in (sF T 571 0 0) ((p0 : Int32).toInt64) 1 (((1 <<< (((sF T 571 0 0).2.2.1 575 (16 : Int32).toNatClampNeg) &&& 31)) - 1 : Int32).toInt64)) = 0 then ((-1000001), sF T 571 0 0) else (if (x_m_bits (sF T 571 0 0) p0) ≤ 4 then (x_m_bits (x_m_forget (sA (sF T 571 0 0) 575 (202 : Int32).toNatClampNeg p0)) p0, x_m_forget (sA (sF T 571 0 0) 575 (202 : Int32).toNatClampNeg p0)) else ((-1000001), sF T 571 0 0))
def ok_m_dinner (T : St) (p0 : Int32) : Prop := (vp_in 16 204) ∧ (¬ (x_m_in (sF T 571 0 0) ((p0 : Int32).toInt64) 1 (((1 <<< (((sF T 571 0 0).2.2.1 575 (16 : Int32).toNatClampNeg) &&& 31)) - 1 : Int32).toInt64)) = 0 → (ok_m_bits (sF T 571 0 0) p0) ∧ ((x_m_bits (sF T 571 0 0) p0) ≤ 4 → (vp_in 202 204) ∧ (ok_m_bits (x_m_forget (sA (sF T 571 0 0) 575 (202 : Int32).toNatClampNeg p0)) p0) ∧ True))
theorem c_m_dinner {X : Nat × (Nat → Int32)} {T : St} (p0 : Int32) (kk : ok_m_dinner T p0) : tC X 2 mX12_dinner [.ref 571, .int p0] T (some (.int (x_m_dinner T p0).1)) ((x_m_dinner T p0).2) := by
  unfold ok_m_dinner at kk
  refine tC_of ?_
  refine r_p dX12_dinner_0 rfl rfl ?_
  refine r_ci (x := 0) dX12_dinner_1 rfl ?_
  refine r_put dX12_dinner_2 fkX12_101 rfl rfl rfl (Nat.le_of_ble_eq_true rfl) rfl rfl ?_
  refine r_p dX12_dinner_5 rfl rfl ?_
  refine r_p dX12_dinner_6 rfl rfl ?_
  refine r_cl (x := 1) dX12_dinner_7 rfl ?_
  refine r_ci (x := 1) dX12_dinner_8 rfl ?_
  refine r_p dX12_dinner_9 rfl rfl ?_
  refine r_get dX12_dinner_10 fkX12_19 rfl rfl ?_
  refine r_cb (x := 16) dX12_dinner_13 rfl ?_
  obtain ⟨q1, kk⟩ := kk
  refine r_ia dX12_dinner_15 rfl q1 ?_
  refine r_p dX12_dinner_16 rfl rfl ?_
  refine r_ci (x := 1) dX12_dinner_17 rfl ?_
  refine r_p dX12_dinner_18 rfl rfl ?_
  refine r_p dX12_dinner_19 rfl rfl ?_
  refine r_cs (d1 := 1) dX12_dinner_20 csX12_111 rfl rfl (Nat.le_of_ble_eq_true rfl) (Nat.le_of_ble_eq_true rfl) (Nat.le_of_ble_eq_true rfl) (c_m_in ((p0 : Int32).toInt64) 1 (((1 <<< (((sF T 571 0 0).2.2.1 575 (16 : Int32).toNatClampNeg) &&& 31)) - 1 : Int32).toInt64)) ?_
  refine r_ieq dX12_dinner_23 rfl (fun c23_1 => ?_) (fun c23_1 => ?_)
  · refine r_k dX12_dinner_34 kkX12_121 ?_
    exact r_eI (r' := ((-1000001), sF T 571 0 0)) (by unfold x_m_dinner; rw [if_pos c23_1]) (r_ri dX12_dinner_36 rfl rfl rfl rfl)
  · have kk := kk c23_1
    refine r_p dX12_dinner_26 rfl rfl ?_
    obtain ⟨q2, kk⟩ := kk
    refine r_cs (d1 := 1) dX12_dinner_27 csX12_263 rfl rfl (Nat.le_of_ble_eq_true rfl) (Nat.le_of_ble_eq_true rfl) (Nat.le_of_ble_eq_true rfl) (c_m_bits p0 q2) ?_
    refine r_ci (x := 4) dX12_dinner_30 rfl ?_
    refine r_cle dX12_dinner_31 rfl (fun c31_2 => ?_) (fun c31_2 => ?_)
    · have kk := kk c31_2
      refine r_p dX12_dinner_37 rfl rfl ?_
      refine r_get dX12_dinner_38 fkX12_19 rfl rfl ?_
      refine r_csi (x := 202) dX12_dinner_41 rfl ?_
      refine r_p dX12_dinner_44 rfl rfl ?_
      obtain ⟨q3, kk⟩ := kk
      refine r_ias dX12_dinner_45 rfl q3 ?_
      refine r_p dX12_dinner_46 rfl rfl ?_
      refine r_cv (d1 := 1) dX12_dinner_47 cvX12_225 rfl rfl rfl rfl (Nat.le_of_ble_eq_true rfl) (Nat.le_of_ble_eq_true rfl) (Nat.le_of_ble_eq_true rfl) (c_m_forget ) ?_
      refine r_p dX12_dinner_50 rfl rfl ?_
      obtain ⟨q4, kk⟩ := kk
      refine r_cs (d1 := 1) dX12_dinner_51 csX12_263 rfl rfl (Nat.le_of_ble_eq_true rfl) (Nat.le_of_ble_eq_true rfl) (Nat.le_of_ble_eq_true rfl) (c_m_bits p0 q4) ?_
      exact r_eI (r' := (x_m_bits (x_m_forget (sA (sF T 571 0 0) 575 (202 : Int32).toNatClampNeg p0)) p0, x_m_forget (sA (sF T 571 0 0) 575 (202 : Int32).toNatClampNeg p0))) (by unfold x_m_dinner; rw [if_neg c23_1, if_pos c31_2]) (r_ri dX12_dinner_54 rfl rfl rfl rfl)
    · refine r_k dX12_dinner_34 kkX12_121 ?_
      exact r_eI (r' := ((-1000001), sF T 571 0 0)) (by unfold x_m_dinner; rw [if_neg c23_1, if_neg c31_2]) (r_ri dX12_dinner_36 rfl rfl rfl rfl)
def x_m_out (T : St) (p0 : Int32) : Int32 × St := if (x_m_in (sF T 571 0 0) ((p0 : Int32).toInt64) 0 60) = 0 then ((-1000001), sF T 571 0 0) else (if ((sF T 571 0 0).1 571 7) = 0 then ((-1000002), sF T 571 0 0) else (if ((sF T 571 0 0).2.2.1 575 (1 : Int32).toNatClampNeg) = 0 then ((-1000002), sF T 571 0 0) else (1, x_m_forget (sA (sF T 571 0 0) 575 (203 : Int32).toNatClampNeg p0))))
def ok_m_out (T : St) (p0 : Int32) : Prop := (¬ (x_m_in (sF T 571 0 0) ((p0 : Int32).toInt64) 0 60) = 0 → (¬ ((sF T 571 0 0).1 571 7) = 0 → (vp_in 1 204) ∧ (¬ ((sF T 571 0 0).2.2.1 575 (1 : Int32).toNatClampNeg) = 0 → (vp_in 203 204) ∧ True)))
theorem c_m_out {X : Nat × (Nat → Int32)} {T : St} (p0 : Int32) (kk : ok_m_out T p0) : tC X 2 mX12_out [.ref 571, .int p0] T (some (.int (x_m_out T p0).1)) ((x_m_out T p0).2) := by
  unfold ok_m_out at kk
  refine tC_of ?_
  refine r_p dX12_out_0 rfl rfl ?_
  refine r_ci (x := 0) dX12_out_1 rfl ?_
  refine r_put dX12_out_2 fkX12_101 rfl rfl rfl (Nat.le_of_ble_eq_true rfl) rfl rfl ?_
  refine r_p dX12_out_5 rfl rfl ?_
  refine r_p dX12_out_6 rfl rfl ?_
  refine r_cl (x := 0) dX12_out_7 rfl ?_
  refine r_kl dX12_out_8 klX12_266 ?_
  refine r_cs (d1 := 1) dX12_out_11 csX12_111 rfl rfl (Nat.le_of_ble_eq_true rfl) (Nat.le_of_ble_eq_true rfl) (Nat.le_of_ble_eq_true rfl) (c_m_in ((p0 : Int32).toInt64) 0 60) ?_
  refine r_ine dX12_out_14 rfl (fun c14_1 => ?_) (fun c14_1 => ?_)
  · have kk := kk c14_1
    refine r_p dX12_out_20 rfl rfl ?_
    refine r_get dX12_out_21 fkX12_221 rfl rfl ?_
    refine r_ieq dX12_out_24 rfl (fun c24_2 => ?_) (fun c24_2 => ?_)
    · refine r_k dX12_out_36 kkX12_253 ?_
      exact r_eI (r' := ((-1000002), sF T 571 0 0)) (by unfold x_m_out; rw [if_neg c14_1, if_pos c24_2]) (r_ri dX12_out_38 rfl rfl rfl rfl)
    · have kk := kk c24_2
      refine r_p dX12_out_27 rfl rfl ?_
      refine r_get dX12_out_28 fkX12_19 rfl rfl ?_
      refine r_ci (x := 1) dX12_out_31 rfl ?_
      obtain ⟨q1, kk⟩ := kk
      refine r_ia dX12_out_32 rfl q1 ?_
      refine r_ine dX12_out_33 rfl (fun c33_3 => ?_) (fun c33_3 => ?_)
      · have kk := kk c33_3
        refine r_p dX12_out_39 rfl rfl ?_
        refine r_get dX12_out_40 fkX12_19 rfl rfl ?_
        refine r_csi (x := 203) dX12_out_43 rfl ?_
        refine r_p dX12_out_46 rfl rfl ?_
        obtain ⟨q2, kk⟩ := kk
        refine r_ias dX12_out_47 rfl q2 ?_
        refine r_p dX12_out_48 rfl rfl ?_
        refine r_cv (d1 := 1) dX12_out_49 cvX12_225 rfl rfl rfl rfl (Nat.le_of_ble_eq_true rfl) (Nat.le_of_ble_eq_true rfl) (Nat.le_of_ble_eq_true rfl) (c_m_forget ) ?_
        refine r_ci (x := 1) dX12_out_52 rfl ?_
        exact r_eI (r' := (1, x_m_forget (sA (sF T 571 0 0) 575 (203 : Int32).toNatClampNeg p0))) (by unfold x_m_out; rw [if_neg c14_1, if_neg c24_2, if_neg c33_3]) (r_ri dX12_out_53 rfl rfl rfl rfl)
      · refine r_k dX12_out_36 kkX12_253 ?_
        exact r_eI (r' := ((-1000002), sF T 571 0 0)) (by unfold x_m_out; rw [if_neg c14_1, if_neg c24_2, if_pos c33_3]) (r_ri dX12_out_38 rfl rfl rfl rfl)
  · refine r_k dX12_out_17 kkX12_121 ?_
    exact r_eI (r' := ((-1000001), sF T 571 0 0)) (by unfold x_m_out; rw [if_pos c14_1]) (r_ri dX12_out_19 rfl rfl rfl rfl)
def x_m_isFirst (T : St) (p0 : Int32) : Int32 := if p0 = 0 then (1) else (if (x_m_dishBy T (T.2.2.1 594 (p0 : Int32).toNatClampNeg)) = (x_m_dishBy T (T.2.2.1 594 (p0 - 1 : Int32).toNatClampNeg)) then (0) else (1))
def ok_m_isFirst (T : St) (p0 : Int32) : Prop := (¬ p0 = 0 → (vp_in p0 12) ∧ (ok_m_dishBy T (T.2.2.1 594 (p0 : Int32).toNatClampNeg)) ∧ (vp_in (p0 - 1) 12) ∧ (ok_m_dishBy T (T.2.2.1 594 (p0 - 1 : Int32).toNatClampNeg)) ∧ True)
theorem c_m_isFirst {X : Nat × (Nat → Int32)} {T : St} (p0 : Int32) (kk : ok_m_isFirst T p0) : tC X 3 mX12_isFirst [.ref 571, .int p0] T (some (.int (x_m_isFirst T p0))) T := by
  unfold ok_m_isFirst at kk
  refine tC_of ?_
  refine r_p dX12_isFirst_0 rfl rfl ?_
  refine r_ieq dX12_isFirst_1 rfl (fun c1_1 => ?_) (fun c1_1 => ?_)
  · refine r_ci (x := 1) dX12_isFirst_29 rfl ?_
    refine r_go dX12_isFirst_30 rfl ?_
    exact r_eIp (r' := 1) (by unfold x_m_isFirst; rw [if_pos c1_1]) (r_ri dX12_isFirst_34 rfl rfl rfl rfl)
  · have kk := kk c1_1
    refine r_p dX12_isFirst_4 rfl rfl ?_
    refine r_p dX12_isFirst_5 rfl rfl ?_
    refine r_get dX12_isFirst_6 fkX12_76 rfl rfl ?_
    refine r_p dX12_isFirst_9 rfl rfl ?_
    obtain ⟨q1, kk⟩ := kk
    refine r_ia dX12_isFirst_10 rfl q1 ?_
    obtain ⟨q2, kk⟩ := kk
    refine r_cv (d1 := 2) dX12_isFirst_11 cvX12_328 rfl rfl rfl rfl (Nat.le_of_ble_eq_true rfl) (Nat.le_of_ble_eq_true rfl) (Nat.le_of_ble_eq_true rfl) (c_m_dishBy (T.2.2.1 594 (p0 : Int32).toNatClampNeg) q2) ?_
    refine r_p dX12_isFirst_14 rfl rfl ?_
    refine r_p dX12_isFirst_15 rfl rfl ?_
    refine r_get dX12_isFirst_16 fkX12_76 rfl rfl ?_
    refine r_p dX12_isFirst_19 rfl rfl ?_
    refine r_ci (x := 1) dX12_isFirst_20 rfl ?_
    refine r_p dX12_isFirst_21 rfl rfl ?_
    obtain ⟨q3, kk⟩ := kk
    refine r_ia dX12_isFirst_22 rfl q3 ?_
    obtain ⟨q4, kk⟩ := kk
    refine r_cv (d1 := 2) dX12_isFirst_23 cvX12_328 rfl rfl rfl rfl (Nat.le_of_ble_eq_true rfl) (Nat.le_of_ble_eq_true rfl) (Nat.le_of_ble_eq_true rfl) (c_m_dishBy (T.2.2.1 594 (p0 - 1 : Int32).toNatClampNeg) q4) ?_
    refine r_ceq dX12_isFirst_26 rfl (fun c26_2 => ?_) (fun c26_2 => ?_)
    · refine r_ci (x := 0) dX12_isFirst_33 rfl ?_
      exact r_eIp (r' := 0) (by unfold x_m_isFirst; rw [if_neg c1_1, if_pos c26_2]) (r_ri dX12_isFirst_34 rfl rfl rfl rfl)
    · refine r_ci (x := 1) dX12_isFirst_29 rfl ?_
      refine r_go dX12_isFirst_30 rfl ?_
      exact r_eIp (r' := 1) (by unfold x_m_isFirst; rw [if_neg c1_1, if_neg c26_2]) (r_ri dX12_isFirst_34 rfl rfl rfl rfl)
theorem b_m_isFirst (T : St) (p0 : Int32) : x_m_isFirst T p0 = 0 ∨ x_m_isFirst T p0 = 1 := by
  unfold x_m_isFirst
  repeat' split
  all_goals (first | exact Or.inl rfl | exact Or.inr rfl)
def x_m_isLast (T : St) (p0 : Int32) : Int32 := if p0 = ((T.1 571 39) - 1) then (1) else (if (x_m_dishBy T (T.2.2.1 594 (p0 : Int32).toNatClampNeg)) = (x_m_dishBy T (T.2.2.1 594 (p0 + 1 : Int32).toNatClampNeg)) then (0) else (1))
def ok_m_isLast (T : St) (p0 : Int32) : Prop := (¬ p0 = ((T.1 571 39) - 1) → (vp_in p0 12) ∧ (ok_m_dishBy T (T.2.2.1 594 (p0 : Int32).toNatClampNeg)) ∧ (vp_in (p0 + 1) 12) ∧ (ok_m_dishBy T (T.2.2.1 594 (p0 + 1 : Int32).toNatClampNeg)) ∧ True)
theorem c_m_isLast {X : Nat × (Nat → Int32)} {T : St} (p0 : Int32) (kk : ok_m_isLast T p0) : tC X 3 mX12_isLast [.ref 571, .int p0] T (some (.int (x_m_isLast T p0))) T := by
  unfold ok_m_isLast at kk
  refine tC_of ?_
  refine r_p dX12_isLast_0 rfl rfl ?_
  refine r_p dX12_isLast_1 rfl rfl ?_
  refine r_get dX12_isLast_2 fkX12_302 rfl rfl ?_
  refine r_ci (x := 1) dX12_isLast_5 rfl ?_
  refine r_p dX12_isLast_6 rfl rfl ?_
  refine r_ceq dX12_isLast_7 rfl (fun c7_1 => ?_) (fun c7_1 => ?_)
  · refine r_ci (x := 1) dX12_isLast_35 rfl ?_
    refine r_go dX12_isLast_36 rfl ?_
    exact r_eIp (r' := 1) (by unfold x_m_isLast; rw [if_pos c7_1]) (r_ri dX12_isLast_40 rfl rfl rfl rfl)
  · have kk := kk c7_1
    refine r_p dX12_isLast_10 rfl rfl ?_
    refine r_p dX12_isLast_11 rfl rfl ?_
    refine r_get dX12_isLast_12 fkX12_76 rfl rfl ?_
    refine r_p dX12_isLast_15 rfl rfl ?_
    obtain ⟨q1, kk⟩ := kk
    refine r_ia dX12_isLast_16 rfl q1 ?_
    obtain ⟨q2, kk⟩ := kk
    refine r_cv (d1 := 2) dX12_isLast_17 cvX12_328 rfl rfl rfl rfl (Nat.le_of_ble_eq_true rfl) (Nat.le_of_ble_eq_true rfl) (Nat.le_of_ble_eq_true rfl) (c_m_dishBy (T.2.2.1 594 (p0 : Int32).toNatClampNeg) q2) ?_
    refine r_p dX12_isLast_20 rfl rfl ?_
    refine r_p dX12_isLast_21 rfl rfl ?_
    refine r_get dX12_isLast_22 fkX12_76 rfl rfl ?_
    refine r_p dX12_isLast_25 rfl rfl ?_
    refine r_ci (x := 1) dX12_isLast_26 rfl ?_
    refine r_p dX12_isLast_27 rfl rfl ?_
    obtain ⟨q3, kk⟩ := kk
    refine r_ia dX12_isLast_28 rfl q3 ?_
    obtain ⟨q4, kk⟩ := kk
    refine r_cv (d1 := 2) dX12_isLast_29 cvX12_328 rfl rfl rfl rfl (Nat.le_of_ble_eq_true rfl) (Nat.le_of_ble_eq_true rfl) (Nat.le_of_ble_eq_true rfl) (c_m_dishBy (T.2.2.1 594 (p0 + 1 : Int32).toNatClampNeg) q4) ?_
    refine r_ceq dX12_isLast_32 rfl (fun c32_2 => ?_) (fun c32_2 => ?_)
    · refine r_ci (x := 0) dX12_isLast_39 rfl ?_
      exact r_eIp (r' := 0) (by unfold x_m_isLast; rw [if_neg c7_1, if_pos c32_2]) (r_ri dX12_isLast_40 rfl rfl rfl rfl)
    · refine r_ci (x := 1) dX12_isLast_35 rfl ?_
      refine r_go dX12_isLast_36 rfl ?_
      exact r_eIp (r' := 1) (by unfold x_m_isLast; rw [if_neg c7_1, if_neg c32_2]) (r_ri dX12_isLast_40 rfl rfl rfl rfl)
theorem b_m_isLast (T : St) (p0 : Int32) : x_m_isLast T p0 = 0 ∨ x_m_isLast T p0 = 1 := by
  unfold x_m_isLast
  repeat' split
  all_goals (first | exact Or.inl rfl | exact Or.inr rfl)
def x_m_judged_2 (l1 : Int32) (K : Int32 → St → Int32 × St) : Nat → Int32 → St → Int32 × St
  | 0, _, T => (0, T)
  | f + 1, v2, T => if (T.1 571 39) ≤ v2 then (K v2 T) else (jn (fun (KJ1 : Int32 × St) => if (T.2.2.1 595 (v2 : Int32).toNatClampNeg) < 0 then (KJ1) else (if 59 < (T.2.2.1 595 (v2 : Int32).toNatClampNeg) then (KJ1) else (if (x_m_endOf T v2) ≤ 60 then (x_m_judged_2 l1 K f (v2 + 1) T) else (KJ1)))) ((1 + (10 * v2), T)))
def ok_m_judged_2 (l1 : Int32) (Kk : Int32 → St → Prop) : Nat → Int32 → St → Prop
  | 0, _, _ => False
  | f + 1, v2, T => (((T.1 571 39) ≤ v2 → Kk v2 T) ∧ (¬ (T.1 571 39) ≤ v2 → (vp_in v2 12) ∧ (¬ (T.2.2.1 595 (v2 : Int32).toNatClampNeg) < 0 → (¬ 59 < (T.2.2.1 595 (v2 : Int32).toNatClampNeg) → (ok_m_endOf T v2) ∧ ((x_m_endOf T v2) ≤ 60 → ok_m_judged_2 l1 Kk f (v2 + 1) T)))))
theorem c_m_judged_2 {X : Nat × (Nat → Int32)} (l1 : Int32) {K : Int32 → St → Int32 × St} {Kk : Int32 → St → Prop} (hk : ∀ (v2 : Int32) (T : St), Kk v2 T → tR X 3 mX12_judged 53 [some (.ref 571), some (.int l1), some (.int v2), none] [] T (some (.int (K v2 T).1)) ((K v2 T).2)) : ∀ (f : Nat) (v2 : Int32) (T : St), ok_m_judged_2 l1 Kk f v2 T → tR X 3 mX12_judged 2 [some (.ref 571), some (.int l1), some (.int v2), none] [] T (some (.int (x_m_judged_2 l1 K f v2 T).1)) ((x_m_judged_2 l1 K f v2 T).2) := by
  intro f
  induction f with
  | zero => intro v2 T kk; exact kk.elim
  | succ f ih =>
    intro v2 T kk
    rw [ok_m_judged_2] at kk
    refine r_p dX12_judged_2 rfl rfl ?_
    refine r_p dX12_judged_3 rfl rfl ?_
    refine r_get dX12_judged_4 fkX12_302 rfl rfl ?_
    refine r_cge dX12_judged_7 rfl (fun c7_1 => ?_) (fun c7_1 => ?_)
    · have kk := kk.1 c7_1
      show tR _ _ _ _ [some (.ref 571), some (.int l1), some (.int v2), none] _ _ _ _
      exact r_eI (r' := K v2 T) (by rw [x_m_judged_2]; rw [if_pos c7_1]) ((hk v2 T kk))
    · have kk := kk.2 c7_1
      refine r_p dX12_judged_10 rfl rfl ?_
      refine r_get dX12_judged_11 fkX12_79 rfl rfl ?_
      refine r_p dX12_judged_14 rfl rfl ?_
      obtain ⟨q1, kk⟩ := kk
      refine r_ia dX12_judged_15 rfl q1 ?_
      obtain ⟨KJ1, hKJ1⟩ : ∃ q : Int32 × St, q = ((1 + (10 * v2), T)) := ⟨_, rfl⟩
      have hJ1 : tR X 3 mX12_judged 40 [some (.ref 571), some (.int l1), some (.int v2), none] [] T (some (.int KJ1.1)) KJ1.2 := by
        rw [hKJ1]
        refine r_ci (x := 1) dX12_judged_40 rfl ?_
        refine r_cb (x := 10) dX12_judged_41 rfl ?_
        refine r_p dX12_judged_43 rfl rfl ?_
        refine r_p dX12_judged_44 rfl rfl ?_
        refine r_p dX12_judged_45 rfl rfl ?_
        exact r_eI (r' := (1 + (10 * v2), T)) rfl (r_ri dX12_judged_46 rfl rfl rfl rfl)
      refine r_eI (r' := jn (fun (KJ1 : Int32 × St) => if (T.2.2.1 595 (v2 : Int32).toNatClampNeg) < 0 then (KJ1) else (if 59 < (T.2.2.1 595 (v2 : Int32).toNatClampNeg) then (KJ1) else (if (x_m_endOf T v2) ≤ 60 then (x_m_judged_2 l1 K f (v2 + 1) T) else (KJ1)))) KJ1) (by rw [hKJ1]; rw [x_m_judged_2]; rw [if_neg c7_1]) ?_
      refine r_ilt dX12_judged_16 rfl (fun c16_5 => ?_) (fun c16_5 => ?_)
      · show tR _ _ _ _ [some (.ref 571), some (.int l1), some (.int v2), none] [] _ _ _
        exact r_eI (r' := KJ1) (by simp only [jn]; rw [if_pos c16_5]) ((hJ1 ))
      · have kk := kk c16_5
        refine r_p dX12_judged_19 rfl rfl ?_
        refine r_get dX12_judged_20 fkX12_79 rfl rfl ?_
        refine r_p dX12_judged_23 rfl rfl ?_
        refine r_ia dX12_judged_24 rfl q1 ?_
        refine r_cb (x := 59) dX12_judged_25 rfl ?_
        refine r_cgt dX12_judged_27 rfl (fun c27_6 => ?_) (fun c27_6 => ?_)
        · show tR _ _ _ _ [some (.ref 571), some (.int l1), some (.int v2), none] [] _ _ _
          exact r_eI (r' := KJ1) (by simp only [jn]; rw [if_neg c16_5, if_pos c27_6]) ((hJ1 ))
        · have kk := kk c27_6
          refine r_p dX12_judged_30 rfl rfl ?_
          refine r_p dX12_judged_31 rfl rfl ?_
          obtain ⟨q3, kk⟩ := kk
          refine r_cv (d1 := 2) dX12_judged_32 cvX12_331 rfl rfl rfl rfl (Nat.le_of_ble_eq_true rfl) (Nat.le_of_ble_eq_true rfl) (Nat.le_of_ble_eq_true rfl) (c_m_endOf v2 q3) ?_
          refine r_cb (x := 60) dX12_judged_35 rfl ?_
          refine r_cle dX12_judged_37 rfl (fun c37_7 => ?_) (fun c37_7 => ?_)
          · have kk := kk c37_7
            refine r_inc (y := 1) dX12_judged_47 rfl rfl rfl ?_
            refine r_go dX12_judged_50 rfl ?_
            show tR _ _ _ _ [some (.ref 571), some (.int l1), some (.int (v2 + 1)), none] _ _ _ _
            exact r_eI (r' := x_m_judged_2 l1 K f (v2 + 1) T) (by simp only [jn]; rw [if_neg c16_5, if_neg c27_6, if_pos c37_7]) ((ih (v2 + 1) T kk))
          · show tR _ _ _ _ [some (.ref 571), some (.int l1), some (.int v2), none] [] _ _ _
            exact r_eI (r' := KJ1) (by simp only [jn]; rw [if_neg c16_5, if_neg c27_6, if_neg c37_7]) ((hJ1 ))
def x_m_judged_55 (l1 : Int32) (K : Int32 → St → Int32 × St) : Nat → Int32 → St → Int32 × St
  | 0, _, T => (0, T)
  | f + 1, v2, T => if (T.1 571 39) ≤ v2 then (K v2 T) else (if (x_m_isFirst T v2) = 0 then (if (x_m_in T (((T.2.2.1 595 (v2 : Int32).toNatClampNeg) - (x_m_endOf T (v2 - 1)) : Int32).toInt64) 0 ((x_m_stepOf T (T.2.2.1 594 (v2 - 1 : Int32).toNatClampNeg) 2 : Int32).toInt64)) = 0 then (2 + (10 * v2), T) else (x_m_judged_55 l1 K f (v2 + 1) T)) else (x_m_judged_55 l1 K f (v2 + 1) T))
def ok_m_judged_55 (l1 : Int32) (Kk : Int32 → St → Prop) : Nat → Int32 → St → Prop
  | 0, _, _ => False
  | f + 1, v2, T => (((T.1 571 39) ≤ v2 → Kk v2 T) ∧ (¬ (T.1 571 39) ≤ v2 → (ok_m_isFirst T v2) ∧ (((x_m_isFirst T v2) = 0 → (vp_in v2 12) ∧ (ok_m_endOf T (v2 - 1)) ∧ (vp_in (v2 - 1) 12) ∧ (ok_m_stepOf T (T.2.2.1 594 (v2 - 1 : Int32).toNatClampNeg) 2) ∧ (¬ (x_m_in T (((T.2.2.1 595 (v2 : Int32).toNatClampNeg) - (x_m_endOf T (v2 - 1)) : Int32).toInt64) 0 ((x_m_stepOf T (T.2.2.1 594 (v2 - 1 : Int32).toNatClampNeg) 2 : Int32).toInt64)) = 0 → ok_m_judged_55 l1 Kk f (v2 + 1) T)) ∧ (¬ (x_m_isFirst T v2) = 0 → ok_m_judged_55 l1 Kk f (v2 + 1) T))))
theorem c_m_judged_55 {X : Nat × (Nat → Int32)} (l1 : Int32) {K : Int32 → St → Int32 × St} {Kk : Int32 → St → Prop} (hk : ∀ (v2 : Int32) (T : St), Kk v2 T → tR X 3 mX12_judged 120 [some (.ref 571), some (.int l1), some (.int v2), none] [] T (some (.int (K v2 T).1)) ((K v2 T).2)) : ∀ (f : Nat) (v2 : Int32) (T : St), ok_m_judged_55 l1 Kk f v2 T → tR X 3 mX12_judged 55 [some (.ref 571), some (.int l1), some (.int v2), none] [] T (some (.int (x_m_judged_55 l1 K f v2 T).1)) ((x_m_judged_55 l1 K f v2 T).2) := by
  intro f
  induction f with
  | zero => intro v2 T kk; exact kk.elim
  | succ f ih =>
    intro v2 T kk
    rw [ok_m_judged_55] at kk
    refine r_p dX12_judged_55 rfl rfl ?_
    refine r_p dX12_judged_56 rfl rfl ?_
    refine r_get dX12_judged_57 fkX12_302 rfl rfl ?_
    refine r_cge dX12_judged_60 rfl (fun c60_8 => ?_) (fun c60_8 => ?_)
    · have kk := kk.1 c60_8
      show tR _ _ _ _ [some (.ref 571), some (.int l1), some (.int v2), none] _ _ _ _
      exact r_eI (r' := K v2 T) (by rw [x_m_judged_55]; rw [if_pos c60_8]) ((hk v2 T kk))
    · have kk := kk.2 c60_8
      refine r_p dX12_judged_63 rfl rfl ?_
      refine r_p dX12_judged_64 rfl rfl ?_
      obtain ⟨q4, kk⟩ := kk
      refine r_cv (d1 := 3) dX12_judged_65 cvX12_334 rfl rfl rfl rfl (Nat.le_of_ble_eq_true rfl) (Nat.le_of_ble_eq_true rfl) (Nat.le_of_ble_eq_true rfl) (c_m_isFirst v2 q4) ?_
      refine r_ine dX12_judged_68 rfl (fun c68_9 => ?_) (fun c68_9 => ?_)
      · have kk := kk.2 c68_9
        refine r_inc (y := 1) dX12_judged_114 rfl rfl rfl ?_
        refine r_go dX12_judged_117 rfl ?_
        show tR _ _ _ _ [some (.ref 571), some (.int l1), some (.int (v2 + 1)), none] _ _ _ _
        exact r_eI (r' := x_m_judged_55 l1 K f (v2 + 1) T) (by rw [x_m_judged_55]; rw [if_neg c60_8, if_neg c68_9]) ((ih (v2 + 1) T kk))
      · have kk := kk.1 c68_9
        refine r_p dX12_judged_71 rfl rfl ?_
        refine r_get dX12_judged_72 fkX12_79 rfl rfl ?_
        refine r_p dX12_judged_75 rfl rfl ?_
        obtain ⟨q5, kk⟩ := kk
        refine r_ia dX12_judged_76 rfl q5 ?_
        refine r_p dX12_judged_77 rfl rfl ?_
        refine r_p dX12_judged_78 rfl rfl ?_
        refine r_ci (x := 1) dX12_judged_79 rfl ?_
        refine r_p dX12_judged_80 rfl rfl ?_
        obtain ⟨q6, kk⟩ := kk
        refine r_cv (d1 := 2) dX12_judged_81 cvX12_331 rfl rfl rfl rfl (Nat.le_of_ble_eq_true rfl) (Nat.le_of_ble_eq_true rfl) (Nat.le_of_ble_eq_true rfl) (c_m_endOf (v2 - 1) q6) ?_
        refine r_p dX12_judged_84 rfl rfl ?_
        refine r_p dX12_judged_85 rfl rfl ?_
        refine r_cl (x := 0) dX12_judged_86 rfl ?_
        refine r_p dX12_judged_87 rfl rfl ?_
        refine r_p dX12_judged_88 rfl rfl ?_
        refine r_get dX12_judged_89 fkX12_76 rfl rfl ?_
        refine r_p dX12_judged_92 rfl rfl ?_
        refine r_ci (x := 1) dX12_judged_93 rfl ?_
        refine r_p dX12_judged_94 rfl rfl ?_
        obtain ⟨q7, kk⟩ := kk
        refine r_ia dX12_judged_95 rfl q7 ?_
        refine r_ci (x := 2) dX12_judged_96 rfl ?_
        obtain ⟨q8, kk⟩ := kk
        refine r_cv (d1 := 1) dX12_judged_97 cvX12_232 rfl rfl rfl rfl (Nat.le_of_ble_eq_true rfl) (Nat.le_of_ble_eq_true rfl) (Nat.le_of_ble_eq_true rfl) (c_m_stepOf (T.2.2.1 594 (v2 - 1 : Int32).toNatClampNeg) 2 q8) ?_
        refine r_p dX12_judged_100 rfl rfl ?_
        refine r_cs (d1 := 1) dX12_judged_101 csX12_111 rfl rfl (Nat.le_of_ble_eq_true rfl) (Nat.le_of_ble_eq_true rfl) (Nat.le_of_ble_eq_true rfl) (c_m_in (((T.2.2.1 595 (v2 : Int32).toNatClampNeg) - (x_m_endOf T (v2 - 1)) : Int32).toInt64) 0 ((x_m_stepOf T (T.2.2.1 594 (v2 - 1 : Int32).toNatClampNeg) 2 : Int32).toInt64)) ?_
        refine r_ine dX12_judged_104 rfl (fun c104_10 => ?_) (fun c104_10 => ?_)
        · have kk := kk c104_10
          refine r_inc (y := 1) dX12_judged_114 rfl rfl rfl ?_
          refine r_go dX12_judged_117 rfl ?_
          show tR _ _ _ _ [some (.ref 571), some (.int l1), some (.int (v2 + 1)), none] _ _ _ _
          exact r_eI (r' := x_m_judged_55 l1 K f (v2 + 1) T) (by rw [x_m_judged_55]; rw [if_neg c60_8, if_pos c68_9, if_neg c104_10]) ((ih (v2 + 1) T kk))
        · refine r_ci (x := 2) dX12_judged_107 rfl ?_
          refine r_cb (x := 10) dX12_judged_108 rfl ?_
          refine r_p dX12_judged_110 rfl rfl ?_
          refine r_p dX12_judged_111 rfl rfl ?_
          refine r_p dX12_judged_112 rfl rfl ?_
          exact r_eI (r' := (2 + (10 * v2), T)) (by rw [x_m_judged_55]; rw [if_neg c60_8, if_pos c68_9, if_pos c104_10]) (r_ri dX12_judged_113 rfl rfl rfl rfl)
def x_m_judged_122 (l1 : Int32) (K : Int32 → St → Int32 × St) : Nat → Int32 → St → Int32 × St
  | 0, _, T => (0, T)
  | f + 1, v2, T => if (T.1 571 39) ≤ v2 then (K v2 T) else (if (x_m_isLast T v2) = 0 then (x_m_judged_122 l1 K f (v2 + 1) T) else (if (x_m_in T ((l1 - (x_m_endOf T v2) : Int32).toInt64) 0 ((x_m_dishOf T (x_m_dishBy T (T.2.2.1 594 (v2 : Int32).toNatClampNeg)) 0 : Int32).toInt64)) = 0 then (3 + (10 * v2), T) else (x_m_judged_122 l1 K f (v2 + 1) T)))
def ok_m_judged_122 (l1 : Int32) (Kk : Int32 → St → Prop) : Nat → Int32 → St → Prop
  | 0, _, _ => False
  | f + 1, v2, T => (((T.1 571 39) ≤ v2 → Kk v2 T) ∧ (¬ (T.1 571 39) ≤ v2 → (ok_m_isLast T v2) ∧ (((x_m_isLast T v2) = 0 → ok_m_judged_122 l1 Kk f (v2 + 1) T) ∧ (¬ (x_m_isLast T v2) = 0 → (ok_m_endOf T v2) ∧ (vp_in v2 12) ∧ (ok_m_dishBy T (T.2.2.1 594 (v2 : Int32).toNatClampNeg)) ∧ (ok_m_dishOf T (x_m_dishBy T (T.2.2.1 594 (v2 : Int32).toNatClampNeg)) 0) ∧ (¬ (x_m_in T ((l1 - (x_m_endOf T v2) : Int32).toInt64) 0 ((x_m_dishOf T (x_m_dishBy T (T.2.2.1 594 (v2 : Int32).toNatClampNeg)) 0 : Int32).toInt64)) = 0 → ok_m_judged_122 l1 Kk f (v2 + 1) T)))))
theorem c_m_judged_122 {X : Nat × (Nat → Int32)} (l1 : Int32) {K : Int32 → St → Int32 × St} {Kk : Int32 → St → Prop} (hk : ∀ (v2 : Int32) (T : St), Kk v2 T → tR X 3 mX12_judged 182 [some (.ref 571), some (.int l1), some (.int v2), none] [] T (some (.int (K v2 T).1)) ((K v2 T).2)) : ∀ (f : Nat) (v2 : Int32) (T : St), ok_m_judged_122 l1 Kk f v2 T → tR X 3 mX12_judged 122 [some (.ref 571), some (.int l1), some (.int v2), none] [] T (some (.int (x_m_judged_122 l1 K f v2 T).1)) ((x_m_judged_122 l1 K f v2 T).2) := by
  intro f
  induction f with
  | zero => intro v2 T kk; exact kk.elim
  | succ f ih =>
    intro v2 T kk
    rw [ok_m_judged_122] at kk
    refine r_p dX12_judged_122 rfl rfl ?_
    refine r_p dX12_judged_123 rfl rfl ?_
    refine r_get dX12_judged_124 fkX12_302 rfl rfl ?_
    refine r_cge dX12_judged_127 rfl (fun c127_11 => ?_) (fun c127_11 => ?_)
    · have kk := kk.1 c127_11
      show tR _ _ _ _ [some (.ref 571), some (.int l1), some (.int v2), none] _ _ _ _
      exact r_eI (r' := K v2 T) (by rw [x_m_judged_122]; rw [if_pos c127_11]) ((hk v2 T kk))
    · have kk := kk.2 c127_11
      refine r_p dX12_judged_130 rfl rfl ?_
      refine r_p dX12_judged_131 rfl rfl ?_
      obtain ⟨q9, kk⟩ := kk
      refine r_cv (d1 := 3) dX12_judged_132 cvX12_337 rfl rfl rfl rfl (Nat.le_of_ble_eq_true rfl) (Nat.le_of_ble_eq_true rfl) (Nat.le_of_ble_eq_true rfl) (c_m_isLast v2 q9) ?_
      refine r_ieq dX12_judged_135 rfl (fun c135_12 => ?_) (fun c135_12 => ?_)
      · have kk := kk.1 c135_12
        refine r_inc (y := 1) dX12_judged_176 rfl rfl rfl ?_
        refine r_go dX12_judged_179 rfl ?_
        show tR _ _ _ _ [some (.ref 571), some (.int l1), some (.int (v2 + 1)), none] _ _ _ _
        exact r_eI (r' := x_m_judged_122 l1 K f (v2 + 1) T) (by rw [x_m_judged_122]; rw [if_neg c127_11, if_pos c135_12]) ((ih (v2 + 1) T kk))
      · have kk := kk.2 c135_12
        refine r_p dX12_judged_138 rfl rfl ?_
        refine r_p dX12_judged_139 rfl rfl ?_
        refine r_p dX12_judged_140 rfl rfl ?_
        obtain ⟨q10, kk⟩ := kk
        refine r_cv (d1 := 2) dX12_judged_141 cvX12_331 rfl rfl rfl rfl (Nat.le_of_ble_eq_true rfl) (Nat.le_of_ble_eq_true rfl) (Nat.le_of_ble_eq_true rfl) (c_m_endOf v2 q10) ?_
        refine r_p dX12_judged_144 rfl rfl ?_
        refine r_p dX12_judged_145 rfl rfl ?_
        refine r_cl (x := 0) dX12_judged_146 rfl ?_
        refine r_p dX12_judged_147 rfl rfl ?_
        refine r_p dX12_judged_148 rfl rfl ?_
        refine r_p dX12_judged_149 rfl rfl ?_
        refine r_get dX12_judged_150 fkX12_76 rfl rfl ?_
        refine r_p dX12_judged_153 rfl rfl ?_
        obtain ⟨q11, kk⟩ := kk
        refine r_ia dX12_judged_154 rfl q11 ?_
        obtain ⟨q12, kk⟩ := kk
        refine r_cv (d1 := 2) dX12_judged_155 cvX12_328 rfl rfl rfl rfl (Nat.le_of_ble_eq_true rfl) (Nat.le_of_ble_eq_true rfl) (Nat.le_of_ble_eq_true rfl) (c_m_dishBy (T.2.2.1 594 (v2 : Int32).toNatClampNeg) q12) ?_
        refine r_ci (x := 0) dX12_judged_158 rfl ?_
        obtain ⟨q13, kk⟩ := kk
        refine r_cv (d1 := 1) dX12_judged_159 cvX12_228 rfl rfl rfl rfl (Nat.le_of_ble_eq_true rfl) (Nat.le_of_ble_eq_true rfl) (Nat.le_of_ble_eq_true rfl) (c_m_dishOf (x_m_dishBy T (T.2.2.1 594 (v2 : Int32).toNatClampNeg)) 0 q13) ?_
        refine r_p dX12_judged_162 rfl rfl ?_
        refine r_cs (d1 := 1) dX12_judged_163 csX12_111 rfl rfl (Nat.le_of_ble_eq_true rfl) (Nat.le_of_ble_eq_true rfl) (Nat.le_of_ble_eq_true rfl) (c_m_in ((l1 - (x_m_endOf T v2) : Int32).toInt64) 0 ((x_m_dishOf T (x_m_dishBy T (T.2.2.1 594 (v2 : Int32).toNatClampNeg)) 0 : Int32).toInt64)) ?_
        refine r_ine dX12_judged_166 rfl (fun c166_13 => ?_) (fun c166_13 => ?_)
        · have kk := kk c166_13
          refine r_inc (y := 1) dX12_judged_176 rfl rfl rfl ?_
          refine r_go dX12_judged_179 rfl ?_
          show tR _ _ _ _ [some (.ref 571), some (.int l1), some (.int (v2 + 1)), none] _ _ _ _
          exact r_eI (r' := x_m_judged_122 l1 K f (v2 + 1) T) (by rw [x_m_judged_122]; rw [if_neg c127_11, if_neg c135_12, if_neg c166_13]) ((ih (v2 + 1) T kk))
        · refine r_ci (x := 3) dX12_judged_169 rfl ?_
          refine r_cb (x := 10) dX12_judged_170 rfl ?_
          refine r_p dX12_judged_172 rfl rfl ?_
          refine r_p dX12_judged_173 rfl rfl ?_
          refine r_p dX12_judged_174 rfl rfl ?_
          exact r_eI (r' := (3 + (10 * v2), T)) (by rw [x_m_judged_122]; rw [if_neg c127_11, if_neg c135_12, if_pos c166_13]) (r_ri dX12_judged_175 rfl rfl rfl rfl)
def x_m_judged_190 (l1 : Int32) (K : Int32 → Int32 → St → Int32 × St) : Nat → Int32 → Int32 → St → Int32 × St
  | 0, _, _, T => (0, T)
  | f + 1, v2, v3, T => if (T.1 571 39) ≤ v3 then (K v2 v3 T) else (fun (T1 : St) => jn (fun (KJ2 : Int32 → Int32 × St) => if (x_m_isFirst T1 v3) = 0 then (KJ2 v2) else (KJ2 (T1.2.2.1 595 (v3 : Int32).toNatClampNeg))) (fun (j2_s0 : Int32) => if (x_m_isLast T1 v3) = 0 then (x_m_judged_190 l1 K f j2_s0 (v3 + 1) T1) else (if (x_m_dishOf T1 (x_m_dishBy T1 (T1.2.2.1 594 (v3 : Int32).toNatClampNeg)) 2) = 1 then (x_m_judged_190 l1 K f j2_s0 (v3 + 1) (x_m_addPan T1 0 j2_s0 (x_m_endOf T1 v3))) else (x_m_judged_190 l1 K f j2_s0 (v3 + 1) T1)))) (x_m_addStep T 0 (T.2.2.1 594 (v3 : Int32).toNatClampNeg) (T.2.2.1 595 (v3 : Int32).toNatClampNeg) ((x_m_endOf T v3) - (T.2.2.1 595 (v3 : Int32).toNatClampNeg)))
def ok_m_judged_190 (l1 : Int32) (Kk : Int32 → Int32 → St → Prop) : Nat → Int32 → Int32 → St → Prop
  | 0, _, _, _ => False
  | f + 1, v2, v3, T => (((T.1 571 39) ≤ v3 → Kk v2 v3 T) ∧ (¬ (T.1 571 39) ≤ v3 → (vp_in v3 12) ∧ (ok_m_endOf T v3) ∧ (ok_m_addStep T 0 (T.2.2.1 594 (v3 : Int32).toNatClampNeg) (T.2.2.1 595 (v3 : Int32).toNatClampNeg) ((x_m_endOf T v3) - (T.2.2.1 595 (v3 : Int32).toNatClampNeg))) ∧ (fun (T1 : St) => (ok_m_isFirst T1 v3) ∧ jn (fun (OJ2 : Int32 → Prop) => (((x_m_isFirst T1 v3) = 0 → OJ2 v2) ∧ (¬ (x_m_isFirst T1 v3) = 0 → (vp_in v3 12) ∧ OJ2 (T1.2.2.1 595 (v3 : Int32).toNatClampNeg)))) (fun (j2_s0 : Int32) => (ok_m_isLast T1 v3) ∧ (((x_m_isLast T1 v3) = 0 → ok_m_judged_190 l1 Kk f j2_s0 (v3 + 1) T1) ∧ (¬ (x_m_isLast T1 v3) = 0 → (vp_in v3 12) ∧ (ok_m_dishBy T1 (T1.2.2.1 594 (v3 : Int32).toNatClampNeg)) ∧ (ok_m_dishOf T1 (x_m_dishBy T1 (T1.2.2.1 594 (v3 : Int32).toNatClampNeg)) 2) ∧ (((x_m_dishOf T1 (x_m_dishBy T1 (T1.2.2.1 594 (v3 : Int32).toNatClampNeg)) 2) = 1 → (ok_m_endOf T1 v3) ∧ (ok_m_addPan T1 0 j2_s0 (x_m_endOf T1 v3)) ∧ ok_m_judged_190 l1 Kk f j2_s0 (v3 + 1) (x_m_addPan T1 0 j2_s0 (x_m_endOf T1 v3))) ∧ (¬ (x_m_dishOf T1 (x_m_dishBy T1 (T1.2.2.1 594 (v3 : Int32).toNatClampNeg)) 2) = 1 → ok_m_judged_190 l1 Kk f j2_s0 (v3 + 1) T1)))))) (x_m_addStep T 0 (T.2.2.1 594 (v3 : Int32).toNatClampNeg) (T.2.2.1 595 (v3 : Int32).toNatClampNeg) ((x_m_endOf T v3) - (T.2.2.1 595 (v3 : Int32).toNatClampNeg)))))
theorem c_m_judged_190 {X : Nat × (Nat → Int32)} (l1 : Int32) {K : Int32 → Int32 → St → Int32 × St} {Kk : Int32 → Int32 → St → Prop} (hk : ∀ (v2 : Int32) (v3 : Int32) (T : St), Kk v2 v3 T → tR X 3 mX12_judged 290 [some (.ref 571), some (.int l1), some (.int v2), some (.int v3)] [] T (some (.int (K v2 v3 T).1)) ((K v2 v3 T).2)) : ∀ (f : Nat) (v2 : Int32) (v3 : Int32) (T : St), ok_m_judged_190 l1 Kk f v2 v3 T → tR X 3 mX12_judged 190 [some (.ref 571), some (.int l1), some (.int v2), some (.int v3)] [] T (some (.int (x_m_judged_190 l1 K f v2 v3 T).1)) ((x_m_judged_190 l1 K f v2 v3 T).2) := by
  intro f
  induction f with
  | zero => intro v2 v3 T kk; exact kk.elim
  | succ f ih =>
    intro v2 v3 T kk
    rw [ok_m_judged_190] at kk
    refine r_p dX12_judged_190 rfl rfl ?_
    refine r_p dX12_judged_191 rfl rfl ?_
    refine r_get dX12_judged_192 fkX12_302 rfl rfl ?_
    refine r_cge dX12_judged_195 rfl (fun c195_14 => ?_) (fun c195_14 => ?_)
    · have kk := kk.1 c195_14
      show tR _ _ _ _ [some (.ref 571), some (.int l1), some (.int v2), some (.int v3)] _ _ _ _
      exact r_eI (r' := K v2 v3 T) (by rw [x_m_judged_190]; rw [if_pos c195_14]) ((hk v2 v3 T kk))
    · have kk := kk.2 c195_14
      refine r_p dX12_judged_198 rfl rfl ?_
      refine r_ci (x := 0) dX12_judged_199 rfl ?_
      refine r_p dX12_judged_200 rfl rfl ?_
      refine r_get dX12_judged_201 fkX12_76 rfl rfl ?_
      refine r_p dX12_judged_204 rfl rfl ?_
      obtain ⟨q15, kk⟩ := kk
      refine r_ia dX12_judged_205 rfl q15 ?_
      refine r_p dX12_judged_206 rfl rfl ?_
      refine r_get dX12_judged_207 fkX12_79 rfl rfl ?_
      refine r_p dX12_judged_210 rfl rfl ?_
      refine r_ia dX12_judged_211 rfl q15 ?_
      refine r_p dX12_judged_212 rfl rfl ?_
      refine r_p dX12_judged_213 rfl rfl ?_
      obtain ⟨q16, kk⟩ := kk
      refine r_cv (d1 := 2) dX12_judged_214 cvX12_331 rfl rfl rfl rfl (Nat.le_of_ble_eq_true rfl) (Nat.le_of_ble_eq_true rfl) (Nat.le_of_ble_eq_true rfl) (c_m_endOf v3 q16) ?_
      refine r_p dX12_judged_217 rfl rfl ?_
      refine r_get dX12_judged_218 fkX12_79 rfl rfl ?_
      refine r_p dX12_judged_221 rfl rfl ?_
      refine r_ia dX12_judged_222 rfl q15 ?_
      refine r_p dX12_judged_223 rfl rfl ?_
      obtain ⟨q17, kk⟩ := kk
      refine r_cv (d1 := 2) dX12_judged_224 cvX12_278 rfl rfl rfl rfl (Nat.le_of_ble_eq_true rfl) (Nat.le_of_ble_eq_true rfl) (Nat.le_of_ble_eq_true rfl) (c_m_addStep 0 (T.2.2.1 594 (v3 : Int32).toNatClampNeg) (T.2.2.1 595 (v3 : Int32).toNatClampNeg) ((x_m_endOf T v3) - (T.2.2.1 595 (v3 : Int32).toNatClampNeg)) q17) ?_
      refine r_eI (r' := (fun (T1 : St) => jn (fun (KJ2 : Int32 → Int32 × St) => if (x_m_isFirst T1 v3) = 0 then (KJ2 v2) else (KJ2 (T1.2.2.1 595 (v3 : Int32).toNatClampNeg))) (fun (j2_s0 : Int32) => if (x_m_isLast T1 v3) = 0 then (x_m_judged_190 l1 K f j2_s0 (v3 + 1) T1) else (if (x_m_dishOf T1 (x_m_dishBy T1 (T1.2.2.1 594 (v3 : Int32).toNatClampNeg)) 2) = 1 then (x_m_judged_190 l1 K f j2_s0 (v3 + 1) (x_m_addPan T1 0 j2_s0 (x_m_endOf T1 v3))) else (x_m_judged_190 l1 K f j2_s0 (v3 + 1) T1)))) (x_m_addStep T 0 (T.2.2.1 594 (v3 : Int32).toNatClampNeg) (T.2.2.1 595 (v3 : Int32).toNatClampNeg) ((x_m_endOf T v3) - (T.2.2.1 595 (v3 : Int32).toNatClampNeg)))) (by rw [x_m_judged_190]; rw [if_neg c195_14]) ?_
      generalize x_m_addStep T 0 (T.2.2.1 594 (v3 : Int32).toNatClampNeg) (T.2.2.1 595 (v3 : Int32).toNatClampNeg) ((x_m_endOf T v3) - (T.2.2.1 595 (v3 : Int32).toNatClampNeg)) = T1 at kk ⊢
      try dsimp only at kk
      refine r_p dX12_judged_227 rfl rfl ?_
      refine r_p dX12_judged_228 rfl rfl ?_
      obtain ⟨q18, kk⟩ := kk
      refine r_cv (d1 := 3) dX12_judged_229 cvX12_334 rfl rfl rfl rfl (Nat.le_of_ble_eq_true rfl) (Nat.le_of_ble_eq_true rfl) (Nat.le_of_ble_eq_true rfl) (c_m_isFirst v3 q18) ?_
      obtain ⟨KJ2, hKJ2⟩ : ∃ q : Int32 → Int32 × St, q = (fun (j2_s0 : Int32) => if (x_m_isLast T1 v3) = 0 then (x_m_judged_190 l1 K f j2_s0 (v3 + 1) T1) else (if (x_m_dishOf T1 (x_m_dishBy T1 (T1.2.2.1 594 (v3 : Int32).toNatClampNeg)) 2) = 1 then (x_m_judged_190 l1 K f j2_s0 (v3 + 1) (x_m_addPan T1 0 j2_s0 (x_m_endOf T1 v3))) else (x_m_judged_190 l1 K f j2_s0 (v3 + 1) T1))) := ⟨_, rfl⟩
      obtain ⟨OJ2, hOJ2⟩ : ∃ q : Int32 → Prop, q = (fun (j2_s0 : Int32) => (ok_m_isLast T1 v3) ∧ (((x_m_isLast T1 v3) = 0 → ok_m_judged_190 l1 Kk f j2_s0 (v3 + 1) T1) ∧ (¬ (x_m_isLast T1 v3) = 0 → (vp_in v3 12) ∧ (ok_m_dishBy T1 (T1.2.2.1 594 (v3 : Int32).toNatClampNeg)) ∧ (ok_m_dishOf T1 (x_m_dishBy T1 (T1.2.2.1 594 (v3 : Int32).toNatClampNeg)) 2) ∧ (((x_m_dishOf T1 (x_m_dishBy T1 (T1.2.2.1 594 (v3 : Int32).toNatClampNeg)) 2) = 1 → (ok_m_endOf T1 v3) ∧ (ok_m_addPan T1 0 j2_s0 (x_m_endOf T1 v3)) ∧ ok_m_judged_190 l1 Kk f j2_s0 (v3 + 1) (x_m_addPan T1 0 j2_s0 (x_m_endOf T1 v3))) ∧ (¬ (x_m_dishOf T1 (x_m_dishBy T1 (T1.2.2.1 594 (v3 : Int32).toNatClampNeg)) 2) = 1 → ok_m_judged_190 l1 Kk f j2_s0 (v3 + 1) T1))))) := ⟨_, rfl⟩
      rw [← hOJ2] at kk
      simp only [jn] at kk
      have hJ2 : ∀ (j2_s0 : Int32), OJ2 j2_s0 → tR X 3 mX12_judged 245 [some (.ref 571), some (.int l1), some (.int v2), some (.int v3)] [.int j2_s0] T1 (some (.int (KJ2 j2_s0).1)) ((KJ2 j2_s0).2) := by
        intro j2_s0 kk
        rw [hOJ2] at kk
        try dsimp only at kk
        rw [hKJ2]
        refine r_p dX12_judged_245 rfl rfl ?_
        refine r_p dX12_judged_246 rfl rfl ?_
        refine r_p dX12_judged_247 rfl rfl ?_
        obtain ⟨q20, kk⟩ := kk
        refine r_cv (d1 := 3) dX12_judged_248 cvX12_337 rfl rfl rfl rfl (Nat.le_of_ble_eq_true rfl) (Nat.le_of_ble_eq_true rfl) (Nat.le_of_ble_eq_true rfl) (c_m_isLast v3 q20) ?_
        refine r_ieq dX12_judged_251 rfl (fun c251_16 => ?_) (fun c251_16 => ?_)
        · have kk := kk.1 c251_16
          refine r_inc (y := 1) dX12_judged_284 rfl rfl rfl ?_
          refine r_go dX12_judged_287 rfl ?_
          show tR _ _ _ _ [some (.ref 571), some (.int l1), some (.int j2_s0), some (.int (v3 + 1))] _ _ _ _
          exact r_eI (r' := x_m_judged_190 l1 K f j2_s0 (v3 + 1) T1) (by first | rw [if_pos c251_16] | (dsimp only; rw [if_pos c251_16])) ((ih j2_s0 (v3 + 1) T1 kk))
        · have kk := kk.2 c251_16
          refine r_p dX12_judged_254 rfl rfl ?_
          refine r_p dX12_judged_255 rfl rfl ?_
          refine r_p dX12_judged_256 rfl rfl ?_
          refine r_get dX12_judged_257 fkX12_76 rfl rfl ?_
          refine r_p dX12_judged_260 rfl rfl ?_
          obtain ⟨q21, kk⟩ := kk
          refine r_ia dX12_judged_261 rfl q21 ?_
          obtain ⟨q22, kk⟩ := kk
          refine r_cv (d1 := 2) dX12_judged_262 cvX12_328 rfl rfl rfl rfl (Nat.le_of_ble_eq_true rfl) (Nat.le_of_ble_eq_true rfl) (Nat.le_of_ble_eq_true rfl) (c_m_dishBy (T1.2.2.1 594 (v3 : Int32).toNatClampNeg) q22) ?_
          refine r_ci (x := 2) dX12_judged_265 rfl ?_
          obtain ⟨q23, kk⟩ := kk
          refine r_cv (d1 := 1) dX12_judged_266 cvX12_228 rfl rfl rfl rfl (Nat.le_of_ble_eq_true rfl) (Nat.le_of_ble_eq_true rfl) (Nat.le_of_ble_eq_true rfl) (c_m_dishOf (x_m_dishBy T1 (T1.2.2.1 594 (v3 : Int32).toNatClampNeg)) 2 q23) ?_
          refine r_ci (x := 1) dX12_judged_269 rfl ?_
          refine r_cne dX12_judged_270 rfl (fun c270_17 => ?_) (fun c270_17 => ?_)
          · have kk := kk.2 c270_17
            refine r_inc (y := 1) dX12_judged_284 rfl rfl rfl ?_
            refine r_go dX12_judged_287 rfl ?_
            show tR _ _ _ _ [some (.ref 571), some (.int l1), some (.int j2_s0), some (.int (v3 + 1))] _ _ _ _
            exact r_eI (r' := x_m_judged_190 l1 K f j2_s0 (v3 + 1) T1) (by first | rw [if_neg c251_16, if_neg c270_17] | (dsimp only; rw [if_neg c251_16, if_neg c270_17])) ((ih j2_s0 (v3 + 1) T1 kk))
          · have kk := kk.1 c270_17
            refine r_p dX12_judged_273 rfl rfl ?_
            refine r_ci (x := 0) dX12_judged_274 rfl ?_
            refine r_p dX12_judged_275 rfl rfl ?_
            refine r_p dX12_judged_276 rfl rfl ?_
            refine r_p dX12_judged_277 rfl rfl ?_
            obtain ⟨q24, kk⟩ := kk
            refine r_cv (d1 := 2) dX12_judged_278 cvX12_331 rfl rfl rfl rfl (Nat.le_of_ble_eq_true rfl) (Nat.le_of_ble_eq_true rfl) (Nat.le_of_ble_eq_true rfl) (c_m_endOf v3 q24) ?_
            obtain ⟨q25, kk⟩ := kk
            refine r_cv (d1 := 1) dX12_judged_281 cvX12_282 rfl rfl rfl rfl (Nat.le_of_ble_eq_true rfl) (Nat.le_of_ble_eq_true rfl) (Nat.le_of_ble_eq_true rfl) (c_m_addPan 0 j2_s0 (x_m_endOf T1 v3) q25) ?_
            refine r_inc (y := 1) dX12_judged_284 rfl rfl rfl ?_
            refine r_go dX12_judged_287 rfl ?_
            show tR _ _ _ _ [some (.ref 571), some (.int l1), some (.int j2_s0), some (.int (v3 + 1))] _ _ _ _
            exact r_eI (r' := x_m_judged_190 l1 K f j2_s0 (v3 + 1) (x_m_addPan T1 0 j2_s0 (x_m_endOf T1 v3))) (by first | rw [if_neg c251_16, if_pos c270_17] | (dsimp only; rw [if_neg c251_16, if_pos c270_17])) ((ih j2_s0 (v3 + 1) (x_m_addPan T1 0 j2_s0 (x_m_endOf T1 v3)) kk))
      refine r_eI (r' := jn (fun (KJ2 : Int32 → Int32 × St) => if (x_m_isFirst T1 v3) = 0 then (KJ2 v2) else (KJ2 (T1.2.2.1 595 (v3 : Int32).toNatClampNeg))) KJ2) (by rw [hKJ2]) ?_
      refine r_ieq dX12_judged_232 rfl (fun c232_18 => ?_) (fun c232_18 => ?_)
      · have kk := kk.1 c232_18
        refine r_p dX12_judged_244 rfl rfl ?_
        show tR _ _ _ _ [some (.ref 571), some (.int l1), some (.int v2), some (.int v3)] [.int v2] _ _ _
        exact r_eI (r' := KJ2 v2) (by simp only [jn]; rw [if_pos c232_18]) ((hJ2 v2 kk))
      · have kk := kk.2 c232_18
        refine r_p dX12_judged_235 rfl rfl ?_
        refine r_get dX12_judged_236 fkX12_79 rfl rfl ?_
        refine r_p dX12_judged_239 rfl rfl ?_
        obtain ⟨q26, kk⟩ := kk
        refine r_ia dX12_judged_240 rfl q26 ?_
        refine r_go dX12_judged_241 rfl ?_
        show tR _ _ _ _ [some (.ref 571), some (.int l1), some (.int v2), some (.int v3)] [.int (T1.2.2.1 595 (v3 : Int32).toNatClampNeg)] _ _ _
        exact r_eI (r' := KJ2 (T1.2.2.1 595 (v3 : Int32).toNatClampNeg)) (by simp only [jn]; rw [if_neg c232_18]) ((hJ2 (T1.2.2.1 595 (v3 : Int32).toNatClampNeg) kk))
def x_m_judged (T : St) (p0 : Int32) : Int32 × St := x_m_judged_2 p0 (fun (w1_2 : Int32) (T201 : St) => x_m_judged_55 p0 (fun (w2_2 : Int32) (T202 : St) => x_m_judged_122 p0 (fun (w3_2 : Int32) (T203 : St) => x_m_judged_190 p0 (fun (w4_2 : Int32) (w4_3 : Int32) (T204 : St) => if (x_m_lacks T204 0 (T204.2.2.1 575 (5 : Int32).toNatClampNeg) (T204.2.2.1 575 (203 : Int32).toNatClampNeg)) = (-1000000) then (0, T204) else (1000 + (x_m_lacks T204 0 (T204.2.2.1 575 (5 : Int32).toNatClampNeg) (T204.2.2.1 575 (203 : Int32).toNatClampNeg)), T204)) 1000 0 0 (x_m_clearLevel T203)) 1000 0 T202) 1000 0 T201) 1000 0 T
def ok_m_judged (T : St) (p0 : Int32) : Prop := ok_m_judged_2 p0 (fun (w1_2 : Int32) (T201 : St) => ok_m_judged_55 p0 (fun (w2_2 : Int32) (T202 : St) => ok_m_judged_122 p0 (fun (w3_2 : Int32) (T203 : St) => (ok_m_clearLevel T203) ∧ ok_m_judged_190 p0 (fun (w4_2 : Int32) (w4_3 : Int32) (T204 : St) => (vp_in 5 204) ∧ (vp_in 203 204) ∧ (ok_m_lacks T204 0 (T204.2.2.1 575 (5 : Int32).toNatClampNeg) (T204.2.2.1 575 (203 : Int32).toNatClampNeg)) ∧ True) 1000 0 0 (x_m_clearLevel T203)) 1000 0 T202) 1000 0 T201) 1000 0 T
theorem c_m_judged {X : Nat × (Nat → Int32)} {T : St} (p0 : Int32) (kk : ok_m_judged T p0) : tC X 4 mX12_judged [.ref 571, .int p0] T (some (.int (x_m_judged T p0).1)) ((x_m_judged T p0).2) := by
  unfold ok_m_judged at kk
  refine tC_of ?_
  refine r_ci (x := 0) dX12_judged_0 rfl ?_
  refine r_p dX12_judged_1 rfl rfl ?_
  show tR _ _ _ _ [some (.ref 571), some (.int p0), some (.int 0), none] _ _ _ _
  refine r_eI (r' := x_m_judged_2 p0 (fun (w1_2 : Int32) (T201 : St) => x_m_judged_55 p0 (fun (w2_2 : Int32) (T202 : St) => x_m_judged_122 p0 (fun (w3_2 : Int32) (T203 : St) => x_m_judged_190 p0 (fun (w4_2 : Int32) (w4_3 : Int32) (T204 : St) => if (x_m_lacks T204 0 (T204.2.2.1 575 (5 : Int32).toNatClampNeg) (T204.2.2.1 575 (203 : Int32).toNatClampNeg)) = (-1000000) then (0, T204) else (1000 + (x_m_lacks T204 0 (T204.2.2.1 575 (5 : Int32).toNatClampNeg) (T204.2.2.1 575 (203 : Int32).toNatClampNeg)), T204)) 1000 0 0 (x_m_clearLevel T203)) 1000 0 T202) 1000 0 T201) 1000 0 T) (by unfold x_m_judged; rfl) ((c_m_judged_2 p0 (fun w1_2 T201 kk => ?_) 1000 0 T kk))
  · try dsimp only at kk
    refine r_ci (x := 0) dX12_judged_53 rfl ?_
    refine r_p dX12_judged_54 rfl rfl ?_
    show tR _ _ _ _ [some (.ref 571), some (.int p0), some (.int 0), none] _ _ _ _
    refine r_eI (r' := x_m_judged_55 p0 (fun (w2_2 : Int32) (T202 : St) => x_m_judged_122 p0 (fun (w3_2 : Int32) (T203 : St) => x_m_judged_190 p0 (fun (w4_2 : Int32) (w4_3 : Int32) (T204 : St) => if (x_m_lacks T204 0 (T204.2.2.1 575 (5 : Int32).toNatClampNeg) (T204.2.2.1 575 (203 : Int32).toNatClampNeg)) = (-1000000) then (0, T204) else (1000 + (x_m_lacks T204 0 (T204.2.2.1 575 (5 : Int32).toNatClampNeg) (T204.2.2.1 575 (203 : Int32).toNatClampNeg)), T204)) 1000 0 0 (x_m_clearLevel T203)) 1000 0 T202) 1000 0 T201) rfl ((c_m_judged_55 p0 (fun w2_2 T202 kk => ?_) 1000 0 T201 kk))
    · try dsimp only at kk
      refine r_ci (x := 0) dX12_judged_120 rfl ?_
      refine r_p dX12_judged_121 rfl rfl ?_
      show tR _ _ _ _ [some (.ref 571), some (.int p0), some (.int 0), none] _ _ _ _
      refine r_eI (r' := x_m_judged_122 p0 (fun (w3_2 : Int32) (T203 : St) => x_m_judged_190 p0 (fun (w4_2 : Int32) (w4_3 : Int32) (T204 : St) => if (x_m_lacks T204 0 (T204.2.2.1 575 (5 : Int32).toNatClampNeg) (T204.2.2.1 575 (203 : Int32).toNatClampNeg)) = (-1000000) then (0, T204) else (1000 + (x_m_lacks T204 0 (T204.2.2.1 575 (5 : Int32).toNatClampNeg) (T204.2.2.1 575 (203 : Int32).toNatClampNeg)), T204)) 1000 0 0 (x_m_clearLevel T203)) 1000 0 T202) rfl ((c_m_judged_122 p0 (fun w3_2 T203 kk => ?_) 1000 0 T202 kk))
      · try dsimp only at kk
        refine r_p dX12_judged_182 rfl rfl ?_
        obtain ⟨q14, kk⟩ := kk
        refine r_cv (d1 := 1) dX12_judged_183 cvX12_289 rfl rfl rfl rfl (Nat.le_of_ble_eq_true rfl) (Nat.le_of_ble_eq_true rfl) (Nat.le_of_ble_eq_true rfl) (c_m_clearLevel  q14) ?_
        refine r_ci (x := 0) dX12_judged_186 rfl ?_
        refine r_p dX12_judged_187 rfl rfl ?_
        refine r_ci (x := 0) dX12_judged_188 rfl ?_
        refine r_p dX12_judged_189 rfl rfl ?_
        show tR _ _ _ _ [some (.ref 571), some (.int p0), some (.int 0), some (.int 0)] _ _ _ _
        refine r_eI (r' := x_m_judged_190 p0 (fun (w4_2 : Int32) (w4_3 : Int32) (T204 : St) => if (x_m_lacks T204 0 (T204.2.2.1 575 (5 : Int32).toNatClampNeg) (T204.2.2.1 575 (203 : Int32).toNatClampNeg)) = (-1000000) then (0, T204) else (1000 + (x_m_lacks T204 0 (T204.2.2.1 575 (5 : Int32).toNatClampNeg) (T204.2.2.1 575 (203 : Int32).toNatClampNeg)), T204)) 1000 0 0 (x_m_clearLevel T203)) rfl ((c_m_judged_190 p0 (fun w4_2 w4_3 T204 kk => ?_) 1000 0 0 (x_m_clearLevel T203) kk))
        · try dsimp only at kk
          refine r_p dX12_judged_290 rfl rfl ?_
          refine r_ci (x := 0) dX12_judged_291 rfl ?_
          refine r_p dX12_judged_292 rfl rfl ?_
          refine r_get dX12_judged_293 fkX12_19 rfl rfl ?_
          refine r_ci (x := 5) dX12_judged_296 rfl ?_
          obtain ⟨q27, kk⟩ := kk
          refine r_ia dX12_judged_297 rfl q27 ?_
          refine r_p dX12_judged_298 rfl rfl ?_
          refine r_get dX12_judged_299 fkX12_19 rfl rfl ?_
          refine r_csi (x := 203) dX12_judged_302 rfl ?_
          obtain ⟨q28, kk⟩ := kk
          refine r_ia dX12_judged_305 rfl q28 ?_
          obtain ⟨q29, kk⟩ := kk
          refine r_cv (d1 := 3) dX12_judged_306 cvX12_285 rfl rfl rfl rfl (Nat.le_of_ble_eq_true rfl) (Nat.le_of_ble_eq_true rfl) (Nat.le_of_ble_eq_true rfl) (c_m_lacks 0 (T204.2.2.1 575 (5 : Int32).toNatClampNeg) (T204.2.2.1 575 (203 : Int32).toNatClampNeg) q29) ?_
          refine r_p dX12_judged_309 rfl rfl ?_
          refine r_p dX12_judged_310 rfl rfl ?_
          refine r_k dX12_judged_311 kkX12_137 ?_
          refine r_cne dX12_judged_313 rfl (fun c313_19 => ?_) (fun c313_19 => ?_)
          · refine r_csi (x := 1000) dX12_judged_320 rfl ?_
            refine r_p dX12_judged_323 rfl rfl ?_
            refine r_p dX12_judged_324 rfl rfl ?_
            exact r_eI (r' := (1000 + (x_m_lacks T204 0 (T204.2.2.1 575 (5 : Int32).toNatClampNeg) (T204.2.2.1 575 (203 : Int32).toNatClampNeg)), T204)) (by first | rw [if_neg c313_19] | (dsimp only; rw [if_neg c313_19])) (r_ri dX12_judged_325 rfl rfl rfl rfl)
          · refine r_ci (x := 0) dX12_judged_316 rfl ?_
            refine r_go dX12_judged_317 rfl ?_
            exact r_eI (r' := (0, T204)) (by first | rw [if_pos c313_19] | (dsimp only; rw [if_pos c313_19])) (r_ri dX12_judged_325 rfl rfl rfl rfl)
