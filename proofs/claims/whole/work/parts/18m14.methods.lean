def x_x_gives (T : St) (p0 : Int32) (p1 : Int32) : Int32 := if (x_bk_isRead T (T.2.1 0)) = 0 then (-1000002) else (if (x_x_isMinute T p0) = 0 then (-1000001) else (if p1 < 0 then (-1000001) else (if p1 < 5 then (x_bk_given T (T.2.1 0) p0 p1) else (-1000001))))
def ok_x_gives (T : St) (p0 : Int32) (p1 : Int32) : Prop := (ok_bk_isRead T (T.2.1 0)) ∧ (sh (T.2.1 0) = .inr 1) ∧ (¬ (x_bk_isRead T (T.2.1 0)) = 0 → (¬ (x_x_isMinute T p0) = 0 → (¬ p1 < 0 → (p1 < 5 → (ok_bk_given T (T.2.1 0) p0 p1) ∧ True))))
theorem c_x_gives {X : Nat × (Nat → Int32)} {T : St} (p0 : Int32) (p1 : Int32) (kk : ok_x_gives T p0 p1) : tC X 3 mX11_gives [.ref (0 : Nat), .int p0, .int p1] T (some (.int (x_x_gives T p0 p1))) T := by
  unfold ok_x_gives at kk
  refine tC_orIp (L := [some (.ref (0 : Nat)), some (.int p0), some (.int p1)]) (x_x_gives T p0 p1) rfl ?_
  unfold x_x_gives
  refine r_p (pc2 := 1) dX11_gives_0 rfl rfl ?_
  refine r_get dX11_gives_1 fkX11_30 rfl rfl ?_
  obtain ⟨q1, kk⟩ := kk
  obtain ⟨q2, kk⟩ := kk
  refine r_cv (d1 := 1) dX11_gives_4 cvX11_189 rfl rfl q2 rfl (Nat.le_of_ble_eq_true rfl) (Nat.le_of_ble_eq_true rfl) (Nat.le_of_ble_eq_true rfl) (c_bk_isRead (T.2.1 0) q1) ?_
  refine r_ine dX11_gives_7 rfl (fun c7_1 => ?_) (fun c7_1 => ?_)
  · refine r_in (R := (rIp T)) c7_1 ?_
    have kk := kk c7_1
    refine r_p (pc2 := 14) dX11_gives_13 rfl rfl ?_
    refine r_cs (d1 := 1) dX11_gives_14 csX11_194 rfl rfl (Nat.le_of_ble_eq_true rfl) (Nat.le_of_ble_eq_true rfl) (Nat.le_of_ble_eq_true rfl) (c_x_isMinute p0) ?_
    refine r_ieq dX11_gives_17 rfl (fun c17_2 => ?_) (fun c17_2 => ?_)
    · refine r_ip (R := (rIp T)) c17_2 ?_
      refine r_k dX11_gives_29 kkX11_82 ?_
      exact r_qIp dX11_gives_31 rfl rfl rfl
    · refine r_in (R := (rIp T)) c17_2 ?_
      have kk := kk c17_2
      refine r_p (pc2 := 21) dX11_gives_20 rfl rfl ?_
      refine r_ilt dX11_gives_21 rfl (fun c21_3 => ?_) (fun c21_3 => ?_)
      · refine r_ip (R := (rIp T)) c21_3 ?_
        refine r_k dX11_gives_29 kkX11_82 ?_
        exact r_qIp dX11_gives_31 rfl rfl rfl
      · refine r_in (R := (rIp T)) c21_3 ?_
        have kk := kk c21_3
        refine r_p (pc2 := 25) dX11_gives_24 rfl rfl ?_
        refine r_ci (x := 5) dX11_gives_25 rfl ?_
        refine r_clt dX11_gives_26 rfl (fun c26_4 => ?_) (fun c26_4 => ?_)
        · refine r_ip (R := (rIp T)) c26_4 ?_
          have kk := kk c26_4
          refine r_p (pc2 := 33) dX11_gives_32 rfl rfl ?_
          refine r_get dX11_gives_33 fkX11_30 rfl rfl ?_
          refine r_p (pc2 := 37) dX11_gives_36 rfl rfl ?_
          refine r_p (pc2 := 38) dX11_gives_37 rfl rfl ?_
          obtain ⟨q3, kk⟩ := kk
          refine r_cv (d1 := 2) dX11_gives_38 cvX11_197 rfl rfl q2 rfl (Nat.le_of_ble_eq_true rfl) (Nat.le_of_ble_eq_true rfl) (Nat.le_of_ble_eq_true rfl) (c_bk_given (T.2.1 0) p0 p1 q3) ?_
          exact r_qIp dX11_gives_41 rfl rfl rfl
        · refine r_in (R := (rIp T)) c26_4 ?_
          refine r_k dX11_gives_29 kkX11_82 ?_
          exact r_qIp dX11_gives_31 rfl rfl rfl
  · refine r_ip (R := (rIp T)) c7_1 ?_
    refine r_k dX11_gives_10 kkX11_193 ?_
    exact r_qIp dX11_gives_12 rfl rfl rfl
def x_x_image (T : St) (p0 : Int32) : Int32 × St := jn (fun (KJ1 : Int32 × St) => if p0 < 0 then (KJ1) else (if 2 ≤ p0 then (KJ1) else (if (x_x_refusal T 1) = 0 then (1, x_bk_take T (16 + 15 * (p0 : Int32).toNatClampNeg) (T.2.1 0)) else (x_x_refusal T 1, T)))) (if (x_x_refusal T 0) = 0 then (1, x_bk_take T (16 + 15 * (p0 : Int32).toNatClampNeg) (T.2.1 0)) else (x_x_refusal T 0, T))
def ok_x_image (T : St) (p0 : Int32) : Prop := jn (fun (OJ1 : Prop) => ((p0 < 0 → OJ1) ∧ (¬ p0 < 0 → ((2 ≤ p0 → OJ1) ∧ (¬ 2 ≤ p0 → (ok_x_refusal T 1) ∧ ((x_x_refusal T 1) = 0 → (vp_in p0 2) ∧ (ok_bk_take T (16 + 15 * (p0 : Int32).toNatClampNeg) (T.2.1 0)) ∧ True)))))) ((ok_x_refusal T 0) ∧ ((x_x_refusal T 0) = 0 → (vp_in p0 2) ∧ (ok_bk_take T (16 + 15 * (p0 : Int32).toNatClampNeg) (T.2.1 0)) ∧ True))
theorem c_x_image {X : Nat × (Nat → Int32)} {T : St} (p0 : Int32) (kk : ok_x_image T p0) : tC X 3 mX11_image [.ref (0 : Nat), .int p0] T (some (.int (x_x_image T p0).1)) ((x_x_image T p0).2) := by
  unfold ok_x_image at kk
  refine tC_orI (L := [some (.ref (0 : Nat)), some (.int p0), none]) (x_x_image T p0) rfl ?_
  unfold x_x_image
  refine r_p (pc2 := 1) dX11_image_0 rfl rfl ?_
  refine r_p (pc2 := 2) dX11_image_1 rfl rfl ?_
  refine r_jn (R := rI) (J := fun (KJ1 : Int32 × St) (OJ1 : Prop) => OJ1 → tR X 2 mX11_image 14 [some (.ref (0 : Nat)), some (.int p0), none] [.ref (0 : Nat)] T (rI KJ1).1 (rI KJ1).2) kk (fun  kk => ?_) (fun KJ1 OJ1 hJ1 kk => ?_)
  · skip
    refine r_ci (x := 0) dX11_image_14 rfl ?_
    obtain ⟨q4, kk⟩ := kk
    refine r_cv (d1 := 2) dX11_image_15 cvX11_221 rfl rfl rfl rfl (Nat.le_of_ble_eq_true rfl) (Nat.le_of_ble_eq_true rfl) (Nat.le_of_ble_eq_true rfl) (c_x_refusal 0 q4) ?_
    refine r_p (pc2 := 19) (L2 := [some (.ref (0 : Nat)), some (.int p0), some (.int (x_x_refusal T 0))]) dX11_image_18 rfl rfl ?_
    refine r_p (pc2 := 20) dX11_image_19 rfl rfl ?_
    refine r_ieq dX11_image_20 rfl (fun c20_4 => ?_) (fun c20_4 => ?_)
    · refine r_ip (R := rI) c20_4 ?_
      have kk := kk c20_4
      refine r_p (pc2 := 26) dX11_image_25 rfl rfl ?_
      refine r_get dX11_image_26 fkX11_26 rfl rfl ?_
      refine r_p (pc2 := 30) dX11_image_29 rfl rfl ?_
      obtain ⟨q5, kk⟩ := kk
      refine r_aa dX11_image_30 rfl (by decide) q5 (rf15 q5) ?_
      refine r_p (pc2 := 32) dX11_image_31 rfl rfl ?_
      refine r_get dX11_image_32 fkX11_30 rfl rfl ?_
      obtain ⟨q6, kk⟩ := kk
      refine r_cv (d1 := 1) dX11_image_35 cvX11_325 rfl rfl (shr15 q5) rfl (Nat.le_of_ble_eq_true rfl) (Nat.le_of_ble_eq_true rfl) (Nat.le_of_ble_eq_true rfl) (c_bk_take (16 + 15 * (p0 : Int32).toNatClampNeg) (T.2.1 0) q6) ?_
      refine r_ci (x := 1) dX11_image_38 rfl ?_
      exact r_qI dX11_image_39 rfl rfl rfl rfl
    · refine r_in (R := rI) c20_4 ?_
      refine r_p (pc2 := 24) dX11_image_23 rfl rfl ?_
      exact r_qI dX11_image_24 rfl rfl rfl rfl
  refine r_ilt dX11_image_2 rfl (fun c2_5 => ?_) (fun c2_5 => ?_)
  · refine r_ip (R := rI) c2_5 ?_
    have kk := kk.1 c2_5
    show tR _ _ _ _ [some (.ref (0 : Nat)), some (.int p0), none] [.ref (0 : Nat)] _ _ _
    exact (hJ1  kk)
  · refine r_in (R := rI) c2_5 ?_
    have kk := kk.2 c2_5
    refine r_p (pc2 := 6) dX11_image_5 rfl rfl ?_
    refine r_ci (x := 2) dX11_image_6 rfl ?_
    refine r_cge dX11_image_7 rfl (fun c7_6 => ?_) (fun c7_6 => ?_)
    · refine r_ip (R := rI) c7_6 ?_
      have kk := kk.1 c7_6
      show tR _ _ _ _ [some (.ref (0 : Nat)), some (.int p0), none] [.ref (0 : Nat)] _ _ _
      exact (hJ1  kk)
    · refine r_in (R := rI) c7_6 ?_
      have kk := kk.2 c7_6
      refine r_ci (x := 1) dX11_image_10 rfl ?_
      refine r_go dX11_image_11 rfl ?_
      obtain ⟨q7, kk⟩ := kk
      refine r_cv (d1 := 2) dX11_image_15 cvX11_221 rfl rfl rfl rfl (Nat.le_of_ble_eq_true rfl) (Nat.le_of_ble_eq_true rfl) (Nat.le_of_ble_eq_true rfl) (c_x_refusal 1 q7) ?_
      refine r_p (pc2 := 19) (L2 := [some (.ref (0 : Nat)), some (.int p0), some (.int (x_x_refusal T 1))]) dX11_image_18 rfl rfl ?_
      refine r_p (pc2 := 20) dX11_image_19 rfl rfl ?_
      refine r_ieq dX11_image_20 rfl (fun c20_7 => ?_) (fun c20_7 => ?_)
      · refine r_ip (R := rI) c20_7 ?_
        have kk := kk c20_7
        refine r_p (pc2 := 26) dX11_image_25 rfl rfl ?_
        refine r_get dX11_image_26 fkX11_26 rfl rfl ?_
        refine r_p (pc2 := 30) dX11_image_29 rfl rfl ?_
        obtain ⟨q8, kk⟩ := kk
        refine r_aa dX11_image_30 rfl (by decide) q8 (rf15 q8) ?_
        refine r_p (pc2 := 32) dX11_image_31 rfl rfl ?_
        refine r_get dX11_image_32 fkX11_30 rfl rfl ?_
        obtain ⟨q9, kk⟩ := kk
        refine r_cv (d1 := 1) dX11_image_35 cvX11_325 rfl rfl (shr15 q8) rfl (Nat.le_of_ble_eq_true rfl) (Nat.le_of_ble_eq_true rfl) (Nat.le_of_ble_eq_true rfl) (c_bk_take (16 + 15 * (p0 : Int32).toNatClampNeg) (T.2.1 0) q9) ?_
        refine r_ci (x := 1) dX11_image_38 rfl ?_
        exact r_qI dX11_image_39 rfl rfl rfl rfl
      · refine r_in (R := rI) c20_7 ?_
        refine r_p (pc2 := 24) dX11_image_23 rfl rfl ?_
        exact r_qI dX11_image_24 rfl rfl rfl rfl
def x_x_as (T : St) (p0 : Int32) (p1 : Int32) : Int32 × St := if (x_bk_hasStep T (T.2.1 0) p0) = 0 then ((-1000001), T) else (if p1 < 0 then ((-1000001), T) else (if p1 < 7 then (if (x_ask_isKind T (x_bk_kindOf T (T.2.1 0) p0) p1) = 0 then ((x_x_found T 3).1, (x_x_found T 3).2) else ((x_x_fine T p0).1, (x_x_fine T p0).2)) else ((-1000001), T)))
def ok_x_as (T : St) (p0 : Int32) (p1 : Int32) : Prop := (ok_bk_hasStep T (T.2.1 0) p0) ∧ (sh (T.2.1 0) = .inr 1) ∧ (¬ (x_bk_hasStep T (T.2.1 0) p0) = 0 → (¬ p1 < 0 → (p1 < 7 → (ok_bk_kindOf T (T.2.1 0) p0) ∧ (ok_ask_isKind T (x_bk_kindOf T (T.2.1 0) p0) p1) ∧ True)))
theorem c_x_as {X : Nat × (Nat → Int32)} {T : St} (p0 : Int32) (p1 : Int32) (kk : ok_x_as T p0 p1) : tC X 2 mX11_as [.ref (0 : Nat), .int p0, .int p1] T (some (.int (x_x_as T p0 p1).1)) ((x_x_as T p0 p1).2) := by
  unfold ok_x_as at kk
  refine tC_orI (L := [some (.ref (0 : Nat)), some (.int p0), some (.int p1)]) (x_x_as T p0 p1) rfl ?_
  unfold x_x_as
  refine r_p (pc2 := 1) dX11_as_0 rfl rfl ?_
  refine r_get dX11_as_1 fkX11_30 rfl rfl ?_
  refine r_p (pc2 := 5) dX11_as_4 rfl rfl ?_
  obtain ⟨q1, kk⟩ := kk
  obtain ⟨q2, kk⟩ := kk
  refine r_cv (d1 := 1) dX11_as_5 cvX11_171 rfl rfl q2 rfl (Nat.le_of_ble_eq_true rfl) (Nat.le_of_ble_eq_true rfl) (Nat.le_of_ble_eq_true rfl) (c_bk_hasStep (T.2.1 0) p0 q1) ?_
  refine r_ieq dX11_as_8 rfl (fun c8_1 => ?_) (fun c8_1 => ?_)
  · refine r_ip (R := rI) c8_1 ?_
    refine r_k dX11_as_21 kkX11_82 ?_
    exact r_qI dX11_as_23 rfl rfl rfl rfl
  · refine r_in (R := rI) c8_1 ?_
    have kk := kk c8_1
    refine r_p (pc2 := 12) dX11_as_11 rfl rfl ?_
    refine r_ilt dX11_as_12 rfl (fun c12_2 => ?_) (fun c12_2 => ?_)
    · refine r_ip (R := rI) c12_2 ?_
      refine r_k dX11_as_21 kkX11_82 ?_
      exact r_qI dX11_as_23 rfl rfl rfl rfl
    · refine r_in (R := rI) c12_2 ?_
      have kk := kk c12_2
      refine r_p (pc2 := 16) dX11_as_15 rfl rfl ?_
      refine r_cb (x := 7) dX11_as_16 rfl ?_
      refine r_clt dX11_as_18 rfl (fun c18_3 => ?_) (fun c18_3 => ?_)
      · refine r_ip (R := rI) c18_3 ?_
        have kk := kk c18_3
        refine r_p (pc2 := 25) dX11_as_24 rfl rfl ?_
        refine r_get dX11_as_25 fkX11_64 rfl rfl ?_
        refine r_p (pc2 := 29) dX11_as_28 rfl rfl ?_
        refine r_get dX11_as_29 fkX11_30 rfl rfl ?_
        refine r_p (pc2 := 33) dX11_as_32 rfl rfl ?_
        obtain ⟨q3, kk⟩ := kk
        refine r_cv (d1 := 1) dX11_as_33 cvX11_327 rfl rfl q2 rfl (Nat.le_of_ble_eq_true rfl) (Nat.le_of_ble_eq_true rfl) (Nat.le_of_ble_eq_true rfl) (c_bk_kindOf (T.2.1 0) p0 q3) ?_
        refine r_p (pc2 := 37) dX11_as_36 rfl rfl ?_
        obtain ⟨q4, kk⟩ := kk
        refine r_cv (d1 := 1) dX11_as_37 cvX11_330 rfl rfl rfl rfl (Nat.le_of_ble_eq_true rfl) (Nat.le_of_ble_eq_true rfl) (Nat.le_of_ble_eq_true rfl) (c_ask_isKind (x_bk_kindOf T (T.2.1 0) p0) p1 q4) ?_
        refine r_ine dX11_as_40 rfl (fun c40_4 => ?_) (fun c40_4 => ?_)
        · refine r_in (R := rI) c40_4 ?_
          refine r_p (pc2 := 50) dX11_as_49 rfl rfl ?_
          refine r_p (pc2 := 51) dX11_as_50 rfl rfl ?_
          refine r_cv (d1 := 1) dX11_as_51 cvX11_91 rfl rfl rfl rfl (Nat.le_of_ble_eq_true rfl) (Nat.le_of_ble_eq_true rfl) (Nat.le_of_ble_eq_true rfl) (c_x_fine p0) ?_
          exact r_qI dX11_as_54 rfl rfl rfl rfl
        · refine r_ip (R := rI) c40_4 ?_
          refine r_p (pc2 := 44) dX11_as_43 rfl rfl ?_
          refine r_ci (x := 3) dX11_as_44 rfl ?_
          refine r_cv (d1 := 1) dX11_as_45 cvX11_83 rfl rfl rfl rfl (Nat.le_of_ble_eq_true rfl) (Nat.le_of_ble_eq_true rfl) (Nat.le_of_ble_eq_true rfl) (c_x_found 3) ?_
          exact r_qI dX11_as_48 rfl rfl rfl rfl
      · refine r_in (R := rI) c18_3 ?_
        refine r_k dX11_as_21 kkX11_82 ?_
        exact r_qI dX11_as_23 rfl rfl rfl rfl
def x_x_count (T : St) (p0 : Int32) : Int32 := if p0 = 0 then (x_sh_present T) else (if p0 = 1 then (T.1 (T.2.1 0) 4) else (if p0 = 2 then (T.1 (T.2.1 0) 10) else (if p0 = 3 then (x_J_bitCount T (T.1 (T.2.1 0) 17)) else (if p0 = 4 then (x_bk_dinnerSteps T (T.2.1 0)) else (if p0 = 5 then (T.1 (T.2.1 0) 1) else (if p0 = 6 then (T.1 13 1) else (if p0 = 7 then (T.1 (T.2.1 0) 18) else (-1000001))))))))
def ok_x_count (T : St) (p0 : Int32) : Prop := ((p0 = 0 → (ok_sh_present T) ∧ True) ∧ (¬ p0 = 0 → ((p0 = 1 → (sh (T.2.1 0) = .inr 1) ∧ True) ∧ (¬ p0 = 1 → ((p0 = 2 → (sh (T.2.1 0) = .inr 1) ∧ True) ∧ (¬ p0 = 2 → ((p0 = 3 → (sh (T.2.1 0) = .inr 1) ∧ True) ∧ (¬ p0 = 3 → ((p0 = 4 → (ok_bk_dinnerSteps T (T.2.1 0)) ∧ (sh (T.2.1 0) = .inr 1) ∧ True) ∧ (¬ p0 = 4 → ((p0 = 5 → (sh (T.2.1 0) = .inr 1) ∧ True) ∧ (¬ p0 = 5 → (¬ p0 = 6 → (p0 = 7 → (sh (T.2.1 0) = .inr 1) ∧ True))))))))))))))
theorem c_x_count {X : Nat × (Nat → Int32)} {T : St} (p0 : Int32) (kk : ok_x_count T p0) : tC X 2 mX11_count [.ref (0 : Nat), .int p0] T (some (.int (x_x_count T p0))) T := by
  unfold ok_x_count at kk
  refine tC_orIp (L := [some (.ref (0 : Nat)), some (.int p0)]) (x_x_count T p0) rfl ?_
  unfold x_x_count
  refine r_p (pc2 := 1) dX11_count_0 rfl rfl ?_
  by_cases s1_1_0 : p0 = 0
  · refine r_ip (R := (rIp T)) s1_1_0 ?_
    have kk := kk.1 s1_1_0
    refine r_tin dX11_count_1 (by rw [s1_1_0]; decide) (by rw [s1_1_0]; decide) (off := 47) (by rw [s1_1_0]; rfl) rfl ?_
    refine r_p (pc2 := 49) dX11_count_48 rfl rfl ?_
    refine r_get dX11_count_49 fkX11_10 rfl rfl ?_
    obtain ⟨q1, kk⟩ := kk
    refine r_cv (d1 := 1) dX11_count_52 cvX11_342 rfl rfl rfl rfl (Nat.le_of_ble_eq_true rfl) (Nat.le_of_ble_eq_true rfl) (Nat.le_of_ble_eq_true rfl) (c_sh_present  q1) ?_
    exact r_qIp dX11_count_55 rfl rfl rfl
  · refine r_in (R := (rIp T)) s1_1_0 ?_
    have kk := kk.2 s1_1_0
    by_cases s1_1_1 : p0 = 1
    · refine r_ip (R := (rIp T)) s1_1_1 ?_
      have kk := kk.1 s1_1_1
      refine r_tin dX11_count_1 (by rw [s1_1_1]; decide) (by rw [s1_1_1]; decide) (off := 55) (by rw [s1_1_1]; rfl) rfl ?_
      refine r_p (pc2 := 57) dX11_count_56 rfl rfl ?_
      refine r_get dX11_count_57 fkX11_30 rfl rfl ?_
      obtain ⟨q2, kk⟩ := kk
      refine r_get dX11_count_60 fkX11_149 q2 rfl ?_
      exact r_qIp dX11_count_63 rfl rfl rfl
    · refine r_in (R := (rIp T)) s1_1_1 ?_
      have kk := kk.2 s1_1_1
      by_cases s1_1_2 : p0 = 2
      · refine r_ip (R := (rIp T)) s1_1_2 ?_
        have kk := kk.1 s1_1_2
        refine r_tin dX11_count_1 (by rw [s1_1_2]; decide) (by rw [s1_1_2]; decide) (off := 63) (by rw [s1_1_2]; rfl) rfl ?_
        refine r_p (pc2 := 65) dX11_count_64 rfl rfl ?_
        refine r_get dX11_count_65 fkX11_30 rfl rfl ?_
        obtain ⟨q3, kk⟩ := kk
        refine r_get dX11_count_68 fkX11_345 q3 rfl ?_
        exact r_qIp dX11_count_71 rfl rfl rfl
      · refine r_in (R := (rIp T)) s1_1_2 ?_
        have kk := kk.2 s1_1_2
        by_cases s1_1_3 : p0 = 3
        · refine r_ip (R := (rIp T)) s1_1_3 ?_
          have kk := kk.1 s1_1_3
          refine r_tin dX11_count_1 (by rw [s1_1_3]; decide) (by rw [s1_1_3]; decide) (off := 71) (by rw [s1_1_3]; rfl) rfl ?_
          refine r_p (pc2 := 73) dX11_count_72 rfl rfl ?_
          refine r_get dX11_count_73 fkX11_30 rfl rfl ?_
          obtain ⟨q4, kk⟩ := kk
          refine r_get dX11_count_76 fkX11_209 q4 rfl ?_
          refine r_cs (d1 := 1) dX11_count_79 csX11_200 rfl rfl (Nat.le_of_ble_eq_true rfl) (Nat.le_of_ble_eq_true rfl) (Nat.le_of_ble_eq_true rfl) (c_J_bitCount (T.1 (T.2.1 0) 17)) ?_
          exact r_qIp dX11_count_82 rfl rfl rfl
        · refine r_in (R := (rIp T)) s1_1_3 ?_
          have kk := kk.2 s1_1_3
          by_cases s1_1_4 : p0 = 4
          · refine r_ip (R := (rIp T)) s1_1_4 ?_
            have kk := kk.1 s1_1_4
            refine r_tin dX11_count_1 (by rw [s1_1_4]; decide) (by rw [s1_1_4]; decide) (off := 82) (by rw [s1_1_4]; rfl) rfl ?_
            refine r_p (pc2 := 84) dX11_count_83 rfl rfl ?_
            refine r_get dX11_count_84 fkX11_30 rfl rfl ?_
            obtain ⟨q5, kk⟩ := kk
            obtain ⟨q6, kk⟩ := kk
            refine r_cv (d1 := 1) dX11_count_87 cvX11_348 rfl rfl q6 rfl (Nat.le_of_ble_eq_true rfl) (Nat.le_of_ble_eq_true rfl) (Nat.le_of_ble_eq_true rfl) (c_bk_dinnerSteps (T.2.1 0) q5) ?_
            exact r_qIp dX11_count_90 rfl rfl rfl
          · refine r_in (R := (rIp T)) s1_1_4 ?_
            have kk := kk.2 s1_1_4
            by_cases s1_1_5 : p0 = 5
            · refine r_ip (R := (rIp T)) s1_1_5 ?_
              have kk := kk.1 s1_1_5
              refine r_tin dX11_count_1 (by rw [s1_1_5]; decide) (by rw [s1_1_5]; decide) (off := 90) (by rw [s1_1_5]; rfl) rfl ?_
              refine r_p (pc2 := 92) dX11_count_91 rfl rfl ?_
              refine r_get dX11_count_92 fkX11_30 rfl rfl ?_
              obtain ⟨q7, kk⟩ := kk
              refine r_get dX11_count_95 fkX11_351 q7 rfl ?_
              exact r_qIp dX11_count_98 rfl rfl rfl
            · refine r_in (R := (rIp T)) s1_1_5 ?_
              have kk := kk.2 s1_1_5
              by_cases s1_1_6 : p0 = 6
              · refine r_ip (R := (rIp T)) s1_1_6 ?_
                refine r_tin dX11_count_1 (by rw [s1_1_6]; decide) (by rw [s1_1_6]; decide) (off := 98) (by rw [s1_1_6]; rfl) rfl ?_
                refine r_p (pc2 := 100) dX11_count_99 rfl rfl ?_
                refine r_get dX11_count_100 fkX11_19 rfl rfl ?_
                refine r_get dX11_count_103 fkX11_130 rfl rfl ?_
                exact r_qIp dX11_count_106 rfl rfl rfl
              · refine r_in (R := (rIp T)) s1_1_6 ?_
                have kk := kk s1_1_6
                by_cases s1_1_7 : p0 = 7
                · refine r_ip (R := (rIp T)) s1_1_7 ?_
                  have kk := kk s1_1_7
                  refine r_tin dX11_count_1 (by rw [s1_1_7]; decide) (by rw [s1_1_7]; decide) (off := 106) (by rw [s1_1_7]; rfl) rfl ?_
                  refine r_p (pc2 := 108) dX11_count_107 rfl rfl ?_
                  refine r_get dX11_count_108 fkX11_30 rfl rfl ?_
                  obtain ⟨q8, kk⟩ := kk
                  refine r_get dX11_count_111 fkX11_215 q8 rfl ?_
                  exact r_qIp dX11_count_114 rfl rfl rfl
                · refine r_in (R := (rIp T)) s1_1_7 ?_
                  refine r_tout dX11_count_1 (by have := i_rg (p0); simp only [i_eq, i_0, i_1, i_2, i_3, i_4, i_5, i_6, i_7] at s1_1_0 s1_1_1 s1_1_2 s1_1_3 s1_1_4 s1_1_5 s1_1_6 s1_1_7; omega) rfl ?_
                  refine r_k dX11_count_115 kkX11_82 ?_
                  exact r_qIp dX11_count_117 rfl rfl rfl
def x_x_changed (T : St)  : St := x_ki_fit (sF (sF T 0 14 0) 0 16 0) 76 ((sF (sF T 0 14 0) 0 16 0).2.1 0) ((sF (sF T 0 14 0) 0 16 0).2.2.1 (((sF (sF T 0 14 0) 0 16 0).2.1 0) + 1) (5 : Int32).toNatClampNeg) ((sF (sF T 0 14 0) 0 16 0).1 ((sF (sF T 0 14 0) 0 16 0).2.1 0) 18)
def ok_x_changed (T : St)  : Prop := (sh ((sF (sF T 0 14 0) 0 16 0).2.1 0) = .inr 1) ∧ (ok_ki_fit (sF (sF T 0 14 0) 0 16 0) 76 ((sF (sF T 0 14 0) 0 16 0).2.1 0) ((sF (sF T 0 14 0) 0 16 0).2.2.1 (((sF (sF T 0 14 0) 0 16 0).2.1 0) + 1) (5 : Int32).toNatClampNeg) ((sF (sF T 0 14 0) 0 16 0).1 ((sF (sF T 0 14 0) 0 16 0).2.1 0) 18)) ∧ True
theorem c_x_changed {X : Nat × (Nat → Int32)} {T : St}  (kk : ok_x_changed T ) : tC X 4 mX11_changed [.ref (0 : Nat)] T none (x_x_changed T) := by
  unfold ok_x_changed at kk
  refine tC_orV (L := [some (.ref (0 : Nat))]) (x_x_changed T ) rfl ?_
  unfold x_x_changed
  refine r_p (pc2 := 1) dX11_changed_0 rfl rfl ?_
  refine r_ci (x := 0) dX11_changed_1 rfl ?_
  refine r_put dX11_changed_2 fkX11_358 rfl rfl rfl (Nat.le_of_ble_eq_true rfl) rfl rfl ?_
  refine r_p (pc2 := 6) dX11_changed_5 rfl rfl ?_
  refine r_ci (x := 0) dX11_changed_6 rfl ?_
  refine r_put dX11_changed_7 fkX11_297 rfl rfl rfl (Nat.le_of_ble_eq_true rfl) rfl rfl ?_
  refine r_p (pc2 := 11) dX11_changed_10 rfl rfl ?_
  refine r_get dX11_changed_11 fkX11_40 rfl rfl ?_
  refine r_p (pc2 := 15) dX11_changed_14 rfl rfl ?_
  refine r_get dX11_changed_15 fkX11_30 rfl rfl ?_
  refine r_p (pc2 := 19) dX11_changed_18 rfl rfl ?_
  refine r_get dX11_changed_19 fkX11_30 rfl rfl ?_
  obtain ⟨q1, kk⟩ := kk
  refine r_get dX11_changed_22 fkX11_212 q1 rfl ?_
  refine r_ci (x := 5) dX11_changed_25 rfl ?_
  refine r_ia dX11_changed_26 (shl1_1 q1) (in_c (by decide)) ?_
  refine r_p (pc2 := 28) dX11_changed_27 rfl rfl ?_
  refine r_get dX11_changed_28 fkX11_30 rfl rfl ?_
  refine r_get dX11_changed_31 fkX11_215 q1 rfl ?_
  obtain ⟨q2, kk⟩ := kk
  refine r_cv (d1 := 3) dX11_changed_34 cvX11_300 rfl rfl rfl rfl (Nat.le_of_ble_eq_true rfl) (Nat.le_of_ble_eq_true rfl) (Nat.le_of_ble_eq_true rfl) (c_ki_fit 76 ((sF (sF T 0 14 0) 0 16 0).2.1 0) ((sF (sF T 0 14 0) 0 16 0).2.2.1 (((sF (sF T 0 14 0) 0 16 0).2.1 0) + 1) (5 : Int32).toNatClampNeg) ((sF (sF T 0 14 0) 0 16 0).1 ((sF (sF T 0 14 0) 0 16 0).2.1 0) 18) q2) ?_
  exact r_qV dX11_changed_37 rfl rfl
def x_m_book_30  (K : Int32 → St → Int32 × St) : Nat → Int32 → St → Int32 × St
  | 0, _, T => (0, T)
  | f + 1, v1, T => if 204 ≤ v1 then (K v1 T) else (x_m_book_30 K f (v1 + 1) (sA T 576 (v1 : Int32).toNatClampNeg 0))
def ok_m_book_30  (Kk : Int32 → St → Prop) : Nat → Int32 → St → Prop
  | 0, _, _ => False
  | f + 1, v1, T => ((204 ≤ v1 → Kk v1 T) ∧ (¬ 204 ≤ v1 → (vp_in v1 204) ∧ ok_m_book_30 Kk f (v1 + 1) (sA T 576 (v1 : Int32).toNatClampNeg 0)))
theorem c_m_book_30 {X : Nat × (Nat → Int32)}  {K : Int32 → St → Int32 × St} {Kk : Int32 → St → Prop} (hk : ∀ (v1 : Int32) (T : St), Kk v1 T → tR X 6 mX12_book 50 [some (.ref (571 : Nat)), some (.int v1)] [] T (rI (K v1 T)).1 ((rI (K v1 T)).2)) : ∀ (f : Nat) (v1 : Int32) (T : St), ok_m_book_30  Kk f v1 T → tR X 6 mX12_book 30 [some (.ref (571 : Nat)), some (.int v1)] [] T (rI (x_m_book_30 K f v1 T)).1 ((rI (x_m_book_30 K f v1 T)).2) := by
  intro f
  induction f with
  | zero => intro v1 T kk; exact kk.elim
  | succ f ih =>
    intro v1 T kk
    rw [ok_m_book_30] at kk
    rw [x_m_book_30]
    refine r_p (pc2 := 31) dX12_book_30 rfl rfl ?_
    refine r_csi (x := 204) dX12_book_31 rfl ?_
    refine r_cge dX12_book_34 rfl (fun c34_1 => ?_) (fun c34_1 => ?_)
    · refine r_ip (R := rI) c34_1 ?_
      have kk := kk.1 c34_1
      show tR _ _ _ _ [some (.ref (571 : Nat)), some (.int v1)] _ _ _ _
      exact (hk v1 T kk)
    · refine r_in (R := rI) c34_1 ?_
      have kk := kk.2 c34_1
      refine r_p (pc2 := 38) dX12_book_37 rfl rfl ?_
      refine r_get dX12_book_38 fkX12_22 rfl rfl ?_
      refine r_p (pc2 := 42) dX12_book_41 rfl rfl ?_
      refine r_ci (x := 0) dX12_book_42 rfl ?_
      obtain ⟨q1, kk⟩ := kk
      refine r_ias dX12_book_43 rfl q1 ?_
      refine r_inc (L2 := [some (.ref (571 : Nat)), some (.int (v1 + 1))]) (y := 1) dX12_book_44 rfl rfl rfl ?_
      refine r_go dX12_book_47 rfl ?_
      show tR _ _ _ _ [some (.ref (571 : Nat)), some (.int (v1 + 1))] _ _ _ _
      exact (ih (v1 + 1) (sA T 576 (v1 : Int32).toNatClampNeg 0) kk)
def x_m_book_76  (K : Int32 → St → Int32 × St) : Nat → Int32 → St → Int32 × St
  | 0, _, T => (0, T)
  | f + 1, v1, T => if 7 ≤ v1 then (K v1 T) else (jn (fun (KJ2 : Int32 → Int32 × St) => if v1 = 5 then (KJ2 1) else (KJ2 0)) (fun (j2_s2 : Int32) => jn (fun (KJ3 : Int32 × St) => if v1 < 3 then (KJ3) else (if v1 = 5 then (KJ3) else (x_m_book_76 K f (v1 + 1) (x_m_number T v1 j2_s2 9)))) (x_m_book_76 K f (v1 + 1) (x_m_number T v1 j2_s2 3))))
def ok_m_book_76  (Kk : Int32 → St → Prop) : Nat → Int32 → St → Prop
  | 0, _, _ => False
  | f + 1, v1, T => ((7 ≤ v1 → Kk v1 T) ∧ (¬ 7 ≤ v1 → jn (fun (OJ2 : Int32 → Prop) => ((v1 = 5 → OJ2 1) ∧ (¬ v1 = 5 → OJ2 0))) (fun (j2_s2 : Int32) => jn (fun (OJ3 : Prop) => ((v1 < 3 → OJ3) ∧ (¬ v1 < 3 → ((v1 = 5 → OJ3) ∧ (¬ v1 = 5 → (ok_m_number T v1 j2_s2 9) ∧ ok_m_book_76 Kk f (v1 + 1) (x_m_number T v1 j2_s2 9)))))) ((ok_m_number T v1 j2_s2 3) ∧ ok_m_book_76 Kk f (v1 + 1) (x_m_number T v1 j2_s2 3)))))
theorem c_m_book_76 {X : Nat × (Nat → Int32)}  {K : Int32 → St → Int32 × St} {Kk : Int32 → St → Prop} (hk : ∀ (v1 : Int32) (T : St), Kk v1 T → tR X 6 mX12_book 119 [some (.ref (571 : Nat)), some (.int v1)] [] T (rI (K v1 T)).1 ((rI (K v1 T)).2)) : ∀ (f : Nat) (v1 : Int32) (T : St), ok_m_book_76  Kk f v1 T → tR X 6 mX12_book 76 [some (.ref (571 : Nat)), some (.int v1)] [] T (rI (x_m_book_76 K f v1 T)).1 ((rI (x_m_book_76 K f v1 T)).2) := by
  intro f
  induction f with
  | zero => intro v1 T kk; exact kk.elim
  | succ f ih =>
    intro v1 T kk
    rw [ok_m_book_76] at kk
    rw [x_m_book_76]
    refine r_p (pc2 := 77) dX12_book_76 rfl rfl ?_
    refine r_cb (x := 7) dX12_book_77 rfl ?_
    refine r_cge dX12_book_79 rfl (fun c79_3 => ?_) (fun c79_3 => ?_)
    · refine r_ip (R := rI) c79_3 ?_
      have kk := kk.1 c79_3
      show tR _ _ _ _ [some (.ref (571 : Nat)), some (.int v1)] _ _ _ _
      exact (hk v1 T kk)
    · refine r_in (R := rI) c79_3 ?_
      have kk := kk.2 c79_3
      refine r_p (pc2 := 83) dX12_book_82 rfl rfl ?_
      refine r_p (pc2 := 84) dX12_book_83 rfl rfl ?_
      refine r_p (pc2 := 85) dX12_book_84 rfl rfl ?_
      refine r_ci (x := 5) dX12_book_85 rfl ?_
      refine r_jn (R := rI) (J := fun (KJ2 : Int32 → Int32 × St) (OJ2 : Int32 → Prop) => ∀ (j2_s2 : Int32), OJ2 j2_s2 → tR X 6 mX12_book 94 [some (.ref (571 : Nat)), some (.int v1)] [.int j2_s2, .int v1, .ref (571 : Nat)] T (rI (KJ2 j2_s2)).1 (rI (KJ2 j2_s2)).2) kk (fun j2_s2 kk => ?_) (fun KJ2 OJ2 hJ2 kk => ?_)
      · skip
        refine r_p (pc2 := 95) dX12_book_94 rfl rfl ?_
        refine r_ci (x := 3) dX12_book_95 rfl ?_
        refine r_jn (R := rI) (J := fun (KJ3 : Int32 × St) (OJ3 : Prop) => OJ3 → tR X 6 mX12_book 104 [some (.ref (571 : Nat)), some (.int v1)] [.int j2_s2, .int v1, .ref (571 : Nat)] T (rI KJ3).1 (rI KJ3).2) kk (fun  kk => ?_) (fun KJ3 OJ3 hJ3 kk => ?_)
        · skip
          refine r_ci (x := 3) dX12_book_104 rfl ?_
          refine r_go dX12_book_105 rfl ?_
          obtain ⟨q6, kk⟩ := kk
          refine r_cv (d1 := 4) dX12_book_110 cvX12_190 rfl rfl rfl rfl (Nat.le_of_ble_eq_true rfl) (Nat.le_of_ble_eq_true rfl) (Nat.le_of_ble_eq_true rfl) (c_m_number v1 j2_s2 3 q6) ?_
          refine r_inc (L2 := [some (.ref (571 : Nat)), some (.int (v1 + 1))]) (y := 1) dX12_book_113 rfl rfl rfl ?_
          refine r_go dX12_book_116 rfl ?_
          show tR _ _ _ _ [some (.ref (571 : Nat)), some (.int (v1 + 1))] _ _ _ _
          exact (ih (v1 + 1) (x_m_number T v1 j2_s2 3) kk)
        refine r_clt dX12_book_96 rfl (fun c96_7 => ?_) (fun c96_7 => ?_)
        · refine r_ip (R := rI) c96_7 ?_
          have kk := kk.1 c96_7
          show tR _ _ _ _ [some (.ref (571 : Nat)), some (.int v1)] [.int j2_s2, .int v1, .ref (571 : Nat)] _ _ _
          exact (hJ3  kk)
        · refine r_in (R := rI) c96_7 ?_
          have kk := kk.2 c96_7
          refine r_p (pc2 := 100) dX12_book_99 rfl rfl ?_
          refine r_ci (x := 5) dX12_book_100 rfl ?_
          refine r_cne dX12_book_101 rfl (fun c101_8 => ?_) (fun c101_8 => ?_)
          · refine r_in (R := rI) c101_8 ?_
            have kk := kk.2 c101_8
            refine r_cb (x := 9) dX12_book_108 rfl ?_
            obtain ⟨q7, kk⟩ := kk
            refine r_cv (d1 := 4) dX12_book_110 cvX12_190 rfl rfl rfl rfl (Nat.le_of_ble_eq_true rfl) (Nat.le_of_ble_eq_true rfl) (Nat.le_of_ble_eq_true rfl) (c_m_number v1 j2_s2 9 q7) ?_
            refine r_inc (L2 := [some (.ref (571 : Nat)), some (.int (v1 + 1))]) (y := 1) dX12_book_113 rfl rfl rfl ?_
            refine r_go dX12_book_116 rfl ?_
            show tR _ _ _ _ [some (.ref (571 : Nat)), some (.int (v1 + 1))] _ _ _ _
            exact (ih (v1 + 1) (x_m_number T v1 j2_s2 9) kk)
          · refine r_ip (R := rI) c101_8 ?_
            have kk := kk.1 c101_8
            show tR _ _ _ _ [some (.ref (571 : Nat)), some (.int v1)] [.int j2_s2, .int v1, .ref (571 : Nat)] _ _ _
            exact (hJ3  kk)
      refine r_cne dX12_book_86 rfl (fun c86_9 => ?_) (fun c86_9 => ?_)
      · refine r_in (R := rI) c86_9 ?_
        have kk := kk.2 c86_9
        refine r_ci (x := 0) dX12_book_93 rfl ?_
        show tR _ _ _ _ [some (.ref (571 : Nat)), some (.int v1)] [.int 0, .int v1, .ref (571 : Nat)] _ _ _
        exact (hJ2 0 kk)
      · refine r_ip (R := rI) c86_9 ?_
        have kk := kk.1 c86_9
        refine r_ci (x := 1) dX12_book_89 rfl ?_
        refine r_go dX12_book_90 rfl ?_
        show tR _ _ _ _ [some (.ref (571 : Nat)), some (.int v1)] [.int 1, .int v1, .ref (571 : Nat)] _ _ _
        exact (hJ2 1 kk)
def x_m_book_123 (l1 : Int32) (K : St → Int32 × St) : Nat → St → Int32 × St
  | 0, T => (0, T)
  | f + 1, T => if (lg_cmp (x_m_word T) 1635213689) = 0 then (x_m_book_123 l1 K f  (x_m_readAway T)) else (K  T)
def ok_m_book_123 (l1 : Int32) (Kk : St → Prop) : Nat → St → Prop
  | 0, _ => False
  | f + 1, T => (ok_m_word T) ∧ (((lg_cmp (x_m_word T) 1635213689) = 0 → (ok_m_readAway T) ∧ ok_m_book_123 l1 Kk f  (x_m_readAway T)) ∧ (¬ (lg_cmp (x_m_word T) 1635213689) = 0 → Kk  T))
theorem c_m_book_123 {X : Nat × (Nat → Int32)} (l1 : Int32) {K : St → Int32 × St} {Kk : St → Prop} (hk : ∀  (T : St), Kk  T → tR X 6 mX12_book 141 [some (.ref (571 : Nat)), some (.int l1)] [] T (rI (K  T)).1 ((rI (K  T)).2)) : ∀ (f : Nat)  (T : St), ok_m_book_123 l1 Kk f  T → tR X 6 mX12_book 123 [some (.ref (571 : Nat)), some (.int l1)] [] T (rI (x_m_book_123 l1 K f T)).1 ((rI (x_m_book_123 l1 K f T)).2) := by
  intro f
  induction f with
  | zero => intro  T kk; exact kk.elim
  | succ f ih =>
    intro  T kk
    rw [ok_m_book_123] at kk
    rw [x_m_book_123]
    refine r_p (pc2 := 124) dX12_book_123 rfl rfl ?_
    obtain ⟨q9, kk⟩ := kk
    refine r_cv (d1 := 1) dX12_book_124 cvX12_176 rfl rfl rfl rfl (Nat.le_of_ble_eq_true rfl) (Nat.le_of_ble_eq_true rfl) (Nat.le_of_ble_eq_true rfl) (c_m_word  q9) ?_
    refine r_kl dX12_book_127 klX12_207 ?_
    refine r_p (pc2 := 131) dX12_book_130 rfl rfl ?_
    refine r_ine dX12_book_131 rfl (fun c131_10 => ?_) (fun c131_10 => ?_)
    · refine r_in (R := rI) c131_10 ?_
      have kk := kk.2 c131_10
      show tR _ _ _ _ [some (.ref (571 : Nat)), some (.int l1)] _ _ _ _
      exact (hk  T kk)
    · refine r_ip (R := rI) c131_10 ?_
      have kk := kk.1 c131_10
      refine r_p (pc2 := 135) dX12_book_134 rfl rfl ?_
      obtain ⟨q10, kk⟩ := kk
      refine r_cv (d1 := 5) dX12_book_135 cvX12_209 rfl rfl rfl rfl (Nat.le_of_ble_eq_true rfl) (Nat.le_of_ble_eq_true rfl) (Nat.le_of_ble_eq_true rfl) (c_m_readAway  q10) ?_
      refine r_go dX12_book_138 rfl ?_
      show tR _ _ _ _ [some (.ref (571 : Nat)), some (.int l1)] _ _ _ _
      exact (ih  (x_m_readAway T) kk)
def x_m_book_164 (l1 : Int32) (K : St → Int32 × St) : Nat → St → Int32 × St
  | 0, T => (0, T)
  | f + 1, T => if (lg_cmp (x_m_word T) 1684632424) = 0 then (x_m_book_164 l1 K f  (x_m_readDish T)) else (K  T)
def ok_m_book_164 (l1 : Int32) (Kk : St → Prop) : Nat → St → Prop
  | 0, _ => False
  | f + 1, T => (ok_m_word T) ∧ (((lg_cmp (x_m_word T) 1684632424) = 0 → (ok_m_readDish T) ∧ ok_m_book_164 l1 Kk f  (x_m_readDish T)) ∧ (¬ (lg_cmp (x_m_word T) 1684632424) = 0 → Kk  T))
theorem c_m_book_164 {X : Nat × (Nat → Int32)} (l1 : Int32) {K : St → Int32 × St} {Kk : St → Prop} (hk : ∀  (T : St), Kk  T → tR X 6 mX12_book 182 [some (.ref (571 : Nat)), some (.int l1)] [] T (rI (K  T)).1 ((rI (K  T)).2)) : ∀ (f : Nat)  (T : St), ok_m_book_164 l1 Kk f  T → tR X 6 mX12_book 164 [some (.ref (571 : Nat)), some (.int l1)] [] T (rI (x_m_book_164 l1 K f T)).1 ((rI (x_m_book_164 l1 K f T)).2) := by
  intro f
  induction f with
  | zero => intro  T kk; exact kk.elim
  | succ f ih =>
    intro  T kk
    rw [ok_m_book_164] at kk
    rw [x_m_book_164]
    refine r_p (pc2 := 165) dX12_book_164 rfl rfl ?_
    obtain ⟨q12, kk⟩ := kk
    refine r_cv (d1 := 1) dX12_book_165 cvX12_176 rfl rfl rfl rfl (Nat.le_of_ble_eq_true rfl) (Nat.le_of_ble_eq_true rfl) (Nat.le_of_ble_eq_true rfl) (c_m_word  q12) ?_
    refine r_kl dX12_book_168 klX12_212 ?_
    refine r_p (pc2 := 172) dX12_book_171 rfl rfl ?_
    refine r_ine dX12_book_172 rfl (fun c172_13 => ?_) (fun c172_13 => ?_)
    · refine r_in (R := rI) c172_13 ?_
      have kk := kk.2 c172_13
      show tR _ _ _ _ [some (.ref (571 : Nat)), some (.int l1)] _ _ _ _
      exact (hk  T kk)
    · refine r_ip (R := rI) c172_13 ?_
      have kk := kk.1 c172_13
      refine r_p (pc2 := 176) dX12_book_175 rfl rfl ?_
      obtain ⟨q13, kk⟩ := kk
      refine r_cv (d1 := 6) dX12_book_176 cvX12_214 rfl rfl rfl rfl (Nat.le_of_ble_eq_true rfl) (Nat.le_of_ble_eq_true rfl) (Nat.le_of_ble_eq_true rfl) (c_m_readDish  q13) ?_
      refine r_go dX12_book_179 rfl ?_
      show tR _ _ _ _ [some (.ref (571 : Nat)), some (.int l1)] _ _ _ _
      exact (ih  (x_m_readDish T) kk)
def x_m_book_246  (K : Int32 → St → Int32 × St) : Nat → Int32 → St → Int32 × St
  | 0, _, T => (0, T)
  | f + 1, v1, T => if 204 ≤ v1 then (K v1 T) else (x_m_book_246 K f (v1 + 1) (sA T 575 (v1 : Int32).toNatClampNeg (T.2.2.1 576 (v1 : Int32).toNatClampNeg)))
def ok_m_book_246  (Kk : Int32 → St → Prop) : Nat → Int32 → St → Prop
  | 0, _, _ => False
  | f + 1, v1, T => ((204 ≤ v1 → Kk v1 T) ∧ (¬ 204 ≤ v1 → (vp_in v1 204) ∧ ok_m_book_246 Kk f (v1 + 1) (sA T 575 (v1 : Int32).toNatClampNeg (T.2.2.1 576 (v1 : Int32).toNatClampNeg))))
theorem c_m_book_246 {X : Nat × (Nat → Int32)}  {K : Int32 → St → Int32 × St} {Kk : Int32 → St → Prop} (hk : ∀ (v1 : Int32) (T : St), Kk v1 T → tR X 6 mX12_book 271 [some (.ref (571 : Nat)), some (.int v1)] [] T (rI (K v1 T)).1 ((rI (K v1 T)).2)) : ∀ (f : Nat) (v1 : Int32) (T : St), ok_m_book_246  Kk f v1 T → tR X 6 mX12_book 246 [some (.ref (571 : Nat)), some (.int v1)] [] T (rI (x_m_book_246 K f v1 T)).1 ((rI (x_m_book_246 K f v1 T)).2) := by
  intro f
  induction f with
  | zero => intro v1 T kk; exact kk.elim
  | succ f ih =>
    intro v1 T kk
    rw [ok_m_book_246] at kk
    rw [x_m_book_246]
    refine r_p (pc2 := 247) dX12_book_246 rfl rfl ?_
    refine r_csi (x := 204) dX12_book_247 rfl ?_
    refine r_cge dX12_book_250 rfl (fun c250_17 => ?_) (fun c250_17 => ?_)
    · refine r_ip (R := rI) c250_17 ?_
      have kk := kk.1 c250_17
      show tR _ _ _ _ [some (.ref (571 : Nat)), some (.int v1)] _ _ _ _
      exact (hk v1 T kk)
    · refine r_in (R := rI) c250_17 ?_
      have kk := kk.2 c250_17
      refine r_p (pc2 := 254) dX12_book_253 rfl rfl ?_
      refine r_get dX12_book_254 fkX12_19 rfl rfl ?_
      refine r_p (pc2 := 258) dX12_book_257 rfl rfl ?_
      refine r_p (pc2 := 259) dX12_book_258 rfl rfl ?_
      refine r_get dX12_book_259 fkX12_22 rfl rfl ?_
      refine r_p (pc2 := 263) dX12_book_262 rfl rfl ?_
      obtain ⟨q14, kk⟩ := kk
      refine r_ia dX12_book_263 rfl q14 ?_
      refine r_ias dX12_book_264 rfl q14 ?_
      refine r_inc (L2 := [some (.ref (571 : Nat)), some (.int (v1 + 1))]) (y := 1) dX12_book_265 rfl rfl rfl ?_
      refine r_go dX12_book_268 rfl ?_
      show tR _ _ _ _ [some (.ref (571 : Nat)), some (.int (v1 + 1))] _ _ _ _
      exact (ih (v1 + 1) (sA T 575 (v1 : Int32).toNatClampNeg (T.2.2.1 576 (v1 : Int32).toNatClampNeg)) kk)
def x_m_book (T : St)  : Int32 × St := x_m_book_30  (fun (w1_1 : Int32) (T201 : St) => jn (fun (KJ1 : Int32 → Int32 × St) => if (lg_cmp (x_m_word (x_m_next T201)) 30233771112949102) = 0 then (KJ1 1) else (KJ1 0)) (fun (j1_s1 : Int32) => x_m_book_76  (fun (w2_1 : Int32) (T202 : St) => x_m_book_123 w2_1 (fun  (T203 : St) => jn (fun (KJ4 : St → Int32 × St) => if (T203.1 571 16) = 0 then (if (lg_cmp (x_m_word T203) 1684632424) = 0 then (KJ4 T203) else (KJ4 (x_m_bad T203 1))) else (KJ4 T203)) (fun (T304 : St) => x_m_book_164 w2_1 (fun  (T204 : St) => jn (fun (KJ5 : St → Int32 × St) => if (T204.1 571 16) = 0 then (if (T204.1 571 13) = 1 then (KJ5 T204) else (KJ5 (x_m_bad T204 1))) else (KJ5 T204)) (fun (T305 : St) => if (T305.1 571 16) ≤ 0 then (x_m_book_246  (fun (w5_1 : Int32) (T205 : St) => ((x_m_forget (sF T205 571 7 1)).2.2.1 575 (16 : Int32).toNatClampNeg, x_m_forget (sF T205 571 7 1))) 1000 0 (sA (sA T305 576 (202 : Int32).toNatClampNeg 1) 576 (203 : Int32).toNatClampNeg 60)) else ((-1000100) - ((sF T305 571 10 (T305.1 571 16)).1 571 17), sF T305 571 10 (T305.1 571 16)))) 1000  T304)) 1000  (x_m_mustEnd T202)) 1000 0 (x_m_must (x_m_next T201) j1_s1))) 1000 0 (sF (sF (sF (sF (sF T 571 0 0) 571 11 ((sF T 571 0 0).1 571 9)) 571 9 0) 571 12 0) 571 16 0)
def ok_m_book (T : St)  : Prop := ok_m_book_30  (fun (w1_1 : Int32) (T201 : St) => (ok_m_next T201) ∧ (ok_m_word (x_m_next T201)) ∧ jn (fun (OJ1 : Int32 → Prop) => (((lg_cmp (x_m_word (x_m_next T201)) 30233771112949102) = 0 → OJ1 1) ∧ (¬ (lg_cmp (x_m_word (x_m_next T201)) 30233771112949102) = 0 → OJ1 0))) (fun (j1_s1 : Int32) => (ok_m_must (x_m_next T201) j1_s1) ∧ ok_m_book_76  (fun (w2_1 : Int32) (T202 : St) => (ok_m_mustEnd T202) ∧ ok_m_book_123 w2_1 (fun  (T203 : St) => jn (fun (OJ4 : St → Prop) => (((T203.1 571 16) = 0 → (ok_m_word T203) ∧ (((lg_cmp (x_m_word T203) 1684632424) = 0 → OJ4 T203) ∧ (¬ (lg_cmp (x_m_word T203) 1684632424) = 0 → OJ4 (x_m_bad T203 1)))) ∧ (¬ (T203.1 571 16) = 0 → OJ4 T203))) (fun (T304 : St) => ok_m_book_164 w2_1 (fun  (T204 : St) => jn (fun (OJ5 : St → Prop) => (((T204.1 571 16) = 0 → (((T204.1 571 13) = 1 → OJ5 T204) ∧ (¬ (T204.1 571 13) = 1 → OJ5 (x_m_bad T204 1)))) ∧ (¬ (T204.1 571 16) = 0 → OJ5 T204))) (fun (T305 : St) => ((T305.1 571 16) ≤ 0 → ok_m_book_246  (fun (w5_1 : Int32) (T205 : St) => True) 1000 0 (sA (sA T305 576 (202 : Int32).toNatClampNeg 1) 576 (203 : Int32).toNatClampNeg 60)))) 1000  T304)) 1000  (x_m_mustEnd T202)) 1000 0 (x_m_must (x_m_next T201) j1_s1))) 1000 0 (sF (sF (sF (sF (sF T 571 0 0) 571 11 ((sF T 571 0 0).1 571 9)) 571 9 0) 571 12 0) 571 16 0)
theorem c_m_book {X : Nat × (Nat → Int32)} {T : St}  (kk : ok_m_book T ) : tC X 7 mX12_book [.ref (571 : Nat)] T (some (.int (x_m_book T).1)) ((x_m_book T).2) := by
  unfold ok_m_book at kk
  refine tC_orI (L := [some (.ref (571 : Nat)), none]) (x_m_book T ) rfl ?_
  unfold x_m_book
  refine r_p (pc2 := 1) dX12_book_0 rfl rfl ?_
  refine r_ci (x := 0) dX12_book_1 rfl ?_
  refine r_put dX12_book_2 fkX12_101 rfl rfl rfl (Nat.le_of_ble_eq_true rfl) rfl rfl ?_
  refine r_p (pc2 := 6) dX12_book_5 rfl rfl ?_
  refine r_p (pc2 := 7) dX12_book_6 rfl rfl ?_
  refine r_get dX12_book_7 fkX12_128 rfl rfl ?_
  refine r_put dX12_book_10 fkX12_134 rfl rfl rfl (Nat.le_of_ble_eq_true rfl) rfl rfl ?_
  refine r_p (pc2 := 14) dX12_book_13 rfl rfl ?_
  refine r_ci (x := 0) dX12_book_14 rfl ?_
  refine r_put dX12_book_15 fkX12_128 rfl rfl rfl (Nat.le_of_ble_eq_true rfl) rfl rfl ?_
  refine r_p (pc2 := 19) dX12_book_18 rfl rfl ?_
  refine r_ci (x := 0) dX12_book_19 rfl ?_
  refine r_put dX12_book_20 fkX12_138 rfl rfl rfl (Nat.le_of_ble_eq_true rfl) rfl rfl ?_
  refine r_p (pc2 := 24) dX12_book_23 rfl rfl ?_
  refine r_ci (x := 0) dX12_book_24 rfl ?_
  refine r_put dX12_book_25 fkX12_159 rfl rfl rfl (Nat.le_of_ble_eq_true rfl) rfl rfl ?_
  refine r_ci (x := 0) dX12_book_28 rfl ?_
  refine r_p (pc2 := 30) (L2 := [some (.ref (571 : Nat)), some (.int 0)]) dX12_book_29 rfl rfl ?_
  show tR _ _ _ _ [some (.ref (571 : Nat)), some (.int 0)] _ _ _ _
  refine (c_m_book_30  (fun w1_1 T201 kk => ?_) 1000 0 (sF (sF (sF (sF (sF T 571 0 0) 571 11 ((sF T 571 0 0).1 571 9)) 571 9 0) 571 12 0) 571 16 0) kk)
  · skip
    refine r_p (pc2 := 51) dX12_book_50 rfl rfl ?_
    obtain ⟨q2, kk⟩ := kk
    refine r_cv (d1 := 2) dX12_book_51 cvX12_169 rfl rfl rfl rfl (Nat.le_of_ble_eq_true rfl) (Nat.le_of_ble_eq_true rfl) (Nat.le_of_ble_eq_true rfl) (c_m_next  q2) ?_
    refine r_p (pc2 := 55) dX12_book_54 rfl rfl ?_
    refine r_p (pc2 := 56) dX12_book_55 rfl rfl ?_
    obtain ⟨q3, kk⟩ := kk
    refine r_cv (d1 := 1) dX12_book_56 cvX12_176 rfl rfl rfl rfl (Nat.le_of_ble_eq_true rfl) (Nat.le_of_ble_eq_true rfl) (Nat.le_of_ble_eq_true rfl) (c_m_word  q3) ?_
    refine r_kl dX12_book_59 klX12_205 ?_
    refine r_p (pc2 := 63) dX12_book_62 rfl rfl ?_
    refine r_jn (R := rI) (J := fun (KJ1 : Int32 → Int32 × St) (OJ1 : Int32 → Prop) => ∀ (j1_s1 : Int32), OJ1 j1_s1 → tR X 6 mX12_book 71 [some (.ref (571 : Nat)), some (.int w1_1)] [.int j1_s1, .ref (571 : Nat)] (x_m_next T201) (rI (KJ1 j1_s1)).1 (rI (KJ1 j1_s1)).2) kk (fun j1_s1 kk => ?_) (fun KJ1 OJ1 hJ1 kk => ?_)
    · skip
      obtain ⟨q4, kk⟩ := kk
      refine r_cv (d1 := 3) dX12_book_71 cvX12_172 rfl rfl rfl rfl (Nat.le_of_ble_eq_true rfl) (Nat.le_of_ble_eq_true rfl) (Nat.le_of_ble_eq_true rfl) (c_m_must j1_s1 q4) ?_
      refine r_ci (x := 0) dX12_book_74 rfl ?_
      refine r_p (pc2 := 76) (L2 := [some (.ref (571 : Nat)), some (.int 0)]) dX12_book_75 rfl rfl ?_
      show tR _ _ _ _ [some (.ref (571 : Nat)), some (.int 0)] _ _ _ _
      refine (c_m_book_76  (fun w2_1 T202 kk => ?_) 1000 0 (x_m_must (x_m_next T201) j1_s1) kk)
      · skip
        refine r_p (pc2 := 120) dX12_book_119 rfl rfl ?_
        obtain ⟨q8, kk⟩ := kk
        refine r_cv (d1 := 4) dX12_book_120 cvX12_194 rfl rfl rfl rfl (Nat.le_of_ble_eq_true rfl) (Nat.le_of_ble_eq_true rfl) (Nat.le_of_ble_eq_true rfl) (c_m_mustEnd  q8) ?_
        show tR _ _ _ _ [some (.ref (571 : Nat)), some (.int w2_1)] _ _ _ _
        refine (c_m_book_123 w2_1 (fun  T203 kk => ?_) 1000  (x_m_mustEnd T202) kk)
        · skip
          refine r_p (pc2 := 142) dX12_book_141 rfl rfl ?_
          refine r_get dX12_book_142 fkX12_159 rfl rfl ?_
          refine r_jn (R := rI) (J := fun (KJ4 : St → Int32 × St) (OJ4 : St → Prop) => ∀ (T304 : St), OJ4 T304 → tR X 6 mX12_book 164 [some (.ref (571 : Nat)), some (.int w2_1)] [] T304 (rI (KJ4 T304)).1 (rI (KJ4 T304)).2) kk (fun T304 kk => ?_) (fun KJ4 OJ4 hJ4 kk => ?_)
          · skip
            show tR _ _ _ _ [some (.ref (571 : Nat)), some (.int w2_1)] _ _ _ _
            refine (c_m_book_164 w2_1 (fun  T204 kk => ?_) 1000  T304 kk)
            · skip
              refine r_p (pc2 := 183) dX12_book_182 rfl rfl ?_
              refine r_get dX12_book_183 fkX12_159 rfl rfl ?_
              refine r_jn (R := rI) (J := fun (KJ5 : St → Int32 × St) (OJ5 : St → Prop) => ∀ (T305 : St), OJ5 T305 → tR X 6 mX12_book 202 [some (.ref (571 : Nat)), some (.int w2_1)] [] T305 (rI (KJ5 T305)).1 (rI (KJ5 T305)).2) kk (fun T305 kk => ?_) (fun KJ5 OJ5 hJ5 kk => ?_)
              · skip
                refine r_p (pc2 := 203) dX12_book_202 rfl rfl ?_
                refine r_get dX12_book_203 fkX12_159 rfl rfl ?_
                refine r_ile dX12_book_206 rfl (fun c206_16 => ?_) (fun c206_16 => ?_)
                · refine r_ip (R := rI) c206_16 ?_
                  have kk := kk c206_16
                  refine r_p (pc2 := 226) dX12_book_225 rfl rfl ?_
                  refine r_get dX12_book_226 fkX12_22 rfl rfl ?_
                  refine r_csi (x := 202) dX12_book_229 rfl ?_
                  refine r_ci (x := 1) dX12_book_232 rfl ?_
                  refine r_ias dX12_book_233 rfl (in_c (by decide)) ?_
                  refine r_p (pc2 := 235) dX12_book_234 rfl rfl ?_
                  refine r_get dX12_book_235 fkX12_22 rfl rfl ?_
                  refine r_csi (x := 203) dX12_book_238 rfl ?_
                  refine r_cb (x := 60) dX12_book_241 rfl ?_
                  refine r_ias dX12_book_243 rfl (in_c (by decide)) ?_
                  refine r_ci (x := 0) dX12_book_244 rfl ?_
                  refine r_p (pc2 := 246) (L2 := [some (.ref (571 : Nat)), some (.int 0)]) dX12_book_245 rfl rfl ?_
                  show tR _ _ _ _ [some (.ref (571 : Nat)), some (.int 0)] _ _ _ _
                  refine (c_m_book_246  (fun w5_1 T205 kk => ?_) 1000 0 (sA (sA T305 576 (202 : Int32).toNatClampNeg 1) 576 (203 : Int32).toNatClampNeg 60) kk)
                  · skip
                    refine r_p (pc2 := 272) dX12_book_271 rfl rfl ?_
                    refine r_ci (x := 1) dX12_book_272 rfl ?_
                    refine r_put dX12_book_273 fkX12_221 rfl rfl rfl (Nat.le_of_ble_eq_true rfl) rfl rfl ?_
                    refine r_p (pc2 := 277) dX12_book_276 rfl rfl ?_
                    refine r_cv (d1 := 1) dX12_book_277 cvX12_225 rfl rfl rfl rfl (Nat.le_of_ble_eq_true rfl) (Nat.le_of_ble_eq_true rfl) (Nat.le_of_ble_eq_true rfl) (c_m_forget ) ?_
                    refine r_p (pc2 := 281) dX12_book_280 rfl rfl ?_
                    refine r_get dX12_book_281 fkX12_19 rfl rfl ?_
                    refine r_cb (x := 16) dX12_book_284 rfl ?_
                    refine r_ia dX12_book_286 rfl (in_c (by decide)) ?_
                    exact r_qI dX12_book_287 rfl rfl rfl rfl
                · refine r_in (R := rI) c206_16 ?_
                  refine r_p (pc2 := 210) dX12_book_209 rfl rfl ?_
                  refine r_p (pc2 := 211) dX12_book_210 rfl rfl ?_
                  refine r_get dX12_book_211 fkX12_159 rfl rfl ?_
                  refine r_put dX12_book_214 fkX12_217 rfl rfl rfl (Nat.le_of_ble_eq_true rfl) rfl rfl ?_
                  refine r_k dX12_book_217 kkX12_220 ?_
                  refine r_p (pc2 := 220) dX12_book_219 rfl rfl ?_
                  refine r_get dX12_book_220 fkX12_162 rfl rfl ?_
                  refine r_p (pc2 := 224) dX12_book_223 rfl rfl ?_
                  exact r_qI dX12_book_224 rfl rfl rfl rfl
              refine r_ine dX12_book_186 rfl (fun c186_18 => ?_) (fun c186_18 => ?_)
              · refine r_in (R := rI) c186_18 ?_
                have kk := kk.2 c186_18
                show tR _ _ _ _ [some (.ref (571 : Nat)), some (.int w2_1)] [] _ _ _
                exact (hJ5 T204 kk)
              · refine r_ip (R := rI) c186_18 ?_
                have kk := kk.1 c186_18
                refine r_p (pc2 := 190) dX12_book_189 rfl rfl ?_
                refine r_get dX12_book_190 fkX12_147 rfl rfl ?_
                refine r_ci (x := 1) dX12_book_193 rfl ?_
                refine r_ceq dX12_book_194 rfl (fun c194_19 => ?_) (fun c194_19 => ?_)
                · refine r_ip (R := rI) c194_19 ?_
                  have kk := kk.1 c194_19
                  show tR _ _ _ _ [some (.ref (571 : Nat)), some (.int w2_1)] [] _ _ _
                  exact (hJ5 T204 kk)
                · refine r_in (R := rI) c194_19 ?_
                  have kk := kk.2 c194_19
                  refine r_p (pc2 := 198) dX12_book_197 rfl rfl ?_
                  refine r_ci (x := 1) dX12_book_198 rfl ?_
                  refine r_cv (d1 := 1) dX12_book_199 cvX12_165 rfl rfl rfl rfl (Nat.le_of_ble_eq_true rfl) (Nat.le_of_ble_eq_true rfl) (Nat.le_of_ble_eq_true rfl) (c_m_bad 1) ?_
                  show tR _ _ _ _ [some (.ref (571 : Nat)), some (.int w2_1)] [] _ _ _
                  exact (hJ5 (x_m_bad T204 1) kk)
          refine r_ine dX12_book_145 rfl (fun c145_20 => ?_) (fun c145_20 => ?_)
          · refine r_in (R := rI) c145_20 ?_
            have kk := kk.2 c145_20
            show tR _ _ _ _ [some (.ref (571 : Nat)), some (.int w2_1)] [] _ _ _
            exact (hJ4 T203 kk)
          · refine r_ip (R := rI) c145_20 ?_
            have kk := kk.1 c145_20
            refine r_p (pc2 := 149) dX12_book_148 rfl rfl ?_
            obtain ⟨q15, kk⟩ := kk
            refine r_cv (d1 := 1) dX12_book_149 cvX12_176 rfl rfl rfl rfl (Nat.le_of_ble_eq_true rfl) (Nat.le_of_ble_eq_true rfl) (Nat.le_of_ble_eq_true rfl) (c_m_word  q15) ?_
            refine r_kl dX12_book_152 klX12_212 ?_
            refine r_p (pc2 := 156) dX12_book_155 rfl rfl ?_
            refine r_ieq dX12_book_156 rfl (fun c156_21 => ?_) (fun c156_21 => ?_)
            · refine r_ip (R := rI) c156_21 ?_
              have kk := kk.1 c156_21
              show tR _ _ _ _ [some (.ref (571 : Nat)), some (.int w2_1)] [] _ _ _
              exact (hJ4 T203 kk)
            · refine r_in (R := rI) c156_21 ?_
              have kk := kk.2 c156_21
              refine r_p (pc2 := 160) dX12_book_159 rfl rfl ?_
              refine r_ci (x := 1) dX12_book_160 rfl ?_
              refine r_cv (d1 := 1) dX12_book_161 cvX12_165 rfl rfl rfl rfl (Nat.le_of_ble_eq_true rfl) (Nat.le_of_ble_eq_true rfl) (Nat.le_of_ble_eq_true rfl) (c_m_bad 1) ?_
              show tR _ _ _ _ [some (.ref (571 : Nat)), some (.int w2_1)] [] _ _ _
              exact (hJ4 (x_m_bad T203 1) kk)
    refine r_ine dX12_book_63 rfl (fun c63_22 => ?_) (fun c63_22 => ?_)
    · refine r_in (R := rI) c63_22 ?_
      have kk := kk.2 c63_22
      refine r_ci (x := 0) dX12_book_70 rfl ?_
      show tR _ _ _ _ [some (.ref (571 : Nat)), some (.int w1_1)] [.int 0, .ref (571 : Nat)] _ _ _
      exact (hJ1 0 kk)
    · refine r_ip (R := rI) c63_22 ?_
      have kk := kk.1 c63_22
      refine r_ci (x := 1) dX12_book_66 rfl ?_
      refine r_go dX12_book_67 rfl ?_
      show tR _ _ _ _ [some (.ref (571 : Nat)), some (.int w1_1)] [.int 1, .ref (571 : Nat)] _ _ _
      exact (hJ1 1 kk)
def x_m_dinner (T : St) (p0 : Int32) : Int32 × St := if (x_m_in (sF T 571 0 0) ((p0 : Int32).toInt64) 1 (((1 <<< (((sF T 571 0 0).2.2.1 575 (16 : Int32).toNatClampNeg) &&& 31)) - 1 : Int32).toInt64)) = 0 then ((-1000001), sF T 571 0 0) else (if (x_m_bits (sF T 571 0 0) p0) ≤ 4 then (x_m_bits (x_m_forget (sA (sF T 571 0 0) 575 (202 : Int32).toNatClampNeg p0)) p0, x_m_forget (sA (sF T 571 0 0) 575 (202 : Int32).toNatClampNeg p0)) else ((-1000001), sF T 571 0 0))
def ok_m_dinner (T : St) (p0 : Int32) : Prop := (¬ (x_m_in (sF T 571 0 0) ((p0 : Int32).toInt64) 1 (((1 <<< (((sF T 571 0 0).2.2.1 575 (16 : Int32).toNatClampNeg) &&& 31)) - 1 : Int32).toInt64)) = 0 → (ok_m_bits (sF T 571 0 0) p0) ∧ ((x_m_bits (sF T 571 0 0) p0) ≤ 4 → (ok_m_bits (x_m_forget (sA (sF T 571 0 0) 575 (202 : Int32).toNatClampNeg p0)) p0) ∧ True))
theorem c_m_dinner {X : Nat × (Nat → Int32)} {T : St} (p0 : Int32) (kk : ok_m_dinner T p0) : tC X 2 mX12_dinner [.ref (571 : Nat), .int p0] T (some (.int (x_m_dinner T p0).1)) ((x_m_dinner T p0).2) := by
  unfold ok_m_dinner at kk
  refine tC_orI (L := [some (.ref (571 : Nat)), some (.int p0)]) (x_m_dinner T p0) rfl ?_
  unfold x_m_dinner
  refine r_p (pc2 := 1) dX12_dinner_0 rfl rfl ?_
  refine r_ci (x := 0) dX12_dinner_1 rfl ?_
  refine r_put dX12_dinner_2 fkX12_101 rfl rfl rfl (Nat.le_of_ble_eq_true rfl) rfl rfl ?_
  refine r_p (pc2 := 6) dX12_dinner_5 rfl rfl ?_
  refine r_p (pc2 := 7) dX12_dinner_6 rfl rfl ?_
  refine r_cl (x := 1) dX12_dinner_7 rfl ?_
  refine r_ci (x := 1) dX12_dinner_8 rfl ?_
  refine r_p (pc2 := 10) dX12_dinner_9 rfl rfl ?_
  refine r_get dX12_dinner_10 fkX12_19 rfl rfl ?_
  refine r_cb (x := 16) dX12_dinner_13 rfl ?_
  refine r_ia dX12_dinner_15 rfl (in_c (by decide)) ?_
  refine r_p (pc2 := 17) dX12_dinner_16 rfl rfl ?_
  refine r_ci (x := 1) dX12_dinner_17 rfl ?_
  refine r_p (pc2 := 19) dX12_dinner_18 rfl rfl ?_
  refine r_p (pc2 := 20) dX12_dinner_19 rfl rfl ?_
  refine r_cs (d1 := 1) dX12_dinner_20 csX12_111 rfl rfl (Nat.le_of_ble_eq_true rfl) (Nat.le_of_ble_eq_true rfl) (Nat.le_of_ble_eq_true rfl) (c_m_in ((p0 : Int32).toInt64) 1 (((1 <<< (((sF T 571 0 0).2.2.1 575 (16 : Int32).toNatClampNeg) &&& 31)) - 1 : Int32).toInt64)) ?_
  refine r_ieq dX12_dinner_23 rfl (fun c23_1 => ?_) (fun c23_1 => ?_)
  · refine r_ip (R := rI) c23_1 ?_
    refine r_k dX12_dinner_34 kkX12_121 ?_
    exact r_qI dX12_dinner_36 rfl rfl rfl rfl
  · refine r_in (R := rI) c23_1 ?_
    have kk := kk c23_1
    refine r_p (pc2 := 27) dX12_dinner_26 rfl rfl ?_
    obtain ⟨q1, kk⟩ := kk
    refine r_cs (d1 := 1) dX12_dinner_27 csX12_263 rfl rfl (Nat.le_of_ble_eq_true rfl) (Nat.le_of_ble_eq_true rfl) (Nat.le_of_ble_eq_true rfl) (c_m_bits p0 q1) ?_
    refine r_ci (x := 4) dX12_dinner_30 rfl ?_
    refine r_cle dX12_dinner_31 rfl (fun c31_2 => ?_) (fun c31_2 => ?_)
    · refine r_ip (R := rI) c31_2 ?_
      have kk := kk c31_2
      refine r_p (pc2 := 38) dX12_dinner_37 rfl rfl ?_
      refine r_get dX12_dinner_38 fkX12_19 rfl rfl ?_
      refine r_csi (x := 202) dX12_dinner_41 rfl ?_
      refine r_p (pc2 := 45) dX12_dinner_44 rfl rfl ?_
      refine r_ias dX12_dinner_45 rfl (in_c (by decide)) ?_
      refine r_p (pc2 := 47) dX12_dinner_46 rfl rfl ?_
      refine r_cv (d1 := 1) dX12_dinner_47 cvX12_225 rfl rfl rfl rfl (Nat.le_of_ble_eq_true rfl) (Nat.le_of_ble_eq_true rfl) (Nat.le_of_ble_eq_true rfl) (c_m_forget ) ?_
      refine r_p (pc2 := 51) dX12_dinner_50 rfl rfl ?_
      obtain ⟨q2, kk⟩ := kk
      refine r_cs (d1 := 1) dX12_dinner_51 csX12_263 rfl rfl (Nat.le_of_ble_eq_true rfl) (Nat.le_of_ble_eq_true rfl) (Nat.le_of_ble_eq_true rfl) (c_m_bits p0 q2) ?_
      exact r_qI dX12_dinner_54 rfl rfl rfl rfl
    · refine r_in (R := rI) c31_2 ?_
      refine r_k dX12_dinner_34 kkX12_121 ?_
      exact r_qI dX12_dinner_36 rfl rfl rfl rfl
def x_m_out (T : St) (p0 : Int32) : Int32 × St := if (x_m_in (sF T 571 0 0) ((p0 : Int32).toInt64) 0 60) = 0 then ((-1000001), sF T 571 0 0) else (if ((sF T 571 0 0).1 571 7) = 0 then ((-1000002), sF T 571 0 0) else (if ((sF T 571 0 0).2.2.1 575 (1 : Int32).toNatClampNeg) = 0 then ((-1000002), sF T 571 0 0) else (1, x_m_forget (sA (sF T 571 0 0) 575 (203 : Int32).toNatClampNeg p0))))
theorem c_m_out {X : Nat × (Nat → Int32)} {T : St} (p0 : Int32) : tC X 2 mX12_out [.ref (571 : Nat), .int p0] T (some (.int (x_m_out T p0).1)) ((x_m_out T p0).2) := by
  refine tC_orI (L := [some (.ref (571 : Nat)), some (.int p0)]) (x_m_out T p0) rfl ?_
  unfold x_m_out
  refine r_p (pc2 := 1) dX12_out_0 rfl rfl ?_
  refine r_ci (x := 0) dX12_out_1 rfl ?_
  refine r_put dX12_out_2 fkX12_101 rfl rfl rfl (Nat.le_of_ble_eq_true rfl) rfl rfl ?_
  refine r_p (pc2 := 6) dX12_out_5 rfl rfl ?_
  refine r_p (pc2 := 7) dX12_out_6 rfl rfl ?_
  refine r_cl (x := 0) dX12_out_7 rfl ?_
  refine r_kl dX12_out_8 klX12_266 ?_
  refine r_cs (d1 := 1) dX12_out_11 csX12_111 rfl rfl (Nat.le_of_ble_eq_true rfl) (Nat.le_of_ble_eq_true rfl) (Nat.le_of_ble_eq_true rfl) (c_m_in ((p0 : Int32).toInt64) 0 60) ?_
  refine r_ine dX12_out_14 rfl (fun c14_1 => ?_) (fun c14_1 => ?_)
  · refine r_in (R := rI) c14_1 ?_
    refine r_p (pc2 := 21) dX12_out_20 rfl rfl ?_
    refine r_get dX12_out_21 fkX12_221 rfl rfl ?_
    refine r_ieq dX12_out_24 rfl (fun c24_2 => ?_) (fun c24_2 => ?_)
    · refine r_ip (R := rI) c24_2 ?_
      refine r_k dX12_out_36 kkX12_253 ?_
      exact r_qI dX12_out_38 rfl rfl rfl rfl
    · refine r_in (R := rI) c24_2 ?_
      refine r_p (pc2 := 28) dX12_out_27 rfl rfl ?_
      refine r_get dX12_out_28 fkX12_19 rfl rfl ?_
      refine r_ci (x := 1) dX12_out_31 rfl ?_
      refine r_ia dX12_out_32 rfl (in_c (by decide)) ?_
      refine r_ine dX12_out_33 rfl (fun c33_3 => ?_) (fun c33_3 => ?_)
      · refine r_in (R := rI) c33_3 ?_
        refine r_p (pc2 := 40) dX12_out_39 rfl rfl ?_
        refine r_get dX12_out_40 fkX12_19 rfl rfl ?_
        refine r_csi (x := 203) dX12_out_43 rfl ?_
        refine r_p (pc2 := 47) dX12_out_46 rfl rfl ?_
        refine r_ias dX12_out_47 rfl (in_c (by decide)) ?_
        refine r_p (pc2 := 49) dX12_out_48 rfl rfl ?_
        refine r_cv (d1 := 1) dX12_out_49 cvX12_225 rfl rfl rfl rfl (Nat.le_of_ble_eq_true rfl) (Nat.le_of_ble_eq_true rfl) (Nat.le_of_ble_eq_true rfl) (c_m_forget ) ?_
        refine r_ci (x := 1) dX12_out_52 rfl ?_
        exact r_qI dX12_out_53 rfl rfl rfl rfl
      · refine r_ip (R := rI) c33_3 ?_
        refine r_k dX12_out_36 kkX12_253 ?_
        exact r_qI dX12_out_38 rfl rfl rfl rfl
  · refine r_ip (R := rI) c14_1 ?_
    refine r_k dX12_out_17 kkX12_121 ?_
    exact r_qI dX12_out_19 rfl rfl rfl rfl
def x_m_isFirst (T : St) (p0 : Int32) : Int32 := if p0 = 0 then (1) else (if (x_m_dishBy T (T.2.2.1 594 (p0 : Int32).toNatClampNeg)) = (x_m_dishBy T (T.2.2.1 594 (p0 - 1 : Int32).toNatClampNeg)) then (0) else (1))
def ok_m_isFirst (T : St) (p0 : Int32) : Prop := (¬ p0 = 0 → (vp_in p0 12) ∧ (ok_m_dishBy T (T.2.2.1 594 (p0 : Int32).toNatClampNeg)) ∧ (vp_in (p0 - 1) 12) ∧ (ok_m_dishBy T (T.2.2.1 594 (p0 - 1 : Int32).toNatClampNeg)) ∧ True)
theorem c_m_isFirst {X : Nat × (Nat → Int32)} {T : St} (p0 : Int32) (kk : ok_m_isFirst T p0) : tC X 3 mX12_isFirst [.ref (571 : Nat), .int p0] T (some (.int (x_m_isFirst T p0))) T := by
  unfold ok_m_isFirst at kk
  refine tC_orIp (L := [some (.ref (571 : Nat)), some (.int p0)]) (x_m_isFirst T p0) rfl ?_
  unfold x_m_isFirst
  refine r_p (pc2 := 1) dX12_isFirst_0 rfl rfl ?_
  refine r_ieq dX12_isFirst_1 rfl (fun c1_1 => ?_) (fun c1_1 => ?_)
  · refine r_ip (R := (rIp T)) c1_1 ?_
    refine r_ci (x := 1) dX12_isFirst_29 rfl ?_
    refine r_go dX12_isFirst_30 rfl ?_
    exact r_qIp dX12_isFirst_34 rfl rfl rfl
  · refine r_in (R := (rIp T)) c1_1 ?_
    have kk := kk c1_1
    refine r_p (pc2 := 5) dX12_isFirst_4 rfl rfl ?_
    refine r_p (pc2 := 6) dX12_isFirst_5 rfl rfl ?_
    refine r_get dX12_isFirst_6 fkX12_76 rfl rfl ?_
    refine r_p (pc2 := 10) dX12_isFirst_9 rfl rfl ?_
    obtain ⟨q1, kk⟩ := kk
    refine r_ia dX12_isFirst_10 rfl q1 ?_
    obtain ⟨q2, kk⟩ := kk
    refine r_cv (d1 := 2) dX12_isFirst_11 cvX12_328 rfl rfl rfl rfl (Nat.le_of_ble_eq_true rfl) (Nat.le_of_ble_eq_true rfl) (Nat.le_of_ble_eq_true rfl) (c_m_dishBy (T.2.2.1 594 (p0 : Int32).toNatClampNeg) q2) ?_
    refine r_p (pc2 := 15) dX12_isFirst_14 rfl rfl ?_
    refine r_p (pc2 := 16) dX12_isFirst_15 rfl rfl ?_
    refine r_get dX12_isFirst_16 fkX12_76 rfl rfl ?_
    refine r_p (pc2 := 20) dX12_isFirst_19 rfl rfl ?_
    refine r_ci (x := 1) dX12_isFirst_20 rfl ?_
    refine r_p (pc2 := 22) dX12_isFirst_21 rfl rfl ?_
    obtain ⟨q3, kk⟩ := kk
    refine r_ia dX12_isFirst_22 rfl q3 ?_
    obtain ⟨q4, kk⟩ := kk
    refine r_cv (d1 := 2) dX12_isFirst_23 cvX12_328 rfl rfl rfl rfl (Nat.le_of_ble_eq_true rfl) (Nat.le_of_ble_eq_true rfl) (Nat.le_of_ble_eq_true rfl) (c_m_dishBy (T.2.2.1 594 (p0 - 1 : Int32).toNatClampNeg) q4) ?_
    refine r_ceq dX12_isFirst_26 rfl (fun c26_2 => ?_) (fun c26_2 => ?_)
    · refine r_ip (R := (rIp T)) c26_2 ?_
      refine r_ci (x := 0) dX12_isFirst_33 rfl ?_
      exact r_qIp dX12_isFirst_34 rfl rfl rfl
    · refine r_in (R := (rIp T)) c26_2 ?_
      refine r_ci (x := 1) dX12_isFirst_29 rfl ?_
      refine r_go dX12_isFirst_30 rfl ?_
      exact r_qIp dX12_isFirst_34 rfl rfl rfl
theorem b_m_isFirst (T : St) (p0 : Int32) : x_m_isFirst T p0 = 0 ∨ x_m_isFirst T p0 = 1 := by
  unfold x_m_isFirst
  try simp only [jn]
  repeat' split
  all_goals (first | exact Or.inl rfl | exact Or.inr rfl)
def x_m_isLast (T : St) (p0 : Int32) : Int32 := if p0 = ((T.1 571 39) - 1) then (1) else (if (x_m_dishBy T (T.2.2.1 594 (p0 : Int32).toNatClampNeg)) = (x_m_dishBy T (T.2.2.1 594 (p0 + 1 : Int32).toNatClampNeg)) then (0) else (1))
def ok_m_isLast (T : St) (p0 : Int32) : Prop := (¬ p0 = ((T.1 571 39) - 1) → (vp_in p0 12) ∧ (ok_m_dishBy T (T.2.2.1 594 (p0 : Int32).toNatClampNeg)) ∧ (vp_in (p0 + 1) 12) ∧ (ok_m_dishBy T (T.2.2.1 594 (p0 + 1 : Int32).toNatClampNeg)) ∧ True)
theorem c_m_isLast {X : Nat × (Nat → Int32)} {T : St} (p0 : Int32) (kk : ok_m_isLast T p0) : tC X 3 mX12_isLast [.ref (571 : Nat), .int p0] T (some (.int (x_m_isLast T p0))) T := by
  unfold ok_m_isLast at kk
  refine tC_orIp (L := [some (.ref (571 : Nat)), some (.int p0)]) (x_m_isLast T p0) rfl ?_
  unfold x_m_isLast
  refine r_p (pc2 := 1) dX12_isLast_0 rfl rfl ?_
  refine r_p (pc2 := 2) dX12_isLast_1 rfl rfl ?_
  refine r_get dX12_isLast_2 fkX12_302 rfl rfl ?_
  refine r_ci (x := 1) dX12_isLast_5 rfl ?_
  refine r_p (pc2 := 7) dX12_isLast_6 rfl rfl ?_
  refine r_ceq dX12_isLast_7 rfl (fun c7_1 => ?_) (fun c7_1 => ?_)
  · refine r_ip (R := (rIp T)) c7_1 ?_
    refine r_ci (x := 1) dX12_isLast_35 rfl ?_
    refine r_go dX12_isLast_36 rfl ?_
    exact r_qIp dX12_isLast_40 rfl rfl rfl
  · refine r_in (R := (rIp T)) c7_1 ?_
    have kk := kk c7_1
    refine r_p (pc2 := 11) dX12_isLast_10 rfl rfl ?_
    refine r_p (pc2 := 12) dX12_isLast_11 rfl rfl ?_
    refine r_get dX12_isLast_12 fkX12_76 rfl rfl ?_
    refine r_p (pc2 := 16) dX12_isLast_15 rfl rfl ?_
    obtain ⟨q1, kk⟩ := kk
    refine r_ia dX12_isLast_16 rfl q1 ?_
    obtain ⟨q2, kk⟩ := kk
    refine r_cv (d1 := 2) dX12_isLast_17 cvX12_328 rfl rfl rfl rfl (Nat.le_of_ble_eq_true rfl) (Nat.le_of_ble_eq_true rfl) (Nat.le_of_ble_eq_true rfl) (c_m_dishBy (T.2.2.1 594 (p0 : Int32).toNatClampNeg) q2) ?_
    refine r_p (pc2 := 21) dX12_isLast_20 rfl rfl ?_
    refine r_p (pc2 := 22) dX12_isLast_21 rfl rfl ?_
    refine r_get dX12_isLast_22 fkX12_76 rfl rfl ?_
    refine r_p (pc2 := 26) dX12_isLast_25 rfl rfl ?_
    refine r_ci (x := 1) dX12_isLast_26 rfl ?_
    refine r_p (pc2 := 28) dX12_isLast_27 rfl rfl ?_
    obtain ⟨q3, kk⟩ := kk
    refine r_ia dX12_isLast_28 rfl q3 ?_
    obtain ⟨q4, kk⟩ := kk
    refine r_cv (d1 := 2) dX12_isLast_29 cvX12_328 rfl rfl rfl rfl (Nat.le_of_ble_eq_true rfl) (Nat.le_of_ble_eq_true rfl) (Nat.le_of_ble_eq_true rfl) (c_m_dishBy (T.2.2.1 594 (p0 + 1 : Int32).toNatClampNeg) q4) ?_
    refine r_ceq dX12_isLast_32 rfl (fun c32_2 => ?_) (fun c32_2 => ?_)
    · refine r_ip (R := (rIp T)) c32_2 ?_
      refine r_ci (x := 0) dX12_isLast_39 rfl ?_
      exact r_qIp dX12_isLast_40 rfl rfl rfl
    · refine r_in (R := (rIp T)) c32_2 ?_
      refine r_ci (x := 1) dX12_isLast_35 rfl ?_
      refine r_go dX12_isLast_36 rfl ?_
      exact r_qIp dX12_isLast_40 rfl rfl rfl
theorem b_m_isLast (T : St) (p0 : Int32) : x_m_isLast T p0 = 0 ∨ x_m_isLast T p0 = 1 := by
  unfold x_m_isLast
  try simp only [jn]
  repeat' split
  all_goals (first | exact Or.inl rfl | exact Or.inr rfl)
def x_m_judged_2 (l1 : Int32) (K : Int32 → St → Int32 × St) : Nat → Int32 → St → Int32 × St
  | 0, _, T => (0, T)
  | f + 1, v2, T => if (T.1 571 39) ≤ v2 then (K v2 T) else (jn (fun (KJ1 : Int32 × St) => if (T.2.2.1 595 (v2 : Int32).toNatClampNeg) < 0 then (KJ1) else (if 59 < (T.2.2.1 595 (v2 : Int32).toNatClampNeg) then (KJ1) else (if (x_m_endOf T v2) ≤ 60 then (x_m_judged_2 l1 K f (v2 + 1) T) else (KJ1)))) ((1 + (10 * v2), T)))
def ok_m_judged_2 (l1 : Int32) (Kk : Int32 → St → Prop) : Nat → Int32 → St → Prop
  | 0, _, _ => False
  | f + 1, v2, T => (((T.1 571 39) ≤ v2 → Kk v2 T) ∧ (¬ (T.1 571 39) ≤ v2 → (vp_in v2 12) ∧ (¬ (T.2.2.1 595 (v2 : Int32).toNatClampNeg) < 0 → (¬ 59 < (T.2.2.1 595 (v2 : Int32).toNatClampNeg) → (ok_m_endOf T v2) ∧ ((x_m_endOf T v2) ≤ 60 → ok_m_judged_2 l1 Kk f (v2 + 1) T)))))
theorem c_m_judged_2 {X : Nat × (Nat → Int32)} (l1 : Int32) {K : Int32 → St → Int32 × St} {Kk : Int32 → St → Prop} (hk : ∀ (v2 : Int32) (T : St), Kk v2 T → tR X 3 mX12_judged 53 [some (.ref (571 : Nat)), some (.int l1), some (.int v2), none] [] T (rI (K v2 T)).1 ((rI (K v2 T)).2)) : ∀ (f : Nat) (v2 : Int32) (T : St), ok_m_judged_2 l1 Kk f v2 T → tR X 3 mX12_judged 2 [some (.ref (571 : Nat)), some (.int l1), some (.int v2), none] [] T (rI (x_m_judged_2 l1 K f v2 T)).1 ((rI (x_m_judged_2 l1 K f v2 T)).2) := by
  intro f
  induction f with
  | zero => intro v2 T kk; exact kk.elim
  | succ f ih =>
    intro v2 T kk
    rw [ok_m_judged_2] at kk
    rw [x_m_judged_2]
    refine r_p (pc2 := 3) dX12_judged_2 rfl rfl ?_
    refine r_p (pc2 := 4) dX12_judged_3 rfl rfl ?_
    refine r_get dX12_judged_4 fkX12_302 rfl rfl ?_
    refine r_cge dX12_judged_7 rfl (fun c7_1 => ?_) (fun c7_1 => ?_)
    · refine r_ip (R := rI) c7_1 ?_
      have kk := kk.1 c7_1
      show tR _ _ _ _ [some (.ref (571 : Nat)), some (.int l1), some (.int v2), none] _ _ _ _
      exact (hk v2 T kk)
    · refine r_in (R := rI) c7_1 ?_
      have kk := kk.2 c7_1
      refine r_p (pc2 := 11) dX12_judged_10 rfl rfl ?_
      refine r_get dX12_judged_11 fkX12_79 rfl rfl ?_
      refine r_p (pc2 := 15) dX12_judged_14 rfl rfl ?_
      obtain ⟨q1, kk⟩ := kk
      refine r_ia dX12_judged_15 rfl q1 ?_
      refine r_jn0 (R := rI) (J := fun (KJ1 : Int32 × St) => tR X 3 mX12_judged 40 [some (.ref (571 : Nat)), some (.int l1), some (.int v2), none] [] T (rI KJ1).1 (rI KJ1).2) (?_) (fun KJ1 hJ1 => ?_)
      · skip
        refine r_ci (x := 1) dX12_judged_40 rfl ?_
        refine r_cb (x := 10) dX12_judged_41 rfl ?_
        refine r_p (pc2 := 44) dX12_judged_43 rfl rfl ?_
        refine r_p (pc2 := 45) dX12_judged_44 rfl rfl ?_
        refine r_p (pc2 := 46) dX12_judged_45 rfl rfl ?_
        exact r_qI dX12_judged_46 rfl rfl rfl rfl
      refine r_ilt dX12_judged_16 rfl (fun c16_5 => ?_) (fun c16_5 => ?_)
      · refine r_ip (R := rI) c16_5 ?_
        show tR _ _ _ _ [some (.ref (571 : Nat)), some (.int l1), some (.int v2), none] [] _ _ _
        exact (hJ1 )
      · refine r_in (R := rI) c16_5 ?_
        have kk := kk c16_5
        refine r_p (pc2 := 20) dX12_judged_19 rfl rfl ?_
        refine r_get dX12_judged_20 fkX12_79 rfl rfl ?_
        refine r_p (pc2 := 24) dX12_judged_23 rfl rfl ?_
        refine r_ia dX12_judged_24 rfl q1 ?_
        refine r_cb (x := 59) dX12_judged_25 rfl ?_
        refine r_cgt dX12_judged_27 rfl (fun c27_6 => ?_) (fun c27_6 => ?_)
        · refine r_ip (R := rI) c27_6 ?_
          show tR _ _ _ _ [some (.ref (571 : Nat)), some (.int l1), some (.int v2), none] [] _ _ _
          exact (hJ1 )
        · refine r_in (R := rI) c27_6 ?_
          have kk := kk c27_6
          refine r_p (pc2 := 31) dX12_judged_30 rfl rfl ?_
          refine r_p (pc2 := 32) dX12_judged_31 rfl rfl ?_
          obtain ⟨q3, kk⟩ := kk
          refine r_cv (d1 := 2) dX12_judged_32 cvX12_331 rfl rfl rfl rfl (Nat.le_of_ble_eq_true rfl) (Nat.le_of_ble_eq_true rfl) (Nat.le_of_ble_eq_true rfl) (c_m_endOf v2 q3) ?_
          refine r_cb (x := 60) dX12_judged_35 rfl ?_
          refine r_cle dX12_judged_37 rfl (fun c37_7 => ?_) (fun c37_7 => ?_)
          · refine r_ip (R := rI) c37_7 ?_
            have kk := kk c37_7
            refine r_inc (L2 := [some (.ref (571 : Nat)), some (.int l1), some (.int (v2 + 1)), none]) (y := 1) dX12_judged_47 rfl rfl rfl ?_
            refine r_go dX12_judged_50 rfl ?_
            show tR _ _ _ _ [some (.ref (571 : Nat)), some (.int l1), some (.int (v2 + 1)), none] _ _ _ _
            exact (ih (v2 + 1) T kk)
          · refine r_in (R := rI) c37_7 ?_
            show tR _ _ _ _ [some (.ref (571 : Nat)), some (.int l1), some (.int v2), none] [] _ _ _
            exact (hJ1 )
def x_m_judged_55 (l1 : Int32) (K : Int32 → St → Int32 × St) : Nat → Int32 → St → Int32 × St
  | 0, _, T => (0, T)
  | f + 1, v2, T => if (T.1 571 39) ≤ v2 then (K v2 T) else (if (x_m_isFirst T v2) = 0 then (if (x_m_in T (((T.2.2.1 595 (v2 : Int32).toNatClampNeg) - (x_m_endOf T (v2 - 1)) : Int32).toInt64) 0 ((x_m_stepOf T (T.2.2.1 594 (v2 - 1 : Int32).toNatClampNeg) 2 : Int32).toInt64)) = 0 then (2 + (10 * v2), T) else (x_m_judged_55 l1 K f (v2 + 1) T)) else (x_m_judged_55 l1 K f (v2 + 1) T))
def ok_m_judged_55 (l1 : Int32) (Kk : Int32 → St → Prop) : Nat → Int32 → St → Prop
  | 0, _, _ => False
  | f + 1, v2, T => (((T.1 571 39) ≤ v2 → Kk v2 T) ∧ (¬ (T.1 571 39) ≤ v2 → (ok_m_isFirst T v2) ∧ (((x_m_isFirst T v2) = 0 → (vp_in v2 12) ∧ (ok_m_endOf T (v2 - 1)) ∧ (vp_in (v2 - 1) 12) ∧ (ok_m_stepOf T (T.2.2.1 594 (v2 - 1 : Int32).toNatClampNeg) 2) ∧ (¬ (x_m_in T (((T.2.2.1 595 (v2 : Int32).toNatClampNeg) - (x_m_endOf T (v2 - 1)) : Int32).toInt64) 0 ((x_m_stepOf T (T.2.2.1 594 (v2 - 1 : Int32).toNatClampNeg) 2 : Int32).toInt64)) = 0 → ok_m_judged_55 l1 Kk f (v2 + 1) T)) ∧ (¬ (x_m_isFirst T v2) = 0 → ok_m_judged_55 l1 Kk f (v2 + 1) T))))
theorem c_m_judged_55 {X : Nat × (Nat → Int32)} (l1 : Int32) {K : Int32 → St → Int32 × St} {Kk : Int32 → St → Prop} (hk : ∀ (v2 : Int32) (T : St), Kk v2 T → tR X 3 mX12_judged 120 [some (.ref (571 : Nat)), some (.int l1), some (.int v2), none] [] T (rI (K v2 T)).1 ((rI (K v2 T)).2)) : ∀ (f : Nat) (v2 : Int32) (T : St), ok_m_judged_55 l1 Kk f v2 T → tR X 3 mX12_judged 55 [some (.ref (571 : Nat)), some (.int l1), some (.int v2), none] [] T (rI (x_m_judged_55 l1 K f v2 T)).1 ((rI (x_m_judged_55 l1 K f v2 T)).2) := by
  intro f
  induction f with
  | zero => intro v2 T kk; exact kk.elim
  | succ f ih =>
    intro v2 T kk
    rw [ok_m_judged_55] at kk
    rw [x_m_judged_55]
    refine r_p (pc2 := 56) dX12_judged_55 rfl rfl ?_
    refine r_p (pc2 := 57) dX12_judged_56 rfl rfl ?_
    refine r_get dX12_judged_57 fkX12_302 rfl rfl ?_
    refine r_cge dX12_judged_60 rfl (fun c60_8 => ?_) (fun c60_8 => ?_)
    · refine r_ip (R := rI) c60_8 ?_
      have kk := kk.1 c60_8
      show tR _ _ _ _ [some (.ref (571 : Nat)), some (.int l1), some (.int v2), none] _ _ _ _
      exact (hk v2 T kk)
    · refine r_in (R := rI) c60_8 ?_
      have kk := kk.2 c60_8
      refine r_p (pc2 := 64) dX12_judged_63 rfl rfl ?_
      refine r_p (pc2 := 65) dX12_judged_64 rfl rfl ?_
      obtain ⟨q4, kk⟩ := kk
      refine r_cv (d1 := 3) dX12_judged_65 cvX12_334 rfl rfl rfl rfl (Nat.le_of_ble_eq_true rfl) (Nat.le_of_ble_eq_true rfl) (Nat.le_of_ble_eq_true rfl) (c_m_isFirst v2 q4) ?_
      refine r_ine dX12_judged_68 rfl (fun c68_9 => ?_) (fun c68_9 => ?_)
      · refine r_in (R := rI) c68_9 ?_
        have kk := kk.2 c68_9
        refine r_inc (L2 := [some (.ref (571 : Nat)), some (.int l1), some (.int (v2 + 1)), none]) (y := 1) dX12_judged_114 rfl rfl rfl ?_
        refine r_go dX12_judged_117 rfl ?_
        show tR _ _ _ _ [some (.ref (571 : Nat)), some (.int l1), some (.int (v2 + 1)), none] _ _ _ _
        exact (ih (v2 + 1) T kk)
      · refine r_ip (R := rI) c68_9 ?_
        have kk := kk.1 c68_9
        refine r_p (pc2 := 72) dX12_judged_71 rfl rfl ?_
        refine r_get dX12_judged_72 fkX12_79 rfl rfl ?_
        refine r_p (pc2 := 76) dX12_judged_75 rfl rfl ?_
        obtain ⟨q5, kk⟩ := kk
        refine r_ia dX12_judged_76 rfl q5 ?_
        refine r_p (pc2 := 78) dX12_judged_77 rfl rfl ?_
        refine r_p (pc2 := 79) dX12_judged_78 rfl rfl ?_
        refine r_ci (x := 1) dX12_judged_79 rfl ?_
        refine r_p (pc2 := 81) dX12_judged_80 rfl rfl ?_
        obtain ⟨q6, kk⟩ := kk
        refine r_cv (d1 := 2) dX12_judged_81 cvX12_331 rfl rfl rfl rfl (Nat.le_of_ble_eq_true rfl) (Nat.le_of_ble_eq_true rfl) (Nat.le_of_ble_eq_true rfl) (c_m_endOf (v2 - 1) q6) ?_
        refine r_p (pc2 := 85) dX12_judged_84 rfl rfl ?_
        refine r_p (pc2 := 86) dX12_judged_85 rfl rfl ?_
        refine r_cl (x := 0) dX12_judged_86 rfl ?_
        refine r_p (pc2 := 88) dX12_judged_87 rfl rfl ?_
        refine r_p (pc2 := 89) dX12_judged_88 rfl rfl ?_
        refine r_get dX12_judged_89 fkX12_76 rfl rfl ?_
        refine r_p (pc2 := 93) dX12_judged_92 rfl rfl ?_
        refine r_ci (x := 1) dX12_judged_93 rfl ?_
        refine r_p (pc2 := 95) dX12_judged_94 rfl rfl ?_
        obtain ⟨q7, kk⟩ := kk
        refine r_ia dX12_judged_95 rfl q7 ?_
        refine r_ci (x := 2) dX12_judged_96 rfl ?_
        obtain ⟨q8, kk⟩ := kk
        refine r_cv (d1 := 1) dX12_judged_97 cvX12_232 rfl rfl rfl rfl (Nat.le_of_ble_eq_true rfl) (Nat.le_of_ble_eq_true rfl) (Nat.le_of_ble_eq_true rfl) (c_m_stepOf (T.2.2.1 594 (v2 - 1 : Int32).toNatClampNeg) 2 q8) ?_
        refine r_p (pc2 := 101) dX12_judged_100 rfl rfl ?_
        refine r_cs (d1 := 1) dX12_judged_101 csX12_111 rfl rfl (Nat.le_of_ble_eq_true rfl) (Nat.le_of_ble_eq_true rfl) (Nat.le_of_ble_eq_true rfl) (c_m_in (((T.2.2.1 595 (v2 : Int32).toNatClampNeg) - (x_m_endOf T (v2 - 1)) : Int32).toInt64) 0 ((x_m_stepOf T (T.2.2.1 594 (v2 - 1 : Int32).toNatClampNeg) 2 : Int32).toInt64)) ?_
        refine r_ine dX12_judged_104 rfl (fun c104_10 => ?_) (fun c104_10 => ?_)
        · refine r_in (R := rI) c104_10 ?_
          have kk := kk c104_10
          refine r_inc (L2 := [some (.ref (571 : Nat)), some (.int l1), some (.int (v2 + 1)), none]) (y := 1) dX12_judged_114 rfl rfl rfl ?_
          refine r_go dX12_judged_117 rfl ?_
          show tR _ _ _ _ [some (.ref (571 : Nat)), some (.int l1), some (.int (v2 + 1)), none] _ _ _ _
          exact (ih (v2 + 1) T kk)
        · refine r_ip (R := rI) c104_10 ?_
          refine r_ci (x := 2) dX12_judged_107 rfl ?_
          refine r_cb (x := 10) dX12_judged_108 rfl ?_
          refine r_p (pc2 := 111) dX12_judged_110 rfl rfl ?_
          refine r_p (pc2 := 112) dX12_judged_111 rfl rfl ?_
          refine r_p (pc2 := 113) dX12_judged_112 rfl rfl ?_
          exact r_qI dX12_judged_113 rfl rfl rfl rfl
def x_m_judged_122 (l1 : Int32) (K : Int32 → St → Int32 × St) : Nat → Int32 → St → Int32 × St
  | 0, _, T => (0, T)
  | f + 1, v2, T => if (T.1 571 39) ≤ v2 then (K v2 T) else (if (x_m_isLast T v2) = 0 then (x_m_judged_122 l1 K f (v2 + 1) T) else (if (x_m_in T ((l1 - (x_m_endOf T v2) : Int32).toInt64) 0 ((x_m_dishOf T (x_m_dishBy T (T.2.2.1 594 (v2 : Int32).toNatClampNeg)) 0 : Int32).toInt64)) = 0 then (3 + (10 * v2), T) else (x_m_judged_122 l1 K f (v2 + 1) T)))
def ok_m_judged_122 (l1 : Int32) (Kk : Int32 → St → Prop) : Nat → Int32 → St → Prop
  | 0, _, _ => False
  | f + 1, v2, T => (((T.1 571 39) ≤ v2 → Kk v2 T) ∧ (¬ (T.1 571 39) ≤ v2 → (ok_m_isLast T v2) ∧ (((x_m_isLast T v2) = 0 → ok_m_judged_122 l1 Kk f (v2 + 1) T) ∧ (¬ (x_m_isLast T v2) = 0 → (ok_m_endOf T v2) ∧ (vp_in v2 12) ∧ (ok_m_dishBy T (T.2.2.1 594 (v2 : Int32).toNatClampNeg)) ∧ (ok_m_dishOf T (x_m_dishBy T (T.2.2.1 594 (v2 : Int32).toNatClampNeg)) 0) ∧ (¬ (x_m_in T ((l1 - (x_m_endOf T v2) : Int32).toInt64) 0 ((x_m_dishOf T (x_m_dishBy T (T.2.2.1 594 (v2 : Int32).toNatClampNeg)) 0 : Int32).toInt64)) = 0 → ok_m_judged_122 l1 Kk f (v2 + 1) T)))))
theorem c_m_judged_122 {X : Nat × (Nat → Int32)} (l1 : Int32) {K : Int32 → St → Int32 × St} {Kk : Int32 → St → Prop} (hk : ∀ (v2 : Int32) (T : St), Kk v2 T → tR X 3 mX12_judged 182 [some (.ref (571 : Nat)), some (.int l1), some (.int v2), none] [] T (rI (K v2 T)).1 ((rI (K v2 T)).2)) : ∀ (f : Nat) (v2 : Int32) (T : St), ok_m_judged_122 l1 Kk f v2 T → tR X 3 mX12_judged 122 [some (.ref (571 : Nat)), some (.int l1), some (.int v2), none] [] T (rI (x_m_judged_122 l1 K f v2 T)).1 ((rI (x_m_judged_122 l1 K f v2 T)).2) := by
  intro f
  induction f with
  | zero => intro v2 T kk; exact kk.elim
  | succ f ih =>
    intro v2 T kk
    rw [ok_m_judged_122] at kk
    rw [x_m_judged_122]
    refine r_p (pc2 := 123) dX12_judged_122 rfl rfl ?_
    refine r_p (pc2 := 124) dX12_judged_123 rfl rfl ?_
    refine r_get dX12_judged_124 fkX12_302 rfl rfl ?_
    refine r_cge dX12_judged_127 rfl (fun c127_11 => ?_) (fun c127_11 => ?_)
    · refine r_ip (R := rI) c127_11 ?_
      have kk := kk.1 c127_11
      show tR _ _ _ _ [some (.ref (571 : Nat)), some (.int l1), some (.int v2), none] _ _ _ _
      exact (hk v2 T kk)
    · refine r_in (R := rI) c127_11 ?_
      have kk := kk.2 c127_11
      refine r_p (pc2 := 131) dX12_judged_130 rfl rfl ?_
      refine r_p (pc2 := 132) dX12_judged_131 rfl rfl ?_
      obtain ⟨q9, kk⟩ := kk
      refine r_cv (d1 := 3) dX12_judged_132 cvX12_337 rfl rfl rfl rfl (Nat.le_of_ble_eq_true rfl) (Nat.le_of_ble_eq_true rfl) (Nat.le_of_ble_eq_true rfl) (c_m_isLast v2 q9) ?_
      refine r_ieq dX12_judged_135 rfl (fun c135_12 => ?_) (fun c135_12 => ?_)
      · refine r_ip (R := rI) c135_12 ?_
        have kk := kk.1 c135_12
        refine r_inc (L2 := [some (.ref (571 : Nat)), some (.int l1), some (.int (v2 + 1)), none]) (y := 1) dX12_judged_176 rfl rfl rfl ?_
        refine r_go dX12_judged_179 rfl ?_
        show tR _ _ _ _ [some (.ref (571 : Nat)), some (.int l1), some (.int (v2 + 1)), none] _ _ _ _
        exact (ih (v2 + 1) T kk)
      · refine r_in (R := rI) c135_12 ?_
        have kk := kk.2 c135_12
        refine r_p (pc2 := 139) dX12_judged_138 rfl rfl ?_
        refine r_p (pc2 := 140) dX12_judged_139 rfl rfl ?_
        refine r_p (pc2 := 141) dX12_judged_140 rfl rfl ?_
        obtain ⟨q10, kk⟩ := kk
        refine r_cv (d1 := 2) dX12_judged_141 cvX12_331 rfl rfl rfl rfl (Nat.le_of_ble_eq_true rfl) (Nat.le_of_ble_eq_true rfl) (Nat.le_of_ble_eq_true rfl) (c_m_endOf v2 q10) ?_
        refine r_p (pc2 := 145) dX12_judged_144 rfl rfl ?_
        refine r_p (pc2 := 146) dX12_judged_145 rfl rfl ?_
        refine r_cl (x := 0) dX12_judged_146 rfl ?_
        refine r_p (pc2 := 148) dX12_judged_147 rfl rfl ?_
        refine r_p (pc2 := 149) dX12_judged_148 rfl rfl ?_
        refine r_p (pc2 := 150) dX12_judged_149 rfl rfl ?_
        refine r_get dX12_judged_150 fkX12_76 rfl rfl ?_
        refine r_p (pc2 := 154) dX12_judged_153 rfl rfl ?_
        obtain ⟨q11, kk⟩ := kk
        refine r_ia dX12_judged_154 rfl q11 ?_
        obtain ⟨q12, kk⟩ := kk
        refine r_cv (d1 := 2) dX12_judged_155 cvX12_328 rfl rfl rfl rfl (Nat.le_of_ble_eq_true rfl) (Nat.le_of_ble_eq_true rfl) (Nat.le_of_ble_eq_true rfl) (c_m_dishBy (T.2.2.1 594 (v2 : Int32).toNatClampNeg) q12) ?_
        refine r_ci (x := 0) dX12_judged_158 rfl ?_
        obtain ⟨q13, kk⟩ := kk
        refine r_cv (d1 := 1) dX12_judged_159 cvX12_228 rfl rfl rfl rfl (Nat.le_of_ble_eq_true rfl) (Nat.le_of_ble_eq_true rfl) (Nat.le_of_ble_eq_true rfl) (c_m_dishOf (x_m_dishBy T (T.2.2.1 594 (v2 : Int32).toNatClampNeg)) 0 q13) ?_
        refine r_p (pc2 := 163) dX12_judged_162 rfl rfl ?_
        refine r_cs (d1 := 1) dX12_judged_163 csX12_111 rfl rfl (Nat.le_of_ble_eq_true rfl) (Nat.le_of_ble_eq_true rfl) (Nat.le_of_ble_eq_true rfl) (c_m_in ((l1 - (x_m_endOf T v2) : Int32).toInt64) 0 ((x_m_dishOf T (x_m_dishBy T (T.2.2.1 594 (v2 : Int32).toNatClampNeg)) 0 : Int32).toInt64)) ?_
        refine r_ine dX12_judged_166 rfl (fun c166_13 => ?_) (fun c166_13 => ?_)
        · refine r_in (R := rI) c166_13 ?_
          have kk := kk c166_13
          refine r_inc (L2 := [some (.ref (571 : Nat)), some (.int l1), some (.int (v2 + 1)), none]) (y := 1) dX12_judged_176 rfl rfl rfl ?_
          refine r_go dX12_judged_179 rfl ?_
          show tR _ _ _ _ [some (.ref (571 : Nat)), some (.int l1), some (.int (v2 + 1)), none] _ _ _ _
          exact (ih (v2 + 1) T kk)
        · refine r_ip (R := rI) c166_13 ?_
          refine r_ci (x := 3) dX12_judged_169 rfl ?_
          refine r_cb (x := 10) dX12_judged_170 rfl ?_
          refine r_p (pc2 := 173) dX12_judged_172 rfl rfl ?_
          refine r_p (pc2 := 174) dX12_judged_173 rfl rfl ?_
          refine r_p (pc2 := 175) dX12_judged_174 rfl rfl ?_
          exact r_qI dX12_judged_175 rfl rfl rfl rfl
def x_m_judged_190 (l1 : Int32) (K : Int32 → Int32 → St → Int32 × St) : Nat → Int32 → Int32 → St → Int32 × St
  | 0, _, _, T => (0, T)
  | f + 1, v2, v3, T => if (T.1 571 39) ≤ v3 then (K v2 v3 T) else (jn (fun (T1 : St) => jn (fun (KJ2 : Int32 → Int32 × St) => if (x_m_isFirst T1 v3) = 0 then (KJ2 v2) else (KJ2 (T1.2.2.1 595 (v3 : Int32).toNatClampNeg))) (fun (j2_s0 : Int32) => if (x_m_isLast T1 v3) = 0 then (x_m_judged_190 l1 K f j2_s0 (v3 + 1) T1) else (if (x_m_dishOf T1 (x_m_dishBy T1 (T1.2.2.1 594 (v3 : Int32).toNatClampNeg)) 2) = 1 then (x_m_judged_190 l1 K f j2_s0 (v3 + 1) (x_m_addPan T1 0 j2_s0 (x_m_endOf T1 v3))) else (x_m_judged_190 l1 K f j2_s0 (v3 + 1) T1)))) (x_m_addStep T 0 (T.2.2.1 594 (v3 : Int32).toNatClampNeg) (T.2.2.1 595 (v3 : Int32).toNatClampNeg) ((x_m_endOf T v3) - (T.2.2.1 595 (v3 : Int32).toNatClampNeg))))
def ok_m_judged_190 (l1 : Int32) (Kk : Int32 → Int32 → St → Prop) : Nat → Int32 → Int32 → St → Prop
  | 0, _, _, _ => False
  | f + 1, v2, v3, T => (((T.1 571 39) ≤ v3 → Kk v2 v3 T) ∧ (¬ (T.1 571 39) ≤ v3 → (vp_in v3 12) ∧ (ok_m_endOf T v3) ∧ (ok_m_addStep T 0 (T.2.2.1 594 (v3 : Int32).toNatClampNeg) (T.2.2.1 595 (v3 : Int32).toNatClampNeg) ((x_m_endOf T v3) - (T.2.2.1 595 (v3 : Int32).toNatClampNeg))) ∧ jn (fun (T1 : St) => (ok_m_isFirst T1 v3) ∧ jn (fun (OJ2 : Int32 → Prop) => (((x_m_isFirst T1 v3) = 0 → OJ2 v2) ∧ (¬ (x_m_isFirst T1 v3) = 0 → OJ2 (T1.2.2.1 595 (v3 : Int32).toNatClampNeg)))) (fun (j2_s0 : Int32) => (ok_m_isLast T1 v3) ∧ (((x_m_isLast T1 v3) = 0 → ok_m_judged_190 l1 Kk f j2_s0 (v3 + 1) T1) ∧ (¬ (x_m_isLast T1 v3) = 0 → (ok_m_dishBy T1 (T1.2.2.1 594 (v3 : Int32).toNatClampNeg)) ∧ (ok_m_dishOf T1 (x_m_dishBy T1 (T1.2.2.1 594 (v3 : Int32).toNatClampNeg)) 2) ∧ (((x_m_dishOf T1 (x_m_dishBy T1 (T1.2.2.1 594 (v3 : Int32).toNatClampNeg)) 2) = 1 → (ok_m_endOf T1 v3) ∧ (ok_m_addPan T1 0 j2_s0 (x_m_endOf T1 v3)) ∧ ok_m_judged_190 l1 Kk f j2_s0 (v3 + 1) (x_m_addPan T1 0 j2_s0 (x_m_endOf T1 v3))) ∧ (¬ (x_m_dishOf T1 (x_m_dishBy T1 (T1.2.2.1 594 (v3 : Int32).toNatClampNeg)) 2) = 1 → ok_m_judged_190 l1 Kk f j2_s0 (v3 + 1) T1)))))) (x_m_addStep T 0 (T.2.2.1 594 (v3 : Int32).toNatClampNeg) (T.2.2.1 595 (v3 : Int32).toNatClampNeg) ((x_m_endOf T v3) - (T.2.2.1 595 (v3 : Int32).toNatClampNeg)))))
theorem c_m_judged_190 {X : Nat × (Nat → Int32)} (l1 : Int32) {K : Int32 → Int32 → St → Int32 × St} {Kk : Int32 → Int32 → St → Prop} (hk : ∀ (v2 : Int32) (v3 : Int32) (T : St), Kk v2 v3 T → tR X 3 mX12_judged 290 [some (.ref (571 : Nat)), some (.int l1), some (.int v2), some (.int v3)] [] T (rI (K v2 v3 T)).1 ((rI (K v2 v3 T)).2)) : ∀ (f : Nat) (v2 : Int32) (v3 : Int32) (T : St), ok_m_judged_190 l1 Kk f v2 v3 T → tR X 3 mX12_judged 190 [some (.ref (571 : Nat)), some (.int l1), some (.int v2), some (.int v3)] [] T (rI (x_m_judged_190 l1 K f v2 v3 T)).1 ((rI (x_m_judged_190 l1 K f v2 v3 T)).2) := by
  intro f
  induction f with
  | zero => intro v2 v3 T kk; exact kk.elim
  | succ f ih =>
    intro v2 v3 T kk
    rw [ok_m_judged_190] at kk
    rw [x_m_judged_190]
    refine r_p (pc2 := 191) dX12_judged_190 rfl rfl ?_
    refine r_p (pc2 := 192) dX12_judged_191 rfl rfl ?_
    refine r_get dX12_judged_192 fkX12_302 rfl rfl ?_
    refine r_cge dX12_judged_195 rfl (fun c195_14 => ?_) (fun c195_14 => ?_)
    · refine r_ip (R := rI) c195_14 ?_
      have kk := kk.1 c195_14
      show tR _ _ _ _ [some (.ref (571 : Nat)), some (.int l1), some (.int v2), some (.int v3)] _ _ _ _
      exact (hk v2 v3 T kk)
    · refine r_in (R := rI) c195_14 ?_
      have kk := kk.2 c195_14
      refine r_p (pc2 := 199) dX12_judged_198 rfl rfl ?_
      refine r_ci (x := 0) dX12_judged_199 rfl ?_
      refine r_p (pc2 := 201) dX12_judged_200 rfl rfl ?_
      refine r_get dX12_judged_201 fkX12_76 rfl rfl ?_
      refine r_p (pc2 := 205) dX12_judged_204 rfl rfl ?_
      obtain ⟨q15, kk⟩ := kk
      refine r_ia dX12_judged_205 rfl q15 ?_
      refine r_p (pc2 := 207) dX12_judged_206 rfl rfl ?_
      refine r_get dX12_judged_207 fkX12_79 rfl rfl ?_
      refine r_p (pc2 := 211) dX12_judged_210 rfl rfl ?_
      refine r_ia dX12_judged_211 rfl q15 ?_
      refine r_p (pc2 := 213) dX12_judged_212 rfl rfl ?_
      refine r_p (pc2 := 214) dX12_judged_213 rfl rfl ?_
      obtain ⟨q16, kk⟩ := kk
      refine r_cv (d1 := 2) dX12_judged_214 cvX12_331 rfl rfl rfl rfl (Nat.le_of_ble_eq_true rfl) (Nat.le_of_ble_eq_true rfl) (Nat.le_of_ble_eq_true rfl) (c_m_endOf v3 q16) ?_
      refine r_p (pc2 := 218) dX12_judged_217 rfl rfl ?_
      refine r_get dX12_judged_218 fkX12_79 rfl rfl ?_
      refine r_p (pc2 := 222) dX12_judged_221 rfl rfl ?_
      refine r_ia dX12_judged_222 rfl q15 ?_
      refine r_p (pc2 := 224) dX12_judged_223 rfl rfl ?_
      obtain ⟨q17, kk⟩ := kk
      refine r_cv (d1 := 2) dX12_judged_224 cvX12_278 rfl rfl rfl rfl (Nat.le_of_ble_eq_true rfl) (Nat.le_of_ble_eq_true rfl) (Nat.le_of_ble_eq_true rfl) (c_m_addStep 0 (T.2.2.1 594 (v3 : Int32).toNatClampNeg) (T.2.2.1 595 (v3 : Int32).toNatClampNeg) ((x_m_endOf T v3) - (T.2.2.1 595 (v3 : Int32).toNatClampNeg)) q17) ?_
      refine r_nT (R := rI) rfl kk (fun T1 kk => ?_)
      refine r_p (pc2 := 228) dX12_judged_227 rfl rfl ?_
      refine r_p (pc2 := 229) dX12_judged_228 rfl rfl ?_
      obtain ⟨q18, kk⟩ := kk
      refine r_cv (d1 := 3) dX12_judged_229 cvX12_334 rfl rfl rfl rfl (Nat.le_of_ble_eq_true rfl) (Nat.le_of_ble_eq_true rfl) (Nat.le_of_ble_eq_true rfl) (c_m_isFirst v3 q18) ?_
      refine r_jn (R := rI) (J := fun (KJ2 : Int32 → Int32 × St) (OJ2 : Int32 → Prop) => ∀ (j2_s0 : Int32), OJ2 j2_s0 → tR X 3 mX12_judged 245 [some (.ref (571 : Nat)), some (.int l1), some (.int v2), some (.int v3)] [.int j2_s0] T1 (rI (KJ2 j2_s0)).1 (rI (KJ2 j2_s0)).2) kk (fun j2_s0 kk => ?_) (fun KJ2 OJ2 hJ2 kk => ?_)
      · skip
        refine r_p (pc2 := 246) (L2 := [some (.ref (571 : Nat)), some (.int l1), some (.int j2_s0), some (.int v3)]) dX12_judged_245 rfl rfl ?_
        refine r_p (pc2 := 247) dX12_judged_246 rfl rfl ?_
        refine r_p (pc2 := 248) dX12_judged_247 rfl rfl ?_
        obtain ⟨q19, kk⟩ := kk
        refine r_cv (d1 := 3) dX12_judged_248 cvX12_337 rfl rfl rfl rfl (Nat.le_of_ble_eq_true rfl) (Nat.le_of_ble_eq_true rfl) (Nat.le_of_ble_eq_true rfl) (c_m_isLast v3 q19) ?_
        refine r_ieq dX12_judged_251 rfl (fun c251_16 => ?_) (fun c251_16 => ?_)
        · refine r_ip (R := rI) c251_16 ?_
          have kk := kk.1 c251_16
          refine r_inc (L2 := [some (.ref (571 : Nat)), some (.int l1), some (.int j2_s0), some (.int (v3 + 1))]) (y := 1) dX12_judged_284 rfl rfl rfl ?_
          refine r_go dX12_judged_287 rfl ?_
          show tR _ _ _ _ [some (.ref (571 : Nat)), some (.int l1), some (.int j2_s0), some (.int (v3 + 1))] _ _ _ _
          exact (ih j2_s0 (v3 + 1) T1 kk)
        · refine r_in (R := rI) c251_16 ?_
          have kk := kk.2 c251_16
          refine r_p (pc2 := 255) dX12_judged_254 rfl rfl ?_
          refine r_p (pc2 := 256) dX12_judged_255 rfl rfl ?_
          refine r_p (pc2 := 257) dX12_judged_256 rfl rfl ?_
          refine r_get dX12_judged_257 fkX12_76 rfl rfl ?_
          refine r_p (pc2 := 261) dX12_judged_260 rfl rfl ?_
          refine r_ia dX12_judged_261 rfl q15 ?_
          obtain ⟨q20, kk⟩ := kk
          refine r_cv (d1 := 2) dX12_judged_262 cvX12_328 rfl rfl rfl rfl (Nat.le_of_ble_eq_true rfl) (Nat.le_of_ble_eq_true rfl) (Nat.le_of_ble_eq_true rfl) (c_m_dishBy (T1.2.2.1 594 (v3 : Int32).toNatClampNeg) q20) ?_
          refine r_ci (x := 2) dX12_judged_265 rfl ?_
          obtain ⟨q21, kk⟩ := kk
          refine r_cv (d1 := 1) dX12_judged_266 cvX12_228 rfl rfl rfl rfl (Nat.le_of_ble_eq_true rfl) (Nat.le_of_ble_eq_true rfl) (Nat.le_of_ble_eq_true rfl) (c_m_dishOf (x_m_dishBy T1 (T1.2.2.1 594 (v3 : Int32).toNatClampNeg)) 2 q21) ?_
          refine r_ci (x := 1) dX12_judged_269 rfl ?_
          refine r_cne dX12_judged_270 rfl (fun c270_17 => ?_) (fun c270_17 => ?_)
          · refine r_in (R := rI) c270_17 ?_
            have kk := kk.2 c270_17
            refine r_inc (L2 := [some (.ref (571 : Nat)), some (.int l1), some (.int j2_s0), some (.int (v3 + 1))]) (y := 1) dX12_judged_284 rfl rfl rfl ?_
            refine r_go dX12_judged_287 rfl ?_
            show tR _ _ _ _ [some (.ref (571 : Nat)), some (.int l1), some (.int j2_s0), some (.int (v3 + 1))] _ _ _ _
            exact (ih j2_s0 (v3 + 1) T1 kk)
          · refine r_ip (R := rI) c270_17 ?_
            have kk := kk.1 c270_17
            refine r_p (pc2 := 274) dX12_judged_273 rfl rfl ?_
            refine r_ci (x := 0) dX12_judged_274 rfl ?_
            refine r_p (pc2 := 276) dX12_judged_275 rfl rfl ?_
            refine r_p (pc2 := 277) dX12_judged_276 rfl rfl ?_
            refine r_p (pc2 := 278) dX12_judged_277 rfl rfl ?_
            obtain ⟨q22, kk⟩ := kk
            refine r_cv (d1 := 2) dX12_judged_278 cvX12_331 rfl rfl rfl rfl (Nat.le_of_ble_eq_true rfl) (Nat.le_of_ble_eq_true rfl) (Nat.le_of_ble_eq_true rfl) (c_m_endOf v3 q22) ?_
            obtain ⟨q23, kk⟩ := kk
            refine r_cv (d1 := 1) dX12_judged_281 cvX12_282 rfl rfl rfl rfl (Nat.le_of_ble_eq_true rfl) (Nat.le_of_ble_eq_true rfl) (Nat.le_of_ble_eq_true rfl) (c_m_addPan 0 j2_s0 (x_m_endOf T1 v3) q23) ?_
            refine r_inc (L2 := [some (.ref (571 : Nat)), some (.int l1), some (.int j2_s0), some (.int (v3 + 1))]) (y := 1) dX12_judged_284 rfl rfl rfl ?_
            refine r_go dX12_judged_287 rfl ?_
            show tR _ _ _ _ [some (.ref (571 : Nat)), some (.int l1), some (.int j2_s0), some (.int (v3 + 1))] _ _ _ _
            exact (ih j2_s0 (v3 + 1) (x_m_addPan T1 0 j2_s0 (x_m_endOf T1 v3)) kk)
      refine r_ieq dX12_judged_232 rfl (fun c232_18 => ?_) (fun c232_18 => ?_)
      · refine r_ip (R := rI) c232_18 ?_
        have kk := kk.1 c232_18
        refine r_p (pc2 := 245) dX12_judged_244 rfl rfl ?_
        show tR _ _ _ _ [some (.ref (571 : Nat)), some (.int l1), some (.int v2), some (.int v3)] [.int v2] _ _ _
        exact (hJ2 v2 kk)
      · refine r_in (R := rI) c232_18 ?_
        have kk := kk.2 c232_18
        refine r_p (pc2 := 236) dX12_judged_235 rfl rfl ?_
        refine r_get dX12_judged_236 fkX12_79 rfl rfl ?_
        refine r_p (pc2 := 240) dX12_judged_239 rfl rfl ?_
        refine r_ia dX12_judged_240 rfl q15 ?_
        refine r_go dX12_judged_241 rfl ?_
        show tR _ _ _ _ [some (.ref (571 : Nat)), some (.int l1), some (.int v2), some (.int v3)] [.int (T1.2.2.1 595 (v3 : Int32).toNatClampNeg)] _ _ _
        exact (hJ2 (T1.2.2.1 595 (v3 : Int32).toNatClampNeg) kk)
def x_m_judged (T : St) (p0 : Int32) : Int32 × St := x_m_judged_2 p0 (fun (w1_2 : Int32) (T201 : St) => x_m_judged_55 p0 (fun (w2_2 : Int32) (T202 : St) => x_m_judged_122 p0 (fun (w3_2 : Int32) (T203 : St) => x_m_judged_190 p0 (fun (w4_2 : Int32) (w4_3 : Int32) (T204 : St) => jn (fun (i2 : Int32) => if i2 = (-1000000) then (0, T204) else (1000 + i2, T204)) (x_m_lacks T204 0 (T204.2.2.1 575 (5 : Int32).toNatClampNeg) (T204.2.2.1 575 (203 : Int32).toNatClampNeg))) 1000 0 0 (x_m_clearLevel T203)) 1000 0 T202) 1000 0 T201) 1000 0 T
def ok_m_judged (T : St) (p0 : Int32) : Prop := ok_m_judged_2 p0 (fun (w1_2 : Int32) (T201 : St) => ok_m_judged_55 p0 (fun (w2_2 : Int32) (T202 : St) => ok_m_judged_122 p0 (fun (w3_2 : Int32) (T203 : St) => (ok_m_clearLevel T203) ∧ ok_m_judged_190 p0 (fun (w4_2 : Int32) (w4_3 : Int32) (T204 : St) => (ok_m_lacks T204 0 (T204.2.2.1 575 (5 : Int32).toNatClampNeg) (T204.2.2.1 575 (203 : Int32).toNatClampNeg)) ∧ True) 1000 0 0 (x_m_clearLevel T203)) 1000 0 T202) 1000 0 T201) 1000 0 T
theorem c_m_judged {X : Nat × (Nat → Int32)} {T : St} (p0 : Int32) (kk : ok_m_judged T p0) : tC X 4 mX12_judged [.ref (571 : Nat), .int p0] T (some (.int (x_m_judged T p0).1)) ((x_m_judged T p0).2) := by
  unfold ok_m_judged at kk
  refine tC_orI (L := [some (.ref (571 : Nat)), some (.int p0), none, none]) (x_m_judged T p0) rfl ?_
  unfold x_m_judged
  refine r_ci (x := 0) dX12_judged_0 rfl ?_
  refine r_p (pc2 := 2) (L2 := [some (.ref (571 : Nat)), some (.int p0), some (.int 0), none]) dX12_judged_1 rfl rfl ?_
  show tR _ _ _ _ [some (.ref (571 : Nat)), some (.int p0), some (.int 0), none] _ _ _ _
  refine (c_m_judged_2 p0 (fun w1_2 T201 kk => ?_) 1000 0 T kk)
  · skip
    refine r_ci (x := 0) dX12_judged_53 rfl ?_
    refine r_p (pc2 := 55) (L2 := [some (.ref (571 : Nat)), some (.int p0), some (.int 0), none]) dX12_judged_54 rfl rfl ?_
    show tR _ _ _ _ [some (.ref (571 : Nat)), some (.int p0), some (.int 0), none] _ _ _ _
    refine (c_m_judged_55 p0 (fun w2_2 T202 kk => ?_) 1000 0 T201 kk)
    · skip
      refine r_ci (x := 0) dX12_judged_120 rfl ?_
      refine r_p (pc2 := 122) (L2 := [some (.ref (571 : Nat)), some (.int p0), some (.int 0), none]) dX12_judged_121 rfl rfl ?_
      show tR _ _ _ _ [some (.ref (571 : Nat)), some (.int p0), some (.int 0), none] _ _ _ _
      refine (c_m_judged_122 p0 (fun w3_2 T203 kk => ?_) 1000 0 T202 kk)
      · skip
        refine r_p (pc2 := 183) dX12_judged_182 rfl rfl ?_
        obtain ⟨q14, kk⟩ := kk
        refine r_cv (d1 := 1) dX12_judged_183 cvX12_289 rfl rfl rfl rfl (Nat.le_of_ble_eq_true rfl) (Nat.le_of_ble_eq_true rfl) (Nat.le_of_ble_eq_true rfl) (c_m_clearLevel  q14) ?_
        refine r_ci (x := 0) dX12_judged_186 rfl ?_
        refine r_p (pc2 := 188) (L2 := [some (.ref (571 : Nat)), some (.int p0), some (.int 0), none]) dX12_judged_187 rfl rfl ?_
        refine r_ci (x := 0) dX12_judged_188 rfl ?_
        refine r_p (pc2 := 190) (L2 := [some (.ref (571 : Nat)), some (.int p0), some (.int 0), some (.int 0)]) dX12_judged_189 rfl rfl ?_
        show tR _ _ _ _ [some (.ref (571 : Nat)), some (.int p0), some (.int 0), some (.int 0)] _ _ _ _
        refine (c_m_judged_190 p0 (fun w4_2 w4_3 T204 kk => ?_) 1000 0 0 (x_m_clearLevel T203) kk)
        · skip
          refine r_p (pc2 := 291) dX12_judged_290 rfl rfl ?_
          refine r_ci (x := 0) dX12_judged_291 rfl ?_
          refine r_p (pc2 := 293) dX12_judged_292 rfl rfl ?_
          refine r_get dX12_judged_293 fkX12_19 rfl rfl ?_
          refine r_ci (x := 5) dX12_judged_296 rfl ?_
          refine r_ia dX12_judged_297 rfl (in_c (by decide)) ?_
          refine r_p (pc2 := 299) dX12_judged_298 rfl rfl ?_
          refine r_get dX12_judged_299 fkX12_19 rfl rfl ?_
          refine r_csi (x := 203) dX12_judged_302 rfl ?_
          refine r_ia dX12_judged_305 rfl (in_c (by decide)) ?_
          obtain ⟨q24, kk⟩ := kk
          refine r_cv (d1 := 3) dX12_judged_306 cvX12_285 rfl rfl rfl rfl (Nat.le_of_ble_eq_true rfl) (Nat.le_of_ble_eq_true rfl) (Nat.le_of_ble_eq_true rfl) (c_m_lacks 0 (T204.2.2.1 575 (5 : Int32).toNatClampNeg) (T204.2.2.1 575 (203 : Int32).toNatClampNeg) q24) ?_
          refine r_nI0 (R := rI) rfl (fun i2 => ?_)
          refine r_p (pc2 := 310) (L2 := [some (.ref (571 : Nat)), some (.int p0), some (.int w4_2), some (.int i2)]) dX12_judged_309 rfl rfl ?_
          refine r_p (pc2 := 311) dX12_judged_310 rfl rfl ?_
          refine r_k dX12_judged_311 kkX12_137 ?_
          refine r_cne dX12_judged_313 rfl (fun c313_19 => ?_) (fun c313_19 => ?_)
          · refine r_in (R := rI) c313_19 ?_
            refine r_csi (x := 1000) dX12_judged_320 rfl ?_
            refine r_p (pc2 := 324) dX12_judged_323 rfl rfl ?_
            refine r_p (pc2 := 325) dX12_judged_324 rfl rfl ?_
            exact r_qI dX12_judged_325 rfl rfl rfl rfl
          · refine r_ip (R := rI) c313_19 ?_
            refine r_ci (x := 0) dX12_judged_316 rfl ?_
            refine r_go dX12_judged_317 rfl ?_
            exact r_qI dX12_judged_325 rfl rfl rfl rfl
