def x_m_image_30 (l1 : Int32) (K : Int32 → St → Int32 × St) : Nat → Int32 → St → Int32 × St
  | 0, _, T => (0, T)
  | f + 1, v2, T => if 204 ≤ v2 then (K v2 T) else (x_m_image_30 l1 K f (v2 + 1) (sA T 600 ((204 * l1) + v2 : Int32).toNatClampNeg (T.2.2.1 575 (v2 : Int32).toNatClampNeg)))
def ok_m_image_30 (l1 : Int32) (Kk : Int32 → St → Prop) : Nat → Int32 → St → Prop
  | 0, _, _ => False
  | f + 1, v2, T => ((204 ≤ v2 → Kk v2 T) ∧ (¬ 204 ≤ v2 → (vp_in v2 204) ∧ (vp_in ((204 * l1) + v2) 408) ∧ ok_m_image_30 l1 Kk f (v2 + 1) (sA T 600 ((204 * l1) + v2 : Int32).toNatClampNeg (T.2.2.1 575 (v2 : Int32).toNatClampNeg))))
theorem c_m_image_30 {X : Nat × (Nat → Int32)} (l1 : Int32) {K : Int32 → St → Int32 × St} {Kk : Int32 → St → Prop} (hk : ∀ (v2 : Int32) (T : St), Kk v2 T → tR X 1 mX12_image 61 [some (.ref (571 : Nat)), some (.int l1), some (.int v2)] [] T (rI (K v2 T)).1 ((rI (K v2 T)).2)) : ∀ (f : Nat) (v2 : Int32) (T : St), ok_m_image_30 l1 Kk f v2 T → tR X 1 mX12_image 30 [some (.ref (571 : Nat)), some (.int l1), some (.int v2)] [] T (rI (x_m_image_30 l1 K f v2 T)).1 ((rI (x_m_image_30 l1 K f v2 T)).2) := by
  intro f
  induction f with
  | zero => intro v2 T kk; exact kk.elim
  | succ f ih =>
    intro v2 T kk
    rw [ok_m_image_30] at kk
    rw [x_m_image_30]
    refine r_p (pc2 := 31) dX12_image_30 rfl rfl ?_
    refine r_csi (x := 204) dX12_image_31 rfl ?_
    refine r_cge dX12_image_34 rfl (fun c34_3 => ?_) (fun c34_3 => ?_)
    · refine r_ip (R := rI) c34_3 ?_
      have kk := kk.1 c34_3
      show tR _ _ _ _ [some (.ref (571 : Nat)), some (.int l1), some (.int v2)] _ _ _ _
      exact (hk v2 T kk)
    · refine r_in (R := rI) c34_3 ?_
      have kk := kk.2 c34_3
      refine r_p (pc2 := 38) dX12_image_37 rfl rfl ?_
      refine r_get dX12_image_38 fkX12_95 rfl rfl ?_
      refine r_csi (x := 204) dX12_image_41 rfl ?_
      refine r_p (pc2 := 45) dX12_image_44 rfl rfl ?_
      refine r_p (pc2 := 46) dX12_image_45 rfl rfl ?_
      refine r_p (pc2 := 47) dX12_image_46 rfl rfl ?_
      refine r_p (pc2 := 48) dX12_image_47 rfl rfl ?_
      refine r_p (pc2 := 49) dX12_image_48 rfl rfl ?_
      refine r_get dX12_image_49 fkX12_19 rfl rfl ?_
      refine r_p (pc2 := 53) dX12_image_52 rfl rfl ?_
      obtain ⟨q1, kk⟩ := kk
      refine r_ia dX12_image_53 rfl q1 ?_
      obtain ⟨q2, kk⟩ := kk
      refine r_ias dX12_image_54 rfl q2 ?_
      refine r_inc (L2 := [some (.ref (571 : Nat)), some (.int l1), some (.int (v2 + 1))]) (y := 1) dX12_image_55 rfl rfl rfl ?_
      refine r_go dX12_image_58 rfl ?_
      show tR _ _ _ _ [some (.ref (571 : Nat)), some (.int l1), some (.int (v2 + 1))] _ _ _ _
      exact (ih (v2 + 1) (sA T 600 ((204 * l1) + v2 : Int32).toNatClampNeg (T.2.2.1 575 (v2 : Int32).toNatClampNeg)) kk)
def x_m_image (T : St) (p0 : Int32) : Int32 × St := if (x_m_in (sF T 571 0 0) ((p0 : Int32).toInt64) 0 1) = 0 then ((-1000001), sF T 571 0 0) else (if ((sF T 571 0 0).1 571 7) = 0 then ((-1000002), sF T 571 0 0) else (x_m_image_30 p0 (fun (w1_2 : Int32) (T201 : St) => (1, sA T201 599 (p0 : Int32).toNatClampNeg (vp_nar .boolean 1))) 1000 0 (sF T 571 0 0)))
def ok_m_image (T : St) (p0 : Int32) : Prop := (¬ (x_m_in (sF T 571 0 0) ((p0 : Int32).toInt64) 0 1) = 0 → (¬ ((sF T 571 0 0).1 571 7) = 0 → ok_m_image_30 p0 (fun (w1_2 : Int32) (T201 : St) => (vp_in p0 2) ∧ True) 1000 0 (sF T 571 0 0)))
theorem c_m_image {X : Nat × (Nat → Int32)} {T : St} (p0 : Int32) (kk : ok_m_image T p0) : tC X 2 mX12_image [.ref (571 : Nat), .int p0] T (some (.int (x_m_image T p0).1)) ((x_m_image T p0).2) := by
  unfold ok_m_image at kk
  refine tC_orI (L := [some (.ref (571 : Nat)), some (.int p0), none]) (x_m_image T p0) rfl ?_
  unfold x_m_image
  refine r_p (pc2 := 1) dX12_image_0 rfl rfl ?_
  refine r_ci (x := 0) dX12_image_1 rfl ?_
  refine r_put dX12_image_2 fkX12_101 rfl rfl rfl (Nat.le_of_ble_eq_true rfl) rfl rfl ?_
  refine r_p (pc2 := 6) dX12_image_5 rfl rfl ?_
  refine r_p (pc2 := 7) dX12_image_6 rfl rfl ?_
  refine r_cl (x := 0) dX12_image_7 rfl ?_
  refine r_cl (x := 1) dX12_image_8 rfl ?_
  refine r_cs (d1 := 1) dX12_image_9 csX12_111 rfl rfl (Nat.le_of_ble_eq_true rfl) (Nat.le_of_ble_eq_true rfl) (Nat.le_of_ble_eq_true rfl) (c_m_in ((p0 : Int32).toInt64) 0 1) ?_
  refine r_ine dX12_image_12 rfl (fun c12_1 => ?_) (fun c12_1 => ?_)
  · refine r_in (R := rI) c12_1 ?_
    have kk := kk c12_1
    refine r_p (pc2 := 19) dX12_image_18 rfl rfl ?_
    refine r_get dX12_image_19 fkX12_221 rfl rfl ?_
    refine r_ine dX12_image_22 rfl (fun c22_2 => ?_) (fun c22_2 => ?_)
    · refine r_in (R := rI) c22_2 ?_
      have kk := kk c22_2
      refine r_ci (x := 0) dX12_image_28 rfl ?_
      refine r_p (pc2 := 30) (L2 := [some (.ref (571 : Nat)), some (.int p0), some (.int 0)]) dX12_image_29 rfl rfl ?_
      show tR _ _ _ _ [some (.ref (571 : Nat)), some (.int p0), some (.int 0)] _ _ _ _
      refine (c_m_image_30 p0 (fun w1_2 T201 kk => ?_) 1000 0 (sF T 571 0 0) kk)
      · skip
        refine r_p (pc2 := 62) dX12_image_61 rfl rfl ?_
        refine r_get dX12_image_62 fkX12_91 rfl rfl ?_
        refine r_p (pc2 := 66) dX12_image_65 rfl rfl ?_
        refine r_ci (x := 1) dX12_image_66 rfl ?_
        obtain ⟨q3, kk⟩ := kk
        refine r_zas dX12_image_67 rfl q3 ?_
        refine r_ci (x := 1) dX12_image_68 rfl ?_
        exact r_qI dX12_image_69 rfl rfl rfl rfl
    · refine r_ip (R := rI) c22_2 ?_
      refine r_k dX12_image_25 kkX12_253 ?_
      exact r_qI dX12_image_27 rfl rfl rfl rfl
  · refine r_ip (R := rI) c12_1 ?_
    refine r_k dX12_image_15 kkX12_121 ?_
    exact r_qI dX12_image_17 rfl rfl rfl rfl
def x_m_restore_32 (l1 : Int32) (K : Int32 → St → Int32 × St) : Nat → Int32 → St → Int32 × St
  | 0, _, T => (0, T)
  | f + 1, v2, T => if 204 ≤ v2 then (K v2 T) else (x_m_restore_32 l1 K f (v2 + 1) (sA T 575 (v2 : Int32).toNatClampNeg (T.2.2.1 600 ((204 * l1) + v2 : Int32).toNatClampNeg)))
def ok_m_restore_32 (l1 : Int32) (Kk : Int32 → St → Prop) : Nat → Int32 → St → Prop
  | 0, _, _ => False
  | f + 1, v2, T => ((204 ≤ v2 → Kk v2 T) ∧ (¬ 204 ≤ v2 → (vp_in ((204 * l1) + v2) 408) ∧ (vp_in v2 204) ∧ ok_m_restore_32 l1 Kk f (v2 + 1) (sA T 575 (v2 : Int32).toNatClampNeg (T.2.2.1 600 ((204 * l1) + v2 : Int32).toNatClampNeg))))
theorem c_m_restore_32 {X : Nat × (Nat → Int32)} (l1 : Int32) {K : Int32 → St → Int32 × St} {Kk : Int32 → St → Prop} (hk : ∀ (v2 : Int32) (T : St), Kk v2 T → tR X 1 mX12_restore 63 [some (.ref (571 : Nat)), some (.int l1), some (.int v2)] [] T (rI (K v2 T)).1 ((rI (K v2 T)).2)) : ∀ (f : Nat) (v2 : Int32) (T : St), ok_m_restore_32 l1 Kk f v2 T → tR X 1 mX12_restore 32 [some (.ref (571 : Nat)), some (.int l1), some (.int v2)] [] T (rI (x_m_restore_32 l1 K f v2 T)).1 ((rI (x_m_restore_32 l1 K f v2 T)).2) := by
  intro f
  induction f with
  | zero => intro v2 T kk; exact kk.elim
  | succ f ih =>
    intro v2 T kk
    rw [ok_m_restore_32] at kk
    rw [x_m_restore_32]
    refine r_p (pc2 := 33) dX12_restore_32 rfl rfl ?_
    refine r_csi (x := 204) dX12_restore_33 rfl ?_
    refine r_cge dX12_restore_36 rfl (fun c36_3 => ?_) (fun c36_3 => ?_)
    · refine r_ip (R := rI) c36_3 ?_
      have kk := kk.1 c36_3
      show tR _ _ _ _ [some (.ref (571 : Nat)), some (.int l1), some (.int v2)] _ _ _ _
      exact (hk v2 T kk)
    · refine r_in (R := rI) c36_3 ?_
      have kk := kk.2 c36_3
      refine r_p (pc2 := 40) dX12_restore_39 rfl rfl ?_
      refine r_get dX12_restore_40 fkX12_19 rfl rfl ?_
      refine r_p (pc2 := 44) dX12_restore_43 rfl rfl ?_
      refine r_p (pc2 := 45) dX12_restore_44 rfl rfl ?_
      refine r_get dX12_restore_45 fkX12_95 rfl rfl ?_
      refine r_csi (x := 204) dX12_restore_48 rfl ?_
      refine r_p (pc2 := 52) dX12_restore_51 rfl rfl ?_
      refine r_p (pc2 := 53) dX12_restore_52 rfl rfl ?_
      refine r_p (pc2 := 54) dX12_restore_53 rfl rfl ?_
      refine r_p (pc2 := 55) dX12_restore_54 rfl rfl ?_
      obtain ⟨q2, kk⟩ := kk
      refine r_ia dX12_restore_55 rfl q2 ?_
      obtain ⟨q3, kk⟩ := kk
      refine r_ias dX12_restore_56 rfl q3 ?_
      refine r_inc (L2 := [some (.ref (571 : Nat)), some (.int l1), some (.int (v2 + 1))]) (y := 1) dX12_restore_57 rfl rfl rfl ?_
      refine r_go dX12_restore_60 rfl ?_
      show tR _ _ _ _ [some (.ref (571 : Nat)), some (.int l1), some (.int (v2 + 1))] _ _ _ _
      exact (ih (v2 + 1) (sA T 575 (v2 : Int32).toNatClampNeg (T.2.2.1 600 ((204 * l1) + v2 : Int32).toNatClampNeg)) kk)
def x_m_restore (T : St) (p0 : Int32) : Int32 × St := if (x_m_in (sF T 571 0 0) ((p0 : Int32).toInt64) 0 1) = 0 then ((-1000001), sF T 571 0 0) else (if ((sF T 571 0 0).2.2.1 599 (p0 : Int32).toNatClampNeg) = 0 then ((-1000002), sF T 571 0 0) else (x_m_restore_32 p0 (fun (w1_2 : Int32) (T201 : St) => (1, x_m_forget T201)) 1000 0 (sF T 571 0 0)))
def ok_m_restore (T : St) (p0 : Int32) : Prop := (¬ (x_m_in (sF T 571 0 0) ((p0 : Int32).toInt64) 0 1) = 0 → (vp_in p0 2) ∧ (¬ ((sF T 571 0 0).2.2.1 599 (p0 : Int32).toNatClampNeg) = 0 → ok_m_restore_32 p0 (fun (w1_2 : Int32) (T201 : St) => True) 1000 0 (sF T 571 0 0)))
theorem c_m_restore {X : Nat × (Nat → Int32)} {T : St} (p0 : Int32) (kk : ok_m_restore T p0) : tC X 2 mX12_restore [.ref (571 : Nat), .int p0] T (some (.int (x_m_restore T p0).1)) ((x_m_restore T p0).2) := by
  unfold ok_m_restore at kk
  refine tC_orI (L := [some (.ref (571 : Nat)), some (.int p0), none]) (x_m_restore T p0) rfl ?_
  unfold x_m_restore
  refine r_p (pc2 := 1) dX12_restore_0 rfl rfl ?_
  refine r_ci (x := 0) dX12_restore_1 rfl ?_
  refine r_put dX12_restore_2 fkX12_101 rfl rfl rfl (Nat.le_of_ble_eq_true rfl) rfl rfl ?_
  refine r_p (pc2 := 6) dX12_restore_5 rfl rfl ?_
  refine r_p (pc2 := 7) dX12_restore_6 rfl rfl ?_
  refine r_cl (x := 0) dX12_restore_7 rfl ?_
  refine r_cl (x := 1) dX12_restore_8 rfl ?_
  refine r_cs (d1 := 1) dX12_restore_9 csX12_111 rfl rfl (Nat.le_of_ble_eq_true rfl) (Nat.le_of_ble_eq_true rfl) (Nat.le_of_ble_eq_true rfl) (c_m_in ((p0 : Int32).toInt64) 0 1) ?_
  refine r_ine dX12_restore_12 rfl (fun c12_1 => ?_) (fun c12_1 => ?_)
  · refine r_in (R := rI) c12_1 ?_
    have kk := kk c12_1
    refine r_p (pc2 := 19) dX12_restore_18 rfl rfl ?_
    refine r_get dX12_restore_19 fkX12_91 rfl rfl ?_
    refine r_p (pc2 := 23) dX12_restore_22 rfl rfl ?_
    obtain ⟨q1, kk⟩ := kk
    refine r_za dX12_restore_23 rfl q1 ?_
    refine r_ine dX12_restore_24 rfl (fun c24_2 => ?_) (fun c24_2 => ?_)
    · refine r_in (R := rI) c24_2 ?_
      have kk := kk c24_2
      refine r_ci (x := 0) dX12_restore_30 rfl ?_
      refine r_p (pc2 := 32) (L2 := [some (.ref (571 : Nat)), some (.int p0), some (.int 0)]) dX12_restore_31 rfl rfl ?_
      show tR _ _ _ _ [some (.ref (571 : Nat)), some (.int p0), some (.int 0)] _ _ _ _
      refine (c_m_restore_32 p0 (fun w1_2 T201 kk => ?_) 1000 0 (sF T 571 0 0) kk)
      · skip
        refine r_p (pc2 := 64) dX12_restore_63 rfl rfl ?_
        refine r_cv (d1 := 1) dX12_restore_64 cvX12_225 rfl rfl rfl rfl (Nat.le_of_ble_eq_true rfl) (Nat.le_of_ble_eq_true rfl) (Nat.le_of_ble_eq_true rfl) (c_m_forget ) ?_
        refine r_ci (x := 1) dX12_restore_67 rfl ?_
        exact r_qI dX12_restore_68 rfl rfl rfl rfl
    · refine r_ip (R := rI) c24_2 ?_
      refine r_k dX12_restore_27 kkX12_253 ?_
      exact r_qI dX12_restore_29 rfl rfl rfl rfl
  · refine r_ip (R := rI) c12_1 ?_
    refine r_k dX12_restore_15 kkX12_121 ?_
    exact r_qI dX12_restore_17 rfl rfl rfl rfl
def x_m_kindOf (T : St) (p0 : Int32) : Int32 := if (x_m_stepOf T p0 0) = 1 then (if (x_m_stepOf T p0 3) = 2 then (6) else (x_m_stepOf T p0 0)) else (x_m_stepOf T p0 0)
def ok_m_kindOf (T : St) (p0 : Int32) : Prop := (ok_m_stepOf T p0 0) ∧ ((x_m_stepOf T p0 0) = 1 → (ok_m_stepOf T p0 3) ∧ True)
theorem c_m_kindOf {X : Nat × (Nat → Int32)} {T : St} (p0 : Int32) (kk : ok_m_kindOf T p0) : tC X 2 mX12_kindOf [.ref (571 : Nat), .int p0] T (some (.int (x_m_kindOf T p0))) T := by
  unfold ok_m_kindOf at kk
  refine tC_orIp (L := [some (.ref (571 : Nat)), some (.int p0), none]) (x_m_kindOf T p0) rfl ?_
  unfold x_m_kindOf
  refine r_p (pc2 := 1) dX12_kindOf_0 rfl rfl ?_
  refine r_p (pc2 := 2) dX12_kindOf_1 rfl rfl ?_
  refine r_ci (x := 0) dX12_kindOf_2 rfl ?_
  obtain ⟨q1, kk⟩ := kk
  refine r_cv (d1 := 1) dX12_kindOf_3 cvX12_232 rfl rfl rfl rfl (Nat.le_of_ble_eq_true rfl) (Nat.le_of_ble_eq_true rfl) (Nat.le_of_ble_eq_true rfl) (c_m_stepOf p0 0 q1) ?_
  refine r_p (pc2 := 7) (L2 := [some (.ref (571 : Nat)), some (.int p0), some (.int (x_m_stepOf T p0 0))]) dX12_kindOf_6 rfl rfl ?_
  refine r_p (pc2 := 8) dX12_kindOf_7 rfl rfl ?_
  refine r_ci (x := 1) dX12_kindOf_8 rfl ?_
  refine r_cne dX12_kindOf_9 rfl (fun c9_1 => ?_) (fun c9_1 => ?_)
  · refine r_in (R := (rIp T)) c9_1 ?_
    refine r_p (pc2 := 28) dX12_kindOf_27 rfl rfl ?_
    exact r_qIp dX12_kindOf_28 rfl rfl rfl
  · refine r_ip (R := (rIp T)) c9_1 ?_
    have kk := kk c9_1
    refine r_p (pc2 := 13) dX12_kindOf_12 rfl rfl ?_
    refine r_p (pc2 := 14) dX12_kindOf_13 rfl rfl ?_
    refine r_ci (x := 3) dX12_kindOf_14 rfl ?_
    obtain ⟨q2, kk⟩ := kk
    refine r_cv (d1 := 1) dX12_kindOf_15 cvX12_232 rfl rfl rfl rfl (Nat.le_of_ble_eq_true rfl) (Nat.le_of_ble_eq_true rfl) (Nat.le_of_ble_eq_true rfl) (c_m_stepOf p0 3 q2) ?_
    refine r_ci (x := 2) dX12_kindOf_18 rfl ?_
    refine r_cne dX12_kindOf_19 rfl (fun c19_2 => ?_) (fun c19_2 => ?_)
    · refine r_in (R := (rIp T)) c19_2 ?_
      refine r_p (pc2 := 28) dX12_kindOf_27 rfl rfl ?_
      exact r_qIp dX12_kindOf_28 rfl rfl rfl
    · refine r_ip (R := (rIp T)) c19_2 ?_
      refine r_cb (x := 6) dX12_kindOf_22 rfl ?_
      refine r_go dX12_kindOf_24 rfl ?_
      exact r_qIp dX12_kindOf_28 rfl rfl rfl
def x_m_isOf (T : St) (p0 : Int32) (p1 : Int32) : Int32 := if p1 = 0 then (1) else (if p0 = p1 then (1) else (jn (fun (KJ1 : Int32) => if p1 = 1 then (if p0 = 6 then (1) else (KJ1)) else (KJ1)) (if p1 = 4 then (if p0 = 5 then (1) else (0)) else (0))))
theorem c_m_isOf {X : Nat × (Nat → Int32)} {T : St} (p0 : Int32) (p1 : Int32) : tC X 1 mX12_isOf [.int p0, .int p1] T (some (.int (x_m_isOf T p0 p1))) T := by
  refine tC_orIp (L := [some (.int p0), some (.int p1)]) (x_m_isOf T p0 p1) rfl ?_
  unfold x_m_isOf
  refine r_p (pc2 := 1) dX12_isOf_0 rfl rfl ?_
  refine r_ieq dX12_isOf_1 rfl (fun c1_1 => ?_) (fun c1_1 => ?_)
  · refine r_ip (R := (rIp T)) c1_1 ?_
    refine r_ci (x := 1) dX12_isOf_30 rfl ?_
    refine r_go dX12_isOf_31 rfl ?_
    exact r_qIp dX12_isOf_35 rfl rfl rfl
  · refine r_in (R := (rIp T)) c1_1 ?_
    refine r_p (pc2 := 5) dX12_isOf_4 rfl rfl ?_
    refine r_p (pc2 := 6) dX12_isOf_5 rfl rfl ?_
    refine r_ceq dX12_isOf_6 rfl (fun c6_2 => ?_) (fun c6_2 => ?_)
    · refine r_ip (R := (rIp T)) c6_2 ?_
      refine r_ci (x := 1) dX12_isOf_30 rfl ?_
      refine r_go dX12_isOf_31 rfl ?_
      exact r_qIp dX12_isOf_35 rfl rfl rfl
    · refine r_in (R := (rIp T)) c6_2 ?_
      refine r_p (pc2 := 10) dX12_isOf_9 rfl rfl ?_
      refine r_ci (x := 1) dX12_isOf_10 rfl ?_
      refine r_jn0 (R := (rIp T)) (J := fun (KJ1 : Int32) => tR X 0 mX12_isOf 20 [some (.int p0), some (.int p1)] [] T ((rIp T) KJ1).1 ((rIp T) KJ1).2) (?_) (fun KJ1 hJ1 => ?_)
      · skip
        refine r_p (pc2 := 21) dX12_isOf_20 rfl rfl ?_
        refine r_ci (x := 4) dX12_isOf_21 rfl ?_
        refine r_cne dX12_isOf_22 rfl (fun c22_5 => ?_) (fun c22_5 => ?_)
        · refine r_in (R := (rIp T)) c22_5 ?_
          refine r_ci (x := 0) dX12_isOf_34 rfl ?_
          exact r_qIp dX12_isOf_35 rfl rfl rfl
        · refine r_ip (R := (rIp T)) c22_5 ?_
          refine r_p (pc2 := 26) dX12_isOf_25 rfl rfl ?_
          refine r_ci (x := 5) dX12_isOf_26 rfl ?_
          refine r_cne dX12_isOf_27 rfl (fun c27_6 => ?_) (fun c27_6 => ?_)
          · refine r_in (R := (rIp T)) c27_6 ?_
            refine r_ci (x := 0) dX12_isOf_34 rfl ?_
            exact r_qIp dX12_isOf_35 rfl rfl rfl
          · refine r_ip (R := (rIp T)) c27_6 ?_
            refine r_ci (x := 1) dX12_isOf_30 rfl ?_
            refine r_go dX12_isOf_31 rfl ?_
            exact r_qIp dX12_isOf_35 rfl rfl rfl
      refine r_cne dX12_isOf_11 rfl (fun c11_7 => ?_) (fun c11_7 => ?_)
      · refine r_in (R := (rIp T)) c11_7 ?_
        show tR _ _ _ _ [some (.int p0), some (.int p1)] [] _ _ _
        exact (hJ1 )
      · refine r_ip (R := (rIp T)) c11_7 ?_
        refine r_p (pc2 := 15) dX12_isOf_14 rfl rfl ?_
        refine r_cb (x := 6) dX12_isOf_15 rfl ?_
        refine r_ceq dX12_isOf_17 rfl (fun c17_8 => ?_) (fun c17_8 => ?_)
        · refine r_ip (R := (rIp T)) c17_8 ?_
          refine r_ci (x := 1) dX12_isOf_30 rfl ?_
          refine r_go dX12_isOf_31 rfl ?_
          exact r_qIp dX12_isOf_35 rfl rfl rfl
        · refine r_in (R := (rIp T)) c17_8 ?_
          show tR _ _ _ _ [some (.int p0), some (.int p1)] [] _ _ _
          exact (hJ1 )
theorem b_m_isOf (T : St) (p0 : Int32) (p1 : Int32) : x_m_isOf T p0 p1 = 0 ∨ x_m_isOf T p0 p1 = 1 := by
  unfold x_m_isOf
  try simp only [jn]
  repeat' split
  all_goals (first | exact Or.inl rfl | exact Or.inr rfl)
def x_m_kind (T : St) (p0 : Int32) : Int32 × St := if (x_m_isStep (sF T 571 0 0) p0) = 0 then ((-1000001), sF T 571 0 0) else (x_m_kindOf (sF T 571 0 0) p0, sF T 571 0 0)
def ok_m_kind (T : St) (p0 : Int32) : Prop := (¬ (x_m_isStep (sF T 571 0 0) p0) = 0 → (ok_m_kindOf (sF T 571 0 0) p0) ∧ True)
theorem c_m_kind {X : Nat × (Nat → Int32)} {T : St} (p0 : Int32) (kk : ok_m_kind T p0) : tC X 3 mX12_kind [.ref (571 : Nat), .int p0] T (some (.int (x_m_kind T p0).1)) ((x_m_kind T p0).2) := by
  unfold ok_m_kind at kk
  refine tC_orI (L := [some (.ref (571 : Nat)), some (.int p0)]) (x_m_kind T p0) rfl ?_
  unfold x_m_kind
  refine r_p (pc2 := 1) dX12_kind_0 rfl rfl ?_
  refine r_ci (x := 0) dX12_kind_1 rfl ?_
  refine r_put dX12_kind_2 fkX12_101 rfl rfl rfl (Nat.le_of_ble_eq_true rfl) rfl rfl ?_
  refine r_p (pc2 := 6) dX12_kind_5 rfl rfl ?_
  refine r_p (pc2 := 7) dX12_kind_6 rfl rfl ?_
  refine r_cv (d1 := 2) dX12_kind_7 cvX12_246 rfl rfl rfl rfl (Nat.le_of_ble_eq_true rfl) (Nat.le_of_ble_eq_true rfl) (Nat.le_of_ble_eq_true rfl) (c_m_isStep p0) ?_
  refine r_ieq dX12_kind_10 rfl (fun c10_1 => ?_) (fun c10_1 => ?_)
  · refine r_ip (R := rI) c10_1 ?_
    refine r_k dX12_kind_21 kkX12_121 ?_
    exact r_qI dX12_kind_23 rfl rfl rfl rfl
  · refine r_in (R := rI) c10_1 ?_
    have kk := kk c10_1
    refine r_p (pc2 := 14) dX12_kind_13 rfl rfl ?_
    refine r_p (pc2 := 15) dX12_kind_14 rfl rfl ?_
    obtain ⟨q1, kk⟩ := kk
    refine r_cv (d1 := 2) dX12_kind_15 cvX12_350 rfl rfl rfl rfl (Nat.le_of_ble_eq_true rfl) (Nat.le_of_ble_eq_true rfl) (Nat.le_of_ble_eq_true rfl) (c_m_kindOf p0 q1) ?_
    refine r_go dX12_kind_18 rfl ?_
    exact r_qI dX12_kind_23 rfl rfl rfl rfl
def x_m_as (T : St) (p0 : Int32) (p1 : Int32) : Int32 × St := if (x_m_isStep (sF T 571 0 0) p0) = 0 then ((-1000001), sF T 571 0 0) else (if (x_m_in (sF T 571 0 0) ((p1 : Int32).toInt64) 0 6) = 0 then ((-1000001), sF T 571 0 0) else (if (x_m_isOf (sF (sF T 571 0 0) 571 1 0) (x_m_kindOf (sF (sF T 571 0 0) 571 1 0) p0) p1) = 0 then ((x_m_finding (sF (sF T 571 0 0) 571 1 0) 3).1, (x_m_finding (sF (sF T 571 0 0) 571 1 0) 3).2) else (p0, sF (sF T 571 0 0) 571 1 0)))
def ok_m_as (T : St) (p0 : Int32) (p1 : Int32) : Prop := (¬ (x_m_isStep (sF T 571 0 0) p0) = 0 → (¬ (x_m_in (sF T 571 0 0) ((p1 : Int32).toInt64) 0 6) = 0 → (ok_m_kindOf (sF (sF T 571 0 0) 571 1 0) p0) ∧ True))
theorem c_m_as {X : Nat × (Nat → Int32)} {T : St} (p0 : Int32) (p1 : Int32) (kk : ok_m_as T p0 p1) : tC X 3 mX12_as [.ref (571 : Nat), .int p0, .int p1] T (some (.int (x_m_as T p0 p1).1)) ((x_m_as T p0 p1).2) := by
  unfold ok_m_as at kk
  refine tC_orI (L := [some (.ref (571 : Nat)), some (.int p0), some (.int p1)]) (x_m_as T p0 p1) rfl ?_
  unfold x_m_as
  refine r_p (pc2 := 1) dX12_as_0 rfl rfl ?_
  refine r_ci (x := 0) dX12_as_1 rfl ?_
  refine r_put dX12_as_2 fkX12_101 rfl rfl rfl (Nat.le_of_ble_eq_true rfl) rfl rfl ?_
  refine r_p (pc2 := 6) dX12_as_5 rfl rfl ?_
  refine r_p (pc2 := 7) dX12_as_6 rfl rfl ?_
  refine r_cv (d1 := 2) dX12_as_7 cvX12_246 rfl rfl rfl rfl (Nat.le_of_ble_eq_true rfl) (Nat.le_of_ble_eq_true rfl) (Nat.le_of_ble_eq_true rfl) (c_m_isStep p0) ?_
  refine r_ieq dX12_as_10 rfl (fun c10_1 => ?_) (fun c10_1 => ?_)
  · refine r_ip (R := rI) c10_1 ?_
    refine r_k dX12_as_25 kkX12_121 ?_
    exact r_qI dX12_as_27 rfl rfl rfl rfl
  · refine r_in (R := rI) c10_1 ?_
    have kk := kk c10_1
    refine r_p (pc2 := 14) dX12_as_13 rfl rfl ?_
    refine r_p (pc2 := 15) dX12_as_14 rfl rfl ?_
    refine r_cl (x := 0) dX12_as_15 rfl ?_
    refine r_kl dX12_as_16 klX12_353 ?_
    refine r_cs (d1 := 1) dX12_as_19 csX12_111 rfl rfl (Nat.le_of_ble_eq_true rfl) (Nat.le_of_ble_eq_true rfl) (Nat.le_of_ble_eq_true rfl) (c_m_in ((p1 : Int32).toInt64) 0 6) ?_
    refine r_ine dX12_as_22 rfl (fun c22_2 => ?_) (fun c22_2 => ?_)
    · refine r_in (R := rI) c22_2 ?_
      have kk := kk c22_2
      refine r_p (pc2 := 29) dX12_as_28 rfl rfl ?_
      refine r_ci (x := 0) dX12_as_29 rfl ?_
      refine r_put dX12_as_30 fkX12_105 rfl rfl rfl (Nat.le_of_ble_eq_true rfl) rfl rfl ?_
      refine r_p (pc2 := 34) dX12_as_33 rfl rfl ?_
      refine r_p (pc2 := 35) dX12_as_34 rfl rfl ?_
      obtain ⟨q1, kk⟩ := kk
      refine r_cv (d1 := 2) dX12_as_35 cvX12_350 rfl rfl rfl rfl (Nat.le_of_ble_eq_true rfl) (Nat.le_of_ble_eq_true rfl) (Nat.le_of_ble_eq_true rfl) (c_m_kindOf p0 q1) ?_
      refine r_p (pc2 := 39) dX12_as_38 rfl rfl ?_
      refine r_cs (d1 := 1) dX12_as_39 csX12_355 rfl rfl (Nat.le_of_ble_eq_true rfl) (Nat.le_of_ble_eq_true rfl) (Nat.le_of_ble_eq_true rfl) (c_m_isOf (x_m_kindOf (sF (sF T 571 0 0) 571 1 0) p0) p1) ?_
      refine r_ieq dX12_as_42 rfl (fun c42_3 => ?_) (fun c42_3 => ?_)
      · refine r_ip (R := rI) c42_3 ?_
        refine r_p (pc2 := 50) dX12_as_49 rfl rfl ?_
        refine r_ci (x := 3) dX12_as_50 rfl ?_
        refine r_cv (d1 := 1) dX12_as_51 cvX12_122 rfl rfl rfl rfl (Nat.le_of_ble_eq_true rfl) (Nat.le_of_ble_eq_true rfl) (Nat.le_of_ble_eq_true rfl) (c_m_finding 3) ?_
        exact r_qI dX12_as_54 rfl rfl rfl rfl
      · refine r_in (R := rI) c42_3 ?_
        refine r_p (pc2 := 46) dX12_as_45 rfl rfl ?_
        refine r_go dX12_as_46 rfl ?_
        exact r_qI dX12_as_54 rfl rfl rfl rfl
    · refine r_ip (R := rI) c22_2 ?_
      refine r_k dX12_as_25 kkX12_121 ?_
      exact r_qI dX12_as_27 rfl rfl rfl rfl
def x_m_began (T : St) (p0 : Int32) : St := if 16 ≤ (T.1 571 48) then (T) else (sF (sA T 601 (T.1 571 48 : Int32).toNatClampNeg p0) 571 48 (((sA T 601 (T.1 571 48 : Int32).toNatClampNeg p0).1 571 48) + 1))
def ok_m_began (T : St) (p0 : Int32) : Prop := (¬ 16 ≤ (T.1 571 48) → (vp_in (T.1 571 48) 16) ∧ True)
theorem c_m_began {X : Nat × (Nat → Int32)} {T : St} (p0 : Int32) (kk : ok_m_began T p0) : tC X 1 mX12_began [.ref (571 : Nat), .int p0] T none (x_m_began T p0) := by
  unfold ok_m_began at kk
  refine tC_orV (L := [some (.ref (571 : Nat)), some (.int p0)]) (x_m_began T p0) rfl ?_
  unfold x_m_began
  refine r_p (pc2 := 1) dX12_began_0 rfl rfl ?_
  refine r_get dX12_began_1 fkX12_358 rfl rfl ?_
  refine r_cb (x := 16) dX12_began_4 rfl ?_
  refine r_cge dX12_began_6 rfl (fun c6_1 => ?_) (fun c6_1 => ?_)
  · refine r_ip (R := rV) c6_1 ?_
    exact r_qV dX12_began_29 rfl rfl
  · refine r_in (R := rV) c6_1 ?_
    have kk := kk c6_1
    refine r_p (pc2 := 10) dX12_began_9 rfl rfl ?_
    refine r_get dX12_began_10 fkX12_98 rfl rfl ?_
    refine r_p (pc2 := 14) dX12_began_13 rfl rfl ?_
    refine r_get dX12_began_14 fkX12_358 rfl rfl ?_
    refine r_p (pc2 := 18) dX12_began_17 rfl rfl ?_
    obtain ⟨q1, kk⟩ := kk
    refine r_ias dX12_began_18 rfl q1 ?_
    refine r_p (pc2 := 20) dX12_began_19 rfl rfl ?_
    refine r_p (pc2 := 21) dX12_began_20 rfl rfl ?_
    refine r_get dX12_began_21 fkX12_358 rfl rfl ?_
    refine r_ci (x := 1) dX12_began_24 rfl ?_
    refine r_p (pc2 := 26) dX12_began_25 rfl rfl ?_
    refine r_put dX12_began_26 fkX12_358 rfl rfl rfl (Nat.le_of_ble_eq_true rfl) rfl rfl ?_
    exact r_qV dX12_began_29 rfl rfl
def x_m_markOf (T : St) (p0 : Int32) (p1 : Int32) : Int32 × St := jn (fun (KJ1 : Int32 × St) => if p1 = 5 then (KJ1) else (if p1 = 3 then (KJ1) else (if p1 = 6 then (KJ1) else (jn (fun (KJ5 : St → Int32 × St) => if (x_m_isOf T p1 4) = 0 then (KJ5 T) else (KJ5 (x_m_began T 21))) (fun (T305 : St) => if p1 = 3 then (p0 + (x_m_stepOf (x_m_began (x_m_began T305 20) 10) p0 1), x_m_began (x_m_began T305 20) 10) else (jn (fun (KJ6 : Int32 → Int32 × St) => if (x_m_isOf (x_m_began T305 20) p1 4) = 0 then (KJ6 p0) else (KJ6 (p0 + 50))) (fun (j6_s0 : Int32) => if p1 = 5 then (j6_s0 + (x_m_stepOf (x_m_began T305 20) p0 4), x_m_began T305 20) else (if p1 = 6 then (-j6_s0, x_m_began T305 20) else (j6_s0, x_m_began T305 20))))))))) (jn (fun (KJ2 : Int32 → Int32 × St) => if p1 = 5 then (KJ2 22) else (if p1 = 3 then (KJ2 23) else (KJ2 24))) (fun (j2_s1 : Int32) => jn (fun (KJ3 : St → Int32 × St) => if (x_m_isOf (x_m_began T j2_s1) p1 4) = 0 then (KJ3 (x_m_began T j2_s1)) else (KJ3 (x_m_began (x_m_began T j2_s1) 21))) (fun (T303 : St) => if p1 = 3 then (p0 + (x_m_stepOf (x_m_began (x_m_began T303 20) 10) p0 1), x_m_began (x_m_began T303 20) 10) else (jn (fun (KJ4 : Int32 → Int32 × St) => if (x_m_isOf (x_m_began T303 20) p1 4) = 0 then (KJ4 p0) else (KJ4 (p0 + 50))) (fun (j4_s0 : Int32) => if p1 = 5 then (j4_s0 + (x_m_stepOf (x_m_began T303 20) p0 4), x_m_began T303 20) else (if p1 = 6 then (-j4_s0, x_m_began T303 20) else (j4_s0, x_m_began T303 20)))))))
def ok_m_markOf (T : St) (p0 : Int32) (p1 : Int32) : Prop := jn (fun (OJ1 : Prop) => ((p1 = 5 → OJ1) ∧ (¬ p1 = 5 → ((p1 = 3 → OJ1) ∧ (¬ p1 = 3 → ((p1 = 6 → OJ1) ∧ (¬ p1 = 6 → jn (fun (OJ5 : St → Prop) => (((x_m_isOf T p1 4) = 0 → OJ5 T) ∧ (¬ (x_m_isOf T p1 4) = 0 → (ok_m_began T 21) ∧ OJ5 (x_m_began T 21)))) (fun (T305 : St) => (ok_m_began T305 20) ∧ ((p1 = 3 → (ok_m_began (x_m_began T305 20) 10) ∧ (ok_m_stepOf (x_m_began (x_m_began T305 20) 10) p0 1) ∧ True) ∧ (¬ p1 = 3 → jn (fun (OJ6 : Int32 → Prop) => (((x_m_isOf (x_m_began T305 20) p1 4) = 0 → OJ6 p0) ∧ (¬ (x_m_isOf (x_m_began T305 20) p1 4) = 0 → OJ6 (p0 + 50)))) (fun (j6_s0 : Int32) => (p1 = 5 → (ok_m_stepOf (x_m_began T305 20) p0 4) ∧ True)))))))))))) (jn (fun (OJ2 : Int32 → Prop) => ((p1 = 5 → OJ2 22) ∧ (¬ p1 = 5 → ((p1 = 3 → OJ2 23) ∧ (¬ p1 = 3 → OJ2 24))))) (fun (j2_s1 : Int32) => (ok_m_began T j2_s1) ∧ jn (fun (OJ3 : St → Prop) => (((x_m_isOf (x_m_began T j2_s1) p1 4) = 0 → OJ3 (x_m_began T j2_s1)) ∧ (¬ (x_m_isOf (x_m_began T j2_s1) p1 4) = 0 → (ok_m_began (x_m_began T j2_s1) 21) ∧ OJ3 (x_m_began (x_m_began T j2_s1) 21)))) (fun (T303 : St) => (ok_m_began T303 20) ∧ ((p1 = 3 → (ok_m_began (x_m_began T303 20) 10) ∧ (ok_m_stepOf (x_m_began (x_m_began T303 20) 10) p0 1) ∧ True) ∧ (¬ p1 = 3 → jn (fun (OJ4 : Int32 → Prop) => (((x_m_isOf (x_m_began T303 20) p1 4) = 0 → OJ4 p0) ∧ (¬ (x_m_isOf (x_m_began T303 20) p1 4) = 0 → OJ4 (p0 + 50)))) (fun (j4_s0 : Int32) => (p1 = 5 → (ok_m_stepOf (x_m_began T303 20) p0 4) ∧ True)))))))
theorem c_m_markOf {X : Nat × (Nat → Int32)} {T : St} (p0 : Int32) (p1 : Int32) (kk : ok_m_markOf T p0 p1) : tC X 2 mX12_markOf [.ref (571 : Nat), .int p0, .int p1] T (some (.int (x_m_markOf T p0 p1).1)) ((x_m_markOf T p0 p1).2) := by
  unfold ok_m_markOf at kk
  refine tC_orI (L := [some (.ref (571 : Nat)), some (.int p0), some (.int p1), none]) (x_m_markOf T p0 p1) rfl ?_
  unfold x_m_markOf
  refine r_p (pc2 := 1) dX12_markOf_0 rfl rfl ?_
  refine r_ci (x := 5) dX12_markOf_1 rfl ?_
  refine r_jn (R := rI) (J := fun (KJ1 : Int32 × St) (OJ1 : Prop) => OJ1 → tR X 1 mX12_markOf 16 [some (.ref (571 : Nat)), some (.int p0), some (.int p1), none] [] T (rI KJ1).1 (rI KJ1).2) kk (fun  kk => ?_) (fun KJ1 OJ1 hJ1 kk => ?_)
  · skip
    refine r_p (pc2 := 17) dX12_markOf_16 rfl rfl ?_
    refine r_p (pc2 := 18) dX12_markOf_17 rfl rfl ?_
    refine r_ci (x := 5) dX12_markOf_18 rfl ?_
    refine r_jn (R := rI) (J := fun (KJ2 : Int32 → Int32 × St) (OJ2 : Int32 → Prop) => ∀ (j2_s1 : Int32), OJ2 j2_s1 → tR X 1 mX12_markOf 39 [some (.ref (571 : Nat)), some (.int p0), some (.int p1), none] [.int j2_s1, .ref (571 : Nat)] T (rI (KJ2 j2_s1)).1 (rI (KJ2 j2_s1)).2) kk (fun j2_s1 kk => ?_) (fun KJ2 OJ2 hJ2 kk => ?_)
    · skip
      obtain ⟨q12, kk⟩ := kk
      refine r_cv (d1 := 1) dX12_markOf_39 cvX12_361 rfl rfl rfl rfl (Nat.le_of_ble_eq_true rfl) (Nat.le_of_ble_eq_true rfl) (Nat.le_of_ble_eq_true rfl) (c_m_began j2_s1 q12) ?_
      refine r_p (pc2 := 43) dX12_markOf_42 rfl rfl ?_
      refine r_ci (x := 4) dX12_markOf_43 rfl ?_
      refine r_cs (d1 := 1) dX12_markOf_44 csX12_355 rfl rfl (Nat.le_of_ble_eq_true rfl) (Nat.le_of_ble_eq_true rfl) (Nat.le_of_ble_eq_true rfl) (c_m_isOf p1 4) ?_
      refine r_jn (R := rI) (J := fun (KJ3 : St → Int32 × St) (OJ3 : St → Prop) => ∀ (T303 : St), OJ3 T303 → tR X 1 mX12_markOf 56 [some (.ref (571 : Nat)), some (.int p0), some (.int p1), none] [] T303 (rI (KJ3 T303)).1 (rI (KJ3 T303)).2) kk (fun T303 kk => ?_) (fun KJ3 OJ3 hJ3 kk => ?_)
      · skip
        refine r_p (pc2 := 57) dX12_markOf_56 rfl rfl ?_
        refine r_cb (x := 20) dX12_markOf_57 rfl ?_
        obtain ⟨q14, kk⟩ := kk
        refine r_cv (d1 := 1) dX12_markOf_59 cvX12_361 rfl rfl rfl rfl (Nat.le_of_ble_eq_true rfl) (Nat.le_of_ble_eq_true rfl) (Nat.le_of_ble_eq_true rfl) (c_m_began 20 q14) ?_
        refine r_p (pc2 := 63) dX12_markOf_62 rfl rfl ?_
        refine r_ci (x := 3) dX12_markOf_63 rfl ?_
        refine r_cne dX12_markOf_64 rfl (fun c64_20 => ?_) (fun c64_20 => ?_)
        · refine r_in (R := rI) c64_20 ?_
          have kk := kk.2 c64_20
          refine r_p (pc2 := 83) dX12_markOf_82 rfl rfl ?_
          refine r_ci (x := 4) dX12_markOf_83 rfl ?_
          refine r_cs (d1 := 1) dX12_markOf_84 csX12_355 rfl rfl (Nat.le_of_ble_eq_true rfl) (Nat.le_of_ble_eq_true rfl) (Nat.le_of_ble_eq_true rfl) (c_m_isOf p1 4) ?_
          refine r_jn (R := rI) (J := fun (KJ4 : Int32 → Int32 × St) (OJ4 : Int32 → Prop) => ∀ (j4_s0 : Int32), OJ4 j4_s0 → tR X 1 mX12_markOf 98 [some (.ref (571 : Nat)), some (.int p0), some (.int p1), none] [.int j4_s0] (x_m_began T303 20) (rI (KJ4 j4_s0)).1 (rI (KJ4 j4_s0)).2) kk (fun j4_s0 kk => ?_) (fun KJ4 OJ4 hJ4 kk => ?_)
          · skip
            refine r_p (pc2 := 99) (L2 := [some (.ref (571 : Nat)), some (.int p0), some (.int p1), some (.int j4_s0)]) dX12_markOf_98 rfl rfl ?_
            refine r_p (pc2 := 100) dX12_markOf_99 rfl rfl ?_
            refine r_ci (x := 5) dX12_markOf_100 rfl ?_
            refine r_cne dX12_markOf_101 rfl (fun c101_22 => ?_) (fun c101_22 => ?_)
            · refine r_in (R := rI) c101_22 ?_
              refine r_p (pc2 := 116) dX12_markOf_115 rfl rfl ?_
              refine r_cb (x := 6) dX12_markOf_116 rfl ?_
              refine r_cne dX12_markOf_118 rfl (fun c118_23 => ?_) (fun c118_23 => ?_)
              · refine r_in (R := rI) c118_23 ?_
                refine r_p (pc2 := 127) dX12_markOf_126 rfl rfl ?_
                exact r_qI dX12_markOf_127 rfl rfl rfl rfl
              · refine r_ip (R := rI) c118_23 ?_
                refine r_p (pc2 := 122) dX12_markOf_121 rfl rfl ?_
                refine r_p (pc2 := 123) dX12_markOf_122 rfl rfl ?_
                refine r_go dX12_markOf_123 rfl ?_
                exact r_qI dX12_markOf_127 rfl rfl rfl rfl
            · refine r_ip (R := rI) c101_22 ?_
              have kk := kk c101_22
              refine r_p (pc2 := 105) dX12_markOf_104 rfl rfl ?_
              refine r_p (pc2 := 106) dX12_markOf_105 rfl rfl ?_
              refine r_p (pc2 := 107) dX12_markOf_106 rfl rfl ?_
              refine r_ci (x := 4) dX12_markOf_107 rfl ?_
              obtain ⟨q15, kk⟩ := kk
              refine r_cv (d1 := 1) dX12_markOf_108 cvX12_232 rfl rfl rfl rfl (Nat.le_of_ble_eq_true rfl) (Nat.le_of_ble_eq_true rfl) (Nat.le_of_ble_eq_true rfl) (c_m_stepOf p0 4 q15) ?_
              refine r_p (pc2 := 112) dX12_markOf_111 rfl rfl ?_
              refine r_go dX12_markOf_112 rfl ?_
              exact r_qI dX12_markOf_127 rfl rfl rfl rfl
          refine r_ieq dX12_markOf_87 rfl (fun c87_24 => ?_) (fun c87_24 => ?_)
          · refine r_ip (R := rI) c87_24 ?_
            have kk := kk.1 c87_24
            refine r_p (pc2 := 98) dX12_markOf_97 rfl rfl ?_
            show tR _ _ _ _ [some (.ref (571 : Nat)), some (.int p0), some (.int p1), none] [.int p0] _ _ _
            exact (hJ4 p0 kk)
          · refine r_in (R := rI) c87_24 ?_
            have kk := kk.2 c87_24
            refine r_p (pc2 := 91) dX12_markOf_90 rfl rfl ?_
            refine r_cb (x := 50) dX12_markOf_91 rfl ?_
            refine r_p (pc2 := 94) dX12_markOf_93 rfl rfl ?_
            refine r_go dX12_markOf_94 rfl ?_
            show tR _ _ _ _ [some (.ref (571 : Nat)), some (.int p0), some (.int p1), none] [.int (p0 + 50)] _ _ _
            exact (hJ4 (p0 + 50) kk)
        · refine r_ip (R := rI) c64_20 ?_
          have kk := kk.1 c64_20
          refine r_p (pc2 := 68) dX12_markOf_67 rfl rfl ?_
          refine r_cb (x := 10) dX12_markOf_68 rfl ?_
          obtain ⟨q16, kk⟩ := kk
          refine r_cv (d1 := 1) dX12_markOf_70 cvX12_361 rfl rfl rfl rfl (Nat.le_of_ble_eq_true rfl) (Nat.le_of_ble_eq_true rfl) (Nat.le_of_ble_eq_true rfl) (c_m_began 10 q16) ?_
          refine r_p (pc2 := 74) dX12_markOf_73 rfl rfl ?_
          refine r_p (pc2 := 75) dX12_markOf_74 rfl rfl ?_
          refine r_p (pc2 := 76) dX12_markOf_75 rfl rfl ?_
          refine r_ci (x := 1) dX12_markOf_76 rfl ?_
          obtain ⟨q17, kk⟩ := kk
          refine r_cv (d1 := 1) dX12_markOf_77 cvX12_232 rfl rfl rfl rfl (Nat.le_of_ble_eq_true rfl) (Nat.le_of_ble_eq_true rfl) (Nat.le_of_ble_eq_true rfl) (c_m_stepOf p0 1 q17) ?_
          refine r_p (pc2 := 81) dX12_markOf_80 rfl rfl ?_
          exact r_qI dX12_markOf_81 rfl rfl rfl rfl
      refine r_ieq dX12_markOf_47 rfl (fun c47_25 => ?_) (fun c47_25 => ?_)
      · refine r_ip (R := rI) c47_25 ?_
        have kk := kk.1 c47_25
        show tR _ _ _ _ [some (.ref (571 : Nat)), some (.int p0), some (.int p1), none] [] _ _ _
        exact (hJ3 (x_m_began T j2_s1) kk)
      · refine r_in (R := rI) c47_25 ?_
        have kk := kk.2 c47_25
        refine r_p (pc2 := 51) dX12_markOf_50 rfl rfl ?_
        refine r_cb (x := 21) dX12_markOf_51 rfl ?_
        obtain ⟨q18, kk⟩ := kk
        refine r_cv (d1 := 1) dX12_markOf_53 cvX12_361 rfl rfl rfl rfl (Nat.le_of_ble_eq_true rfl) (Nat.le_of_ble_eq_true rfl) (Nat.le_of_ble_eq_true rfl) (c_m_began 21 q18) ?_
        show tR _ _ _ _ [some (.ref (571 : Nat)), some (.int p0), some (.int p1), none] [] _ _ _
        exact (hJ3 (x_m_began (x_m_began T j2_s1) 21) kk)
    refine r_cne dX12_markOf_19 rfl (fun c19_26 => ?_) (fun c19_26 => ?_)
    · refine r_in (R := rI) c19_26 ?_
      have kk := kk.2 c19_26
      refine r_p (pc2 := 28) dX12_markOf_27 rfl rfl ?_
      refine r_ci (x := 3) dX12_markOf_28 rfl ?_
      refine r_cne dX12_markOf_29 rfl (fun c29_27 => ?_) (fun c29_27 => ?_)
      · refine r_in (R := rI) c29_27 ?_
        have kk := kk.2 c29_27
        refine r_cb (x := 24) dX12_markOf_37 rfl ?_
        show tR _ _ _ _ [some (.ref (571 : Nat)), some (.int p0), some (.int p1), none] [.int 24, .ref (571 : Nat)] _ _ _
        exact (hJ2 24 kk)
      · refine r_ip (R := rI) c29_27 ?_
        have kk := kk.1 c29_27
        refine r_cb (x := 23) dX12_markOf_32 rfl ?_
        refine r_go dX12_markOf_34 rfl ?_
        show tR _ _ _ _ [some (.ref (571 : Nat)), some (.int p0), some (.int p1), none] [.int 23, .ref (571 : Nat)] _ _ _
        exact (hJ2 23 kk)
    · refine r_ip (R := rI) c19_26 ?_
      have kk := kk.1 c19_26
      refine r_cb (x := 22) dX12_markOf_22 rfl ?_
      refine r_go dX12_markOf_24 rfl ?_
      show tR _ _ _ _ [some (.ref (571 : Nat)), some (.int p0), some (.int p1), none] [.int 22, .ref (571 : Nat)] _ _ _
      exact (hJ2 22 kk)
  refine r_ceq dX12_markOf_2 rfl (fun c2_28 => ?_) (fun c2_28 => ?_)
  · refine r_ip (R := rI) c2_28 ?_
    have kk := kk.1 c2_28
    show tR _ _ _ _ [some (.ref (571 : Nat)), some (.int p0), some (.int p1), none] [] _ _ _
    exact (hJ1  kk)
  · refine r_in (R := rI) c2_28 ?_
    have kk := kk.2 c2_28
    refine r_p (pc2 := 6) dX12_markOf_5 rfl rfl ?_
    refine r_ci (x := 3) dX12_markOf_6 rfl ?_
    refine r_ceq dX12_markOf_7 rfl (fun c7_29 => ?_) (fun c7_29 => ?_)
    · refine r_ip (R := rI) c7_29 ?_
      have kk := kk.1 c7_29
      show tR _ _ _ _ [some (.ref (571 : Nat)), some (.int p0), some (.int p1), none] [] _ _ _
      exact (hJ1  kk)
    · refine r_in (R := rI) c7_29 ?_
      have kk := kk.2 c7_29
      refine r_p (pc2 := 11) dX12_markOf_10 rfl rfl ?_
      refine r_cb (x := 6) dX12_markOf_11 rfl ?_
      refine r_cne dX12_markOf_13 rfl (fun c13_30 => ?_) (fun c13_30 => ?_)
      · refine r_in (R := rI) c13_30 ?_
        have kk := kk.2 c13_30
        refine r_p (pc2 := 43) dX12_markOf_42 rfl rfl ?_
        refine r_ci (x := 4) dX12_markOf_43 rfl ?_
        refine r_cs (d1 := 1) dX12_markOf_44 csX12_355 rfl rfl (Nat.le_of_ble_eq_true rfl) (Nat.le_of_ble_eq_true rfl) (Nat.le_of_ble_eq_true rfl) (c_m_isOf p1 4) ?_
        refine r_jn (R := rI) (J := fun (KJ5 : St → Int32 × St) (OJ5 : St → Prop) => ∀ (T305 : St), OJ5 T305 → tR X 1 mX12_markOf 56 [some (.ref (571 : Nat)), some (.int p0), some (.int p1), none] [] T305 (rI (KJ5 T305)).1 (rI (KJ5 T305)).2) kk (fun T305 kk => ?_) (fun KJ5 OJ5 hJ5 kk => ?_)
        · skip
          refine r_p (pc2 := 57) dX12_markOf_56 rfl rfl ?_
          refine r_cb (x := 20) dX12_markOf_57 rfl ?_
          obtain ⟨q20, kk⟩ := kk
          refine r_cv (d1 := 1) dX12_markOf_59 cvX12_361 rfl rfl rfl rfl (Nat.le_of_ble_eq_true rfl) (Nat.le_of_ble_eq_true rfl) (Nat.le_of_ble_eq_true rfl) (c_m_began 20 q20) ?_
          refine r_p (pc2 := 63) dX12_markOf_62 rfl rfl ?_
          refine r_ci (x := 3) dX12_markOf_63 rfl ?_
          refine r_cne dX12_markOf_64 rfl (fun c64_32 => ?_) (fun c64_32 => ?_)
          · refine r_in (R := rI) c64_32 ?_
            have kk := kk.2 c64_32
            refine r_p (pc2 := 83) dX12_markOf_82 rfl rfl ?_
            refine r_ci (x := 4) dX12_markOf_83 rfl ?_
            refine r_cs (d1 := 1) dX12_markOf_84 csX12_355 rfl rfl (Nat.le_of_ble_eq_true rfl) (Nat.le_of_ble_eq_true rfl) (Nat.le_of_ble_eq_true rfl) (c_m_isOf p1 4) ?_
            refine r_jn (R := rI) (J := fun (KJ6 : Int32 → Int32 × St) (OJ6 : Int32 → Prop) => ∀ (j6_s0 : Int32), OJ6 j6_s0 → tR X 1 mX12_markOf 98 [some (.ref (571 : Nat)), some (.int p0), some (.int p1), none] [.int j6_s0] (x_m_began T305 20) (rI (KJ6 j6_s0)).1 (rI (KJ6 j6_s0)).2) kk (fun j6_s0 kk => ?_) (fun KJ6 OJ6 hJ6 kk => ?_)
            · skip
              refine r_p (pc2 := 99) (L2 := [some (.ref (571 : Nat)), some (.int p0), some (.int p1), some (.int j6_s0)]) dX12_markOf_98 rfl rfl ?_
              refine r_p (pc2 := 100) dX12_markOf_99 rfl rfl ?_
              refine r_ci (x := 5) dX12_markOf_100 rfl ?_
              refine r_cne dX12_markOf_101 rfl (fun c101_34 => ?_) (fun c101_34 => ?_)
              · refine r_in (R := rI) c101_34 ?_
                refine r_p (pc2 := 116) dX12_markOf_115 rfl rfl ?_
                refine r_cb (x := 6) dX12_markOf_116 rfl ?_
                refine r_cne dX12_markOf_118 rfl (fun c118_35 => ?_) (fun c118_35 => ?_)
                · refine r_in (R := rI) c118_35 ?_
                  refine r_p (pc2 := 127) dX12_markOf_126 rfl rfl ?_
                  exact r_qI dX12_markOf_127 rfl rfl rfl rfl
                · refine r_ip (R := rI) c118_35 ?_
                  refine r_p (pc2 := 122) dX12_markOf_121 rfl rfl ?_
                  refine r_p (pc2 := 123) dX12_markOf_122 rfl rfl ?_
                  refine r_go dX12_markOf_123 rfl ?_
                  exact r_qI dX12_markOf_127 rfl rfl rfl rfl
              · refine r_ip (R := rI) c101_34 ?_
                have kk := kk c101_34
                refine r_p (pc2 := 105) dX12_markOf_104 rfl rfl ?_
                refine r_p (pc2 := 106) dX12_markOf_105 rfl rfl ?_
                refine r_p (pc2 := 107) dX12_markOf_106 rfl rfl ?_
                refine r_ci (x := 4) dX12_markOf_107 rfl ?_
                obtain ⟨q21, kk⟩ := kk
                refine r_cv (d1 := 1) dX12_markOf_108 cvX12_232 rfl rfl rfl rfl (Nat.le_of_ble_eq_true rfl) (Nat.le_of_ble_eq_true rfl) (Nat.le_of_ble_eq_true rfl) (c_m_stepOf p0 4 q21) ?_
                refine r_p (pc2 := 112) dX12_markOf_111 rfl rfl ?_
                refine r_go dX12_markOf_112 rfl ?_
                exact r_qI dX12_markOf_127 rfl rfl rfl rfl
            refine r_ieq dX12_markOf_87 rfl (fun c87_36 => ?_) (fun c87_36 => ?_)
            · refine r_ip (R := rI) c87_36 ?_
              have kk := kk.1 c87_36
              refine r_p (pc2 := 98) dX12_markOf_97 rfl rfl ?_
              show tR _ _ _ _ [some (.ref (571 : Nat)), some (.int p0), some (.int p1), none] [.int p0] _ _ _
              exact (hJ6 p0 kk)
            · refine r_in (R := rI) c87_36 ?_
              have kk := kk.2 c87_36
              refine r_p (pc2 := 91) dX12_markOf_90 rfl rfl ?_
              refine r_cb (x := 50) dX12_markOf_91 rfl ?_
              refine r_p (pc2 := 94) dX12_markOf_93 rfl rfl ?_
              refine r_go dX12_markOf_94 rfl ?_
              show tR _ _ _ _ [some (.ref (571 : Nat)), some (.int p0), some (.int p1), none] [.int (p0 + 50)] _ _ _
              exact (hJ6 (p0 + 50) kk)
          · refine r_ip (R := rI) c64_32 ?_
            have kk := kk.1 c64_32
            refine r_p (pc2 := 68) dX12_markOf_67 rfl rfl ?_
            refine r_cb (x := 10) dX12_markOf_68 rfl ?_
            obtain ⟨q22, kk⟩ := kk
            refine r_cv (d1 := 1) dX12_markOf_70 cvX12_361 rfl rfl rfl rfl (Nat.le_of_ble_eq_true rfl) (Nat.le_of_ble_eq_true rfl) (Nat.le_of_ble_eq_true rfl) (c_m_began 10 q22) ?_
            refine r_p (pc2 := 74) dX12_markOf_73 rfl rfl ?_
            refine r_p (pc2 := 75) dX12_markOf_74 rfl rfl ?_
            refine r_p (pc2 := 76) dX12_markOf_75 rfl rfl ?_
            refine r_ci (x := 1) dX12_markOf_76 rfl ?_
            obtain ⟨q23, kk⟩ := kk
            refine r_cv (d1 := 1) dX12_markOf_77 cvX12_232 rfl rfl rfl rfl (Nat.le_of_ble_eq_true rfl) (Nat.le_of_ble_eq_true rfl) (Nat.le_of_ble_eq_true rfl) (c_m_stepOf p0 1 q23) ?_
            refine r_p (pc2 := 81) dX12_markOf_80 rfl rfl ?_
            exact r_qI dX12_markOf_81 rfl rfl rfl rfl
        refine r_ieq dX12_markOf_47 rfl (fun c47_37 => ?_) (fun c47_37 => ?_)
        · refine r_ip (R := rI) c47_37 ?_
          have kk := kk.1 c47_37
          show tR _ _ _ _ [some (.ref (571 : Nat)), some (.int p0), some (.int p1), none] [] _ _ _
          exact (hJ5 T kk)
        · refine r_in (R := rI) c47_37 ?_
          have kk := kk.2 c47_37
          refine r_p (pc2 := 51) dX12_markOf_50 rfl rfl ?_
          refine r_cb (x := 21) dX12_markOf_51 rfl ?_
          obtain ⟨q24, kk⟩ := kk
          refine r_cv (d1 := 1) dX12_markOf_53 cvX12_361 rfl rfl rfl rfl (Nat.le_of_ble_eq_true rfl) (Nat.le_of_ble_eq_true rfl) (Nat.le_of_ble_eq_true rfl) (c_m_began 21 q24) ?_
          show tR _ _ _ _ [some (.ref (571 : Nat)), some (.int p0), some (.int p1), none] [] _ _ _
          exact (hJ5 (x_m_began T 21) kk)
      · refine r_ip (R := rI) c13_30 ?_
        have kk := kk.1 c13_30
        show tR _ _ _ _ [some (.ref (571 : Nat)), some (.int p0), some (.int p1), none] [] _ _ _
        exact (hJ1  kk)
def x_m_sizeOf (T : St) (p0 : Int32) (p1 : Int32) : Int32 × St := jn (fun (KJ1 : Int32 × St) => if p1 = 6 then (KJ1) else (if p1 = 2 then (KJ1) else (if p1 = 5 then (KJ1) else (jn (fun (KJ5 : St → Int32 × St) => if (x_m_isOf T p1 1) = 0 then (KJ5 T) else (KJ5 (x_m_began T 11))) (fun (T305 : St) => jn (fun (KJ6 : Int32 → Int32 × St) => if (x_m_isOf T p1 1) = 0 then (KJ6 0) else (KJ6 (10 * (x_m_stepOf (x_m_began T305 10) p0 4)))) (fun (j6_s1 : Int32) => jn (fun (i7 : Int32) => if p1 = 6 then (2 * i7, x_m_began T305 10) else (if p1 = 2 then ((i7 + (x_m_stepOf (x_m_began T305 10) p0 5)) - (x_m_stepOf (x_m_began T305 10) p0 4), x_m_began T305 10) else (if p1 = 5 then (i7 - ((x_m_markOf (x_m_began T305 10) p0 p1).1), (x_m_markOf (x_m_began T305 10) p0 p1).2) else (i7, x_m_began T305 10)))) ((x_m_stepOf (x_m_began T305 10) p0 1) + j6_s1))))))) (jn (fun (KJ2 : Int32 → Int32 × St) => if p1 = 6 then (KJ2 12) else (if p1 = 2 then (KJ2 13) else (KJ2 14))) (fun (j2_s1 : Int32) => jn (fun (i5 : Int32) => jn (fun (KJ3 : St → Int32 × St) => if i5 = 0 then (KJ3 (x_m_began T j2_s1)) else (KJ3 (x_m_began (x_m_began T j2_s1) 11))) (fun (T303 : St) => jn (fun (KJ4 : Int32 → Int32 × St) => if i5 = 0 then (KJ4 0) else (KJ4 (10 * (x_m_stepOf (x_m_began T303 10) p0 4)))) (fun (j4_s1 : Int32) => jn (fun (i6 : Int32) => if p1 = 6 then (2 * i6, x_m_began T303 10) else (if p1 = 2 then ((i6 + (x_m_stepOf (x_m_began T303 10) p0 5)) - (x_m_stepOf (x_m_began T303 10) p0 4), x_m_began T303 10) else (if p1 = 5 then (i6 - ((x_m_markOf (x_m_began T303 10) p0 p1).1), (x_m_markOf (x_m_began T303 10) p0 p1).2) else (i6, x_m_began T303 10)))) ((x_m_stepOf (x_m_began T303 10) p0 1) + j4_s1)))) (x_m_isOf (x_m_began T j2_s1) p1 1)))
def ok_m_sizeOf (T : St) (p0 : Int32) (p1 : Int32) : Prop := jn (fun (OJ1 : Prop) => ((p1 = 6 → OJ1) ∧ (¬ p1 = 6 → ((p1 = 2 → OJ1) ∧ (¬ p1 = 2 → ((p1 = 5 → OJ1) ∧ (¬ p1 = 5 → jn (fun (OJ5 : St → Prop) => (((x_m_isOf T p1 1) = 0 → OJ5 T) ∧ (¬ (x_m_isOf T p1 1) = 0 → (ok_m_began T 11) ∧ OJ5 (x_m_began T 11)))) (fun (T305 : St) => (ok_m_began T305 10) ∧ (ok_m_stepOf (x_m_began T305 10) p0 1) ∧ jn (fun (OJ6 : Int32 → Prop) => (((x_m_isOf T p1 1) = 0 → OJ6 0) ∧ (¬ (x_m_isOf T p1 1) = 0 → (ok_m_stepOf (x_m_began T305 10) p0 4) ∧ OJ6 (10 * (x_m_stepOf (x_m_began T305 10) p0 4))))) (fun (j6_s1 : Int32) => jn (fun (i7 : Int32) => (¬ p1 = 6 → ((p1 = 2 → (ok_m_stepOf (x_m_began T305 10) p0 5) ∧ (ok_m_stepOf (x_m_began T305 10) p0 4) ∧ True) ∧ (¬ p1 = 2 → (p1 = 5 → (ok_m_markOf (x_m_began T305 10) p0 p1) ∧ True))))) ((x_m_stepOf (x_m_began T305 10) p0 1) + j6_s1)))))))))) (jn (fun (OJ2 : Int32 → Prop) => ((p1 = 6 → OJ2 12) ∧ (¬ p1 = 6 → ((p1 = 2 → OJ2 13) ∧ (¬ p1 = 2 → OJ2 14))))) (fun (j2_s1 : Int32) => (ok_m_began T j2_s1) ∧ jn (fun (i5 : Int32) => jn (fun (OJ3 : St → Prop) => ((i5 = 0 → OJ3 (x_m_began T j2_s1)) ∧ (¬ i5 = 0 → (ok_m_began (x_m_began T j2_s1) 11) ∧ OJ3 (x_m_began (x_m_began T j2_s1) 11)))) (fun (T303 : St) => (ok_m_began T303 10) ∧ (ok_m_stepOf (x_m_began T303 10) p0 1) ∧ jn (fun (OJ4 : Int32 → Prop) => ((i5 = 0 → OJ4 0) ∧ (¬ i5 = 0 → (ok_m_stepOf (x_m_began T303 10) p0 4) ∧ OJ4 (10 * (x_m_stepOf (x_m_began T303 10) p0 4))))) (fun (j4_s1 : Int32) => jn (fun (i6 : Int32) => (¬ p1 = 6 → ((p1 = 2 → (ok_m_stepOf (x_m_began T303 10) p0 5) ∧ (ok_m_stepOf (x_m_began T303 10) p0 4) ∧ True) ∧ (¬ p1 = 2 → (p1 = 5 → (ok_m_markOf (x_m_began T303 10) p0 p1) ∧ True))))) ((x_m_stepOf (x_m_began T303 10) p0 1) + j4_s1)))) (x_m_isOf (x_m_began T j2_s1) p1 1)))
theorem c_m_sizeOf {X : Nat × (Nat → Int32)} {T : St} (p0 : Int32) (p1 : Int32) (kk : ok_m_sizeOf T p0 p1) : tC X 3 mX12_sizeOf [.ref (571 : Nat), .int p0, .int p1] T (some (.int (x_m_sizeOf T p0 p1).1)) ((x_m_sizeOf T p0 p1).2) := by
  unfold ok_m_sizeOf at kk
  refine tC_orI (L := [some (.ref (571 : Nat)), some (.int p0), some (.int p1), none, none]) (x_m_sizeOf T p0 p1) rfl ?_
  unfold x_m_sizeOf
  refine r_p (pc2 := 1) dX12_sizeOf_0 rfl rfl ?_
  refine r_cb (x := 6) dX12_sizeOf_1 rfl ?_
  refine r_jn (R := rI) (J := fun (KJ1 : Int32 × St) (OJ1 : Prop) => OJ1 → tR X 2 mX12_sizeOf 16 [some (.ref (571 : Nat)), some (.int p0), some (.int p1), none, none] [] T (rI KJ1).1 (rI KJ1).2) kk (fun  kk => ?_) (fun KJ1 OJ1 hJ1 kk => ?_)
  · skip
    refine r_p (pc2 := 17) dX12_sizeOf_16 rfl rfl ?_
    refine r_p (pc2 := 18) dX12_sizeOf_17 rfl rfl ?_
    refine r_cb (x := 6) dX12_sizeOf_18 rfl ?_
    refine r_jn (R := rI) (J := fun (KJ2 : Int32 → Int32 × St) (OJ2 : Int32 → Prop) => ∀ (j2_s1 : Int32), OJ2 j2_s1 → tR X 2 mX12_sizeOf 40 [some (.ref (571 : Nat)), some (.int p0), some (.int p1), none, none] [.int j2_s1, .ref (571 : Nat)] T (rI (KJ2 j2_s1)).1 (rI (KJ2 j2_s1)).2) kk (fun j2_s1 kk => ?_) (fun KJ2 OJ2 hJ2 kk => ?_)
    · skip
      obtain ⟨q18, kk⟩ := kk
      refine r_cv (d1 := 1) dX12_sizeOf_40 cvX12_361 rfl rfl rfl rfl (Nat.le_of_ble_eq_true rfl) (Nat.le_of_ble_eq_true rfl) (Nat.le_of_ble_eq_true rfl) (c_m_began j2_s1 q18) ?_
      refine r_p (pc2 := 44) dX12_sizeOf_43 rfl rfl ?_
      refine r_ci (x := 1) dX12_sizeOf_44 rfl ?_
      refine r_cs (d1 := 1) dX12_sizeOf_45 csX12_355 rfl rfl (Nat.le_of_ble_eq_true rfl) (Nat.le_of_ble_eq_true rfl) (Nat.le_of_ble_eq_true rfl) (c_m_isOf p1 1) ?_
      refine r_nI (R := rI) rfl kk (fun i5 kk => ?_)
      refine r_p (pc2 := 49) (L2 := [some (.ref (571 : Nat)), some (.int p0), some (.int p1), some (.int i5), none]) dX12_sizeOf_48 rfl rfl ?_
      refine r_p (pc2 := 50) dX12_sizeOf_49 rfl rfl ?_
      refine r_jn (R := rI) (J := fun (KJ3 : St → Int32 × St) (OJ3 : St → Prop) => ∀ (T303 : St), OJ3 T303 → tR X 2 mX12_sizeOf 59 [some (.ref (571 : Nat)), some (.int p0), some (.int p1), some (.int i5), none] [] T303 (rI (KJ3 T303)).1 (rI (KJ3 T303)).2) kk (fun T303 kk => ?_) (fun KJ3 OJ3 hJ3 kk => ?_)
      · skip
        refine r_p (pc2 := 60) dX12_sizeOf_59 rfl rfl ?_
        refine r_cb (x := 10) dX12_sizeOf_60 rfl ?_
        obtain ⟨q20, kk⟩ := kk
        refine r_cv (d1 := 1) dX12_sizeOf_62 cvX12_361 rfl rfl rfl rfl (Nat.le_of_ble_eq_true rfl) (Nat.le_of_ble_eq_true rfl) (Nat.le_of_ble_eq_true rfl) (c_m_began 10 q20) ?_
        refine r_p (pc2 := 66) dX12_sizeOf_65 rfl rfl ?_
        refine r_p (pc2 := 67) dX12_sizeOf_66 rfl rfl ?_
        refine r_ci (x := 1) dX12_sizeOf_67 rfl ?_
        obtain ⟨q21, kk⟩ := kk
        refine r_cv (d1 := 1) dX12_sizeOf_68 cvX12_232 rfl rfl rfl rfl (Nat.le_of_ble_eq_true rfl) (Nat.le_of_ble_eq_true rfl) (Nat.le_of_ble_eq_true rfl) (c_m_stepOf p0 1 q21) ?_
        refine r_p (pc2 := 72) dX12_sizeOf_71 rfl rfl ?_
        refine r_jn (R := rI) (J := fun (KJ4 : Int32 → Int32 × St) (OJ4 : Int32 → Prop) => ∀ (j4_s1 : Int32), OJ4 j4_s1 → tR X 2 mX12_sizeOf 88 [some (.ref (571 : Nat)), some (.int p0), some (.int p1), some (.int i5), none] [.int j4_s1, .int (x_m_stepOf (x_m_began T303 10) p0 1)] (x_m_began T303 10) (rI (KJ4 j4_s1)).1 (rI (KJ4 j4_s1)).2) kk (fun j4_s1 kk => ?_) (fun KJ4 OJ4 hJ4 kk => ?_)
        · skip
          refine r_p (pc2 := 89) dX12_sizeOf_88 rfl rfl ?_
          refine r_nI (R := rI) rfl kk (fun i6 kk => ?_)
          refine r_p (pc2 := 91) (L2 := [some (.ref (571 : Nat)), some (.int p0), some (.int p1), some (.int i5), some (.int i6)]) dX12_sizeOf_89 rfl rfl ?_
          refine r_p (pc2 := 92) dX12_sizeOf_91 rfl rfl ?_
          refine r_cb (x := 6) dX12_sizeOf_92 rfl ?_
          refine r_cne dX12_sizeOf_94 rfl (fun c94_23 => ?_) (fun c94_23 => ?_)
          · refine r_in (R := rI) c94_23 ?_
            have kk := kk c94_23
            refine r_p (pc2 := 105) dX12_sizeOf_104 rfl rfl ?_
            refine r_ci (x := 2) dX12_sizeOf_105 rfl ?_
            refine r_cne dX12_sizeOf_106 rfl (fun c106_24 => ?_) (fun c106_24 => ?_)
            · refine r_in (R := rI) c106_24 ?_
              have kk := kk.2 c106_24
              refine r_p (pc2 := 129) dX12_sizeOf_128 rfl rfl ?_
              refine r_ci (x := 5) dX12_sizeOf_129 rfl ?_
              refine r_cne dX12_sizeOf_130 rfl (fun c130_25 => ?_) (fun c130_25 => ?_)
              · refine r_in (R := rI) c130_25 ?_
                refine r_p (pc2 := 147) dX12_sizeOf_145 rfl rfl ?_
                exact r_qI dX12_sizeOf_147 rfl rfl rfl rfl
              · refine r_ip (R := rI) c130_25 ?_
                have kk := kk c130_25
                refine r_p (pc2 := 135) dX12_sizeOf_133 rfl rfl ?_
                refine r_p (pc2 := 136) dX12_sizeOf_135 rfl rfl ?_
                refine r_p (pc2 := 137) dX12_sizeOf_136 rfl rfl ?_
                refine r_p (pc2 := 138) dX12_sizeOf_137 rfl rfl ?_
                obtain ⟨q23, kk⟩ := kk
                refine r_cv (d1 := 2) dX12_sizeOf_138 cvX12_364 rfl rfl rfl rfl (Nat.le_of_ble_eq_true rfl) (Nat.le_of_ble_eq_true rfl) (Nat.le_of_ble_eq_true rfl) (c_m_markOf p0 p1 q23) ?_
                refine r_p (pc2 := 142) dX12_sizeOf_141 rfl rfl ?_
                refine r_go dX12_sizeOf_142 rfl ?_
                exact r_qI dX12_sizeOf_147 rfl rfl rfl rfl
            · refine r_ip (R := rI) c106_24 ?_
              have kk := kk.1 c106_24
              refine r_p (pc2 := 111) dX12_sizeOf_109 rfl rfl ?_
              refine r_p (pc2 := 112) dX12_sizeOf_111 rfl rfl ?_
              refine r_p (pc2 := 113) dX12_sizeOf_112 rfl rfl ?_
              refine r_ci (x := 5) dX12_sizeOf_113 rfl ?_
              obtain ⟨q24, kk⟩ := kk
              refine r_cv (d1 := 1) dX12_sizeOf_114 cvX12_232 rfl rfl rfl rfl (Nat.le_of_ble_eq_true rfl) (Nat.le_of_ble_eq_true rfl) (Nat.le_of_ble_eq_true rfl) (c_m_stepOf p0 5 q24) ?_
              refine r_p (pc2 := 118) dX12_sizeOf_117 rfl rfl ?_
              refine r_p (pc2 := 119) dX12_sizeOf_118 rfl rfl ?_
              refine r_p (pc2 := 120) dX12_sizeOf_119 rfl rfl ?_
              refine r_ci (x := 4) dX12_sizeOf_120 rfl ?_
              obtain ⟨q25, kk⟩ := kk
              refine r_cv (d1 := 1) dX12_sizeOf_121 cvX12_232 rfl rfl rfl rfl (Nat.le_of_ble_eq_true rfl) (Nat.le_of_ble_eq_true rfl) (Nat.le_of_ble_eq_true rfl) (c_m_stepOf p0 4 q25) ?_
              refine r_p (pc2 := 125) dX12_sizeOf_124 rfl rfl ?_
              refine r_go dX12_sizeOf_125 rfl ?_
              exact r_qI dX12_sizeOf_147 rfl rfl rfl rfl
          · refine r_ip (R := rI) c94_23 ?_
            refine r_ci (x := 2) dX12_sizeOf_97 rfl ?_
            refine r_p (pc2 := 100) dX12_sizeOf_98 rfl rfl ?_
            refine r_p (pc2 := 101) dX12_sizeOf_100 rfl rfl ?_
            refine r_go dX12_sizeOf_101 rfl ?_
            exact r_qI dX12_sizeOf_147 rfl rfl rfl rfl
        refine r_ieq dX12_sizeOf_72 rfl (fun c72_26 => ?_) (fun c72_26 => ?_)
        · refine r_ip (R := rI) c72_26 ?_
          have kk := kk.1 c72_26
          refine r_ci (x := 0) dX12_sizeOf_87 rfl ?_
          show tR _ _ _ _ [some (.ref (571 : Nat)), some (.int p0), some (.int p1), some (.int i5), none] [.int 0, .int (x_m_stepOf (x_m_began T303 10) p0 1)] _ _ _
          exact (hJ4 0 kk)
        · refine r_in (R := rI) c72_26 ?_
          have kk := kk.2 c72_26
          refine r_cb (x := 10) dX12_sizeOf_75 rfl ?_
          refine r_p (pc2 := 78) dX12_sizeOf_77 rfl rfl ?_
          refine r_p (pc2 := 79) dX12_sizeOf_78 rfl rfl ?_
          refine r_ci (x := 4) dX12_sizeOf_79 rfl ?_
          obtain ⟨q26, kk⟩ := kk
          refine r_cv (d1 := 1) dX12_sizeOf_80 cvX12_232 rfl rfl rfl rfl (Nat.le_of_ble_eq_true rfl) (Nat.le_of_ble_eq_true rfl) (Nat.le_of_ble_eq_true rfl) (c_m_stepOf p0 4 q26) ?_
          refine r_p (pc2 := 84) dX12_sizeOf_83 rfl rfl ?_
          refine r_go dX12_sizeOf_84 rfl ?_
          show tR _ _ _ _ [some (.ref (571 : Nat)), some (.int p0), some (.int p1), some (.int i5), none] [.int (10 * (x_m_stepOf (x_m_began T303 10) p0 4)), .int (x_m_stepOf (x_m_began T303 10) p0 1)] _ _ _
          exact (hJ4 (10 * (x_m_stepOf (x_m_began T303 10) p0 4)) kk)
      refine r_ieq dX12_sizeOf_50 rfl (fun c50_27 => ?_) (fun c50_27 => ?_)
      · refine r_ip (R := rI) c50_27 ?_
        have kk := kk.1 c50_27
        show tR _ _ _ _ [some (.ref (571 : Nat)), some (.int p0), some (.int p1), some (.int i5), none] [] _ _ _
        exact (hJ3 (x_m_began T j2_s1) kk)
      · refine r_in (R := rI) c50_27 ?_
        have kk := kk.2 c50_27
        refine r_p (pc2 := 54) dX12_sizeOf_53 rfl rfl ?_
        refine r_cb (x := 11) dX12_sizeOf_54 rfl ?_
        obtain ⟨q27, kk⟩ := kk
        refine r_cv (d1 := 1) dX12_sizeOf_56 cvX12_361 rfl rfl rfl rfl (Nat.le_of_ble_eq_true rfl) (Nat.le_of_ble_eq_true rfl) (Nat.le_of_ble_eq_true rfl) (c_m_began 11 q27) ?_
        show tR _ _ _ _ [some (.ref (571 : Nat)), some (.int p0), some (.int p1), some (.int i5), none] [] _ _ _
        exact (hJ3 (x_m_began (x_m_began T j2_s1) 11) kk)
    refine r_cne dX12_sizeOf_20 rfl (fun c20_28 => ?_) (fun c20_28 => ?_)
    · refine r_in (R := rI) c20_28 ?_
      have kk := kk.2 c20_28
      refine r_p (pc2 := 29) dX12_sizeOf_28 rfl rfl ?_
      refine r_ci (x := 2) dX12_sizeOf_29 rfl ?_
      refine r_cne dX12_sizeOf_30 rfl (fun c30_29 => ?_) (fun c30_29 => ?_)
      · refine r_in (R := rI) c30_29 ?_
        have kk := kk.2 c30_29
        refine r_cb (x := 14) dX12_sizeOf_38 rfl ?_
        show tR _ _ _ _ [some (.ref (571 : Nat)), some (.int p0), some (.int p1), none, none] [.int 14, .ref (571 : Nat)] _ _ _
        exact (hJ2 14 kk)
      · refine r_ip (R := rI) c30_29 ?_
        have kk := kk.1 c30_29
        refine r_cb (x := 13) dX12_sizeOf_33 rfl ?_
        refine r_go dX12_sizeOf_35 rfl ?_
        show tR _ _ _ _ [some (.ref (571 : Nat)), some (.int p0), some (.int p1), none, none] [.int 13, .ref (571 : Nat)] _ _ _
        exact (hJ2 13 kk)
    · refine r_ip (R := rI) c20_28 ?_
      have kk := kk.1 c20_28
      refine r_cb (x := 12) dX12_sizeOf_23 rfl ?_
      refine r_go dX12_sizeOf_25 rfl ?_
      show tR _ _ _ _ [some (.ref (571 : Nat)), some (.int p0), some (.int p1), none, none] [.int 12, .ref (571 : Nat)] _ _ _
      exact (hJ2 12 kk)
  refine r_ceq dX12_sizeOf_3 rfl (fun c3_30 => ?_) (fun c3_30 => ?_)
  · refine r_ip (R := rI) c3_30 ?_
    have kk := kk.1 c3_30
    show tR _ _ _ _ [some (.ref (571 : Nat)), some (.int p0), some (.int p1), none, none] [] _ _ _
    exact (hJ1  kk)
  · refine r_in (R := rI) c3_30 ?_
    have kk := kk.2 c3_30
    refine r_p (pc2 := 7) dX12_sizeOf_6 rfl rfl ?_
    refine r_ci (x := 2) dX12_sizeOf_7 rfl ?_
    refine r_ceq dX12_sizeOf_8 rfl (fun c8_31 => ?_) (fun c8_31 => ?_)
    · refine r_ip (R := rI) c8_31 ?_
      have kk := kk.1 c8_31
      show tR _ _ _ _ [some (.ref (571 : Nat)), some (.int p0), some (.int p1), none, none] [] _ _ _
      exact (hJ1  kk)
    · refine r_in (R := rI) c8_31 ?_
      have kk := kk.2 c8_31
      refine r_p (pc2 := 12) dX12_sizeOf_11 rfl rfl ?_
      refine r_ci (x := 5) dX12_sizeOf_12 rfl ?_
      refine r_cne dX12_sizeOf_13 rfl (fun c13_32 => ?_) (fun c13_32 => ?_)
      · refine r_in (R := rI) c13_32 ?_
        have kk := kk.2 c13_32
        refine r_p (pc2 := 44) dX12_sizeOf_43 rfl rfl ?_
        refine r_ci (x := 1) dX12_sizeOf_44 rfl ?_
        refine r_cs (d1 := 1) dX12_sizeOf_45 csX12_355 rfl rfl (Nat.le_of_ble_eq_true rfl) (Nat.le_of_ble_eq_true rfl) (Nat.le_of_ble_eq_true rfl) (c_m_isOf p1 1) ?_
        refine r_p (pc2 := 49) (L2 := [some (.ref (571 : Nat)), some (.int p0), some (.int p1), some (.int (x_m_isOf T p1 1)), none]) dX12_sizeOf_48 rfl rfl ?_
        refine r_p (pc2 := 50) dX12_sizeOf_49 rfl rfl ?_
        refine r_jn (R := rI) (J := fun (KJ5 : St → Int32 × St) (OJ5 : St → Prop) => ∀ (T305 : St), OJ5 T305 → tR X 2 mX12_sizeOf 59 [some (.ref (571 : Nat)), some (.int p0), some (.int p1), some (.int (x_m_isOf T p1 1)), none] [] T305 (rI (KJ5 T305)).1 (rI (KJ5 T305)).2) kk (fun T305 kk => ?_) (fun KJ5 OJ5 hJ5 kk => ?_)
        · skip
          refine r_p (pc2 := 60) dX12_sizeOf_59 rfl rfl ?_
          refine r_cb (x := 10) dX12_sizeOf_60 rfl ?_
          obtain ⟨q29, kk⟩ := kk
          refine r_cv (d1 := 1) dX12_sizeOf_62 cvX12_361 rfl rfl rfl rfl (Nat.le_of_ble_eq_true rfl) (Nat.le_of_ble_eq_true rfl) (Nat.le_of_ble_eq_true rfl) (c_m_began 10 q29) ?_
          refine r_p (pc2 := 66) dX12_sizeOf_65 rfl rfl ?_
          refine r_p (pc2 := 67) dX12_sizeOf_66 rfl rfl ?_
          refine r_ci (x := 1) dX12_sizeOf_67 rfl ?_
          obtain ⟨q30, kk⟩ := kk
          refine r_cv (d1 := 1) dX12_sizeOf_68 cvX12_232 rfl rfl rfl rfl (Nat.le_of_ble_eq_true rfl) (Nat.le_of_ble_eq_true rfl) (Nat.le_of_ble_eq_true rfl) (c_m_stepOf p0 1 q30) ?_
          refine r_p (pc2 := 72) dX12_sizeOf_71 rfl rfl ?_
          refine r_jn (R := rI) (J := fun (KJ6 : Int32 → Int32 × St) (OJ6 : Int32 → Prop) => ∀ (j6_s1 : Int32), OJ6 j6_s1 → tR X 2 mX12_sizeOf 88 [some (.ref (571 : Nat)), some (.int p0), some (.int p1), some (.int (x_m_isOf T p1 1)), none] [.int j6_s1, .int (x_m_stepOf (x_m_began T305 10) p0 1)] (x_m_began T305 10) (rI (KJ6 j6_s1)).1 (rI (KJ6 j6_s1)).2) kk (fun j6_s1 kk => ?_) (fun KJ6 OJ6 hJ6 kk => ?_)
          · skip
            refine r_p (pc2 := 89) dX12_sizeOf_88 rfl rfl ?_
            refine r_nI (R := rI) rfl kk (fun i7 kk => ?_)
            refine r_p (pc2 := 91) (L2 := [some (.ref (571 : Nat)), some (.int p0), some (.int p1), some (.int (x_m_isOf T p1 1)), some (.int i7)]) dX12_sizeOf_89 rfl rfl ?_
            refine r_p (pc2 := 92) dX12_sizeOf_91 rfl rfl ?_
            refine r_cb (x := 6) dX12_sizeOf_92 rfl ?_
            refine r_cne dX12_sizeOf_94 rfl (fun c94_35 => ?_) (fun c94_35 => ?_)
            · refine r_in (R := rI) c94_35 ?_
              have kk := kk c94_35
              refine r_p (pc2 := 105) dX12_sizeOf_104 rfl rfl ?_
              refine r_ci (x := 2) dX12_sizeOf_105 rfl ?_
              refine r_cne dX12_sizeOf_106 rfl (fun c106_36 => ?_) (fun c106_36 => ?_)
              · refine r_in (R := rI) c106_36 ?_
                have kk := kk.2 c106_36
                refine r_p (pc2 := 129) dX12_sizeOf_128 rfl rfl ?_
                refine r_ci (x := 5) dX12_sizeOf_129 rfl ?_
                refine r_cne dX12_sizeOf_130 rfl (fun c130_37 => ?_) (fun c130_37 => ?_)
                · refine r_in (R := rI) c130_37 ?_
                  refine r_p (pc2 := 147) dX12_sizeOf_145 rfl rfl ?_
                  exact r_qI dX12_sizeOf_147 rfl rfl rfl rfl
                · refine r_ip (R := rI) c130_37 ?_
                  have kk := kk c130_37
                  refine r_p (pc2 := 135) dX12_sizeOf_133 rfl rfl ?_
                  refine r_p (pc2 := 136) dX12_sizeOf_135 rfl rfl ?_
                  refine r_p (pc2 := 137) dX12_sizeOf_136 rfl rfl ?_
                  refine r_p (pc2 := 138) dX12_sizeOf_137 rfl rfl ?_
                  obtain ⟨q32, kk⟩ := kk
                  refine r_cv (d1 := 2) dX12_sizeOf_138 cvX12_364 rfl rfl rfl rfl (Nat.le_of_ble_eq_true rfl) (Nat.le_of_ble_eq_true rfl) (Nat.le_of_ble_eq_true rfl) (c_m_markOf p0 p1 q32) ?_
                  refine r_p (pc2 := 142) dX12_sizeOf_141 rfl rfl ?_
                  refine r_go dX12_sizeOf_142 rfl ?_
                  exact r_qI dX12_sizeOf_147 rfl rfl rfl rfl
              · refine r_ip (R := rI) c106_36 ?_
                have kk := kk.1 c106_36
                refine r_p (pc2 := 111) dX12_sizeOf_109 rfl rfl ?_
                refine r_p (pc2 := 112) dX12_sizeOf_111 rfl rfl ?_
                refine r_p (pc2 := 113) dX12_sizeOf_112 rfl rfl ?_
                refine r_ci (x := 5) dX12_sizeOf_113 rfl ?_
                obtain ⟨q33, kk⟩ := kk
                refine r_cv (d1 := 1) dX12_sizeOf_114 cvX12_232 rfl rfl rfl rfl (Nat.le_of_ble_eq_true rfl) (Nat.le_of_ble_eq_true rfl) (Nat.le_of_ble_eq_true rfl) (c_m_stepOf p0 5 q33) ?_
                refine r_p (pc2 := 118) dX12_sizeOf_117 rfl rfl ?_
                refine r_p (pc2 := 119) dX12_sizeOf_118 rfl rfl ?_
                refine r_p (pc2 := 120) dX12_sizeOf_119 rfl rfl ?_
                refine r_ci (x := 4) dX12_sizeOf_120 rfl ?_
                obtain ⟨q34, kk⟩ := kk
                refine r_cv (d1 := 1) dX12_sizeOf_121 cvX12_232 rfl rfl rfl rfl (Nat.le_of_ble_eq_true rfl) (Nat.le_of_ble_eq_true rfl) (Nat.le_of_ble_eq_true rfl) (c_m_stepOf p0 4 q34) ?_
                refine r_p (pc2 := 125) dX12_sizeOf_124 rfl rfl ?_
                refine r_go dX12_sizeOf_125 rfl ?_
                exact r_qI dX12_sizeOf_147 rfl rfl rfl rfl
            · refine r_ip (R := rI) c94_35 ?_
              refine r_ci (x := 2) dX12_sizeOf_97 rfl ?_
              refine r_p (pc2 := 100) dX12_sizeOf_98 rfl rfl ?_
              refine r_p (pc2 := 101) dX12_sizeOf_100 rfl rfl ?_
              refine r_go dX12_sizeOf_101 rfl ?_
              exact r_qI dX12_sizeOf_147 rfl rfl rfl rfl
          refine r_ieq dX12_sizeOf_72 rfl (fun c72_38 => ?_) (fun c72_38 => ?_)
          · refine r_ip (R := rI) c72_38 ?_
            have kk := kk.1 c72_38
            refine r_ci (x := 0) dX12_sizeOf_87 rfl ?_
            show tR _ _ _ _ [some (.ref (571 : Nat)), some (.int p0), some (.int p1), some (.int (x_m_isOf T p1 1)), none] [.int 0, .int (x_m_stepOf (x_m_began T305 10) p0 1)] _ _ _
            exact (hJ6 0 kk)
          · refine r_in (R := rI) c72_38 ?_
            have kk := kk.2 c72_38
            refine r_cb (x := 10) dX12_sizeOf_75 rfl ?_
            refine r_p (pc2 := 78) dX12_sizeOf_77 rfl rfl ?_
            refine r_p (pc2 := 79) dX12_sizeOf_78 rfl rfl ?_
            refine r_ci (x := 4) dX12_sizeOf_79 rfl ?_
            obtain ⟨q35, kk⟩ := kk
            refine r_cv (d1 := 1) dX12_sizeOf_80 cvX12_232 rfl rfl rfl rfl (Nat.le_of_ble_eq_true rfl) (Nat.le_of_ble_eq_true rfl) (Nat.le_of_ble_eq_true rfl) (c_m_stepOf p0 4 q35) ?_
            refine r_p (pc2 := 84) dX12_sizeOf_83 rfl rfl ?_
            refine r_go dX12_sizeOf_84 rfl ?_
            show tR _ _ _ _ [some (.ref (571 : Nat)), some (.int p0), some (.int p1), some (.int (x_m_isOf T p1 1)), none] [.int (10 * (x_m_stepOf (x_m_began T305 10) p0 4)), .int (x_m_stepOf (x_m_began T305 10) p0 1)] _ _ _
            exact (hJ6 (10 * (x_m_stepOf (x_m_began T305 10) p0 4)) kk)
        refine r_ieq dX12_sizeOf_50 rfl (fun c50_39 => ?_) (fun c50_39 => ?_)
        · refine r_ip (R := rI) c50_39 ?_
          have kk := kk.1 c50_39
          show tR _ _ _ _ [some (.ref (571 : Nat)), some (.int p0), some (.int p1), some (.int (x_m_isOf T p1 1)), none] [] _ _ _
          exact (hJ5 T kk)
        · refine r_in (R := rI) c50_39 ?_
          have kk := kk.2 c50_39
          refine r_p (pc2 := 54) dX12_sizeOf_53 rfl rfl ?_
          refine r_cb (x := 11) dX12_sizeOf_54 rfl ?_
          obtain ⟨q36, kk⟩ := kk
          refine r_cv (d1 := 1) dX12_sizeOf_56 cvX12_361 rfl rfl rfl rfl (Nat.le_of_ble_eq_true rfl) (Nat.le_of_ble_eq_true rfl) (Nat.le_of_ble_eq_true rfl) (c_m_began 11 q36) ?_
          show tR _ _ _ _ [some (.ref (571 : Nat)), some (.int p0), some (.int p1), some (.int (x_m_isOf T p1 1)), none] [] _ _ _
          exact (hJ5 (x_m_began T 11) kk)
      · refine r_ip (R := rI) c13_32 ?_
        have kk := kk.1 c13_32
        show tR _ _ _ _ [some (.ref (571 : Nat)), some (.int p0), some (.int p1), none, none] [] _ _ _
        exact (hJ1  kk)
def x_m_ask (T : St) (p0 : Int32) (p1 : Int32) : Int32 × St := if (x_m_isStep (sF T 571 0 0) p0) = 0 then ((-1000001), sF T 571 0 0) else (if (x_m_in (sF T 571 0 0) ((p1 : Int32).toInt64) 0 1) = 0 then ((-1000001), sF T 571 0 0) else (if p1 = 0 then (jn (fun (T1 : St) => ((x_m_sizeOf (sF (sF T 571 0 0) 571 48 0) p0 (x_m_kindOf (sF (sF T 571 0 0) 571 48 0) p0)).1, T1)) ((x_m_sizeOf (sF (sF T 571 0 0) 571 48 0) p0 (x_m_kindOf (sF (sF T 571 0 0) 571 48 0) p0)).2)) else ((x_m_markOf (sF (sF T 571 0 0) 571 48 0) p0 (x_m_kindOf (sF (sF T 571 0 0) 571 48 0) p0)).1, (x_m_markOf (sF (sF T 571 0 0) 571 48 0) p0 (x_m_kindOf (sF (sF T 571 0 0) 571 48 0) p0)).2)))
def ok_m_ask (T : St) (p0 : Int32) (p1 : Int32) : Prop := (¬ (x_m_isStep (sF T 571 0 0) p0) = 0 → (¬ (x_m_in (sF T 571 0 0) ((p1 : Int32).toInt64) 0 1) = 0 → ((p1 = 0 → (ok_m_kindOf (sF (sF T 571 0 0) 571 48 0) p0) ∧ (ok_m_sizeOf (sF (sF T 571 0 0) 571 48 0) p0 (x_m_kindOf (sF (sF T 571 0 0) 571 48 0) p0)) ∧ True) ∧ (¬ p1 = 0 → (ok_m_kindOf (sF (sF T 571 0 0) 571 48 0) p0) ∧ (ok_m_markOf (sF (sF T 571 0 0) 571 48 0) p0 (x_m_kindOf (sF (sF T 571 0 0) 571 48 0) p0)) ∧ True))))
theorem c_m_ask {X : Nat × (Nat → Int32)} {T : St} (p0 : Int32) (p1 : Int32) (kk : ok_m_ask T p0 p1) : tC X 4 mX12_ask [.ref (571 : Nat), .int p0, .int p1] T (some (.int (x_m_ask T p0 p1).1)) ((x_m_ask T p0 p1).2) := by
  unfold ok_m_ask at kk
  refine tC_orI (L := [some (.ref (571 : Nat)), some (.int p0), some (.int p1)]) (x_m_ask T p0 p1) rfl ?_
  unfold x_m_ask
  refine r_p (pc2 := 1) dX12_ask_0 rfl rfl ?_
  refine r_ci (x := 0) dX12_ask_1 rfl ?_
  refine r_put dX12_ask_2 fkX12_101 rfl rfl rfl (Nat.le_of_ble_eq_true rfl) rfl rfl ?_
  refine r_p (pc2 := 6) dX12_ask_5 rfl rfl ?_
  refine r_p (pc2 := 7) dX12_ask_6 rfl rfl ?_
  refine r_cv (d1 := 2) dX12_ask_7 cvX12_246 rfl rfl rfl rfl (Nat.le_of_ble_eq_true rfl) (Nat.le_of_ble_eq_true rfl) (Nat.le_of_ble_eq_true rfl) (c_m_isStep p0) ?_
  refine r_ieq dX12_ask_10 rfl (fun c10_1 => ?_) (fun c10_1 => ?_)
  · refine r_ip (R := rI) c10_1 ?_
    refine r_k dX12_ask_23 kkX12_121 ?_
    exact r_qI dX12_ask_25 rfl rfl rfl rfl
  · refine r_in (R := rI) c10_1 ?_
    have kk := kk c10_1
    refine r_p (pc2 := 14) dX12_ask_13 rfl rfl ?_
    refine r_p (pc2 := 15) dX12_ask_14 rfl rfl ?_
    refine r_cl (x := 0) dX12_ask_15 rfl ?_
    refine r_cl (x := 1) dX12_ask_16 rfl ?_
    refine r_cs (d1 := 1) dX12_ask_17 csX12_111 rfl rfl (Nat.le_of_ble_eq_true rfl) (Nat.le_of_ble_eq_true rfl) (Nat.le_of_ble_eq_true rfl) (c_m_in ((p1 : Int32).toInt64) 0 1) ?_
    refine r_ine dX12_ask_20 rfl (fun c20_2 => ?_) (fun c20_2 => ?_)
    · refine r_in (R := rI) c20_2 ?_
      have kk := kk c20_2
      refine r_p (pc2 := 27) dX12_ask_26 rfl rfl ?_
      refine r_ci (x := 0) dX12_ask_27 rfl ?_
      refine r_put dX12_ask_28 fkX12_358 rfl rfl rfl (Nat.le_of_ble_eq_true rfl) rfl rfl ?_
      refine r_p (pc2 := 32) dX12_ask_31 rfl rfl ?_
      refine r_ine dX12_ask_32 rfl (fun c32_3 => ?_) (fun c32_3 => ?_)
      · refine r_in (R := rI) c32_3 ?_
        have kk := kk.2 c32_3
        refine r_p (pc2 := 49) dX12_ask_48 rfl rfl ?_
        refine r_p (pc2 := 50) dX12_ask_49 rfl rfl ?_
        refine r_p (pc2 := 51) dX12_ask_50 rfl rfl ?_
        refine r_p (pc2 := 52) dX12_ask_51 rfl rfl ?_
        obtain ⟨q1, kk⟩ := kk
        refine r_cv (d1 := 2) dX12_ask_52 cvX12_350 rfl rfl rfl rfl (Nat.le_of_ble_eq_true rfl) (Nat.le_of_ble_eq_true rfl) (Nat.le_of_ble_eq_true rfl) (c_m_kindOf p0 q1) ?_
        obtain ⟨q2, kk⟩ := kk
        refine r_cv (d1 := 2) dX12_ask_55 cvX12_364 rfl rfl rfl rfl (Nat.le_of_ble_eq_true rfl) (Nat.le_of_ble_eq_true rfl) (Nat.le_of_ble_eq_true rfl) (c_m_markOf p0 (x_m_kindOf (sF (sF T 571 0 0) 571 48 0) p0) q2) ?_
        exact r_qI dX12_ask_58 rfl rfl rfl rfl
      · refine r_ip (R := rI) c32_3 ?_
        have kk := kk.1 c32_3
        refine r_p (pc2 := 36) dX12_ask_35 rfl rfl ?_
        refine r_p (pc2 := 37) dX12_ask_36 rfl rfl ?_
        refine r_p (pc2 := 38) dX12_ask_37 rfl rfl ?_
        refine r_p (pc2 := 39) dX12_ask_38 rfl rfl ?_
        obtain ⟨q3, kk⟩ := kk
        refine r_cv (d1 := 2) dX12_ask_39 cvX12_350 rfl rfl rfl rfl (Nat.le_of_ble_eq_true rfl) (Nat.le_of_ble_eq_true rfl) (Nat.le_of_ble_eq_true rfl) (c_m_kindOf p0 q3) ?_
        obtain ⟨q4, kk⟩ := kk
        refine r_cv (d1 := 3) dX12_ask_42 cvX12_367 rfl rfl rfl rfl (Nat.le_of_ble_eq_true rfl) (Nat.le_of_ble_eq_true rfl) (Nat.le_of_ble_eq_true rfl) (c_m_sizeOf p0 (x_m_kindOf (sF (sF T 571 0 0) 571 48 0) p0) q4) ?_
        refine r_nT0 (R := rI) rfl (fun T1 => ?_)
        refine r_go dX12_ask_45 rfl ?_
        exact r_qI dX12_ask_58 rfl rfl rfl rfl
    · refine r_ip (R := rI) c20_2 ?_
      refine r_k dX12_ask_23 kkX12_121 ?_
      exact r_qI dX12_ask_25 rfl rfl rfl rfl
