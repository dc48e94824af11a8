def x_x_begins (T : St) (p0 : Int32) (p1 : Int32) : Int32 × St := jn (fun (KJ1 : Int32 × St) => if (x_x_isTime T p0) = 0 then (KJ1) else (if p1 < 0 then (KJ1) else (if (x_x_refusal T 1) = 0 then (if ((x_x_findsPlan T p0).1) = 0 then ((-1000000), (x_x_findsPlan T p0).2) else (if (((x_x_findsPlan T p0).2).1 557 1) ≤ p1 then ((-1000000), (x_x_findsPlan T p0).2) else (((x_x_findsPlan T p0).2).2.2.1 562 (p1 : Int32).toNatClampNeg, (x_x_findsPlan T p0).2))) else (x_x_refusal T 1, T)))) (if (x_x_refusal T 0) = 0 then (if ((x_x_findsPlan T p0).1) = 0 then ((-1000000), (x_x_findsPlan T p0).2) else (if (((x_x_findsPlan T p0).2).1 557 1) ≤ p1 then ((-1000000), (x_x_findsPlan T p0).2) else (((x_x_findsPlan T p0).2).2.2.1 562 (p1 : Int32).toNatClampNeg, (x_x_findsPlan T p0).2))) else (x_x_refusal T 0, T))
def ok_x_begins (T : St) (p0 : Int32) (p1 : Int32) : Prop := jn (fun (OJ1 : Prop) => (((x_x_isTime T p0) = 0 → OJ1) ∧ (¬ (x_x_isTime T p0) = 0 → ((p1 < 0 → OJ1) ∧ (¬ p1 < 0 → (ok_x_refusal T 1) ∧ ((x_x_refusal T 1) = 0 → (ok_x_findsPlan T p0) ∧ (¬ ((x_x_findsPlan T p0).1) = 0 → (¬ (((x_x_findsPlan T p0).2).1 557 1) ≤ p1 → (vp_in p1 12) ∧ True)))))))) ((ok_x_refusal T 0) ∧ ((x_x_refusal T 0) = 0 → (ok_x_findsPlan T p0) ∧ (¬ ((x_x_findsPlan T p0).1) = 0 → (¬ (((x_x_findsPlan T p0).2).1 557 1) ≤ p1 → (vp_in p1 12) ∧ True))))
theorem c_x_begins {X : Nat × (Nat → Int32)} {T : St} (p0 : Int32) (p1 : Int32) (kk : ok_x_begins T p0 p1) : tC X 12 mX11_begins [.ref (0 : Nat), .int p0, .int p1] T (some (.int (x_x_begins T p0 p1).1)) ((x_x_begins T p0 p1).2) := by
  unfold ok_x_begins at kk
  refine tC_orI (L := [some (.ref (0 : Nat)), some (.int p0), some (.int p1), none]) (x_x_begins T p0 p1) rfl ?_
  unfold x_x_begins
  refine r_p (pc2 := 1) dX11_begins_0 rfl rfl ?_
  refine r_p (pc2 := 2) dX11_begins_1 rfl rfl ?_
  refine r_cs (d1 := 1) dX11_begins_2 csX11_218 rfl rfl (Nat.le_of_ble_eq_true rfl) (Nat.le_of_ble_eq_true rfl) (Nat.le_of_ble_eq_true rfl) (c_x_isTime p0) ?_
  refine r_jn (R := rI) (J := fun (KJ1 : Int32 × St) (OJ1 : Prop) => OJ1 → tR X 11 mX11_begins 16 [some (.ref (0 : Nat)), some (.int p0), some (.int p1), none] [.ref (0 : Nat)] T (rI KJ1).1 (rI KJ1).2) kk (fun  kk => ?_) (fun KJ1 OJ1 hJ1 kk => ?_)
  · skip
    refine r_ci (x := 0) dX11_begins_16 rfl ?_
    obtain ⟨q4, kk⟩ := kk
    refine r_cv (d1 := 2) dX11_begins_17 cvX11_221 rfl rfl rfl rfl (Nat.le_of_ble_eq_true rfl) (Nat.le_of_ble_eq_true rfl) (Nat.le_of_ble_eq_true rfl) (c_x_refusal 0 q4) ?_
    refine r_p (pc2 := 21) (L2 := [some (.ref (0 : Nat)), some (.int p0), some (.int p1), some (.int (x_x_refusal T 0))]) dX11_begins_20 rfl rfl ?_
    refine r_p (pc2 := 22) dX11_begins_21 rfl rfl ?_
    refine r_ieq dX11_begins_22 rfl (fun c22_6 => ?_) (fun c22_6 => ?_)
    · refine r_ip (R := rI) c22_6 ?_
      have kk := kk c22_6
      refine r_p (pc2 := 28) dX11_begins_27 rfl rfl ?_
      refine r_p (pc2 := 29) dX11_begins_28 rfl rfl ?_
      obtain ⟨q5, kk⟩ := kk
      refine r_cv (d1 := 11) dX11_begins_29 cvX11_238 rfl rfl rfl rfl (Nat.le_of_ble_eq_true rfl) (Nat.le_of_ble_eq_true rfl) (Nat.le_of_ble_eq_true rfl) (c_x_findsPlan p0 q5) ?_
      refine r_ieq dX11_begins_32 rfl (fun c32_7 => ?_) (fun c32_7 => ?_)
      · refine r_ip (R := rI) c32_7 ?_
        refine r_k dX11_begins_58 kkX11_241 ?_
        exact r_qI dX11_begins_60 rfl rfl rfl rfl
      · refine r_in (R := rI) c32_7 ?_
        have kk := kk c32_7
        refine r_p (pc2 := 36) dX11_begins_35 rfl rfl ?_
        refine r_p (pc2 := 37) dX11_begins_36 rfl rfl ?_
        refine r_get dX11_begins_37 fkX11_71 rfl rfl ?_
        refine r_get dX11_begins_40 fkX11_228 rfl rfl ?_
        refine r_cge dX11_begins_43 rfl (fun c43_8 => ?_) (fun c43_8 => ?_)
        · refine r_ip (R := rI) c43_8 ?_
          refine r_k dX11_begins_58 kkX11_241 ?_
          exact r_qI dX11_begins_60 rfl rfl rfl rfl
        · refine r_in (R := rI) c43_8 ?_
          have kk := kk c43_8
          refine r_p (pc2 := 47) dX11_begins_46 rfl rfl ?_
          refine r_get dX11_begins_47 fkX11_71 rfl rfl ?_
          refine r_get dX11_begins_50 fkX11_231 rfl rfl ?_
          refine r_p (pc2 := 54) dX11_begins_53 rfl rfl ?_
          obtain ⟨q6, kk⟩ := kk
          refine r_ia dX11_begins_54 rfl q6 ?_
          refine r_go dX11_begins_55 rfl ?_
          exact r_qI dX11_begins_60 rfl rfl rfl rfl
    · refine r_in (R := rI) c22_6 ?_
      refine r_p (pc2 := 26) dX11_begins_25 rfl rfl ?_
      exact r_qI dX11_begins_26 rfl rfl rfl rfl
  refine r_ieq dX11_begins_5 rfl (fun c5_9 => ?_) (fun c5_9 => ?_)
  · refine r_ip (R := rI) c5_9 ?_
    have kk := kk.1 c5_9
    show tR _ _ _ _ [some (.ref (0 : Nat)), some (.int p0), some (.int p1), none] [.ref (0 : Nat)] _ _ _
    exact (hJ1  kk)
  · refine r_in (R := rI) c5_9 ?_
    have kk := kk.2 c5_9
    refine r_p (pc2 := 9) dX11_begins_8 rfl rfl ?_
    refine r_ilt dX11_begins_9 rfl (fun c9_10 => ?_) (fun c9_10 => ?_)
    · refine r_ip (R := rI) c9_10 ?_
      have kk := kk.1 c9_10
      show tR _ _ _ _ [some (.ref (0 : Nat)), some (.int p0), some (.int p1), none] [.ref (0 : Nat)] _ _ _
      exact (hJ1  kk)
    · refine r_in (R := rI) c9_10 ?_
      have kk := kk.2 c9_10
      refine r_ci (x := 1) dX11_begins_12 rfl ?_
      refine r_go dX11_begins_13 rfl ?_
      obtain ⟨q7, kk⟩ := kk
      refine r_cv (d1 := 2) dX11_begins_17 cvX11_221 rfl rfl rfl rfl (Nat.le_of_ble_eq_true rfl) (Nat.le_of_ble_eq_true rfl) (Nat.le_of_ble_eq_true rfl) (c_x_refusal 1 q7) ?_
      refine r_p (pc2 := 21) (L2 := [some (.ref (0 : Nat)), some (.int p0), some (.int p1), some (.int (x_x_refusal T 1))]) dX11_begins_20 rfl rfl ?_
      refine r_p (pc2 := 22) dX11_begins_21 rfl rfl ?_
      refine r_ieq dX11_begins_22 rfl (fun c22_11 => ?_) (fun c22_11 => ?_)
      · refine r_ip (R := rI) c22_11 ?_
        have kk := kk c22_11
        refine r_p (pc2 := 28) dX11_begins_27 rfl rfl ?_
        refine r_p (pc2 := 29) dX11_begins_28 rfl rfl ?_
        obtain ⟨q8, kk⟩ := kk
        refine r_cv (d1 := 11) dX11_begins_29 cvX11_238 rfl rfl rfl rfl (Nat.le_of_ble_eq_true rfl) (Nat.le_of_ble_eq_true rfl) (Nat.le_of_ble_eq_true rfl) (c_x_findsPlan p0 q8) ?_
        refine r_ieq dX11_begins_32 rfl (fun c32_12 => ?_) (fun c32_12 => ?_)
        · refine r_ip (R := rI) c32_12 ?_
          refine r_k dX11_begins_58 kkX11_241 ?_
          exact r_qI dX11_begins_60 rfl rfl rfl rfl
        · refine r_in (R := rI) c32_12 ?_
          have kk := kk c32_12
          refine r_p (pc2 := 36) dX11_begins_35 rfl rfl ?_
          refine r_p (pc2 := 37) dX11_begins_36 rfl rfl ?_
          refine r_get dX11_begins_37 fkX11_71 rfl rfl ?_
          refine r_get dX11_begins_40 fkX11_228 rfl rfl ?_
          refine r_cge dX11_begins_43 rfl (fun c43_13 => ?_) (fun c43_13 => ?_)
          · refine r_ip (R := rI) c43_13 ?_
            refine r_k dX11_begins_58 kkX11_241 ?_
            exact r_qI dX11_begins_60 rfl rfl rfl rfl
          · refine r_in (R := rI) c43_13 ?_
            have kk := kk c43_13
            refine r_p (pc2 := 47) dX11_begins_46 rfl rfl ?_
            refine r_get dX11_begins_47 fkX11_71 rfl rfl ?_
            refine r_get dX11_begins_50 fkX11_231 rfl rfl ?_
            refine r_p (pc2 := 54) dX11_begins_53 rfl rfl ?_
            obtain ⟨q9, kk⟩ := kk
            refine r_ia dX11_begins_54 rfl q9 ?_
            refine r_go dX11_begins_55 rfl ?_
            exact r_qI dX11_begins_60 rfl rfl rfl rfl
      · refine r_in (R := rI) c22_11 ?_
        refine r_p (pc2 := 26) dX11_begins_25 rfl rfl ?_
        exact r_qI dX11_begins_26 rfl rfl rfl rfl
def x_x_earliest_58  (K : Int32 → St → Int32 × St) : Nat → Int32 → St → Int32 × St
  | 0, _, T => (0, T)
  | f + 1, v1, T => if 60 < v1 then (K v1 T) else (if ((x_x_isPossible T 76 (T.1 (T.2.1 0) 17) v1).1) = 0 then (x_x_earliest_58 K f (v1 + 1) ((x_x_isPossible T 76 (T.1 (T.2.1 0) 17) v1).2)) else (v1, (x_x_isPossible T 76 (T.1 (T.2.1 0) 17) v1).2))
def ok_x_earliest_58  (Kk : Int32 → St → Prop) : Nat → Int32 → St → Prop
  | 0, _, _ => False
  | f + 1, v1, T => ((60 < v1 → Kk v1 T) ∧ (¬ 60 < v1 → (sh (T.2.1 0) = .inr 1) ∧ (ok_x_isPossible T 76 (T.1 (T.2.1 0) 17) v1) ∧ (((x_x_isPossible T 76 (T.1 (T.2.1 0) 17) v1).1) = 0 → ok_x_earliest_58 Kk f (v1 + 1) ((x_x_isPossible T 76 (T.1 (T.2.1 0) 17) v1).2))))
theorem c_x_earliest_58 {X : Nat × (Nat → Int32)}  {K : Int32 → St → Int32 × St} {Kk : Int32 → St → Prop} (hk : ∀ (v1 : Int32) (T : St), Kk v1 T → tR X 11 mX11_earliest 91 [some (.ref (0 : Nat)), some (.int v1)] [] T (rI (K v1 T)).1 ((rI (K v1 T)).2)) : ∀ (f : Nat) (v1 : Int32) (T : St), ok_x_earliest_58  Kk f v1 T → tR X 11 mX11_earliest 58 [some (.ref (0 : Nat)), some (.int v1)] [] T (rI (x_x_earliest_58 K f v1 T)).1 ((rI (x_x_earliest_58 K f v1 T)).2) := by
  intro f
  induction f with
  | zero => intro v1 T kk; exact kk.elim
  | succ f ih =>
    intro v1 T kk
    rw [ok_x_earliest_58] at kk
    rw [x_x_earliest_58]
    refine r_p (pc2 := 59) dX11_earliest_58 rfl rfl ?_
    refine r_cb (x := 60) dX11_earliest_59 rfl ?_
    refine r_cgt dX11_earliest_61 rfl (fun c61_3 => ?_) (fun c61_3 => ?_)
    · refine r_ip (R := rI) c61_3 ?_
      have kk := kk.1 c61_3
      show tR _ _ _ _ [some (.ref (0 : Nat)), some (.int v1)] _ _ _ _
      exact (hk v1 T kk)
    · refine r_in (R := rI) c61_3 ?_
      have kk := kk.2 c61_3
      refine r_p (pc2 := 65) dX11_earliest_64 rfl rfl ?_
      refine r_p (pc2 := 66) dX11_earliest_65 rfl rfl ?_
      refine r_get dX11_earliest_66 fkX11_40 rfl rfl ?_
      refine r_p (pc2 := 70) dX11_earliest_69 rfl rfl ?_
      refine r_get dX11_earliest_70 fkX11_30 rfl rfl ?_
      obtain ⟨q6, kk⟩ := kk
      refine r_get dX11_earliest_73 fkX11_209 q6 rfl ?_
      refine r_p (pc2 := 77) dX11_earliest_76 rfl rfl ?_
      obtain ⟨q7, kk⟩ := kk
      refine r_cv (d1 := 11) dX11_earliest_77 cvX11_267 rfl rfl rfl rfl (Nat.le_of_ble_eq_true rfl) (Nat.le_of_ble_eq_true rfl) (Nat.le_of_ble_eq_true rfl) (c_x_isPossible 76 (T.1 (T.2.1 0) 17) v1 q7) ?_
      refine r_ieq dX11_earliest_80 rfl (fun c80_4 => ?_) (fun c80_4 => ?_)
      · refine r_ip (R := rI) c80_4 ?_
        have kk := kk c80_4
        refine r_inc (L2 := [some (.ref (0 : Nat)), some (.int (v1 + 1))]) (y := 1) dX11_earliest_85 rfl rfl rfl ?_
        refine r_go dX11_earliest_88 rfl ?_
        show tR _ _ _ _ [some (.ref (0 : Nat)), some (.int (v1 + 1))] _ _ _ _
        exact (ih (v1 + 1) ((x_x_isPossible T 76 (T.1 (T.2.1 0) 17) v1).2) kk)
      · refine r_in (R := rI) c80_4 ?_
        refine r_p (pc2 := 84) dX11_earliest_83 rfl rfl ?_
        exact r_qI dX11_earliest_84 rfl rfl rfl rfl
def x_x_earliest (T : St)  : Int32 × St := if (x_bk_isRead T (T.2.1 0)) = 0 then ((-1000002), T) else (jn (fun (T1 : St) => if ((x_x_isPossible (x_ki_giveAll T 78 (T.2.1 0) (T.2.2.1 ((T.2.1 0) + 1) (5 : Int32).toNatClampNeg)) 78 ((x_ki_giveAll T 78 (T.2.1 0) (T.2.2.1 ((T.2.1 0) + 1) (5 : Int32).toNatClampNeg)).1 ((x_ki_giveAll T 78 (T.2.1 0) (T.2.2.1 ((T.2.1 0) + 1) (5 : Int32).toNatClampNeg)).2.1 0) 17) 60).1) = 0 then ((-1000000), T1) else (x_x_earliest_58  (fun (w1_1 : Int32) (T201 : St) => ((-1000000), T201)) 1000 1 T1)) ((x_x_isPossible (x_ki_giveAll T 78 (T.2.1 0) (T.2.2.1 ((T.2.1 0) + 1) (5 : Int32).toNatClampNeg)) 78 ((x_ki_giveAll T 78 (T.2.1 0) (T.2.2.1 ((T.2.1 0) + 1) (5 : Int32).toNatClampNeg)).1 ((x_ki_giveAll T 78 (T.2.1 0) (T.2.2.1 ((T.2.1 0) + 1) (5 : Int32).toNatClampNeg)).2.1 0) 17) 60).2))
def ok_x_earliest (T : St)  : Prop := (ok_bk_isRead T (T.2.1 0)) ∧ (sh (T.2.1 0) = .inr 1) ∧ (¬ (x_bk_isRead T (T.2.1 0)) = 0 → (ok_ki_giveAll T 78 (T.2.1 0) (T.2.2.1 ((T.2.1 0) + 1) (5 : Int32).toNatClampNeg)) ∧ (sh ((x_ki_giveAll T 78 (T.2.1 0) (T.2.2.1 ((T.2.1 0) + 1) (5 : Int32).toNatClampNeg)).2.1 0) = .inr 1) ∧ (ok_x_isPossible (x_ki_giveAll T 78 (T.2.1 0) (T.2.2.1 ((T.2.1 0) + 1) (5 : Int32).toNatClampNeg)) 78 ((x_ki_giveAll T 78 (T.2.1 0) (T.2.2.1 ((T.2.1 0) + 1) (5 : Int32).toNatClampNeg)).1 ((x_ki_giveAll T 78 (T.2.1 0) (T.2.2.1 ((T.2.1 0) + 1) (5 : Int32).toNatClampNeg)).2.1 0) 17) 60) ∧ jn (fun (T1 : St) => (¬ ((x_x_isPossible (x_ki_giveAll T 78 (T.2.1 0) (T.2.2.1 ((T.2.1 0) + 1) (5 : Int32).toNatClampNeg)) 78 ((x_ki_giveAll T 78 (T.2.1 0) (T.2.2.1 ((T.2.1 0) + 1) (5 : Int32).toNatClampNeg)).1 ((x_ki_giveAll T 78 (T.2.1 0) (T.2.2.1 ((T.2.1 0) + 1) (5 : Int32).toNatClampNeg)).2.1 0) 17) 60).1) = 0 → ok_x_earliest_58  (fun (w1_1 : Int32) (T201 : St) => True) 1000 1 T1)) ((x_x_isPossible (x_ki_giveAll T 78 (T.2.1 0) (T.2.2.1 ((T.2.1 0) + 1) (5 : Int32).toNatClampNeg)) 78 ((x_ki_giveAll T 78 (T.2.1 0) (T.2.2.1 ((T.2.1 0) + 1) (5 : Int32).toNatClampNeg)).1 ((x_ki_giveAll T 78 (T.2.1 0) (T.2.2.1 ((T.2.1 0) + 1) (5 : Int32).toNatClampNeg)).2.1 0) 17) 60).2))
theorem c_x_earliest {X : Nat × (Nat → Int32)} {T : St}  (kk : ok_x_earliest T ) : tC X 12 mX11_earliest [.ref (0 : Nat)] T (some (.int (x_x_earliest T).1)) ((x_x_earliest T).2) := by
  unfold ok_x_earliest at kk
  refine tC_orI (L := [some (.ref (0 : Nat)), none]) (x_x_earliest T ) rfl ?_
  unfold x_x_earliest
  refine r_p (pc2 := 1) dX11_earliest_0 rfl rfl ?_
  refine r_get dX11_earliest_1 fkX11_30 rfl rfl ?_
  obtain ⟨q1, kk⟩ := kk
  obtain ⟨q2, kk⟩ := kk
  refine r_cv (d1 := 1) dX11_earliest_4 cvX11_189 rfl rfl q2 rfl (Nat.le_of_ble_eq_true rfl) (Nat.le_of_ble_eq_true rfl) (Nat.le_of_ble_eq_true rfl) (c_bk_isRead (T.2.1 0) q1) ?_
  refine r_ine dX11_earliest_7 rfl (fun c7_1 => ?_) (fun c7_1 => ?_)
  · refine r_in (R := rI) c7_1 ?_
    have kk := kk c7_1
    refine r_p (pc2 := 14) dX11_earliest_13 rfl rfl ?_
    refine r_get dX11_earliest_14 fkX11_44 rfl rfl ?_
    refine r_p (pc2 := 18) dX11_earliest_17 rfl rfl ?_
    refine r_get dX11_earliest_18 fkX11_30 rfl rfl ?_
    refine r_p (pc2 := 22) dX11_earliest_21 rfl rfl ?_
    refine r_get dX11_earliest_22 fkX11_30 rfl rfl ?_
    refine r_get dX11_earliest_25 fkX11_212 q2 rfl ?_
    refine r_ci (x := 5) dX11_earliest_28 rfl ?_
    refine r_ia dX11_earliest_29 (shl1_1 q2) (in_c (by decide)) ?_
    obtain ⟨q3, kk⟩ := kk
    refine r_cv (d1 := 2) dX11_earliest_30 cvX11_263 rfl rfl rfl rfl (Nat.le_of_ble_eq_true rfl) (Nat.le_of_ble_eq_true rfl) (Nat.le_of_ble_eq_true rfl) (c_ki_giveAll 78 (T.2.1 0) (T.2.2.1 ((T.2.1 0) + 1) (5 : Int32).toNatClampNeg) q3) ?_
    refine r_p (pc2 := 34) dX11_earliest_33 rfl rfl ?_
    refine r_p (pc2 := 35) dX11_earliest_34 rfl rfl ?_
    refine r_get dX11_earliest_35 fkX11_44 rfl rfl ?_
    refine r_p (pc2 := 39) dX11_earliest_38 rfl rfl ?_
    refine r_get dX11_earliest_39 fkX11_30 rfl rfl ?_
    obtain ⟨q4, kk⟩ := kk
    refine r_get dX11_earliest_42 fkX11_209 q4 rfl ?_
    refine r_cb (x := 60) dX11_earliest_45 rfl ?_
    obtain ⟨q5, kk⟩ := kk
    refine r_cv (d1 := 11) dX11_earliest_47 cvX11_267 rfl rfl rfl rfl (Nat.le_of_ble_eq_true rfl) (Nat.le_of_ble_eq_true rfl) (Nat.le_of_ble_eq_true rfl) (c_x_isPossible 78 ((x_ki_giveAll T 78 (T.2.1 0) (T.2.2.1 ((T.2.1 0) + 1) (5 : Int32).toNatClampNeg)).1 ((x_ki_giveAll T 78 (T.2.1 0) (T.2.2.1 ((T.2.1 0) + 1) (5 : Int32).toNatClampNeg)).2.1 0) 17) 60 q5) ?_
    refine r_nT (R := rI) rfl kk (fun T1 kk => ?_)
    refine r_ine dX11_earliest_50 rfl (fun c50_2 => ?_) (fun c50_2 => ?_)
    · refine r_in (R := rI) c50_2 ?_
      have kk := kk c50_2
      refine r_ci (x := 1) dX11_earliest_56 rfl ?_
      refine r_p (pc2 := 58) (L2 := [some (.ref (0 : Nat)), some (.int 1)]) dX11_earliest_57 rfl rfl ?_
      show tR _ _ _ _ [some (.ref (0 : Nat)), some (.int 1)] _ _ _ _
      refine (c_x_earliest_58  (fun w1_1 T201 kk => ?_) 1000 1 T1 kk)
      · skip
        refine r_k dX11_earliest_91 kkX11_241 ?_
        exact r_qI dX11_earliest_93 rfl rfl rfl rfl
    · refine r_ip (R := rI) c50_2 ?_
      refine r_k dX11_earliest_53 kkX11_241 ?_
      exact r_qI dX11_earliest_55 rfl rfl rfl rfl
  · refine r_ip (R := rI) c7_1 ?_
    refine r_k dX11_earliest_10 kkX11_193 ?_
    exact r_qI dX11_earliest_12 rfl rfl rfl rfl
def x_x_heat (T : St) (p0 : Int32) (p1 : Int32) : Int32 × St := jn (fun (KJ1 : Int32 × St) => if (x_x_isTime T p0) = 0 then (KJ1) else (if (x_x_isMinute T p1) = 0 then (KJ1) else (if (x_x_refusal T 1) = 0 then (if ((x_x_findsPlan T p0).1) = 0 then ((-1000000), (x_x_findsPlan T p0).2) else (jn (fun (T3 : St) => (T3.2.2.1 531 (p1 : Int32).toNatClampNeg, T3)) (x_ov_settle (x_ov_want ((x_x_findsPlan T p0).2) (((x_x_findsPlan T p0).2).2.1 0) 557) ((x_ov_want ((x_x_findsPlan T p0).2) (((x_x_findsPlan T p0).2).2.1 0) 557).2.2.1 (((x_ov_want ((x_x_findsPlan T p0).2) (((x_x_findsPlan T p0).2).2.1 0) 557).2.1 0) + 1) (3 : Int32).toNatClampNeg) ((x_ov_want ((x_x_findsPlan T p0).2) (((x_x_findsPlan T p0).2).2.1 0) 557).2.2.1 (((x_ov_want ((x_x_findsPlan T p0).2) (((x_x_findsPlan T p0).2).2.1 0) 557).2.1 0) + 1) (4 : Int32).toNatClampNeg)))) else (x_x_refusal T 1, T)))) (if (x_x_refusal T 0) = 0 then (if ((x_x_findsPlan T p0).1) = 0 then ((-1000000), (x_x_findsPlan T p0).2) else (jn (fun (T2 : St) => (T2.2.2.1 531 (p1 : Int32).toNatClampNeg, T2)) (x_ov_settle (x_ov_want ((x_x_findsPlan T p0).2) (((x_x_findsPlan T p0).2).2.1 0) 557) ((x_ov_want ((x_x_findsPlan T p0).2) (((x_x_findsPlan T p0).2).2.1 0) 557).2.2.1 (((x_ov_want ((x_x_findsPlan T p0).2) (((x_x_findsPlan T p0).2).2.1 0) 557).2.1 0) + 1) (3 : Int32).toNatClampNeg) ((x_ov_want ((x_x_findsPlan T p0).2) (((x_x_findsPlan T p0).2).2.1 0) 557).2.2.1 (((x_ov_want ((x_x_findsPlan T p0).2) (((x_x_findsPlan T p0).2).2.1 0) 557).2.1 0) + 1) (4 : Int32).toNatClampNeg)))) else (x_x_refusal T 0, T))
def ok_x_heat (T : St) (p0 : Int32) (p1 : Int32) : Prop := jn (fun (OJ1 : Prop) => (((x_x_isTime T p0) = 0 → OJ1) ∧ (¬ (x_x_isTime T p0) = 0 → (((x_x_isMinute T p1) = 0 → OJ1) ∧ (¬ (x_x_isMinute T p1) = 0 → (ok_x_refusal T 1) ∧ ((x_x_refusal T 1) = 0 → (ok_x_findsPlan T p0) ∧ (¬ ((x_x_findsPlan T p0).1) = 0 → (ok_ov_want ((x_x_findsPlan T p0).2) (((x_x_findsPlan T p0).2).2.1 0) 557) ∧ (sh ((x_ov_want ((x_x_findsPlan T p0).2) (((x_x_findsPlan T p0).2).2.1 0) 557).2.1 0) = .inr 1) ∧ (ok_ov_settle (x_ov_want ((x_x_findsPlan T p0).2) (((x_x_findsPlan T p0).2).2.1 0) 557) ((x_ov_want ((x_x_findsPlan T p0).2) (((x_x_findsPlan T p0).2).2.1 0) 557).2.2.1 (((x_ov_want ((x_x_findsPlan T p0).2) (((x_x_findsPlan T p0).2).2.1 0) 557).2.1 0) + 1) (3 : Int32).toNatClampNeg) ((x_ov_want ((x_x_findsPlan T p0).2) (((x_x_findsPlan T p0).2).2.1 0) 557).2.2.1 (((x_ov_want ((x_x_findsPlan T p0).2) (((x_x_findsPlan T p0).2).2.1 0) 557).2.1 0) + 1) (4 : Int32).toNatClampNeg)) ∧ jn (fun (T3 : St) => (vp_in p1 60) ∧ True) (x_ov_settle (x_ov_want ((x_x_findsPlan T p0).2) (((x_x_findsPlan T p0).2).2.1 0) 557) ((x_ov_want ((x_x_findsPlan T p0).2) (((x_x_findsPlan T p0).2).2.1 0) 557).2.2.1 (((x_ov_want ((x_x_findsPlan T p0).2) (((x_x_findsPlan T p0).2).2.1 0) 557).2.1 0) + 1) (3 : Int32).toNatClampNeg) ((x_ov_want ((x_x_findsPlan T p0).2) (((x_x_findsPlan T p0).2).2.1 0) 557).2.2.1 (((x_ov_want ((x_x_findsPlan T p0).2) (((x_x_findsPlan T p0).2).2.1 0) 557).2.1 0) + 1) (4 : Int32).toNatClampNeg))))))))) ((ok_x_refusal T 0) ∧ ((x_x_refusal T 0) = 0 → (ok_x_findsPlan T p0) ∧ (¬ ((x_x_findsPlan T p0).1) = 0 → (ok_ov_want ((x_x_findsPlan T p0).2) (((x_x_findsPlan T p0).2).2.1 0) 557) ∧ (sh ((x_ov_want ((x_x_findsPlan T p0).2) (((x_x_findsPlan T p0).2).2.1 0) 557).2.1 0) = .inr 1) ∧ (ok_ov_settle (x_ov_want ((x_x_findsPlan T p0).2) (((x_x_findsPlan T p0).2).2.1 0) 557) ((x_ov_want ((x_x_findsPlan T p0).2) (((x_x_findsPlan T p0).2).2.1 0) 557).2.2.1 (((x_ov_want ((x_x_findsPlan T p0).2) (((x_x_findsPlan T p0).2).2.1 0) 557).2.1 0) + 1) (3 : Int32).toNatClampNeg) ((x_ov_want ((x_x_findsPlan T p0).2) (((x_x_findsPlan T p0).2).2.1 0) 557).2.2.1 (((x_ov_want ((x_x_findsPlan T p0).2) (((x_x_findsPlan T p0).2).2.1 0) 557).2.1 0) + 1) (4 : Int32).toNatClampNeg)) ∧ jn (fun (T2 : St) => (vp_in p1 60) ∧ True) (x_ov_settle (x_ov_want ((x_x_findsPlan T p0).2) (((x_x_findsPlan T p0).2).2.1 0) 557) ((x_ov_want ((x_x_findsPlan T p0).2) (((x_x_findsPlan T p0).2).2.1 0) 557).2.2.1 (((x_ov_want ((x_x_findsPlan T p0).2) (((x_x_findsPlan T p0).2).2.1 0) 557).2.1 0) + 1) (3 : Int32).toNatClampNeg) ((x_ov_want ((x_x_findsPlan T p0).2) (((x_x_findsPlan T p0).2).2.1 0) 557).2.2.1 (((x_ov_want ((x_x_findsPlan T p0).2) (((x_x_findsPlan T p0).2).2.1 0) 557).2.1 0) + 1) (4 : Int32).toNatClampNeg)))))
theorem c_x_heat {X : Nat × (Nat → Int32)} {T : St} (p0 : Int32) (p1 : Int32) (kk : ok_x_heat T p0 p1) : tC X 12 mX11_heat [.ref (0 : Nat), .int p0, .int p1] T (some (.int (x_x_heat T p0 p1).1)) ((x_x_heat T p0 p1).2) := by
  unfold ok_x_heat at kk
  refine tC_orI (L := [some (.ref (0 : Nat)), some (.int p0), some (.int p1), none]) (x_x_heat T p0 p1) rfl ?_
  unfold x_x_heat
  refine r_p (pc2 := 1) dX11_heat_0 rfl rfl ?_
  refine r_p (pc2 := 2) dX11_heat_1 rfl rfl ?_
  refine r_cs (d1 := 1) dX11_heat_2 csX11_218 rfl rfl (Nat.le_of_ble_eq_true rfl) (Nat.le_of_ble_eq_true rfl) (Nat.le_of_ble_eq_true rfl) (c_x_isTime p0) ?_
  refine r_jn (R := rI) (J := fun (KJ1 : Int32 × St) (OJ1 : Prop) => OJ1 → tR X 11 mX11_heat 19 [some (.ref (0 : Nat)), some (.int p0), some (.int p1), none] [.ref (0 : Nat)] T (rI KJ1).1 (rI KJ1).2) kk (fun  kk => ?_) (fun KJ1 OJ1 hJ1 kk => ?_)
  · skip
    refine r_ci (x := 0) dX11_heat_19 rfl ?_
    obtain ⟨q7, kk⟩ := kk
    refine r_cv (d1 := 2) dX11_heat_20 cvX11_221 rfl rfl rfl rfl (Nat.le_of_ble_eq_true rfl) (Nat.le_of_ble_eq_true rfl) (Nat.le_of_ble_eq_true rfl) (c_x_refusal 0 q7) ?_
    refine r_p (pc2 := 24) (L2 := [some (.ref (0 : Nat)), some (.int p0), some (.int p1), some (.int (x_x_refusal T 0))]) dX11_heat_23 rfl rfl ?_
    refine r_p (pc2 := 25) dX11_heat_24 rfl rfl ?_
    refine r_ieq dX11_heat_25 rfl (fun c25_5 => ?_) (fun c25_5 => ?_)
    · refine r_ip (R := rI) c25_5 ?_
      have kk := kk c25_5
      refine r_p (pc2 := 31) dX11_heat_30 rfl rfl ?_
      refine r_p (pc2 := 32) dX11_heat_31 rfl rfl ?_
      obtain ⟨q8, kk⟩ := kk
      refine r_cv (d1 := 11) dX11_heat_32 cvX11_238 rfl rfl rfl rfl (Nat.le_of_ble_eq_true rfl) (Nat.le_of_ble_eq_true rfl) (Nat.le_of_ble_eq_true rfl) (c_x_findsPlan p0 q8) ?_
      refine r_ine dX11_heat_35 rfl (fun c35_6 => ?_) (fun c35_6 => ?_)
      · refine r_in (R := rI) c35_6 ?_
        have kk := kk c35_6
        refine r_p (pc2 := 42) dX11_heat_41 rfl rfl ?_
        refine r_get dX11_heat_42 fkX11_57 rfl rfl ?_
        refine r_get dX11_heat_45 fkX11_271 rfl rfl ?_
        refine r_p (pc2 := 49) dX11_heat_48 rfl rfl ?_
        refine r_get dX11_heat_49 fkX11_30 rfl rfl ?_
        refine r_p (pc2 := 53) dX11_heat_52 rfl rfl ?_
        refine r_get dX11_heat_53 fkX11_71 rfl rfl ?_
        obtain ⟨q9, kk⟩ := kk
        refine r_cv (d1 := 2) dX11_heat_56 cvX11_275 rfl rfl rfl rfl (Nat.le_of_ble_eq_true rfl) (Nat.le_of_ble_eq_true rfl) (Nat.le_of_ble_eq_true rfl) (c_ov_want (((x_x_findsPlan T p0).2).2.1 0) 557 q9) ?_
        refine r_p (pc2 := 60) dX11_heat_59 rfl rfl ?_
        refine r_get dX11_heat_60 fkX11_57 rfl rfl ?_
        refine r_get dX11_heat_63 fkX11_271 rfl rfl ?_
        refine r_p (pc2 := 67) dX11_heat_66 rfl rfl ?_
        refine r_get dX11_heat_67 fkX11_30 rfl rfl ?_
        obtain ⟨q10, kk⟩ := kk
        refine r_get dX11_heat_70 fkX11_212 q10 rfl ?_
        refine r_ci (x := 3) dX11_heat_73 rfl ?_
        refine r_ia dX11_heat_74 (shl1_1 q10) (in_c (by decide)) ?_
        refine r_p (pc2 := 76) dX11_heat_75 rfl rfl ?_
        refine r_get dX11_heat_76 fkX11_30 rfl rfl ?_
        refine r_get dX11_heat_79 fkX11_212 q10 rfl ?_
        refine r_ci (x := 4) dX11_heat_82 rfl ?_
        refine r_ia dX11_heat_83 (shl1_1 q10) (in_c (by decide)) ?_
        obtain ⟨q11, kk⟩ := kk
        refine r_cv (d1 := 1) dX11_heat_84 cvX11_281 rfl rfl rfl rfl (Nat.le_of_ble_eq_true rfl) (Nat.le_of_ble_eq_true rfl) (Nat.le_of_ble_eq_true rfl) (c_ov_settle ((x_ov_want ((x_x_findsPlan T p0).2) (((x_x_findsPlan T p0).2).2.1 0) 557).2.2.1 (((x_ov_want ((x_x_findsPlan T p0).2) (((x_x_findsPlan T p0).2).2.1 0) 557).2.1 0) + 1) (3 : Int32).toNatClampNeg) ((x_ov_want ((x_x_findsPlan T p0).2) (((x_x_findsPlan T p0).2).2.1 0) 557).2.2.1 (((x_ov_want ((x_x_findsPlan T p0).2) (((x_x_findsPlan T p0).2).2.1 0) 557).2.1 0) + 1) (4 : Int32).toNatClampNeg) q11) ?_
        refine r_nT (R := rI) rfl kk (fun T2 kk => ?_)
        refine r_p (pc2 := 88) dX11_heat_87 rfl rfl ?_
        refine r_get dX11_heat_88 fkX11_57 rfl rfl ?_
        refine r_get dX11_heat_91 fkX11_271 rfl rfl ?_
        refine r_get dX11_heat_94 fkX11_284 rfl rfl ?_
        refine r_p (pc2 := 98) dX11_heat_97 rfl rfl ?_
        obtain ⟨q12, kk⟩ := kk
        refine r_ia dX11_heat_98 rfl q12 ?_
        exact r_qI dX11_heat_99 rfl rfl rfl rfl
      · refine r_ip (R := rI) c35_6 ?_
        refine r_k dX11_heat_38 kkX11_241 ?_
        exact r_qI dX11_heat_40 rfl rfl rfl rfl
    · refine r_in (R := rI) c25_5 ?_
      refine r_p (pc2 := 29) dX11_heat_28 rfl rfl ?_
      exact r_qI dX11_heat_29 rfl rfl rfl rfl
  refine r_ieq dX11_heat_5 rfl (fun c5_7 => ?_) (fun c5_7 => ?_)
  · refine r_ip (R := rI) c5_7 ?_
    have kk := kk.1 c5_7
    show tR _ _ _ _ [some (.ref (0 : Nat)), some (.int p0), some (.int p1), none] [.ref (0 : Nat)] _ _ _
    exact (hJ1  kk)
  · refine r_in (R := rI) c5_7 ?_
    have kk := kk.2 c5_7
    refine r_p (pc2 := 9) dX11_heat_8 rfl rfl ?_
    refine r_cs (d1 := 1) dX11_heat_9 csX11_194 rfl rfl (Nat.le_of_ble_eq_true rfl) (Nat.le_of_ble_eq_true rfl) (Nat.le_of_ble_eq_true rfl) (c_x_isMinute p1) ?_
    refine r_ieq dX11_heat_12 rfl (fun c12_8 => ?_) (fun c12_8 => ?_)
    · refine r_ip (R := rI) c12_8 ?_
      have kk := kk.1 c12_8
      show tR _ _ _ _ [some (.ref (0 : Nat)), some (.int p0), some (.int p1), none] [.ref (0 : Nat)] _ _ _
      exact (hJ1  kk)
    · refine r_in (R := rI) c12_8 ?_
      have kk := kk.2 c12_8
      refine r_ci (x := 1) dX11_heat_15 rfl ?_
      refine r_go dX11_heat_16 rfl ?_
      obtain ⟨q13, kk⟩ := kk
      refine r_cv (d1 := 2) dX11_heat_20 cvX11_221 rfl rfl rfl rfl (Nat.le_of_ble_eq_true rfl) (Nat.le_of_ble_eq_true rfl) (Nat.le_of_ble_eq_true rfl) (c_x_refusal 1 q13) ?_
      refine r_p (pc2 := 24) (L2 := [some (.ref (0 : Nat)), some (.int p0), some (.int p1), some (.int (x_x_refusal T 1))]) dX11_heat_23 rfl rfl ?_
      refine r_p (pc2 := 25) dX11_heat_24 rfl rfl ?_
      refine r_ieq dX11_heat_25 rfl (fun c25_9 => ?_) (fun c25_9 => ?_)
      · refine r_ip (R := rI) c25_9 ?_
        have kk := kk c25_9
        refine r_p (pc2 := 31) dX11_heat_30 rfl rfl ?_
        refine r_p (pc2 := 32) dX11_heat_31 rfl rfl ?_
        obtain ⟨q14, kk⟩ := kk
        refine r_cv (d1 := 11) dX11_heat_32 cvX11_238 rfl rfl rfl rfl (Nat.le_of_ble_eq_true rfl) (Nat.le_of_ble_eq_true rfl) (Nat.le_of_ble_eq_true rfl) (c_x_findsPlan p0 q14) ?_
        refine r_ine dX11_heat_35 rfl (fun c35_10 => ?_) (fun c35_10 => ?_)
        · refine r_in (R := rI) c35_10 ?_
          have kk := kk c35_10
          refine r_p (pc2 := 42) dX11_heat_41 rfl rfl ?_
          refine r_get dX11_heat_42 fkX11_57 rfl rfl ?_
          refine r_get dX11_heat_45 fkX11_271 rfl rfl ?_
          refine r_p (pc2 := 49) dX11_heat_48 rfl rfl ?_
          refine r_get dX11_heat_49 fkX11_30 rfl rfl ?_
          refine r_p (pc2 := 53) dX11_heat_52 rfl rfl ?_
          refine r_get dX11_heat_53 fkX11_71 rfl rfl ?_
          obtain ⟨q15, kk⟩ := kk
          refine r_cv (d1 := 2) dX11_heat_56 cvX11_275 rfl rfl rfl rfl (Nat.le_of_ble_eq_true rfl) (Nat.le_of_ble_eq_true rfl) (Nat.le_of_ble_eq_true rfl) (c_ov_want (((x_x_findsPlan T p0).2).2.1 0) 557 q15) ?_
          refine r_p (pc2 := 60) dX11_heat_59 rfl rfl ?_
          refine r_get dX11_heat_60 fkX11_57 rfl rfl ?_
          refine r_get dX11_heat_63 fkX11_271 rfl rfl ?_
          refine r_p (pc2 := 67) dX11_heat_66 rfl rfl ?_
          refine r_get dX11_heat_67 fkX11_30 rfl rfl ?_
          obtain ⟨q16, kk⟩ := kk
          refine r_get dX11_heat_70 fkX11_212 q16 rfl ?_
          refine r_ci (x := 3) dX11_heat_73 rfl ?_
          refine r_ia dX11_heat_74 (shl1_1 q16) (in_c (by decide)) ?_
          refine r_p (pc2 := 76) dX11_heat_75 rfl rfl ?_
          refine r_get dX11_heat_76 fkX11_30 rfl rfl ?_
          refine r_get dX11_heat_79 fkX11_212 q16 rfl ?_
          refine r_ci (x := 4) dX11_heat_82 rfl ?_
          refine r_ia dX11_heat_83 (shl1_1 q16) (in_c (by decide)) ?_
          obtain ⟨q17, kk⟩ := kk
          refine r_cv (d1 := 1) dX11_heat_84 cvX11_281 rfl rfl rfl rfl (Nat.le_of_ble_eq_true rfl) (Nat.le_of_ble_eq_true rfl) (Nat.le_of_ble_eq_true rfl) (c_ov_settle ((x_ov_want ((x_x_findsPlan T p0).2) (((x_x_findsPlan T p0).2).2.1 0) 557).2.2.1 (((x_ov_want ((x_x_findsPlan T p0).2) (((x_x_findsPlan T p0).2).2.1 0) 557).2.1 0) + 1) (3 : Int32).toNatClampNeg) ((x_ov_want ((x_x_findsPlan T p0).2) (((x_x_findsPlan T p0).2).2.1 0) 557).2.2.1 (((x_ov_want ((x_x_findsPlan T p0).2) (((x_x_findsPlan T p0).2).2.1 0) 557).2.1 0) + 1) (4 : Int32).toNatClampNeg) q17) ?_
          refine r_nT (R := rI) rfl kk (fun T3 kk => ?_)
          refine r_p (pc2 := 88) dX11_heat_87 rfl rfl ?_
          refine r_get dX11_heat_88 fkX11_57 rfl rfl ?_
          refine r_get dX11_heat_91 fkX11_271 rfl rfl ?_
          refine r_get dX11_heat_94 fkX11_284 rfl rfl ?_
          refine r_p (pc2 := 98) dX11_heat_97 rfl rfl ?_
          obtain ⟨q18, kk⟩ := kk
          refine r_ia dX11_heat_98 rfl q18 ?_
          exact r_qI dX11_heat_99 rfl rfl rfl rfl
        · refine r_ip (R := rI) c35_10 ?_
          refine r_k dX11_heat_38 kkX11_241 ?_
          exact r_qI dX11_heat_40 rfl rfl rfl rfl
      · refine r_in (R := rI) c25_9 ?_
        refine r_p (pc2 := 29) dX11_heat_28 rfl rfl ?_
        exact r_qI dX11_heat_29 rfl rfl rfl rfl
def x_x_wanted (T : St) (p0 : Int32) (p1 : Int32) (p2 : Int32) : Int32 × St := jn (fun (KJ1 : Int32 × St) => if (x_x_isTime T p0) = 0 then (KJ1) else (if (x_x_isMinute T p1) = 0 then (KJ1) else (if p2 < 0 then (KJ1) else (if 4 ≤ p2 then (KJ1) else (if (x_x_refusal T 1) = 0 then (if ((x_x_findsPlan T p0).1) = 0 then ((-1000000), (x_x_findsPlan T p0).2) else (x_jd_wantedAt (x_jd_lay ((x_x_findsPlan T p0).2) (((x_x_findsPlan T p0).2).2.1 0) 76 557) 557 p1 (([3, 0, 2, 4] : List Int32).getD (p2 : Int32).toNatClampNeg 0), x_jd_lay ((x_x_findsPlan T p0).2) (((x_x_findsPlan T p0).2).2.1 0) 76 557)) else (x_x_refusal T 1, T)))))) (if (x_x_refusal T 0) = 0 then (if ((x_x_findsPlan T p0).1) = 0 then ((-1000000), (x_x_findsPlan T p0).2) else (x_jd_wantedAt (x_jd_lay ((x_x_findsPlan T p0).2) (((x_x_findsPlan T p0).2).2.1 0) 76 557) 557 p1 (([3, 0, 2, 4] : List Int32).getD (p2 : Int32).toNatClampNeg 0), x_jd_lay ((x_x_findsPlan T p0).2) (((x_x_findsPlan T p0).2).2.1 0) 76 557)) else (x_x_refusal T 0, T))
def ok_x_wanted (T : St) (p0 : Int32) (p1 : Int32) (p2 : Int32) : Prop := jn (fun (OJ1 : Prop) => (((x_x_isTime T p0) = 0 → OJ1) ∧ (¬ (x_x_isTime T p0) = 0 → (((x_x_isMinute T p1) = 0 → OJ1) ∧ (¬ (x_x_isMinute T p1) = 0 → ((p2 < 0 → OJ1) ∧ (¬ p2 < 0 → ((4 ≤ p2 → OJ1) ∧ (¬ 4 ≤ p2 → (ok_x_refusal T 1) ∧ ((x_x_refusal T 1) = 0 → (ok_x_findsPlan T p0) ∧ (¬ ((x_x_findsPlan T p0).1) = 0 → (ok_jd_lay ((x_x_findsPlan T p0).2) (((x_x_findsPlan T p0).2).2.1 0) 76 557) ∧ (vp_in p2 4) ∧ (ok_jd_wantedAt (x_jd_lay ((x_x_findsPlan T p0).2) (((x_x_findsPlan T p0).2).2.1 0) 76 557) 557 p1 (([3, 0, 2, 4] : List Int32).getD (p2 : Int32).toNatClampNeg 0)) ∧ True))))))))))) ((ok_x_refusal T 0) ∧ ((x_x_refusal T 0) = 0 → (ok_x_findsPlan T p0) ∧ (¬ ((x_x_findsPlan T p0).1) = 0 → (ok_jd_lay ((x_x_findsPlan T p0).2) (((x_x_findsPlan T p0).2).2.1 0) 76 557) ∧ (vp_in p2 4) ∧ (ok_jd_wantedAt (x_jd_lay ((x_x_findsPlan T p0).2) (((x_x_findsPlan T p0).2).2.1 0) 76 557) 557 p1 (([3, 0, 2, 4] : List Int32).getD (p2 : Int32).toNatClampNeg 0)) ∧ True)))
theorem c_x_wanted {X : Nat × (Nat → Int32)} {T : St} (p0 : Int32) (p1 : Int32) (p2 : Int32) (kk : ok_x_wanted T p0 p1 p2) : tC X 12 mX11_wanted [.ref (0 : Nat), .int p0, .int p1, .int p2] T (some (.int (x_x_wanted T p0 p1 p2).1)) ((x_x_wanted T p0 p1 p2).2) := by
  unfold ok_x_wanted at kk
  refine tC_orI (L := [some (.ref (0 : Nat)), some (.int p0), some (.int p1), some (.int p2), none]) (x_x_wanted T p0 p1 p2) rfl ?_
  unfold x_x_wanted
  refine r_p (pc2 := 1) dX11_wanted_0 rfl rfl ?_
  refine r_p (pc2 := 2) dX11_wanted_1 rfl rfl ?_
  refine r_cs (d1 := 1) dX11_wanted_2 csX11_218 rfl rfl (Nat.le_of_ble_eq_true rfl) (Nat.le_of_ble_eq_true rfl) (Nat.le_of_ble_eq_true rfl) (c_x_isTime p0) ?_
  refine r_jn (R := rI) (J := fun (KJ1 : Int32 × St) (OJ1 : Prop) => OJ1 → tR X 11 mX11_wanted 31 [some (.ref (0 : Nat)), some (.int p0), some (.int p1), some (.int p2), none] [.ref (0 : Nat)] T (rI KJ1).1 (rI KJ1).2) kk (fun  kk => ?_) (fun KJ1 OJ1 hJ1 kk => ?_)
  · skip
    refine r_ci (x := 0) dX11_wanted_31 rfl ?_
    obtain ⟨q6, kk⟩ := kk
    refine r_cv (d1 := 2) dX11_wanted_32 cvX11_221 rfl rfl rfl rfl (Nat.le_of_ble_eq_true rfl) (Nat.le_of_ble_eq_true rfl) (Nat.le_of_ble_eq_true rfl) (c_x_refusal 0 q6) ?_
    refine r_p (pc2 := 37) (L2 := [some (.ref (0 : Nat)), some (.int p0), some (.int p1), some (.int p2), some (.int (x_x_refusal T 0))]) dX11_wanted_35 rfl rfl ?_
    refine r_p (pc2 := 39) dX11_wanted_37 rfl rfl ?_
    refine r_ieq dX11_wanted_39 rfl (fun c39_7 => ?_) (fun c39_7 => ?_)
    · refine r_ip (R := rI) c39_7 ?_
      have kk := kk c39_7
      refine r_p (pc2 := 46) dX11_wanted_45 rfl rfl ?_
      refine r_p (pc2 := 47) dX11_wanted_46 rfl rfl ?_
      obtain ⟨q7, kk⟩ := kk
      refine r_cv (d1 := 11) dX11_wanted_47 cvX11_238 rfl rfl rfl rfl (Nat.le_of_ble_eq_true rfl) (Nat.le_of_ble_eq_true rfl) (Nat.le_of_ble_eq_true rfl) (c_x_findsPlan p0 q7) ?_
      refine r_ine dX11_wanted_50 rfl (fun c50_8 => ?_) (fun c50_8 => ?_)
      · refine r_in (R := rI) c50_8 ?_
        have kk := kk c50_8
        refine r_p (pc2 := 57) dX11_wanted_56 rfl rfl ?_
        refine r_get dX11_wanted_57 fkX11_57 rfl rfl ?_
        refine r_p (pc2 := 61) dX11_wanted_60 rfl rfl ?_
        refine r_get dX11_wanted_61 fkX11_30 rfl rfl ?_
        refine r_p (pc2 := 65) dX11_wanted_64 rfl rfl ?_
        refine r_get dX11_wanted_65 fkX11_40 rfl rfl ?_
        refine r_p (pc2 := 69) dX11_wanted_68 rfl rfl ?_
        refine r_get dX11_wanted_69 fkX11_71 rfl rfl ?_
        obtain ⟨q8, kk⟩ := kk
        refine r_cv (d1 := 3) dX11_wanted_72 cvX11_290 rfl rfl rfl rfl (Nat.le_of_ble_eq_true rfl) (Nat.le_of_ble_eq_true rfl) (Nat.le_of_ble_eq_true rfl) (c_jd_lay (((x_x_findsPlan T p0).2).2.1 0) 76 557 q8) ?_
        refine r_p (pc2 := 76) dX11_wanted_75 rfl rfl ?_
        refine r_get dX11_wanted_76 fkX11_57 rfl rfl ?_
        refine r_p (pc2 := 80) dX11_wanted_79 rfl rfl ?_
        refine r_get dX11_wanted_80 fkX11_71 rfl rfl ?_
        refine r_p (pc2 := 84) dX11_wanted_83 rfl rfl ?_
        refine r_gs 0 rfl dX11_wanted_84 gsX11_287 ?_
        refine r_p (pc2 := 88) dX11_wanted_87 rfl rfl ?_
        obtain ⟨q9, kk⟩ := kk
        refine r_ta (j := 0) rfl dX11_wanted_88 q9 ?_
        obtain ⟨q10, kk⟩ := kk
        refine r_cv (d1 := 1) dX11_wanted_89 cvX11_293 rfl rfl rfl rfl (Nat.le_of_ble_eq_true rfl) (Nat.le_of_ble_eq_true rfl) (Nat.le_of_ble_eq_true rfl) (c_jd_wantedAt 557 p1 (([3, 0, 2, 4] : List Int32).getD (p2 : Int32).toNatClampNeg 0) q10) ?_
        exact r_qI dX11_wanted_92 rfl rfl rfl rfl
      · refine r_ip (R := rI) c50_8 ?_
        refine r_k dX11_wanted_53 kkX11_241 ?_
        exact r_qI dX11_wanted_55 rfl rfl rfl rfl
    · refine r_in (R := rI) c39_7 ?_
      refine r_p (pc2 := 44) dX11_wanted_42 rfl rfl ?_
      exact r_qI dX11_wanted_44 rfl rfl rfl rfl
  refine r_ieq dX11_wanted_5 rfl (fun c5_9 => ?_) (fun c5_9 => ?_)
  · refine r_ip (R := rI) c5_9 ?_
    have kk := kk.1 c5_9
    show tR _ _ _ _ [some (.ref (0 : Nat)), some (.int p0), some (.int p1), some (.int p2), none] [.ref (0 : Nat)] _ _ _
    exact (hJ1  kk)
  · refine r_in (R := rI) c5_9 ?_
    have kk := kk.2 c5_9
    refine r_p (pc2 := 9) dX11_wanted_8 rfl rfl ?_
    refine r_cs (d1 := 1) dX11_wanted_9 csX11_194 rfl rfl (Nat.le_of_ble_eq_true rfl) (Nat.le_of_ble_eq_true rfl) (Nat.le_of_ble_eq_true rfl) (c_x_isMinute p1) ?_
    refine r_ieq dX11_wanted_12 rfl (fun c12_10 => ?_) (fun c12_10 => ?_)
    · refine r_ip (R := rI) c12_10 ?_
      have kk := kk.1 c12_10
      show tR _ _ _ _ [some (.ref (0 : Nat)), some (.int p0), some (.int p1), some (.int p2), none] [.ref (0 : Nat)] _ _ _
      exact (hJ1  kk)
    · refine r_in (R := rI) c12_10 ?_
      have kk := kk.2 c12_10
      refine r_p (pc2 := 16) dX11_wanted_15 rfl rfl ?_
      refine r_ilt dX11_wanted_16 rfl (fun c16_11 => ?_) (fun c16_11 => ?_)
      · refine r_ip (R := rI) c16_11 ?_
        have kk := kk.1 c16_11
        show tR _ _ _ _ [some (.ref (0 : Nat)), some (.int p0), some (.int p1), some (.int p2), none] [.ref (0 : Nat)] _ _ _
        exact (hJ1  kk)
      · refine r_in (R := rI) c16_11 ?_
        have kk := kk.2 c16_11
        refine r_p (pc2 := 20) dX11_wanted_19 rfl rfl ?_
        refine r_gs 0 rfl dX11_wanted_20 gsX11_287 ?_
        refine r_tl (j := 0) rfl dX11_wanted_23 ?_
        refine r_cge dX11_wanted_24 rfl (fun c24_12 => ?_) (fun c24_12 => ?_)
        · refine r_ip (R := rI) c24_12 ?_
          have kk := kk.1 c24_12
          show tR _ _ _ _ [some (.ref (0 : Nat)), some (.int p0), some (.int p1), some (.int p2), none] [.ref (0 : Nat)] _ _ _
          exact (hJ1  kk)
        · refine r_in (R := rI) c24_12 ?_
          have kk := kk.2 c24_12
          refine r_ci (x := 1) dX11_wanted_27 rfl ?_
          refine r_go dX11_wanted_28 rfl ?_
          obtain ⟨q11, kk⟩ := kk
          refine r_cv (d1 := 2) dX11_wanted_32 cvX11_221 rfl rfl rfl rfl (Nat.le_of_ble_eq_true rfl) (Nat.le_of_ble_eq_true rfl) (Nat.le_of_ble_eq_true rfl) (c_x_refusal 1 q11) ?_
          refine r_p (pc2 := 37) (L2 := [some (.ref (0 : Nat)), some (.int p0), some (.int p1), some (.int p2), some (.int (x_x_refusal T 1))]) dX11_wanted_35 rfl rfl ?_
          refine r_p (pc2 := 39) dX11_wanted_37 rfl rfl ?_
          refine r_ieq dX11_wanted_39 rfl (fun c39_13 => ?_) (fun c39_13 => ?_)
          · refine r_ip (R := rI) c39_13 ?_
            have kk := kk c39_13
            refine r_p (pc2 := 46) dX11_wanted_45 rfl rfl ?_
            refine r_p (pc2 := 47) dX11_wanted_46 rfl rfl ?_
            obtain ⟨q12, kk⟩ := kk
            refine r_cv (d1 := 11) dX11_wanted_47 cvX11_238 rfl rfl rfl rfl (Nat.le_of_ble_eq_true rfl) (Nat.le_of_ble_eq_true rfl) (Nat.le_of_ble_eq_true rfl) (c_x_findsPlan p0 q12) ?_
            refine r_ine dX11_wanted_50 rfl (fun c50_14 => ?_) (fun c50_14 => ?_)
            · refine r_in (R := rI) c50_14 ?_
              have kk := kk c50_14
              refine r_p (pc2 := 57) dX11_wanted_56 rfl rfl ?_
              refine r_get dX11_wanted_57 fkX11_57 rfl rfl ?_
              refine r_p (pc2 := 61) dX11_wanted_60 rfl rfl ?_
              refine r_get dX11_wanted_61 fkX11_30 rfl rfl ?_
              refine r_p (pc2 := 65) dX11_wanted_64 rfl rfl ?_
              refine r_get dX11_wanted_65 fkX11_40 rfl rfl ?_
              refine r_p (pc2 := 69) dX11_wanted_68 rfl rfl ?_
              refine r_get dX11_wanted_69 fkX11_71 rfl rfl ?_
              obtain ⟨q13, kk⟩ := kk
              refine r_cv (d1 := 3) dX11_wanted_72 cvX11_290 rfl rfl rfl rfl (Nat.le_of_ble_eq_true rfl) (Nat.le_of_ble_eq_true rfl) (Nat.le_of_ble_eq_true rfl) (c_jd_lay (((x_x_findsPlan T p0).2).2.1 0) 76 557 q13) ?_
              refine r_p (pc2 := 76) dX11_wanted_75 rfl rfl ?_
              refine r_get dX11_wanted_76 fkX11_57 rfl rfl ?_
              refine r_p (pc2 := 80) dX11_wanted_79 rfl rfl ?_
              refine r_get dX11_wanted_80 fkX11_71 rfl rfl ?_
              refine r_p (pc2 := 84) dX11_wanted_83 rfl rfl ?_
              refine r_gs 0 rfl dX11_wanted_84 gsX11_287 ?_
              refine r_p (pc2 := 88) dX11_wanted_87 rfl rfl ?_
              obtain ⟨q14, kk⟩ := kk
              refine r_ta (j := 0) rfl dX11_wanted_88 q14 ?_
              obtain ⟨q15, kk⟩ := kk
              refine r_cv (d1 := 1) dX11_wanted_89 cvX11_293 rfl rfl rfl rfl (Nat.le_of_ble_eq_true rfl) (Nat.le_of_ble_eq_true rfl) (Nat.le_of_ble_eq_true rfl) (c_jd_wantedAt 557 p1 (([3, 0, 2, 4] : List Int32).getD (p2 : Int32).toNatClampNeg 0) q15) ?_
              exact r_qI dX11_wanted_92 rfl rfl rfl rfl
            · refine r_ip (R := rI) c50_14 ?_
              refine r_k dX11_wanted_53 kkX11_241 ?_
              exact r_qI dX11_wanted_55 rfl rfl rfl rfl
          · refine r_in (R := rI) c39_13 ?_
            refine r_p (pc2 := 44) dX11_wanted_42 rfl rfl ?_
            exact r_qI dX11_wanted_44 rfl rfl rfl rfl
def x_x_more_34 (l1 : Int32) (l2 : Int32) (K : Int32 → Int32 → St → Int32 × St) : Nat → Int32 → Int32 → St → Int32 × St
  | 0, _, _, T => (0, T)
  | f + 1, v3, v4, T => if (T.1 (T.2.1 0) 4) ≤ v4 then (K v3 v4 T) else (if ((T.1 (T.2.1 0) 17) &&& (1 <<< (v4 &&& 31))) = 0 then (if ((x_x_isPossible T 76 ((T.1 (T.2.1 0) 17) ||| (1 <<< (v4 &&& 31))) l1).1) = 0 then (x_x_more_34 l1 l2 K f v3 (v4 + 1) ((x_x_isPossible T 76 ((T.1 (T.2.1 0) 17) ||| (1 <<< (v4 &&& 31))) l1).2)) else (jn (fun (i2 : Int32) => x_x_more_34 l1 l2 K f i2 (v4 + 1) ((x_x_isPossible T 76 ((T.1 (T.2.1 0) 17) ||| (1 <<< (v4 &&& 31))) l1).2)) (v3 ||| (1 <<< (v4 &&& 31))))) else (x_x_more_34 l1 l2 K f v3 (v4 + 1) T))
def ok_x_more_34 (l1 : Int32) (l2 : Int32) (Kk : Int32 → Int32 → St → Prop) : Nat → Int32 → Int32 → St → Prop
  | 0, _, _, _ => False
  | f + 1, v3, v4, T => (sh (T.2.1 0) = .inr 1) ∧ (((T.1 (T.2.1 0) 4) ≤ v4 → Kk v3 v4 T) ∧ (¬ (T.1 (T.2.1 0) 4) ≤ v4 → ((((T.1 (T.2.1 0) 17) &&& (1 <<< (v4 &&& 31))) = 0 → (ok_x_isPossible T 76 ((T.1 (T.2.1 0) 17) ||| (1 <<< (v4 &&& 31))) l1) ∧ ((((x_x_isPossible T 76 ((T.1 (T.2.1 0) 17) ||| (1 <<< (v4 &&& 31))) l1).1) = 0 → ok_x_more_34 l1 l2 Kk f v3 (v4 + 1) ((x_x_isPossible T 76 ((T.1 (T.2.1 0) 17) ||| (1 <<< (v4 &&& 31))) l1).2)) ∧ (¬ ((x_x_isPossible T 76 ((T.1 (T.2.1 0) 17) ||| (1 <<< (v4 &&& 31))) l1).1) = 0 → jn (fun (i2 : Int32) => ok_x_more_34 l1 l2 Kk f i2 (v4 + 1) ((x_x_isPossible T 76 ((T.1 (T.2.1 0) 17) ||| (1 <<< (v4 &&& 31))) l1).2)) (v3 ||| (1 <<< (v4 &&& 31)))))) ∧ (¬ ((T.1 (T.2.1 0) 17) &&& (1 <<< (v4 &&& 31))) = 0 → ok_x_more_34 l1 l2 Kk f v3 (v4 + 1) T))))
theorem c_x_more_34 {X : Nat × (Nat → Int32)} (l1 : Int32) (l2 : Int32) {K : Int32 → Int32 → St → Int32 × St} {Kk : Int32 → Int32 → St → Prop} (hk : ∀ (v3 : Int32) (v4 : Int32) (T : St), Kk v3 v4 T → tR X 11 mX11_more 98 [some (.ref (0 : Nat)), some (.int l1), some (.int l2), some (.int v3), some (.int v4), none] [] T (rI (K v3 v4 T)).1 ((rI (K v3 v4 T)).2)) : ∀ (f : Nat) (v3 : Int32) (v4 : Int32) (T : St), ok_x_more_34 l1 l2 Kk f v3 v4 T → tR X 11 mX11_more 34 [some (.ref (0 : Nat)), some (.int l1), some (.int l2), some (.int v3), some (.int v4), none] [] T (rI (x_x_more_34 l1 l2 K f v3 v4 T)).1 ((rI (x_x_more_34 l1 l2 K f v3 v4 T)).2) := by
  intro f
  induction f with
  | zero => intro v3 v4 T kk; exact kk.elim
  | succ f ih =>
    intro v3 v4 T kk
    rw [ok_x_more_34] at kk
    rw [x_x_more_34]
    refine r_p (pc2 := 36) dX11_more_34 rfl rfl ?_
    refine r_p (pc2 := 37) dX11_more_36 rfl rfl ?_
    refine r_get dX11_more_37 fkX11_30 rfl rfl ?_
    obtain ⟨q3, kk⟩ := kk
    refine r_get dX11_more_40 fkX11_149 q3 rfl ?_
    refine r_cge dX11_more_43 rfl (fun c43_3 => ?_) (fun c43_3 => ?_)
    · refine r_ip (R := rI) c43_3 ?_
      have kk := kk.1 c43_3
      show tR _ _ _ _ [some (.ref (0 : Nat)), some (.int l1), some (.int l2), some (.int v3), some (.int v4), none] _ _ _ _
      exact (hk v3 v4 T kk)
    · refine r_in (R := rI) c43_3 ?_
      have kk := kk.2 c43_3
      refine r_ci (x := 1) dX11_more_46 rfl ?_
      refine r_p (pc2 := 49) dX11_more_47 rfl rfl ?_
      refine r_p (pc2 := 50) dX11_more_49 rfl rfl ?_
      refine r_p (pc2 := 52) (L2 := [some (.ref (0 : Nat)), some (.int l1), some (.int l2), some (.int v3), some (.int v4), some (.int (1 <<< (v4 &&& 31)))]) dX11_more_50 rfl rfl ?_
      refine r_p (pc2 := 53) dX11_more_52 rfl rfl ?_
      refine r_get dX11_more_53 fkX11_30 rfl rfl ?_
      refine r_get dX11_more_56 fkX11_209 q3 rfl ?_
      refine r_p (pc2 := 61) dX11_more_59 rfl rfl ?_
      refine r_p (pc2 := 62) dX11_more_61 rfl rfl ?_
      refine r_ine dX11_more_62 rfl (fun c62_4 => ?_) (fun c62_4 => ?_)
      · refine r_in (R := rI) c62_4 ?_
        have kk := kk.2 c62_4
        refine r_inc (L2 := [some (.ref (0 : Nat)), some (.int l1), some (.int l2), some (.int v3), some (.int (v4 + 1)), some (.int (1 <<< (v4 &&& 31)))]) (y := 1) dX11_more_92 rfl rfl rfl ?_
        refine r_go dX11_more_95 rfl ?_
        show tR _ _ _ _ [some (.ref (0 : Nat)), some (.int l1), some (.int l2), some (.int v3), some (.int (v4 + 1)), some (.int (1 <<< (v4 &&& 31)))] _ _ _ _
        exact r_le (le_s (le_s (le_s (le_s (le_s (le_n (le_0))))))) (ih v3 (v4 + 1) T kk)
      · refine r_ip (R := rI) c62_4 ?_
        have kk := kk.1 c62_4
        refine r_p (pc2 := 66) dX11_more_65 rfl rfl ?_
        refine r_p (pc2 := 67) dX11_more_66 rfl rfl ?_
        refine r_get dX11_more_67 fkX11_40 rfl rfl ?_
        refine r_p (pc2 := 71) dX11_more_70 rfl rfl ?_
        refine r_get dX11_more_71 fkX11_30 rfl rfl ?_
        refine r_get dX11_more_74 fkX11_209 q3 rfl ?_
        refine r_p (pc2 := 79) dX11_more_77 rfl rfl ?_
        refine r_p (pc2 := 80) dX11_more_79 rfl rfl ?_
        refine r_p (pc2 := 81) dX11_more_80 rfl rfl ?_
        obtain ⟨q4, kk⟩ := kk
        refine r_cv (d1 := 11) dX11_more_81 cvX11_267 rfl rfl rfl rfl (Nat.le_of_ble_eq_true rfl) (Nat.le_of_ble_eq_true rfl) (Nat.le_of_ble_eq_true rfl) (c_x_isPossible 76 ((T.1 (T.2.1 0) 17) ||| (1 <<< (v4 &&& 31))) l1 q4) ?_
        refine r_ieq dX11_more_84 rfl (fun c84_5 => ?_) (fun c84_5 => ?_)
        · refine r_ip (R := rI) c84_5 ?_
          have kk := kk.1 c84_5
          refine r_inc (L2 := [some (.ref (0 : Nat)), some (.int l1), some (.int l2), some (.int v3), some (.int (v4 + 1)), some (.int (1 <<< (v4 &&& 31)))]) (y := 1) dX11_more_92 rfl rfl rfl ?_
          refine r_go dX11_more_95 rfl ?_
          show tR _ _ _ _ [some (.ref (0 : Nat)), some (.int l1), some (.int l2), some (.int v3), some (.int (v4 + 1)), some (.int (1 <<< (v4 &&& 31)))] _ _ _ _
          exact r_le (le_s (le_s (le_s (le_s (le_s (le_n (le_0))))))) (ih v3 (v4 + 1) ((x_x_isPossible T 76 ((T.1 (T.2.1 0) 17) ||| (1 <<< (v4 &&& 31))) l1).2) kk)
        · refine r_in (R := rI) c84_5 ?_
          have kk := kk.2 c84_5
          refine r_p (pc2 := 88) dX11_more_87 rfl rfl ?_
          refine r_p (pc2 := 90) dX11_more_88 rfl rfl ?_
          refine r_p (pc2 := 91) dX11_more_90 rfl rfl ?_
          refine r_nI (R := rI) rfl kk (fun i2 kk => ?_)
          refine r_p (pc2 := 92) (L2 := [some (.ref (0 : Nat)), some (.int l1), some (.int l2), some (.int i2), some (.int v4), some (.int (1 <<< (v4 &&& 31)))]) dX11_more_91 rfl rfl ?_
          refine r_inc (L2 := [some (.ref (0 : Nat)), some (.int l1), some (.int l2), some (.int i2), some (.int (v4 + 1)), some (.int (1 <<< (v4 &&& 31)))]) (y := 1) dX11_more_92 rfl rfl rfl ?_
          refine r_go dX11_more_95 rfl ?_
          show tR _ _ _ _ [some (.ref (0 : Nat)), some (.int l1), some (.int l2), some (.int i2), some (.int (v4 + 1)), some (.int (1 <<< (v4 &&& 31)))] _ _ _ _
          exact r_le (le_s (le_s (le_s (le_s (le_s (le_n (le_0))))))) (ih i2 (v4 + 1) ((x_x_isPossible T 76 ((T.1 (T.2.1 0) 17) ||| (1 <<< (v4 &&& 31))) l1).2) kk)
def x_x_more (T : St) (p0 : Int32) : Int32 × St := jn (fun (i1 : Int32) => if i1 = 0 then (if 4 ≤ (x_J_bitCount T (T.1 (T.2.1 0) 17)) then (0, T) else (x_x_more_34 p0 i1 (fun (w1_3 : Int32) (w1_4 : Int32) (T201 : St) => (w1_3, T201)) 1000 0 0 T)) else (i1, T)) (x_x_refusal T (x_x_isTime T p0))
def ok_x_more (T : St) (p0 : Int32) : Prop := (ok_x_refusal T (x_x_isTime T p0)) ∧ jn (fun (i1 : Int32) => (i1 = 0 → (sh (T.2.1 0) = .inr 1) ∧ (¬ 4 ≤ (x_J_bitCount T (T.1 (T.2.1 0) 17)) → ok_x_more_34 p0 i1 (fun (w1_3 : Int32) (w1_4 : Int32) (T201 : St) => True) 1000 0 0 T))) (x_x_refusal T (x_x_isTime T p0))
theorem c_x_more {X : Nat × (Nat → Int32)} {T : St} (p0 : Int32) (kk : ok_x_more T p0) : tC X 12 mX11_more [.ref (0 : Nat), .int p0] T (some (.int (x_x_more T p0).1)) ((x_x_more T p0).2) := by
  unfold ok_x_more at kk
  refine tC_orI (L := [some (.ref (0 : Nat)), some (.int p0), none, none, none, none]) (x_x_more T p0) rfl ?_
  unfold x_x_more
  refine r_p (pc2 := 1) dX11_more_0 rfl rfl ?_
  refine r_p (pc2 := 2) dX11_more_1 rfl rfl ?_
  refine r_cs (d1 := 1) dX11_more_2 csX11_218 rfl rfl (Nat.le_of_ble_eq_true rfl) (Nat.le_of_ble_eq_true rfl) (Nat.le_of_ble_eq_true rfl) (c_x_isTime p0) ?_
  obtain ⟨q1, kk⟩ := kk
  refine r_cv (d1 := 2) dX11_more_5 cvX11_221 rfl rfl rfl rfl (Nat.le_of_ble_eq_true rfl) (Nat.le_of_ble_eq_true rfl) (Nat.le_of_ble_eq_true rfl) (c_x_refusal (x_x_isTime T p0) q1) ?_
  refine r_nI (R := rI) rfl kk (fun i1 kk => ?_)
  refine r_p (pc2 := 9) (L2 := [some (.ref (0 : Nat)), some (.int p0), some (.int i1), none, none, none]) dX11_more_8 rfl rfl ?_
  refine r_p (pc2 := 10) dX11_more_9 rfl rfl ?_
  refine r_ieq dX11_more_10 rfl (fun c10_1 => ?_) (fun c10_1 => ?_)
  · refine r_ip (R := rI) c10_1 ?_
    have kk := kk c10_1
    refine r_ci (x := 0) dX11_more_15 rfl ?_
    refine r_p (pc2 := 17) (L2 := [some (.ref (0 : Nat)), some (.int p0), some (.int i1), some (.int 0), none, none]) dX11_more_16 rfl rfl ?_
    refine r_p (pc2 := 18) dX11_more_17 rfl rfl ?_
    refine r_get dX11_more_18 fkX11_30 rfl rfl ?_
    obtain ⟨q2, kk⟩ := kk
    refine r_get dX11_more_21 fkX11_209 q2 rfl ?_
    refine r_cs (d1 := 1) dX11_more_24 csX11_200 rfl rfl (Nat.le_of_ble_eq_true rfl) (Nat.le_of_ble_eq_true rfl) (Nat.le_of_ble_eq_true rfl) (c_J_bitCount (T.1 (T.2.1 0) 17)) ?_
    refine r_ci (x := 4) dX11_more_27 rfl ?_
    refine r_cge dX11_more_28 rfl (fun c28_2 => ?_) (fun c28_2 => ?_)
    · refine r_ip (R := rI) c28_2 ?_
      refine r_p (pc2 := 99) dX11_more_98 rfl rfl ?_
      exact r_qI dX11_more_99 rfl rfl rfl rfl
    · refine r_in (R := rI) c28_2 ?_
      have kk := kk c28_2
      refine r_ci (x := 0) dX11_more_31 rfl ?_
      refine r_p (pc2 := 34) (L2 := [some (.ref (0 : Nat)), some (.int p0), some (.int i1), some (.int 0), some (.int 0), none]) dX11_more_32 rfl rfl ?_
      show tR _ _ _ _ [some (.ref (0 : Nat)), some (.int p0), some (.int i1), some (.int 0), some (.int 0), none] _ _ _ _
      refine (c_x_more_34 p0 i1 (fun w1_3 w1_4 T201 kk => ?_) 1000 0 0 T kk)
      · skip
        refine r_p (pc2 := 99) dX11_more_98 rfl rfl ?_
        exact r_qI dX11_more_99 rfl rfl rfl rfl
  · refine r_in (R := rI) c10_1 ?_
    refine r_p (pc2 := 14) dX11_more_13 rfl rfl ?_
    exact r_qI dX11_more_14 rfl rfl rfl rfl
def x_x_mend (T : St) (p0 : Int32) (p1 : Int32) : Int32 × St := jn (fun (KJ1 : Int32 × St) => if (x_x_isTime T p0) = 0 then (KJ1) else (if (x_x_isMinute T p1) = 0 then (KJ1) else (if (x_x_refusal T 1) = 0 then (if (T.2.2.1 ((T.2.1 0) + 1) (1 : Int32).toNatClampNeg) = 0 then ((-1000002), T) else (if 60 ≤ (T.1 (T.2.1 0) 18) then (if ((x_x_findsPlan T p0).1) = 0 then ((-1000000), (x_x_findsPlan T p0).2) else (jn (fun (T5 : St) => jn (fun (T6 : St) => if ((x_pl_finds T6 (T6.1 (T6.2.1 0) 17) 0).1) = 0 then ((-1000000), (x_pl_finds T6 (T6.1 (T6.2.1 0) 17) 0).2) else (((x_pl_finds T6 (T6.1 (T6.2.1 0) 17) 0).2).1 80 17, (x_pl_finds T6 (T6.1 (T6.2.1 0) 17) 0).2)) (x_pl_settle (x_pl_strikeUnlike (x_pl_lay T5 (T5.2.1 0) 78 (T5.1 (T5.2.1 0) 17) p0) 557 p1) ((x_pl_strikeUnlike (x_pl_lay T5 (T5.2.1 0) 78 (T5.1 (T5.2.1 0) 17) p0) 557 p1).1 ((x_pl_strikeUnlike (x_pl_lay T5 (T5.2.1 0) 78 (T5.1 (T5.2.1 0) 17) p0) 557 p1).2.1 0) 17))) (x_ki_fit ((x_x_findsPlan T p0).2) 78 (((x_x_findsPlan T p0).2).2.1 0) (((x_x_findsPlan T p0).2).2.2.1 ((((x_x_findsPlan T p0).2).2.1 0) + 1) (5 : Int32).toNatClampNeg) p1))) else ((-1000002), T))) else (x_x_refusal T 1, T)))) (if (x_x_refusal T 0) = 0 then (if (T.2.2.1 ((T.2.1 0) + 1) (1 : Int32).toNatClampNeg) = 0 then ((-1000002), T) else (if 60 ≤ (T.1 (T.2.1 0) 18) then (if ((x_x_findsPlan T p0).1) = 0 then ((-1000000), (x_x_findsPlan T p0).2) else (jn (fun (T3 : St) => jn (fun (T4 : St) => if ((x_pl_finds T4 (T4.1 (T4.2.1 0) 17) 0).1) = 0 then ((-1000000), (x_pl_finds T4 (T4.1 (T4.2.1 0) 17) 0).2) else (((x_pl_finds T4 (T4.1 (T4.2.1 0) 17) 0).2).1 80 17, (x_pl_finds T4 (T4.1 (T4.2.1 0) 17) 0).2)) (x_pl_settle (x_pl_strikeUnlike (x_pl_lay T3 (T3.2.1 0) 78 (T3.1 (T3.2.1 0) 17) p0) 557 p1) ((x_pl_strikeUnlike (x_pl_lay T3 (T3.2.1 0) 78 (T3.1 (T3.2.1 0) 17) p0) 557 p1).1 ((x_pl_strikeUnlike (x_pl_lay T3 (T3.2.1 0) 78 (T3.1 (T3.2.1 0) 17) p0) 557 p1).2.1 0) 17))) (x_ki_fit ((x_x_findsPlan T p0).2) 78 (((x_x_findsPlan T p0).2).2.1 0) (((x_x_findsPlan T p0).2).2.2.1 ((((x_x_findsPlan T p0).2).2.1 0) + 1) (5 : Int32).toNatClampNeg) p1))) else ((-1000002), T))) else (x_x_refusal T 0, T))
def ok_x_mend (T : St) (p0 : Int32) (p1 : Int32) : Prop := jn (fun (OJ1 : Prop) => (((x_x_isTime T p0) = 0 → OJ1) ∧ (¬ (x_x_isTime T p0) = 0 → (((x_x_isMinute T p1) = 0 → OJ1) ∧ (¬ (x_x_isMinute T p1) = 0 → (ok_x_refusal T 1) ∧ ((x_x_refusal T 1) = 0 → (sh (T.2.1 0) = .inr 1) ∧ (¬ (T.2.2.1 ((T.2.1 0) + 1) (1 : Int32).toNatClampNeg) = 0 → (60 ≤ (T.1 (T.2.1 0) 18) → (ok_x_findsPlan T p0) ∧ (¬ ((x_x_findsPlan T p0).1) = 0 → (sh (((x_x_findsPlan T p0).2).2.1 0) = .inr 1) ∧ (ok_ki_fit ((x_x_findsPlan T p0).2) 78 (((x_x_findsPlan T p0).2).2.1 0) (((x_x_findsPlan T p0).2).2.2.1 ((((x_x_findsPlan T p0).2).2.1 0) + 1) (5 : Int32).toNatClampNeg) p1) ∧ jn (fun (T5 : St) => (sh (T5.2.1 0) = .inr 1) ∧ (ok_pl_lay T5 (T5.2.1 0) 78 (T5.1 (T5.2.1 0) 17) p0) ∧ (ok_pl_strikeUnlike (x_pl_lay T5 (T5.2.1 0) 78 (T5.1 (T5.2.1 0) 17) p0) 557 p1) ∧ (sh ((x_pl_strikeUnlike (x_pl_lay T5 (T5.2.1 0) 78 (T5.1 (T5.2.1 0) 17) p0) 557 p1).2.1 0) = .inr 1) ∧ (ok_pl_settle (x_pl_strikeUnlike (x_pl_lay T5 (T5.2.1 0) 78 (T5.1 (T5.2.1 0) 17) p0) 557 p1) ((x_pl_strikeUnlike (x_pl_lay T5 (T5.2.1 0) 78 (T5.1 (T5.2.1 0) 17) p0) 557 p1).1 ((x_pl_strikeUnlike (x_pl_lay T5 (T5.2.1 0) 78 (T5.1 (T5.2.1 0) 17) p0) 557 p1).2.1 0) 17)) ∧ jn (fun (T6 : St) => (sh (T6.2.1 0) = .inr 1) ∧ (ok_pl_finds T6 (T6.1 (T6.2.1 0) 17) 0) ∧ True) (x_pl_settle (x_pl_strikeUnlike (x_pl_lay T5 (T5.2.1 0) 78 (T5.1 (T5.2.1 0) 17) p0) 557 p1) ((x_pl_strikeUnlike (x_pl_lay T5 (T5.2.1 0) 78 (T5.1 (T5.2.1 0) 17) p0) 557 p1).1 ((x_pl_strikeUnlike (x_pl_lay T5 (T5.2.1 0) 78 (T5.1 (T5.2.1 0) 17) p0) 557 p1).2.1 0) 17))) (x_ki_fit ((x_x_findsPlan T p0).2) 78 (((x_x_findsPlan T p0).2).2.1 0) (((x_x_findsPlan T p0).2).2.2.1 ((((x_x_findsPlan T p0).2).2.1 0) + 1) (5 : Int32).toNatClampNeg) p1)))))))))) ((ok_x_refusal T 0) ∧ ((x_x_refusal T 0) = 0 → (sh (T.2.1 0) = .inr 1) ∧ (¬ (T.2.2.1 ((T.2.1 0) + 1) (1 : Int32).toNatClampNeg) = 0 → (60 ≤ (T.1 (T.2.1 0) 18) → (ok_x_findsPlan T p0) ∧ (¬ ((x_x_findsPlan T p0).1) = 0 → (sh (((x_x_findsPlan T p0).2).2.1 0) = .inr 1) ∧ (ok_ki_fit ((x_x_findsPlan T p0).2) 78 (((x_x_findsPlan T p0).2).2.1 0) (((x_x_findsPlan T p0).2).2.2.1 ((((x_x_findsPlan T p0).2).2.1 0) + 1) (5 : Int32).toNatClampNeg) p1) ∧ jn (fun (T3 : St) => (sh (T3.2.1 0) = .inr 1) ∧ (ok_pl_lay T3 (T3.2.1 0) 78 (T3.1 (T3.2.1 0) 17) p0) ∧ (ok_pl_strikeUnlike (x_pl_lay T3 (T3.2.1 0) 78 (T3.1 (T3.2.1 0) 17) p0) 557 p1) ∧ (sh ((x_pl_strikeUnlike (x_pl_lay T3 (T3.2.1 0) 78 (T3.1 (T3.2.1 0) 17) p0) 557 p1).2.1 0) = .inr 1) ∧ (ok_pl_settle (x_pl_strikeUnlike (x_pl_lay T3 (T3.2.1 0) 78 (T3.1 (T3.2.1 0) 17) p0) 557 p1) ((x_pl_strikeUnlike (x_pl_lay T3 (T3.2.1 0) 78 (T3.1 (T3.2.1 0) 17) p0) 557 p1).1 ((x_pl_strikeUnlike (x_pl_lay T3 (T3.2.1 0) 78 (T3.1 (T3.2.1 0) 17) p0) 557 p1).2.1 0) 17)) ∧ jn (fun (T4 : St) => (sh (T4.2.1 0) = .inr 1) ∧ (ok_pl_finds T4 (T4.1 (T4.2.1 0) 17) 0) ∧ True) (x_pl_settle (x_pl_strikeUnlike (x_pl_lay T3 (T3.2.1 0) 78 (T3.1 (T3.2.1 0) 17) p0) 557 p1) ((x_pl_strikeUnlike (x_pl_lay T3 (T3.2.1 0) 78 (T3.1 (T3.2.1 0) 17) p0) 557 p1).1 ((x_pl_strikeUnlike (x_pl_lay T3 (T3.2.1 0) 78 (T3.1 (T3.2.1 0) 17) p0) 557 p1).2.1 0) 17))) (x_ki_fit ((x_x_findsPlan T p0).2) 78 (((x_x_findsPlan T p0).2).2.1 0) (((x_x_findsPlan T p0).2).2.2.1 ((((x_x_findsPlan T p0).2).2.1 0) + 1) (5 : Int32).toNatClampNeg) p1))))))
theorem c_x_mend {X : Nat × (Nat → Int32)} {T : St} (p0 : Int32) (p1 : Int32) (kk : ok_x_mend T p0 p1) : tC X 12 mX11_mend [.ref (0 : Nat), .int p0, .int p1] T (some (.int (x_x_mend T p0 p1).1)) ((x_x_mend T p0 p1).2) := by
  unfold ok_x_mend at kk
  refine tC_orI (L := [some (.ref (0 : Nat)), some (.int p0), some (.int p1), none]) (x_x_mend T p0 p1) rfl ?_
  unfold x_x_mend
  refine r_p (pc2 := 1) dX11_mend_0 rfl rfl ?_
  refine r_p (pc2 := 2) dX11_mend_1 rfl rfl ?_
  refine r_cs (d1 := 1) dX11_mend_2 csX11_218 rfl rfl (Nat.le_of_ble_eq_true rfl) (Nat.le_of_ble_eq_true rfl) (Nat.le_of_ble_eq_true rfl) (c_x_isTime p0) ?_
  refine r_jn (R := rI) (J := fun (KJ1 : Int32 × St) (OJ1 : Prop) => OJ1 → tR X 11 mX11_mend 19 [some (.ref (0 : Nat)), some (.int p0), some (.int p1), none] [.ref (0 : Nat)] T (rI KJ1).1 (rI KJ1).2) kk (fun  kk => ?_) (fun KJ1 OJ1 hJ1 kk => ?_)
  · skip
    refine r_ci (x := 0) dX11_mend_19 rfl ?_
    obtain ⟨q13, kk⟩ := kk
    refine r_cv (d1 := 2) dX11_mend_20 cvX11_221 rfl rfl rfl rfl (Nat.le_of_ble_eq_true rfl) (Nat.le_of_ble_eq_true rfl) (Nat.le_of_ble_eq_true rfl) (c_x_refusal 0 q13) ?_
    refine r_p (pc2 := 24) (L2 := [some (.ref (0 : Nat)), some (.int p0), some (.int p1), some (.int (x_x_refusal T 0))]) dX11_mend_23 rfl rfl ?_
    refine r_p (pc2 := 25) dX11_mend_24 rfl rfl ?_
    refine r_ieq dX11_mend_25 rfl (fun c25_8 => ?_) (fun c25_8 => ?_)
    · refine r_ip (R := rI) c25_8 ?_
      have kk := kk c25_8
      refine r_p (pc2 := 31) dX11_mend_30 rfl rfl ?_
      refine r_get dX11_mend_31 fkX11_30 rfl rfl ?_
      obtain ⟨q14, kk⟩ := kk
      refine r_get dX11_mend_34 fkX11_212 q14 rfl ?_
      refine r_ci (x := 1) dX11_mend_37 rfl ?_
      refine r_ia dX11_mend_38 (shl1_1 q14) (in_c (by decide)) ?_
      refine r_ieq dX11_mend_39 rfl (fun c39_9 => ?_) (fun c39_9 => ?_)
      · refine r_ip (R := rI) c39_9 ?_
        refine r_k dX11_mend_54 kkX11_193 ?_
        exact r_qI dX11_mend_56 rfl rfl rfl rfl
      · refine r_in (R := rI) c39_9 ?_
        have kk := kk c39_9
        refine r_p (pc2 := 43) dX11_mend_42 rfl rfl ?_
        refine r_get dX11_mend_43 fkX11_30 rfl rfl ?_
        refine r_get dX11_mend_46 fkX11_215 q14 rfl ?_
        refine r_cb (x := 60) dX11_mend_49 rfl ?_
        refine r_cge dX11_mend_51 rfl (fun c51_10 => ?_) (fun c51_10 => ?_)
        · refine r_ip (R := rI) c51_10 ?_
          have kk := kk c51_10
          refine r_p (pc2 := 58) dX11_mend_57 rfl rfl ?_
          refine r_p (pc2 := 59) dX11_mend_58 rfl rfl ?_
          obtain ⟨q15, kk⟩ := kk
          refine r_cv (d1 := 11) dX11_mend_59 cvX11_238 rfl rfl rfl rfl (Nat.le_of_ble_eq_true rfl) (Nat.le_of_ble_eq_true rfl) (Nat.le_of_ble_eq_true rfl) (c_x_findsPlan p0 q15) ?_
          refine r_ine dX11_mend_62 rfl (fun c62_11 => ?_) (fun c62_11 => ?_)
          · refine r_in (R := rI) c62_11 ?_
            have kk := kk c62_11
            refine r_p (pc2 := 69) dX11_mend_68 rfl rfl ?_
            refine r_get dX11_mend_69 fkX11_44 rfl rfl ?_
            refine r_p (pc2 := 73) dX11_mend_72 rfl rfl ?_
            refine r_get dX11_mend_73 fkX11_30 rfl rfl ?_
            refine r_p (pc2 := 77) dX11_mend_76 rfl rfl ?_
            refine r_get dX11_mend_77 fkX11_30 rfl rfl ?_
            obtain ⟨q16, kk⟩ := kk
            refine r_get dX11_mend_80 fkX11_212 q16 rfl ?_
            refine r_ci (x := 5) dX11_mend_83 rfl ?_
            refine r_ia dX11_mend_84 (shl1_1 q16) (in_c (by decide)) ?_
            refine r_p (pc2 := 86) dX11_mend_85 rfl rfl ?_
            obtain ⟨q17, kk⟩ := kk
            refine r_cv (d1 := 3) dX11_mend_86 cvX11_300 rfl rfl rfl rfl (Nat.le_of_ble_eq_true rfl) (Nat.le_of_ble_eq_true rfl) (Nat.le_of_ble_eq_true rfl) (c_ki_fit 78 (((x_x_findsPlan T p0).2).2.1 0) (((x_x_findsPlan T p0).2).2.2.1 ((((x_x_findsPlan T p0).2).2.1 0) + 1) (5 : Int32).toNatClampNeg) p1 q17) ?_
            refine r_nT (R := rI) rfl kk (fun T3 kk => ?_)
            refine r_p (pc2 := 90) dX11_mend_89 rfl rfl ?_
            refine r_get dX11_mend_90 fkX11_50 rfl rfl ?_
            refine r_p (pc2 := 94) dX11_mend_93 rfl rfl ?_
            refine r_get dX11_mend_94 fkX11_30 rfl rfl ?_
            refine r_p (pc2 := 98) dX11_mend_97 rfl rfl ?_
            refine r_get dX11_mend_98 fkX11_44 rfl rfl ?_
            refine r_p (pc2 := 102) dX11_mend_101 rfl rfl ?_
            refine r_get dX11_mend_102 fkX11_30 rfl rfl ?_
            obtain ⟨q18, kk⟩ := kk
            refine r_get dX11_mend_105 fkX11_209 q18 rfl ?_
            refine r_p (pc2 := 109) dX11_mend_108 rfl rfl ?_
            obtain ⟨q19, kk⟩ := kk
            refine r_cv (d1 := 5) dX11_mend_109 cvX11_249 rfl rfl rfl rfl (Nat.le_of_ble_eq_true rfl) (Nat.le_of_ble_eq_true rfl) (Nat.le_of_ble_eq_true rfl) (c_pl_lay (T3.2.1 0) 78 (T3.1 (T3.2.1 0) 17) p0 q19) ?_
            refine r_p (pc2 := 113) dX11_mend_112 rfl rfl ?_
            refine r_get dX11_mend_113 fkX11_50 rfl rfl ?_
            refine r_p (pc2 := 117) dX11_mend_116 rfl rfl ?_
            refine r_get dX11_mend_117 fkX11_71 rfl rfl ?_
            refine r_p (pc2 := 121) dX11_mend_120 rfl rfl ?_
            obtain ⟨q20, kk⟩ := kk
            refine r_cv (d1 := 1) dX11_mend_121 cvX11_313 rfl rfl rfl rfl (Nat.le_of_ble_eq_true rfl) (Nat.le_of_ble_eq_true rfl) (Nat.le_of_ble_eq_true rfl) (c_pl_strikeUnlike 557 p1 q20) ?_
            refine r_p (pc2 := 125) dX11_mend_124 rfl rfl ?_
            refine r_get dX11_mend_125 fkX11_50 rfl rfl ?_
            refine r_p (pc2 := 129) dX11_mend_128 rfl rfl ?_
            refine r_get dX11_mend_129 fkX11_30 rfl rfl ?_
            obtain ⟨q21, kk⟩ := kk
            refine r_get dX11_mend_132 fkX11_209 q21 rfl ?_
            obtain ⟨q22, kk⟩ := kk
            refine r_cv (d1 := 3) dX11_mend_135 cvX11_255 rfl rfl rfl rfl (Nat.le_of_ble_eq_true rfl) (Nat.le_of_ble_eq_true rfl) (Nat.le_of_ble_eq_true rfl) (c_pl_settle ((x_pl_strikeUnlike (x_pl_lay T3 (T3.2.1 0) 78 (T3.1 (T3.2.1 0) 17) p0) 557 p1).1 ((x_pl_strikeUnlike (x_pl_lay T3 (T3.2.1 0) 78 (T3.1 (T3.2.1 0) 17) p0) 557 p1).2.1 0) 17) q22) ?_
            refine r_nT (R := rI) rfl kk (fun T4 kk => ?_)
            refine r_p (pc2 := 139) dX11_mend_138 rfl rfl ?_
            refine r_get dX11_mend_139 fkX11_50 rfl rfl ?_
            refine r_p (pc2 := 143) dX11_mend_142 rfl rfl ?_
            refine r_get dX11_mend_143 fkX11_30 rfl rfl ?_
            obtain ⟨q23, kk⟩ := kk
            refine r_get dX11_mend_146 fkX11_209 q23 rfl ?_
            refine r_ci (x := 0) dX11_mend_149 rfl ?_
            obtain ⟨q24, kk⟩ := kk
            refine r_cv (d1 := 10) dX11_mend_150 cvX11_259 rfl rfl rfl rfl (Nat.le_of_ble_eq_true rfl) (Nat.le_of_ble_eq_true rfl) (Nat.le_of_ble_eq_true rfl) (c_pl_finds (T4.1 (T4.2.1 0) 17) 0 q24) ?_
            refine r_ieq dX11_mend_153 rfl (fun c153_12 => ?_) (fun c153_12 => ?_)
            · refine r_ip (R := rI) c153_12 ?_
              refine r_k dX11_mend_166 kkX11_241 ?_
              exact r_qI dX11_mend_168 rfl rfl rfl rfl
            · refine r_in (R := rI) c153_12 ?_
              refine r_p (pc2 := 157) dX11_mend_156 rfl rfl ?_
              refine r_get dX11_mend_157 fkX11_50 rfl rfl ?_
              refine r_get dX11_mend_160 fkX11_317 rfl rfl ?_
              refine r_go dX11_mend_163 rfl ?_
              exact r_qI dX11_mend_168 rfl rfl rfl rfl
          · refine r_ip (R := rI) c62_11 ?_
            refine r_k dX11_mend_65 kkX11_241 ?_
            exact r_qI dX11_mend_67 rfl rfl rfl rfl
        · refine r_in (R := rI) c51_10 ?_
          refine r_k dX11_mend_54 kkX11_193 ?_
          exact r_qI dX11_mend_56 rfl rfl rfl rfl
    · refine r_in (R := rI) c25_8 ?_
      refine r_p (pc2 := 29) dX11_mend_28 rfl rfl ?_
      exact r_qI dX11_mend_29 rfl rfl rfl rfl
  refine r_ieq dX11_mend_5 rfl (fun c5_13 => ?_) (fun c5_13 => ?_)
  · refine r_ip (R := rI) c5_13 ?_
    have kk := kk.1 c5_13
    show tR _ _ _ _ [some (.ref (0 : Nat)), some (.int p0), some (.int p1), none] [.ref (0 : Nat)] _ _ _
    exact (hJ1  kk)
  · refine r_in (R := rI) c5_13 ?_
    have kk := kk.2 c5_13
    refine r_p (pc2 := 9) dX11_mend_8 rfl rfl ?_
    refine r_cs (d1 := 1) dX11_mend_9 csX11_194 rfl rfl (Nat.le_of_ble_eq_true rfl) (Nat.le_of_ble_eq_true rfl) (Nat.le_of_ble_eq_true rfl) (c_x_isMinute p1) ?_
    refine r_ieq dX11_mend_12 rfl (fun c12_14 => ?_) (fun c12_14 => ?_)
    · refine r_ip (R := rI) c12_14 ?_
      have kk := kk.1 c12_14
      show tR _ _ _ _ [some (.ref (0 : Nat)), some (.int p0), some (.int p1), none] [.ref (0 : Nat)] _ _ _
      exact (hJ1  kk)
    · refine r_in (R := rI) c12_14 ?_
      have kk := kk.2 c12_14
      refine r_ci (x := 1) dX11_mend_15 rfl ?_
      refine r_go dX11_mend_16 rfl ?_
      obtain ⟨q25, kk⟩ := kk
      refine r_cv (d1 := 2) dX11_mend_20 cvX11_221 rfl rfl rfl rfl (Nat.le_of_ble_eq_true rfl) (Nat.le_of_ble_eq_true rfl) (Nat.le_of_ble_eq_true rfl) (c_x_refusal 1 q25) ?_
      refine r_p (pc2 := 24) (L2 := [some (.ref (0 : Nat)), some (.int p0), some (.int p1), some (.int (x_x_refusal T 1))]) dX11_mend_23 rfl rfl ?_
      refine r_p (pc2 := 25) dX11_mend_24 rfl rfl ?_
      refine r_ieq dX11_mend_25 rfl (fun c25_15 => ?_) (fun c25_15 => ?_)
      · refine r_ip (R := rI) c25_15 ?_
        have kk := kk c25_15
        refine r_p (pc2 := 31) dX11_mend_30 rfl rfl ?_
        refine r_get dX11_mend_31 fkX11_30 rfl rfl ?_
        obtain ⟨q26, kk⟩ := kk
        refine r_get dX11_mend_34 fkX11_212 q26 rfl ?_
        refine r_ci (x := 1) dX11_mend_37 rfl ?_
        refine r_ia dX11_mend_38 (shl1_1 q26) (in_c (by decide)) ?_
        refine r_ieq dX11_mend_39 rfl (fun c39_16 => ?_) (fun c39_16 => ?_)
        · refine r_ip (R := rI) c39_16 ?_
          refine r_k dX11_mend_54 kkX11_193 ?_
          exact r_qI dX11_mend_56 rfl rfl rfl rfl
        · refine r_in (R := rI) c39_16 ?_
          have kk := kk c39_16
          refine r_p (pc2 := 43) dX11_mend_42 rfl rfl ?_
          refine r_get dX11_mend_43 fkX11_30 rfl rfl ?_
          refine r_get dX11_mend_46 fkX11_215 q26 rfl ?_
          refine r_cb (x := 60) dX11_mend_49 rfl ?_
          refine r_cge dX11_mend_51 rfl (fun c51_17 => ?_) (fun c51_17 => ?_)
          · refine r_ip (R := rI) c51_17 ?_
            have kk := kk c51_17
            refine r_p (pc2 := 58) dX11_mend_57 rfl rfl ?_
            refine r_p (pc2 := 59) dX11_mend_58 rfl rfl ?_
            obtain ⟨q27, kk⟩ := kk
            refine r_cv (d1 := 11) dX11_mend_59 cvX11_238 rfl rfl rfl rfl (Nat.le_of_ble_eq_true rfl) (Nat.le_of_ble_eq_true rfl) (Nat.le_of_ble_eq_true rfl) (c_x_findsPlan p0 q27) ?_
            refine r_ine dX11_mend_62 rfl (fun c62_18 => ?_) (fun c62_18 => ?_)
            · refine r_in (R := rI) c62_18 ?_
              have kk := kk c62_18
              refine r_p (pc2 := 69) dX11_mend_68 rfl rfl ?_
              refine r_get dX11_mend_69 fkX11_44 rfl rfl ?_
              refine r_p (pc2 := 73) dX11_mend_72 rfl rfl ?_
              refine r_get dX11_mend_73 fkX11_30 rfl rfl ?_
              refine r_p (pc2 := 77) dX11_mend_76 rfl rfl ?_
              refine r_get dX11_mend_77 fkX11_30 rfl rfl ?_
              obtain ⟨q28, kk⟩ := kk
              refine r_get dX11_mend_80 fkX11_212 q28 rfl ?_
              refine r_ci (x := 5) dX11_mend_83 rfl ?_
              refine r_ia dX11_mend_84 (shl1_1 q28) (in_c (by decide)) ?_
              refine r_p (pc2 := 86) dX11_mend_85 rfl rfl ?_
              obtain ⟨q29, kk⟩ := kk
              refine r_cv (d1 := 3) dX11_mend_86 cvX11_300 rfl rfl rfl rfl (Nat.le_of_ble_eq_true rfl) (Nat.le_of_ble_eq_true rfl) (Nat.le_of_ble_eq_true rfl) (c_ki_fit 78 (((x_x_findsPlan T p0).2).2.1 0) (((x_x_findsPlan T p0).2).2.2.1 ((((x_x_findsPlan T p0).2).2.1 0) + 1) (5 : Int32).toNatClampNeg) p1 q29) ?_
              refine r_nT (R := rI) rfl kk (fun T5 kk => ?_)
              refine r_p (pc2 := 90) dX11_mend_89 rfl rfl ?_
              refine r_get dX11_mend_90 fkX11_50 rfl rfl ?_
              refine r_p (pc2 := 94) dX11_mend_93 rfl rfl ?_
              refine r_get dX11_mend_94 fkX11_30 rfl rfl ?_
              refine r_p (pc2 := 98) dX11_mend_97 rfl rfl ?_
              refine r_get dX11_mend_98 fkX11_44 rfl rfl ?_
              refine r_p (pc2 := 102) dX11_mend_101 rfl rfl ?_
              refine r_get dX11_mend_102 fkX11_30 rfl rfl ?_
              obtain ⟨q30, kk⟩ := kk
              refine r_get dX11_mend_105 fkX11_209 q30 rfl ?_
              refine r_p (pc2 := 109) dX11_mend_108 rfl rfl ?_
              obtain ⟨q31, kk⟩ := kk
              refine r_cv (d1 := 5) dX11_mend_109 cvX11_249 rfl rfl rfl rfl (Nat.le_of_ble_eq_true rfl) (Nat.le_of_ble_eq_true rfl) (Nat.le_of_ble_eq_true rfl) (c_pl_lay (T5.2.1 0) 78 (T5.1 (T5.2.1 0) 17) p0 q31) ?_
              refine r_p (pc2 := 113) dX11_mend_112 rfl rfl ?_
              refine r_get dX11_mend_113 fkX11_50 rfl rfl ?_
              refine r_p (pc2 := 117) dX11_mend_116 rfl rfl ?_
              refine r_get dX11_mend_117 fkX11_71 rfl rfl ?_
              refine r_p (pc2 := 121) dX11_mend_120 rfl rfl ?_
              obtain ⟨q32, kk⟩ := kk
              refine r_cv (d1 := 1) dX11_mend_121 cvX11_313 rfl rfl rfl rfl (Nat.le_of_ble_eq_true rfl) (Nat.le_of_ble_eq_true rfl) (Nat.le_of_ble_eq_true rfl) (c_pl_strikeUnlike 557 p1 q32) ?_
              refine r_p (pc2 := 125) dX11_mend_124 rfl rfl ?_
              refine r_get dX11_mend_125 fkX11_50 rfl rfl ?_
              refine r_p (pc2 := 129) dX11_mend_128 rfl rfl ?_
              refine r_get dX11_mend_129 fkX11_30 rfl rfl ?_
              obtain ⟨q33, kk⟩ := kk
              refine r_get dX11_mend_132 fkX11_209 q33 rfl ?_
              obtain ⟨q34, kk⟩ := kk
              refine r_cv (d1 := 3) dX11_mend_135 cvX11_255 rfl rfl rfl rfl (Nat.le_of_ble_eq_true rfl) (Nat.le_of_ble_eq_true rfl) (Nat.le_of_ble_eq_true rfl) (c_pl_settle ((x_pl_strikeUnlike (x_pl_lay T5 (T5.2.1 0) 78 (T5.1 (T5.2.1 0) 17) p0) 557 p1).1 ((x_pl_strikeUnlike (x_pl_lay T5 (T5.2.1 0) 78 (T5.1 (T5.2.1 0) 17) p0) 557 p1).2.1 0) 17) q34) ?_
              refine r_nT (R := rI) rfl kk (fun T6 kk => ?_)
              refine r_p (pc2 := 139) dX11_mend_138 rfl rfl ?_
              refine r_get dX11_mend_139 fkX11_50 rfl rfl ?_
              refine r_p (pc2 := 143) dX11_mend_142 rfl rfl ?_
              refine r_get dX11_mend_143 fkX11_30 rfl rfl ?_
              obtain ⟨q35, kk⟩ := kk
              refine r_get dX11_mend_146 fkX11_209 q35 rfl ?_
              refine r_ci (x := 0) dX11_mend_149 rfl ?_
              obtain ⟨q36, kk⟩ := kk
              refine r_cv (d1 := 10) dX11_mend_150 cvX11_259 rfl rfl rfl rfl (Nat.le_of_ble_eq_true rfl) (Nat.le_of_ble_eq_true rfl) (Nat.le_of_ble_eq_true rfl) (c_pl_finds (T6.1 (T6.2.1 0) 17) 0 q36) ?_
              refine r_ieq dX11_mend_153 rfl (fun c153_19 => ?_) (fun c153_19 => ?_)
              · refine r_ip (R := rI) c153_19 ?_
                refine r_k dX11_mend_166 kkX11_241 ?_
                exact r_qI dX11_mend_168 rfl rfl rfl rfl
              · refine r_in (R := rI) c153_19 ?_
                refine r_p (pc2 := 157) dX11_mend_156 rfl rfl ?_
                refine r_get dX11_mend_157 fkX11_50 rfl rfl ?_
                refine r_get dX11_mend_160 fkX11_317 rfl rfl ?_
                refine r_go dX11_mend_163 rfl ?_
                exact r_qI dX11_mend_168 rfl rfl rfl rfl
            · refine r_ip (R := rI) c62_18 ?_
              refine r_k dX11_mend_65 kkX11_241 ?_
              exact r_qI dX11_mend_67 rfl rfl rfl rfl
          · refine r_in (R := rI) c51_17 ?_
            refine r_k dX11_mend_54 kkX11_193 ?_
            exact r_qI dX11_mend_56 rfl rfl rfl rfl
      · refine r_in (R := rI) c25_15 ?_
        refine r_p (pc2 := 29) dX11_mend_28 rfl rfl ?_
        exact r_qI dX11_mend_29 rfl rfl rfl rfl
