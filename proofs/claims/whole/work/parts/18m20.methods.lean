def x_ask_answer (T : St) (p0 : Nat) (p1 : Int32) (p2 : Int32) : Int32 × St := if p2 = 0 then ((x_ask_sizeOf (sF T 555 1 0) p0 p1 0).1, (x_ask_sizeOf (sF T 555 1 0) p0 p1 0).2) else ((x_ask_markOf (sF T 555 1 0) p0 p1 0).1, (x_ask_markOf (sF T 555 1 0) p0 p1 0).2)
def ok_ask_answer (T : St) (p0 : Nat) (p1 : Int32) (p2 : Int32) : Prop := ((p2 = 0 → (ok_ask_sizeOf (sF T 555 1 0) p0 p1 0) ∧ True) ∧ (¬ p2 = 0 → (ok_ask_markOf (sF T 555 1 0) p0 p1 0) ∧ True))
theorem c_ask_answer {X : Nat × (Nat → Int32)} {T : St} (p0 : Nat) (p1 : Int32) (p2 : Int32) (kk : ok_ask_answer T p0 p1 p2) : tC X 7 mX0_answer [.ref (555 : Nat), .ref p0, .int p1, .int p2] T (some (.int (x_ask_answer T p0 p1 p2).1)) ((x_ask_answer T p0 p1 p2).2) := by
  unfold ok_ask_answer at kk
  refine tC_orI (L := [some (.ref (555 : Nat)), some (.ref p0), some (.int p1), some (.int p2)]) (x_ask_answer T p0 p1 p2) rfl ?_
  unfold x_ask_answer
  refine r_p (pc2 := 1) dX0_answer_0 rfl rfl ?_
  refine r_ci (x := 0) dX0_answer_1 rfl ?_
  refine r_put dX0_answer_2 fkX0_16 rfl rfl rfl (Nat.le_of_ble_eq_true rfl) rfl rfl ?_
  refine r_p (pc2 := 6) dX0_answer_5 rfl rfl ?_
  refine r_ine dX0_answer_6 rfl (fun c6_1 => ?_) (fun c6_1 => ?_)
  · refine r_in (R := rI) c6_1 ?_
    have kk := kk.2 c6_1
    refine r_p (pc2 := 20) dX0_answer_19 rfl rfl ?_
    refine r_p (pc2 := 21) dX0_answer_20 rfl rfl ?_
    refine r_p (pc2 := 22) dX0_answer_21 rfl rfl ?_
    refine r_ci (x := 0) dX0_answer_22 rfl ?_
    obtain ⟨q1, kk⟩ := kk
    refine r_cv (d1 := 6) dX0_answer_23 cvX0_24 rfl rfl rfl rfl (Nat.le_of_ble_eq_true rfl) (Nat.le_of_ble_eq_true rfl) (Nat.le_of_ble_eq_true rfl) (c_ask_markOf p0 p1 0 q1) ?_
    exact r_qI dX0_answer_26 rfl rfl rfl rfl
  · refine r_ip (R := rI) c6_1 ?_
    have kk := kk.1 c6_1
    refine r_p (pc2 := 10) dX0_answer_9 rfl rfl ?_
    refine r_p (pc2 := 11) dX0_answer_10 rfl rfl ?_
    refine r_p (pc2 := 12) dX0_answer_11 rfl rfl ?_
    refine r_ci (x := 0) dX0_answer_12 rfl ?_
    obtain ⟨q2, kk⟩ := kk
    refine r_cv (d1 := 5) dX0_answer_13 cvX0_20 rfl rfl rfl rfl (Nat.le_of_ble_eq_true rfl) (Nat.le_of_ble_eq_true rfl) (Nat.le_of_ble_eq_true rfl) (c_ask_sizeOf p0 p1 0 q2) ?_
    refine r_go dX0_answer_16 rfl ?_
    exact r_qI dX0_answer_26 rfl rfl rfl rfl
def x_pl_finds (T : St) (p0 : Int32) (p1 : Int32) : Int32 × St := jn (fun (KJ1 : St → Int32 × St) => if ((x_pl_seatAll (sF (sF (sF T 80 14 p1) 80 13 1000000) 80 17 (-1000000)) p0).1) = 0 then (KJ1 ((x_pl_seatAll (sF (sF (sF T 80 14 p1) 80 13 1000000) 80 17 (-1000000)) p0).2)) else (jn (fun (T2 : St) => KJ1 T2) (x_pl_seek4 ((x_pl_seatAll (sF (sF (sF T 80 14 p1) 80 13 1000000) 80 17 (-1000000)) p0).2) 0 0))) (fun (T301 : St) => if (T301.1 80 17) = (-1000000) then (0, T301) else (1, T301))
def ok_pl_finds (T : St) (p0 : Int32) (p1 : Int32) : Prop := ((p1 = 0 ∨ p1 = (1 : Int32))) ∧ (ok_pl_seatAll (sF (sF (sF T 80 14 p1) 80 13 1000000) 80 17 (-1000000)) p0) ∧ (¬ ((x_pl_seatAll (sF (sF (sF T 80 14 p1) 80 13 1000000) 80 17 (-1000000)) p0).1) = 0 → (ok_pl_seek4 ((x_pl_seatAll (sF (sF (sF T 80 14 p1) 80 13 1000000) 80 17 (-1000000)) p0).2) 0 0) ∧ True)
theorem c_pl_finds {X : Nat × (Nat → Int32)} {T : St} (p0 : Int32) (p1 : Int32) (kk : ok_pl_finds T p0 p1) : tC X 10 mX5_finds [.ref (80 : Nat), .int p0, .int p1] T (some (.int (x_pl_finds T p0 p1).1)) ((x_pl_finds T p0 p1).2) := by
  unfold ok_pl_finds at kk
  refine tC_orI (L := [some (.ref (80 : Nat)), some (.int p0), some (.int p1)]) (x_pl_finds T p0 p1) rfl ?_
  unfold x_pl_finds
  refine r_p (pc2 := 1) dX5_finds_0 rfl rfl ?_
  refine r_p (pc2 := 2) dX5_finds_1 rfl rfl ?_
  obtain ⟨q1, kk⟩ := kk
  refine r_put dX5_finds_2 fkX5_157 rfl rfl rfl (Nat.le_of_ble_eq_true rfl) (nar_b q1) (fit_b q1) ?_
  refine r_p (pc2 := 6) dX5_finds_5 rfl rfl ?_
  refine r_k dX5_finds_6 kkX5_151 ?_
  refine r_put dX5_finds_8 fkX5_160 rfl rfl rfl (Nat.le_of_ble_eq_true rfl) rfl rfl ?_
  refine r_p (pc2 := 12) dX5_finds_11 rfl rfl ?_
  refine r_k dX5_finds_12 kkX5_163 ?_
  refine r_put dX5_finds_14 fkX5_164 rfl rfl rfl (Nat.le_of_ble_eq_true rfl) rfl rfl ?_
  refine r_p (pc2 := 18) dX5_finds_17 rfl rfl ?_
  refine r_p (pc2 := 19) dX5_finds_18 rfl rfl ?_
  obtain ⟨q2, kk⟩ := kk
  refine r_cv (d1 := 3) dX5_finds_19 cvX5_165 rfl rfl rfl rfl (Nat.le_of_ble_eq_true rfl) (Nat.le_of_ble_eq_true rfl) (Nat.le_of_ble_eq_true rfl) (c_pl_seatAll p0 q2) ?_
  refine r_jn0 (R := rI) (J := fun (KJ1 : St → Int32 × St) => ∀ (T301 : St), tR X 9 mX5_finds 31 [some (.ref (80 : Nat)), some (.int p0), some (.int p1)] [] T301 (rI (KJ1 T301)).1 (rI (KJ1 T301)).2) (fun T301 => ?_) (fun KJ1 hJ1 => ?_)
  · skip
    refine r_p (pc2 := 32) dX5_finds_31 rfl rfl ?_
    refine r_get dX5_finds_32 fkX5_164 rfl rfl ?_
    refine r_k dX5_finds_35 kkX5_163 ?_
    refine r_ceq dX5_finds_37 rfl (fun c37_2 => ?_) (fun c37_2 => ?_)
    · refine r_ip (R := rI) c37_2 ?_
      refine r_ci (x := 0) dX5_finds_44 rfl ?_
      exact r_qI dX5_finds_45 rfl rfl rfl rfl
    · refine r_in (R := rI) c37_2 ?_
      refine r_ci (x := 1) dX5_finds_40 rfl ?_
      refine r_go dX5_finds_41 rfl ?_
      exact r_qI dX5_finds_45 rfl rfl rfl rfl
  refine r_ieq dX5_finds_22 rfl (fun c22_3 => ?_) (fun c22_3 => ?_)
  · refine r_ip (R := rI) c22_3 ?_
    show tR _ _ _ _ [some (.ref (80 : Nat)), some (.int p0), some (.int p1)] [] _ _ _
    exact (hJ1 ((x_pl_seatAll (sF (sF (sF T 80 14 p1) 80 13 1000000) 80 17 (-1000000)) p0).2))
  · refine r_in (R := rI) c22_3 ?_
    have kk := kk c22_3
    refine r_p (pc2 := 26) dX5_finds_25 rfl rfl ?_
    refine r_ci (x := 0) dX5_finds_26 rfl ?_
    refine r_ci (x := 0) dX5_finds_27 rfl ?_
    obtain ⟨q4, kk⟩ := kk
    refine r_cv (d1 := 9) dX5_finds_28 cvX5_169 rfl rfl rfl rfl (Nat.le_of_ble_eq_true rfl) (Nat.le_of_ble_eq_true rfl) (Nat.le_of_ble_eq_true rfl) (c_pl_seek4 0 0 q4) ?_
    refine r_nT0 (R := rI) rfl (fun T2 => ?_)
    show tR _ _ _ _ [some (.ref (80 : Nat)), some (.int p0), some (.int p1)] [] _ _ _
    exact (hJ1 T2)
def x_pl_countDinners_15  (K : Int32 → Int32 → St → St) : Nat → Int32 → Int32 → St → St
  | 0, _, _, T => T
  | f + 1, v1, v2, T => if (x_bk_allDishes T (T.2.1 2)) < v2 then (K v1 v2 T) else (jn (fun (KJ1 : St → St) => if 4 < (x_J_bitCount T v2) then (KJ1 T) else (if (x_pl_isBuilt T v2) = 0 then (KJ1 T) else (if ((x_pl_finds T v2 1).1) = 0 then (KJ1 ((x_pl_finds T v2 1).2)) else (if ((sA ((x_pl_finds T v2 1).2) 105 (v2 : Int32).toNatClampNeg (vp_nar .boolean 1)).2.2.1 105 (v2 : Int32).toNatClampNeg) = 0 then (x_pl_countDinners_15 K f v1 (v2 + 1) (sA ((x_pl_finds T v2 1).2) 105 (v2 : Int32).toNatClampNeg (vp_nar .boolean 1))) else (jn (fun (T3 : St) => if (x_J_bitCount T v2) ≤ v1 then (x_pl_countDinners_15 K f v1 (v2 + 1) T3) else (x_pl_countDinners_15 K f (x_J_bitCount T v2) (v2 + 1) (sF T3 80 19 v2))) (sF (sA ((x_pl_finds T v2 1).2) 105 (v2 : Int32).toNatClampNeg (vp_nar .boolean 1)) 80 18 (((sA ((x_pl_finds T v2 1).2) 105 (v2 : Int32).toNatClampNeg (vp_nar .boolean 1)).1 80 18) + 1))))))) (fun (T301 : St) => if ((sA T301 105 (v2 : Int32).toNatClampNeg (vp_nar .boolean 0)).2.2.1 105 (v2 : Int32).toNatClampNeg) = 0 then (x_pl_countDinners_15 K f v1 (v2 + 1) (sA T301 105 (v2 : Int32).toNatClampNeg (vp_nar .boolean 0))) else (jn (fun (T2 : St) => if (x_J_bitCount T v2) ≤ v1 then (x_pl_countDinners_15 K f v1 (v2 + 1) T2) else (x_pl_countDinners_15 K f (x_J_bitCount T v2) (v2 + 1) (sF T2 80 19 v2))) (sF (sA T301 105 (v2 : Int32).toNatClampNeg (vp_nar .boolean 0)) 80 18 (((sA T301 105 (v2 : Int32).toNatClampNeg (vp_nar .boolean 0)).1 80 18) + 1)))))
def ok_pl_countDinners_15  (Kk : Int32 → Int32 → St → Prop) : Nat → Int32 → Int32 → St → Prop
  | 0, _, _, _ => False
  | f + 1, v1, v2, T => (ok_bk_allDishes T (T.2.1 2)) ∧ (sh (T.2.1 2) = .inr 1) ∧ (((x_bk_allDishes T (T.2.1 2)) < v2 → Kk v1 v2 T) ∧ (¬ (x_bk_allDishes T (T.2.1 2)) < v2 → jn (fun (OJ1 : St → Prop) => ((4 < (x_J_bitCount T v2) → OJ1 T) ∧ (¬ 4 < (x_J_bitCount T v2) → (ok_pl_isBuilt T v2) ∧ (((x_pl_isBuilt T v2) = 0 → OJ1 T) ∧ (¬ (x_pl_isBuilt T v2) = 0 → (ok_pl_finds T v2 1) ∧ ((((x_pl_finds T v2 1).1) = 0 → OJ1 ((x_pl_finds T v2 1).2)) ∧ (¬ ((x_pl_finds T v2 1).1) = 0 → (vp_in v2 256) ∧ ((((sA ((x_pl_finds T v2 1).2) 105 (v2 : Int32).toNatClampNeg (vp_nar .boolean 1)).2.2.1 105 (v2 : Int32).toNatClampNeg) = 0 → ok_pl_countDinners_15 Kk f v1 (v2 + 1) (sA ((x_pl_finds T v2 1).2) 105 (v2 : Int32).toNatClampNeg (vp_nar .boolean 1))) ∧ (¬ ((sA ((x_pl_finds T v2 1).2) 105 (v2 : Int32).toNatClampNeg (vp_nar .boolean 1)).2.2.1 105 (v2 : Int32).toNatClampNeg) = 0 → jn (fun (T3 : St) => (((x_J_bitCount T v2) ≤ v1 → ok_pl_countDinners_15 Kk f v1 (v2 + 1) T3) ∧ (¬ (x_J_bitCount T v2) ≤ v1 → ok_pl_countDinners_15 Kk f (x_J_bitCount T v2) (v2 + 1) (sF T3 80 19 v2)))) (sF (sA ((x_pl_finds T v2 1).2) 105 (v2 : Int32).toNatClampNeg (vp_nar .boolean 1)) 80 18 (((sA ((x_pl_finds T v2 1).2) 105 (v2 : Int32).toNatClampNeg (vp_nar .boolean 1)).1 80 18) + 1))))))))))) (fun (T301 : St) => (vp_in v2 256) ∧ ((((sA T301 105 (v2 : Int32).toNatClampNeg (vp_nar .boolean 0)).2.2.1 105 (v2 : Int32).toNatClampNeg) = 0 → ok_pl_countDinners_15 Kk f v1 (v2 + 1) (sA T301 105 (v2 : Int32).toNatClampNeg (vp_nar .boolean 0))) ∧ (¬ ((sA T301 105 (v2 : Int32).toNatClampNeg (vp_nar .boolean 0)).2.2.1 105 (v2 : Int32).toNatClampNeg) = 0 → jn (fun (T2 : St) => (((x_J_bitCount T v2) ≤ v1 → ok_pl_countDinners_15 Kk f v1 (v2 + 1) T2) ∧ (¬ (x_J_bitCount T v2) ≤ v1 → ok_pl_countDinners_15 Kk f (x_J_bitCount T v2) (v2 + 1) (sF T2 80 19 v2)))) (sF (sA T301 105 (v2 : Int32).toNatClampNeg (vp_nar .boolean 0)) 80 18 (((sA T301 105 (v2 : Int32).toNatClampNeg (vp_nar .boolean 0)).1 80 18) + 1)))))))
theorem c_pl_countDinners_15 {X : Nat × (Nat → Int32)}  {K : Int32 → Int32 → St → St} {Kk : Int32 → Int32 → St → Prop} (hk : ∀ (v1 : Int32) (v2 : Int32) (T : St), Kk v1 v2 T → tR X 10 mX5_countDinners 101 [some (.ref (80 : Nat)), some (.int v1), some (.int v2), none] [] T (rV (K v1 v2 T)).1 ((rV (K v1 v2 T)).2)) : ∀ (f : Nat) (v1 : Int32) (v2 : Int32) (T : St), ok_pl_countDinners_15  Kk f v1 v2 T → tR X 10 mX5_countDinners 15 [some (.ref (80 : Nat)), some (.int v1), some (.int v2), none] [] T (rV (x_pl_countDinners_15 K f v1 v2 T)).1 ((rV (x_pl_countDinners_15 K f v1 v2 T)).2) := by
  intro f
  induction f with
  | zero => intro v1 v2 T kk; exact kk.elim
  | succ f ih =>
    intro v1 v2 T kk
    rw [ok_pl_countDinners_15] at kk
    rw [x_pl_countDinners_15]
    refine r_p (pc2 := 16) dX5_countDinners_15 rfl rfl ?_
    refine r_p (pc2 := 17) dX5_countDinners_16 rfl rfl ?_
    refine r_get dX5_countDinners_17 fkX5_62 rfl rfl ?_
    obtain ⟨q1, kk⟩ := kk
    obtain ⟨q2, kk⟩ := kk
    refine r_cv (d1 := 1) dX5_countDinners_20 cvX5_221 rfl rfl q2 rfl (Nat.le_of_ble_eq_true rfl) (Nat.le_of_ble_eq_true rfl) (Nat.le_of_ble_eq_true rfl) (c_bk_allDishes (T.2.1 2) q1) ?_
    refine r_cgt dX5_countDinners_23 rfl (fun c23_1 => ?_) (fun c23_1 => ?_)
    · refine r_ip (R := rV) c23_1 ?_
      have kk := kk.1 c23_1
      show tR _ _ _ _ [some (.ref (80 : Nat)), some (.int v1), some (.int v2), none] _ _ _ _
      exact (hk v1 v2 T kk)
    · refine r_in (R := rV) c23_1 ?_
      have kk := kk.2 c23_1
      refine r_p (pc2 := 27) dX5_countDinners_26 rfl rfl ?_
      refine r_cs (d1 := 1) dX5_countDinners_27 csX5_225 rfl rfl (Nat.le_of_ble_eq_true rfl) (Nat.le_of_ble_eq_true rfl) (Nat.le_of_ble_eq_true rfl) (c_J_bitCount v2) ?_
      refine r_p (pc2 := 31) (L2 := [some (.ref (80 : Nat)), some (.int v1), some (.int v2), some (.int (x_J_bitCount T v2))]) dX5_countDinners_30 rfl rfl ?_
      refine r_p (pc2 := 32) dX5_countDinners_31 rfl rfl ?_
      refine r_get dX5_countDinners_32 fkX5_55 rfl rfl ?_
      refine r_p (pc2 := 36) dX5_countDinners_35 rfl rfl ?_
      refine r_p (pc2 := 37) dX5_countDinners_36 rfl rfl ?_
      refine r_ci (x := 4) dX5_countDinners_37 rfl ?_
      refine r_jn (R := rV) (J := fun (KJ1 : St → St) (OJ1 : St → Prop) => ∀ (T301 : St), OJ1 T301 → tR X 10 mX5_countDinners 62 [some (.ref (80 : Nat)), some (.int v1), some (.int v2), some (.int (x_J_bitCount T v2))] [.int v2, .ref (105 : Nat)] T301 (rV (KJ1 T301)).1 (rV (KJ1 T301)).2) kk (fun T301 kk => ?_) (fun KJ1 OJ1 hJ1 kk => ?_)
      · skip
        refine r_ci (x := 0) dX5_countDinners_62 rfl ?_
        obtain ⟨q6, kk⟩ := kk
        refine r_zas dX5_countDinners_63 rfl q6 ?_
        refine r_p (pc2 := 65) dX5_countDinners_64 rfl rfl ?_
        refine r_get dX5_countDinners_65 fkX5_55 rfl rfl ?_
        refine r_p (pc2 := 69) dX5_countDinners_68 rfl rfl ?_
        refine r_za dX5_countDinners_69 rfl q6 ?_
        refine r_ieq dX5_countDinners_70 rfl (fun c70_7 => ?_) (fun c70_7 => ?_)
        · refine r_ip (R := rV) c70_7 ?_
          have kk := kk.1 c70_7
          refine r_inc (L2 := [some (.ref (80 : Nat)), some (.int v1), some (.int (v2 + 1)), some (.int (x_J_bitCount T v2))]) (y := 1) dX5_countDinners_95 rfl rfl rfl ?_
          refine r_go dX5_countDinners_98 rfl ?_
          show tR _ _ _ _ [some (.ref (80 : Nat)), some (.int v1), some (.int (v2 + 1)), some (.int (x_J_bitCount T v2))] _ _ _ _
          exact r_le (le_s (le_s (le_s (le_n (le_0))))) (ih v1 (v2 + 1) (sA T301 105 (v2 : Int32).toNatClampNeg (vp_nar .boolean 0)) kk)
        · refine r_in (R := rV) c70_7 ?_
          have kk := kk.2 c70_7
          refine r_p (pc2 := 74) dX5_countDinners_73 rfl rfl ?_
          refine r_p (pc2 := 75) dX5_countDinners_74 rfl rfl ?_
          refine r_get dX5_countDinners_75 fkX5_215 rfl rfl ?_
          refine r_ci (x := 1) dX5_countDinners_78 rfl ?_
          refine r_p (pc2 := 80) dX5_countDinners_79 rfl rfl ?_
          refine r_put dX5_countDinners_80 fkX5_215 rfl rfl rfl (Nat.le_of_ble_eq_true rfl) rfl rfl ?_
          refine r_nT (R := rV) rfl kk (fun T2 kk => ?_)
          refine r_p (pc2 := 84) dX5_countDinners_83 rfl rfl ?_
          refine r_p (pc2 := 85) dX5_countDinners_84 rfl rfl ?_
          refine r_cle dX5_countDinners_85 rfl (fun c85_8 => ?_) (fun c85_8 => ?_)
          · refine r_ip (R := rV) c85_8 ?_
            have kk := kk.1 c85_8
            refine r_inc (L2 := [some (.ref (80 : Nat)), some (.int v1), some (.int (v2 + 1)), some (.int (x_J_bitCount T v2))]) (y := 1) dX5_countDinners_95 rfl rfl rfl ?_
            refine r_go dX5_countDinners_98 rfl ?_
            show tR _ _ _ _ [some (.ref (80 : Nat)), some (.int v1), some (.int (v2 + 1)), some (.int (x_J_bitCount T v2))] _ _ _ _
            exact r_le (le_s (le_s (le_s (le_n (le_0))))) (ih v1 (v2 + 1) T2 kk)
          · refine r_in (R := rV) c85_8 ?_
            have kk := kk.2 c85_8
            refine r_p (pc2 := 89) dX5_countDinners_88 rfl rfl ?_
            refine r_p (pc2 := 90) (L2 := [some (.ref (80 : Nat)), some (.int (x_J_bitCount T v2)), some (.int v2), some (.int (x_J_bitCount T v2))]) dX5_countDinners_89 rfl rfl ?_
            refine r_p (pc2 := 91) dX5_countDinners_90 rfl rfl ?_
            refine r_p (pc2 := 92) dX5_countDinners_91 rfl rfl ?_
            refine r_put dX5_countDinners_92 fkX5_218 rfl rfl rfl (Nat.le_of_ble_eq_true rfl) rfl rfl ?_
            refine r_inc (L2 := [some (.ref (80 : Nat)), some (.int (x_J_bitCount T v2)), some (.int (v2 + 1)), some (.int (x_J_bitCount T v2))]) (y := 1) dX5_countDinners_95 rfl rfl rfl ?_
            refine r_go dX5_countDinners_98 rfl ?_
            show tR _ _ _ _ [some (.ref (80 : Nat)), some (.int (x_J_bitCount T v2)), some (.int (v2 + 1)), some (.int (x_J_bitCount T v2))] _ _ _ _
            exact r_le (le_s (le_s (le_s (le_n (le_0))))) (ih (x_J_bitCount T v2) (v2 + 1) (sF T2 80 19 v2) kk)
      refine r_cgt dX5_countDinners_38 rfl (fun c38_9 => ?_) (fun c38_9 => ?_)
      · refine r_ip (R := rV) c38_9 ?_
        have kk := kk.1 c38_9
        show tR _ _ _ _ [some (.ref (80 : Nat)), some (.int v1), some (.int v2), some (.int (x_J_bitCount T v2))] [.int v2, .ref (105 : Nat)] _ _ _
        exact (hJ1 T kk)
      · refine r_in (R := rV) c38_9 ?_
        have kk := kk.2 c38_9
        refine r_p (pc2 := 42) dX5_countDinners_41 rfl rfl ?_
        refine r_p (pc2 := 43) dX5_countDinners_42 rfl rfl ?_
        obtain ⟨q7, kk⟩ := kk
        refine r_cv (d1 := 1) dX5_countDinners_43 cvX5_230 rfl rfl rfl rfl (Nat.le_of_ble_eq_true rfl) (Nat.le_of_ble_eq_true rfl) (Nat.le_of_ble_eq_true rfl) (c_pl_isBuilt v2 q7) ?_
        refine r_ieq dX5_countDinners_46 rfl (fun c46_10 => ?_) (fun c46_10 => ?_)
        · refine r_ip (R := rV) c46_10 ?_
          have kk := kk.1 c46_10
          show tR _ _ _ _ [some (.ref (80 : Nat)), some (.int v1), some (.int v2), some (.int (x_J_bitCount T v2))] [.int v2, .ref (105 : Nat)] _ _ _
          exact (hJ1 T kk)
        · refine r_in (R := rV) c46_10 ?_
          have kk := kk.2 c46_10
          refine r_p (pc2 := 50) dX5_countDinners_49 rfl rfl ?_
          refine r_p (pc2 := 51) dX5_countDinners_50 rfl rfl ?_
          refine r_ci (x := 1) dX5_countDinners_51 rfl ?_
          obtain ⟨q8, kk⟩ := kk
          refine r_cv (d1 := 10) dX5_countDinners_52 cvX5_233 rfl rfl rfl rfl (Nat.le_of_ble_eq_true rfl) (Nat.le_of_ble_eq_true rfl) (Nat.le_of_ble_eq_true rfl) (c_pl_finds v2 1 q8) ?_
          refine r_ieq dX5_countDinners_55 rfl (fun c55_11 => ?_) (fun c55_11 => ?_)
          · refine r_ip (R := rV) c55_11 ?_
            have kk := kk.1 c55_11
            show tR _ _ _ _ [some (.ref (80 : Nat)), some (.int v1), some (.int v2), some (.int (x_J_bitCount T v2))] [.int v2, .ref (105 : Nat)] _ _ _
            exact (hJ1 ((x_pl_finds T v2 1).2) kk)
          · refine r_in (R := rV) c55_11 ?_
            have kk := kk.2 c55_11
            refine r_ci (x := 1) dX5_countDinners_58 rfl ?_
            refine r_go dX5_countDinners_59 rfl ?_
            obtain ⟨q9, kk⟩ := kk
            refine r_zas dX5_countDinners_63 rfl q9 ?_
            refine r_p (pc2 := 65) dX5_countDinners_64 rfl rfl ?_
            refine r_get dX5_countDinners_65 fkX5_55 rfl rfl ?_
            refine r_p (pc2 := 69) dX5_countDinners_68 rfl rfl ?_
            refine r_za dX5_countDinners_69 rfl q9 ?_
            refine r_ieq dX5_countDinners_70 rfl (fun c70_12 => ?_) (fun c70_12 => ?_)
            · refine r_ip (R := rV) c70_12 ?_
              have kk := kk.1 c70_12
              refine r_inc (L2 := [some (.ref (80 : Nat)), some (.int v1), some (.int (v2 + 1)), some (.int (x_J_bitCount T v2))]) (y := 1) dX5_countDinners_95 rfl rfl rfl ?_
              refine r_go dX5_countDinners_98 rfl ?_
              show tR _ _ _ _ [some (.ref (80 : Nat)), some (.int v1), some (.int (v2 + 1)), some (.int (x_J_bitCount T v2))] _ _ _ _
              exact r_le (le_s (le_s (le_s (le_n (le_0))))) (ih v1 (v2 + 1) (sA ((x_pl_finds T v2 1).2) 105 (v2 : Int32).toNatClampNeg (vp_nar .boolean 1)) kk)
            · refine r_in (R := rV) c70_12 ?_
              have kk := kk.2 c70_12
              refine r_p (pc2 := 74) dX5_countDinners_73 rfl rfl ?_
              refine r_p (pc2 := 75) dX5_countDinners_74 rfl rfl ?_
              refine r_get dX5_countDinners_75 fkX5_215 rfl rfl ?_
              refine r_ci (x := 1) dX5_countDinners_78 rfl ?_
              refine r_p (pc2 := 80) dX5_countDinners_79 rfl rfl ?_
              refine r_put dX5_countDinners_80 fkX5_215 rfl rfl rfl (Nat.le_of_ble_eq_true rfl) rfl rfl ?_
              refine r_nT (R := rV) rfl kk (fun T3 kk => ?_)
              refine r_p (pc2 := 84) dX5_countDinners_83 rfl rfl ?_
              refine r_p (pc2 := 85) dX5_countDinners_84 rfl rfl ?_
              refine r_cle dX5_countDinners_85 rfl (fun c85_13 => ?_) (fun c85_13 => ?_)
              · refine r_ip (R := rV) c85_13 ?_
                have kk := kk.1 c85_13
                refine r_inc (L2 := [some (.ref (80 : Nat)), some (.int v1), some (.int (v2 + 1)), some (.int (x_J_bitCount T v2))]) (y := 1) dX5_countDinners_95 rfl rfl rfl ?_
                refine r_go dX5_countDinners_98 rfl ?_
                show tR _ _ _ _ [some (.ref (80 : Nat)), some (.int v1), some (.int (v2 + 1)), some (.int (x_J_bitCount T v2))] _ _ _ _
                exact r_le (le_s (le_s (le_s (le_n (le_0))))) (ih v1 (v2 + 1) T3 kk)
              · refine r_in (R := rV) c85_13 ?_
                have kk := kk.2 c85_13
                refine r_p (pc2 := 89) dX5_countDinners_88 rfl rfl ?_
                refine r_p (pc2 := 90) (L2 := [some (.ref (80 : Nat)), some (.int (x_J_bitCount T v2)), some (.int v2), some (.int (x_J_bitCount T v2))]) dX5_countDinners_89 rfl rfl ?_
                refine r_p (pc2 := 91) dX5_countDinners_90 rfl rfl ?_
                refine r_p (pc2 := 92) dX5_countDinners_91 rfl rfl ?_
                refine r_put dX5_countDinners_92 fkX5_218 rfl rfl rfl (Nat.le_of_ble_eq_true rfl) rfl rfl ?_
                refine r_inc (L2 := [some (.ref (80 : Nat)), some (.int (x_J_bitCount T v2)), some (.int (v2 + 1)), some (.int (x_J_bitCount T v2))]) (y := 1) dX5_countDinners_95 rfl rfl rfl ?_
                refine r_go dX5_countDinners_98 rfl ?_
                show tR _ _ _ _ [some (.ref (80 : Nat)), some (.int (x_J_bitCount T v2)), some (.int (v2 + 1)), some (.int (x_J_bitCount T v2))] _ _ _ _
                exact r_le (le_s (le_s (le_s (le_n (le_0))))) (ih (x_J_bitCount T v2) (v2 + 1) (sF T3 80 19 v2) kk)
def x_pl_countDinners (T : St)  : St := x_pl_countDinners_15  (fun (w1_1 : Int32) (w1_2 : Int32) (T201 : St) => T201) 1000 0 1 (sF (sF T 80 18 0) 80 19 (-1000000))
def ok_pl_countDinners (T : St)  : Prop := ok_pl_countDinners_15  (fun (w1_1 : Int32) (w1_2 : Int32) (T201 : St) => True) 1000 0 1 (sF (sF T 80 18 0) 80 19 (-1000000))
theorem c_pl_countDinners {X : Nat × (Nat → Int32)} {T : St}  (kk : ok_pl_countDinners T ) : tC X 11 mX5_countDinners [.ref (80 : Nat)] T none (x_pl_countDinners T) := by
  unfold ok_pl_countDinners at kk
  refine tC_orV (L := [some (.ref (80 : Nat)), none, none, none]) (x_pl_countDinners T ) rfl ?_
  unfold x_pl_countDinners
  refine r_p (pc2 := 1) dX5_countDinners_0 rfl rfl ?_
  refine r_ci (x := 0) dX5_countDinners_1 rfl ?_
  refine r_put dX5_countDinners_2 fkX5_215 rfl rfl rfl (Nat.le_of_ble_eq_true rfl) rfl rfl ?_
  refine r_p (pc2 := 6) dX5_countDinners_5 rfl rfl ?_
  refine r_k dX5_countDinners_6 kkX5_163 ?_
  refine r_put dX5_countDinners_8 fkX5_218 rfl rfl rfl (Nat.le_of_ble_eq_true rfl) rfl rfl ?_
  refine r_ci (x := 0) dX5_countDinners_11 rfl ?_
  refine r_p (pc2 := 13) (L2 := [some (.ref (80 : Nat)), some (.int 0), none, none]) dX5_countDinners_12 rfl rfl ?_
  refine r_ci (x := 1) dX5_countDinners_13 rfl ?_
  refine r_p (pc2 := 15) (L2 := [some (.ref (80 : Nat)), some (.int 0), some (.int 1), none]) dX5_countDinners_14 rfl rfl ?_
  show tR _ _ _ _ [some (.ref (80 : Nat)), some (.int 0), some (.int 1), none] _ _ _ _
  refine (c_pl_countDinners_15  (fun w1_1 w1_2 T201 kk => ?_) 1000 0 1 (sF (sF T 80 18 0) 80 19 (-1000000)) kk)
  · skip
    exact r_qV dX5_countDinners_101 rfl rfl
def x_x_seven (T : St) (p0 : Int32) : Int32 × St := jn (fun (i1 : Int32) => if i1 = 0 then (jn (fun (T2 : St) => if ((x_pl_finds T2 (T2.1 (T2.2.1 0) 17) 1).1) = 0 then (0, (x_pl_finds T2 (T2.1 (T2.2.1 0) 17) 1).2) else (1, (x_pl_finds T2 (T2.1 (T2.2.1 0) 17) 1).2)) (x_pl_settle (x_pl_strikeEarly (x_pl_lay T (T.2.1 0) 76 (T.1 (T.2.1 0) 17) p0)) ((x_pl_strikeEarly (x_pl_lay T (T.2.1 0) 76 (T.1 (T.2.1 0) 17) p0)).1 ((x_pl_strikeEarly (x_pl_lay T (T.2.1 0) 76 (T.1 (T.2.1 0) 17) p0)).2.1 0) 17))) else (i1, T)) (x_x_refusal T (x_x_isTime T p0))
def ok_x_seven (T : St) (p0 : Int32) : Prop := (ok_x_refusal T (x_x_isTime T p0)) ∧ jn (fun (i1 : Int32) => (i1 = 0 → (sh (T.2.1 0) = .inr 1) ∧ (ok_pl_lay T (T.2.1 0) 76 (T.1 (T.2.1 0) 17) p0) ∧ (ok_pl_strikeEarly (x_pl_lay T (T.2.1 0) 76 (T.1 (T.2.1 0) 17) p0)) ∧ (sh ((x_pl_strikeEarly (x_pl_lay T (T.2.1 0) 76 (T.1 (T.2.1 0) 17) p0)).2.1 0) = .inr 1) ∧ (ok_pl_settle (x_pl_strikeEarly (x_pl_lay T (T.2.1 0) 76 (T.1 (T.2.1 0) 17) p0)) ((x_pl_strikeEarly (x_pl_lay T (T.2.1 0) 76 (T.1 (T.2.1 0) 17) p0)).1 ((x_pl_strikeEarly (x_pl_lay T (T.2.1 0) 76 (T.1 (T.2.1 0) 17) p0)).2.1 0) 17)) ∧ jn (fun (T2 : St) => (sh (T2.2.1 0) = .inr 1) ∧ (ok_pl_finds T2 (T2.1 (T2.2.1 0) 17) 1) ∧ True) (x_pl_settle (x_pl_strikeEarly (x_pl_lay T (T.2.1 0) 76 (T.1 (T.2.1 0) 17) p0)) ((x_pl_strikeEarly (x_pl_lay T (T.2.1 0) 76 (T.1 (T.2.1 0) 17) p0)).1 ((x_pl_strikeEarly (x_pl_lay T (T.2.1 0) 76 (T.1 (T.2.1 0) 17) p0)).2.1 0) 17)))) (x_x_refusal T (x_x_isTime T p0))
theorem c_x_seven {X : Nat × (Nat → Int32)} {T : St} (p0 : Int32) (kk : ok_x_seven T p0) : tC X 11 mX11_seven [.ref (0 : Nat), .int p0] T (some (.int (x_x_seven T p0).1)) ((x_x_seven T p0).2) := by
  unfold ok_x_seven at kk
  refine tC_orI (L := [some (.ref (0 : Nat)), some (.int p0), none]) (x_x_seven T p0) rfl ?_
  unfold x_x_seven
  refine r_p (pc2 := 1) dX11_seven_0 rfl rfl ?_
  refine r_p (pc2 := 2) dX11_seven_1 rfl rfl ?_
  refine r_cs (d1 := 1) dX11_seven_2 csX11_218 rfl rfl (Nat.le_of_ble_eq_true rfl) (Nat.le_of_ble_eq_true rfl) (Nat.le_of_ble_eq_true rfl) (c_x_isTime p0) ?_
  obtain ⟨q1, kk⟩ := kk
  refine r_cv (d1 := 2) dX11_seven_5 cvX11_221 rfl rfl rfl rfl (Nat.le_of_ble_eq_true rfl) (Nat.le_of_ble_eq_true rfl) (Nat.le_of_ble_eq_true rfl) (c_x_refusal (x_x_isTime T p0) q1) ?_
  refine r_nI (R := rI) rfl kk (fun i1 kk => ?_)
  refine r_p (pc2 := 9) (L2 := [some (.ref (0 : Nat)), some (.int p0), some (.int i1)]) dX11_seven_8 rfl rfl ?_
  refine r_p (pc2 := 10) dX11_seven_9 rfl rfl ?_
  refine r_ieq dX11_seven_10 rfl (fun c10_1 => ?_) (fun c10_1 => ?_)
  · refine r_ip (R := rI) c10_1 ?_
    have kk := kk c10_1
    refine r_p (pc2 := 16) dX11_seven_15 rfl rfl ?_
    refine r_get dX11_seven_16 fkX11_50 rfl rfl ?_
    refine r_p (pc2 := 20) dX11_seven_19 rfl rfl ?_
    refine r_get dX11_seven_20 fkX11_30 rfl rfl ?_
    refine r_p (pc2 := 24) dX11_seven_23 rfl rfl ?_
    refine r_get dX11_seven_24 fkX11_40 rfl rfl ?_
    refine r_p (pc2 := 28) dX11_seven_27 rfl rfl ?_
    refine r_get dX11_seven_28 fkX11_30 rfl rfl ?_
    obtain ⟨q2, kk⟩ := kk
    refine r_get dX11_seven_31 fkX11_209 q2 rfl ?_
    refine r_p (pc2 := 35) dX11_seven_34 rfl rfl ?_
    obtain ⟨q3, kk⟩ := kk
    refine r_cv (d1 := 5) dX11_seven_35 cvX11_249 rfl rfl rfl rfl (Nat.le_of_ble_eq_true rfl) (Nat.le_of_ble_eq_true rfl) (Nat.le_of_ble_eq_true rfl) (c_pl_lay (T.2.1 0) 76 (T.1 (T.2.1 0) 17) p0 q3) ?_
    refine r_p (pc2 := 39) dX11_seven_38 rfl rfl ?_
    refine r_get dX11_seven_39 fkX11_50 rfl rfl ?_
    obtain ⟨q4, kk⟩ := kk
    refine r_cv (d1 := 1) dX11_seven_42 cvX11_252 rfl rfl rfl rfl (Nat.le_of_ble_eq_true rfl) (Nat.le_of_ble_eq_true rfl) (Nat.le_of_ble_eq_true rfl) (c_pl_strikeEarly  q4) ?_
    refine r_p (pc2 := 46) dX11_seven_45 rfl rfl ?_
    refine r_get dX11_seven_46 fkX11_50 rfl rfl ?_
    refine r_p (pc2 := 50) dX11_seven_49 rfl rfl ?_
    refine r_get dX11_seven_50 fkX11_30 rfl rfl ?_
    obtain ⟨q5, kk⟩ := kk
    refine r_get dX11_seven_53 fkX11_209 q5 rfl ?_
    obtain ⟨q6, kk⟩ := kk
    refine r_cv (d1 := 3) dX11_seven_56 cvX11_255 rfl rfl rfl rfl (Nat.le_of_ble_eq_true rfl) (Nat.le_of_ble_eq_true rfl) (Nat.le_of_ble_eq_true rfl) (c_pl_settle ((x_pl_strikeEarly (x_pl_lay T (T.2.1 0) 76 (T.1 (T.2.1 0) 17) p0)).1 ((x_pl_strikeEarly (x_pl_lay T (T.2.1 0) 76 (T.1 (T.2.1 0) 17) p0)).2.1 0) 17) q6) ?_
    refine r_nT (R := rI) rfl kk (fun T2 kk => ?_)
    refine r_p (pc2 := 60) dX11_seven_59 rfl rfl ?_
    refine r_get dX11_seven_60 fkX11_50 rfl rfl ?_
    refine r_p (pc2 := 64) dX11_seven_63 rfl rfl ?_
    refine r_get dX11_seven_64 fkX11_30 rfl rfl ?_
    obtain ⟨q7, kk⟩ := kk
    refine r_get dX11_seven_67 fkX11_209 q7 rfl ?_
    refine r_ci (x := 1) dX11_seven_70 rfl ?_
    obtain ⟨q8, kk⟩ := kk
    refine r_cv (d1 := 10) dX11_seven_71 cvX11_259 rfl rfl rfl rfl (Nat.le_of_ble_eq_true rfl) (Nat.le_of_ble_eq_true rfl) (Nat.le_of_ble_eq_true rfl) (c_pl_finds (T2.1 (T2.2.1 0) 17) 1 q8) ?_
    refine r_ieq dX11_seven_74 rfl (fun c74_2 => ?_) (fun c74_2 => ?_)
    · refine r_ip (R := rI) c74_2 ?_
      refine r_ci (x := 0) dX11_seven_81 rfl ?_
      exact r_qI dX11_seven_82 rfl rfl rfl rfl
    · refine r_in (R := rI) c74_2 ?_
      refine r_ci (x := 1) dX11_seven_77 rfl ?_
      refine r_go dX11_seven_78 rfl ?_
      exact r_qI dX11_seven_82 rfl rfl rfl rfl
  · refine r_in (R := rI) c10_1 ?_
    refine r_p (pc2 := 14) dX11_seven_13 rfl rfl ?_
    exact r_qI dX11_seven_14 rfl rfl rfl rfl
def x_x_dinners (T : St) (p0 : Int32) (p1 : Int32) (p2 : Int32) : Int32 × St := jn (fun (KJ1 : Int32 × St) => if p0 < 1 then (KJ1) else (if 3 < p0 then (KJ1) else (if (x_x_isTime T p1) = 0 then (KJ1) else (if p2 < 0 then (KJ1) else (if 1 < p2 then (KJ1) else (if (x_x_refusal T 1) = 0 then (jn (fun (KJ3 : St → Int32 × St) => if (T.1 0 16) = ((p0 * 61) + p1) then (KJ3 T) else (jn (fun (T9 : St) => jn (fun (T10 : St) => KJ3 T10) (sF (x_pl_countDinners (x_pl_settle T9 (x_bk_allDishes T9 (T9.2.1 0)))) 0 16 ((p0 * 61) + p1))) (x_pl_lay (x_ki_fit T 78 (T.2.1 0) p0 (T.1 (T.2.1 0) 18)) ((x_ki_fit T 78 (T.2.1 0) p0 (T.1 (T.2.1 0) 18)).2.1 0) 78 (x_bk_allDishes (x_ki_fit T 78 (T.2.1 0) p0 (T.1 (T.2.1 0) 18)) ((x_ki_fit T 78 (T.2.1 0) p0 (T.1 (T.2.1 0) 18)).2.1 0)) p1))) (fun (T303 : St) => if p2 = 0 then (T303.1 80 18, T303) else (T303.1 80 19, T303))) else (x_x_refusal T 1, T))))))) (if (x_x_refusal T 0) = 0 then (jn (fun (KJ2 : St → Int32 × St) => if (T.1 0 16) = ((p0 * 61) + p1) then (KJ2 T) else (jn (fun (T5 : St) => jn (fun (T6 : St) => KJ2 T6) (sF (x_pl_countDinners (x_pl_settle T5 (x_bk_allDishes T5 (T5.2.1 0)))) 0 16 ((p0 * 61) + p1))) (x_pl_lay (x_ki_fit T 78 (T.2.1 0) p0 (T.1 (T.2.1 0) 18)) ((x_ki_fit T 78 (T.2.1 0) p0 (T.1 (T.2.1 0) 18)).2.1 0) 78 (x_bk_allDishes (x_ki_fit T 78 (T.2.1 0) p0 (T.1 (T.2.1 0) 18)) ((x_ki_fit T 78 (T.2.1 0) p0 (T.1 (T.2.1 0) 18)).2.1 0)) p1))) (fun (T302 : St) => if p2 = 0 then (T302.1 80 18, T302) else (T302.1 80 19, T302))) else (x_x_refusal T 0, T))
def ok_x_dinners (T : St) (p0 : Int32) (p1 : Int32) (p2 : Int32) : Prop := jn (fun (OJ1 : Prop) => ((p0 < 1 → OJ1) ∧ (¬ p0 < 1 → ((3 < p0 → OJ1) ∧ (¬ 3 < p0 → (((x_x_isTime T p1) = 0 → OJ1) ∧ (¬ (x_x_isTime T p1) = 0 → ((p2 < 0 → OJ1) ∧ (¬ p2 < 0 → ((1 < p2 → OJ1) ∧ (¬ 1 < p2 → (ok_x_refusal T 1) ∧ ((x_x_refusal T 1) = 0 → (¬ (T.1 0 16) = ((p0 * 61) + p1) → (sh (T.2.1 0) = .inr 1) ∧ (ok_ki_fit T 78 (T.2.1 0) p0 (T.1 (T.2.1 0) 18)) ∧ (ok_bk_allDishes (x_ki_fit T 78 (T.2.1 0) p0 (T.1 (T.2.1 0) 18)) ((x_ki_fit T 78 (T.2.1 0) p0 (T.1 (T.2.1 0) 18)).2.1 0)) ∧ (sh ((x_ki_fit T 78 (T.2.1 0) p0 (T.1 (T.2.1 0) 18)).2.1 0) = .inr 1) ∧ (ok_pl_lay (x_ki_fit T 78 (T.2.1 0) p0 (T.1 (T.2.1 0) 18)) ((x_ki_fit T 78 (T.2.1 0) p0 (T.1 (T.2.1 0) 18)).2.1 0) 78 (x_bk_allDishes (x_ki_fit T 78 (T.2.1 0) p0 (T.1 (T.2.1 0) 18)) ((x_ki_fit T 78 (T.2.1 0) p0 (T.1 (T.2.1 0) 18)).2.1 0)) p1) ∧ jn (fun (T9 : St) => (ok_bk_allDishes T9 (T9.2.1 0)) ∧ (sh (T9.2.1 0) = .inr 1) ∧ (ok_pl_settle T9 (x_bk_allDishes T9 (T9.2.1 0))) ∧ (ok_pl_countDinners (x_pl_settle T9 (x_bk_allDishes T9 (T9.2.1 0)))) ∧ True) (x_pl_lay (x_ki_fit T 78 (T.2.1 0) p0 (T.1 (T.2.1 0) 18)) ((x_ki_fit T 78 (T.2.1 0) p0 (T.1 (T.2.1 0) 18)).2.1 0) 78 (x_bk_allDishes (x_ki_fit T 78 (T.2.1 0) p0 (T.1 (T.2.1 0) 18)) ((x_ki_fit T 78 (T.2.1 0) p0 (T.1 (T.2.1 0) 18)).2.1 0)) p1)))))))))))))) ((ok_x_refusal T 0) ∧ ((x_x_refusal T 0) = 0 → (¬ (T.1 0 16) = ((p0 * 61) + p1) → (sh (T.2.1 0) = .inr 1) ∧ (ok_ki_fit T 78 (T.2.1 0) p0 (T.1 (T.2.1 0) 18)) ∧ (ok_bk_allDishes (x_ki_fit T 78 (T.2.1 0) p0 (T.1 (T.2.1 0) 18)) ((x_ki_fit T 78 (T.2.1 0) p0 (T.1 (T.2.1 0) 18)).2.1 0)) ∧ (sh ((x_ki_fit T 78 (T.2.1 0) p0 (T.1 (T.2.1 0) 18)).2.1 0) = .inr 1) ∧ (ok_pl_lay (x_ki_fit T 78 (T.2.1 0) p0 (T.1 (T.2.1 0) 18)) ((x_ki_fit T 78 (T.2.1 0) p0 (T.1 (T.2.1 0) 18)).2.1 0) 78 (x_bk_allDishes (x_ki_fit T 78 (T.2.1 0) p0 (T.1 (T.2.1 0) 18)) ((x_ki_fit T 78 (T.2.1 0) p0 (T.1 (T.2.1 0) 18)).2.1 0)) p1) ∧ jn (fun (T5 : St) => (ok_bk_allDishes T5 (T5.2.1 0)) ∧ (sh (T5.2.1 0) = .inr 1) ∧ (ok_pl_settle T5 (x_bk_allDishes T5 (T5.2.1 0))) ∧ (ok_pl_countDinners (x_pl_settle T5 (x_bk_allDishes T5 (T5.2.1 0)))) ∧ True) (x_pl_lay (x_ki_fit T 78 (T.2.1 0) p0 (T.1 (T.2.1 0) 18)) ((x_ki_fit T 78 (T.2.1 0) p0 (T.1 (T.2.1 0) 18)).2.1 0) 78 (x_bk_allDishes (x_ki_fit T 78 (T.2.1 0) p0 (T.1 (T.2.1 0) 18)) ((x_ki_fit T 78 (T.2.1 0) p0 (T.1 (T.2.1 0) 18)).2.1 0)) p1))))
theorem c_x_dinners {X : Nat × (Nat → Int32)} {T : St} (p0 : Int32) (p1 : Int32) (p2 : Int32) (kk : ok_x_dinners T p0 p1 p2) : tC X 12 mX11_dinners [.ref (0 : Nat), .int p0, .int p1, .int p2] T (some (.int (x_x_dinners T p0 p1 p2).1)) ((x_x_dinners T p0 p1 p2).2) := by
  unfold ok_x_dinners at kk
  refine tC_orI (L := [some (.ref (0 : Nat)), some (.int p0), some (.int p1), some (.int p2), none, none]) (x_x_dinners T p0 p1 p2) rfl ?_
  unfold x_x_dinners
  refine r_p (pc2 := 1) dX11_dinners_0 rfl rfl ?_
  refine r_p (pc2 := 2) dX11_dinners_1 rfl rfl ?_
  refine r_ci (x := 1) dX11_dinners_2 rfl ?_
  refine r_jn (R := rI) (J := fun (KJ1 : Int32 × St) (OJ1 : Prop) => OJ1 → tR X 11 mX11_dinners 31 [some (.ref (0 : Nat)), some (.int p0), some (.int p1), some (.int p2), none, none] [.ref (0 : Nat)] T (rI KJ1).1 (rI KJ1).2) kk (fun  kk => ?_) (fun KJ1 OJ1 hJ1 kk => ?_)
  · skip
    refine r_ci (x := 0) dX11_dinners_31 rfl ?_
    obtain ⟨q11, kk⟩ := kk
    refine r_cv (d1 := 2) dX11_dinners_32 cvX11_221 rfl rfl rfl rfl (Nat.le_of_ble_eq_true rfl) (Nat.le_of_ble_eq_true rfl) (Nat.le_of_ble_eq_true rfl) (c_x_refusal 0 q11) ?_
    refine r_p (pc2 := 37) (L2 := [some (.ref (0 : Nat)), some (.int p0), some (.int p1), some (.int p2), some (.int (x_x_refusal T 0)), none]) dX11_dinners_35 rfl rfl ?_
    refine r_p (pc2 := 39) dX11_dinners_37 rfl rfl ?_
    refine r_ieq dX11_dinners_39 rfl (fun c39_10 => ?_) (fun c39_10 => ?_)
    · refine r_ip (R := rI) c39_10 ?_
      have kk := kk c39_10
      refine r_p (pc2 := 46) dX11_dinners_45 rfl rfl ?_
      refine r_cb (x := 61) dX11_dinners_46 rfl ?_
      refine r_p (pc2 := 49) dX11_dinners_48 rfl rfl ?_
      refine r_p (pc2 := 50) dX11_dinners_49 rfl rfl ?_
      refine r_p (pc2 := 51) dX11_dinners_50 rfl rfl ?_
      refine r_p (pc2 := 53) (L2 := [some (.ref (0 : Nat)), some (.int p0), some (.int p1), some (.int p2), some (.int (x_x_refusal T 0)), some (.int ((p0 * 61) + p1))]) dX11_dinners_51 rfl rfl ?_
      refine r_p (pc2 := 54) dX11_dinners_53 rfl rfl ?_
      refine r_get dX11_dinners_54 fkX11_297 rfl rfl ?_
      refine r_p (pc2 := 59) dX11_dinners_57 rfl rfl ?_
      refine r_jn0 (R := rI) (J := fun (KJ2 : St → Int32 × St) => ∀ (T302 : St), tR X 11 mX11_dinners 131 [some (.ref (0 : Nat)), some (.int p0), some (.int p1), some (.int p2), some (.int (x_x_refusal T 0)), some (.int ((p0 * 61) + p1))] [] T302 (rI (KJ2 T302)).1 (rI (KJ2 T302)).2) (fun T302 => ?_) (fun KJ2 hJ2 => ?_)
      · skip
        refine r_p (pc2 := 132) dX11_dinners_131 rfl rfl ?_
        refine r_ine dX11_dinners_132 rfl (fun c132_12 => ?_) (fun c132_12 => ?_)
        · refine r_in (R := rI) c132_12 ?_
          refine r_p (pc2 := 146) dX11_dinners_145 rfl rfl ?_
          refine r_get dX11_dinners_146 fkX11_50 rfl rfl ?_
          refine r_get dX11_dinners_149 fkX11_310 rfl rfl ?_
          exact r_qI dX11_dinners_152 rfl rfl rfl rfl
        · refine r_ip (R := rI) c132_12 ?_
          refine r_p (pc2 := 136) dX11_dinners_135 rfl rfl ?_
          refine r_get dX11_dinners_136 fkX11_50 rfl rfl ?_
          refine r_get dX11_dinners_139 fkX11_307 rfl rfl ?_
          refine r_go dX11_dinners_142 rfl ?_
          exact r_qI dX11_dinners_152 rfl rfl rfl rfl
      refine r_ceq dX11_dinners_59 rfl (fun c59_13 => ?_) (fun c59_13 => ?_)
      · refine r_ip (R := rI) c59_13 ?_
        show tR _ _ _ _ [some (.ref (0 : Nat)), some (.int p0), some (.int p1), some (.int p2), some (.int (x_x_refusal T 0)), some (.int ((p0 * 61) + p1))] [] _ _ _
        exact (hJ2 T)
      · refine r_in (R := rI) c59_13 ?_
        have kk := kk c59_13
        refine r_p (pc2 := 63) dX11_dinners_62 rfl rfl ?_
        refine r_get dX11_dinners_63 fkX11_44 rfl rfl ?_
        refine r_p (pc2 := 67) dX11_dinners_66 rfl rfl ?_
        refine r_get dX11_dinners_67 fkX11_30 rfl rfl ?_
        refine r_p (pc2 := 71) dX11_dinners_70 rfl rfl ?_
        refine r_p (pc2 := 72) dX11_dinners_71 rfl rfl ?_
        refine r_get dX11_dinners_72 fkX11_30 rfl rfl ?_
        obtain ⟨q21, kk⟩ := kk
        refine r_get dX11_dinners_75 fkX11_215 q21 rfl ?_
        obtain ⟨q22, kk⟩ := kk
        refine r_cv (d1 := 3) dX11_dinners_78 cvX11_300 rfl rfl rfl rfl (Nat.le_of_ble_eq_true rfl) (Nat.le_of_ble_eq_true rfl) (Nat.le_of_ble_eq_true rfl) (c_ki_fit 78 (T.2.1 0) p0 (T.1 (T.2.1 0) 18) q22) ?_
        refine r_p (pc2 := 82) dX11_dinners_81 rfl rfl ?_
        refine r_get dX11_dinners_82 fkX11_50 rfl rfl ?_
        refine r_p (pc2 := 86) dX11_dinners_85 rfl rfl ?_
        refine r_get dX11_dinners_86 fkX11_30 rfl rfl ?_
        refine r_p (pc2 := 90) dX11_dinners_89 rfl rfl ?_
        refine r_get dX11_dinners_90 fkX11_44 rfl rfl ?_
        refine r_p (pc2 := 94) dX11_dinners_93 rfl rfl ?_
        refine r_get dX11_dinners_94 fkX11_30 rfl rfl ?_
        obtain ⟨q23, kk⟩ := kk
        obtain ⟨q24, kk⟩ := kk
        refine r_cv (d1 := 1) dX11_dinners_97 cvX11_205 rfl rfl q24 rfl (Nat.le_of_ble_eq_true rfl) (Nat.le_of_ble_eq_true rfl) (Nat.le_of_ble_eq_true rfl) (c_bk_allDishes ((x_ki_fit T 78 (T.2.1 0) p0 (T.1 (T.2.1 0) 18)).2.1 0) q23) ?_
        refine r_p (pc2 := 101) dX11_dinners_100 rfl rfl ?_
        obtain ⟨q25, kk⟩ := kk
        refine r_cv (d1 := 5) dX11_dinners_101 cvX11_249 rfl rfl rfl rfl (Nat.le_of_ble_eq_true rfl) (Nat.le_of_ble_eq_true rfl) (Nat.le_of_ble_eq_true rfl) (c_pl_lay ((x_ki_fit T 78 (T.2.1 0) p0 (T.1 (T.2.1 0) 18)).2.1 0) 78 (x_bk_allDishes (x_ki_fit T 78 (T.2.1 0) p0 (T.1 (T.2.1 0) 18)) ((x_ki_fit T 78 (T.2.1 0) p0 (T.1 (T.2.1 0) 18)).2.1 0)) p1 q25) ?_
        refine r_nT (R := rI) rfl kk (fun T5 kk => ?_)
        refine r_p (pc2 := 105) dX11_dinners_104 rfl rfl ?_
        refine r_get dX11_dinners_105 fkX11_50 rfl rfl ?_
        refine r_p (pc2 := 109) dX11_dinners_108 rfl rfl ?_
        refine r_get dX11_dinners_109 fkX11_30 rfl rfl ?_
        obtain ⟨q26, kk⟩ := kk
        obtain ⟨q27, kk⟩ := kk
        refine r_cv (d1 := 1) dX11_dinners_112 cvX11_205 rfl rfl q27 rfl (Nat.le_of_ble_eq_true rfl) (Nat.le_of_ble_eq_true rfl) (Nat.le_of_ble_eq_true rfl) (c_bk_allDishes (T5.2.1 0) q26) ?_
        obtain ⟨q28, kk⟩ := kk
        refine r_cv (d1 := 3) dX11_dinners_115 cvX11_255 rfl rfl rfl rfl (Nat.le_of_ble_eq_true rfl) (Nat.le_of_ble_eq_true rfl) (Nat.le_of_ble_eq_true rfl) (c_pl_settle (x_bk_allDishes T5 (T5.2.1 0)) q28) ?_
        refine r_p (pc2 := 119) dX11_dinners_118 rfl rfl ?_
        refine r_get dX11_dinners_119 fkX11_50 rfl rfl ?_
        obtain ⟨q29, kk⟩ := kk
        refine r_cv (d1 := 11) dX11_dinners_122 cvX11_304 rfl rfl rfl rfl (Nat.le_of_ble_eq_true rfl) (Nat.le_of_ble_eq_true rfl) (Nat.le_of_ble_eq_true rfl) (c_pl_countDinners  q29) ?_
        refine r_p (pc2 := 126) dX11_dinners_125 rfl rfl ?_
        refine r_p (pc2 := 128) dX11_dinners_126 rfl rfl ?_
        refine r_put dX11_dinners_128 fkX11_297 rfl rfl rfl (Nat.le_of_ble_eq_true rfl) rfl rfl ?_
        refine r_nT0 (R := rI) rfl (fun T6 => ?_)
        show tR _ _ _ _ [some (.ref (0 : Nat)), some (.int p0), some (.int p1), some (.int p2), some (.int (x_x_refusal T 0)), some (.int ((p0 * 61) + p1))] [] _ _ _
        exact (hJ2 T6)
    · refine r_in (R := rI) c39_10 ?_
      refine r_p (pc2 := 44) dX11_dinners_42 rfl rfl ?_
      exact r_qI dX11_dinners_44 rfl rfl rfl rfl
  refine r_clt dX11_dinners_3 rfl (fun c3_14 => ?_) (fun c3_14 => ?_)
  · refine r_ip (R := rI) c3_14 ?_
    have kk := kk.1 c3_14
    show tR _ _ _ _ [some (.ref (0 : Nat)), some (.int p0), some (.int p1), some (.int p2), none, none] [.ref (0 : Nat)] _ _ _
    exact (hJ1  kk)
  · refine r_in (R := rI) c3_14 ?_
    have kk := kk.2 c3_14
    refine r_p (pc2 := 7) dX11_dinners_6 rfl rfl ?_
    refine r_ci (x := 3) dX11_dinners_7 rfl ?_
    refine r_cgt dX11_dinners_8 rfl (fun c8_15 => ?_) (fun c8_15 => ?_)
    · refine r_ip (R := rI) c8_15 ?_
      have kk := kk.1 c8_15
      show tR _ _ _ _ [some (.ref (0 : Nat)), some (.int p0), some (.int p1), some (.int p2), none, none] [.ref (0 : Nat)] _ _ _
      exact (hJ1  kk)
    · refine r_in (R := rI) c8_15 ?_
      have kk := kk.2 c8_15
      refine r_p (pc2 := 12) dX11_dinners_11 rfl rfl ?_
      refine r_cs (d1 := 1) dX11_dinners_12 csX11_218 rfl rfl (Nat.le_of_ble_eq_true rfl) (Nat.le_of_ble_eq_true rfl) (Nat.le_of_ble_eq_true rfl) (c_x_isTime p1) ?_
      refine r_ieq dX11_dinners_15 rfl (fun c15_16 => ?_) (fun c15_16 => ?_)
      · refine r_ip (R := rI) c15_16 ?_
        have kk := kk.1 c15_16
        show tR _ _ _ _ [some (.ref (0 : Nat)), some (.int p0), some (.int p1), some (.int p2), none, none] [.ref (0 : Nat)] _ _ _
        exact (hJ1  kk)
      · refine r_in (R := rI) c15_16 ?_
        have kk := kk.2 c15_16
        refine r_p (pc2 := 19) dX11_dinners_18 rfl rfl ?_
        refine r_ilt dX11_dinners_19 rfl (fun c19_17 => ?_) (fun c19_17 => ?_)
        · refine r_ip (R := rI) c19_17 ?_
          have kk := kk.1 c19_17
          show tR _ _ _ _ [some (.ref (0 : Nat)), some (.int p0), some (.int p1), some (.int p2), none, none] [.ref (0 : Nat)] _ _ _
          exact (hJ1  kk)
        · refine r_in (R := rI) c19_17 ?_
          have kk := kk.2 c19_17
          refine r_p (pc2 := 23) dX11_dinners_22 rfl rfl ?_
          refine r_ci (x := 1) dX11_dinners_23 rfl ?_
          refine r_cgt dX11_dinners_24 rfl (fun c24_18 => ?_) (fun c24_18 => ?_)
          · refine r_ip (R := rI) c24_18 ?_
            have kk := kk.1 c24_18
            show tR _ _ _ _ [some (.ref (0 : Nat)), some (.int p0), some (.int p1), some (.int p2), none, none] [.ref (0 : Nat)] _ _ _
            exact (hJ1  kk)
          · refine r_in (R := rI) c24_18 ?_
            have kk := kk.2 c24_18
            refine r_ci (x := 1) dX11_dinners_27 rfl ?_
            refine r_go dX11_dinners_28 rfl ?_
            obtain ⟨q30, kk⟩ := kk
            refine r_cv (d1 := 2) dX11_dinners_32 cvX11_221 rfl rfl rfl rfl (Nat.le_of_ble_eq_true rfl) (Nat.le_of_ble_eq_true rfl) (Nat.le_of_ble_eq_true rfl) (c_x_refusal 1 q30) ?_
            refine r_p (pc2 := 37) (L2 := [some (.ref (0 : Nat)), some (.int p0), some (.int p1), some (.int p2), some (.int (x_x_refusal T 1)), none]) dX11_dinners_35 rfl rfl ?_
            refine r_p (pc2 := 39) dX11_dinners_37 rfl rfl ?_
            refine r_ieq dX11_dinners_39 rfl (fun c39_19 => ?_) (fun c39_19 => ?_)
            · refine r_ip (R := rI) c39_19 ?_
              have kk := kk c39_19
              refine r_p (pc2 := 46) dX11_dinners_45 rfl rfl ?_
              refine r_cb (x := 61) dX11_dinners_46 rfl ?_
              refine r_p (pc2 := 49) dX11_dinners_48 rfl rfl ?_
              refine r_p (pc2 := 50) dX11_dinners_49 rfl rfl ?_
              refine r_p (pc2 := 51) dX11_dinners_50 rfl rfl ?_
              refine r_p (pc2 := 53) (L2 := [some (.ref (0 : Nat)), some (.int p0), some (.int p1), some (.int p2), some (.int (x_x_refusal T 1)), some (.int ((p0 * 61) + p1))]) dX11_dinners_51 rfl rfl ?_
              refine r_p (pc2 := 54) dX11_dinners_53 rfl rfl ?_
              refine r_get dX11_dinners_54 fkX11_297 rfl rfl ?_
              refine r_p (pc2 := 59) dX11_dinners_57 rfl rfl ?_
              refine r_jn0 (R := rI) (J := fun (KJ3 : St → Int32 × St) => ∀ (T303 : St), tR X 11 mX11_dinners 131 [some (.ref (0 : Nat)), some (.int p0), some (.int p1), some (.int p2), some (.int (x_x_refusal T 1)), some (.int ((p0 * 61) + p1))] [] T303 (rI (KJ3 T303)).1 (rI (KJ3 T303)).2) (fun T303 => ?_) (fun KJ3 hJ3 => ?_)
              · skip
                refine r_p (pc2 := 132) dX11_dinners_131 rfl rfl ?_
                refine r_ine dX11_dinners_132 rfl (fun c132_21 => ?_) (fun c132_21 => ?_)
                · refine r_in (R := rI) c132_21 ?_
                  refine r_p (pc2 := 146) dX11_dinners_145 rfl rfl ?_
                  refine r_get dX11_dinners_146 fkX11_50 rfl rfl ?_
                  refine r_get dX11_dinners_149 fkX11_310 rfl rfl ?_
                  exact r_qI dX11_dinners_152 rfl rfl rfl rfl
                · refine r_ip (R := rI) c132_21 ?_
                  refine r_p (pc2 := 136) dX11_dinners_135 rfl rfl ?_
                  refine r_get dX11_dinners_136 fkX11_50 rfl rfl ?_
                  refine r_get dX11_dinners_139 fkX11_307 rfl rfl ?_
                  refine r_go dX11_dinners_142 rfl ?_
                  exact r_qI dX11_dinners_152 rfl rfl rfl rfl
              refine r_ceq dX11_dinners_59 rfl (fun c59_22 => ?_) (fun c59_22 => ?_)
              · refine r_ip (R := rI) c59_22 ?_
                show tR _ _ _ _ [some (.ref (0 : Nat)), some (.int p0), some (.int p1), some (.int p2), some (.int (x_x_refusal T 1)), some (.int ((p0 * 61) + p1))] [] _ _ _
                exact (hJ3 T)
              · refine r_in (R := rI) c59_22 ?_
                have kk := kk c59_22
                refine r_p (pc2 := 63) dX11_dinners_62 rfl rfl ?_
                refine r_get dX11_dinners_63 fkX11_44 rfl rfl ?_
                refine r_p (pc2 := 67) dX11_dinners_66 rfl rfl ?_
                refine r_get dX11_dinners_67 fkX11_30 rfl rfl ?_
                refine r_p (pc2 := 71) dX11_dinners_70 rfl rfl ?_
                refine r_p (pc2 := 72) dX11_dinners_71 rfl rfl ?_
                refine r_get dX11_dinners_72 fkX11_30 rfl rfl ?_
                obtain ⟨q40, kk⟩ := kk
                refine r_get dX11_dinners_75 fkX11_215 q40 rfl ?_
                obtain ⟨q41, kk⟩ := kk
                refine r_cv (d1 := 3) dX11_dinners_78 cvX11_300 rfl rfl rfl rfl (Nat.le_of_ble_eq_true rfl) (Nat.le_of_ble_eq_true rfl) (Nat.le_of_ble_eq_true rfl) (c_ki_fit 78 (T.2.1 0) p0 (T.1 (T.2.1 0) 18) q41) ?_
                refine r_p (pc2 := 82) dX11_dinners_81 rfl rfl ?_
                refine r_get dX11_dinners_82 fkX11_50 rfl rfl ?_
                refine r_p (pc2 := 86) dX11_dinners_85 rfl rfl ?_
                refine r_get dX11_dinners_86 fkX11_30 rfl rfl ?_
                refine r_p (pc2 := 90) dX11_dinners_89 rfl rfl ?_
                refine r_get dX11_dinners_90 fkX11_44 rfl rfl ?_
                refine r_p (pc2 := 94) dX11_dinners_93 rfl rfl ?_
                refine r_get dX11_dinners_94 fkX11_30 rfl rfl ?_
                obtain ⟨q42, kk⟩ := kk
                obtain ⟨q43, kk⟩ := kk
                refine r_cv (d1 := 1) dX11_dinners_97 cvX11_205 rfl rfl q43 rfl (Nat.le_of_ble_eq_true rfl) (Nat.le_of_ble_eq_true rfl) (Nat.le_of_ble_eq_true rfl) (c_bk_allDishes ((x_ki_fit T 78 (T.2.1 0) p0 (T.1 (T.2.1 0) 18)).2.1 0) q42) ?_
                refine r_p (pc2 := 101) dX11_dinners_100 rfl rfl ?_
                obtain ⟨q44, kk⟩ := kk
                refine r_cv (d1 := 5) dX11_dinners_101 cvX11_249 rfl rfl rfl rfl (Nat.le_of_ble_eq_true rfl) (Nat.le_of_ble_eq_true rfl) (Nat.le_of_ble_eq_true rfl) (c_pl_lay ((x_ki_fit T 78 (T.2.1 0) p0 (T.1 (T.2.1 0) 18)).2.1 0) 78 (x_bk_allDishes (x_ki_fit T 78 (T.2.1 0) p0 (T.1 (T.2.1 0) 18)) ((x_ki_fit T 78 (T.2.1 0) p0 (T.1 (T.2.1 0) 18)).2.1 0)) p1 q44) ?_
                refine r_nT (R := rI) rfl kk (fun T9 kk => ?_)
                refine r_p (pc2 := 105) dX11_dinners_104 rfl rfl ?_
                refine r_get dX11_dinners_105 fkX11_50 rfl rfl ?_
                refine r_p (pc2 := 109) dX11_dinners_108 rfl rfl ?_
                refine r_get dX11_dinners_109 fkX11_30 rfl rfl ?_
                obtain ⟨q45, kk⟩ := kk
                obtain ⟨q46, kk⟩ := kk
                refine r_cv (d1 := 1) dX11_dinners_112 cvX11_205 rfl rfl q46 rfl (Nat.le_of_ble_eq_true rfl) (Nat.le_of_ble_eq_true rfl) (Nat.le_of_ble_eq_true rfl) (c_bk_allDishes (T9.2.1 0) q45) ?_
                obtain ⟨q47, kk⟩ := kk
                refine r_cv (d1 := 3) dX11_dinners_115 cvX11_255 rfl rfl rfl rfl (Nat.le_of_ble_eq_true rfl) (Nat.le_of_ble_eq_true rfl) (Nat.le_of_ble_eq_true rfl) (c_pl_settle (x_bk_allDishes T9 (T9.2.1 0)) q47) ?_
                refine r_p (pc2 := 119) dX11_dinners_118 rfl rfl ?_
                refine r_get dX11_dinners_119 fkX11_50 rfl rfl ?_
                obtain ⟨q48, kk⟩ := kk
                refine r_cv (d1 := 11) dX11_dinners_122 cvX11_304 rfl rfl rfl rfl (Nat.le_of_ble_eq_true rfl) (Nat.le_of_ble_eq_true rfl) (Nat.le_of_ble_eq_true rfl) (c_pl_countDinners  q48) ?_
                refine r_p (pc2 := 126) dX11_dinners_125 rfl rfl ?_
                refine r_p (pc2 := 128) dX11_dinners_126 rfl rfl ?_
                refine r_put dX11_dinners_128 fkX11_297 rfl rfl rfl (Nat.le_of_ble_eq_true rfl) rfl rfl ?_
                refine r_nT0 (R := rI) rfl (fun T10 => ?_)
                show tR _ _ _ _ [some (.ref (0 : Nat)), some (.int p0), some (.int p1), some (.int p2), some (.int (x_x_refusal T 1)), some (.int ((p0 * 61) + p1))] [] _ _ _
                exact (hJ3 T10)
            · refine r_in (R := rI) c39_19 ?_
              refine r_p (pc2 := 44) dX11_dinners_42 rfl rfl ?_
              exact r_qI dX11_dinners_44 rfl rfl rfl rfl
def x_x_ask (T : St) (p0 : Int32) (p1 : Int32) : Int32 × St := if (x_bk_hasStep T (T.2.1 0) p0) = 0 then ((-1000001), T) else (if p1 < 0 then ((-1000001), T) else (if p1 ≤ 1 then ((x_ask_answer T (T.2.1 0) p0 p1).1, (x_ask_answer T (T.2.1 0) p0 p1).2) else ((-1000001), T)))
def ok_x_ask (T : St) (p0 : Int32) (p1 : Int32) : Prop := (ok_bk_hasStep T (T.2.1 0) p0) ∧ (sh (T.2.1 0) = .inr 1) ∧ (¬ (x_bk_hasStep T (T.2.1 0) p0) = 0 → (¬ p1 < 0 → (p1 ≤ 1 → (ok_ask_answer T (T.2.1 0) p0 p1) ∧ True)))
theorem c_x_ask {X : Nat × (Nat → Int32)} {T : St} (p0 : Int32) (p1 : Int32) (kk : ok_x_ask T p0 p1) : tC X 8 mX11_ask [.ref (0 : Nat), .int p0, .int p1] T (some (.int (x_x_ask T p0 p1).1)) ((x_x_ask T p0 p1).2) := by
  unfold ok_x_ask at kk
  refine tC_orI (L := [some (.ref (0 : Nat)), some (.int p0), some (.int p1)]) (x_x_ask T p0 p1) rfl ?_
  unfold x_x_ask
  refine r_p (pc2 := 1) dX11_ask_0 rfl rfl ?_
  refine r_get dX11_ask_1 fkX11_30 rfl rfl ?_
  refine r_p (pc2 := 5) dX11_ask_4 rfl rfl ?_
  obtain ⟨q1, kk⟩ := kk
  obtain ⟨q2, kk⟩ := kk
  refine r_cv (d1 := 1) dX11_ask_5 cvX11_171 rfl rfl q2 rfl (Nat.le_of_ble_eq_true rfl) (Nat.le_of_ble_eq_true rfl) (Nat.le_of_ble_eq_true rfl) (c_bk_hasStep (T.2.1 0) p0 q1) ?_
  refine r_ieq dX11_ask_8 rfl (fun c8_1 => ?_) (fun c8_1 => ?_)
  · refine r_ip (R := rI) c8_1 ?_
    refine r_k dX11_ask_20 kkX11_82 ?_
    exact r_qI dX11_ask_22 rfl rfl rfl rfl
  · refine r_in (R := rI) c8_1 ?_
    have kk := kk c8_1
    refine r_p (pc2 := 12) dX11_ask_11 rfl rfl ?_
    refine r_ilt dX11_ask_12 rfl (fun c12_2 => ?_) (fun c12_2 => ?_)
    · refine r_ip (R := rI) c12_2 ?_
      refine r_k dX11_ask_20 kkX11_82 ?_
      exact r_qI dX11_ask_22 rfl rfl rfl rfl
    · refine r_in (R := rI) c12_2 ?_
      have kk := kk c12_2
      refine r_p (pc2 := 16) dX11_ask_15 rfl rfl ?_
      refine r_ci (x := 1) dX11_ask_16 rfl ?_
      refine r_cle dX11_ask_17 rfl (fun c17_3 => ?_) (fun c17_3 => ?_)
      · refine r_ip (R := rI) c17_3 ?_
        have kk := kk c17_3
        refine r_p (pc2 := 24) dX11_ask_23 rfl rfl ?_
        refine r_get dX11_ask_24 fkX11_64 rfl rfl ?_
        refine r_p (pc2 := 28) dX11_ask_27 rfl rfl ?_
        refine r_get dX11_ask_28 fkX11_30 rfl rfl ?_
        refine r_p (pc2 := 32) dX11_ask_31 rfl rfl ?_
        refine r_p (pc2 := 33) dX11_ask_32 rfl rfl ?_
        obtain ⟨q3, kk⟩ := kk
        refine r_cv (d1 := 7) dX11_ask_33 cvX11_334 rfl rfl rfl rfl (Nat.le_of_ble_eq_true rfl) (Nat.le_of_ble_eq_true rfl) (Nat.le_of_ble_eq_true rfl) (c_ask_answer (T.2.1 0) p0 p1 q3) ?_
        exact r_qI dX11_ask_36 rfl rfl rfl rfl
      · refine r_in (R := rI) c17_3 ?_
        refine r_k dX11_ask_20 kkX11_82 ?_
        exact r_qI dX11_ask_22 rfl rfl rfl rfl
def x_x_findsPlan (T : St) (p0 : Int32) : Int32 × St := jn (fun (KJ1 : St → Int32 × St) => if (T.1 0 14) = p0 then (KJ1 T) else (jn (fun (T4 : St) => jn (fun (T5 : St) => if ((x_pl_finds (sF T4 0 15 (-1000000)) ((sF T4 0 15 (-1000000)).1 ((sF T4 0 15 (-1000000)).2.1 0) 17) 0).1) = 0 then (KJ1 (sF T5 0 14 p0)) else (jn (fun (T6 : St) => KJ1 T6) (sF (x_pl_tell (x_ro_fill (sF T5 0 15 (T5.1 80 17)) 557 ((sF T5 0 15 (T5.1 80 17)).2.1 0)) 557) 0 14 p0))) ((x_pl_finds (sF T4 0 15 (-1000000)) ((sF T4 0 15 (-1000000)).1 ((sF T4 0 15 (-1000000)).2.1 0) 17) 0).2)) (x_pl_settle (x_pl_lay T (T.2.1 0) 76 (T.1 (T.2.1 0) 17) p0) ((x_pl_lay T (T.2.1 0) 76 (T.1 (T.2.1 0) 17) p0).1 ((x_pl_lay T (T.2.1 0) 76 (T.1 (T.2.1 0) 17) p0).2.1 0) 17)))) (fun (T301 : St) => if (T301.1 0 15) = (-1000000) then (0, T301) else (1, T301))
def ok_x_findsPlan (T : St) (p0 : Int32) : Prop := (¬ (T.1 0 14) = p0 → (sh (T.2.1 0) = .inr 1) ∧ (ok_pl_lay T (T.2.1 0) 76 (T.1 (T.2.1 0) 17) p0) ∧ (sh ((x_pl_lay T (T.2.1 0) 76 (T.1 (T.2.1 0) 17) p0).2.1 0) = .inr 1) ∧ (ok_pl_settle (x_pl_lay T (T.2.1 0) 76 (T.1 (T.2.1 0) 17) p0) ((x_pl_lay T (T.2.1 0) 76 (T.1 (T.2.1 0) 17) p0).1 ((x_pl_lay T (T.2.1 0) 76 (T.1 (T.2.1 0) 17) p0).2.1 0) 17)) ∧ jn (fun (T4 : St) => (sh ((sF T4 0 15 (-1000000)).2.1 0) = .inr 1) ∧ (ok_pl_finds (sF T4 0 15 (-1000000)) ((sF T4 0 15 (-1000000)).1 ((sF T4 0 15 (-1000000)).2.1 0) 17) 0) ∧ jn (fun (T5 : St) => (¬ ((x_pl_finds (sF T4 0 15 (-1000000)) ((sF T4 0 15 (-1000000)).1 ((sF T4 0 15 (-1000000)).2.1 0) 17) 0).1) = 0 → (ok_ro_fill (sF T5 0 15 (T5.1 80 17)) 557 ((sF T5 0 15 (T5.1 80 17)).2.1 0)) ∧ (ok_pl_tell (x_ro_fill (sF T5 0 15 (T5.1 80 17)) 557 ((sF T5 0 15 (T5.1 80 17)).2.1 0)) 557) ∧ True)) ((x_pl_finds (sF T4 0 15 (-1000000)) ((sF T4 0 15 (-1000000)).1 ((sF T4 0 15 (-1000000)).2.1 0) 17) 0).2)) (x_pl_settle (x_pl_lay T (T.2.1 0) 76 (T.1 (T.2.1 0) 17) p0) ((x_pl_lay T (T.2.1 0) 76 (T.1 (T.2.1 0) 17) p0).1 ((x_pl_lay T (T.2.1 0) 76 (T.1 (T.2.1 0) 17) p0).2.1 0) 17)))
theorem c_x_findsPlan {X : Nat × (Nat → Int32)} {T : St} (p0 : Int32) (kk : ok_x_findsPlan T p0) : tC X 11 mX11_findsPlan [.ref (0 : Nat), .int p0] T (some (.int (x_x_findsPlan T p0).1)) ((x_x_findsPlan T p0).2) := by
  unfold ok_x_findsPlan at kk
  refine tC_orI (L := [some (.ref (0 : Nat)), some (.int p0)]) (x_x_findsPlan T p0) rfl ?_
  unfold x_x_findsPlan
  refine r_p (pc2 := 1) dX11_findsPlan_0 rfl rfl ?_
  refine r_get dX11_findsPlan_1 fkX11_358 rfl rfl ?_
  refine r_p (pc2 := 5) dX11_findsPlan_4 rfl rfl ?_
  refine r_jn0 (R := rI) (J := fun (KJ1 : St → Int32 × St) => ∀ (T301 : St), tR X 10 mX11_findsPlan 107 [some (.ref (0 : Nat)), some (.int p0)] [] T301 (rI (KJ1 T301)).1 (rI (KJ1 T301)).2) (fun T301 => ?_) (fun KJ1 hJ1 => ?_)
  · skip
    refine r_p (pc2 := 108) dX11_findsPlan_107 rfl rfl ?_
    refine r_get dX11_findsPlan_108 fkX11_242 rfl rfl ?_
    refine r_k dX11_findsPlan_111 kkX11_241 ?_
    refine r_ceq dX11_findsPlan_113 rfl (fun c113_3 => ?_) (fun c113_3 => ?_)
    · refine r_ip (R := rI) c113_3 ?_
      refine r_ci (x := 0) dX11_findsPlan_120 rfl ?_
      exact r_qI dX11_findsPlan_121 rfl rfl rfl rfl
    · refine r_in (R := rI) c113_3 ?_
      refine r_ci (x := 1) dX11_findsPlan_116 rfl ?_
      refine r_go dX11_findsPlan_117 rfl ?_
      exact r_qI dX11_findsPlan_121 rfl rfl rfl rfl
  refine r_ceq dX11_findsPlan_5 rfl (fun c5_4 => ?_) (fun c5_4 => ?_)
  · refine r_ip (R := rI) c5_4 ?_
    show tR _ _ _ _ [some (.ref (0 : Nat)), some (.int p0)] [] _ _ _
    exact (hJ1 T)
  · refine r_in (R := rI) c5_4 ?_
    have kk := kk c5_4
    refine r_p (pc2 := 9) dX11_findsPlan_8 rfl rfl ?_
    refine r_get dX11_findsPlan_9 fkX11_50 rfl rfl ?_
    refine r_p (pc2 := 13) dX11_findsPlan_12 rfl rfl ?_
    refine r_get dX11_findsPlan_13 fkX11_30 rfl rfl ?_
    refine r_p (pc2 := 17) dX11_findsPlan_16 rfl rfl ?_
    refine r_get dX11_findsPlan_17 fkX11_40 rfl rfl ?_
    refine r_p (pc2 := 21) dX11_findsPlan_20 rfl rfl ?_
    refine r_get dX11_findsPlan_21 fkX11_30 rfl rfl ?_
    obtain ⟨q9, kk⟩ := kk
    refine r_get dX11_findsPlan_24 fkX11_209 q9 rfl ?_
    refine r_p (pc2 := 28) dX11_findsPlan_27 rfl rfl ?_
    obtain ⟨q10, kk⟩ := kk
    refine r_cv (d1 := 5) dX11_findsPlan_28 cvX11_249 rfl rfl rfl rfl (Nat.le_of_ble_eq_true rfl) (Nat.le_of_ble_eq_true rfl) (Nat.le_of_ble_eq_true rfl) (c_pl_lay (T.2.1 0) 76 (T.1 (T.2.1 0) 17) p0 q10) ?_
    refine r_p (pc2 := 32) dX11_findsPlan_31 rfl rfl ?_
    refine r_get dX11_findsPlan_32 fkX11_50 rfl rfl ?_
    refine r_p (pc2 := 36) dX11_findsPlan_35 rfl rfl ?_
    refine r_get dX11_findsPlan_36 fkX11_30 rfl rfl ?_
    obtain ⟨q11, kk⟩ := kk
    refine r_get dX11_findsPlan_39 fkX11_209 q11 rfl ?_
    obtain ⟨q12, kk⟩ := kk
    refine r_cv (d1 := 3) dX11_findsPlan_42 cvX11_255 rfl rfl rfl rfl (Nat.le_of_ble_eq_true rfl) (Nat.le_of_ble_eq_true rfl) (Nat.le_of_ble_eq_true rfl) (c_pl_settle ((x_pl_lay T (T.2.1 0) 76 (T.1 (T.2.1 0) 17) p0).1 ((x_pl_lay T (T.2.1 0) 76 (T.1 (T.2.1 0) 17) p0).2.1 0) 17) q12) ?_
    refine r_nT (R := rI) rfl kk (fun T4 kk => ?_)
    refine r_p (pc2 := 46) dX11_findsPlan_45 rfl rfl ?_
    refine r_k dX11_findsPlan_46 kkX11_241 ?_
    refine r_put dX11_findsPlan_48 fkX11_242 rfl rfl rfl (Nat.le_of_ble_eq_true rfl) rfl rfl ?_
    refine r_p (pc2 := 52) dX11_findsPlan_51 rfl rfl ?_
    refine r_get dX11_findsPlan_52 fkX11_50 rfl rfl ?_
    refine r_p (pc2 := 56) dX11_findsPlan_55 rfl rfl ?_
    refine r_get dX11_findsPlan_56 fkX11_30 rfl rfl ?_
    obtain ⟨q13, kk⟩ := kk
    refine r_get dX11_findsPlan_59 fkX11_209 q13 rfl ?_
    refine r_ci (x := 0) dX11_findsPlan_62 rfl ?_
    obtain ⟨q14, kk⟩ := kk
    refine r_cv (d1 := 10) dX11_findsPlan_63 cvX11_259 rfl rfl rfl rfl (Nat.le_of_ble_eq_true rfl) (Nat.le_of_ble_eq_true rfl) (Nat.le_of_ble_eq_true rfl) (c_pl_finds ((sF T4 0 15 (-1000000)).1 ((sF T4 0 15 (-1000000)).2.1 0) 17) 0 q14) ?_
    refine r_nT (R := rI) rfl kk (fun T5 kk => ?_)
    refine r_ieq dX11_findsPlan_66 rfl (fun c66_5 => ?_) (fun c66_5 => ?_)
    · refine r_ip (R := rI) c66_5 ?_
      refine r_p (pc2 := 103) dX11_findsPlan_102 rfl rfl ?_
      refine r_p (pc2 := 104) dX11_findsPlan_103 rfl rfl ?_
      refine r_put dX11_findsPlan_104 fkX11_358 rfl rfl rfl (Nat.le_of_ble_eq_true rfl) rfl rfl ?_
      show tR _ _ _ _ [some (.ref (0 : Nat)), some (.int p0)] [] _ _ _
      exact (hJ1 (sF T5 0 14 p0))
    · refine r_in (R := rI) c66_5 ?_
      have kk := kk c66_5
      refine r_p (pc2 := 70) dX11_findsPlan_69 rfl rfl ?_
      refine r_p (pc2 := 71) dX11_findsPlan_70 rfl rfl ?_
      refine r_get dX11_findsPlan_71 fkX11_50 rfl rfl ?_
      refine r_get dX11_findsPlan_74 fkX11_317 rfl rfl ?_
      refine r_put dX11_findsPlan_77 fkX11_242 rfl rfl rfl (Nat.le_of_ble_eq_true rfl) rfl rfl ?_
      refine r_p (pc2 := 81) dX11_findsPlan_80 rfl rfl ?_
      refine r_get dX11_findsPlan_81 fkX11_71 rfl rfl ?_
      refine r_p (pc2 := 85) dX11_findsPlan_84 rfl rfl ?_
      refine r_get dX11_findsPlan_85 fkX11_30 rfl rfl ?_
      obtain ⟨q15, kk⟩ := kk
      refine r_cv (d1 := 2) dX11_findsPlan_88 cvX11_225 rfl rfl rfl rfl (Nat.le_of_ble_eq_true rfl) (Nat.le_of_ble_eq_true rfl) (Nat.le_of_ble_eq_true rfl) (c_ro_fill 557 ((sF T5 0 15 (T5.1 80 17)).2.1 0) q15) ?_
      refine r_p (pc2 := 92) dX11_findsPlan_91 rfl rfl ?_
      refine r_get dX11_findsPlan_92 fkX11_50 rfl rfl ?_
      refine r_p (pc2 := 96) dX11_findsPlan_95 rfl rfl ?_
      refine r_get dX11_findsPlan_96 fkX11_71 rfl rfl ?_
      obtain ⟨q16, kk⟩ := kk
      refine r_cv (d1 := 1) dX11_findsPlan_99 cvX11_361 rfl rfl rfl rfl (Nat.le_of_ble_eq_true rfl) (Nat.le_of_ble_eq_true rfl) (Nat.le_of_ble_eq_true rfl) (c_pl_tell 557 q16) ?_
      refine r_p (pc2 := 103) dX11_findsPlan_102 rfl rfl ?_
      refine r_p (pc2 := 104) dX11_findsPlan_103 rfl rfl ?_
      refine r_put dX11_findsPlan_104 fkX11_358 rfl rfl rfl (Nat.le_of_ble_eq_true rfl) rfl rfl ?_
      refine r_nT0 (R := rI) rfl (fun T6 => ?_)
      show tR _ _ _ _ [some (.ref (0 : Nat)), some (.int p0)] [] _ _ _
      exact (hJ1 T6)
def x_x_isPossible (T : St) (p0 : Nat) (p1 : Int32) (p2 : Int32) : Int32 × St := ((x_pl_finds (x_pl_settle (x_pl_lay T (T.2.1 0) p0 p1 p2) p1) p1 1).1, (x_pl_finds (x_pl_settle (x_pl_lay T (T.2.1 0) p0 p1 p2) p1) p1 1).2)
def ok_x_isPossible (T : St) (p0 : Nat) (p1 : Int32) (p2 : Int32) : Prop := (ok_pl_lay T (T.2.1 0) p0 p1 p2) ∧ (ok_pl_settle (x_pl_lay T (T.2.1 0) p0 p1 p2) p1) ∧ (ok_pl_finds (x_pl_settle (x_pl_lay T (T.2.1 0) p0 p1 p2) p1) p1 1) ∧ (((x_pl_finds (x_pl_settle (x_pl_lay T (T.2.1 0) p0 p1 p2) p1) p1 1).1 = 0 ∨ (x_pl_finds (x_pl_settle (x_pl_lay T (T.2.1 0) p0 p1 p2) p1) p1 1).1 = (1 : Int32))) ∧ True
theorem c_x_isPossible {X : Nat × (Nat → Int32)} {T : St} (p0 : Nat) (p1 : Int32) (p2 : Int32) (kk : ok_x_isPossible T p0 p1 p2) : tC X 11 mX11_isPossible [.ref (0 : Nat), .ref p0, .int p1, .int p2] T (some (.int (x_x_isPossible T p0 p1 p2).1)) ((x_x_isPossible T p0 p1 p2).2) := by
  unfold ok_x_isPossible at kk
  refine tC_orI (L := [some (.ref (0 : Nat)), some (.ref p0), some (.int p1), some (.int p2)]) (x_x_isPossible T p0 p1 p2) rfl ?_
  unfold x_x_isPossible
  refine r_p (pc2 := 1) dX11_isPossible_0 rfl rfl ?_
  refine r_get dX11_isPossible_1 fkX11_50 rfl rfl ?_
  refine r_p (pc2 := 5) dX11_isPossible_4 rfl rfl ?_
  refine r_get dX11_isPossible_5 fkX11_30 rfl rfl ?_
  refine r_p (pc2 := 9) dX11_isPossible_8 rfl rfl ?_
  refine r_p (pc2 := 10) dX11_isPossible_9 rfl rfl ?_
  refine r_p (pc2 := 11) dX11_isPossible_10 rfl rfl ?_
  obtain ⟨q1, kk⟩ := kk
  refine r_cv (d1 := 5) dX11_isPossible_11 cvX11_249 rfl rfl rfl rfl (Nat.le_of_ble_eq_true rfl) (Nat.le_of_ble_eq_true rfl) (Nat.le_of_ble_eq_true rfl) (c_pl_lay (T.2.1 0) p0 p1 p2 q1) ?_
  refine r_p (pc2 := 15) dX11_isPossible_14 rfl rfl ?_
  refine r_get dX11_isPossible_15 fkX11_50 rfl rfl ?_
  refine r_p (pc2 := 19) dX11_isPossible_18 rfl rfl ?_
  obtain ⟨q2, kk⟩ := kk
  refine r_cv (d1 := 3) dX11_isPossible_19 cvX11_255 rfl rfl rfl rfl (Nat.le_of_ble_eq_true rfl) (Nat.le_of_ble_eq_true rfl) (Nat.le_of_ble_eq_true rfl) (c_pl_settle p1 q2) ?_
  refine r_p (pc2 := 23) dX11_isPossible_22 rfl rfl ?_
  refine r_get dX11_isPossible_23 fkX11_50 rfl rfl ?_
  refine r_p (pc2 := 27) dX11_isPossible_26 rfl rfl ?_
  refine r_ci (x := 1) dX11_isPossible_27 rfl ?_
  obtain ⟨q3, kk⟩ := kk
  refine r_cv (d1 := 10) dX11_isPossible_28 cvX11_259 rfl rfl rfl rfl (Nat.le_of_ble_eq_true rfl) (Nat.le_of_ble_eq_true rfl) (Nat.le_of_ble_eq_true rfl) (c_pl_finds p1 1 q3) ?_
  obtain ⟨q4, kk⟩ := kk
  exact r_qI dX11_isPossible_31 rfl (nar_b q4) rfl rfl
def x_x_least (T : St) (p0 : Int32) (p1 : Int32) : Int32 × St := jn (fun (KJ1 : Int32 × St) => if (x_x_isTime T p0) = 0 then (KJ1) else (if p1 < (-1) then (KJ1) else (if (x_x_refusal T 1) = 0 then (if ((x_x_findsPlan T p0).1) = 0 then ((-1000000), (x_x_findsPlan T p0).2) else (if p1 = (-1) then (((x_x_findsPlan T p0).2).1 0 15, (x_x_findsPlan T p0).2) else (if (((x_x_findsPlan T p0).2).1 557 0) ≤ p1 then ((-1000000), (x_x_findsPlan T p0).2) else (((x_x_findsPlan T p0).2).2.2.1 559 (p1 : Int32).toNatClampNeg, (x_x_findsPlan T p0).2)))) else (x_x_refusal T 1, T)))) (if (x_x_refusal T 0) = 0 then (if ((x_x_findsPlan T p0).1) = 0 then ((-1000000), (x_x_findsPlan T p0).2) else (if p1 = (-1) then (((x_x_findsPlan T p0).2).1 0 15, (x_x_findsPlan T p0).2) else (if (((x_x_findsPlan T p0).2).1 557 0) ≤ p1 then ((-1000000), (x_x_findsPlan T p0).2) else (((x_x_findsPlan T p0).2).2.2.1 559 (p1 : Int32).toNatClampNeg, (x_x_findsPlan T p0).2)))) else (x_x_refusal T 0, T))
def ok_x_least (T : St) (p0 : Int32) (p1 : Int32) : Prop := jn (fun (OJ1 : Prop) => (((x_x_isTime T p0) = 0 → OJ1) ∧ (¬ (x_x_isTime T p0) = 0 → ((p1 < (-1) → OJ1) ∧ (¬ p1 < (-1) → (ok_x_refusal T 1) ∧ ((x_x_refusal T 1) = 0 → (ok_x_findsPlan T p0) ∧ (¬ ((x_x_findsPlan T p0).1) = 0 → (¬ p1 = (-1) → (¬ (((x_x_findsPlan T p0).2).1 557 0) ≤ p1 → (vp_in p1 4) ∧ True))))))))) ((ok_x_refusal T 0) ∧ ((x_x_refusal T 0) = 0 → (ok_x_findsPlan T p0) ∧ (¬ ((x_x_findsPlan T p0).1) = 0 → (¬ p1 = (-1) → (¬ (((x_x_findsPlan T p0).2).1 557 0) ≤ p1 → (vp_in p1 4) ∧ True)))))
theorem c_x_least {X : Nat × (Nat → Int32)} {T : St} (p0 : Int32) (p1 : Int32) (kk : ok_x_least T p0 p1) : tC X 12 mX11_least [.ref (0 : Nat), .int p0, .int p1] T (some (.int (x_x_least T p0 p1).1)) ((x_x_least T p0 p1).2) := by
  unfold ok_x_least at kk
  refine tC_orI (L := [some (.ref (0 : Nat)), some (.int p0), some (.int p1), none]) (x_x_least T p0 p1) rfl ?_
  unfold x_x_least
  refine r_p (pc2 := 1) dX11_least_0 rfl rfl ?_
  refine r_p (pc2 := 2) dX11_least_1 rfl rfl ?_
  refine r_cs (d1 := 1) dX11_least_2 csX11_218 rfl rfl (Nat.le_of_ble_eq_true rfl) (Nat.le_of_ble_eq_true rfl) (Nat.le_of_ble_eq_true rfl) (c_x_isTime p0) ?_
  refine r_jn (R := rI) (J := fun (KJ1 : Int32 × St) (OJ1 : Prop) => OJ1 → tR X 11 mX11_least 17 [some (.ref (0 : Nat)), some (.int p0), some (.int p1), none] [.ref (0 : Nat)] T (rI KJ1).1 (rI KJ1).2) kk (fun  kk => ?_) (fun KJ1 OJ1 hJ1 kk => ?_)
  · skip
    refine r_ci (x := 0) dX11_least_17 rfl ?_
    obtain ⟨q4, kk⟩ := kk
    refine r_cv (d1 := 2) dX11_least_18 cvX11_221 rfl rfl rfl rfl (Nat.le_of_ble_eq_true rfl) (Nat.le_of_ble_eq_true rfl) (Nat.le_of_ble_eq_true rfl) (c_x_refusal 0 q4) ?_
    refine r_p (pc2 := 22) (L2 := [some (.ref (0 : Nat)), some (.int p0), some (.int p1), some (.int (x_x_refusal T 0))]) dX11_least_21 rfl rfl ?_
    refine r_p (pc2 := 23) dX11_least_22 rfl rfl ?_
    refine r_ieq dX11_least_23 rfl (fun c23_7 => ?_) (fun c23_7 => ?_)
    · refine r_ip (R := rI) c23_7 ?_
      have kk := kk c23_7
      refine r_p (pc2 := 29) dX11_least_28 rfl rfl ?_
      refine r_p (pc2 := 30) dX11_least_29 rfl rfl ?_
      obtain ⟨q5, kk⟩ := kk
      refine r_cv (d1 := 11) dX11_least_30 cvX11_238 rfl rfl rfl rfl (Nat.le_of_ble_eq_true rfl) (Nat.le_of_ble_eq_true rfl) (Nat.le_of_ble_eq_true rfl) (c_x_findsPlan p0 q5) ?_
      refine r_ine dX11_least_33 rfl (fun c33_8 => ?_) (fun c33_8 => ?_)
      · refine r_in (R := rI) c33_8 ?_
        have kk := kk c33_8
        refine r_p (pc2 := 40) dX11_least_39 rfl rfl ?_
        refine r_ci (x := -1) dX11_least_40 rfl ?_
        refine r_cne dX11_least_41 rfl (fun c41_9 => ?_) (fun c41_9 => ?_)
        · refine r_in (R := rI) c41_9 ?_
          have kk := kk c41_9
          refine r_p (pc2 := 50) dX11_least_49 rfl rfl ?_
          refine r_p (pc2 := 51) dX11_least_50 rfl rfl ?_
          refine r_get dX11_least_51 fkX11_71 rfl rfl ?_
          refine r_get dX11_least_54 fkX11_245 rfl rfl ?_
          refine r_cge dX11_least_57 rfl (fun c57_10 => ?_) (fun c57_10 => ?_)
          · refine r_ip (R := rI) c57_10 ?_
            refine r_k dX11_least_72 kkX11_241 ?_
            exact r_qI dX11_least_74 rfl rfl rfl rfl
          · refine r_in (R := rI) c57_10 ?_
            have kk := kk c57_10
            refine r_p (pc2 := 61) dX11_least_60 rfl rfl ?_
            refine r_get dX11_least_61 fkX11_71 rfl rfl ?_
            refine r_get dX11_least_64 fkX11_246 rfl rfl ?_
            refine r_p (pc2 := 68) dX11_least_67 rfl rfl ?_
            obtain ⟨q6, kk⟩ := kk
            refine r_ia dX11_least_68 rfl q6 ?_
            refine r_go dX11_least_69 rfl ?_
            exact r_qI dX11_least_74 rfl rfl rfl rfl
        · refine r_ip (R := rI) c41_9 ?_
          refine r_p (pc2 := 45) dX11_least_44 rfl rfl ?_
          refine r_get dX11_least_45 fkX11_242 rfl rfl ?_
          exact r_qI dX11_least_48 rfl rfl rfl rfl
      · refine r_ip (R := rI) c33_8 ?_
        refine r_k dX11_least_36 kkX11_241 ?_
        exact r_qI dX11_least_38 rfl rfl rfl rfl
    · refine r_in (R := rI) c23_7 ?_
      refine r_p (pc2 := 27) dX11_least_26 rfl rfl ?_
      exact r_qI dX11_least_27 rfl rfl rfl rfl
  refine r_ieq dX11_least_5 rfl (fun c5_11 => ?_) (fun c5_11 => ?_)
  · refine r_ip (R := rI) c5_11 ?_
    have kk := kk.1 c5_11
    show tR _ _ _ _ [some (.ref (0 : Nat)), some (.int p0), some (.int p1), none] [.ref (0 : Nat)] _ _ _
    exact (hJ1  kk)
  · refine r_in (R := rI) c5_11 ?_
    have kk := kk.2 c5_11
    refine r_p (pc2 := 9) dX11_least_8 rfl rfl ?_
    refine r_ci (x := -1) dX11_least_9 rfl ?_
    refine r_clt dX11_least_10 rfl (fun c10_12 => ?_) (fun c10_12 => ?_)
    · refine r_ip (R := rI) c10_12 ?_
      have kk := kk.1 c10_12
      show tR _ _ _ _ [some (.ref (0 : Nat)), some (.int p0), some (.int p1), none] [.ref (0 : Nat)] _ _ _
      exact (hJ1  kk)
    · refine r_in (R := rI) c10_12 ?_
      have kk := kk.2 c10_12
      refine r_ci (x := 1) dX11_least_13 rfl ?_
      refine r_go dX11_least_14 rfl ?_
      obtain ⟨q7, kk⟩ := kk
      refine r_cv (d1 := 2) dX11_least_18 cvX11_221 rfl rfl rfl rfl (Nat.le_of_ble_eq_true rfl) (Nat.le_of_ble_eq_true rfl) (Nat.le_of_ble_eq_true rfl) (c_x_refusal 1 q7) ?_
      refine r_p (pc2 := 22) (L2 := [some (.ref (0 : Nat)), some (.int p0), some (.int p1), some (.int (x_x_refusal T 1))]) dX11_least_21 rfl rfl ?_
      refine r_p (pc2 := 23) dX11_least_22 rfl rfl ?_
      refine r_ieq dX11_least_23 rfl (fun c23_13 => ?_) (fun c23_13 => ?_)
      · refine r_ip (R := rI) c23_13 ?_
        have kk := kk c23_13
        refine r_p (pc2 := 29) dX11_least_28 rfl rfl ?_
        refine r_p (pc2 := 30) dX11_least_29 rfl rfl ?_
        obtain ⟨q8, kk⟩ := kk
        refine r_cv (d1 := 11) dX11_least_30 cvX11_238 rfl rfl rfl rfl (Nat.le_of_ble_eq_true rfl) (Nat.le_of_ble_eq_true rfl) (Nat.le_of_ble_eq_true rfl) (c_x_findsPlan p0 q8) ?_
        refine r_ine dX11_least_33 rfl (fun c33_14 => ?_) (fun c33_14 => ?_)
        · refine r_in (R := rI) c33_14 ?_
          have kk := kk c33_14
          refine r_p (pc2 := 40) dX11_least_39 rfl rfl ?_
          refine r_ci (x := -1) dX11_least_40 rfl ?_
          refine r_cne dX11_least_41 rfl (fun c41_15 => ?_) (fun c41_15 => ?_)
          · refine r_in (R := rI) c41_15 ?_
            have kk := kk c41_15
            refine r_p (pc2 := 50) dX11_least_49 rfl rfl ?_
            refine r_p (pc2 := 51) dX11_least_50 rfl rfl ?_
            refine r_get dX11_least_51 fkX11_71 rfl rfl ?_
            refine r_get dX11_least_54 fkX11_245 rfl rfl ?_
            refine r_cge dX11_least_57 rfl (fun c57_16 => ?_) (fun c57_16 => ?_)
            · refine r_ip (R := rI) c57_16 ?_
              refine r_k dX11_least_72 kkX11_241 ?_
              exact r_qI dX11_least_74 rfl rfl rfl rfl
            · refine r_in (R := rI) c57_16 ?_
              have kk := kk c57_16
              refine r_p (pc2 := 61) dX11_least_60 rfl rfl ?_
              refine r_get dX11_least_61 fkX11_71 rfl rfl ?_
              refine r_get dX11_least_64 fkX11_246 rfl rfl ?_
              refine r_p (pc2 := 68) dX11_least_67 rfl rfl ?_
              obtain ⟨q9, kk⟩ := kk
              refine r_ia dX11_least_68 rfl q9 ?_
              refine r_go dX11_least_69 rfl ?_
              exact r_qI dX11_least_74 rfl rfl rfl rfl
          · refine r_ip (R := rI) c41_15 ?_
            refine r_p (pc2 := 45) dX11_least_44 rfl rfl ?_
            refine r_get dX11_least_45 fkX11_242 rfl rfl ?_
            exact r_qI dX11_least_48 rfl rfl rfl rfl
        · refine r_ip (R := rI) c33_14 ?_
          refine r_k dX11_least_36 kkX11_241 ?_
          exact r_qI dX11_least_38 rfl rfl rfl rfl
      · refine r_in (R := rI) c23_13 ?_
        refine r_p (pc2 := 27) dX11_least_26 rfl rfl ?_
        exact r_qI dX11_least_27 rfl rfl rfl rfl
