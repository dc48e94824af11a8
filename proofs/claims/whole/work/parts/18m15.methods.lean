def x_m_judge_88 (l1 : Int32) (l2 : Int32) (l3 : Int32) (K : Int32 → St → Int32 × St) : Nat → Int32 → St → Int32 × St
  | 0, _, T => (0, T)
  | f + 1, v4, T => if (T.1 571 39) ≤ v4 then (K v4 T) else (jn (fun (T1 : St) => x_m_judge_88 l1 l2 l3 K f (v4 + 1) T1) (sA T 595 (v4 : Int32).toNatClampNeg (T.2.2.1 574 (((40 * l1) + l2) + v4 : Int32).toNatClampNeg)))
def ok_m_judge_88 (l1 : Int32) (l2 : Int32) (l3 : Int32) (Kk : Int32 → St → Prop) : Nat → Int32 → St → Prop
  | 0, _, _ => False
  | f + 1, v4, T => (((T.1 571 39) ≤ v4 → Kk v4 T) ∧ (¬ (T.1 571 39) ≤ v4 → (vp_in (((40 * l1) + l2) + v4) 320) ∧ (vp_in v4 12) ∧ jn (fun (T1 : St) => ok_m_judge_88 l1 l2 l3 Kk f (v4 + 1) T1) (sA T 595 (v4 : Int32).toNatClampNeg (T.2.2.1 574 (((40 * l1) + l2) + v4 : Int32).toNatClampNeg))))
theorem c_m_judge_88 {X : Nat × (Nat → Int32)} (l1 : Int32) (l2 : Int32) (l3 : Int32) {K : Int32 → St → Int32 × St} {Kk : Int32 → St → Prop} (hk : ∀ (v4 : Int32) (T : St), Kk v4 T → tR X 4 mX12_judge 124 [some (.ref (571 : Nat)), some (.int l1), some (.int l2), some (.int l3), some (.int v4)] [] T (rI (K v4 T)).1 ((rI (K v4 T)).2)) : ∀ (f : Nat) (v4 : Int32) (T : St), ok_m_judge_88 l1 l2 l3 Kk f v4 T → tR X 4 mX12_judge 88 [some (.ref (571 : Nat)), some (.int l1), some (.int l2), some (.int l3), some (.int v4)] [] T (rI (x_m_judge_88 l1 l2 l3 K f v4 T)).1 ((rI (x_m_judge_88 l1 l2 l3 K f v4 T)).2) := by
  intro f
  induction f with
  | zero => intro v4 T kk; exact kk.elim
  | succ f ih =>
    intro v4 T kk
    rw [ok_m_judge_88] at kk
    rw [x_m_judge_88]
    refine r_p (pc2 := 90) dX12_judge_88 rfl rfl ?_
    refine r_p (pc2 := 91) dX12_judge_90 rfl rfl ?_
    refine r_get dX12_judge_91 fkX12_302 rfl rfl ?_
    refine r_cge dX12_judge_94 rfl (fun c94_7 => ?_) (fun c94_7 => ?_)
    · refine r_ip (R := rI) c94_7 ?_
      have kk := kk.1 c94_7
      show tR _ _ _ _ [some (.ref (571 : Nat)), some (.int l1), some (.int l2), some (.int l3), some (.int v4)] _ _ _ _
      exact (hk v4 T kk)
    · refine r_in (R := rI) c94_7 ?_
      have kk := kk.2 c94_7
      refine r_p (pc2 := 98) dX12_judge_97 rfl rfl ?_
      refine r_get dX12_judge_98 fkX12_79 rfl rfl ?_
      refine r_p (pc2 := 103) dX12_judge_101 rfl rfl ?_
      refine r_p (pc2 := 104) dX12_judge_103 rfl rfl ?_
      refine r_get dX12_judge_104 fkX12_16 rfl rfl ?_
      refine r_cb (x := 40) dX12_judge_107 rfl ?_
      refine r_p (pc2 := 110) dX12_judge_109 rfl rfl ?_
      refine r_p (pc2 := 111) dX12_judge_110 rfl rfl ?_
      refine r_p (pc2 := 112) dX12_judge_111 rfl rfl ?_
      refine r_p (pc2 := 113) dX12_judge_112 rfl rfl ?_
      refine r_p (pc2 := 115) dX12_judge_113 rfl rfl ?_
      refine r_p (pc2 := 116) dX12_judge_115 rfl rfl ?_
      obtain ⟨q3, kk⟩ := kk
      refine r_ia dX12_judge_116 rfl q3 ?_
      obtain ⟨q4, kk⟩ := kk
      refine r_ias dX12_judge_117 rfl q4 ?_
      refine r_nT (R := rI) rfl kk (fun T1 kk => ?_)
      refine r_inc (L2 := [some (.ref (571 : Nat)), some (.int l1), some (.int l2), some (.int l3), some (.int (v4 + 1))]) (y := 1) dX12_judge_118 rfl rfl rfl ?_
      refine r_go dX12_judge_121 rfl ?_
      show tR _ _ _ _ [some (.ref (571 : Nat)), some (.int l1), some (.int l2), some (.int l3), some (.int (v4 + 1))] _ _ _ _
      exact (ih (v4 + 1) T1 kk)
def x_m_judge (T : St) (p0 : Int32) (p1 : Int32) (p2 : Int32) : Int32 × St := if (x_m_isSheet (sF T 571 0 0) p0) = 0 then ((-1000001), sF T 571 0 0) else (if (x_m_isBy (sF T 571 0 0) p2) = 0 then ((-1000001), sF T 571 0 0) else (if ((sF T 571 0 0).1 571 7) = 0 then ((-1000002), sF T 571 0 0) else (if 0 ≤ ((sF T 571 0 0).2.2.1 572 (p0 : Int32).toNatClampNeg) then (if p1 < 0 then ((x_m_finding (x_m_layRow (sF T 571 0 0)) 2).1, (x_m_finding (x_m_layRow (sF T 571 0 0)) 2).2) else (if (lg_cmp (((p1 : Int32).toInt64) + (((x_m_layRow (sF T 571 0 0)).1 571 39 : Int32).toInt64)) (((x_m_layRow (sF T 571 0 0)).2.2.1 573 (p0 : Int32).toNatClampNeg : Int32).toInt64)) ≤ 0 then (x_m_judge_88 p0 p1 p2 (fun (w1_4 : Int32) (T201 : St) => ((x_m_judged T201 p2).1, (x_m_judged T201 p2).2)) 1000 0 (sF (x_m_layRow (sF T 571 0 0)) 571 1 0)) else ((x_m_finding (x_m_layRow (sF T 571 0 0)) 2).1, (x_m_finding (x_m_layRow (sF T 571 0 0)) 2).2))) else ((x_m_finding (sF T 571 0 0) 1).1, (x_m_finding (sF T 571 0 0) 1).2))))
def ok_m_judge (T : St) (p0 : Int32) (p1 : Int32) (p2 : Int32) : Prop := (¬ (x_m_isSheet (sF T 571 0 0) p0) = 0 → (¬ (x_m_isBy (sF T 571 0 0) p2) = 0 → (¬ ((sF T 571 0 0).1 571 7) = 0 → (vp_in p0 8) ∧ (0 ≤ ((sF T 571 0 0).2.2.1 572 (p0 : Int32).toNatClampNeg) → (ok_m_layRow (sF T 571 0 0)) ∧ (¬ p1 < 0 → ((lg_cmp (((p1 : Int32).toInt64) + (((x_m_layRow (sF T 571 0 0)).1 571 39 : Int32).toInt64)) (((x_m_layRow (sF T 571 0 0)).2.2.1 573 (p0 : Int32).toNatClampNeg : Int32).toInt64)) ≤ 0 → ok_m_judge_88 p0 p1 p2 (fun (w1_4 : Int32) (T201 : St) => (ok_m_judged T201 p2) ∧ True) 1000 0 (sF (x_m_layRow (sF T 571 0 0)) 571 1 0)))))))
theorem c_m_judge {X : Nat × (Nat → Int32)} {T : St} (p0 : Int32) (p1 : Int32) (p2 : Int32) (kk : ok_m_judge T p0 p1 p2) : tC X 5 mX12_judge [.ref (571 : Nat), .int p0, .int p1, .int p2] T (some (.int (x_m_judge T p0 p1 p2).1)) ((x_m_judge T p0 p1 p2).2) := by
  unfold ok_m_judge at kk
  refine tC_orI (L := [some (.ref (571 : Nat)), some (.int p0), some (.int p1), some (.int p2), none]) (x_m_judge T p0 p1 p2) rfl ?_
  unfold x_m_judge
  refine r_p (pc2 := 1) dX12_judge_0 rfl rfl ?_
  refine r_ci (x := 0) dX12_judge_1 rfl ?_
  refine r_put dX12_judge_2 fkX12_101 rfl rfl rfl (Nat.le_of_ble_eq_true rfl) rfl rfl ?_
  refine r_p (pc2 := 6) dX12_judge_5 rfl rfl ?_
  refine r_cs (d1 := 2) dX12_judge_6 csX12_115 rfl rfl (Nat.le_of_ble_eq_true rfl) (Nat.le_of_ble_eq_true rfl) (Nat.le_of_ble_eq_true rfl) (c_m_isSheet p0) ?_
  refine r_ieq dX12_judge_9 rfl (fun c9_1 => ?_) (fun c9_1 => ?_)
  · refine r_ip (R := rI) c9_1 ?_
    refine r_k dX12_judge_19 kkX12_121 ?_
    exact r_qI dX12_judge_21 rfl rfl rfl rfl
  · refine r_in (R := rI) c9_1 ?_
    have kk := kk c9_1
    refine r_p (pc2 := 13) dX12_judge_12 rfl rfl ?_
    refine r_cs (d1 := 2) dX12_judge_13 csX12_318 rfl rfl (Nat.le_of_ble_eq_true rfl) (Nat.le_of_ble_eq_true rfl) (Nat.le_of_ble_eq_true rfl) (c_m_isBy p2) ?_
    refine r_ine dX12_judge_16 rfl (fun c16_2 => ?_) (fun c16_2 => ?_)
    · refine r_in (R := rI) c16_2 ?_
      have kk := kk c16_2
      refine r_p (pc2 := 23) dX12_judge_22 rfl rfl ?_
      refine r_get dX12_judge_23 fkX12_221 rfl rfl ?_
      refine r_ine dX12_judge_26 rfl (fun c26_3 => ?_) (fun c26_3 => ?_)
      · refine r_in (R := rI) c26_3 ?_
        have kk := kk c26_3
        refine r_p (pc2 := 33) dX12_judge_32 rfl rfl ?_
        refine r_get dX12_judge_33 fkX12_7 rfl rfl ?_
        refine r_p (pc2 := 37) dX12_judge_36 rfl rfl ?_
        obtain ⟨q1, kk⟩ := kk
        refine r_ia dX12_judge_37 rfl q1 ?_
        refine r_ige dX12_judge_38 rfl (fun c38_4 => ?_) (fun c38_4 => ?_)
        · refine r_ip (R := rI) c38_4 ?_
          have kk := kk c38_4
          refine r_p (pc2 := 48) dX12_judge_47 rfl rfl ?_
          obtain ⟨q2, kk⟩ := kk
          refine r_cv (d1 := 2) dX12_judge_48 cvX12_315 rfl rfl rfl rfl (Nat.le_of_ble_eq_true rfl) (Nat.le_of_ble_eq_true rfl) (Nat.le_of_ble_eq_true rfl) (c_m_layRow  q2) ?_
          refine r_p (pc2 := 52) dX12_judge_51 rfl rfl ?_
          refine r_ilt dX12_judge_52 rfl (fun c52_5 => ?_) (fun c52_5 => ?_)
          · refine r_ip (R := rI) c52_5 ?_
            refine r_p (pc2 := 75) dX12_judge_74 rfl rfl ?_
            refine r_ci (x := 2) dX12_judge_75 rfl ?_
            refine r_cv (d1 := 1) dX12_judge_76 cvX12_122 rfl rfl rfl rfl (Nat.le_of_ble_eq_true rfl) (Nat.le_of_ble_eq_true rfl) (Nat.le_of_ble_eq_true rfl) (c_m_finding 2) ?_
            exact r_qI dX12_judge_79 rfl rfl rfl rfl
          · refine r_in (R := rI) c52_5 ?_
            have kk := kk c52_5
            refine r_p (pc2 := 56) dX12_judge_55 rfl rfl ?_
            refine r_p (pc2 := 57) dX12_judge_56 rfl rfl ?_
            refine r_p (pc2 := 58) dX12_judge_57 rfl rfl ?_
            refine r_get dX12_judge_58 fkX12_302 rfl rfl ?_
            refine r_p (pc2 := 62) dX12_judge_61 rfl rfl ?_
            refine r_p (pc2 := 63) dX12_judge_62 rfl rfl ?_
            refine r_p (pc2 := 64) dX12_judge_63 rfl rfl ?_
            refine r_get dX12_judge_64 fkX12_13 rfl rfl ?_
            refine r_p (pc2 := 68) dX12_judge_67 rfl rfl ?_
            refine r_ia dX12_judge_68 rfl q1 ?_
            refine r_p (pc2 := 70) dX12_judge_69 rfl rfl ?_
            refine r_p (pc2 := 71) dX12_judge_70 rfl rfl ?_
            refine r_ile dX12_judge_71 rfl (fun c71_6 => ?_) (fun c71_6 => ?_)
            · refine r_ip (R := rI) c71_6 ?_
              have kk := kk c71_6
              refine r_p (pc2 := 81) dX12_judge_80 rfl rfl ?_
              refine r_ci (x := 0) dX12_judge_81 rfl ?_
              refine r_put dX12_judge_82 fkX12_105 rfl rfl rfl (Nat.le_of_ble_eq_true rfl) rfl rfl ?_
              refine r_ci (x := 0) dX12_judge_85 rfl ?_
              refine r_p (pc2 := 88) (L2 := [some (.ref (571 : Nat)), some (.int p0), some (.int p1), some (.int p2), some (.int 0)]) dX12_judge_86 rfl rfl ?_
              show tR _ _ _ _ [some (.ref (571 : Nat)), some (.int p0), some (.int p1), some (.int p2), some (.int 0)] _ _ _ _
              refine (c_m_judge_88 p0 p1 p2 (fun w1_4 T201 kk => ?_) 1000 0 (sF (x_m_layRow (sF T 571 0 0)) 571 1 0) kk)
              · skip
                refine r_p (pc2 := 125) dX12_judge_124 rfl rfl ?_
                refine r_p (pc2 := 126) dX12_judge_125 rfl rfl ?_
                obtain ⟨q5, kk⟩ := kk
                refine r_cv (d1 := 4) dX12_judge_126 cvX12_340 rfl rfl rfl rfl (Nat.le_of_ble_eq_true rfl) (Nat.le_of_ble_eq_true rfl) (Nat.le_of_ble_eq_true rfl) (c_m_judged p2 q5) ?_
                exact r_qI dX12_judge_129 rfl rfl rfl rfl
            · refine r_in (R := rI) c71_6 ?_
              refine r_p (pc2 := 75) dX12_judge_74 rfl rfl ?_
              refine r_ci (x := 2) dX12_judge_75 rfl ?_
              refine r_cv (d1 := 1) dX12_judge_76 cvX12_122 rfl rfl rfl rfl (Nat.le_of_ble_eq_true rfl) (Nat.le_of_ble_eq_true rfl) (Nat.le_of_ble_eq_true rfl) (c_m_finding 2) ?_
              exact r_qI dX12_judge_79 rfl rfl rfl rfl
        · refine r_in (R := rI) c38_4 ?_
          refine r_p (pc2 := 42) dX12_judge_41 rfl rfl ?_
          refine r_ci (x := 1) dX12_judge_42 rfl ?_
          refine r_cv (d1 := 1) dX12_judge_43 cvX12_122 rfl rfl rfl rfl (Nat.le_of_ble_eq_true rfl) (Nat.le_of_ble_eq_true rfl) (Nat.le_of_ble_eq_true rfl) (c_m_finding 1) ?_
          exact r_qI dX12_judge_46 rfl rfl rfl rfl
      · refine r_ip (R := rI) c26_3 ?_
        refine r_k dX12_judge_29 kkX12_253 ?_
        exact r_qI dX12_judge_31 rfl rfl rfl rfl
    · refine r_ip (R := rI) c16_2 ?_
      refine r_k dX12_judge_19 kkX12_121 ?_
      exact r_qI dX12_judge_21 rfl rfl rfl rfl
def x_m_layPlan_8  (K : Int32 → Int32 → St → St) : Nat → Int32 → Int32 → St → St
  | 0, _, _, T => T
  | f + 1, v1, v2, T => if (T.1 571 39) ≤ v2 then (K v1 v2 T) else (jn (fun (T1 : St) => jn (fun (KJ1 : Int32 → St) => if (x_m_isFirst T1 v2) = 0 then (KJ1 v1) else (KJ1 (T1.2.2.1 595 (v2 : Int32).toNatClampNeg))) (fun (j1_s0 : Int32) => if (x_m_isLast T1 v2) = 0 then (x_m_layPlan_8 K f j1_s0 (v2 + 1) T1) else (if (x_m_dishOf T1 (x_m_dishBy T1 (T1.2.2.1 594 (v2 : Int32).toNatClampNeg)) 2) = 1 then (x_m_layPlan_8 K f j1_s0 (v2 + 1) (x_m_addPan T1 0 j1_s0 (x_m_endOf T1 v2))) else (x_m_layPlan_8 K f j1_s0 (v2 + 1) T1)))) (x_m_addStep T 0 (T.2.2.1 594 (v2 : Int32).toNatClampNeg) (T.2.2.1 595 (v2 : Int32).toNatClampNeg) ((x_m_endOf T v2) - (T.2.2.1 595 (v2 : Int32).toNatClampNeg))))
def ok_m_layPlan_8  (Kk : Int32 → Int32 → St → Prop) : Nat → Int32 → Int32 → St → Prop
  | 0, _, _, _ => False
  | f + 1, v1, v2, T => (((T.1 571 39) ≤ v2 → Kk v1 v2 T) ∧ (¬ (T.1 571 39) ≤ v2 → (vp_in v2 12) ∧ (ok_m_endOf T v2) ∧ (ok_m_addStep T 0 (T.2.2.1 594 (v2 : Int32).toNatClampNeg) (T.2.2.1 595 (v2 : Int32).toNatClampNeg) ((x_m_endOf T v2) - (T.2.2.1 595 (v2 : Int32).toNatClampNeg))) ∧ jn (fun (T1 : St) => (ok_m_isFirst T1 v2) ∧ jn (fun (OJ1 : Int32 → Prop) => (((x_m_isFirst T1 v2) = 0 → OJ1 v1) ∧ (¬ (x_m_isFirst T1 v2) = 0 → OJ1 (T1.2.2.1 595 (v2 : Int32).toNatClampNeg)))) (fun (j1_s0 : Int32) => (ok_m_isLast T1 v2) ∧ (((x_m_isLast T1 v2) = 0 → ok_m_layPlan_8 Kk f j1_s0 (v2 + 1) T1) ∧ (¬ (x_m_isLast T1 v2) = 0 → (ok_m_dishBy T1 (T1.2.2.1 594 (v2 : Int32).toNatClampNeg)) ∧ (ok_m_dishOf T1 (x_m_dishBy T1 (T1.2.2.1 594 (v2 : Int32).toNatClampNeg)) 2) ∧ (((x_m_dishOf T1 (x_m_dishBy T1 (T1.2.2.1 594 (v2 : Int32).toNatClampNeg)) 2) = 1 → (ok_m_endOf T1 v2) ∧ (ok_m_addPan T1 0 j1_s0 (x_m_endOf T1 v2)) ∧ ok_m_layPlan_8 Kk f j1_s0 (v2 + 1) (x_m_addPan T1 0 j1_s0 (x_m_endOf T1 v2))) ∧ (¬ (x_m_dishOf T1 (x_m_dishBy T1 (T1.2.2.1 594 (v2 : Int32).toNatClampNeg)) 2) = 1 → ok_m_layPlan_8 Kk f j1_s0 (v2 + 1) T1)))))) (x_m_addStep T 0 (T.2.2.1 594 (v2 : Int32).toNatClampNeg) (T.2.2.1 595 (v2 : Int32).toNatClampNeg) ((x_m_endOf T v2) - (T.2.2.1 595 (v2 : Int32).toNatClampNeg)))))
theorem c_m_layPlan_8 {X : Nat × (Nat → Int32)}  {K : Int32 → Int32 → St → St} {Kk : Int32 → Int32 → St → Prop} (hk : ∀ (v1 : Int32) (v2 : Int32) (T : St), Kk v1 v2 T → tR X 3 mX12_layPlan 108 [some (.ref (571 : Nat)), some (.int v1), some (.int v2)] [] T (rV (K v1 v2 T)).1 ((rV (K v1 v2 T)).2)) : ∀ (f : Nat) (v1 : Int32) (v2 : Int32) (T : St), ok_m_layPlan_8  Kk f v1 v2 T → tR X 3 mX12_layPlan 8 [some (.ref (571 : Nat)), some (.int v1), some (.int v2)] [] T (rV (x_m_layPlan_8 K f v1 v2 T)).1 ((rV (x_m_layPlan_8 K f v1 v2 T)).2) := by
  intro f
  induction f with
  | zero => intro v1 v2 T kk; exact kk.elim
  | succ f ih =>
    intro v1 v2 T kk
    rw [ok_m_layPlan_8] at kk
    rw [x_m_layPlan_8]
    refine r_p (pc2 := 9) dX12_layPlan_8 rfl rfl ?_
    refine r_p (pc2 := 10) dX12_layPlan_9 rfl rfl ?_
    refine r_get dX12_layPlan_10 fkX12_302 rfl rfl ?_
    refine r_cge dX12_layPlan_13 rfl (fun c13_1 => ?_) (fun c13_1 => ?_)
    · refine r_ip (R := rV) c13_1 ?_
      have kk := kk.1 c13_1
      show tR _ _ _ _ [some (.ref (571 : Nat)), some (.int v1), some (.int v2)] _ _ _ _
      exact (hk v1 v2 T kk)
    · refine r_in (R := rV) c13_1 ?_
      have kk := kk.2 c13_1
      refine r_p (pc2 := 17) dX12_layPlan_16 rfl rfl ?_
      refine r_ci (x := 0) dX12_layPlan_17 rfl ?_
      refine r_p (pc2 := 19) dX12_layPlan_18 rfl rfl ?_
      refine r_get dX12_layPlan_19 fkX12_76 rfl rfl ?_
      refine r_p (pc2 := 23) dX12_layPlan_22 rfl rfl ?_
      obtain ⟨q2, kk⟩ := kk
      refine r_ia dX12_layPlan_23 rfl q2 ?_
      refine r_p (pc2 := 25) dX12_layPlan_24 rfl rfl ?_
      refine r_get dX12_layPlan_25 fkX12_79 rfl rfl ?_
      refine r_p (pc2 := 29) dX12_layPlan_28 rfl rfl ?_
      refine r_ia dX12_layPlan_29 rfl q2 ?_
      refine r_p (pc2 := 31) dX12_layPlan_30 rfl rfl ?_
      refine r_p (pc2 := 32) dX12_layPlan_31 rfl rfl ?_
      obtain ⟨q3, kk⟩ := kk
      refine r_cv (d1 := 2) dX12_layPlan_32 cvX12_331 rfl rfl rfl rfl (Nat.le_of_ble_eq_true rfl) (Nat.le_of_ble_eq_true rfl) (Nat.le_of_ble_eq_true rfl) (c_m_endOf v2 q3) ?_
      refine r_p (pc2 := 36) dX12_layPlan_35 rfl rfl ?_
      refine r_get dX12_layPlan_36 fkX12_79 rfl rfl ?_
      refine r_p (pc2 := 40) dX12_layPlan_39 rfl rfl ?_
      refine r_ia dX12_layPlan_40 rfl q2 ?_
      refine r_p (pc2 := 42) dX12_layPlan_41 rfl rfl ?_
      obtain ⟨q4, kk⟩ := kk
      refine r_cv (d1 := 2) dX12_layPlan_42 cvX12_278 rfl rfl rfl rfl (Nat.le_of_ble_eq_true rfl) (Nat.le_of_ble_eq_true rfl) (Nat.le_of_ble_eq_true rfl) (c_m_addStep 0 (T.2.2.1 594 (v2 : Int32).toNatClampNeg) (T.2.2.1 595 (v2 : Int32).toNatClampNeg) ((x_m_endOf T v2) - (T.2.2.1 595 (v2 : Int32).toNatClampNeg)) q4) ?_
      refine r_nT (R := rV) rfl kk (fun T1 kk => ?_)
      refine r_p (pc2 := 46) dX12_layPlan_45 rfl rfl ?_
      refine r_p (pc2 := 47) dX12_layPlan_46 rfl rfl ?_
      obtain ⟨q5, kk⟩ := kk
      refine r_cv (d1 := 3) dX12_layPlan_47 cvX12_334 rfl rfl rfl rfl (Nat.le_of_ble_eq_true rfl) (Nat.le_of_ble_eq_true rfl) (Nat.le_of_ble_eq_true rfl) (c_m_isFirst v2 q5) ?_
      refine r_jn (R := rV) (J := fun (KJ1 : Int32 → St) (OJ1 : Int32 → Prop) => ∀ (j1_s0 : Int32), OJ1 j1_s0 → tR X 3 mX12_layPlan 63 [some (.ref (571 : Nat)), some (.int v1), some (.int v2)] [.int j1_s0] T1 (rV (KJ1 j1_s0)).1 (rV (KJ1 j1_s0)).2) kk (fun j1_s0 kk => ?_) (fun KJ1 OJ1 hJ1 kk => ?_)
      · skip
        refine r_p (pc2 := 64) (L2 := [some (.ref (571 : Nat)), some (.int j1_s0), some (.int v2)]) dX12_layPlan_63 rfl rfl ?_
        refine r_p (pc2 := 65) dX12_layPlan_64 rfl rfl ?_
        refine r_p (pc2 := 66) dX12_layPlan_65 rfl rfl ?_
        obtain ⟨q6, kk⟩ := kk
        refine r_cv (d1 := 3) dX12_layPlan_66 cvX12_337 rfl rfl rfl rfl (Nat.le_of_ble_eq_true rfl) (Nat.le_of_ble_eq_true rfl) (Nat.le_of_ble_eq_true rfl) (c_m_isLast v2 q6) ?_
        refine r_ieq dX12_layPlan_69 rfl (fun c69_3 => ?_) (fun c69_3 => ?_)
        · refine r_ip (R := rV) c69_3 ?_
          have kk := kk.1 c69_3
          refine r_inc (L2 := [some (.ref (571 : Nat)), some (.int j1_s0), some (.int (v2 + 1))]) (y := 1) dX12_layPlan_102 rfl rfl rfl ?_
          refine r_go dX12_layPlan_105 rfl ?_
          show tR _ _ _ _ [some (.ref (571 : Nat)), some (.int j1_s0), some (.int (v2 + 1))] _ _ _ _
          exact (ih j1_s0 (v2 + 1) T1 kk)
        · refine r_in (R := rV) c69_3 ?_
          have kk := kk.2 c69_3
          refine r_p (pc2 := 73) dX12_layPlan_72 rfl rfl ?_
          refine r_p (pc2 := 74) dX12_layPlan_73 rfl rfl ?_
          refine r_p (pc2 := 75) dX12_layPlan_74 rfl rfl ?_
          refine r_get dX12_layPlan_75 fkX12_76 rfl rfl ?_
          refine r_p (pc2 := 79) dX12_layPlan_78 rfl rfl ?_
          refine r_ia dX12_layPlan_79 rfl q2 ?_
          obtain ⟨q7, kk⟩ := kk
          refine r_cv (d1 := 2) dX12_layPlan_80 cvX12_328 rfl rfl rfl rfl (Nat.le_of_ble_eq_true rfl) (Nat.le_of_ble_eq_true rfl) (Nat.le_of_ble_eq_true rfl) (c_m_dishBy (T1.2.2.1 594 (v2 : Int32).toNatClampNeg) q7) ?_
          refine r_ci (x := 2) dX12_layPlan_83 rfl ?_
          obtain ⟨q8, kk⟩ := kk
          refine r_cv (d1 := 1) dX12_layPlan_84 cvX12_228 rfl rfl rfl rfl (Nat.le_of_ble_eq_true rfl) (Nat.le_of_ble_eq_true rfl) (Nat.le_of_ble_eq_true rfl) (c_m_dishOf (x_m_dishBy T1 (T1.2.2.1 594 (v2 : Int32).toNatClampNeg)) 2 q8) ?_
          refine r_ci (x := 1) dX12_layPlan_87 rfl ?_
          refine r_cne dX12_layPlan_88 rfl (fun c88_4 => ?_) (fun c88_4 => ?_)
          · refine r_in (R := rV) c88_4 ?_
            have kk := kk.2 c88_4
            refine r_inc (L2 := [some (.ref (571 : Nat)), some (.int j1_s0), some (.int (v2 + 1))]) (y := 1) dX12_layPlan_102 rfl rfl rfl ?_
            refine r_go dX12_layPlan_105 rfl ?_
            show tR _ _ _ _ [some (.ref (571 : Nat)), some (.int j1_s0), some (.int (v2 + 1))] _ _ _ _
            exact (ih j1_s0 (v2 + 1) T1 kk)
          · refine r_ip (R := rV) c88_4 ?_
            have kk := kk.1 c88_4
            refine r_p (pc2 := 92) dX12_layPlan_91 rfl rfl ?_
            refine r_ci (x := 0) dX12_layPlan_92 rfl ?_
            refine r_p (pc2 := 94) dX12_layPlan_93 rfl rfl ?_
            refine r_p (pc2 := 95) dX12_layPlan_94 rfl rfl ?_
            refine r_p (pc2 := 96) dX12_layPlan_95 rfl rfl ?_
            obtain ⟨q9, kk⟩ := kk
            refine r_cv (d1 := 2) dX12_layPlan_96 cvX12_331 rfl rfl rfl rfl (Nat.le_of_ble_eq_true rfl) (Nat.le_of_ble_eq_true rfl) (Nat.le_of_ble_eq_true rfl) (c_m_endOf v2 q9) ?_
            obtain ⟨q10, kk⟩ := kk
            refine r_cv (d1 := 1) dX12_layPlan_99 cvX12_282 rfl rfl rfl rfl (Nat.le_of_ble_eq_true rfl) (Nat.le_of_ble_eq_true rfl) (Nat.le_of_ble_eq_true rfl) (c_m_addPan 0 j1_s0 (x_m_endOf T1 v2) q10) ?_
            refine r_inc (L2 := [some (.ref (571 : Nat)), some (.int j1_s0), some (.int (v2 + 1))]) (y := 1) dX12_layPlan_102 rfl rfl rfl ?_
            refine r_go dX12_layPlan_105 rfl ?_
            show tR _ _ _ _ [some (.ref (571 : Nat)), some (.int j1_s0), some (.int (v2 + 1))] _ _ _ _
            exact (ih j1_s0 (v2 + 1) (x_m_addPan T1 0 j1_s0 (x_m_endOf T1 v2)) kk)
      refine r_ieq dX12_layPlan_50 rfl (fun c50_5 => ?_) (fun c50_5 => ?_)
      · refine r_ip (R := rV) c50_5 ?_
        have kk := kk.1 c50_5
        refine r_p (pc2 := 63) dX12_layPlan_62 rfl rfl ?_
        show tR _ _ _ _ [some (.ref (571 : Nat)), some (.int v1), some (.int v2)] [.int v1] _ _ _
        exact (hJ1 v1 kk)
      · refine r_in (R := rV) c50_5 ?_
        have kk := kk.2 c50_5
        refine r_p (pc2 := 54) dX12_layPlan_53 rfl rfl ?_
        refine r_get dX12_layPlan_54 fkX12_79 rfl rfl ?_
        refine r_p (pc2 := 58) dX12_layPlan_57 rfl rfl ?_
        refine r_ia dX12_layPlan_58 rfl q2 ?_
        refine r_go dX12_layPlan_59 rfl ?_
        show tR _ _ _ _ [some (.ref (571 : Nat)), some (.int v1), some (.int v2)] [.int (T1.2.2.1 595 (v2 : Int32).toNatClampNeg)] _ _ _
        exact (hJ1 (T1.2.2.1 595 (v2 : Int32).toNatClampNeg) kk)
def x_m_layPlan (T : St)  : St := x_m_layPlan_8  (fun (w1_1 : Int32) (w1_2 : Int32) (T201 : St) => T201) 1000 0 0 (x_m_clearLevel T)
def ok_m_layPlan (T : St)  : Prop := (ok_m_clearLevel T) ∧ ok_m_layPlan_8  (fun (w1_1 : Int32) (w1_2 : Int32) (T201 : St) => True) 1000 0 0 (x_m_clearLevel T)
theorem c_m_layPlan {X : Nat × (Nat → Int32)} {T : St}  (kk : ok_m_layPlan T ) : tC X 4 mX12_layPlan [.ref (571 : Nat)] T none (x_m_layPlan T) := by
  unfold ok_m_layPlan at kk
  refine tC_orV (L := [some (.ref (571 : Nat)), none, none]) (x_m_layPlan T ) rfl ?_
  unfold x_m_layPlan
  refine r_p (pc2 := 1) dX12_layPlan_0 rfl rfl ?_
  obtain ⟨q1, kk⟩ := kk
  refine r_cv (d1 := 1) dX12_layPlan_1 cvX12_289 rfl rfl rfl rfl (Nat.le_of_ble_eq_true rfl) (Nat.le_of_ble_eq_true rfl) (Nat.le_of_ble_eq_true rfl) (c_m_clearLevel  q1) ?_
  refine r_ci (x := 0) dX12_layPlan_4 rfl ?_
  refine r_p (pc2 := 6) (L2 := [some (.ref (571 : Nat)), some (.int 0), none]) dX12_layPlan_5 rfl rfl ?_
  refine r_ci (x := 0) dX12_layPlan_6 rfl ?_
  refine r_p (pc2 := 8) (L2 := [some (.ref (571 : Nat)), some (.int 0), some (.int 0)]) dX12_layPlan_7 rfl rfl ?_
  show tR _ _ _ _ [some (.ref (571 : Nat)), some (.int 0), some (.int 0)] _ _ _ _
  refine (c_m_layPlan_8  (fun w1_1 w1_2 T201 kk => ?_) 1000 0 0 (x_m_clearLevel T) kk)
  · skip
    exact r_qV dX12_layPlan_108 rfl rfl
def x_m_heat_67 (l1 : Int32) (l2 : Int32) (K : Int32 → St → Int32 × St) : Nat → Int32 → St → Int32 × St
  | 0, _, T => (0, T)
  | f + 1, v3, T => if v3 < 0 then (K v3 T) else (jn (fun (i2 : Int32) => jn (fun (i3 : Int32) => jn (fun (KJ1 : Int32 → Int32 × St) => if i2 ≤ (T.2.2.1 583 (v3 : Int32).toNatClampNeg) then (KJ1 (T.2.2.1 583 (v3 : Int32).toNatClampNeg)) else (KJ1 i2)) (fun (j1_s2 : Int32) => if ((sA T 597 (v3 : Int32).toNatClampNeg j1_s2).2.2.1 584 (v3 : Int32).toNatClampNeg) ≤ i3 then (jn (fun (T4 : St) => x_m_heat_67 l1 l2 K f (v3 + (-1)) T4) (sA (sA T 597 (v3 : Int32).toNatClampNeg j1_s2) 598 (v3 : Int32).toNatClampNeg ((sA T 597 (v3 : Int32).toNatClampNeg j1_s2).2.2.1 584 (v3 : Int32).toNatClampNeg))) else (x_m_heat_67 l1 l2 K f (v3 + (-1)) (sA (sA T 597 (v3 : Int32).toNatClampNeg j1_s2) 598 (v3 : Int32).toNatClampNeg i3)))) ((T.2.2.1 598 (v3 + 1 : Int32).toNatClampNeg) + (T.2.2.1 575 (4 : Int32).toNatClampNeg))) ((T.2.2.1 597 (v3 + 1 : Int32).toNatClampNeg) - (T.2.2.1 575 (3 : Int32).toNatClampNeg)))
def ok_m_heat_67 (l1 : Int32) (l2 : Int32) (Kk : Int32 → St → Prop) : Nat → Int32 → St → Prop
  | 0, _, _ => False
  | f + 1, v3, T => ((v3 < 0 → Kk v3 T) ∧ (¬ v3 < 0 → (vp_in (v3 + 1) 61) ∧ jn (fun (i2 : Int32) => jn (fun (i3 : Int32) => (vp_in v3 300) ∧ jn (fun (OJ1 : Int32 → Prop) => ((i2 ≤ (T.2.2.1 583 (v3 : Int32).toNatClampNeg) → OJ1 (T.2.2.1 583 (v3 : Int32).toNatClampNeg)) ∧ (¬ i2 ≤ (T.2.2.1 583 (v3 : Int32).toNatClampNeg) → OJ1 i2))) (fun (j1_s2 : Int32) => (vp_in v3 61) ∧ ((((sA T 597 (v3 : Int32).toNatClampNeg j1_s2).2.2.1 584 (v3 : Int32).toNatClampNeg) ≤ i3 → jn (fun (T4 : St) => ok_m_heat_67 l1 l2 Kk f (v3 + (-1)) T4) (sA (sA T 597 (v3 : Int32).toNatClampNeg j1_s2) 598 (v3 : Int32).toNatClampNeg ((sA T 597 (v3 : Int32).toNatClampNeg j1_s2).2.2.1 584 (v3 : Int32).toNatClampNeg))) ∧ (¬ ((sA T 597 (v3 : Int32).toNatClampNeg j1_s2).2.2.1 584 (v3 : Int32).toNatClampNeg) ≤ i3 → ok_m_heat_67 l1 l2 Kk f (v3 + (-1)) (sA (sA T 597 (v3 : Int32).toNatClampNeg j1_s2) 598 (v3 : Int32).toNatClampNeg i3))))) ((T.2.2.1 598 (v3 + 1 : Int32).toNatClampNeg) + (T.2.2.1 575 (4 : Int32).toNatClampNeg))) ((T.2.2.1 597 (v3 + 1 : Int32).toNatClampNeg) - (T.2.2.1 575 (3 : Int32).toNatClampNeg))))
theorem c_m_heat_67 {X : Nat × (Nat → Int32)} (l1 : Int32) (l2 : Int32) {K : Int32 → St → Int32 × St} {Kk : Int32 → St → Prop} (hk : ∀ (v3 : Int32) (T : St), Kk v3 T → tR X 6 mX12_heat 167 [some (.ref (571 : Nat)), some (.int l1), some (.int l2), some (.int v3), none, none] [] T (rI (K v3 T)).1 ((rI (K v3 T)).2)) : ∀ (f : Nat) (v3 : Int32) (T : St), ok_m_heat_67 l1 l2 Kk f v3 T → tR X 6 mX12_heat 67 [some (.ref (571 : Nat)), some (.int l1), some (.int l2), some (.int v3), none, none] [] T (rI (x_m_heat_67 l1 l2 K f v3 T)).1 ((rI (x_m_heat_67 l1 l2 K f v3 T)).2) := by
  intro f
  induction f with
  | zero => intro v3 T kk; exact kk.elim
  | succ f ih =>
    intro v3 T kk
    rw [ok_m_heat_67] at kk
    rw [x_m_heat_67]
    refine r_p (pc2 := 68) dX12_heat_67 rfl rfl ?_
    refine r_ilt dX12_heat_68 rfl (fun c68_5 => ?_) (fun c68_5 => ?_)
    · refine r_ip (R := rI) c68_5 ?_
      have kk := kk.1 c68_5
      show tR _ _ _ _ [some (.ref (571 : Nat)), some (.int l1), some (.int l2), some (.int v3), none, none] _ _ _ _
      exact (hk v3 T kk)
    · refine r_in (R := rI) c68_5 ?_
      have kk := kk.2 c68_5
      refine r_p (pc2 := 72) dX12_heat_71 rfl rfl ?_
      refine r_get dX12_heat_72 fkX12_85 rfl rfl ?_
      refine r_p (pc2 := 76) dX12_heat_75 rfl rfl ?_
      refine r_ci (x := 1) dX12_heat_76 rfl ?_
      refine r_p (pc2 := 78) dX12_heat_77 rfl rfl ?_
      obtain ⟨q3, kk⟩ := kk
      refine r_ia dX12_heat_78 rfl q3 ?_
      refine r_p (pc2 := 80) dX12_heat_79 rfl rfl ?_
      refine r_get dX12_heat_80 fkX12_19 rfl rfl ?_
      refine r_ci (x := 3) dX12_heat_83 rfl ?_
      refine r_ia dX12_heat_84 rfl (in_c (by decide)) ?_
      refine r_p (pc2 := 86) dX12_heat_85 rfl rfl ?_
      refine r_nI (R := rI) rfl kk (fun i2 kk => ?_)
      refine r_p (pc2 := 88) (L2 := [some (.ref (571 : Nat)), some (.int l1), some (.int l2), some (.int v3), some (.int i2), none]) dX12_heat_86 rfl rfl ?_
      refine r_p (pc2 := 89) dX12_heat_88 rfl rfl ?_
      refine r_get dX12_heat_89 fkX12_88 rfl rfl ?_
      refine r_p (pc2 := 93) dX12_heat_92 rfl rfl ?_
      refine r_ci (x := 1) dX12_heat_93 rfl ?_
      refine r_p (pc2 := 95) dX12_heat_94 rfl rfl ?_
      refine r_ia dX12_heat_95 rfl q3 ?_
      refine r_p (pc2 := 97) dX12_heat_96 rfl rfl ?_
      refine r_get dX12_heat_97 fkX12_19 rfl rfl ?_
      refine r_ci (x := 4) dX12_heat_100 rfl ?_
      refine r_ia dX12_heat_101 rfl (in_c (by decide)) ?_
      refine r_p (pc2 := 103) dX12_heat_102 rfl rfl ?_
      refine r_nI (R := rI) rfl kk (fun i3 kk => ?_)
      refine r_p (pc2 := 105) (L2 := [some (.ref (571 : Nat)), some (.int l1), some (.int l2), some (.int v3), some (.int i2), some (.int i3)]) dX12_heat_103 rfl rfl ?_
      refine r_p (pc2 := 106) dX12_heat_105 rfl rfl ?_
      refine r_get dX12_heat_106 fkX12_85 rfl rfl ?_
      refine r_p (pc2 := 110) dX12_heat_109 rfl rfl ?_
      refine r_p (pc2 := 112) dX12_heat_110 rfl rfl ?_
      refine r_p (pc2 := 113) dX12_heat_112 rfl rfl ?_
      refine r_get dX12_heat_113 fkX12_43 rfl rfl ?_
      refine r_p (pc2 := 117) dX12_heat_116 rfl rfl ?_
      obtain ⟨q4, kk⟩ := kk
      refine r_ia dX12_heat_117 rfl q4 ?_
      refine r_jn (R := rI) (J := fun (KJ1 : Int32 → Int32 × St) (OJ1 : Int32 → Prop) => ∀ (j1_s2 : Int32), OJ1 j1_s2 → tR X 6 mX12_heat 132 [some (.ref (571 : Nat)), some (.int l1), some (.int l2), some (.int v3), some (.int i2), some (.int i3)] [.int j1_s2, .int v3, .ref (597 : Nat)] T (rI (KJ1 j1_s2)).1 (rI (KJ1 j1_s2)).2) kk (fun j1_s2 kk => ?_) (fun KJ1 OJ1 hJ1 kk => ?_)
      · skip
        obtain ⟨q5, kk⟩ := kk
        refine r_ias dX12_heat_132 rfl q5 ?_
        refine r_p (pc2 := 134) dX12_heat_133 rfl rfl ?_
        refine r_get dX12_heat_134 fkX12_88 rfl rfl ?_
        refine r_p (pc2 := 138) dX12_heat_137 rfl rfl ?_
        refine r_p (pc2 := 140) dX12_heat_138 rfl rfl ?_
        refine r_p (pc2 := 141) dX12_heat_140 rfl rfl ?_
        refine r_get dX12_heat_141 fkX12_46 rfl rfl ?_
        refine r_p (pc2 := 145) dX12_heat_144 rfl rfl ?_
        refine r_ia dX12_heat_145 rfl q4 ?_
        refine r_cge dX12_heat_146 rfl (fun c146_7 => ?_) (fun c146_7 => ?_)
        · refine r_ip (R := rI) c146_7 ?_
          have kk := kk.1 c146_7
          refine r_p (pc2 := 155) dX12_heat_154 rfl rfl ?_
          refine r_get dX12_heat_155 fkX12_46 rfl rfl ?_
          refine r_p (pc2 := 159) dX12_heat_158 rfl rfl ?_
          refine r_ia dX12_heat_159 rfl q4 ?_
          refine r_ias dX12_heat_160 rfl q5 ?_
          refine r_nT (R := rI) rfl kk (fun T4 kk => ?_)
          refine r_inc (L2 := [some (.ref (571 : Nat)), some (.int l1), some (.int l2), some (.int (v3 + (-1))), some (.int i2), some (.int i3)]) (y := -1) dX12_heat_161 rfl rfl rfl ?_
          refine r_go dX12_heat_164 rfl ?_
          show tR _ _ _ _ [some (.ref (571 : Nat)), some (.int l1), some (.int l2), some (.int (v3 + (-1))), some (.int i2), some (.int i3)] _ _ _ _
          exact r_le (le_s (le_s (le_s (le_s (le_n (le_n (le_0))))))) (ih (v3 + (-1)) T4 kk)
        · refine r_in (R := rI) c146_7 ?_
          have kk := kk.2 c146_7
          refine r_p (pc2 := 151) dX12_heat_149 rfl rfl ?_
          refine r_go dX12_heat_151 rfl ?_
          refine r_ias dX12_heat_160 rfl q5 ?_
          refine r_inc (L2 := [some (.ref (571 : Nat)), some (.int l1), some (.int l2), some (.int (v3 + (-1))), some (.int i2), some (.int i3)]) (y := -1) dX12_heat_161 rfl rfl rfl ?_
          refine r_go dX12_heat_164 rfl ?_
          show tR _ _ _ _ [some (.ref (571 : Nat)), some (.int l1), some (.int l2), some (.int (v3 + (-1))), some (.int i2), some (.int i3)] _ _ _ _
          exact r_le (le_s (le_s (le_s (le_s (le_n (le_n (le_0))))))) (ih (v3 + (-1)) (sA (sA T 597 (v3 : Int32).toNatClampNeg j1_s2) 598 (v3 : Int32).toNatClampNeg i3) kk)
      refine r_cle dX12_heat_118 rfl (fun c118_8 => ?_) (fun c118_8 => ?_)
      · refine r_ip (R := rI) c118_8 ?_
        have kk := kk.1 c118_8
        refine r_p (pc2 := 127) dX12_heat_126 rfl rfl ?_
        refine r_get dX12_heat_127 fkX12_43 rfl rfl ?_
        refine r_p (pc2 := 131) dX12_heat_130 rfl rfl ?_
        refine r_ia dX12_heat_131 rfl q4 ?_
        show tR _ _ _ _ [some (.ref (571 : Nat)), some (.int l1), some (.int l2), some (.int v3), some (.int i2), some (.int i3)] [.int (T.2.2.1 583 (v3 : Int32).toNatClampNeg), .int v3, .ref (597 : Nat)] _ _ _
        exact (hJ1 (T.2.2.1 583 (v3 : Int32).toNatClampNeg) kk)
      · refine r_in (R := rI) c118_8 ?_
        have kk := kk.2 c118_8
        refine r_p (pc2 := 123) dX12_heat_121 rfl rfl ?_
        refine r_go dX12_heat_123 rfl ?_
        show tR _ _ _ _ [some (.ref (571 : Nat)), some (.int l1), some (.int l2), some (.int v3), some (.int i2), some (.int i3)] [.int i2, .int v3, .ref (597 : Nat)] _ _ _
        exact (hJ1 i2 kk)
def x_m_heat_172 (l1 : Int32) (l2 : Int32) (K : Int32 → Int32 → St → Int32 × St) : Nat → Int32 → Int32 → St → Int32 × St
  | 0, _, _, T => (0, T)
  | f + 1, v3, v4, T => if l2 < v4 then (K v3 v4 T) else (jn (fun (i5 : Int32) => if i5 ≤ (T.2.2.1 597 (v4 : Int32).toNatClampNeg) then (jn (fun (i6 : Int32) => x_m_heat_172 l1 l2 K f i6 (v4 + 1) T) (T.2.2.1 597 (v4 : Int32).toNatClampNeg)) else (x_m_heat_172 l1 l2 K f i5 (v4 + 1) T)) (v3 - (T.2.2.1 575 (4 : Int32).toNatClampNeg)))
def ok_m_heat_172 (l1 : Int32) (l2 : Int32) (Kk : Int32 → Int32 → St → Prop) : Nat → Int32 → Int32 → St → Prop
  | 0, _, _, _ => False
  | f + 1, v3, v4, T => ((l2 < v4 → Kk v3 v4 T) ∧ (¬ l2 < v4 → jn (fun (i5 : Int32) => (vp_in v4 61) ∧ ((i5 ≤ (T.2.2.1 597 (v4 : Int32).toNatClampNeg) → jn (fun (i6 : Int32) => ok_m_heat_172 l1 l2 Kk f i6 (v4 + 1) T) (T.2.2.1 597 (v4 : Int32).toNatClampNeg)) ∧ (¬ i5 ≤ (T.2.2.1 597 (v4 : Int32).toNatClampNeg) → ok_m_heat_172 l1 l2 Kk f i5 (v4 + 1) T))) (v3 - (T.2.2.1 575 (4 : Int32).toNatClampNeg))))
theorem c_m_heat_172 {X : Nat × (Nat → Int32)} (l1 : Int32) (l2 : Int32) {K : Int32 → Int32 → St → Int32 × St} {Kk : Int32 → Int32 → St → Prop} (hk : ∀ (v3 : Int32) (v4 : Int32) (T : St), Kk v3 v4 T → tR X 6 mX12_heat 219 [some (.ref (571 : Nat)), some (.int l1), some (.int l2), some (.int v3), some (.int v4), none] [] T (rI (K v3 v4 T)).1 ((rI (K v3 v4 T)).2)) : ∀ (f : Nat) (v3 : Int32) (v4 : Int32) (T : St), ok_m_heat_172 l1 l2 Kk f v3 v4 T → tR X 6 mX12_heat 172 [some (.ref (571 : Nat)), some (.int l1), some (.int l2), some (.int v3), some (.int v4), none] [] T (rI (x_m_heat_172 l1 l2 K f v3 v4 T)).1 ((rI (x_m_heat_172 l1 l2 K f v3 v4 T)).2) := by
  intro f
  induction f with
  | zero => intro v3 v4 T kk; exact kk.elim
  | succ f ih =>
    intro v3 v4 T kk
    rw [ok_m_heat_172] at kk
    rw [x_m_heat_172]
    refine r_p (pc2 := 174) dX12_heat_172 rfl rfl ?_
    refine r_p (pc2 := 175) dX12_heat_174 rfl rfl ?_
    refine r_cgt dX12_heat_175 rfl (fun c175_9 => ?_) (fun c175_9 => ?_)
    · refine r_ip (R := rI) c175_9 ?_
      have kk := kk.1 c175_9
      show tR _ _ _ _ [some (.ref (571 : Nat)), some (.int l1), some (.int l2), some (.int v3), some (.int v4), none] _ _ _ _
      exact (hk v3 v4 T kk)
    · refine r_in (R := rI) c175_9 ?_
      have kk := kk.2 c175_9
      refine r_p (pc2 := 179) dX12_heat_178 rfl rfl ?_
      refine r_p (pc2 := 180) dX12_heat_179 rfl rfl ?_
      refine r_get dX12_heat_180 fkX12_19 rfl rfl ?_
      refine r_ci (x := 4) dX12_heat_183 rfl ?_
      refine r_ia dX12_heat_184 rfl (in_c (by decide)) ?_
      refine r_p (pc2 := 186) dX12_heat_185 rfl rfl ?_
      refine r_nI (R := rI) rfl kk (fun i5 kk => ?_)
      refine r_p (pc2 := 188) (L2 := [some (.ref (571 : Nat)), some (.int l1), some (.int l2), some (.int v3), some (.int v4), some (.int i5)]) dX12_heat_186 rfl rfl ?_
      refine r_p (pc2 := 190) dX12_heat_188 rfl rfl ?_
      refine r_p (pc2 := 191) dX12_heat_190 rfl rfl ?_
      refine r_get dX12_heat_191 fkX12_85 rfl rfl ?_
      refine r_p (pc2 := 196) dX12_heat_194 rfl rfl ?_
      obtain ⟨q6, kk⟩ := kk
      refine r_ia dX12_heat_196 rfl q6 ?_
      refine r_cle dX12_heat_197 rfl (fun c197_10 => ?_) (fun c197_10 => ?_)
      · refine r_ip (R := rI) c197_10 ?_
        have kk := kk.1 c197_10
        refine r_p (pc2 := 206) dX12_heat_205 rfl rfl ?_
        refine r_get dX12_heat_206 fkX12_85 rfl rfl ?_
        refine r_p (pc2 := 211) dX12_heat_209 rfl rfl ?_
        refine r_ia dX12_heat_211 rfl q6 ?_
        refine r_nI (R := rI) rfl kk (fun i6 kk => ?_)
        refine r_p (pc2 := 213) (L2 := [some (.ref (571 : Nat)), some (.int l1), some (.int l2), some (.int i6), some (.int v4), some (.int i5)]) dX12_heat_212 rfl rfl ?_
        refine r_inc (L2 := [some (.ref (571 : Nat)), some (.int l1), some (.int l2), some (.int i6), some (.int (v4 + 1)), some (.int i5)]) (y := 1) dX12_heat_213 rfl rfl rfl ?_
        refine r_go dX12_heat_216 rfl ?_
        show tR _ _ _ _ [some (.ref (571 : Nat)), some (.int l1), some (.int l2), some (.int i6), some (.int (v4 + 1)), some (.int i5)] _ _ _ _
        exact r_le (le_s (le_s (le_s (le_s (le_s (le_n (le_0))))))) (ih i6 (v4 + 1) T kk)
      · refine r_in (R := rI) c197_10 ?_
        have kk := kk.2 c197_10
        refine r_p (pc2 := 202) dX12_heat_200 rfl rfl ?_
        refine r_go dX12_heat_202 rfl ?_
        refine r_p (pc2 := 213) (L2 := [some (.ref (571 : Nat)), some (.int l1), some (.int l2), some (.int i5), some (.int v4), some (.int i5)]) dX12_heat_212 rfl rfl ?_
        refine r_inc (L2 := [some (.ref (571 : Nat)), some (.int l1), some (.int l2), some (.int i5), some (.int (v4 + 1)), some (.int i5)]) (y := 1) dX12_heat_213 rfl rfl rfl ?_
        refine r_go dX12_heat_216 rfl ?_
        show tR _ _ _ _ [some (.ref (571 : Nat)), some (.int l1), some (.int l2), some (.int i5), some (.int (v4 + 1)), some (.int i5)] _ _ _ _
        exact r_le (le_s (le_s (le_s (le_s (le_s (le_n (le_0))))))) (ih i5 (v4 + 1) T kk)
def x_m_heat (T : St) (p0 : Int32) (p1 : Int32) : Int32 × St := if (x_m_isBy (sF T 571 0 0) p0) = 0 then ((-1000001), sF T 571 0 0) else (if (x_m_isMinute (sF T 571 0 0) p1) = 0 then ((-1000001), sF T 571 0 0) else (if ((sF T 571 0 0).1 571 7) = 0 then ((-1000002), sF T 571 0 0) else (if ((x_m_know (sF T 571 0 0) p0).1) = 0 then ((-1000000), (x_m_know (sF T 571 0 0) p0).2) else (jn (fun (T1 : St) => x_m_heat_67 p0 p1 (fun (w1_3 : Int32) (T201 : St) => x_m_heat_172 p0 p1 (fun (w2_3 : Int32) (w2_4 : Int32) (T202 : St) => (w2_3, T202)) 1000 0 0 T201) 1000 59 T1) (sA (sA (x_m_layPlan ((x_m_know (sF T 571 0 0) p0).2)) 597 (60 : Int32).toNatClampNeg 0) 598 (60 : Int32).toNatClampNeg 9)))))
def ok_m_heat (T : St) (p0 : Int32) (p1 : Int32) : Prop := (¬ (x_m_isBy (sF T 571 0 0) p0) = 0 → (¬ (x_m_isMinute (sF T 571 0 0) p1) = 0 → (¬ ((sF T 571 0 0).1 571 7) = 0 → (ok_m_know (sF T 571 0 0) p0) ∧ (¬ ((x_m_know (sF T 571 0 0) p0).1) = 0 → (ok_m_layPlan ((x_m_know (sF T 571 0 0) p0).2)) ∧ jn (fun (T1 : St) => ok_m_heat_67 p0 p1 (fun (w1_3 : Int32) (T201 : St) => ok_m_heat_172 p0 p1 (fun (w2_3 : Int32) (w2_4 : Int32) (T202 : St) => True) 1000 0 0 T201) 1000 59 T1) (sA (sA (x_m_layPlan ((x_m_know (sF T 571 0 0) p0).2)) 597 (60 : Int32).toNatClampNeg 0) 598 (60 : Int32).toNatClampNeg 9)))))
theorem c_m_heat {X : Nat × (Nat → Int32)} {T : St} (p0 : Int32) (p1 : Int32) (kk : ok_m_heat T p0 p1) : tC X 7 mX12_heat [.ref (571 : Nat), .int p0, .int p1] T (some (.int (x_m_heat T p0 p1).1)) ((x_m_heat T p0 p1).2) := by
  unfold ok_m_heat at kk
  refine tC_orI (L := [some (.ref (571 : Nat)), some (.int p0), some (.int p1), none, none, none]) (x_m_heat T p0 p1) rfl ?_
  unfold x_m_heat
  refine r_p (pc2 := 1) dX12_heat_0 rfl rfl ?_
  refine r_ci (x := 0) dX12_heat_1 rfl ?_
  refine r_put dX12_heat_2 fkX12_101 rfl rfl rfl (Nat.le_of_ble_eq_true rfl) rfl rfl ?_
  refine r_p (pc2 := 6) dX12_heat_5 rfl rfl ?_
  refine r_cs (d1 := 2) dX12_heat_6 csX12_318 rfl rfl (Nat.le_of_ble_eq_true rfl) (Nat.le_of_ble_eq_true rfl) (Nat.le_of_ble_eq_true rfl) (c_m_isBy p0) ?_
  refine r_ieq dX12_heat_9 rfl (fun c9_1 => ?_) (fun c9_1 => ?_)
  · refine r_ip (R := rI) c9_1 ?_
    refine r_k dX12_heat_19 kkX12_121 ?_
    exact r_qI dX12_heat_21 rfl rfl rfl rfl
  · refine r_in (R := rI) c9_1 ?_
    have kk := kk c9_1
    refine r_p (pc2 := 13) dX12_heat_12 rfl rfl ?_
    refine r_cs (d1 := 2) dX12_heat_13 csX12_254 rfl rfl (Nat.le_of_ble_eq_true rfl) (Nat.le_of_ble_eq_true rfl) (Nat.le_of_ble_eq_true rfl) (c_m_isMinute p1) ?_
    refine r_ine dX12_heat_16 rfl (fun c16_2 => ?_) (fun c16_2 => ?_)
    · refine r_in (R := rI) c16_2 ?_
      have kk := kk c16_2
      refine r_p (pc2 := 23) dX12_heat_22 rfl rfl ?_
      refine r_get dX12_heat_23 fkX12_221 rfl rfl ?_
      refine r_ine dX12_heat_26 rfl (fun c26_3 => ?_) (fun c26_3 => ?_)
      · refine r_in (R := rI) c26_3 ?_
        have kk := kk c26_3
        refine r_p (pc2 := 33) dX12_heat_32 rfl rfl ?_
        refine r_p (pc2 := 34) dX12_heat_33 rfl rfl ?_
        obtain ⟨q1, kk⟩ := kk
        refine r_cv (d1 := 6) dX12_heat_34 cvX12_321 rfl rfl rfl rfl (Nat.le_of_ble_eq_true rfl) (Nat.le_of_ble_eq_true rfl) (Nat.le_of_ble_eq_true rfl) (c_m_know p0 q1) ?_
        refine r_ine dX12_heat_37 rfl (fun c37_4 => ?_) (fun c37_4 => ?_)
        · refine r_in (R := rI) c37_4 ?_
          have kk := kk c37_4
          refine r_p (pc2 := 44) dX12_heat_43 rfl rfl ?_
          obtain ⟨q2, kk⟩ := kk
          refine r_cv (d1 := 4) dX12_heat_44 cvX12_343 rfl rfl rfl rfl (Nat.le_of_ble_eq_true rfl) (Nat.le_of_ble_eq_true rfl) (Nat.le_of_ble_eq_true rfl) (c_m_layPlan  q2) ?_
          refine r_p (pc2 := 48) dX12_heat_47 rfl rfl ?_
          refine r_get dX12_heat_48 fkX12_85 rfl rfl ?_
          refine r_cb (x := 60) dX12_heat_51 rfl ?_
          refine r_ci (x := 0) dX12_heat_53 rfl ?_
          refine r_ias dX12_heat_54 rfl (in_c (by decide)) ?_
          refine r_p (pc2 := 56) dX12_heat_55 rfl rfl ?_
          refine r_get dX12_heat_56 fkX12_88 rfl rfl ?_
          refine r_cb (x := 60) dX12_heat_59 rfl ?_
          refine r_cb (x := 9) dX12_heat_61 rfl ?_
          refine r_ias dX12_heat_63 rfl (in_c (by decide)) ?_
          refine r_nT (R := rI) rfl kk (fun T1 kk => ?_)
          refine r_cb (x := 59) dX12_heat_64 rfl ?_
          refine r_p (pc2 := 67) (L2 := [some (.ref (571 : Nat)), some (.int p0), some (.int p1), some (.int 59), none, none]) dX12_heat_66 rfl rfl ?_
          show tR _ _ _ _ [some (.ref (571 : Nat)), some (.int p0), some (.int p1), some (.int 59), none, none] _ _ _ _
          refine (c_m_heat_67 p0 p1 (fun w1_3 T201 kk => ?_) 1000 59 T1 kk)
          · skip
            refine r_ci (x := 0) dX12_heat_167 rfl ?_
            refine r_p (pc2 := 169) (L2 := [some (.ref (571 : Nat)), some (.int p0), some (.int p1), some (.int 0), none, none]) dX12_heat_168 rfl rfl ?_
            refine r_ci (x := 0) dX12_heat_169 rfl ?_
            refine r_p (pc2 := 172) (L2 := [some (.ref (571 : Nat)), some (.int p0), some (.int p1), some (.int 0), some (.int 0), none]) dX12_heat_170 rfl rfl ?_
            show tR _ _ _ _ [some (.ref (571 : Nat)), some (.int p0), some (.int p1), some (.int 0), some (.int 0), none] _ _ _ _
            refine (c_m_heat_172 p0 p1 (fun w2_3 w2_4 T202 kk => ?_) 1000 0 0 T201 kk)
            · skip
              refine r_p (pc2 := 220) dX12_heat_219 rfl rfl ?_
              exact r_qI dX12_heat_220 rfl rfl rfl rfl
        · refine r_ip (R := rI) c37_4 ?_
          refine r_k dX12_heat_40 kkX12_137 ?_
          exact r_qI dX12_heat_42 rfl rfl rfl rfl
      · refine r_ip (R := rI) c26_3 ?_
        refine r_k dX12_heat_29 kkX12_253 ?_
        exact r_qI dX12_heat_31 rfl rfl rfl rfl
    · refine r_ip (R := rI) c16_2 ?_
      refine r_k dX12_heat_19 kkX12_121 ?_
      exact r_qI dX12_heat_21 rfl rfl rfl rfl
def x_m_wanted (T : St) (p0 : Int32) (p1 : Int32) (p2 : Int32) : Int32 × St := if (x_m_isBy (sF T 571 0 0) p0) = 0 then ((-1000001), sF T 571 0 0) else (if (x_m_isMinute (sF T 571 0 0) p1) = 0 then ((-1000001), sF T 571 0 0) else (if (x_m_in (sF T 571 0 0) ((p2 : Int32).toInt64) 0 3) = 0 then ((-1000001), sF T 571 0 0) else (if ((sF T 571 0 0).1 571 7) = 0 then ((-1000002), sF T 571 0 0) else (if ((x_m_know (sF T 571 0 0) p0).1) = 0 then ((-1000000), (x_m_know (sF T 571 0 0) p0).2) else (if p2 = 0 then ((x_m_layPlan ((x_m_know (sF T 571 0 0) p0).2)).2.2.1 581 (p1 : Int32).toNatClampNeg, x_m_layPlan ((x_m_know (sF T 571 0 0) p0).2)) else (if p2 = 1 then ((x_m_layPlan ((x_m_know (sF T 571 0 0) p0).2)).2.2.1 579 (p1 : Int32).toNatClampNeg, x_m_layPlan ((x_m_know (sF T 571 0 0) p0).2)) else (if p2 = 2 then ((x_m_layPlan ((x_m_know (sF T 571 0 0) p0).2)).2.2.1 580 (p1 : Int32).toNatClampNeg, x_m_layPlan ((x_m_know (sF T 571 0 0) p0).2)) else ((x_m_layPlan ((x_m_know (sF T 571 0 0) p0).2)).2.2.1 582 (p1 : Int32).toNatClampNeg, x_m_layPlan ((x_m_know (sF T 571 0 0) p0).2)))))))))
def ok_m_wanted (T : St) (p0 : Int32) (p1 : Int32) (p2 : Int32) : Prop := (¬ (x_m_isBy (sF T 571 0 0) p0) = 0 → (¬ (x_m_isMinute (sF T 571 0 0) p1) = 0 → (¬ (x_m_in (sF T 571 0 0) ((p2 : Int32).toInt64) 0 3) = 0 → (¬ ((sF T 571 0 0).1 571 7) = 0 → (ok_m_know (sF T 571 0 0) p0) ∧ (¬ ((x_m_know (sF T 571 0 0) p0).1) = 0 → (ok_m_layPlan ((x_m_know (sF T 571 0 0) p0).2)) ∧ ((p2 = 0 → (vp_in p1 300) ∧ True) ∧ (¬ p2 = 0 → ((p2 = 1 → (vp_in p1 300) ∧ True) ∧ (¬ p2 = 1 → ((p2 = 2 → (vp_in p1 300) ∧ True) ∧ (¬ p2 = 2 → (vp_in p1 300) ∧ True)))))))))))
theorem c_m_wanted {X : Nat × (Nat → Int32)} {T : St} (p0 : Int32) (p1 : Int32) (p2 : Int32) (kk : ok_m_wanted T p0 p1 p2) : tC X 7 mX12_wanted [.ref (571 : Nat), .int p0, .int p1, .int p2] T (some (.int (x_m_wanted T p0 p1 p2).1)) ((x_m_wanted T p0 p1 p2).2) := by
  unfold ok_m_wanted at kk
  refine tC_orI (L := [some (.ref (571 : Nat)), some (.int p0), some (.int p1), some (.int p2)]) (x_m_wanted T p0 p1 p2) rfl ?_
  unfold x_m_wanted
  refine r_p (pc2 := 1) dX12_wanted_0 rfl rfl ?_
  refine r_ci (x := 0) dX12_wanted_1 rfl ?_
  refine r_put dX12_wanted_2 fkX12_101 rfl rfl rfl (Nat.le_of_ble_eq_true rfl) rfl rfl ?_
  refine r_p (pc2 := 6) dX12_wanted_5 rfl rfl ?_
  refine r_cs (d1 := 2) dX12_wanted_6 csX12_318 rfl rfl (Nat.le_of_ble_eq_true rfl) (Nat.le_of_ble_eq_true rfl) (Nat.le_of_ble_eq_true rfl) (c_m_isBy p0) ?_
  refine r_ieq dX12_wanted_9 rfl (fun c9_1 => ?_) (fun c9_1 => ?_)
  · refine r_ip (R := rI) c9_1 ?_
    refine r_k dX12_wanted_31 kkX12_121 ?_
    exact r_qI dX12_wanted_33 rfl rfl rfl rfl
  · refine r_in (R := rI) c9_1 ?_
    have kk := kk c9_1
    refine r_p (pc2 := 13) dX12_wanted_12 rfl rfl ?_
    refine r_cs (d1 := 2) dX12_wanted_13 csX12_254 rfl rfl (Nat.le_of_ble_eq_true rfl) (Nat.le_of_ble_eq_true rfl) (Nat.le_of_ble_eq_true rfl) (c_m_isMinute p1) ?_
    refine r_ieq dX12_wanted_16 rfl (fun c16_2 => ?_) (fun c16_2 => ?_)
    · refine r_ip (R := rI) c16_2 ?_
      refine r_k dX12_wanted_31 kkX12_121 ?_
      exact r_qI dX12_wanted_33 rfl rfl rfl rfl
    · refine r_in (R := rI) c16_2 ?_
      have kk := kk c16_2
      refine r_p (pc2 := 20) dX12_wanted_19 rfl rfl ?_
      refine r_p (pc2 := 21) dX12_wanted_20 rfl rfl ?_
      refine r_cl (x := 0) dX12_wanted_21 rfl ?_
      refine r_kl dX12_wanted_22 klX12_346 ?_
      refine r_cs (d1 := 1) dX12_wanted_25 csX12_111 rfl rfl (Nat.le_of_ble_eq_true rfl) (Nat.le_of_ble_eq_true rfl) (Nat.le_of_ble_eq_true rfl) (c_m_in ((p2 : Int32).toInt64) 0 3) ?_
      refine r_ine dX12_wanted_28 rfl (fun c28_3 => ?_) (fun c28_3 => ?_)
      · refine r_in (R := rI) c28_3 ?_
        have kk := kk c28_3
        refine r_p (pc2 := 35) dX12_wanted_34 rfl rfl ?_
        refine r_get dX12_wanted_35 fkX12_221 rfl rfl ?_
        refine r_ine dX12_wanted_38 rfl (fun c38_4 => ?_) (fun c38_4 => ?_)
        · refine r_in (R := rI) c38_4 ?_
          have kk := kk c38_4
          refine r_p (pc2 := 45) dX12_wanted_44 rfl rfl ?_
          refine r_p (pc2 := 46) dX12_wanted_45 rfl rfl ?_
          obtain ⟨q1, kk⟩ := kk
          refine r_cv (d1 := 6) dX12_wanted_46 cvX12_321 rfl rfl rfl rfl (Nat.le_of_ble_eq_true rfl) (Nat.le_of_ble_eq_true rfl) (Nat.le_of_ble_eq_true rfl) (c_m_know p0 q1) ?_
          refine r_ine dX12_wanted_49 rfl (fun c49_5 => ?_) (fun c49_5 => ?_)
          · refine r_in (R := rI) c49_5 ?_
            have kk := kk c49_5
            refine r_p (pc2 := 56) dX12_wanted_55 rfl rfl ?_
            obtain ⟨q2, kk⟩ := kk
            refine r_cv (d1 := 4) dX12_wanted_56 cvX12_343 rfl rfl rfl rfl (Nat.le_of_ble_eq_true rfl) (Nat.le_of_ble_eq_true rfl) (Nat.le_of_ble_eq_true rfl) (c_m_layPlan  q2) ?_
            refine r_p (pc2 := 60) dX12_wanted_59 rfl rfl ?_
            refine r_ine dX12_wanted_60 rfl (fun c60_6 => ?_) (fun c60_6 => ?_)
            · refine r_in (R := rI) c60_6 ?_
              have kk := kk.2 c60_6
              refine r_p (pc2 := 73) dX12_wanted_72 rfl rfl ?_
              refine r_ci (x := 1) dX12_wanted_73 rfl ?_
              refine r_cne dX12_wanted_74 rfl (fun c74_7 => ?_) (fun c74_7 => ?_)
              · refine r_in (R := rI) c74_7 ?_
                have kk := kk.2 c74_7
                refine r_p (pc2 := 87) dX12_wanted_86 rfl rfl ?_
                refine r_ci (x := 2) dX12_wanted_87 rfl ?_
                refine r_cne dX12_wanted_88 rfl (fun c88_8 => ?_) (fun c88_8 => ?_)
                · refine r_in (R := rI) c88_8 ?_
                  have kk := kk.2 c88_8
                  refine r_p (pc2 := 101) dX12_wanted_100 rfl rfl ?_
                  refine r_get dX12_wanted_101 fkX12_40 rfl rfl ?_
                  refine r_p (pc2 := 105) dX12_wanted_104 rfl rfl ?_
                  obtain ⟨q3, kk⟩ := kk
                  refine r_ia dX12_wanted_105 rfl q3 ?_
                  exact r_qI dX12_wanted_106 rfl rfl rfl rfl
                · refine r_ip (R := rI) c88_8 ?_
                  have kk := kk.1 c88_8
                  refine r_p (pc2 := 92) dX12_wanted_91 rfl rfl ?_
                  refine r_get dX12_wanted_92 fkX12_34 rfl rfl ?_
                  refine r_p (pc2 := 96) dX12_wanted_95 rfl rfl ?_
                  obtain ⟨q4, kk⟩ := kk
                  refine r_ia dX12_wanted_96 rfl q4 ?_
                  refine r_go dX12_wanted_97 rfl ?_
                  exact r_qI dX12_wanted_106 rfl rfl rfl rfl
              · refine r_ip (R := rI) c74_7 ?_
                have kk := kk.1 c74_7
                refine r_p (pc2 := 78) dX12_wanted_77 rfl rfl ?_
                refine r_get dX12_wanted_78 fkX12_31 rfl rfl ?_
                refine r_p (pc2 := 82) dX12_wanted_81 rfl rfl ?_
                obtain ⟨q5, kk⟩ := kk
                refine r_ia dX12_wanted_82 rfl q5 ?_
                refine r_go dX12_wanted_83 rfl ?_
                exact r_qI dX12_wanted_106 rfl rfl rfl rfl
            · refine r_ip (R := rI) c60_6 ?_
              have kk := kk.1 c60_6
              refine r_p (pc2 := 64) dX12_wanted_63 rfl rfl ?_
              refine r_get dX12_wanted_64 fkX12_37 rfl rfl ?_
              refine r_p (pc2 := 68) dX12_wanted_67 rfl rfl ?_
              obtain ⟨q6, kk⟩ := kk
              refine r_ia dX12_wanted_68 rfl q6 ?_
              refine r_go dX12_wanted_69 rfl ?_
              exact r_qI dX12_wanted_106 rfl rfl rfl rfl
          · refine r_ip (R := rI) c49_5 ?_
            refine r_k dX12_wanted_52 kkX12_137 ?_
            exact r_qI dX12_wanted_54 rfl rfl rfl rfl
        · refine r_ip (R := rI) c38_4 ?_
          refine r_k dX12_wanted_41 kkX12_253 ?_
          exact r_qI dX12_wanted_43 rfl rfl rfl rfl
      · refine r_ip (R := rI) c28_3 ?_
        refine r_k dX12_wanted_31 kkX12_121 ?_
        exact r_qI dX12_wanted_33 rfl rfl rfl rfl
def x_m_slack_53 (l1 : Int32) (l2 : Int32) (K : Int32 → Int32 → St → Int32 × St) : Nat → Int32 → Int32 → St → Int32 × St
  | 0, _, _, T => (0, T)
  | f + 1, v3, v4, T => if v4 = 0 then (K v3 v4 T) else (jn (fun (T1 : St) => jn (fun (KJ1 : Int32 → Int32 × St) => if ((x_m_judged (sA T 595 (l2 : Int32).toNatClampNeg ((T.2.2.1 595 (l2 : Int32).toNatClampNeg) + 1)) l1).1) = 0 then (KJ1 1) else (KJ1 0)) (fun (j1_s0 : Int32) => if j1_s0 = 0 then (x_m_slack_53 l1 l2 K f (v3 + 0) j1_s0 T1) else (x_m_slack_53 l1 l2 K f (v3 + 1) j1_s0 T1))) ((x_m_judged (sA T 595 (l2 : Int32).toNatClampNeg ((T.2.2.1 595 (l2 : Int32).toNatClampNeg) + 1)) l1).2))
def ok_m_slack_53 (l1 : Int32) (l2 : Int32) (Kk : Int32 → Int32 → St → Prop) : Nat → Int32 → Int32 → St → Prop
  | 0, _, _, _ => False
  | f + 1, v3, v4, T => ((v4 = 0 → Kk v3 v4 T) ∧ (¬ v4 = 0 → (vp_in l2 12) ∧ (ok_m_judged (sA T 595 (l2 : Int32).toNatClampNeg ((T.2.2.1 595 (l2 : Int32).toNatClampNeg) + 1)) l1) ∧ jn (fun (T1 : St) => jn (fun (OJ1 : Int32 → Prop) => ((((x_m_judged (sA T 595 (l2 : Int32).toNatClampNeg ((T.2.2.1 595 (l2 : Int32).toNatClampNeg) + 1)) l1).1) = 0 → OJ1 1) ∧ (¬ ((x_m_judged (sA T 595 (l2 : Int32).toNatClampNeg ((T.2.2.1 595 (l2 : Int32).toNatClampNeg) + 1)) l1).1) = 0 → OJ1 0))) (fun (j1_s0 : Int32) => ((j1_s0 = 0 → ok_m_slack_53 l1 l2 Kk f (v3 + 0) j1_s0 T1) ∧ (¬ j1_s0 = 0 → ok_m_slack_53 l1 l2 Kk f (v3 + 1) j1_s0 T1)))) ((x_m_judged (sA T 595 (l2 : Int32).toNatClampNeg ((T.2.2.1 595 (l2 : Int32).toNatClampNeg) + 1)) l1).2)))
theorem c_m_slack_53 {X : Nat × (Nat → Int32)} (l1 : Int32) (l2 : Int32) {K : Int32 → Int32 → St → Int32 × St} {Kk : Int32 → Int32 → St → Prop} (hk : ∀ (v3 : Int32) (v4 : Int32) (T : St), Kk v3 v4 T → tR X 6 mX12_slack 99 [some (.ref (571 : Nat)), some (.int l1), some (.int l2), some (.int v3), some (.int v4)] [] T (rI (K v3 v4 T)).1 ((rI (K v3 v4 T)).2)) : ∀ (f : Nat) (v3 : Int32) (v4 : Int32) (T : St), ok_m_slack_53 l1 l2 Kk f v3 v4 T → tR X 6 mX12_slack 53 [some (.ref (571 : Nat)), some (.int l1), some (.int l2), some (.int v3), some (.int v4)] [] T (rI (x_m_slack_53 l1 l2 K f v3 v4 T)).1 ((rI (x_m_slack_53 l1 l2 K f v3 v4 T)).2) := by
  intro f
  induction f with
  | zero => intro v3 v4 T kk; exact kk.elim
  | succ f ih =>
    intro v3 v4 T kk
    rw [ok_m_slack_53] at kk
    rw [x_m_slack_53]
    refine r_p (pc2 := 55) dX12_slack_53 rfl rfl ?_
    refine r_ieq dX12_slack_55 rfl (fun c55_6 => ?_) (fun c55_6 => ?_)
    · refine r_ip (R := rI) c55_6 ?_
      have kk := kk.1 c55_6
      show tR _ _ _ _ [some (.ref (571 : Nat)), some (.int l1), some (.int l2), some (.int v3), some (.int v4)] _ _ _ _
      exact (hk v3 v4 T kk)
    · refine r_in (R := rI) c55_6 ?_
      have kk := kk.2 c55_6
      refine r_p (pc2 := 59) dX12_slack_58 rfl rfl ?_
      refine r_get dX12_slack_59 fkX12_79 rfl rfl ?_
      refine r_p (pc2 := 63) dX12_slack_62 rfl rfl ?_
      refine r_p (pc2 := 64) dX12_slack_63 rfl rfl ?_
      obtain ⟨q2, kk⟩ := kk
      refine r_ia dX12_slack_64 rfl q2 ?_
      refine r_ci (x := 1) dX12_slack_65 rfl ?_
      refine r_p (pc2 := 67) dX12_slack_66 rfl rfl ?_
      refine r_ias dX12_slack_67 rfl q2 ?_
      refine r_p (pc2 := 69) dX12_slack_68 rfl rfl ?_
      refine r_p (pc2 := 70) dX12_slack_69 rfl rfl ?_
      obtain ⟨q3, kk⟩ := kk
      refine r_cv (d1 := 4) dX12_slack_70 cvX12_340 rfl rfl rfl rfl (Nat.le_of_ble_eq_true rfl) (Nat.le_of_ble_eq_true rfl) (Nat.le_of_ble_eq_true rfl) (c_m_judged l1 q3) ?_
      refine r_nT (R := rI) rfl kk (fun T1 kk => ?_)
      refine r_jn (R := rI) (J := fun (KJ1 : Int32 → Int32 × St) (OJ1 : Int32 → Prop) => ∀ (j1_s0 : Int32), OJ1 j1_s0 → tR X 6 mX12_slack 81 [some (.ref (571 : Nat)), some (.int l1), some (.int l2), some (.int v3), some (.int v4)] [.int j1_s0] T1 (rI (KJ1 j1_s0)).1 (rI (KJ1 j1_s0)).2) kk (fun j1_s0 kk => ?_) (fun KJ1 OJ1 hJ1 kk => ?_)
      · skip
        refine r_p (pc2 := 83) (L2 := [some (.ref (571 : Nat)), some (.int l1), some (.int l2), some (.int v3), some (.int j1_s0)]) dX12_slack_81 rfl rfl ?_
        refine r_p (pc2 := 84) dX12_slack_83 rfl rfl ?_
        refine r_p (pc2 := 86) dX12_slack_84 rfl rfl ?_
        refine r_ieq dX12_slack_86 rfl (fun c86_8 => ?_) (fun c86_8 => ?_)
        · refine r_ip (R := rI) c86_8 ?_
          have kk := kk.1 c86_8
          refine r_ci (x := 0) dX12_slack_93 rfl ?_
          refine r_p (pc2 := 95) dX12_slack_94 rfl rfl ?_
          refine r_p (pc2 := 96) (L2 := [some (.ref (571 : Nat)), some (.int l1), some (.int l2), some (.int (v3 + 0)), some (.int j1_s0)]) dX12_slack_95 rfl rfl ?_
          refine r_go dX12_slack_96 rfl ?_
          show tR _ _ _ _ [some (.ref (571 : Nat)), some (.int l1), some (.int l2), some (.int (v3 + 0)), some (.int j1_s0)] _ _ _ _
          exact (ih (v3 + 0) j1_s0 T1 kk)
        · refine r_in (R := rI) c86_8 ?_
          have kk := kk.2 c86_8
          refine r_ci (x := 1) dX12_slack_89 rfl ?_
          refine r_go dX12_slack_90 rfl ?_
          refine r_p (pc2 := 95) dX12_slack_94 rfl rfl ?_
          refine r_p (pc2 := 96) (L2 := [some (.ref (571 : Nat)), some (.int l1), some (.int l2), some (.int (v3 + 1)), some (.int j1_s0)]) dX12_slack_95 rfl rfl ?_
          refine r_go dX12_slack_96 rfl ?_
          show tR _ _ _ _ [some (.ref (571 : Nat)), some (.int l1), some (.int l2), some (.int (v3 + 1)), some (.int j1_s0)] _ _ _ _
          exact (ih (v3 + 1) j1_s0 T1 kk)
      refine r_ine dX12_slack_73 rfl (fun c73_9 => ?_) (fun c73_9 => ?_)
      · refine r_in (R := rI) c73_9 ?_
        have kk := kk.2 c73_9
        refine r_ci (x := 0) dX12_slack_80 rfl ?_
        show tR _ _ _ _ [some (.ref (571 : Nat)), some (.int l1), some (.int l2), some (.int v3), some (.int v4)] [.int 0] _ _ _
        exact (hJ1 0 kk)
      · refine r_ip (R := rI) c73_9 ?_
        have kk := kk.1 c73_9
        refine r_ci (x := 1) dX12_slack_76 rfl ?_
        refine r_go dX12_slack_77 rfl ?_
        show tR _ _ _ _ [some (.ref (571 : Nat)), some (.int l1), some (.int l2), some (.int v3), some (.int v4)] [.int 1] _ _ _
        exact (hJ1 1 kk)
def x_m_slack (T : St) (p0 : Int32) (p1 : Int32) : Int32 × St := if (x_m_isBy (sF T 571 0 0) p0) = 0 then ((-1000001), sF T 571 0 0) else (if 0 ≤ p1 then (if ((sF T 571 0 0).1 571 7) = 0 then ((-1000002), sF T 571 0 0) else (if ((x_m_know (sF T 571 0 0) p0).1) = 0 then ((-1000000), (x_m_know (sF T 571 0 0) p0).2) else (if p1 < (((x_m_know (sF T 571 0 0) p0).2).1 571 39) then (x_m_slack_53 p0 p1 (fun (w1_3 : Int32) (w1_4 : Int32) (T201 : St) => (w1_3, T201)) 1000 0 1 ((x_m_know (sF T 571 0 0) p0).2)) else ((-1000000), (x_m_know (sF T 571 0 0) p0).2)))) else ((-1000001), sF T 571 0 0))
def ok_m_slack (T : St) (p0 : Int32) (p1 : Int32) : Prop := (¬ (x_m_isBy (sF T 571 0 0) p0) = 0 → (0 ≤ p1 → (¬ ((sF T 571 0 0).1 571 7) = 0 → (ok_m_know (sF T 571 0 0) p0) ∧ (¬ ((x_m_know (sF T 571 0 0) p0).1) = 0 → (p1 < (((x_m_know (sF T 571 0 0) p0).2).1 571 39) → ok_m_slack_53 p0 p1 (fun (w1_3 : Int32) (w1_4 : Int32) (T201 : St) => True) 1000 0 1 ((x_m_know (sF T 571 0 0) p0).2))))))
theorem c_m_slack {X : Nat × (Nat → Int32)} {T : St} (p0 : Int32) (p1 : Int32) (kk : ok_m_slack T p0 p1) : tC X 7 mX12_slack [.ref (571 : Nat), .int p0, .int p1] T (some (.int (x_m_slack T p0 p1).1)) ((x_m_slack T p0 p1).2) := by
  unfold ok_m_slack at kk
  refine tC_orI (L := [some (.ref (571 : Nat)), some (.int p0), some (.int p1), none, none]) (x_m_slack T p0 p1) rfl ?_
  unfold x_m_slack
  refine r_p (pc2 := 1) dX12_slack_0 rfl rfl ?_
  refine r_ci (x := 0) dX12_slack_1 rfl ?_
  refine r_put dX12_slack_2 fkX12_101 rfl rfl rfl (Nat.le_of_ble_eq_true rfl) rfl rfl ?_
  refine r_p (pc2 := 6) dX12_slack_5 rfl rfl ?_
  refine r_cs (d1 := 2) dX12_slack_6 csX12_318 rfl rfl (Nat.le_of_ble_eq_true rfl) (Nat.le_of_ble_eq_true rfl) (Nat.le_of_ble_eq_true rfl) (c_m_isBy p0) ?_
  refine r_ieq dX12_slack_9 rfl (fun c9_1 => ?_) (fun c9_1 => ?_)
  · refine r_ip (R := rI) c9_1 ?_
    refine r_k dX12_slack_16 kkX12_121 ?_
    exact r_qI dX12_slack_18 rfl rfl rfl rfl
  · refine r_in (R := rI) c9_1 ?_
    have kk := kk c9_1
    refine r_p (pc2 := 13) dX12_slack_12 rfl rfl ?_
    refine r_ige dX12_slack_13 rfl (fun c13_2 => ?_) (fun c13_2 => ?_)
    · refine r_ip (R := rI) c13_2 ?_
      have kk := kk c13_2
      refine r_p (pc2 := 20) dX12_slack_19 rfl rfl ?_
      refine r_get dX12_slack_20 fkX12_221 rfl rfl ?_
      refine r_ine dX12_slack_23 rfl (fun c23_3 => ?_) (fun c23_3 => ?_)
      · refine r_in (R := rI) c23_3 ?_
        have kk := kk c23_3
        refine r_p (pc2 := 30) dX12_slack_29 rfl rfl ?_
        refine r_p (pc2 := 31) dX12_slack_30 rfl rfl ?_
        obtain ⟨q1, kk⟩ := kk
        refine r_cv (d1 := 6) dX12_slack_31 cvX12_321 rfl rfl rfl rfl (Nat.le_of_ble_eq_true rfl) (Nat.le_of_ble_eq_true rfl) (Nat.le_of_ble_eq_true rfl) (c_m_know p0 q1) ?_
        refine r_ieq dX12_slack_34 rfl (fun c34_4 => ?_) (fun c34_4 => ?_)
        · refine r_ip (R := rI) c34_4 ?_
          refine r_k dX12_slack_45 kkX12_137 ?_
          exact r_qI dX12_slack_47 rfl rfl rfl rfl
        · refine r_in (R := rI) c34_4 ?_
          have kk := kk c34_4
          refine r_p (pc2 := 38) dX12_slack_37 rfl rfl ?_
          refine r_p (pc2 := 39) dX12_slack_38 rfl rfl ?_
          refine r_get dX12_slack_39 fkX12_302 rfl rfl ?_
          refine r_clt dX12_slack_42 rfl (fun c42_5 => ?_) (fun c42_5 => ?_)
          · refine r_ip (R := rI) c42_5 ?_
            have kk := kk c42_5
            refine r_ci (x := 0) dX12_slack_48 rfl ?_
            refine r_p (pc2 := 50) (L2 := [some (.ref (571 : Nat)), some (.int p0), some (.int p1), some (.int 0), none]) dX12_slack_49 rfl rfl ?_
            refine r_ci (x := 1) dX12_slack_50 rfl ?_
            refine r_p (pc2 := 53) (L2 := [some (.ref (571 : Nat)), some (.int p0), some (.int p1), some (.int 0), some (.int 1)]) dX12_slack_51 rfl rfl ?_
            show tR _ _ _ _ [some (.ref (571 : Nat)), some (.int p0), some (.int p1), some (.int 0), some (.int 1)] _ _ _ _
            refine (c_m_slack_53 p0 p1 (fun w1_3 w1_4 T201 kk => ?_) 1000 0 1 ((x_m_know (sF T 571 0 0) p0).2) kk)
            · skip
              refine r_p (pc2 := 100) dX12_slack_99 rfl rfl ?_
              exact r_qI dX12_slack_100 rfl rfl rfl rfl
          · refine r_in (R := rI) c42_5 ?_
            refine r_k dX12_slack_45 kkX12_137 ?_
            exact r_qI dX12_slack_47 rfl rfl rfl rfl
      · refine r_ip (R := rI) c23_3 ?_
        refine r_k dX12_slack_26 kkX12_253 ?_
        exact r_qI dX12_slack_28 rfl rfl rfl rfl
    · refine r_in (R := rI) c13_2 ?_
      refine r_k dX12_slack_16 kkX12_121 ?_
      exact r_qI dX12_slack_18 rfl rfl rfl rfl
def x_m_bears (T : St) (p0 : Int32) (p1 : Int32) (p2 : Int32) : Int32 × St := if (x_m_isBy (sF T 571 0 0) p0) = 0 then ((-1000001), sF T 571 0 0) else (if p1 < 0 then ((-1000001), sF T 571 0 0) else (if (x_m_in (sF T 571 0 0) ((p2 : Int32).toInt64) 1 9) = 0 then ((-1000001), sF T 571 0 0) else (if ((sF T 571 0 0).1 571 7) = 0 then ((-1000002), sF T 571 0 0) else (if ((x_m_know (sF T 571 0 0) p0).1) = 0 then ((-1000000), (x_m_know (sF T 571 0 0) p0).2) else (if p1 < (((x_m_know (sF T 571 0 0) p0).2).1 571 39) then (if ((x_m_judged (sA ((x_m_know (sF T 571 0 0) p0).2) 596 (p1 : Int32).toNatClampNeg p2) p0).1) = 0 then (1, (x_m_judged (sA ((x_m_know (sF T 571 0 0) p0).2) 596 (p1 : Int32).toNatClampNeg p2) p0).2) else (0, (x_m_judged (sA ((x_m_know (sF T 571 0 0) p0).2) 596 (p1 : Int32).toNatClampNeg p2) p0).2)) else ((-1000000), (x_m_know (sF T 571 0 0) p0).2))))))
def ok_m_bears (T : St) (p0 : Int32) (p1 : Int32) (p2 : Int32) : Prop := (¬ (x_m_isBy (sF T 571 0 0) p0) = 0 → (¬ p1 < 0 → (¬ (x_m_in (sF T 571 0 0) ((p2 : Int32).toInt64) 1 9) = 0 → (¬ ((sF T 571 0 0).1 571 7) = 0 → (ok_m_know (sF T 571 0 0) p0) ∧ (¬ ((x_m_know (sF T 571 0 0) p0).1) = 0 → (p1 < (((x_m_know (sF T 571 0 0) p0).2).1 571 39) → (vp_in p1 12) ∧ (ok_m_judged (sA ((x_m_know (sF T 571 0 0) p0).2) 596 (p1 : Int32).toNatClampNeg p2) p0) ∧ True))))))
theorem c_m_bears {X : Nat × (Nat → Int32)} {T : St} (p0 : Int32) (p1 : Int32) (p2 : Int32) (kk : ok_m_bears T p0 p1 p2) : tC X 7 mX12_bears [.ref (571 : Nat), .int p0, .int p1, .int p2] T (some (.int (x_m_bears T p0 p1 p2).1)) ((x_m_bears T p0 p1 p2).2) := by
  unfold ok_m_bears at kk
  refine tC_orI (L := [some (.ref (571 : Nat)), some (.int p0), some (.int p1), some (.int p2)]) (x_m_bears T p0 p1 p2) rfl ?_
  unfold x_m_bears
  refine r_p (pc2 := 1) dX12_bears_0 rfl rfl ?_
  refine r_ci (x := 0) dX12_bears_1 rfl ?_
  refine r_put dX12_bears_2 fkX12_101 rfl rfl rfl (Nat.le_of_ble_eq_true rfl) rfl rfl ?_
  refine r_p (pc2 := 6) dX12_bears_5 rfl rfl ?_
  refine r_cs (d1 := 2) dX12_bears_6 csX12_318 rfl rfl (Nat.le_of_ble_eq_true rfl) (Nat.le_of_ble_eq_true rfl) (Nat.le_of_ble_eq_true rfl) (c_m_isBy p0) ?_
  refine r_ieq dX12_bears_9 rfl (fun c9_1 => ?_) (fun c9_1 => ?_)
  · refine r_ip (R := rI) c9_1 ?_
    refine r_k dX12_bears_28 kkX12_121 ?_
    exact r_qI dX12_bears_30 rfl rfl rfl rfl
  · refine r_in (R := rI) c9_1 ?_
    have kk := kk c9_1
    refine r_p (pc2 := 13) dX12_bears_12 rfl rfl ?_
    refine r_ilt dX12_bears_13 rfl (fun c13_2 => ?_) (fun c13_2 => ?_)
    · refine r_ip (R := rI) c13_2 ?_
      refine r_k dX12_bears_28 kkX12_121 ?_
      exact r_qI dX12_bears_30 rfl rfl rfl rfl
    · refine r_in (R := rI) c13_2 ?_
      have kk := kk c13_2
      refine r_p (pc2 := 17) dX12_bears_16 rfl rfl ?_
      refine r_p (pc2 := 18) dX12_bears_17 rfl rfl ?_
      refine r_cl (x := 1) dX12_bears_18 rfl ?_
      refine r_kl dX12_bears_19 klX12_348 ?_
      refine r_cs (d1 := 1) dX12_bears_22 csX12_111 rfl rfl (Nat.le_of_ble_eq_true rfl) (Nat.le_of_ble_eq_true rfl) (Nat.le_of_ble_eq_true rfl) (c_m_in ((p2 : Int32).toInt64) 1 9) ?_
      refine r_ine dX12_bears_25 rfl (fun c25_3 => ?_) (fun c25_3 => ?_)
      · refine r_in (R := rI) c25_3 ?_
        have kk := kk c25_3
        refine r_p (pc2 := 32) dX12_bears_31 rfl rfl ?_
        refine r_get dX12_bears_32 fkX12_221 rfl rfl ?_
        refine r_ine dX12_bears_35 rfl (fun c35_4 => ?_) (fun c35_4 => ?_)
        · refine r_in (R := rI) c35_4 ?_
          have kk := kk c35_4
          refine r_p (pc2 := 42) dX12_bears_41 rfl rfl ?_
          refine r_p (pc2 := 43) dX12_bears_42 rfl rfl ?_
          obtain ⟨q1, kk⟩ := kk
          refine r_cv (d1 := 6) dX12_bears_43 cvX12_321 rfl rfl rfl rfl (Nat.le_of_ble_eq_true rfl) (Nat.le_of_ble_eq_true rfl) (Nat.le_of_ble_eq_true rfl) (c_m_know p0 q1) ?_
          refine r_ieq dX12_bears_46 rfl (fun c46_5 => ?_) (fun c46_5 => ?_)
          · refine r_ip (R := rI) c46_5 ?_
            refine r_k dX12_bears_57 kkX12_137 ?_
            exact r_qI dX12_bears_59 rfl rfl rfl rfl
          · refine r_in (R := rI) c46_5 ?_
            have kk := kk c46_5
            refine r_p (pc2 := 50) dX12_bears_49 rfl rfl ?_
            refine r_p (pc2 := 51) dX12_bears_50 rfl rfl ?_
            refine r_get dX12_bears_51 fkX12_302 rfl rfl ?_
            refine r_clt dX12_bears_54 rfl (fun c54_6 => ?_) (fun c54_6 => ?_)
            · refine r_ip (R := rI) c54_6 ?_
              have kk := kk c54_6
              refine r_p (pc2 := 61) dX12_bears_60 rfl rfl ?_
              refine r_get dX12_bears_61 fkX12_82 rfl rfl ?_
              refine r_p (pc2 := 65) dX12_bears_64 rfl rfl ?_
              refine r_p (pc2 := 66) dX12_bears_65 rfl rfl ?_
              obtain ⟨q2, kk⟩ := kk
              refine r_ias dX12_bears_66 rfl q2 ?_
              refine r_p (pc2 := 68) dX12_bears_67 rfl rfl ?_
              refine r_p (pc2 := 69) dX12_bears_68 rfl rfl ?_
              obtain ⟨q3, kk⟩ := kk
              refine r_cv (d1 := 4) dX12_bears_69 cvX12_340 rfl rfl rfl rfl (Nat.le_of_ble_eq_true rfl) (Nat.le_of_ble_eq_true rfl) (Nat.le_of_ble_eq_true rfl) (c_m_judged p0 q3) ?_
              refine r_ine dX12_bears_72 rfl (fun c72_7 => ?_) (fun c72_7 => ?_)
              · refine r_in (R := rI) c72_7 ?_
                refine r_ci (x := 0) dX12_bears_79 rfl ?_
                exact r_qI dX12_bears_80 rfl rfl rfl rfl
              · refine r_ip (R := rI) c72_7 ?_
                refine r_ci (x := 1) dX12_bears_75 rfl ?_
                refine r_go dX12_bears_76 rfl ?_
                exact r_qI dX12_bears_80 rfl rfl rfl rfl
            · refine r_in (R := rI) c54_6 ?_
              refine r_k dX12_bears_57 kkX12_137 ?_
              exact r_qI dX12_bears_59 rfl rfl rfl rfl
        · refine r_ip (R := rI) c35_4 ?_
          refine r_k dX12_bears_38 kkX12_253 ?_
          exact r_qI dX12_bears_40 rfl rfl rfl rfl
      · refine r_ip (R := rI) c25_3 ?_
        refine r_k dX12_bears_28 kkX12_121 ?_
        exact r_qI dX12_bears_30 rfl rfl rfl rfl
def x_jd_lay_127 (l1 : Nat) (l2 : Nat) (l3 : Nat) (l4 : Int32) (l5 : Nat) (l6 : Int32) (K : Int32 → St → St) : Nat → Int32 → St → St
  | 0, _, T => T
  | f + 1, v7, T => if 5 ≤ v7 then (K v7 T) else (jn (fun (T5 : St) => x_jd_lay_127 l1 l2 l3 l4 l5 l6 K f (v7 + 1) T5) (sL T 538 (v7 : Int32).toNatClampNeg ((T.2.2.2 538 (v7 : Int32).toNatClampNeg) ||| ((T.2.2.2 537 (v7 : Int32).toNatClampNeg) &&& (T.2.2.2 (l5 + 3) (v7 : Int32).toNatClampNeg)))))
def ok_jd_lay_127 (l1 : Nat) (l2 : Nat) (l3 : Nat) (l4 : Int32) (l5 : Nat) (l6 : Int32) (Kk : Int32 → St → Prop) : Nat → Int32 → St → Prop
  | 0, _, _ => False
  | f + 1, v7, T => ((5 ≤ v7 → Kk v7 T) ∧ (¬ 5 ≤ v7 → (vp_in v7 5) ∧ (sh l5 = .inr 10) ∧ jn (fun (T5 : St) => ok_jd_lay_127 l1 l2 l3 l4 l5 l6 Kk f (v7 + 1) T5) (sL T 538 (v7 : Int32).toNatClampNeg ((T.2.2.2 538 (v7 : Int32).toNatClampNeg) ||| ((T.2.2.2 537 (v7 : Int32).toNatClampNeg) &&& (T.2.2.2 (l5 + 3) (v7 : Int32).toNatClampNeg))))))
theorem c_jd_lay_127 {X : Nat × (Nat → Int32)} (l1 : Nat) (l2 : Nat) (l3 : Nat) (l4 : Int32) (l5 : Nat) (l6 : Int32) {K : Int32 → St → St} {Kk : Int32 → St → Prop} (hk : ∀ (v7 : Int32) (T : St), Kk v7 T → tR X 2 mX2_lay 168 [some (.ref (527 : Nat)), some (.ref l1), some (.ref l2), some (.ref l3), some (.int l4), some (.ref l5), some (.int l6), some (.int v7)] [] T (rV (K v7 T)).1 ((rV (K v7 T)).2)) : ∀ (f : Nat) (v7 : Int32) (T : St), ok_jd_lay_127 l1 l2 l3 l4 l5 l6 Kk f v7 T → tR X 2 mX2_lay 127 [some (.ref (527 : Nat)), some (.ref l1), some (.ref l2), some (.ref l3), some (.int l4), some (.ref l5), some (.int l6), some (.int v7)] [] T (rV (x_jd_lay_127 l1 l2 l3 l4 l5 l6 K f v7 T)).1 ((rV (x_jd_lay_127 l1 l2 l3 l4 l5 l6 K f v7 T)).2) := by
  intro f
  induction f with
  | zero => intro v7 T kk; exact kk.elim
  | succ f ih =>
    intro v7 T kk
    rw [ok_jd_lay_127] at kk
    rw [x_jd_lay_127]
    refine r_p (pc2 := 129) dX2_lay_127 rfl rfl ?_
    refine r_ci (x := 5) dX2_lay_129 rfl ?_
    refine r_cge dX2_lay_130 rfl (fun c130_3 => ?_) (fun c130_3 => ?_)
    · refine r_ip (R := rV) c130_3 ?_
      have kk := kk.1 c130_3
      show tR _ _ _ _ [some (.ref (527 : Nat)), some (.ref l1), some (.ref l2), some (.ref l3), some (.int l4), some (.ref l5), some (.int l6), some (.int v7)] _ _ _ _
      exact (hk v7 T kk)
    · refine r_in (R := rV) c130_3 ?_
      have kk := kk.2 c130_3
      refine r_p (pc2 := 134) dX2_lay_133 rfl rfl ?_
      refine r_get dX2_lay_134 fkX2_31 rfl rfl ?_
      refine r_p (pc2 := 139) dX2_lay_137 rfl rfl ?_
      refine r_p (pc2 := 140) dX2_lay_139 rfl rfl ?_
      obtain ⟨q12, kk⟩ := kk
      refine r_la dX2_lay_140 rfl q12 ?_
      refine r_p (pc2 := 142) dX2_lay_141 rfl rfl ?_
      refine r_get dX2_lay_142 fkX2_27 rfl rfl ?_
      refine r_get dX2_lay_145 fkX2_119 rfl rfl ?_
      refine r_p (pc2 := 150) dX2_lay_148 rfl rfl ?_
      refine r_la dX2_lay_150 rfl q12 ?_
      refine r_p (pc2 := 153) dX2_lay_151 rfl rfl ?_
      obtain ⟨q13, kk⟩ := kk
      refine r_get dX2_lay_153 fkX2_122 q13 rfl ?_
      refine r_p (pc2 := 158) dX2_lay_156 rfl rfl ?_
      refine r_la dX2_lay_158 (shl10_3 q13) q12 ?_
      refine r_p (pc2 := 160) dX2_lay_159 rfl rfl ?_
      refine r_p (pc2 := 161) dX2_lay_160 rfl rfl ?_
      refine r_las dX2_lay_161 rfl q12 ?_
      refine r_nT (R := rV) rfl kk (fun T5 kk => ?_)
      refine r_inc (L2 := [some (.ref (527 : Nat)), some (.ref l1), some (.ref l2), some (.ref l3), some (.int l4), some (.ref l5), some (.int l6), some (.int (v7 + 1))]) (y := 1) dX2_lay_162 rfl rfl rfl ?_
      refine r_go dX2_lay_165 rfl ?_
      show tR _ _ _ _ [some (.ref (527 : Nat)), some (.ref l1), some (.ref l2), some (.ref l3), some (.int l4), some (.ref l5), some (.int l6), some (.int (v7 + 1))] _ _ _ _
      exact (ih (v7 + 1) T5 kk)
def x_jd_lay_19 (l1 : Nat) (l2 : Nat) (l3 : Nat) (K : Int32 → St → St) : Nat → Int32 → St → St
  | 0, _, T => T
  | f + 1, v4, T => if (T.1 l3 1) ≤ v4 then (K v4 T) else (jn (fun (r1 : Nat) => jn (fun (T2 : St) => jn (fun (i3 : Int32) => jn (fun (T4 : St) => if (x_ro_isLast T4 l3 v4) = 0 then (x_jd_lay_19 l1 l2 l3 K f (v4 + 1) T4) else (x_jd_lay_127 l1 l2 l3 v4 r1 i3 (fun (w1_7 : Int32) (T201 : St) => x_jd_lay_19 l1 l2 l3 K f (v4 + 1) (x_ta_add T201 533 533 (r1 + 3) l2)) 1000 0 (x_wa_lay T4 r1 l1))) (sA (sA T2 (r1 + 1) (i3 : Int32).toNatClampNeg (T2.2.2.1 (l3 + 5) (v4 : Int32).toNatClampNeg)) (r1 + 2) (i3 : Int32).toNatClampNeg ((sA T2 (r1 + 1) (i3 : Int32).toNatClampNeg (T2.2.2.1 (l3 + 5) (v4 : Int32).toNatClampNeg)).2.2.1 (l3 + 6) (v4 : Int32).toNatClampNeg))) ((T2.2.2.1 (l3 + 3) (v4 : Int32).toNatClampNeg) - (T2.2.2.1 (l1 + 8) (T2.1 r1 3 : Int32).toNatClampNeg))) (sF T r1 3 (T.2.2.1 (l3 + 1) (T.2.2.1 (l3 + 4) (v4 : Int32).toNatClampNeg : Int32).toNatClampNeg))) (539 + 4 * (T.2.2.1 (l3 + 4) (v4 : Int32).toNatClampNeg : Int32).toNatClampNeg))
def ok_jd_lay_19 (l1 : Nat) (l2 : Nat) (l3 : Nat) (Kk : Int32 → St → Prop) : Nat → Int32 → St → Prop
  | 0, _, _ => False
  | f + 1, v4, T => (sh l3 = .inr 7) ∧ (((T.1 l3 1) ≤ v4 → Kk v4 T) ∧ (¬ (T.1 l3 1) ≤ v4 → (vp_in v4 12) ∧ (vp_in (T.2.2.1 (l3 + 4) (v4 : Int32).toNatClampNeg) 4) ∧ jn (fun (r1 : Nat) => (sh r1 = .inr 10) ∧ jn (fun (T2 : St) => (sh l1 = .inr 1) ∧ (vp_in (T2.1 r1 3) 8) ∧ jn (fun (i3 : Int32) => (vp_in i3 3) ∧ jn (fun (T4 : St) => (ok_ro_isLast T4 l3 v4) ∧ (((x_ro_isLast T4 l3 v4) = 0 → ok_jd_lay_19 l1 l2 l3 Kk f (v4 + 1) T4) ∧ (¬ (x_ro_isLast T4 l3 v4) = 0 → (ok_wa_lay T4 r1 l1) ∧ ok_jd_lay_127 l1 l2 l3 v4 r1 i3 (fun (w1_7 : Int32) (T201 : St) => (ok_ta_add T201 533 533 (r1 + 3) l2) ∧ ok_jd_lay_19 l1 l2 l3 Kk f (v4 + 1) (x_ta_add T201 533 533 (r1 + 3) l2)) 1000 0 (x_wa_lay T4 r1 l1)))) (sA (sA T2 (r1 + 1) (i3 : Int32).toNatClampNeg (T2.2.2.1 (l3 + 5) (v4 : Int32).toNatClampNeg)) (r1 + 2) (i3 : Int32).toNatClampNeg ((sA T2 (r1 + 1) (i3 : Int32).toNatClampNeg (T2.2.2.1 (l3 + 5) (v4 : Int32).toNatClampNeg)).2.2.1 (l3 + 6) (v4 : Int32).toNatClampNeg))) ((T2.2.2.1 (l3 + 3) (v4 : Int32).toNatClampNeg) - (T2.2.2.1 (l1 + 8) (T2.1 r1 3 : Int32).toNatClampNeg))) (sF T r1 3 (T.2.2.1 (l3 + 1) (T.2.2.1 (l3 + 4) (v4 : Int32).toNatClampNeg : Int32).toNatClampNeg))) (539 + 4 * (T.2.2.1 (l3 + 4) (v4 : Int32).toNatClampNeg : Int32).toNatClampNeg)))
theorem c_jd_lay_19 {X : Nat × (Nat → Int32)} (l1 : Nat) (l2 : Nat) (l3 : Nat) {K : Int32 → St → St} {Kk : Int32 → St → Prop} (hk : ∀ (v4 : Int32) (T : St), Kk v4 T → tR X 2 mX2_lay 191 [some (.ref (527 : Nat)), some (.ref l1), some (.ref l2), some (.ref l3), some (.int v4), none, none, none] [] T (rV (K v4 T)).1 ((rV (K v4 T)).2)) : ∀ (f : Nat) (v4 : Int32) (T : St), ok_jd_lay_19 l1 l2 l3 Kk f v4 T → tR X 2 mX2_lay 19 [some (.ref (527 : Nat)), some (.ref l1), some (.ref l2), some (.ref l3), some (.int v4), none, none, none] [] T (rV (x_jd_lay_19 l1 l2 l3 K f v4 T)).1 ((rV (x_jd_lay_19 l1 l2 l3 K f v4 T)).2) := by
  intro f
  induction f with
  | zero => intro v4 T kk; exact kk.elim
  | succ f ih =>
    intro v4 T kk
    rw [ok_jd_lay_19] at kk
    rw [x_jd_lay_19]
    refine r_p (pc2 := 21) dX2_lay_19 rfl rfl ?_
    refine r_p (pc2 := 22) dX2_lay_21 rfl rfl ?_
    obtain ⟨q3, kk⟩ := kk
    refine r_get dX2_lay_22 fkX2_36 q3 rfl ?_
    refine r_cge dX2_lay_25 rfl (fun c25_1 => ?_) (fun c25_1 => ?_)
    · refine r_ip (R := rV) c25_1 ?_
      have kk := kk.1 c25_1
      show tR _ _ _ _ [some (.ref (527 : Nat)), some (.ref l1), some (.ref l2), some (.ref l3), some (.int v4), none, none, none] _ _ _ _
      exact (hk v4 T kk)
    · refine r_in (R := rV) c25_1 ?_
      have kk := kk.2 c25_1
      refine r_p (pc2 := 29) dX2_lay_28 rfl rfl ?_
      refine r_get dX2_lay_29 fkX2_20 rfl rfl ?_
      refine r_p (pc2 := 33) dX2_lay_32 rfl rfl ?_
      refine r_get dX2_lay_33 fkX2_65 q3 rfl ?_
      refine r_p (pc2 := 38) dX2_lay_36 rfl rfl ?_
      obtain ⟨q4, kk⟩ := kk
      refine r_ia dX2_lay_38 (shl7_4 q3) q4 ?_
      obtain ⟨q5, kk⟩ := kk
      refine r_aa dX2_lay_39 rfl (by decide) q5 (rf532 q5) ?_
      refine r_nR (R := rV) rfl kk (fun r1 kk => ?_)
      refine r_p (pc2 := 42) (L2 := [some (.ref (527 : Nat)), some (.ref l1), some (.ref l2), some (.ref l3), some (.int v4), some (.ref r1), none, none]) dX2_lay_40 rfl rfl ?_
      refine r_p (pc2 := 44) dX2_lay_42 rfl rfl ?_
      refine r_p (pc2 := 45) dX2_lay_44 rfl rfl ?_
      refine r_get dX2_lay_45 fkX2_62 q3 rfl ?_
      refine r_p (pc2 := 49) dX2_lay_48 rfl rfl ?_
      refine r_get dX2_lay_49 fkX2_65 q3 rfl ?_
      refine r_p (pc2 := 54) dX2_lay_52 rfl rfl ?_
      refine r_ia dX2_lay_54 (shl7_4 q3) q4 ?_
      refine r_ia dX2_lay_55 (shl7_1 q3) q5 ?_
      obtain ⟨q6, kk⟩ := kk
      refine r_put dX2_lay_56 fkX2_109 rfl q6 rfl (Nat.le_of_ble_eq_true rfl) rfl rfl ?_
      refine r_nT (R := rV) rfl kk (fun T2 kk => ?_)
      refine r_p (pc2 := 60) dX2_lay_59 rfl rfl ?_
      refine r_get dX2_lay_60 fkX2_78 q3 rfl ?_
      refine r_p (pc2 := 65) dX2_lay_63 rfl rfl ?_
      refine r_ia dX2_lay_65 (shl7_3 q3) q4 ?_
      refine r_p (pc2 := 67) dX2_lay_66 rfl rfl ?_
      obtain ⟨q7, kk⟩ := kk
      refine r_get dX2_lay_67 fkX2_111 q7 rfl ?_
      refine r_p (pc2 := 72) dX2_lay_70 rfl rfl ?_
      refine r_get dX2_lay_72 fkX2_109 q6 rfl ?_
      obtain ⟨q8, kk⟩ := kk
      refine r_ia dX2_lay_75 (shl1_8 q7) q8 ?_
      refine r_p (pc2 := 77) dX2_lay_76 rfl rfl ?_
      refine r_nI (R := rV) rfl kk (fun i3 kk => ?_)
      refine r_p (pc2 := 79) (L2 := [some (.ref (527 : Nat)), some (.ref l1), some (.ref l2), some (.ref l3), some (.int v4), some (.ref r1), some (.int i3), none]) dX2_lay_77 rfl rfl ?_
      refine r_p (pc2 := 81) dX2_lay_79 rfl rfl ?_
      refine r_get dX2_lay_81 fkX2_114 q6 rfl ?_
      refine r_p (pc2 := 86) dX2_lay_84 rfl rfl ?_
      refine r_p (pc2 := 87) dX2_lay_86 rfl rfl ?_
      refine r_get dX2_lay_87 fkX2_42 q3 rfl ?_
      refine r_p (pc2 := 92) dX2_lay_90 rfl rfl ?_
      refine r_ia dX2_lay_92 (shl7_5 q3) q4 ?_
      obtain ⟨q9, kk⟩ := kk
      refine r_ias dX2_lay_93 (shl10_1 q6) q9 ?_
      refine r_p (pc2 := 96) dX2_lay_94 rfl rfl ?_
      refine r_get dX2_lay_96 fkX2_115 q6 rfl ?_
      refine r_p (pc2 := 101) dX2_lay_99 rfl rfl ?_
      refine r_p (pc2 := 102) dX2_lay_101 rfl rfl ?_
      refine r_get dX2_lay_102 fkX2_46 q3 rfl ?_
      refine r_p (pc2 := 107) dX2_lay_105 rfl rfl ?_
      refine r_ia dX2_lay_107 (shl7_6 q3) q4 ?_
      refine r_ias dX2_lay_108 (shl10_2 q6) q9 ?_
      refine r_nT (R := rV) rfl kk (fun T4 kk => ?_)
      refine r_p (pc2 := 110) dX2_lay_109 rfl rfl ?_
      refine r_p (pc2 := 112) dX2_lay_110 rfl rfl ?_
      obtain ⟨q10, kk⟩ := kk
      refine r_cv (d1 := 1) dX2_lay_112 cvX2_68 rfl rfl q3 rfl (Nat.le_of_ble_eq_true rfl) (Nat.le_of_ble_eq_true rfl) (Nat.le_of_ble_eq_true rfl) (c_ro_isLast l3 v4 q10) ?_
      refine r_ieq dX2_lay_115 rfl (fun c115_2 => ?_) (fun c115_2 => ?_)
      · refine r_ip (R := rV) c115_2 ?_
        have kk := kk.1 c115_2
        refine r_inc (L2 := [some (.ref (527 : Nat)), some (.ref l1), some (.ref l2), some (.ref l3), some (.int (v4 + 1)), some (.ref r1), some (.int i3), none]) (y := 1) dX2_lay_185 rfl rfl rfl ?_
        refine r_go dX2_lay_188 rfl ?_
        show tR _ _ _ _ [some (.ref (527 : Nat)), some (.ref l1), some (.ref l2), some (.ref l3), some (.int (v4 + 1)), some (.ref r1), some (.int i3), none] _ _ _ _
        exact r_le (le_s (le_s (le_s (le_s (le_s (le_n (le_n (le_s (le_0))))))))) (ih (v4 + 1) T4 kk)
      · refine r_in (R := rV) c115_2 ?_
        have kk := kk.2 c115_2
        refine r_p (pc2 := 120) dX2_lay_118 rfl rfl ?_
        refine r_p (pc2 := 121) dX2_lay_120 rfl rfl ?_
        obtain ⟨q11, kk⟩ := kk
        refine r_cv (d1 := 2) dX2_lay_121 cvX2_116 rfl rfl q6 rfl (Nat.le_of_ble_eq_true rfl) (Nat.le_of_ble_eq_true rfl) (Nat.le_of_ble_eq_true rfl) (c_wa_lay r1 l1 q11) ?_
        refine r_ci (x := 0) dX2_lay_124 rfl ?_
        refine r_p (pc2 := 127) (L2 := [some (.ref (527 : Nat)), some (.ref l1), some (.ref l2), some (.ref l3), some (.int v4), some (.ref r1), some (.int i3), some (.int 0)]) dX2_lay_125 rfl rfl ?_
        show tR _ _ _ _ [some (.ref (527 : Nat)), some (.ref l1), some (.ref l2), some (.ref l3), some (.int v4), some (.ref r1), some (.int i3), some (.int 0)] _ _ _ _
        refine (c_jd_lay_127 l1 l2 l3 v4 r1 i3 (fun w1_7 T201 kk => ?_) 1000 0 (x_wa_lay T4 r1 l1) kk)
        · skip
          refine r_p (pc2 := 169) dX2_lay_168 rfl rfl ?_
          refine r_get dX2_lay_169 fkX2_27 rfl rfl ?_
          refine r_p (pc2 := 173) dX2_lay_172 rfl rfl ?_
          refine r_get dX2_lay_173 fkX2_27 rfl rfl ?_
          refine r_p (pc2 := 178) dX2_lay_176 rfl rfl ?_
          refine r_get dX2_lay_178 fkX2_122 q6 rfl ?_
          refine r_p (pc2 := 182) dX2_lay_181 rfl rfl ?_
          obtain ⟨q14, kk⟩ := kk
          refine r_cv (d1 := 2) dX2_lay_182 cvX2_125 rfl rfl rfl rfl (Nat.le_of_ble_eq_true rfl) (Nat.le_of_ble_eq_true rfl) (Nat.le_of_ble_eq_true rfl) (c_ta_add 533 533 (r1 + 3) l2 q14) ?_
          refine r_inc (L2 := [some (.ref (527 : Nat)), some (.ref l1), some (.ref l2), some (.ref l3), some (.int (v4 + 1)), some (.ref r1), some (.int i3), some (.int w1_7)]) (y := 1) dX2_lay_185 rfl rfl rfl ?_
          refine r_go dX2_lay_188 rfl ?_
          show tR _ _ _ _ [some (.ref (527 : Nat)), some (.ref l1), some (.ref l2), some (.ref l3), some (.int (v4 + 1)), some (.ref r1), some (.int i3), some (.int w1_7)] _ _ _ _
          exact r_le (le_s (le_s (le_s (le_s (le_s (le_n (le_n (le_n (le_0))))))))) (ih (v4 + 1) (x_ta_add T201 533 533 (r1 + 3) l2) kk)
def x_jd_lay (T : St) (p0 : Nat) (p1 : Nat) (p2 : Nat) : St := x_jd_lay_19 p0 p1 p2 (fun (w2_4 : Int32) (T202 : St) => T202) 1000 0 (x_ta_open (x_fillJ T 538 0) 533 p1)
def ok_jd_lay (T : St) (p0 : Nat) (p1 : Nat) (p2 : Nat) : Prop := (ok_fillJ T 538 0) ∧ (ok_ta_open (x_fillJ T 538 0) 533 p1) ∧ ok_jd_lay_19 p0 p1 p2 (fun (w2_4 : Int32) (T202 : St) => True) 1000 0 (x_ta_open (x_fillJ T 538 0) 533 p1)
theorem c_jd_lay {X : Nat × (Nat → Int32)} {T : St} (p0 : Nat) (p1 : Nat) (p2 : Nat) (kk : ok_jd_lay T p0 p1 p2) : tC X 3 mX2_lay [.ref (527 : Nat), .ref p0, .ref p1, .ref p2] T none (x_jd_lay T p0 p1 p2) := by
  unfold ok_jd_lay at kk
  refine tC_orV (L := [some (.ref (527 : Nat)), some (.ref p0), some (.ref p1), some (.ref p2), none, none, none, none]) (x_jd_lay T p0 p1 p2) rfl ?_
  unfold x_jd_lay
  refine r_p (pc2 := 1) dX2_lay_0 rfl rfl ?_
  refine r_get dX2_lay_1 fkX2_31 rfl rfl ?_
  refine r_cl (x := 0) dX2_lay_4 rfl ?_
  obtain ⟨q1, kk⟩ := kk
  refine r_cs (d1 := 1) dX2_lay_5 csX2_99 rfl rfl (Nat.le_of_ble_eq_true rfl) (Nat.le_of_ble_eq_true rfl) (Nat.le_of_ble_eq_true rfl) (c_fillJ 538 0 q1) ?_
  refine r_p (pc2 := 9) dX2_lay_8 rfl rfl ?_
  refine r_get dX2_lay_9 fkX2_27 rfl rfl ?_
  refine r_p (pc2 := 13) dX2_lay_12 rfl rfl ?_
  obtain ⟨q2, kk⟩ := kk
  refine r_cv (d1 := 2) dX2_lay_13 cvX2_105 rfl rfl rfl rfl (Nat.le_of_ble_eq_true rfl) (Nat.le_of_ble_eq_true rfl) (Nat.le_of_ble_eq_true rfl) (c_ta_open 533 p1 q2) ?_
  refine r_ci (x := 0) dX2_lay_16 rfl ?_
  refine r_p (pc2 := 19) (L2 := [some (.ref (527 : Nat)), some (.ref p0), some (.ref p1), some (.ref p2), some (.int 0), none, none, none]) dX2_lay_17 rfl rfl ?_
  show tR _ _ _ _ [some (.ref (527 : Nat)), some (.ref p0), some (.ref p1), some (.ref p2), some (.int 0), none, none, none] _ _ _ _
  refine (c_jd_lay_19 p0 p1 p2 (fun w2_4 T202 kk => ?_) 1000 0 (x_ta_open (x_fillJ T 538 0) 533 p1) kk)
  · skip
    exact r_qV dX2_lay_191 rfl rfl
