def x_m_addPan_8 (l1 : Int32) (l2 : Int32) (l3 : Int32) (K : Int32 → St → St) : Nat → Int32 → St → St
  | 0, _, T => T
  | f + 1, v4, T => if ((60 * l1) + l3) ≤ v4 then (K v4 T) else (x_m_addPan_8 l1 l2 l3 K f (v4 + 1) (sA T 582 (v4 : Int32).toNatClampNeg ((T.2.2.1 582 (v4 : Int32).toNatClampNeg) + 1)))
def ok_m_addPan_8 (l1 : Int32) (l2 : Int32) (l3 : Int32) (Kk : Int32 → St → Prop) : Nat → Int32 → St → Prop
  | 0, _, _ => False
  | f + 1, v4, T => ((((60 * l1) + l3) ≤ v4 → Kk v4 T) ∧ (¬ ((60 * l1) + l3) ≤ v4 → (vp_in v4 300) ∧ ok_m_addPan_8 l1 l2 l3 Kk f (v4 + 1) (sA T 582 (v4 : Int32).toNatClampNeg ((T.2.2.1 582 (v4 : Int32).toNatClampNeg) + 1))))
theorem c_m_addPan_8 {X : Nat × (Nat → Int32)} (l1 : Int32) (l2 : Int32) (l3 : Int32) {K : Int32 → St → St} {Kk : Int32 → St → Prop} (hk : ∀ (v4 : Int32) (T : St), Kk v4 T → tR X 0 mX12_addPan 36 [some (.ref (571 : Nat)), some (.int l1), some (.int l2), some (.int l3), some (.int v4)] [] T (rV (K v4 T)).1 ((rV (K v4 T)).2)) : ∀ (f : Nat) (v4 : Int32) (T : St), ok_m_addPan_8 l1 l2 l3 Kk f v4 T → tR X 0 mX12_addPan 8 [some (.ref (571 : Nat)), some (.int l1), some (.int l2), some (.int l3), some (.int v4)] [] T (rV (x_m_addPan_8 l1 l2 l3 K f v4 T)).1 ((rV (x_m_addPan_8 l1 l2 l3 K f v4 T)).2) := by
  intro f
  induction f with
  | zero => intro v4 T kk; exact kk.elim
  | succ f ih =>
    intro v4 T kk
    rw [ok_m_addPan_8] at kk
    rw [x_m_addPan_8]
    refine r_p (pc2 := 10) dX12_addPan_8 rfl rfl ?_
    refine r_cb (x := 60) dX12_addPan_10 rfl ?_
    refine r_p (pc2 := 13) dX12_addPan_12 rfl rfl ?_
    refine r_p (pc2 := 14) dX12_addPan_13 rfl rfl ?_
    refine r_p (pc2 := 15) dX12_addPan_14 rfl rfl ?_
    refine r_p (pc2 := 16) dX12_addPan_15 rfl rfl ?_
    refine r_cge dX12_addPan_16 rfl (fun c16_1 => ?_) (fun c16_1 => ?_)
    · refine r_ip (R := rV) c16_1 ?_
      have kk := kk.1 c16_1
      show tR _ _ _ _ [some (.ref (571 : Nat)), some (.int l1), some (.int l2), some (.int l3), some (.int v4)] _ _ _ _
      exact (hk v4 T kk)
    · refine r_in (R := rV) c16_1 ?_
      have kk := kk.2 c16_1
      refine r_p (pc2 := 20) dX12_addPan_19 rfl rfl ?_
      refine r_get dX12_addPan_20 fkX12_40 rfl rfl ?_
      refine r_p (pc2 := 25) dX12_addPan_23 rfl rfl ?_
      refine r_p (pc2 := 26) dX12_addPan_25 rfl rfl ?_
      obtain ⟨q1, kk⟩ := kk
      refine r_ia dX12_addPan_26 rfl q1 ?_
      refine r_ci (x := 1) dX12_addPan_27 rfl ?_
      refine r_p (pc2 := 29) dX12_addPan_28 rfl rfl ?_
      refine r_ias dX12_addPan_29 rfl q1 ?_
      refine r_inc (L2 := [some (.ref (571 : Nat)), some (.int l1), some (.int l2), some (.int l3), some (.int (v4 + 1))]) (y := 1) dX12_addPan_30 rfl rfl rfl ?_
      refine r_go dX12_addPan_33 rfl ?_
      show tR _ _ _ _ [some (.ref (571 : Nat)), some (.int l1), some (.int l2), some (.int l3), some (.int (v4 + 1))] _ _ _ _
      exact (ih (v4 + 1) (sA T 582 (v4 : Int32).toNatClampNeg ((T.2.2.1 582 (v4 : Int32).toNatClampNeg) + 1)) kk)
def x_m_addPan (T : St) (p0 : Int32) (p1 : Int32) (p2 : Int32) : St := x_m_addPan_8 p0 p1 p2 (fun (w1_4 : Int32) (T201 : St) => T201) 1000 ((60 * p0) + p1) T
def ok_m_addPan (T : St) (p0 : Int32) (p1 : Int32) (p2 : Int32) : Prop := ok_m_addPan_8 p0 p1 p2 (fun (w1_4 : Int32) (T201 : St) => True) 1000 ((60 * p0) + p1) T
theorem c_m_addPan {X : Nat × (Nat → Int32)} {T : St} (p0 : Int32) (p1 : Int32) (p2 : Int32) (kk : ok_m_addPan T p0 p1 p2) : tC X 1 mX12_addPan [.ref (571 : Nat), .int p0, .int p1, .int p2] T none (x_m_addPan T p0 p1 p2) := by
  unfold ok_m_addPan at kk
  refine tC_orV (L := [some (.ref (571 : Nat)), some (.int p0), some (.int p1), some (.int p2), none]) (x_m_addPan T p0 p1 p2) rfl ?_
  unfold x_m_addPan
  refine r_cb (x := 60) dX12_addPan_0 rfl ?_
  refine r_p (pc2 := 3) dX12_addPan_2 rfl rfl ?_
  refine r_p (pc2 := 4) dX12_addPan_3 rfl rfl ?_
  refine r_p (pc2 := 5) dX12_addPan_4 rfl rfl ?_
  refine r_p (pc2 := 6) dX12_addPan_5 rfl rfl ?_
  refine r_p (pc2 := 8) (L2 := [some (.ref (571 : Nat)), some (.int p0), some (.int p1), some (.int p2), some (.int ((60 * p0) + p1))]) dX12_addPan_6 rfl rfl ?_
  show tR _ _ _ _ [some (.ref (571 : Nat)), some (.int p0), some (.int p1), some (.int p2), some (.int ((60 * p0) + p1))] _ _ _ _
  refine (c_m_addPan_8 p0 p1 p2 (fun w1_4 T201 kk => ?_) 1000 ((60 * p0) + p1) T kk)
  · skip
    exact r_qV dX12_addPan_36 rfl rfl
def x_m_lacks_9 (T : St) (l1 : Int32) (l2 : Int32) (l3 : Int32) (K : Int32 → Int32 → Int32 → Int32) : Nat → Int32 → Int32 → Int32 → Int32
  | 0, _, _, _ => 0
  | f + 1, v4, v5, v6 => if 60 ≤ v6 then (K v4 v5 v6) else (jn (fun (KJ1 : Int32 → Int32) => if (v4 - (T.2.2.1 575 (4 : Int32).toNatClampNeg)) ≤ (T.2.2.1 583 ((60 * l1) + v6 : Int32).toNatClampNeg) then (KJ1 (T.2.2.1 583 ((60 * l1) + v6 : Int32).toNatClampNeg)) else (KJ1 (v4 - (T.2.2.1 575 (4 : Int32).toNatClampNeg)))) (fun (j1_s0 : Int32) => jn (fun (KJ2 : Int32 → Int32) => if (T.2.2.1 584 ((60 * l1) + v6 : Int32).toNatClampNeg) ≤ (v5 + (T.2.2.1 575 (3 : Int32).toNatClampNeg)) then (KJ2 (T.2.2.1 584 ((60 * l1) + v6 : Int32).toNatClampNeg)) else (KJ2 (v5 + (T.2.2.1 575 (3 : Int32).toNatClampNeg)))) (fun (j2_s0 : Int32) => jn (fun (KJ3 : Int32 → Int32) => if (T.2.2.1 578 ((60 * l1) + v6 : Int32).toNatClampNeg) ≤ (x_m_bigOnes T v6 l3) then (if (T.2.2.1 579 ((60 * l1) + v6 : Int32).toNatClampNeg) ≤ ((T.2.2.1 575 (0 : Int32).toNatClampNeg) + (x_m_bigOnes T v6 l3)) then (if (T.2.2.1 580 ((60 * l1) + v6 : Int32).toNatClampNeg) ≤ (T.2.2.1 575 (2 : Int32).toNatClampNeg) then (if j1_s0 ≤ j2_s0 then (if (T.2.2.1 581 ((60 * l1) + v6 : Int32).toNatClampNeg) ≤ (x_m_handsAt T v6 l2) then (if (T.2.2.1 582 ((60 * l1) + v6 : Int32).toNatClampNeg) ≤ (T.2.2.1 575 (6 : Int32).toNatClampNeg) then (KJ3 0) else (KJ3 6)) else (KJ3 5)) else (KJ3 4)) else (KJ3 3)) else (KJ3 2)) else (KJ3 1)) (fun (j3_s0 : Int32) => if j3_s0 ≤ 0 then (x_m_lacks_9 T l1 l2 l3 K f j1_s0 j2_s0 (v6 + 1)) else (10 * v6) + j3_s0))))
def ok_m_lacks_9 (T : St) (l1 : Int32) (l2 : Int32) (l3 : Int32) (Kk : Int32 → Int32 → Int32 → Prop) : Nat → Int32 → Int32 → Int32 → Prop
  | 0, _, _, _ => False
  | f + 1, v4, v5, v6 => ((60 ≤ v6 → Kk v4 v5 v6) ∧ (¬ 60 ≤ v6 → (vp_in ((60 * l1) + v6) 300) ∧ jn (fun (OJ1 : Int32 → Prop) => (((v4 - (T.2.2.1 575 (4 : Int32).toNatClampNeg)) ≤ (T.2.2.1 583 ((60 * l1) + v6 : Int32).toNatClampNeg) → OJ1 (T.2.2.1 583 ((60 * l1) + v6 : Int32).toNatClampNeg)) ∧ (¬ (v4 - (T.2.2.1 575 (4 : Int32).toNatClampNeg)) ≤ (T.2.2.1 583 ((60 * l1) + v6 : Int32).toNatClampNeg) → OJ1 (v4 - (T.2.2.1 575 (4 : Int32).toNatClampNeg))))) (fun (j1_s0 : Int32) => jn (fun (OJ2 : Int32 → Prop) => (((T.2.2.1 584 ((60 * l1) + v6 : Int32).toNatClampNeg) ≤ (v5 + (T.2.2.1 575 (3 : Int32).toNatClampNeg)) → OJ2 (T.2.2.1 584 ((60 * l1) + v6 : Int32).toNatClampNeg)) ∧ (¬ (T.2.2.1 584 ((60 * l1) + v6 : Int32).toNatClampNeg) ≤ (v5 + (T.2.2.1 575 (3 : Int32).toNatClampNeg)) → OJ2 (v5 + (T.2.2.1 575 (3 : Int32).toNatClampNeg))))) (fun (j2_s0 : Int32) => jn (fun (OJ3 : Int32 → Prop) => (((T.2.2.1 578 ((60 * l1) + v6 : Int32).toNatClampNeg) ≤ (x_m_bigOnes T v6 l3) → (((T.2.2.1 579 ((60 * l1) + v6 : Int32).toNatClampNeg) ≤ ((T.2.2.1 575 (0 : Int32).toNatClampNeg) + (x_m_bigOnes T v6 l3)) → (((T.2.2.1 580 ((60 * l1) + v6 : Int32).toNatClampNeg) ≤ (T.2.2.1 575 (2 : Int32).toNatClampNeg) → ((j1_s0 ≤ j2_s0 → (ok_m_handsAt T v6 l2) ∧ (((T.2.2.1 581 ((60 * l1) + v6 : Int32).toNatClampNeg) ≤ (x_m_handsAt T v6 l2) → (((T.2.2.1 582 ((60 * l1) + v6 : Int32).toNatClampNeg) ≤ (T.2.2.1 575 (6 : Int32).toNatClampNeg) → OJ3 0) ∧ (¬ (T.2.2.1 582 ((60 * l1) + v6 : Int32).toNatClampNeg) ≤ (T.2.2.1 575 (6 : Int32).toNatClampNeg) → OJ3 6))) ∧ (¬ (T.2.2.1 581 ((60 * l1) + v6 : Int32).toNatClampNeg) ≤ (x_m_handsAt T v6 l2) → OJ3 5))) ∧ (¬ j1_s0 ≤ j2_s0 → OJ3 4))) ∧ (¬ (T.2.2.1 580 ((60 * l1) + v6 : Int32).toNatClampNeg) ≤ (T.2.2.1 575 (2 : Int32).toNatClampNeg) → OJ3 3))) ∧ (¬ (T.2.2.1 579 ((60 * l1) + v6 : Int32).toNatClampNeg) ≤ ((T.2.2.1 575 (0 : Int32).toNatClampNeg) + (x_m_bigOnes T v6 l3)) → OJ3 2))) ∧ (¬ (T.2.2.1 578 ((60 * l1) + v6 : Int32).toNatClampNeg) ≤ (x_m_bigOnes T v6 l3) → OJ3 1))) (fun (j3_s0 : Int32) => (j3_s0 ≤ 0 → ok_m_lacks_9 T l1 l2 l3 Kk f j1_s0 j2_s0 (v6 + 1)))))))
theorem c_m_lacks_9 {X : Nat × (Nat → Int32)} (T : St) (l1 : Int32) (l2 : Int32) (l3 : Int32) {K : Int32 → Int32 → Int32 → Int32} {Kk : Int32 → Int32 → Int32 → Prop} (hk : ∀ (v4 : Int32) (v5 : Int32) (v6 : Int32), Kk v4 v5 v6 → tR X 2 mX12_lacks 250 [some (.ref (571 : Nat)), some (.int l1), some (.int l2), some (.int l3), some (.int v4), some (.int v5), some (.int v6), none, none, none] [] T ((rIp T) (K v4 v5 v6)).1 (((rIp T) (K v4 v5 v6)).2)) : ∀ (f : Nat) (v4 : Int32) (v5 : Int32) (v6 : Int32), ok_m_lacks_9 T l1 l2 l3 Kk f v4 v5 v6 → tR X 2 mX12_lacks 9 [some (.ref (571 : Nat)), some (.int l1), some (.int l2), some (.int l3), some (.int v4), some (.int v5), some (.int v6), none, none, none] [] T ((rIp T) (x_m_lacks_9 T l1 l2 l3 K f v4 v5 v6)).1 (((rIp T) (x_m_lacks_9 T l1 l2 l3 K f v4 v5 v6)).2) := by
  intro f
  induction f with
  | zero => intro v4 v5 v6 kk; exact kk.elim
  | succ f ih =>
    intro v4 v5 v6 kk
    rw [ok_m_lacks_9] at kk
    rw [x_m_lacks_9]
    refine r_p (pc2 := 11) dX12_lacks_9 rfl rfl ?_
    refine r_cb (x := 60) dX12_lacks_11 rfl ?_
    refine r_cge dX12_lacks_13 rfl (fun c13_1 => ?_) (fun c13_1 => ?_)
    · refine r_ip (R := (rIp T)) c13_1 ?_
      have kk := kk.1 c13_1
      show tR _ _ _ _ [some (.ref (571 : Nat)), some (.int l1), some (.int l2), some (.int l3), some (.int v4), some (.int v5), some (.int v6), none, none, none] _ _ _ _
      exact (hk v4 v5 v6  kk)
    · refine r_in (R := (rIp T)) c13_1 ?_
      have kk := kk.2 c13_1
      refine r_cb (x := 60) dX12_lacks_16 rfl ?_
      refine r_p (pc2 := 19) dX12_lacks_18 rfl rfl ?_
      refine r_p (pc2 := 20) dX12_lacks_19 rfl rfl ?_
      refine r_p (pc2 := 22) dX12_lacks_20 rfl rfl ?_
      refine r_p (pc2 := 23) dX12_lacks_22 rfl rfl ?_
      refine r_p (pc2 := 25) (L2 := [some (.ref (571 : Nat)), some (.int l1), some (.int l2), some (.int l3), some (.int v4), some (.int v5), some (.int v6), some (.int ((60 * l1) + v6)), none, none]) dX12_lacks_23 rfl rfl ?_
      refine r_p (pc2 := 27) dX12_lacks_25 rfl rfl ?_
      refine r_p (pc2 := 28) dX12_lacks_27 rfl rfl ?_
      refine r_get dX12_lacks_28 fkX12_19 rfl rfl ?_
      refine r_ci (x := 4) dX12_lacks_31 rfl ?_
      refine r_ia dX12_lacks_32 rfl (in_c (by decide)) ?_
      refine r_p (pc2 := 34) dX12_lacks_33 rfl rfl ?_
      refine r_p (pc2 := 35) dX12_lacks_34 rfl rfl ?_
      refine r_get dX12_lacks_35 fkX12_43 rfl rfl ?_
      refine r_p (pc2 := 40) dX12_lacks_38 rfl rfl ?_
      obtain ⟨q1, kk⟩ := kk
      refine r_ia dX12_lacks_40 rfl q1 ?_
      refine r_jn (R := (rIp T)) (J := fun (KJ1 : Int32 → Int32) (OJ1 : Int32 → Prop) => ∀ (j1_s0 : Int32), OJ1 j1_s0 → tR X 2 mX12_lacks 63 [some (.ref (571 : Nat)), some (.int l1), some (.int l2), some (.int l3), some (.int v4), some (.int v5), some (.int v6), some (.int ((60 * l1) + v6)), none, none] [.int j1_s0] T ((rIp T) (KJ1 j1_s0)).1 ((rIp T) (KJ1 j1_s0)).2) kk (fun j1_s0 kk => ?_) (fun KJ1 OJ1 hJ1 kk => ?_)
      · skip
        refine r_p (pc2 := 65) (L2 := [some (.ref (571 : Nat)), some (.int l1), some (.int l2), some (.int l3), some (.int j1_s0), some (.int v5), some (.int v6), some (.int ((60 * l1) + v6)), none, none]) dX12_lacks_63 rfl rfl ?_
        refine r_p (pc2 := 67) dX12_lacks_65 rfl rfl ?_
        refine r_p (pc2 := 68) dX12_lacks_67 rfl rfl ?_
        refine r_get dX12_lacks_68 fkX12_19 rfl rfl ?_
        refine r_ci (x := 3) dX12_lacks_71 rfl ?_
        refine r_ia dX12_lacks_72 rfl (in_c (by decide)) ?_
        refine r_p (pc2 := 74) dX12_lacks_73 rfl rfl ?_
        refine r_p (pc2 := 75) dX12_lacks_74 rfl rfl ?_
        refine r_get dX12_lacks_75 fkX12_46 rfl rfl ?_
        refine r_p (pc2 := 80) dX12_lacks_78 rfl rfl ?_
        refine r_ia dX12_lacks_80 rfl q1 ?_
        refine r_jn (R := (rIp T)) (J := fun (KJ2 : Int32 → Int32) (OJ2 : Int32 → Prop) => ∀ (j2_s0 : Int32), OJ2 j2_s0 → tR X 2 mX12_lacks 103 [some (.ref (571 : Nat)), some (.int l1), some (.int l2), some (.int l3), some (.int j1_s0), some (.int v5), some (.int v6), some (.int ((60 * l1) + v6)), none, none] [.int j2_s0] T ((rIp T) (KJ2 j2_s0)).1 ((rIp T) (KJ2 j2_s0)).2) kk (fun j2_s0 kk => ?_) (fun KJ2 OJ2 hJ2 kk => ?_)
        · skip
          refine r_p (pc2 := 105) (L2 := [some (.ref (571 : Nat)), some (.int l1), some (.int l2), some (.int l3), some (.int j1_s0), some (.int j2_s0), some (.int v6), some (.int ((60 * l1) + v6)), none, none]) dX12_lacks_103 rfl rfl ?_
          refine r_p (pc2 := 106) dX12_lacks_105 rfl rfl ?_
          refine r_p (pc2 := 108) dX12_lacks_106 rfl rfl ?_
          refine r_p (pc2 := 109) dX12_lacks_108 rfl rfl ?_
          refine r_cv (d1 := 1) dX12_lacks_109 cvX12_257 rfl rfl rfl rfl (Nat.le_of_ble_eq_true rfl) (Nat.le_of_ble_eq_true rfl) (Nat.le_of_ble_eq_true rfl) (c_m_bigOnes v6 l3) ?_
          refine r_p (pc2 := 114) (L2 := [some (.ref (571 : Nat)), some (.int l1), some (.int l2), some (.int l3), some (.int j1_s0), some (.int j2_s0), some (.int v6), some (.int ((60 * l1) + v6)), some (.int (x_m_bigOnes T v6 l3)), none]) dX12_lacks_112 rfl rfl ?_
          refine r_p (pc2 := 115) dX12_lacks_114 rfl rfl ?_
          refine r_get dX12_lacks_115 fkX12_28 rfl rfl ?_
          refine r_p (pc2 := 120) dX12_lacks_118 rfl rfl ?_
          refine r_ia dX12_lacks_120 rfl q1 ?_
          refine r_p (pc2 := 123) dX12_lacks_121 rfl rfl ?_
          refine r_jn (R := (rIp T)) (J := fun (KJ3 : Int32 → Int32) (OJ3 : Int32 → Prop) => ∀ (j3_s0 : Int32), OJ3 j3_s0 → tR X 2 mX12_lacks 228 [some (.ref (571 : Nat)), some (.int l1), some (.int l2), some (.int l3), some (.int j1_s0), some (.int j2_s0), some (.int v6), some (.int ((60 * l1) + v6)), some (.int (x_m_bigOnes T v6 l3)), none] [.int j3_s0] T ((rIp T) (KJ3 j3_s0)).1 ((rIp T) (KJ3 j3_s0)).2) kk (fun j3_s0 kk => ?_) (fun KJ3 OJ3 hJ3 kk => ?_)
          · skip
            refine r_p (pc2 := 230) (L2 := [some (.ref (571 : Nat)), some (.int l1), some (.int l2), some (.int l3), some (.int j1_s0), some (.int j2_s0), some (.int v6), some (.int ((60 * l1) + v6)), some (.int (x_m_bigOnes T v6 l3)), some (.int j3_s0)]) dX12_lacks_228 rfl rfl ?_
            refine r_p (pc2 := 232) dX12_lacks_230 rfl rfl ?_
            refine r_ile dX12_lacks_232 rfl (fun c232_10 => ?_) (fun c232_10 => ?_)
            · refine r_ip (R := (rIp T)) c232_10 ?_
              have kk := kk c232_10
              refine r_inc (L2 := [some (.ref (571 : Nat)), some (.int l1), some (.int l2), some (.int l3), some (.int j1_s0), some (.int j2_s0), some (.int (v6 + 1)), some (.int ((60 * l1) + v6)), some (.int (x_m_bigOnes T v6 l3)), some (.int j3_s0)]) (y := 1) dX12_lacks_244 rfl rfl rfl ?_
              refine r_go dX12_lacks_247 rfl ?_
              show tR _ _ _ _ [some (.ref (571 : Nat)), some (.int l1), some (.int l2), some (.int l3), some (.int j1_s0), some (.int j2_s0), some (.int (v6 + 1)), some (.int ((60 * l1) + v6)), some (.int (x_m_bigOnes T v6 l3)), some (.int j3_s0)] _ _ _ _
              exact r_le (le_s (le_s (le_s (le_s (le_s (le_s (le_s (le_n (le_n (le_n (le_0))))))))))) (ih j1_s0 j2_s0 (v6 + 1)  kk)
            · refine r_in (R := (rIp T)) c232_10 ?_
              refine r_cb (x := 10) dX12_lacks_235 rfl ?_
              refine r_p (pc2 := 239) dX12_lacks_237 rfl rfl ?_
              refine r_p (pc2 := 240) dX12_lacks_239 rfl rfl ?_
              refine r_p (pc2 := 242) dX12_lacks_240 rfl rfl ?_
              refine r_p (pc2 := 243) dX12_lacks_242 rfl rfl ?_
              exact r_qIp dX12_lacks_243 rfl rfl rfl
          refine r_cle dX12_lacks_123 rfl (fun c123_11 => ?_) (fun c123_11 => ?_)
          · refine r_ip (R := (rIp T)) c123_11 ?_
            have kk := kk.1 c123_11
            refine r_p (pc2 := 131) dX12_lacks_130 rfl rfl ?_
            refine r_get dX12_lacks_131 fkX12_31 rfl rfl ?_
            refine r_p (pc2 := 136) dX12_lacks_134 rfl rfl ?_
            refine r_ia dX12_lacks_136 rfl q1 ?_
            refine r_p (pc2 := 138) dX12_lacks_137 rfl rfl ?_
            refine r_get dX12_lacks_138 fkX12_19 rfl rfl ?_
            refine r_ci (x := 0) dX12_lacks_141 rfl ?_
            refine r_ia dX12_lacks_142 rfl (in_c (by decide)) ?_
            refine r_p (pc2 := 145) dX12_lacks_143 rfl rfl ?_
            refine r_p (pc2 := 146) dX12_lacks_145 rfl rfl ?_
            refine r_cle dX12_lacks_146 rfl (fun c146_12 => ?_) (fun c146_12 => ?_)
            · refine r_ip (R := (rIp T)) c146_12 ?_
              have kk := kk.1 c146_12
              refine r_p (pc2 := 154) dX12_lacks_153 rfl rfl ?_
              refine r_get dX12_lacks_154 fkX12_34 rfl rfl ?_
              refine r_p (pc2 := 159) dX12_lacks_157 rfl rfl ?_
              refine r_ia dX12_lacks_159 rfl q1 ?_
              refine r_p (pc2 := 161) dX12_lacks_160 rfl rfl ?_
              refine r_get dX12_lacks_161 fkX12_19 rfl rfl ?_
              refine r_ci (x := 2) dX12_lacks_164 rfl ?_
              refine r_ia dX12_lacks_165 rfl (in_c (by decide)) ?_
              refine r_cle dX12_lacks_166 rfl (fun c166_13 => ?_) (fun c166_13 => ?_)
              · refine r_ip (R := (rIp T)) c166_13 ?_
                have kk := kk.1 c166_13
                refine r_p (pc2 := 175) dX12_lacks_173 rfl rfl ?_
                refine r_p (pc2 := 177) dX12_lacks_175 rfl rfl ?_
                refine r_cle dX12_lacks_177 rfl (fun c177_14 => ?_) (fun c177_14 => ?_)
                · refine r_ip (R := (rIp T)) c177_14 ?_
                  have kk := kk.1 c177_14
                  refine r_p (pc2 := 185) dX12_lacks_184 rfl rfl ?_
                  refine r_get dX12_lacks_185 fkX12_37 rfl rfl ?_
                  refine r_p (pc2 := 190) dX12_lacks_188 rfl rfl ?_
                  refine r_ia dX12_lacks_190 rfl q1 ?_
                  refine r_p (pc2 := 192) dX12_lacks_191 rfl rfl ?_
                  refine r_p (pc2 := 194) dX12_lacks_192 rfl rfl ?_
                  refine r_p (pc2 := 195) dX12_lacks_194 rfl rfl ?_
                  obtain ⟨q3, kk⟩ := kk
                  refine r_cv (d1 := 2) dX12_lacks_195 cvX12_260 rfl rfl rfl rfl (Nat.le_of_ble_eq_true rfl) (Nat.le_of_ble_eq_true rfl) (Nat.le_of_ble_eq_true rfl) (c_m_handsAt v6 l2 q3) ?_
                  refine r_cle dX12_lacks_198 rfl (fun c198_15 => ?_) (fun c198_15 => ?_)
                  · refine r_ip (R := (rIp T)) c198_15 ?_
                    have kk := kk.1 c198_15
                    refine r_p (pc2 := 206) dX12_lacks_205 rfl rfl ?_
                    refine r_get dX12_lacks_206 fkX12_40 rfl rfl ?_
                    refine r_p (pc2 := 211) dX12_lacks_209 rfl rfl ?_
                    refine r_ia dX12_lacks_211 rfl q1 ?_
                    refine r_p (pc2 := 213) dX12_lacks_212 rfl rfl ?_
                    refine r_get dX12_lacks_213 fkX12_19 rfl rfl ?_
                    refine r_cb (x := 6) dX12_lacks_216 rfl ?_
                    refine r_ia dX12_lacks_218 rfl (in_c (by decide)) ?_
                    refine r_cle dX12_lacks_219 rfl (fun c219_16 => ?_) (fun c219_16 => ?_)
                    · refine r_ip (R := (rIp T)) c219_16 ?_
                      have kk := kk.1 c219_16
                      refine r_ci (x := 0) dX12_lacks_227 rfl ?_
                      show tR _ _ _ _ [some (.ref (571 : Nat)), some (.int l1), some (.int l2), some (.int l3), some (.int j1_s0), some (.int j2_s0), some (.int v6), some (.int ((60 * l1) + v6)), some (.int (x_m_bigOnes T v6 l3)), none] [.int 0] _ _ _
                      exact (hJ3 0 kk)
                    · refine r_in (R := (rIp T)) c219_16 ?_
                      have kk := kk.2 c219_16
                      refine r_cb (x := 6) dX12_lacks_222 rfl ?_
                      refine r_go dX12_lacks_224 rfl ?_
                      show tR _ _ _ _ [some (.ref (571 : Nat)), some (.int l1), some (.int l2), some (.int l3), some (.int j1_s0), some (.int j2_s0), some (.int v6), some (.int ((60 * l1) + v6)), some (.int (x_m_bigOnes T v6 l3)), none] [.int 6] _ _ _
                      exact (hJ3 6 kk)
                  · refine r_in (R := (rIp T)) c198_15 ?_
                    have kk := kk.2 c198_15
                    refine r_ci (x := 5) dX12_lacks_201 rfl ?_
                    refine r_go dX12_lacks_202 rfl ?_
                    show tR _ _ _ _ [some (.ref (571 : Nat)), some (.int l1), some (.int l2), some (.int l3), some (.int j1_s0), some (.int j2_s0), some (.int v6), some (.int ((60 * l1) + v6)), some (.int (x_m_bigOnes T v6 l3)), none] [.int 5] _ _ _
                    exact (hJ3 5 kk)
                · refine r_in (R := (rIp T)) c177_14 ?_
                  have kk := kk.2 c177_14
                  refine r_ci (x := 4) dX12_lacks_180 rfl ?_
                  refine r_go dX12_lacks_181 rfl ?_
                  show tR _ _ _ _ [some (.ref (571 : Nat)), some (.int l1), some (.int l2), some (.int l3), some (.int j1_s0), some (.int j2_s0), some (.int v6), some (.int ((60 * l1) + v6)), some (.int (x_m_bigOnes T v6 l3)), none] [.int 4] _ _ _
                  exact (hJ3 4 kk)
              · refine r_in (R := (rIp T)) c166_13 ?_
                have kk := kk.2 c166_13
                refine r_ci (x := 3) dX12_lacks_169 rfl ?_
                refine r_go dX12_lacks_170 rfl ?_
                show tR _ _ _ _ [some (.ref (571 : Nat)), some (.int l1), some (.int l2), some (.int l3), some (.int j1_s0), some (.int j2_s0), some (.int v6), some (.int ((60 * l1) + v6)), some (.int (x_m_bigOnes T v6 l3)), none] [.int 3] _ _ _
                exact (hJ3 3 kk)
            · refine r_in (R := (rIp T)) c146_12 ?_
              have kk := kk.2 c146_12
              refine r_ci (x := 2) dX12_lacks_149 rfl ?_
              refine r_go dX12_lacks_150 rfl ?_
              show tR _ _ _ _ [some (.ref (571 : Nat)), some (.int l1), some (.int l2), some (.int l3), some (.int j1_s0), some (.int j2_s0), some (.int v6), some (.int ((60 * l1) + v6)), some (.int (x_m_bigOnes T v6 l3)), none] [.int 2] _ _ _
              exact (hJ3 2 kk)
          · refine r_in (R := (rIp T)) c123_11 ?_
            have kk := kk.2 c123_11
            refine r_ci (x := 1) dX12_lacks_126 rfl ?_
            refine r_go dX12_lacks_127 rfl ?_
            show tR _ _ _ _ [some (.ref (571 : Nat)), some (.int l1), some (.int l2), some (.int l3), some (.int j1_s0), some (.int j2_s0), some (.int v6), some (.int ((60 * l1) + v6)), some (.int (x_m_bigOnes T v6 l3)), none] [.int 1] _ _ _
            exact (hJ3 1 kk)
        refine r_cge dX12_lacks_81 rfl (fun c81_17 => ?_) (fun c81_17 => ?_)
        · refine r_ip (R := (rIp T)) c81_17 ?_
          have kk := kk.1 c81_17
          refine r_p (pc2 := 97) dX12_lacks_96 rfl rfl ?_
          refine r_get dX12_lacks_97 fkX12_46 rfl rfl ?_
          refine r_p (pc2 := 102) dX12_lacks_100 rfl rfl ?_
          refine r_ia dX12_lacks_102 rfl q1 ?_
          show tR _ _ _ _ [some (.ref (571 : Nat)), some (.int l1), some (.int l2), some (.int l3), some (.int j1_s0), some (.int v5), some (.int v6), some (.int ((60 * l1) + v6)), none, none] [.int (T.2.2.1 584 ((60 * l1) + v6 : Int32).toNatClampNeg)] _ _ _
          exact (hJ2 (T.2.2.1 584 ((60 * l1) + v6 : Int32).toNatClampNeg) kk)
        · refine r_in (R := (rIp T)) c81_17 ?_
          have kk := kk.2 c81_17
          refine r_p (pc2 := 86) dX12_lacks_84 rfl rfl ?_
          refine r_p (pc2 := 87) dX12_lacks_86 rfl rfl ?_
          refine r_get dX12_lacks_87 fkX12_19 rfl rfl ?_
          refine r_ci (x := 3) dX12_lacks_90 rfl ?_
          refine r_ia dX12_lacks_91 rfl (in_c (by decide)) ?_
          refine r_p (pc2 := 93) dX12_lacks_92 rfl rfl ?_
          refine r_go dX12_lacks_93 rfl ?_
          show tR _ _ _ _ [some (.ref (571 : Nat)), some (.int l1), some (.int l2), some (.int l3), some (.int j1_s0), some (.int v5), some (.int v6), some (.int ((60 * l1) + v6)), none, none] [.int (v5 + (T.2.2.1 575 (3 : Int32).toNatClampNeg))] _ _ _
          exact (hJ2 (v5 + (T.2.2.1 575 (3 : Int32).toNatClampNeg)) kk)
      refine r_cle dX12_lacks_41 rfl (fun c41_18 => ?_) (fun c41_18 => ?_)
      · refine r_ip (R := (rIp T)) c41_18 ?_
        have kk := kk.1 c41_18
        refine r_p (pc2 := 57) dX12_lacks_56 rfl rfl ?_
        refine r_get dX12_lacks_57 fkX12_43 rfl rfl ?_
        refine r_p (pc2 := 62) dX12_lacks_60 rfl rfl ?_
        refine r_ia dX12_lacks_62 rfl q1 ?_
        show tR _ _ _ _ [some (.ref (571 : Nat)), some (.int l1), some (.int l2), some (.int l3), some (.int v4), some (.int v5), some (.int v6), some (.int ((60 * l1) + v6)), none, none] [.int (T.2.2.1 583 ((60 * l1) + v6 : Int32).toNatClampNeg)] _ _ _
        exact (hJ1 (T.2.2.1 583 ((60 * l1) + v6 : Int32).toNatClampNeg) kk)
      · refine r_in (R := (rIp T)) c41_18 ?_
        have kk := kk.2 c41_18
        refine r_p (pc2 := 46) dX12_lacks_44 rfl rfl ?_
        refine r_p (pc2 := 47) dX12_lacks_46 rfl rfl ?_
        refine r_get dX12_lacks_47 fkX12_19 rfl rfl ?_
        refine r_ci (x := 4) dX12_lacks_50 rfl ?_
        refine r_ia dX12_lacks_51 rfl (in_c (by decide)) ?_
        refine r_p (pc2 := 53) dX12_lacks_52 rfl rfl ?_
        refine r_go dX12_lacks_53 rfl ?_
        show tR _ _ _ _ [some (.ref (571 : Nat)), some (.int l1), some (.int l2), some (.int l3), some (.int v4), some (.int v5), some (.int v6), some (.int ((60 * l1) + v6)), none, none] [.int (v4 - (T.2.2.1 575 (4 : Int32).toNatClampNeg))] _ _ _
        exact (hJ1 (v4 - (T.2.2.1 575 (4 : Int32).toNatClampNeg)) kk)
def x_m_lacks (T : St) (p0 : Int32) (p1 : Int32) (p2 : Int32) : Int32 := x_m_lacks_9 T p0 p1 p2 (fun (w1_4 : Int32) (w1_5 : Int32) (w1_6 : Int32) => (-1000000)) 1000 0 0 0
def ok_m_lacks (T : St) (p0 : Int32) (p1 : Int32) (p2 : Int32) : Prop := ok_m_lacks_9 T p0 p1 p2 (fun (w1_4 : Int32) (w1_5 : Int32) (w1_6 : Int32) => True) 1000 0 0 0
theorem c_m_lacks {X : Nat × (Nat → Int32)} {T : St} (p0 : Int32) (p1 : Int32) (p2 : Int32) (kk : ok_m_lacks T p0 p1 p2) : tC X 3 mX12_lacks [.ref (571 : Nat), .int p0, .int p1, .int p2] T (some (.int (x_m_lacks T p0 p1 p2))) T := by
  unfold ok_m_lacks at kk
  refine tC_orIp (L := [some (.ref (571 : Nat)), some (.int p0), some (.int p1), some (.int p2), none, none, none, none, none, none]) (x_m_lacks T p0 p1 p2) rfl ?_
  unfold x_m_lacks
  refine r_ci (x := 0) dX12_lacks_0 rfl ?_
  refine r_p (pc2 := 3) (L2 := [some (.ref (571 : Nat)), some (.int p0), some (.int p1), some (.int p2), some (.int 0), none, none, none, none, none]) dX12_lacks_1 rfl rfl ?_
  refine r_ci (x := 0) dX12_lacks_3 rfl ?_
  refine r_p (pc2 := 6) (L2 := [some (.ref (571 : Nat)), some (.int p0), some (.int p1), some (.int p2), some (.int 0), some (.int 0), none, none, none, none]) dX12_lacks_4 rfl rfl ?_
  refine r_ci (x := 0) dX12_lacks_6 rfl ?_
  refine r_p (pc2 := 9) (L2 := [some (.ref (571 : Nat)), some (.int p0), some (.int p1), some (.int p2), some (.int 0), some (.int 0), some (.int 0), none, none, none]) dX12_lacks_7 rfl rfl ?_
  show tR _ _ _ _ [some (.ref (571 : Nat)), some (.int p0), some (.int p1), some (.int p2), some (.int 0), some (.int 0), some (.int 0), none, none, none] _ _ _ _
  refine (c_m_lacks_9 T p0 p1 p2 (fun w1_4 w1_5 w1_6 kk => ?_) 1000 0 0 0  kk)
  · skip
    refine r_k dX12_lacks_250 kkX12_137 ?_
    exact r_qIp dX12_lacks_252 rfl rfl rfl
def x_m_layBegins_92 (l1 : Int32) (l2 : Int32) (l3 : Int32) (l4 : Int32) (l5 : Int32) (l6 : Int32) (l7 : Int32) (l8 : Int32) (K : Int32 → Int32 → Int32 → Int32 → Int32 → St → Int32 × St) : Nat → Int32 → Int32 → Int32 → Int32 → Int32 → St → Int32 × St
  | 0, _, _, _, _, _, T => (0, T)
  | f + 1, v9, v10, v11, v12, v13, T => if v13 < 0 then (K v9 v10 v11 v12 v13 T) else (jn (fun (i8 : Int32) => jn (fun (KJ1 : Int32 → Int32 × St) => if v13 = (l4 - 1) then (KJ1 0) else (if v13 = 0 then (KJ1 l7) else (KJ1 l8))) (fun (j1_s0 : Int32) => jn (fun (i9 : Int32) => jn (fun (KJ2 : Int32 → Int32 × St) => if (x_m_stepOf (sA T 588 ((3 * l1) + v13 : Int32).toNatClampNeg ((v9 - j1_s0) - (x_m_stepOf T i8 1))) i8 0) = 5 then (KJ2 ((x_m_stepOf (sA T 588 ((3 * l1) + v13 : Int32).toNatClampNeg ((v9 - j1_s0) - (x_m_stepOf T i8 1))) i8 4) * (x_m_stepOf (sA T 588 ((3 * l1) + v13 : Int32).toNatClampNeg ((v9 - j1_s0) - (x_m_stepOf T i8 1))) i8 1))) else (KJ2 0)) (fun (j2_s1 : Int32) => if v12 = 0 then (x_m_layBegins_92 l1 l2 l3 l4 l5 l6 l7 l8 K f i9 (v10 + j1_s0) (v11 + j2_s1) 0 (v13 + (-1)) (sA T 588 ((3 * l1) + v13 : Int32).toNatClampNeg ((v9 - j1_s0) - (x_m_stepOf T i8 1)))) else (jn (fun (KJ3 : Int32 × St) => if ((sA T 588 ((3 * l1) + v13 : Int32).toNatClampNeg ((v9 - j1_s0) - (x_m_stepOf T i8 1))).1 571 32) ≤ 0 then (KJ3) else (if ((sA T 588 ((3 * l1) + v13 : Int32).toNatClampNeg ((v9 - j1_s0) - (x_m_stepOf T i8 1))).1 571 32) ≤ ((sA T 588 ((3 * l1) + v13 : Int32).toNatClampNeg ((v9 - j1_s0) - (x_m_stepOf T i8 1))).2.2.1 591 ((3 * l1) + v13 : Int32).toNatClampNeg) then (KJ3) else (if i9 = ((sA T 588 ((3 * l1) + v13 : Int32).toNatClampNeg ((v9 - j1_s0) - (x_m_stepOf T i8 1))).2.2.1 591 ((3 * l1) + v13 : Int32).toNatClampNeg) then (x_m_layBegins_92 l1 l2 l3 l4 l5 l6 l7 l8 K f i9 (v10 + j1_s0) (v11 + j2_s1) 1 (v13 + (-1)) (sA T 588 ((3 * l1) + v13 : Int32).toNatClampNeg ((v9 - j1_s0) - (x_m_stepOf T i8 1)))) else (x_m_layBegins_92 l1 l2 l3 l4 l5 l6 l7 l8 K f i9 (v10 + j1_s0) (v11 + j2_s1) 0 (v13 + (-1)) (sA T 588 ((3 * l1) + v13 : Int32).toNatClampNeg ((v9 - j1_s0) - (x_m_stepOf T i8 1))))))) (if i9 < ((sA T 588 ((3 * l1) + v13 : Int32).toNatClampNeg ((v9 - j1_s0) - (x_m_stepOf T i8 1))).1 571 32) then (x_m_layBegins_92 l1 l2 l3 l4 l5 l6 l7 l8 K f i9 (v10 + j1_s0) (v11 + j2_s1) 0 (v13 + (-1)) (sA T 588 ((3 * l1) + v13 : Int32).toNatClampNeg ((v9 - j1_s0) - (x_m_stepOf T i8 1)))) else (x_m_layBegins_92 l1 l2 l3 l4 l5 l6 l7 l8 K f i9 (v10 + j1_s0) (v11 + j2_s1) 1 (v13 + (-1)) (sA T 588 ((3 * l1) + v13 : Int32).toNatClampNeg ((v9 - j1_s0) - (x_m_stepOf T i8 1)))))))) ((sA T 588 ((3 * l1) + v13 : Int32).toNatClampNeg ((v9 - j1_s0) - (x_m_stepOf T i8 1))).2.2.1 588 ((3 * l1) + v13 : Int32).toNatClampNeg))) ((x_m_dishOf T l3 4) + v13))
def ok_m_layBegins_92 (l1 : Int32) (l2 : Int32) (l3 : Int32) (l4 : Int32) (l5 : Int32) (l6 : Int32) (l7 : Int32) (l8 : Int32) (Kk : Int32 → Int32 → Int32 → Int32 → Int32 → St → Prop) : Nat → Int32 → Int32 → Int32 → Int32 → Int32 → St → Prop
  | 0, _, _, _, _, _, _ => False
  | f + 1, v9, v10, v11, v12, v13, T => ((v13 < 0 → Kk v9 v10 v11 v12 v13 T) ∧ (¬ v13 < 0 → (ok_m_dishOf T l3 4) ∧ jn (fun (i8 : Int32) => jn (fun (OJ1 : Int32 → Prop) => ((v13 = (l4 - 1) → OJ1 0) ∧ (¬ v13 = (l4 - 1) → ((v13 = 0 → OJ1 l7) ∧ (¬ v13 = 0 → OJ1 l8))))) (fun (j1_s0 : Int32) => (ok_m_stepOf T i8 1) ∧ (vp_in ((3 * l1) + v13) 12) ∧ jn (fun (i9 : Int32) => (ok_m_stepOf (sA T 588 ((3 * l1) + v13 : Int32).toNatClampNeg ((v9 - j1_s0) - (x_m_stepOf T i8 1))) i8 0) ∧ jn (fun (OJ2 : Int32 → Prop) => (((x_m_stepOf (sA T 588 ((3 * l1) + v13 : Int32).toNatClampNeg ((v9 - j1_s0) - (x_m_stepOf T i8 1))) i8 0) = 5 → (ok_m_stepOf (sA T 588 ((3 * l1) + v13 : Int32).toNatClampNeg ((v9 - j1_s0) - (x_m_stepOf T i8 1))) i8 4) ∧ (ok_m_stepOf (sA T 588 ((3 * l1) + v13 : Int32).toNatClampNeg ((v9 - j1_s0) - (x_m_stepOf T i8 1))) i8 1) ∧ OJ2 ((x_m_stepOf (sA T 588 ((3 * l1) + v13 : Int32).toNatClampNeg ((v9 - j1_s0) - (x_m_stepOf T i8 1))) i8 4) * (x_m_stepOf (sA T 588 ((3 * l1) + v13 : Int32).toNatClampNeg ((v9 - j1_s0) - (x_m_stepOf T i8 1))) i8 1))) ∧ (¬ (x_m_stepOf (sA T 588 ((3 * l1) + v13 : Int32).toNatClampNeg ((v9 - j1_s0) - (x_m_stepOf T i8 1))) i8 0) = 5 → OJ2 0))) (fun (j2_s1 : Int32) => ((v12 = 0 → ok_m_layBegins_92 l1 l2 l3 l4 l5 l6 l7 l8 Kk f i9 (v10 + j1_s0) (v11 + j2_s1) 0 (v13 + (-1)) (sA T 588 ((3 * l1) + v13 : Int32).toNatClampNeg ((v9 - j1_s0) - (x_m_stepOf T i8 1)))) ∧ (¬ v12 = 0 → jn (fun (OJ3 : Prop) => ((((sA T 588 ((3 * l1) + v13 : Int32).toNatClampNeg ((v9 - j1_s0) - (x_m_stepOf T i8 1))).1 571 32) ≤ 0 → OJ3) ∧ (¬ ((sA T 588 ((3 * l1) + v13 : Int32).toNatClampNeg ((v9 - j1_s0) - (x_m_stepOf T i8 1))).1 571 32) ≤ 0 → ((((sA T 588 ((3 * l1) + v13 : Int32).toNatClampNeg ((v9 - j1_s0) - (x_m_stepOf T i8 1))).1 571 32) ≤ ((sA T 588 ((3 * l1) + v13 : Int32).toNatClampNeg ((v9 - j1_s0) - (x_m_stepOf T i8 1))).2.2.1 591 ((3 * l1) + v13 : Int32).toNatClampNeg) → OJ3) ∧ (¬ ((sA T 588 ((3 * l1) + v13 : Int32).toNatClampNeg ((v9 - j1_s0) - (x_m_stepOf T i8 1))).1 571 32) ≤ ((sA T 588 ((3 * l1) + v13 : Int32).toNatClampNeg ((v9 - j1_s0) - (x_m_stepOf T i8 1))).2.2.1 591 ((3 * l1) + v13 : Int32).toNatClampNeg) → ((i9 = ((sA T 588 ((3 * l1) + v13 : Int32).toNatClampNeg ((v9 - j1_s0) - (x_m_stepOf T i8 1))).2.2.1 591 ((3 * l1) + v13 : Int32).toNatClampNeg) → ok_m_layBegins_92 l1 l2 l3 l4 l5 l6 l7 l8 Kk f i9 (v10 + j1_s0) (v11 + j2_s1) 1 (v13 + (-1)) (sA T 588 ((3 * l1) + v13 : Int32).toNatClampNeg ((v9 - j1_s0) - (x_m_stepOf T i8 1)))) ∧ (¬ i9 = ((sA T 588 ((3 * l1) + v13 : Int32).toNatClampNeg ((v9 - j1_s0) - (x_m_stepOf T i8 1))).2.2.1 591 ((3 * l1) + v13 : Int32).toNatClampNeg) → ok_m_layBegins_92 l1 l2 l3 l4 l5 l6 l7 l8 Kk f i9 (v10 + j1_s0) (v11 + j2_s1) 0 (v13 + (-1)) (sA T 588 ((3 * l1) + v13 : Int32).toNatClampNeg ((v9 - j1_s0) - (x_m_stepOf T i8 1)))))))))) (((i9 < ((sA T 588 ((3 * l1) + v13 : Int32).toNatClampNeg ((v9 - j1_s0) - (x_m_stepOf T i8 1))).1 571 32) → ok_m_layBegins_92 l1 l2 l3 l4 l5 l6 l7 l8 Kk f i9 (v10 + j1_s0) (v11 + j2_s1) 0 (v13 + (-1)) (sA T 588 ((3 * l1) + v13 : Int32).toNatClampNeg ((v9 - j1_s0) - (x_m_stepOf T i8 1)))) ∧ (¬ i9 < ((sA T 588 ((3 * l1) + v13 : Int32).toNatClampNeg ((v9 - j1_s0) - (x_m_stepOf T i8 1))).1 571 32) → ok_m_layBegins_92 l1 l2 l3 l4 l5 l6 l7 l8 Kk f i9 (v10 + j1_s0) (v11 + j2_s1) 1 (v13 + (-1)) (sA T 588 ((3 * l1) + v13 : Int32).toNatClampNeg ((v9 - j1_s0) - (x_m_stepOf T i8 1)))))))))) ((sA T 588 ((3 * l1) + v13 : Int32).toNatClampNeg ((v9 - j1_s0) - (x_m_stepOf T i8 1))).2.2.1 588 ((3 * l1) + v13 : Int32).toNatClampNeg))) ((x_m_dishOf T l3 4) + v13)))
theorem c_m_layBegins_92 {X : Nat × (Nat → Int32)} (l1 : Int32) (l2 : Int32) (l3 : Int32) (l4 : Int32) (l5 : Int32) (l6 : Int32) (l7 : Int32) (l8 : Int32) {K : Int32 → Int32 → Int32 → Int32 → Int32 → St → Int32 × St} {Kk : Int32 → Int32 → Int32 → Int32 → Int32 → St → Prop} (hk : ∀ (v9 : Int32) (v10 : Int32) (v11 : Int32) (v12 : Int32) (v13 : Int32) (T : St), Kk v9 v10 v11 v12 v13 T → tR X 2 mX12_layBegins 285 [some (.ref (571 : Nat)), some (.int l1), some (.int l2), some (.int l3), some (.int l4), some (.int l5), some (.int l6), some (.int l7), some (.int l8), some (.int v9), some (.int v10), some (.int v11), some (.int v12), some (.int v13), none, none] [] T (rI (K v9 v10 v11 v12 v13 T)).1 ((rI (K v9 v10 v11 v12 v13 T)).2)) : ∀ (f : Nat) (v9 : Int32) (v10 : Int32) (v11 : Int32) (v12 : Int32) (v13 : Int32) (T : St), ok_m_layBegins_92 l1 l2 l3 l4 l5 l6 l7 l8 Kk f v9 v10 v11 v12 v13 T → tR X 2 mX12_layBegins 92 [some (.ref (571 : Nat)), some (.int l1), some (.int l2), some (.int l3), some (.int l4), some (.int l5), some (.int l6), some (.int l7), some (.int l8), some (.int v9), some (.int v10), some (.int v11), some (.int v12), some (.int v13), none, none] [] T (rI (x_m_layBegins_92 l1 l2 l3 l4 l5 l6 l7 l8 K f v9 v10 v11 v12 v13 T)).1 ((rI (x_m_layBegins_92 l1 l2 l3 l4 l5 l6 l7 l8 K f v9 v10 v11 v12 v13 T)).2) := by
  intro f
  induction f with
  | zero => intro v9 v10 v11 v12 v13 T kk; exact kk.elim
  | succ f ih =>
    intro v9 v10 v11 v12 v13 T kk
    rw [ok_m_layBegins_92] at kk
    rw [x_m_layBegins_92]
    refine r_p (pc2 := 94) dX12_layBegins_92 rfl rfl ?_
    refine r_ilt dX12_layBegins_94 rfl (fun c94_1 => ?_) (fun c94_1 => ?_)
    · refine r_ip (R := rI) c94_1 ?_
      have kk := kk.1 c94_1
      show tR _ _ _ _ [some (.ref (571 : Nat)), some (.int l1), some (.int l2), some (.int l3), some (.int l4), some (.int l5), some (.int l6), some (.int l7), some (.int l8), some (.int v9), some (.int v10), some (.int v11), some (.int v12), some (.int v13), none, none] _ _ _ _
      exact (hk v9 v10 v11 v12 v13 T kk)
    · refine r_in (R := rI) c94_1 ?_
      have kk := kk.2 c94_1
      refine r_p (pc2 := 98) dX12_layBegins_97 rfl rfl ?_
      refine r_p (pc2 := 99) dX12_layBegins_98 rfl rfl ?_
      refine r_ci (x := 4) dX12_layBegins_99 rfl ?_
      obtain ⟨q8, kk⟩ := kk
      refine r_cv (d1 := 1) dX12_layBegins_100 cvX12_228 rfl rfl rfl rfl (Nat.le_of_ble_eq_true rfl) (Nat.le_of_ble_eq_true rfl) (Nat.le_of_ble_eq_true rfl) (c_m_dishOf l3 4 q8) ?_
      refine r_p (pc2 := 105) dX12_layBegins_103 rfl rfl ?_
      refine r_p (pc2 := 106) dX12_layBegins_105 rfl rfl ?_
      refine r_nI (R := rI) rfl kk (fun i8 kk => ?_)
      refine r_p (pc2 := 108) (L2 := [some (.ref (571 : Nat)), some (.int l1), some (.int l2), some (.int l3), some (.int l4), some (.int l5), some (.int l6), some (.int l7), some (.int l8), some (.int v9), some (.int v10), some (.int v11), some (.int v12), some (.int v13), some (.int i8), none]) dX12_layBegins_106 rfl rfl ?_
      refine r_p (pc2 := 110) dX12_layBegins_108 rfl rfl ?_
      refine r_p (pc2 := 112) dX12_layBegins_110 rfl rfl ?_
      refine r_ci (x := 1) dX12_layBegins_112 rfl ?_
      refine r_p (pc2 := 114) dX12_layBegins_113 rfl rfl ?_
      refine r_jn (R := rI) (J := fun (KJ1 : Int32 → Int32 × St) (OJ1 : Int32 → Prop) => ∀ (j1_s0 : Int32), OJ1 j1_s0 → tR X 2 mX12_layBegins 133 [some (.ref (571 : Nat)), some (.int l1), some (.int l2), some (.int l3), some (.int l4), some (.int l5), some (.int l6), some (.int l7), some (.int l8), some (.int v9), some (.int v10), some (.int v11), some (.int v12), some (.int v13), some (.int i8), none] [.int j1_s0] T (rI (KJ1 j1_s0)).1 (rI (KJ1 j1_s0)).2) kk (fun j1_s0 kk => ?_) (fun KJ1 OJ1 hJ1 kk => ?_)
      · skip
        refine r_p (pc2 := 135) (L2 := [some (.ref (571 : Nat)), some (.int l1), some (.int l2), some (.int l3), some (.int l4), some (.int l5), some (.int l6), some (.int l7), some (.int l8), some (.int v9), some (.int v10), some (.int v11), some (.int v12), some (.int v13), some (.int i8), some (.int j1_s0)]) dX12_layBegins_133 rfl rfl ?_
        refine r_p (pc2 := 136) dX12_layBegins_135 rfl rfl ?_
        refine r_get dX12_layBegins_136 fkX12_58 rfl rfl ?_
        refine r_ci (x := 3) dX12_layBegins_139 rfl ?_
        refine r_p (pc2 := 141) dX12_layBegins_140 rfl rfl ?_
        refine r_p (pc2 := 142) dX12_layBegins_141 rfl rfl ?_
        refine r_p (pc2 := 144) dX12_layBegins_142 rfl rfl ?_
        refine r_p (pc2 := 145) dX12_layBegins_144 rfl rfl ?_
        refine r_p (pc2 := 147) dX12_layBegins_145 rfl rfl ?_
        refine r_p (pc2 := 149) dX12_layBegins_147 rfl rfl ?_
        refine r_p (pc2 := 150) dX12_layBegins_149 rfl rfl ?_
        refine r_p (pc2 := 151) dX12_layBegins_150 rfl rfl ?_
        refine r_p (pc2 := 153) dX12_layBegins_151 rfl rfl ?_
        refine r_ci (x := 1) dX12_layBegins_153 rfl ?_
        obtain ⟨q9, kk⟩ := kk
        refine r_cv (d1 := 1) dX12_layBegins_154 cvX12_232 rfl rfl rfl rfl (Nat.le_of_ble_eq_true rfl) (Nat.le_of_ble_eq_true rfl) (Nat.le_of_ble_eq_true rfl) (c_m_stepOf i8 1 q9) ?_
        refine r_p (pc2 := 158) dX12_layBegins_157 rfl rfl ?_
        obtain ⟨q10, kk⟩ := kk
        refine r_ias dX12_layBegins_158 rfl q10 ?_
        refine r_p (pc2 := 160) dX12_layBegins_159 rfl rfl ?_
        refine r_get dX12_layBegins_160 fkX12_58 rfl rfl ?_
        refine r_ci (x := 3) dX12_layBegins_163 rfl ?_
        refine r_p (pc2 := 165) dX12_layBegins_164 rfl rfl ?_
        refine r_p (pc2 := 166) dX12_layBegins_165 rfl rfl ?_
        refine r_p (pc2 := 168) dX12_layBegins_166 rfl rfl ?_
        refine r_p (pc2 := 169) dX12_layBegins_168 rfl rfl ?_
        refine r_ia dX12_layBegins_169 rfl q10 ?_
        refine r_nI (R := rI) rfl kk (fun i9 kk => ?_)
        refine r_p (pc2 := 172) (L2 := [some (.ref (571 : Nat)), some (.int l1), some (.int l2), some (.int l3), some (.int l4), some (.int l5), some (.int l6), some (.int l7), some (.int l8), some (.int i9), some (.int v10), some (.int v11), some (.int v12), some (.int v13), some (.int i8), some (.int j1_s0)]) dX12_layBegins_170 rfl rfl ?_
        refine r_p (pc2 := 174) dX12_layBegins_172 rfl rfl ?_
        refine r_p (pc2 := 176) dX12_layBegins_174 rfl rfl ?_
        refine r_p (pc2 := 177) dX12_layBegins_176 rfl rfl ?_
        refine r_p (pc2 := 179) (L2 := [some (.ref (571 : Nat)), some (.int l1), some (.int l2), some (.int l3), some (.int l4), some (.int l5), some (.int l6), some (.int l7), some (.int l8), some (.int i9), some (.int (v10 + j1_s0)), some (.int v11), some (.int v12), some (.int v13), some (.int i8), some (.int j1_s0)]) dX12_layBegins_177 rfl rfl ?_
        refine r_p (pc2 := 181) dX12_layBegins_179 rfl rfl ?_
        refine r_p (pc2 := 182) dX12_layBegins_181 rfl rfl ?_
        refine r_p (pc2 := 184) dX12_layBegins_182 rfl rfl ?_
        refine r_ci (x := 0) dX12_layBegins_184 rfl ?_
        obtain ⟨q11, kk⟩ := kk
        refine r_cv (d1 := 1) dX12_layBegins_185 cvX12_232 rfl rfl rfl rfl (Nat.le_of_ble_eq_true rfl) (Nat.le_of_ble_eq_true rfl) (Nat.le_of_ble_eq_true rfl) (c_m_stepOf i8 0 q11) ?_
        refine r_ci (x := 5) dX12_layBegins_188 rfl ?_
        refine r_jn (R := rI) (J := fun (KJ2 : Int32 → Int32 × St) (OJ2 : Int32 → Prop) => ∀ (j2_s1 : Int32), OJ2 j2_s1 → tR X 2 mX12_layBegins 211 [some (.ref (571 : Nat)), some (.int l1), some (.int l2), some (.int l3), some (.int l4), some (.int l5), some (.int l6), some (.int l7), some (.int l8), some (.int i9), some (.int (v10 + j1_s0)), some (.int v11), some (.int v12), some (.int v13), some (.int i8), some (.int j1_s0)] [.int j2_s1, .int v11] (sA T 588 ((3 * l1) + v13 : Int32).toNatClampNeg ((v9 - j1_s0) - (x_m_stepOf T i8 1))) (rI (KJ2 j2_s1)).1 (rI (KJ2 j2_s1)).2) kk (fun j2_s1 kk => ?_) (fun KJ2 OJ2 hJ2 kk => ?_)
        · skip
          refine r_p (pc2 := 212) dX12_layBegins_211 rfl rfl ?_
          refine r_p (pc2 := 214) (L2 := [some (.ref (571 : Nat)), some (.int l1), some (.int l2), some (.int l3), some (.int l4), some (.int l5), some (.int l6), some (.int l7), some (.int l8), some (.int i9), some (.int (v10 + j1_s0)), some (.int (v11 + j2_s1)), some (.int v12), some (.int v13), some (.int i8), some (.int j1_s0)]) dX12_layBegins_212 rfl rfl ?_
          refine r_p (pc2 := 216) dX12_layBegins_214 rfl rfl ?_
          refine r_ieq dX12_layBegins_216 rfl (fun c216_5 => ?_) (fun c216_5 => ?_)
          · refine r_ip (R := rI) c216_5 ?_
            have kk := kk.1 c216_5
            refine r_ci (x := 0) dX12_layBegins_276 rfl ?_
            refine r_p (pc2 := 279) (L2 := [some (.ref (571 : Nat)), some (.int l1), some (.int l2), some (.int l3), some (.int l4), some (.int l5), some (.int l6), some (.int l7), some (.int l8), some (.int i9), some (.int (v10 + j1_s0)), some (.int (v11 + j2_s1)), some (.int 0), some (.int v13), some (.int i8), some (.int j1_s0)]) dX12_layBegins_277 rfl rfl ?_
            refine r_inc (L2 := [some (.ref (571 : Nat)), some (.int l1), some (.int l2), some (.int l3), some (.int l4), some (.int l5), some (.int l6), some (.int l7), some (.int l8), some (.int i9), some (.int (v10 + j1_s0)), some (.int (v11 + j2_s1)), some (.int 0), some (.int (v13 + (-1))), some (.int i8), some (.int j1_s0)]) (y := -1) dX12_layBegins_279 rfl rfl rfl ?_
            refine r_go dX12_layBegins_282 rfl ?_
            show tR _ _ _ _ [some (.ref (571 : Nat)), some (.int l1), some (.int l2), some (.int l3), some (.int l4), some (.int l5), some (.int l6), some (.int l7), some (.int l8), some (.int i9), some (.int (v10 + j1_s0)), some (.int (v11 + j2_s1)), some (.int 0), some (.int (v13 + (-1))), some (.int i8), some (.int j1_s0)] _ _ _ _
            exact r_le (le_s (le_s (le_s (le_s (le_s (le_s (le_s (le_s (le_s (le_s (le_s (le_s (le_s (le_s (le_n (le_n (le_0))))))))))))))))) (ih i9 (v10 + j1_s0) (v11 + j2_s1) 0 (v13 + (-1)) (sA T 588 ((3 * l1) + v13 : Int32).toNatClampNeg ((v9 - j1_s0) - (x_m_stepOf T i8 1))) kk)
          · refine r_in (R := rI) c216_5 ?_
            have kk := kk.2 c216_5
            refine r_p (pc2 := 220) dX12_layBegins_219 rfl rfl ?_
            refine r_get dX12_layBegins_220 fkX12_268 rfl rfl ?_
            refine r_jn (R := rI) (J := fun (KJ3 : Int32 × St) (OJ3 : Prop) => OJ3 → tR X 2 mX12_layBegins 263 [some (.ref (571 : Nat)), some (.int l1), some (.int l2), some (.int l3), some (.int l4), some (.int l5), some (.int l6), some (.int l7), some (.int l8), some (.int i9), some (.int (v10 + j1_s0)), some (.int (v11 + j2_s1)), some (.int v12), some (.int v13), some (.int i8), some (.int j1_s0)] [] (sA T 588 ((3 * l1) + v13 : Int32).toNatClampNeg ((v9 - j1_s0) - (x_m_stepOf T i8 1))) (rI KJ3).1 (rI KJ3).2) kk (fun  kk => ?_) (fun KJ3 OJ3 hJ3 kk => ?_)
            · skip
              refine r_p (pc2 := 265) dX12_layBegins_263 rfl rfl ?_
              refine r_p (pc2 := 266) dX12_layBegins_265 rfl rfl ?_
              refine r_get dX12_layBegins_266 fkX12_268 rfl rfl ?_
              refine r_clt dX12_layBegins_269 rfl (fun c269_9 => ?_) (fun c269_9 => ?_)
              · refine r_ip (R := rI) c269_9 ?_
                have kk := kk.1 c269_9
                refine r_ci (x := 0) dX12_layBegins_276 rfl ?_
                refine r_p (pc2 := 279) (L2 := [some (.ref (571 : Nat)), some (.int l1), some (.int l2), some (.int l3), some (.int l4), some (.int l5), some (.int l6), some (.int l7), some (.int l8), some (.int i9), some (.int (v10 + j1_s0)), some (.int (v11 + j2_s1)), some (.int 0), some (.int v13), some (.int i8), some (.int j1_s0)]) dX12_layBegins_277 rfl rfl ?_
                refine r_inc (L2 := [some (.ref (571 : Nat)), some (.int l1), some (.int l2), some (.int l3), some (.int l4), some (.int l5), some (.int l6), some (.int l7), some (.int l8), some (.int i9), some (.int (v10 + j1_s0)), some (.int (v11 + j2_s1)), some (.int 0), some (.int (v13 + (-1))), some (.int i8), some (.int j1_s0)]) (y := -1) dX12_layBegins_279 rfl rfl rfl ?_
                refine r_go dX12_layBegins_282 rfl ?_
                show tR _ _ _ _ [some (.ref (571 : Nat)), some (.int l1), some (.int l2), some (.int l3), some (.int l4), some (.int l5), some (.int l6), some (.int l7), some (.int l8), some (.int i9), some (.int (v10 + j1_s0)), some (.int (v11 + j2_s1)), some (.int 0), some (.int (v13 + (-1))), some (.int i8), some (.int j1_s0)] _ _ _ _
                exact r_le (le_s (le_s (le_s (le_s (le_s (le_s (le_s (le_s (le_s (le_s (le_s (le_s (le_s (le_s (le_n (le_n (le_0))))))))))))))))) (ih i9 (v10 + j1_s0) (v11 + j2_s1) 0 (v13 + (-1)) (sA T 588 ((3 * l1) + v13 : Int32).toNatClampNeg ((v9 - j1_s0) - (x_m_stepOf T i8 1))) kk)
              · refine r_in (R := rI) c269_9 ?_
                have kk := kk.2 c269_9
                refine r_ci (x := 1) dX12_layBegins_272 rfl ?_
                refine r_go dX12_layBegins_273 rfl ?_
                refine r_p (pc2 := 279) (L2 := [some (.ref (571 : Nat)), some (.int l1), some (.int l2), some (.int l3), some (.int l4), some (.int l5), some (.int l6), some (.int l7), some (.int l8), some (.int i9), some (.int (v10 + j1_s0)), some (.int (v11 + j2_s1)), some (.int 1), some (.int v13), some (.int i8), some (.int j1_s0)]) dX12_layBegins_277 rfl rfl ?_
                refine r_inc (L2 := [some (.ref (571 : Nat)), some (.int l1), some (.int l2), some (.int l3), some (.int l4), some (.int l5), some (.int l6), some (.int l7), some (.int l8), some (.int i9), some (.int (v10 + j1_s0)), some (.int (v11 + j2_s1)), some (.int 1), some (.int (v13 + (-1))), some (.int i8), some (.int j1_s0)]) (y := -1) dX12_layBegins_279 rfl rfl rfl ?_
                refine r_go dX12_layBegins_282 rfl ?_
                show tR _ _ _ _ [some (.ref (571 : Nat)), some (.int l1), some (.int l2), some (.int l3), some (.int l4), some (.int l5), some (.int l6), some (.int l7), some (.int l8), some (.int i9), some (.int (v10 + j1_s0)), some (.int (v11 + j2_s1)), some (.int 1), some (.int (v13 + (-1))), some (.int i8), some (.int j1_s0)] _ _ _ _
                exact r_le (le_s (le_s (le_s (le_s (le_s (le_s (le_s (le_s (le_s (le_s (le_s (le_s (le_s (le_s (le_n (le_n (le_0))))))))))))))))) (ih i9 (v10 + j1_s0) (v11 + j2_s1) 1 (v13 + (-1)) (sA T 588 ((3 * l1) + v13 : Int32).toNatClampNeg ((v9 - j1_s0) - (x_m_stepOf T i8 1))) kk)
            refine r_ile dX12_layBegins_223 rfl (fun c223_10 => ?_) (fun c223_10 => ?_)
            · refine r_ip (R := rI) c223_10 ?_
              have kk := kk.1 c223_10
              show tR _ _ _ _ [some (.ref (571 : Nat)), some (.int l1), some (.int l2), some (.int l3), some (.int l4), some (.int l5), some (.int l6), some (.int l7), some (.int l8), some (.int i9), some (.int (v10 + j1_s0)), some (.int (v11 + j2_s1)), some (.int v12), some (.int v13), some (.int i8), some (.int j1_s0)] [] _ _ _
              exact (hJ3  kk)
            · refine r_in (R := rI) c223_10 ?_
              have kk := kk.2 c223_10
              refine r_p (pc2 := 227) dX12_layBegins_226 rfl rfl ?_
              refine r_get dX12_layBegins_227 fkX12_67 rfl rfl ?_
              refine r_ci (x := 3) dX12_layBegins_230 rfl ?_
              refine r_p (pc2 := 232) dX12_layBegins_231 rfl rfl ?_
              refine r_p (pc2 := 233) dX12_layBegins_232 rfl rfl ?_
              refine r_p (pc2 := 235) dX12_layBegins_233 rfl rfl ?_
              refine r_p (pc2 := 236) dX12_layBegins_235 rfl rfl ?_
              refine r_ia dX12_layBegins_236 rfl q10 ?_
              refine r_p (pc2 := 238) dX12_layBegins_237 rfl rfl ?_
              refine r_get dX12_layBegins_238 fkX12_268 rfl rfl ?_
              refine r_cge dX12_layBegins_241 rfl (fun c241_11 => ?_) (fun c241_11 => ?_)
              · refine r_ip (R := rI) c241_11 ?_
                have kk := kk.1 c241_11
                show tR _ _ _ _ [some (.ref (571 : Nat)), some (.int l1), some (.int l2), some (.int l3), some (.int l4), some (.int l5), some (.int l6), some (.int l7), some (.int l8), some (.int i9), some (.int (v10 + j1_s0)), some (.int (v11 + j2_s1)), some (.int v12), some (.int v13), some (.int i8), some (.int j1_s0)] [] _ _ _
                exact (hJ3  kk)
              · refine r_in (R := rI) c241_11 ?_
                have kk := kk.2 c241_11
                refine r_p (pc2 := 246) dX12_layBegins_244 rfl rfl ?_
                refine r_p (pc2 := 247) dX12_layBegins_246 rfl rfl ?_
                refine r_get dX12_layBegins_247 fkX12_67 rfl rfl ?_
                refine r_ci (x := 3) dX12_layBegins_250 rfl ?_
                refine r_p (pc2 := 252) dX12_layBegins_251 rfl rfl ?_
                refine r_p (pc2 := 253) dX12_layBegins_252 rfl rfl ?_
                refine r_p (pc2 := 255) dX12_layBegins_253 rfl rfl ?_
                refine r_p (pc2 := 256) dX12_layBegins_255 rfl rfl ?_
                refine r_ia dX12_layBegins_256 rfl q10 ?_
                refine r_cne dX12_layBegins_257 rfl (fun c257_12 => ?_) (fun c257_12 => ?_)
                · refine r_in (R := rI) c257_12 ?_
                  have kk := kk.2 c257_12
                  refine r_ci (x := 0) dX12_layBegins_276 rfl ?_
                  refine r_p (pc2 := 279) (L2 := [some (.ref (571 : Nat)), some (.int l1), some (.int l2), some (.int l3), some (.int l4), some (.int l5), some (.int l6), some (.int l7), some (.int l8), some (.int i9), some (.int (v10 + j1_s0)), some (.int (v11 + j2_s1)), some (.int 0), some (.int v13), some (.int i8), some (.int j1_s0)]) dX12_layBegins_277 rfl rfl ?_
                  refine r_inc (L2 := [some (.ref (571 : Nat)), some (.int l1), some (.int l2), some (.int l3), some (.int l4), some (.int l5), some (.int l6), some (.int l7), some (.int l8), some (.int i9), some (.int (v10 + j1_s0)), some (.int (v11 + j2_s1)), some (.int 0), some (.int (v13 + (-1))), some (.int i8), some (.int j1_s0)]) (y := -1) dX12_layBegins_279 rfl rfl rfl ?_
                  refine r_go dX12_layBegins_282 rfl ?_
                  show tR _ _ _ _ [some (.ref (571 : Nat)), some (.int l1), some (.int l2), some (.int l3), some (.int l4), some (.int l5), some (.int l6), some (.int l7), some (.int l8), some (.int i9), some (.int (v10 + j1_s0)), some (.int (v11 + j2_s1)), some (.int 0), some (.int (v13 + (-1))), some (.int i8), some (.int j1_s0)] _ _ _ _
                  exact r_le (le_s (le_s (le_s (le_s (le_s (le_s (le_s (le_s (le_s (le_s (le_s (le_s (le_s (le_s (le_n (le_n (le_0))))))))))))))))) (ih i9 (v10 + j1_s0) (v11 + j2_s1) 0 (v13 + (-1)) (sA T 588 ((3 * l1) + v13 : Int32).toNatClampNeg ((v9 - j1_s0) - (x_m_stepOf T i8 1))) kk)
                · refine r_ip (R := rI) c257_12 ?_
                  have kk := kk.1 c257_12
                  refine r_go dX12_layBegins_260 rfl ?_
                  refine r_ci (x := 1) dX12_layBegins_272 rfl ?_
                  refine r_go dX12_layBegins_273 rfl ?_
                  refine r_p (pc2 := 279) (L2 := [some (.ref (571 : Nat)), some (.int l1), some (.int l2), some (.int l3), some (.int l4), some (.int l5), some (.int l6), some (.int l7), some (.int l8), some (.int i9), some (.int (v10 + j1_s0)), some (.int (v11 + j2_s1)), some (.int 1), some (.int v13), some (.int i8), some (.int j1_s0)]) dX12_layBegins_277 rfl rfl ?_
                  refine r_inc (L2 := [some (.ref (571 : Nat)), some (.int l1), some (.int l2), some (.int l3), some (.int l4), some (.int l5), some (.int l6), some (.int l7), some (.int l8), some (.int i9), some (.int (v10 + j1_s0)), some (.int (v11 + j2_s1)), some (.int 1), some (.int (v13 + (-1))), some (.int i8), some (.int j1_s0)]) (y := -1) dX12_layBegins_279 rfl rfl rfl ?_
                  refine r_go dX12_layBegins_282 rfl ?_
                  show tR _ _ _ _ [some (.ref (571 : Nat)), some (.int l1), some (.int l2), some (.int l3), some (.int l4), some (.int l5), some (.int l6), some (.int l7), some (.int l8), some (.int i9), some (.int (v10 + j1_s0)), some (.int (v11 + j2_s1)), some (.int 1), some (.int (v13 + (-1))), some (.int i8), some (.int j1_s0)] _ _ _ _
                  exact r_le (le_s (le_s (le_s (le_s (le_s (le_s (le_s (le_s (le_s (le_s (le_s (le_s (le_s (le_s (le_n (le_n (le_0))))))))))))))))) (ih i9 (v10 + j1_s0) (v11 + j2_s1) 1 (v13 + (-1)) (sA T 588 ((3 * l1) + v13 : Int32).toNatClampNeg ((v9 - j1_s0) - (x_m_stepOf T i8 1))) kk)
        refine r_cne dX12_layBegins_189 rfl (fun c189_13 => ?_) (fun c189_13 => ?_)
        · refine r_in (R := rI) c189_13 ?_
          have kk := kk.2 c189_13
          refine r_ci (x := 0) dX12_layBegins_210 rfl ?_
          show tR _ _ _ _ [some (.ref (571 : Nat)), some (.int l1), some (.int l2), some (.int l3), some (.int l4), some (.int l5), some (.int l6), some (.int l7), some (.int l8), some (.int i9), some (.int (v10 + j1_s0)), some (.int v11), some (.int v12), some (.int v13), some (.int i8), some (.int j1_s0)] [.int 0, .int v11] _ _ _
          exact (hJ2 0 kk)
        · refine r_ip (R := rI) c189_13 ?_
          have kk := kk.1 c189_13
          refine r_p (pc2 := 193) dX12_layBegins_192 rfl rfl ?_
          refine r_p (pc2 := 195) dX12_layBegins_193 rfl rfl ?_
          refine r_ci (x := 4) dX12_layBegins_195 rfl ?_
          obtain ⟨q14, kk⟩ := kk
          refine r_cv (d1 := 1) dX12_layBegins_196 cvX12_232 rfl rfl rfl rfl (Nat.le_of_ble_eq_true rfl) (Nat.le_of_ble_eq_true rfl) (Nat.le_of_ble_eq_true rfl) (c_m_stepOf i8 4 q14) ?_
          refine r_p (pc2 := 200) dX12_layBegins_199 rfl rfl ?_
          refine r_p (pc2 := 202) dX12_layBegins_200 rfl rfl ?_
          refine r_ci (x := 1) dX12_layBegins_202 rfl ?_
          obtain ⟨q15, kk⟩ := kk
          refine r_cv (d1 := 1) dX12_layBegins_203 cvX12_232 rfl rfl rfl rfl (Nat.le_of_ble_eq_true rfl) (Nat.le_of_ble_eq_true rfl) (Nat.le_of_ble_eq_true rfl) (c_m_stepOf i8 1 q15) ?_
          refine r_p (pc2 := 207) dX12_layBegins_206 rfl rfl ?_
          refine r_go dX12_layBegins_207 rfl ?_
          show tR _ _ _ _ [some (.ref (571 : Nat)), some (.int l1), some (.int l2), some (.int l3), some (.int l4), some (.int l5), some (.int l6), some (.int l7), some (.int l8), some (.int i9), some (.int (v10 + j1_s0)), some (.int v11), some (.int v12), some (.int v13), some (.int i8), some (.int j1_s0)] [.int ((x_m_stepOf (sA T 588 ((3 * l1) + v13 : Int32).toNatClampNeg ((v9 - j1_s0) - (x_m_stepOf T i8 1))) i8 4) * (x_m_stepOf (sA T 588 ((3 * l1) + v13 : Int32).toNatClampNeg ((v9 - j1_s0) - (x_m_stepOf T i8 1))) i8 1)), .int v11] _ _ _
          exact (hJ2 ((x_m_stepOf (sA T 588 ((3 * l1) + v13 : Int32).toNatClampNeg ((v9 - j1_s0) - (x_m_stepOf T i8 1))) i8 4) * (x_m_stepOf (sA T 588 ((3 * l1) + v13 : Int32).toNatClampNeg ((v9 - j1_s0) - (x_m_stepOf T i8 1))) i8 1)) kk)
      refine r_cne dX12_layBegins_114 rfl (fun c114_14 => ?_) (fun c114_14 => ?_)
      · refine r_in (R := rI) c114_14 ?_
        have kk := kk.2 c114_14
        refine r_p (pc2 := 123) dX12_layBegins_121 rfl rfl ?_
        refine r_ine dX12_layBegins_123 rfl (fun c123_15 => ?_) (fun c123_15 => ?_)
        · refine r_in (R := rI) c123_15 ?_
          have kk := kk.2 c123_15
          refine r_p (pc2 := 133) dX12_layBegins_131 rfl rfl ?_
          show tR _ _ _ _ [some (.ref (571 : Nat)), some (.int l1), some (.int l2), some (.int l3), some (.int l4), some (.int l5), some (.int l6), some (.int l7), some (.int l8), some (.int v9), some (.int v10), some (.int v11), some (.int v12), some (.int v13), some (.int i8), none] [.int l8] _ _ _
          exact (hJ1 l8 kk)
        · refine r_ip (R := rI) c123_15 ?_
          have kk := kk.1 c123_15
          refine r_p (pc2 := 128) dX12_layBegins_126 rfl rfl ?_
          refine r_go dX12_layBegins_128 rfl ?_
          show tR _ _ _ _ [some (.ref (571 : Nat)), some (.int l1), some (.int l2), some (.int l3), some (.int l4), some (.int l5), some (.int l6), some (.int l7), some (.int l8), some (.int v9), some (.int v10), some (.int v11), some (.int v12), some (.int v13), some (.int i8), none] [.int l7] _ _ _
          exact (hJ1 l7 kk)
      · refine r_ip (R := rI) c114_14 ?_
        have kk := kk.1 c114_14
        refine r_ci (x := 0) dX12_layBegins_117 rfl ?_
        refine r_go dX12_layBegins_118 rfl ?_
        show tR _ _ _ _ [some (.ref (571 : Nat)), some (.int l1), some (.int l2), some (.int l3), some (.int l4), some (.int l5), some (.int l6), some (.int l7), some (.int l8), some (.int v9), some (.int v10), some (.int v11), some (.int v12), some (.int v13), some (.int i8), none] [.int 0] _ _ _
        exact (hJ1 0 kk)
def x_m_layBegins (T : St) (p0 : Int32) (p1 : Int32) : Int32 × St := jn (fun (i1 : Int32) => jn (fun (i2 : Int32) => jn (fun (i3 : Int32) => jn (fun (i4 : Int32) => jn (fun (i5 : Int32) => jn (fun (i6 : Int32) => jn (fun (i7 : Int32) => x_m_layBegins_92 p0 p1 i1 (x_m_dishOf T i1 3) i4 i3 i5 i6 (fun (w1_9 : Int32) (w1_10 : Int32) (w1_11 : Int32) (w1_12 : Int32) (w1_13 : Int32) (T201 : St) => jn (fun (T10 : St) => if w1_12 = 0 then (0, T10) else (if w1_9 < 0 then (0, T10) else (1, T10))) (sA T201 587 (p0 + 1 : Int32).toNatClampNeg ((((T201.2.2.1 587 (p0 : Int32).toNatClampNeg) + (i3 * (x_m_dishOf T201 i1 1))) + w1_10) + w1_11))) 1000 (p1 - i3) 0 0 1 i7 T) ((x_m_dishOf T i1 3) - 1)) (i4 / (x_m_waitsOf T i1 0))) (i4 - i4 / (x_m_waitsOf T i1 0) * (x_m_waitsOf T i1 0))) (i2 / (1 + (x_m_dishOf T i1 0)))) (i2 - i2 / (1 + (x_m_dishOf T i1 0)) * (1 + (x_m_dishOf T i1 0)))) (T.2.2.1 586 (p0 : Int32).toNatClampNeg)) (T.2.2.1 585 (p0 : Int32).toNatClampNeg)
def ok_m_layBegins (T : St) (p0 : Int32) (p1 : Int32) : Prop := (vp_in p0 4) ∧ jn (fun (i1 : Int32) => (ok_m_dishOf T i1 3) ∧ (vp_in p0 5) ∧ jn (fun (i2 : Int32) => (ok_m_dishOf T i1 0) ∧ (¬ (1 + (x_m_dishOf T i1 0)) = (0 : Int32)) ∧ jn (fun (i3 : Int32) => jn (fun (i4 : Int32) => (ok_m_waitsOf T i1 0) ∧ (¬ (x_m_waitsOf T i1 0) = (0 : Int32)) ∧ jn (fun (i5 : Int32) => jn (fun (i6 : Int32) => jn (fun (i7 : Int32) => ok_m_layBegins_92 p0 p1 i1 (x_m_dishOf T i1 3) i4 i3 i5 i6 (fun (w1_9 : Int32) (w1_10 : Int32) (w1_11 : Int32) (w1_12 : Int32) (w1_13 : Int32) (T201 : St) => (ok_m_dishOf T201 i1 1) ∧ (vp_in (p0 + 1) 5) ∧ True) 1000 (p1 - i3) 0 0 1 i7 T) ((x_m_dishOf T i1 3) - 1)) (i4 / (x_m_waitsOf T i1 0))) (i4 - i4 / (x_m_waitsOf T i1 0) * (x_m_waitsOf T i1 0))) (i2 / (1 + (x_m_dishOf T i1 0)))) (i2 - i2 / (1 + (x_m_dishOf T i1 0)) * (1 + (x_m_dishOf T i1 0)))) (T.2.2.1 586 (p0 : Int32).toNatClampNeg)) (T.2.2.1 585 (p0 : Int32).toNatClampNeg)
theorem c_m_layBegins {X : Nat × (Nat → Int32)} {T : St} (p0 : Int32) (p1 : Int32) (kk : ok_m_layBegins T p0 p1) : tC X 3 mX12_layBegins [.ref (571 : Nat), .int p0, .int p1] T (some (.int (x_m_layBegins T p0 p1).1)) ((x_m_layBegins T p0 p1).2) := by
  unfold ok_m_layBegins at kk
  refine tC_orI (L := [some (.ref (571 : Nat)), some (.int p0), some (.int p1), none, none, none, none, none, none, none, none, none, none, none, none, none]) (x_m_layBegins T p0 p1) rfl ?_
  unfold x_m_layBegins
  refine r_p (pc2 := 1) dX12_layBegins_0 rfl rfl ?_
  refine r_get dX12_layBegins_1 fkX12_49 rfl rfl ?_
  refine r_p (pc2 := 5) dX12_layBegins_4 rfl rfl ?_
  obtain ⟨q1, kk⟩ := kk
  refine r_ia dX12_layBegins_5 rfl q1 ?_
  refine r_nI (R := rI) rfl kk (fun i1 kk => ?_)
  refine r_p (pc2 := 7) (L2 := [some (.ref (571 : Nat)), some (.int p0), some (.int p1), some (.int i1), none, none, none, none, none, none, none, none, none, none, none, none]) dX12_layBegins_6 rfl rfl ?_
  refine r_p (pc2 := 8) dX12_layBegins_7 rfl rfl ?_
  refine r_p (pc2 := 9) dX12_layBegins_8 rfl rfl ?_
  refine r_ci (x := 3) dX12_layBegins_9 rfl ?_
  obtain ⟨q2, kk⟩ := kk
  refine r_cv (d1 := 1) dX12_layBegins_10 cvX12_228 rfl rfl rfl rfl (Nat.le_of_ble_eq_true rfl) (Nat.le_of_ble_eq_true rfl) (Nat.le_of_ble_eq_true rfl) (c_m_dishOf i1 3 q2) ?_
  refine r_p (pc2 := 15) (L2 := [some (.ref (571 : Nat)), some (.int p0), some (.int p1), some (.int i1), some (.int (x_m_dishOf T i1 3)), none, none, none, none, none, none, none, none, none, none, none]) dX12_layBegins_13 rfl rfl ?_
  refine r_p (pc2 := 16) dX12_layBegins_15 rfl rfl ?_
  refine r_get dX12_layBegins_16 fkX12_52 rfl rfl ?_
  refine r_p (pc2 := 20) dX12_layBegins_19 rfl rfl ?_
  obtain ⟨q3, kk⟩ := kk
  refine r_ia dX12_layBegins_20 rfl q3 ?_
  refine r_nI (R := rI) rfl kk (fun i2 kk => ?_)
  refine r_p (pc2 := 23) (L2 := [some (.ref (571 : Nat)), some (.int p0), some (.int p1), some (.int i1), some (.int (x_m_dishOf T i1 3)), some (.int i2), none, none, none, none, none, none, none, none, none, none]) dX12_layBegins_21 rfl rfl ?_
  refine r_p (pc2 := 25) dX12_layBegins_23 rfl rfl ?_
  refine r_ci (x := 1) dX12_layBegins_25 rfl ?_
  refine r_p (pc2 := 27) dX12_layBegins_26 rfl rfl ?_
  refine r_p (pc2 := 28) dX12_layBegins_27 rfl rfl ?_
  refine r_ci (x := 0) dX12_layBegins_28 rfl ?_
  obtain ⟨q4, kk⟩ := kk
  refine r_cv (d1 := 1) dX12_layBegins_29 cvX12_228 rfl rfl rfl rfl (Nat.le_of_ble_eq_true rfl) (Nat.le_of_ble_eq_true rfl) (Nat.le_of_ble_eq_true rfl) (c_m_dishOf i1 0 q4) ?_
  refine r_p (pc2 := 33) dX12_layBegins_32 rfl rfl ?_
  obtain ⟨q5, kk⟩ := kk
  refine r_p dX12_layBegins_33 rfl (if_neg q5) ?_
  refine r_nI (R := rI) rfl kk (fun i3 kk => ?_)
  refine r_p (pc2 := 36) (L2 := [some (.ref (571 : Nat)), some (.int p0), some (.int p1), some (.int i1), some (.int (x_m_dishOf T i1 3)), some (.int i2), some (.int i3), none, none, none, none, none, none, none, none, none]) dX12_layBegins_34 rfl rfl ?_
  refine r_p (pc2 := 38) dX12_layBegins_36 rfl rfl ?_
  refine r_ci (x := 1) dX12_layBegins_38 rfl ?_
  refine r_p (pc2 := 40) dX12_layBegins_39 rfl rfl ?_
  refine r_p (pc2 := 41) dX12_layBegins_40 rfl rfl ?_
  refine r_ci (x := 0) dX12_layBegins_41 rfl ?_
  refine r_cv (d1 := 1) dX12_layBegins_42 cvX12_228 rfl rfl rfl rfl (Nat.le_of_ble_eq_true rfl) (Nat.le_of_ble_eq_true rfl) (Nat.le_of_ble_eq_true rfl) (c_m_dishOf i1 0 q4) ?_
  refine r_p (pc2 := 46) dX12_layBegins_45 rfl rfl ?_
  refine r_p dX12_layBegins_46 rfl (if_neg q5) ?_
  refine r_nI (R := rI) rfl kk (fun i4 kk => ?_)
  refine r_p (pc2 := 49) (L2 := [some (.ref (571 : Nat)), some (.int p0), some (.int p1), some (.int i1), some (.int (x_m_dishOf T i1 3)), some (.int i4), some (.int i3), none, none, none, none, none, none, none, none, none]) dX12_layBegins_47 rfl rfl ?_
  refine r_p (pc2 := 51) dX12_layBegins_49 rfl rfl ?_
  refine r_p (pc2 := 52) dX12_layBegins_51 rfl rfl ?_
  refine r_p (pc2 := 53) dX12_layBegins_52 rfl rfl ?_
  refine r_ci (x := 0) dX12_layBegins_53 rfl ?_
  obtain ⟨q6, kk⟩ := kk
  refine r_cv (d1 := 2) dX12_layBegins_54 cvX12_235 rfl rfl rfl rfl (Nat.le_of_ble_eq_true rfl) (Nat.le_of_ble_eq_true rfl) (Nat.le_of_ble_eq_true rfl) (c_m_waitsOf i1 0 q6) ?_
  obtain ⟨q7, kk⟩ := kk
  refine r_p dX12_layBegins_57 rfl (if_neg q7) ?_
  refine r_nI (R := rI) rfl kk (fun i5 kk => ?_)
  refine r_p (pc2 := 60) (L2 := [some (.ref (571 : Nat)), some (.int p0), some (.int p1), some (.int i1), some (.int (x_m_dishOf T i1 3)), some (.int i4), some (.int i3), some (.int i5), none, none, none, none, none, none, none, none]) dX12_layBegins_58 rfl rfl ?_
  refine r_p (pc2 := 62) dX12_layBegins_60 rfl rfl ?_
  refine r_p (pc2 := 63) dX12_layBegins_62 rfl rfl ?_
  refine r_p (pc2 := 64) dX12_layBegins_63 rfl rfl ?_
  refine r_ci (x := 0) dX12_layBegins_64 rfl ?_
  refine r_cv (d1 := 2) dX12_layBegins_65 cvX12_235 rfl rfl rfl rfl (Nat.le_of_ble_eq_true rfl) (Nat.le_of_ble_eq_true rfl) (Nat.le_of_ble_eq_true rfl) (c_m_waitsOf i1 0 q6) ?_
  refine r_p dX12_layBegins_68 rfl (if_neg q7) ?_
  refine r_nI (R := rI) rfl kk (fun i6 kk => ?_)
  refine r_p (pc2 := 71) (L2 := [some (.ref (571 : Nat)), some (.int p0), some (.int p1), some (.int i1), some (.int (x_m_dishOf T i1 3)), some (.int i4), some (.int i3), some (.int i5), some (.int i6), none, none, none, none, none, none, none]) dX12_layBegins_69 rfl rfl ?_
  refine r_p (pc2 := 72) dX12_layBegins_71 rfl rfl ?_
  refine r_p (pc2 := 74) dX12_layBegins_72 rfl rfl ?_
  refine r_p (pc2 := 75) dX12_layBegins_74 rfl rfl ?_
  refine r_p (pc2 := 77) (L2 := [some (.ref (571 : Nat)), some (.int p0), some (.int p1), some (.int i1), some (.int (x_m_dishOf T i1 3)), some (.int i4), some (.int i3), some (.int i5), some (.int i6), some (.int (p1 - i3)), none, none, none, none, none, none]) dX12_layBegins_75 rfl rfl ?_
  refine r_ci (x := 0) dX12_layBegins_77 rfl ?_
  refine r_p (pc2 := 80) (L2 := [some (.ref (571 : Nat)), some (.int p0), some (.int p1), some (.int i1), some (.int (x_m_dishOf T i1 3)), some (.int i4), some (.int i3), some (.int i5), some (.int i6), some (.int (p1 - i3)), some (.int 0), none, none, none, none, none]) dX12_layBegins_78 rfl rfl ?_
  refine r_ci (x := 0) dX12_layBegins_80 rfl ?_
  refine r_p (pc2 := 83) (L2 := [some (.ref (571 : Nat)), some (.int p0), some (.int p1), some (.int i1), some (.int (x_m_dishOf T i1 3)), some (.int i4), some (.int i3), some (.int i5), some (.int i6), some (.int (p1 - i3)), some (.int 0), some (.int 0), none, none, none, none]) dX12_layBegins_81 rfl rfl ?_
  refine r_ci (x := 1) dX12_layBegins_83 rfl ?_
  refine r_p (pc2 := 86) (L2 := [some (.ref (571 : Nat)), some (.int p0), some (.int p1), some (.int i1), some (.int (x_m_dishOf T i1 3)), some (.int i4), some (.int i3), some (.int i5), some (.int i6), some (.int (p1 - i3)), some (.int 0), some (.int 0), some (.int 1), none, none, none]) dX12_layBegins_84 rfl rfl ?_
  refine r_p (pc2 := 88) dX12_layBegins_86 rfl rfl ?_
  refine r_ci (x := 1) dX12_layBegins_88 rfl ?_
  refine r_p (pc2 := 90) dX12_layBegins_89 rfl rfl ?_
  refine r_nI (R := rI) rfl kk (fun i7 kk => ?_)
  refine r_p (pc2 := 92) (L2 := [some (.ref (571 : Nat)), some (.int p0), some (.int p1), some (.int i1), some (.int (x_m_dishOf T i1 3)), some (.int i4), some (.int i3), some (.int i5), some (.int i6), some (.int (p1 - i3)), some (.int 0), some (.int 0), some (.int 1), some (.int i7), none, none]) dX12_layBegins_90 rfl rfl ?_
  show tR _ _ _ _ [some (.ref (571 : Nat)), some (.int p0), some (.int p1), some (.int i1), some (.int (x_m_dishOf T i1 3)), some (.int i4), some (.int i3), some (.int i5), some (.int i6), some (.int (p1 - i3)), some (.int 0), some (.int 0), some (.int 1), some (.int i7), none, none] _ _ _ _
  refine (c_m_layBegins_92 p0 p1 i1 (x_m_dishOf T i1 3) i4 i3 i5 i6 (fun w1_9 w1_10 w1_11 w1_12 w1_13 T201 kk => ?_) 1000 (p1 - i3) 0 0 1 i7 T kk)
  · skip
    refine r_p (pc2 := 286) dX12_layBegins_285 rfl rfl ?_
    refine r_get dX12_layBegins_286 fkX12_55 rfl rfl ?_
    refine r_p (pc2 := 290) dX12_layBegins_289 rfl rfl ?_
    refine r_ci (x := 1) dX12_layBegins_290 rfl ?_
    refine r_p (pc2 := 292) dX12_layBegins_291 rfl rfl ?_
    refine r_p (pc2 := 293) dX12_layBegins_292 rfl rfl ?_
    refine r_get dX12_layBegins_293 fkX12_55 rfl rfl ?_
    refine r_p (pc2 := 297) dX12_layBegins_296 rfl rfl ?_
    refine r_ia dX12_layBegins_297 rfl q3 ?_
    refine r_p (pc2 := 300) dX12_layBegins_298 rfl rfl ?_
    refine r_p (pc2 := 301) dX12_layBegins_300 rfl rfl ?_
    refine r_p (pc2 := 302) dX12_layBegins_301 rfl rfl ?_
    refine r_ci (x := 1) dX12_layBegins_302 rfl ?_
    obtain ⟨q16, kk⟩ := kk
    refine r_cv (d1 := 1) dX12_layBegins_303 cvX12_228 rfl rfl rfl rfl (Nat.le_of_ble_eq_true rfl) (Nat.le_of_ble_eq_true rfl) (Nat.le_of_ble_eq_true rfl) (c_m_dishOf i1 1 q16) ?_
    refine r_p (pc2 := 307) dX12_layBegins_306 rfl rfl ?_
    refine r_p (pc2 := 308) dX12_layBegins_307 rfl rfl ?_
    refine r_p (pc2 := 310) dX12_layBegins_308 rfl rfl ?_
    refine r_p (pc2 := 311) dX12_layBegins_310 rfl rfl ?_
    refine r_p (pc2 := 313) dX12_layBegins_311 rfl rfl ?_
    refine r_p (pc2 := 314) dX12_layBegins_313 rfl rfl ?_
    obtain ⟨q17, kk⟩ := kk
    refine r_ias dX12_layBegins_314 rfl q17 ?_
    refine r_nT0 (R := rI) rfl (fun T10 => ?_)
    refine r_p (pc2 := 317) dX12_layBegins_315 rfl rfl ?_
    refine r_ieq dX12_layBegins_317 rfl (fun c317_16 => ?_) (fun c317_16 => ?_)
    · refine r_ip (R := rI) c317_16 ?_
      refine r_ci (x := 0) dX12_layBegins_329 rfl ?_
      exact r_qI dX12_layBegins_330 rfl rfl rfl rfl
    · refine r_in (R := rI) c317_16 ?_
      refine r_p (pc2 := 322) dX12_layBegins_320 rfl rfl ?_
      refine r_ilt dX12_layBegins_322 rfl (fun c322_17 => ?_) (fun c322_17 => ?_)
      · refine r_ip (R := rI) c322_17 ?_
        refine r_ci (x := 0) dX12_layBegins_329 rfl ?_
        exact r_qI dX12_layBegins_330 rfl rfl rfl rfl
      · refine r_in (R := rI) c322_17 ?_
        refine r_ci (x := 1) dX12_layBegins_325 rfl ?_
        refine r_go dX12_layBegins_326 rfl ?_
        exact r_qI dX12_layBegins_330 rfl rfl rfl rfl
