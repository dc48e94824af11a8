def x_m_addPan_8 (l1 : Int32) (l2 : Int32) (l3 : Int32) (K : Int32 → St → St) : Nat → Int32 → St → St
  | 0, _, T => T
  | f + 1, v4, T => if ((60 * l1) + l3) ≤ v4 then (K v4 T) else (x_m_addPan_8 l1 l2 l3 K f (v4 + 1) (sA T 582 (v4 : Int32).toNatClampNeg ((T.2.2.1 582 (v4 : Int32).toNatClampNeg) + 1)))
def ok_m_addPan_8 (l1 : Int32) (l2 : Int32) (l3 : Int32) (Kk : Int32 → St → Prop) : Nat → Int32 → St → Prop
  | 0, _, _ => False
  | f + 1, v4, T => ((((60 * l1) + l3) ≤ v4 → Kk v4 T) ∧ (¬ ((60 * l1) + l3) ≤ v4 → (vp_in v4 300) ∧ ok_m_addPan_8 l1 l2 l3 Kk f (v4 + 1) (sA T 582 (v4 : Int32).toNatClampNeg ((T.2.2.1 582 (v4 : Int32).toNatClampNeg) + 1))))
theorem c_m_addPan_8 {X : Nat × (Nat → Int32)} (l1 : Int32) (l2 : Int32) (l3 : Int32) {K : Int32 → St → St} {Kk : Int32 → St → Prop} (hk : ∀ (v4 : Int32) (T : St), Kk v4 T → tR X 0 mX12_addPan 36 [some (.ref 571), some (.int l1), some (.int l2), some (.int l3), some (.int v4)] [] T none (K v4 T)) : ∀ (f : Nat) (v4 : Int32) (T : St), ok_m_addPan_8 l1 l2 l3 Kk f v4 T → tR X 0 mX12_addPan 8 [some (.ref 571), some (.int l1), some (.int l2), some (.int l3), some (.int v4)] [] T none (x_m_addPan_8 l1 l2 l3 K f v4 T) := by
  intro f
  induction f with
  | zero => intro v4 T kk; exact kk.elim
  | succ f ih =>
    intro v4 T kk
    rw [ok_m_addPan_8] at kk
    refine r_p dX12_addPan_8 rfl rfl ?_
    refine r_cb (x := 60) dX12_addPan_10 rfl ?_
    refine r_p dX12_addPan_12 rfl rfl ?_
    refine r_p dX12_addPan_13 rfl rfl ?_
    refine r_p dX12_addPan_14 rfl rfl ?_
    refine r_p dX12_addPan_15 rfl rfl ?_
    refine r_cge dX12_addPan_16 rfl (fun c16_1 => ?_) (fun c16_1 => ?_)
    · have kk := kk.1 c16_1
      show tR _ _ _ _ [some (.ref 571), some (.int l1), some (.int l2), some (.int l3), some (.int v4)] _ _ _ _
      exact r_eV (r' := K v4 T) (by rw [x_m_addPan_8]; rw [if_pos c16_1]) ((hk v4 T kk))
    · have kk := kk.2 c16_1
      refine r_p dX12_addPan_19 rfl rfl ?_
      refine r_get dX12_addPan_20 fkX12_40 rfl rfl ?_
      refine r_p dX12_addPan_23 rfl rfl ?_
      refine r_p dX12_addPan_25 rfl rfl ?_
      obtain ⟨q1, kk⟩ := kk
      refine r_ia dX12_addPan_26 rfl q1 ?_
      refine r_ci (x := 1) dX12_addPan_27 rfl ?_
      refine r_p dX12_addPan_28 rfl rfl ?_
      refine r_ias dX12_addPan_29 rfl q1 ?_
      refine r_inc (y := 1) dX12_addPan_30 rfl rfl rfl ?_
      refine r_go dX12_addPan_33 rfl ?_
      show tR _ _ _ _ [some (.ref 571), some (.int l1), some (.int l2), some (.int l3), some (.int (v4 + 1))] _ _ _ _
      exact r_eV (r' := x_m_addPan_8 l1 l2 l3 K f (v4 + 1) (sA T 582 (v4 : Int32).toNatClampNeg ((T.2.2.1 582 (v4 : Int32).toNatClampNeg) + 1))) (by rw [x_m_addPan_8]; rw [if_neg c16_1]) ((ih (v4 + 1) (sA T 582 (v4 : Int32).toNatClampNeg ((T.2.2.1 582 (v4 : Int32).toNatClampNeg) + 1)) kk))
def x_m_addPan (T : St) (p0 : Int32) (p1 : Int32) (p2 : Int32) : St := x_m_addPan_8 p0 p1 p2 (fun (w1_4 : Int32) (T201 : St) => T201) 1000 ((60 * p0) + p1) T
def ok_m_addPan (T : St) (p0 : Int32) (p1 : Int32) (p2 : Int32) : Prop := ok_m_addPan_8 p0 p1 p2 (fun (w1_4 : Int32) (T201 : St) => True) 1000 ((60 * p0) + p1) T
theorem c_m_addPan {X : Nat × (Nat → Int32)} {T : St} (p0 : Int32) (p1 : Int32) (p2 : Int32) (kk : ok_m_addPan T p0 p1 p2) : tC X 1 mX12_addPan [.ref 571, .int p0, .int p1, .int p2] T none (x_m_addPan T p0 p1 p2) := by
  unfold ok_m_addPan at kk
  refine tC_of ?_
  refine r_cb (x := 60) dX12_addPan_0 rfl ?_
  refine r_p dX12_addPan_2 rfl rfl ?_
  refine r_p dX12_addPan_3 rfl rfl ?_
  refine r_p dX12_addPan_4 rfl rfl ?_
  refine r_p dX12_addPan_5 rfl rfl ?_
  refine r_p dX12_addPan_6 rfl rfl ?_
  show tR _ _ _ _ [some (.ref 571), some (.int p0), some (.int p1), some (.int p2), some (.int ((60 * p0) + p1))] _ _ _ _
  refine r_eV (r' := x_m_addPan_8 p0 p1 p2 (fun (w1_4 : Int32) (T201 : St) => T201) 1000 ((60 * p0) + p1) T) (by unfold x_m_addPan; rfl) ((c_m_addPan_8 p0 p1 p2 (fun w1_4 T201 kk => ?_) 1000 ((60 * p0) + p1) T kk))
  · exact r_eV (r' := T201) rfl (r_rv dX12_addPan_36 rfl rfl rfl)
def x_m_lacks_9 (T : St) (l1 : Int32) (l2 : Int32) (l3 : Int32) (K : Int32 → Int32 → Int32 → Int32) : Nat → Int32 → Int32 → Int32 → Int32
  | 0, _, _, _ => 0
  | f + 1, v4, v5, v6 => if 60 ≤ v6 then (K v4 v5 v6) else (jn (fun (KJ1 : Int32 → Int32) => if (v4 - (T.2.2.1 575 (4 : Int32).toNatClampNeg)) ≤ (T.2.2.1 583 ((60 * l1) + v6 : Int32).toNatClampNeg) then (KJ1 (T.2.2.1 583 ((60 * l1) + v6 : Int32).toNatClampNeg)) else (KJ1 (v4 - (T.2.2.1 575 (4 : Int32).toNatClampNeg)))) (fun (j1_s0 : Int32) => jn (fun (KJ2 : Int32 → Int32) => if (T.2.2.1 584 ((60 * l1) + v6 : Int32).toNatClampNeg) ≤ (v5 + (T.2.2.1 575 (3 : Int32).toNatClampNeg)) then (KJ2 (T.2.2.1 584 ((60 * l1) + v6 : Int32).toNatClampNeg)) else (KJ2 (v5 + (T.2.2.1 575 (3 : Int32).toNatClampNeg)))) (fun (j2_s0 : Int32) => jn (fun (KJ3 : Int32 → Int32) => if (T.2.2.1 578 ((60 * l1) + v6 : Int32).toNatClampNeg) ≤ (x_m_bigOnes T v6 l3) then (if (T.2.2.1 579 ((60 * l1) + v6 : Int32).toNatClampNeg) ≤ ((T.2.2.1 575 (0 : Int32).toNatClampNeg) + (x_m_bigOnes T v6 l3)) then (if (T.2.2.1 580 ((60 * l1) + v6 : Int32).toNatClampNeg) ≤ (T.2.2.1 575 (2 : Int32).toNatClampNeg) then (if j1_s0 ≤ j2_s0 then (if (T.2.2.1 581 ((60 * l1) + v6 : Int32).toNatClampNeg) ≤ (x_m_handsAt T v6 l2) then (if (T.2.2.1 582 ((60 * l1) + v6 : Int32).toNatClampNeg) ≤ (T.2.2.1 575 (6 : Int32).toNatClampNeg) then (KJ3 0) else (KJ3 6)) else (KJ3 5)) else (KJ3 4)) else (KJ3 3)) else (KJ3 2)) else (KJ3 1)) (fun (j3_s0 : Int32) => if j3_s0 ≤ 0 then (x_m_lacks_9 T l1 l2 l3 K f j1_s0 j2_s0 (v6 + 1)) else (10 * v6) + j3_s0))))
def ok_m_lacks_9 (T : St) (l1 : Int32) (l2 : Int32) (l3 : Int32) (Kk : Int32 → Int32 → Int32 → Prop) : Nat → Int32 → Int32 → Int32 → Prop
  | 0, _, _, _ => False
  | f + 1, v4, v5, v6 => ((60 ≤ v6 → Kk v4 v5 v6) ∧ (¬ 60 ≤ v6 → (vp_in 4 204) ∧ (vp_in ((60 * l1) + v6) 300) ∧ jn (fun (OJ1 : Int32 → Prop) => (((v4 - (T.2.2.1 575 (4 : Int32).toNatClampNeg)) ≤ (T.2.2.1 583 ((60 * l1) + v6 : Int32).toNatClampNeg) → OJ1 (T.2.2.1 583 ((60 * l1) + v6 : Int32).toNatClampNeg)) ∧ (¬ (v4 - (T.2.2.1 575 (4 : Int32).toNatClampNeg)) ≤ (T.2.2.1 583 ((60 * l1) + v6 : Int32).toNatClampNeg) → OJ1 (v4 - (T.2.2.1 575 (4 : Int32).toNatClampNeg))))) (fun (j1_s0 : Int32) => (vp_in 3 204) ∧ (vp_in ((60 * l1) + v6) 300) ∧ jn (fun (OJ2 : Int32 → Prop) => (((T.2.2.1 584 ((60 * l1) + v6 : Int32).toNatClampNeg) ≤ (v5 + (T.2.2.1 575 (3 : Int32).toNatClampNeg)) → OJ2 (T.2.2.1 584 ((60 * l1) + v6 : Int32).toNatClampNeg)) ∧ (¬ (T.2.2.1 584 ((60 * l1) + v6 : Int32).toNatClampNeg) ≤ (v5 + (T.2.2.1 575 (3 : Int32).toNatClampNeg)) → OJ2 (v5 + (T.2.2.1 575 (3 : Int32).toNatClampNeg))))) (fun (j2_s0 : Int32) => (ok_m_bigOnes T v6 l3) ∧ (vp_in ((60 * l1) + v6) 300) ∧ jn (fun (OJ3 : Int32 → Prop) => (((T.2.2.1 578 ((60 * l1) + v6 : Int32).toNatClampNeg) ≤ (x_m_bigOnes T v6 l3) → (vp_in 0 204) ∧ (((T.2.2.1 579 ((60 * l1) + v6 : Int32).toNatClampNeg) ≤ ((T.2.2.1 575 (0 : Int32).toNatClampNeg) + (x_m_bigOnes T v6 l3)) → (vp_in 2 204) ∧ (((T.2.2.1 580 ((60 * l1) + v6 : Int32).toNatClampNeg) ≤ (T.2.2.1 575 (2 : Int32).toNatClampNeg) → ((j1_s0 ≤ j2_s0 → (ok_m_handsAt T v6 l2) ∧ (((T.2.2.1 581 ((60 * l1) + v6 : Int32).toNatClampNeg) ≤ (x_m_handsAt T v6 l2) → (vp_in 6 204) ∧ (((T.2.2.1 582 ((60 * l1) + v6 : Int32).toNatClampNeg) ≤ (T.2.2.1 575 (6 : Int32).toNatClampNeg) → OJ3 0) ∧ (¬ (T.2.2.1 582 ((60 * l1) + v6 : Int32).toNatClampNeg) ≤ (T.2.2.1 575 (6 : Int32).toNatClampNeg) → OJ3 6))) ∧ (¬ (T.2.2.1 581 ((60 * l1) + v6 : Int32).toNatClampNeg) ≤ (x_m_handsAt T v6 l2) → OJ3 5))) ∧ (¬ j1_s0 ≤ j2_s0 → OJ3 4))) ∧ (¬ (T.2.2.1 580 ((60 * l1) + v6 : Int32).toNatClampNeg) ≤ (T.2.2.1 575 (2 : Int32).toNatClampNeg) → OJ3 3))) ∧ (¬ (T.2.2.1 579 ((60 * l1) + v6 : Int32).toNatClampNeg) ≤ ((T.2.2.1 575 (0 : Int32).toNatClampNeg) + (x_m_bigOnes T v6 l3)) → OJ3 2))) ∧ (¬ (T.2.2.1 578 ((60 * l1) + v6 : Int32).toNatClampNeg) ≤ (x_m_bigOnes T v6 l3) → OJ3 1))) (fun (j3_s0 : Int32) => (j3_s0 ≤ 0 → ok_m_lacks_9 T l1 l2 l3 Kk f j1_s0 j2_s0 (v6 + 1)))))))
theorem c_m_lacks_9 {X : Nat × (Nat → Int32)} (T : St) (l1 : Int32) (l2 : Int32) (l3 : Int32) {K : Int32 → Int32 → Int32 → Int32} {Kk : Int32 → Int32 → Int32 → Prop} (hk : ∀ (v4 : Int32) (v5 : Int32) (v6 : Int32), Kk v4 v5 v6 → tR X 2 mX12_lacks 250 [some (.ref 571), some (.int l1), some (.int l2), some (.int l3), some (.int v4), some (.int v5), some (.int v6), none, none, none] [] T (some (.int (K v4 v5 v6))) T) : ∀ (f : Nat) (v4 : Int32) (v5 : Int32) (v6 : Int32), ok_m_lacks_9 T l1 l2 l3 Kk f v4 v5 v6 → tR X 2 mX12_lacks 9 [some (.ref 571), some (.int l1), some (.int l2), some (.int l3), some (.int v4), some (.int v5), some (.int v6), none, none, none] [] T (some (.int (x_m_lacks_9 T l1 l2 l3 K f v4 v5 v6))) T := by
  intro f
  induction f with
  | zero => intro v4 v5 v6 kk; exact kk.elim
  | succ f ih =>
    intro v4 v5 v6 kk
    rw [ok_m_lacks_9] at kk
    refine r_p dX12_lacks_9 rfl rfl ?_
    refine r_cb (x := 60) dX12_lacks_11 rfl ?_
    refine r_cge dX12_lacks_13 rfl (fun c13_1 => ?_) (fun c13_1 => ?_)
    · have kk := kk.1 c13_1
      show tR _ _ _ _ [some (.ref 571), some (.int l1), some (.int l2), some (.int l3), some (.int v4), some (.int v5), some (.int v6), none, none, none] _ _ _ _
      exact r_eIp (r' := K v4 v5 v6) (by rw [x_m_lacks_9]; rw [if_pos c13_1]) ((hk v4 v5 v6  kk))
    · have kk := kk.2 c13_1
      refine r_cb (x := 60) dX12_lacks_16 rfl ?_
      refine r_p dX12_lacks_18 rfl rfl ?_
      refine r_p dX12_lacks_19 rfl rfl ?_
      refine r_p dX12_lacks_20 rfl rfl ?_
      refine r_p dX12_lacks_22 rfl rfl ?_
      refine r_p dX12_lacks_23 rfl rfl ?_
      refine r_p dX12_lacks_25 rfl rfl ?_
      refine r_p dX12_lacks_27 rfl rfl ?_
      refine r_get dX12_lacks_28 fkX12_19 rfl rfl ?_
      refine r_ci (x := 4) dX12_lacks_31 rfl ?_
      obtain ⟨q1, kk⟩ := kk
      refine r_ia dX12_lacks_32 rfl q1 ?_
      refine r_p dX12_lacks_33 rfl rfl ?_
      refine r_p dX12_lacks_34 rfl rfl ?_
      refine r_get dX12_lacks_35 fkX12_43 rfl rfl ?_
      refine r_p dX12_lacks_38 rfl rfl ?_
      obtain ⟨q2, kk⟩ := kk
      refine r_ia dX12_lacks_40 rfl q2 ?_
      obtain ⟨KJ1, hKJ1⟩ : ∃ q : Int32 → Int32, q = (fun (j1_s0 : Int32) => jn (fun (KJ2 : Int32 → Int32) => if (T.2.2.1 584 ((60 * l1) + v6 : Int32).toNatClampNeg) ≤ (v5 + (T.2.2.1 575 (3 : Int32).toNatClampNeg)) then (KJ2 (T.2.2.1 584 ((60 * l1) + v6 : Int32).toNatClampNeg)) else (KJ2 (v5 + (T.2.2.1 575 (3 : Int32).toNatClampNeg)))) (fun (j2_s0 : Int32) => jn (fun (KJ3 : Int32 → Int32) => if (T.2.2.1 578 ((60 * l1) + v6 : Int32).toNatClampNeg) ≤ (x_m_bigOnes T v6 l3) then (if (T.2.2.1 579 ((60 * l1) + v6 : Int32).toNatClampNeg) ≤ ((T.2.2.1 575 (0 : Int32).toNatClampNeg) + (x_m_bigOnes T v6 l3)) then (if (T.2.2.1 580 ((60 * l1) + v6 : Int32).toNatClampNeg) ≤ (T.2.2.1 575 (2 : Int32).toNatClampNeg) then (if j1_s0 ≤ j2_s0 then (if (T.2.2.1 581 ((60 * l1) + v6 : Int32).toNatClampNeg) ≤ (x_m_handsAt T v6 l2) then (if (T.2.2.1 582 ((60 * l1) + v6 : Int32).toNatClampNeg) ≤ (T.2.2.1 575 (6 : Int32).toNatClampNeg) then (KJ3 0) else (KJ3 6)) else (KJ3 5)) else (KJ3 4)) else (KJ3 3)) else (KJ3 2)) else (KJ3 1)) (fun (j3_s0 : Int32) => if j3_s0 ≤ 0 then (x_m_lacks_9 T l1 l2 l3 K f j1_s0 j2_s0 (v6 + 1)) else (10 * v6) + j3_s0))) := ⟨_, rfl⟩
      obtain ⟨OJ1, hOJ1⟩ : ∃ q : Int32 → Prop, q = (fun (j1_s0 : Int32) => (vp_in 3 204) ∧ (vp_in ((60 * l1) + v6) 300) ∧ jn (fun (OJ2 : Int32 → Prop) => (((T.2.2.1 584 ((60 * l1) + v6 : Int32).toNatClampNeg) ≤ (v5 + (T.2.2.1 575 (3 : Int32).toNatClampNeg)) → OJ2 (T.2.2.1 584 ((60 * l1) + v6 : Int32).toNatClampNeg)) ∧ (¬ (T.2.2.1 584 ((60 * l1) + v6 : Int32).toNatClampNeg) ≤ (v5 + (T.2.2.1 575 (3 : Int32).toNatClampNeg)) → OJ2 (v5 + (T.2.2.1 575 (3 : Int32).toNatClampNeg))))) (fun (j2_s0 : Int32) => (ok_m_bigOnes T v6 l3) ∧ (vp_in ((60 * l1) + v6) 300) ∧ jn (fun (OJ3 : Int32 → Prop) => (((T.2.2.1 578 ((60 * l1) + v6 : Int32).toNatClampNeg) ≤ (x_m_bigOnes T v6 l3) → (vp_in 0 204) ∧ (((T.2.2.1 579 ((60 * l1) + v6 : Int32).toNatClampNeg) ≤ ((T.2.2.1 575 (0 : Int32).toNatClampNeg) + (x_m_bigOnes T v6 l3)) → (vp_in 2 204) ∧ (((T.2.2.1 580 ((60 * l1) + v6 : Int32).toNatClampNeg) ≤ (T.2.2.1 575 (2 : Int32).toNatClampNeg) → ((j1_s0 ≤ j2_s0 → (ok_m_handsAt T v6 l2) ∧ (((T.2.2.1 581 ((60 * l1) + v6 : Int32).toNatClampNeg) ≤ (x_m_handsAt T v6 l2) → (vp_in 6 204) ∧ (((T.2.2.1 582 ((60 * l1) + v6 : Int32).toNatClampNeg) ≤ (T.2.2.1 575 (6 : Int32).toNatClampNeg) → OJ3 0) ∧ (¬ (T.2.2.1 582 ((60 * l1) + v6 : Int32).toNatClampNeg) ≤ (T.2.2.1 575 (6 : Int32).toNatClampNeg) → OJ3 6))) ∧ (¬ (T.2.2.1 581 ((60 * l1) + v6 : Int32).toNatClampNeg) ≤ (x_m_handsAt T v6 l2) → OJ3 5))) ∧ (¬ j1_s0 ≤ j2_s0 → OJ3 4))) ∧ (¬ (T.2.2.1 580 ((60 * l1) + v6 : Int32).toNatClampNeg) ≤ (T.2.2.1 575 (2 : Int32).toNatClampNeg) → OJ3 3))) ∧ (¬ (T.2.2.1 579 ((60 * l1) + v6 : Int32).toNatClampNeg) ≤ ((T.2.2.1 575 (0 : Int32).toNatClampNeg) + (x_m_bigOnes T v6 l3)) → OJ3 2))) ∧ (¬ (T.2.2.1 578 ((60 * l1) + v6 : Int32).toNatClampNeg) ≤ (x_m_bigOnes T v6 l3) → OJ3 1))) (fun (j3_s0 : Int32) => (j3_s0 ≤ 0 → ok_m_lacks_9 T l1 l2 l3 Kk f j1_s0 j2_s0 (v6 + 1))))) := ⟨_, rfl⟩
      rw [← hOJ1] at kk
      simp only [jn] at kk
      have hJ1 : ∀ (j1_s0 : Int32), OJ1 j1_s0 → tR X 2 mX12_lacks 63 [some (.ref 571), some (.int l1), some (.int l2), some (.int l3), some (.int v4), some (.int v5), some (.int v6), some (.int ((60 * l1) + v6)), none, none] [.int j1_s0] T (some (.int (KJ1 j1_s0))) T := by
        intro j1_s0 kk
        rw [hOJ1] at kk
        try dsimp only at kk
        rw [hKJ1]
        refine r_p dX12_lacks_63 rfl rfl ?_
        refine r_p dX12_lacks_65 rfl rfl ?_
        refine r_p dX12_lacks_67 rfl rfl ?_
        refine r_get dX12_lacks_68 fkX12_19 rfl rfl ?_
        refine r_ci (x := 3) dX12_lacks_71 rfl ?_
        obtain ⟨q3, kk⟩ := kk
        refine r_ia dX12_lacks_72 rfl q3 ?_
        refine r_p dX12_lacks_73 rfl rfl ?_
        refine r_p dX12_lacks_74 rfl rfl ?_
        refine r_get dX12_lacks_75 fkX12_46 rfl rfl ?_
        refine r_p dX12_lacks_78 rfl rfl ?_
        obtain ⟨q4, kk⟩ := kk
        refine r_ia dX12_lacks_80 rfl q4 ?_
        obtain ⟨KJ2, hKJ2⟩ : ∃ q : Int32 → Int32, q = (fun (j2_s0 : Int32) => jn (fun (KJ3 : Int32 → Int32) => if (T.2.2.1 578 ((60 * l1) + v6 : Int32).toNatClampNeg) ≤ (x_m_bigOnes T v6 l3) then (if (T.2.2.1 579 ((60 * l1) + v6 : Int32).toNatClampNeg) ≤ ((T.2.2.1 575 (0 : Int32).toNatClampNeg) + (x_m_bigOnes T v6 l3)) then (if (T.2.2.1 580 ((60 * l1) + v6 : Int32).toNatClampNeg) ≤ (T.2.2.1 575 (2 : Int32).toNatClampNeg) then (if j1_s0 ≤ j2_s0 then (if (T.2.2.1 581 ((60 * l1) + v6 : Int32).toNatClampNeg) ≤ (x_m_handsAt T v6 l2) then (if (T.2.2.1 582 ((60 * l1) + v6 : Int32).toNatClampNeg) ≤ (T.2.2.1 575 (6 : Int32).toNatClampNeg) then (KJ3 0) else (KJ3 6)) else (KJ3 5)) else (KJ3 4)) else (KJ3 3)) else (KJ3 2)) else (KJ3 1)) (fun (j3_s0 : Int32) => if j3_s0 ≤ 0 then (x_m_lacks_9 T l1 l2 l3 K f j1_s0 j2_s0 (v6 + 1)) else (10 * v6) + j3_s0)) := ⟨_, rfl⟩
        obtain ⟨OJ2, hOJ2⟩ : ∃ q : Int32 → Prop, q = (fun (j2_s0 : Int32) => (ok_m_bigOnes T v6 l3) ∧ (vp_in ((60 * l1) + v6) 300) ∧ jn (fun (OJ3 : Int32 → Prop) => (((T.2.2.1 578 ((60 * l1) + v6 : Int32).toNatClampNeg) ≤ (x_m_bigOnes T v6 l3) → (vp_in 0 204) ∧ (((T.2.2.1 579 ((60 * l1) + v6 : Int32).toNatClampNeg) ≤ ((T.2.2.1 575 (0 : Int32).toNatClampNeg) + (x_m_bigOnes T v6 l3)) → (vp_in 2 204) ∧ (((T.2.2.1 580 ((60 * l1) + v6 : Int32).toNatClampNeg) ≤ (T.2.2.1 575 (2 : Int32).toNatClampNeg) → ((j1_s0 ≤ j2_s0 → (ok_m_handsAt T v6 l2) ∧ (((T.2.2.1 581 ((60 * l1) + v6 : Int32).toNatClampNeg) ≤ (x_m_handsAt T v6 l2) → (vp_in 6 204) ∧ (((T.2.2.1 582 ((60 * l1) + v6 : Int32).toNatClampNeg) ≤ (T.2.2.1 575 (6 : Int32).toNatClampNeg) → OJ3 0) ∧ (¬ (T.2.2.1 582 ((60 * l1) + v6 : Int32).toNatClampNeg) ≤ (T.2.2.1 575 (6 : Int32).toNatClampNeg) → OJ3 6))) ∧ (¬ (T.2.2.1 581 ((60 * l1) + v6 : Int32).toNatClampNeg) ≤ (x_m_handsAt T v6 l2) → OJ3 5))) ∧ (¬ j1_s0 ≤ j2_s0 → OJ3 4))) ∧ (¬ (T.2.2.1 580 ((60 * l1) + v6 : Int32).toNatClampNeg) ≤ (T.2.2.1 575 (2 : Int32).toNatClampNeg) → OJ3 3))) ∧ (¬ (T.2.2.1 579 ((60 * l1) + v6 : Int32).toNatClampNeg) ≤ ((T.2.2.1 575 (0 : Int32).toNatClampNeg) + (x_m_bigOnes T v6 l3)) → OJ3 2))) ∧ (¬ (T.2.2.1 578 ((60 * l1) + v6 : Int32).toNatClampNeg) ≤ (x_m_bigOnes T v6 l3) → OJ3 1))) (fun (j3_s0 : Int32) => (j3_s0 ≤ 0 → ok_m_lacks_9 T l1 l2 l3 Kk f j1_s0 j2_s0 (v6 + 1)))) := ⟨_, rfl⟩
        rw [← hOJ2] at kk
        simp only [jn] at kk
        have hJ2 : ∀ (j2_s0 : Int32), OJ2 j2_s0 → tR X 2 mX12_lacks 103 [some (.ref 571), some (.int l1), some (.int l2), some (.int l3), some (.int j1_s0), some (.int v5), some (.int v6), some (.int ((60 * l1) + v6)), none, none] [.int j2_s0] T (some (.int (KJ2 j2_s0))) T := by
          intro j2_s0 kk
          rw [hOJ2] at kk
          try dsimp only at kk
          rw [hKJ2]
          refine r_p dX12_lacks_103 rfl rfl ?_
          refine r_p dX12_lacks_105 rfl rfl ?_
          refine r_p dX12_lacks_106 rfl rfl ?_
          refine r_p dX12_lacks_108 rfl rfl ?_
          obtain ⟨q5, kk⟩ := kk
          refine r_cv (d1 := 1) dX12_lacks_109 cvX12_257 rfl rfl rfl rfl (Nat.le_of_ble_eq_true rfl) (Nat.le_of_ble_eq_true rfl) (Nat.le_of_ble_eq_true rfl) (c_m_bigOnes v6 l3 q5) ?_
          refine r_p dX12_lacks_112 rfl rfl ?_
          refine r_p dX12_lacks_114 rfl rfl ?_
          refine r_get dX12_lacks_115 fkX12_28 rfl rfl ?_
          refine r_p dX12_lacks_118 rfl rfl ?_
          obtain ⟨q6, kk⟩ := kk
          refine r_ia dX12_lacks_120 rfl q6 ?_
          refine r_p dX12_lacks_121 rfl rfl ?_
          obtain ⟨KJ3, hKJ3⟩ : ∃ q : Int32 → Int32, q = (fun (j3_s0 : Int32) => if j3_s0 ≤ 0 then (x_m_lacks_9 T l1 l2 l3 K f j1_s0 j2_s0 (v6 + 1)) else (10 * v6) + j3_s0) := ⟨_, rfl⟩
          obtain ⟨OJ3, hOJ3⟩ : ∃ q : Int32 → Prop, q = (fun (j3_s0 : Int32) => (j3_s0 ≤ 0 → ok_m_lacks_9 T l1 l2 l3 Kk f j1_s0 j2_s0 (v6 + 1))) := ⟨_, rfl⟩
          rw [← hOJ3] at kk
          simp only [jn] at kk
          have hJ3 : ∀ (j3_s0 : Int32), OJ3 j3_s0 → tR X 2 mX12_lacks 228 [some (.ref 571), some (.int l1), some (.int l2), some (.int l3), some (.int j1_s0), some (.int j2_s0), some (.int v6), some (.int ((60 * l1) + v6)), some (.int (x_m_bigOnes T v6 l3)), none] [.int j3_s0] T (some (.int (KJ3 j3_s0))) T := by
            intro j3_s0 kk
            rw [hOJ3] at kk
            try dsimp only at kk
            rw [hKJ3]
            refine r_p dX12_lacks_228 rfl rfl ?_
            refine r_p dX12_lacks_230 rfl rfl ?_
            refine r_ile dX12_lacks_232 rfl (fun c232_10 => ?_) (fun c232_10 => ?_)
            · have kk := kk c232_10
              refine r_inc (y := 1) dX12_lacks_244 rfl rfl rfl ?_
              refine r_go dX12_lacks_247 rfl ?_
              show tR _ _ _ _ [some (.ref 571), some (.int l1), some (.int l2), some (.int l3), some (.int j1_s0), some (.int j2_s0), some (.int (v6 + 1)), some (.int ((60 * l1) + v6)), some (.int (x_m_bigOnes T v6 l3)), some (.int j3_s0)] _ _ _ _
              exact r_eIp (r' := x_m_lacks_9 T l1 l2 l3 K f j1_s0 j2_s0 (v6 + 1)) (by first | rw [if_pos c232_10] | (dsimp only; rw [if_pos c232_10])) (r_le (le_s (le_s (le_s (le_s (le_s (le_s (le_s (le_n (le_n (le_n (le_0))))))))))) (ih j1_s0 j2_s0 (v6 + 1)  kk))
            · refine r_cb (x := 10) dX12_lacks_235 rfl ?_
              refine r_p dX12_lacks_237 rfl rfl ?_
              refine r_p dX12_lacks_239 rfl rfl ?_
              refine r_p dX12_lacks_240 rfl rfl ?_
              refine r_p dX12_lacks_242 rfl rfl ?_
              exact r_eIp (r' := ((10 * v6) + j3_s0)) (by first | rw [if_neg c232_10] | (dsimp only; rw [if_neg c232_10])) (r_ri dX12_lacks_243 rfl rfl rfl rfl)
          refine r_eIp (r' := jn (fun (KJ3 : Int32 → Int32) => if (T.2.2.1 578 ((60 * l1) + v6 : Int32).toNatClampNeg) ≤ (x_m_bigOnes T v6 l3) then (if (T.2.2.1 579 ((60 * l1) + v6 : Int32).toNatClampNeg) ≤ ((T.2.2.1 575 (0 : Int32).toNatClampNeg) + (x_m_bigOnes T v6 l3)) then (if (T.2.2.1 580 ((60 * l1) + v6 : Int32).toNatClampNeg) ≤ (T.2.2.1 575 (2 : Int32).toNatClampNeg) then (if j1_s0 ≤ j2_s0 then (if (T.2.2.1 581 ((60 * l1) + v6 : Int32).toNatClampNeg) ≤ (x_m_handsAt T v6 l2) then (if (T.2.2.1 582 ((60 * l1) + v6 : Int32).toNatClampNeg) ≤ (T.2.2.1 575 (6 : Int32).toNatClampNeg) then (KJ3 0) else (KJ3 6)) else (KJ3 5)) else (KJ3 4)) else (KJ3 3)) else (KJ3 2)) else (KJ3 1)) KJ3) (by rw [hKJ3]) ?_
          refine r_cle dX12_lacks_123 rfl (fun c123_11 => ?_) (fun c123_11 => ?_)
          · have kk := kk.1 c123_11
            refine r_p dX12_lacks_130 rfl rfl ?_
            refine r_get dX12_lacks_131 fkX12_31 rfl rfl ?_
            refine r_p dX12_lacks_134 rfl rfl ?_
            refine r_ia dX12_lacks_136 rfl q6 ?_
            refine r_p dX12_lacks_137 rfl rfl ?_
            refine r_get dX12_lacks_138 fkX12_19 rfl rfl ?_
            refine r_ci (x := 0) dX12_lacks_141 rfl ?_
            obtain ⟨q11, kk⟩ := kk
            refine r_ia dX12_lacks_142 rfl q11 ?_
            refine r_p dX12_lacks_143 rfl rfl ?_
            refine r_p dX12_lacks_145 rfl rfl ?_
            refine r_cle dX12_lacks_146 rfl (fun c146_12 => ?_) (fun c146_12 => ?_)
            · have kk := kk.1 c146_12
              refine r_p dX12_lacks_153 rfl rfl ?_
              refine r_get dX12_lacks_154 fkX12_34 rfl rfl ?_
              refine r_p dX12_lacks_157 rfl rfl ?_
              refine r_ia dX12_lacks_159 rfl q6 ?_
              refine r_p dX12_lacks_160 rfl rfl ?_
              refine r_get dX12_lacks_161 fkX12_19 rfl rfl ?_
              refine r_ci (x := 2) dX12_lacks_164 rfl ?_
              obtain ⟨q12, kk⟩ := kk
              refine r_ia dX12_lacks_165 rfl q12 ?_
              refine r_cle dX12_lacks_166 rfl (fun c166_13 => ?_) (fun c166_13 => ?_)
              · have kk := kk.1 c166_13
                refine r_p dX12_lacks_173 rfl rfl ?_
                refine r_p dX12_lacks_175 rfl rfl ?_
                refine r_cle dX12_lacks_177 rfl (fun c177_14 => ?_) (fun c177_14 => ?_)
                · have kk := kk.1 c177_14
                  refine r_p dX12_lacks_184 rfl rfl ?_
                  refine r_get dX12_lacks_185 fkX12_37 rfl rfl ?_
                  refine r_p dX12_lacks_188 rfl rfl ?_
                  refine r_ia dX12_lacks_190 rfl q6 ?_
                  refine r_p dX12_lacks_191 rfl rfl ?_
                  refine r_p dX12_lacks_192 rfl rfl ?_
                  refine r_p dX12_lacks_194 rfl rfl ?_
                  obtain ⟨q13, kk⟩ := kk
                  refine r_cv (d1 := 2) dX12_lacks_195 cvX12_260 rfl rfl rfl rfl (Nat.le_of_ble_eq_true rfl) (Nat.le_of_ble_eq_true rfl) (Nat.le_of_ble_eq_true rfl) (c_m_handsAt v6 l2 q13) ?_
                  refine r_cle dX12_lacks_198 rfl (fun c198_15 => ?_) (fun c198_15 => ?_)
                  · have kk := kk.1 c198_15
                    refine r_p dX12_lacks_205 rfl rfl ?_
                    refine r_get dX12_lacks_206 fkX12_40 rfl rfl ?_
                    refine r_p dX12_lacks_209 rfl rfl ?_
                    refine r_ia dX12_lacks_211 rfl q6 ?_
                    refine r_p dX12_lacks_212 rfl rfl ?_
                    refine r_get dX12_lacks_213 fkX12_19 rfl rfl ?_
                    refine r_cb (x := 6) dX12_lacks_216 rfl ?_
                    obtain ⟨q14, kk⟩ := kk
                    refine r_ia dX12_lacks_218 rfl q14 ?_
                    refine r_cle dX12_lacks_219 rfl (fun c219_16 => ?_) (fun c219_16 => ?_)
                    · have kk := kk.1 c219_16
                      refine r_ci (x := 0) dX12_lacks_227 rfl ?_
                      show tR _ _ _ _ [some (.ref 571), some (.int l1), some (.int l2), some (.int l3), some (.int j1_s0), some (.int j2_s0), some (.int v6), some (.int ((60 * l1) + v6)), some (.int (x_m_bigOnes T v6 l3)), none] [.int 0] _ _ _
                      exact r_eIp (r' := KJ3 0) (by simp only [jn]; rw [if_pos c123_11, if_pos c146_12, if_pos c166_13, if_pos c177_14, if_pos c198_15, if_pos c219_16]) ((hJ3 0 kk))
                    · have kk := kk.2 c219_16
                      refine r_cb (x := 6) dX12_lacks_222 rfl ?_
                      refine r_go dX12_lacks_224 rfl ?_
                      show tR _ _ _ _ [some (.ref 571), some (.int l1), some (.int l2), some (.int l3), some (.int j1_s0), some (.int j2_s0), some (.int v6), some (.int ((60 * l1) + v6)), some (.int (x_m_bigOnes T v6 l3)), none] [.int 6] _ _ _
                      exact r_eIp (r' := KJ3 6) (by simp only [jn]; rw [if_pos c123_11, if_pos c146_12, if_pos c166_13, if_pos c177_14, if_pos c198_15, if_neg c219_16]) ((hJ3 6 kk))
                  · have kk := kk.2 c198_15
                    refine r_ci (x := 5) dX12_lacks_201 rfl ?_
                    refine r_go dX12_lacks_202 rfl ?_
                    show tR _ _ _ _ [some (.ref 571), some (.int l1), some (.int l2), some (.int l3), some (.int j1_s0), some (.int j2_s0), some (.int v6), some (.int ((60 * l1) + v6)), some (.int (x_m_bigOnes T v6 l3)), none] [.int 5] _ _ _
                    exact r_eIp (r' := KJ3 5) (by simp only [jn]; rw [if_pos c123_11, if_pos c146_12, if_pos c166_13, if_pos c177_14, if_neg c198_15]) ((hJ3 5 kk))
                · have kk := kk.2 c177_14
                  refine r_ci (x := 4) dX12_lacks_180 rfl ?_
                  refine r_go dX12_lacks_181 rfl ?_
                  show tR _ _ _ _ [some (.ref 571), some (.int l1), some (.int l2), some (.int l3), some (.int j1_s0), some (.int j2_s0), some (.int v6), some (.int ((60 * l1) + v6)), some (.int (x_m_bigOnes T v6 l3)), none] [.int 4] _ _ _
                  exact r_eIp (r' := KJ3 4) (by simp only [jn]; rw [if_pos c123_11, if_pos c146_12, if_pos c166_13, if_neg c177_14]) ((hJ3 4 kk))
              · have kk := kk.2 c166_13
                refine r_ci (x := 3) dX12_lacks_169 rfl ?_
                refine r_go dX12_lacks_170 rfl ?_
                show tR _ _ _ _ [some (.ref 571), some (.int l1), some (.int l2), some (.int l3), some (.int j1_s0), some (.int j2_s0), some (.int v6), some (.int ((60 * l1) + v6)), some (.int (x_m_bigOnes T v6 l3)), none] [.int 3] _ _ _
                exact r_eIp (r' := KJ3 3) (by simp only [jn]; rw [if_pos c123_11, if_pos c146_12, if_neg c166_13]) ((hJ3 3 kk))
            · have kk := kk.2 c146_12
              refine r_ci (x := 2) dX12_lacks_149 rfl ?_
              refine r_go dX12_lacks_150 rfl ?_
              show tR _ _ _ _ [some (.ref 571), some (.int l1), some (.int l2), some (.int l3), some (.int j1_s0), some (.int j2_s0), some (.int v6), some (.int ((60 * l1) + v6)), some (.int (x_m_bigOnes T v6 l3)), none] [.int 2] _ _ _
              exact r_eIp (r' := KJ3 2) (by simp only [jn]; rw [if_pos c123_11, if_neg c146_12]) ((hJ3 2 kk))
          · have kk := kk.2 c123_11
            refine r_ci (x := 1) dX12_lacks_126 rfl ?_
            refine r_go dX12_lacks_127 rfl ?_
            show tR _ _ _ _ [some (.ref 571), some (.int l1), some (.int l2), some (.int l3), some (.int j1_s0), some (.int j2_s0), some (.int v6), some (.int ((60 * l1) + v6)), some (.int (x_m_bigOnes T v6 l3)), none] [.int 1] _ _ _
            exact r_eIp (r' := KJ3 1) (by simp only [jn]; rw [if_neg c123_11]) ((hJ3 1 kk))
        refine r_eIp (r' := jn (fun (KJ2 : Int32 → Int32) => if (T.2.2.1 584 ((60 * l1) + v6 : Int32).toNatClampNeg) ≤ (v5 + (T.2.2.1 575 (3 : Int32).toNatClampNeg)) then (KJ2 (T.2.2.1 584 ((60 * l1) + v6 : Int32).toNatClampNeg)) else (KJ2 (v5 + (T.2.2.1 575 (3 : Int32).toNatClampNeg)))) KJ2) (by rw [hKJ2]) ?_
        refine r_cge dX12_lacks_81 rfl (fun c81_17 => ?_) (fun c81_17 => ?_)
        · have kk := kk.1 c81_17
          refine r_p dX12_lacks_96 rfl rfl ?_
          refine r_get dX12_lacks_97 fkX12_46 rfl rfl ?_
          refine r_p dX12_lacks_100 rfl rfl ?_
          refine r_ia dX12_lacks_102 rfl q4 ?_
          show tR _ _ _ _ [some (.ref 571), some (.int l1), some (.int l2), some (.int l3), some (.int j1_s0), some (.int v5), some (.int v6), some (.int ((60 * l1) + v6)), none, none] [.int (T.2.2.1 584 ((60 * l1) + v6 : Int32).toNatClampNeg)] _ _ _
          exact r_eIp (r' := KJ2 (T.2.2.1 584 ((60 * l1) + v6 : Int32).toNatClampNeg)) (by simp only [jn]; rw [if_pos c81_17]) ((hJ2 (T.2.2.1 584 ((60 * l1) + v6 : Int32).toNatClampNeg) kk))
        · have kk := kk.2 c81_17
          refine r_p dX12_lacks_84 rfl rfl ?_
          refine r_p dX12_lacks_86 rfl rfl ?_
          refine r_get dX12_lacks_87 fkX12_19 rfl rfl ?_
          refine r_ci (x := 3) dX12_lacks_90 rfl ?_
          refine r_ia dX12_lacks_91 rfl q3 ?_
          refine r_p dX12_lacks_92 rfl rfl ?_
          refine r_go dX12_lacks_93 rfl ?_
          show tR _ _ _ _ [some (.ref 571), some (.int l1), some (.int l2), some (.int l3), some (.int j1_s0), some (.int v5), some (.int v6), some (.int ((60 * l1) + v6)), none, none] [.int (v5 + (T.2.2.1 575 (3 : Int32).toNatClampNeg))] _ _ _
          exact r_eIp (r' := KJ2 (v5 + (T.2.2.1 575 (3 : Int32).toNatClampNeg))) (by simp only [jn]; rw [if_neg c81_17]) ((hJ2 (v5 + (T.2.2.1 575 (3 : Int32).toNatClampNeg)) kk))
      refine r_eIp (r' := jn (fun (KJ1 : Int32 → Int32) => if (v4 - (T.2.2.1 575 (4 : Int32).toNatClampNeg)) ≤ (T.2.2.1 583 ((60 * l1) + v6 : Int32).toNatClampNeg) then (KJ1 (T.2.2.1 583 ((60 * l1) + v6 : Int32).toNatClampNeg)) else (KJ1 (v4 - (T.2.2.1 575 (4 : Int32).toNatClampNeg)))) KJ1) (by rw [hKJ1]; rw [x_m_lacks_9]; rw [if_neg c13_1]) ?_
      refine r_cle dX12_lacks_41 rfl (fun c41_18 => ?_) (fun c41_18 => ?_)
      · have kk := kk.1 c41_18
        refine r_p dX12_lacks_56 rfl rfl ?_
        refine r_get dX12_lacks_57 fkX12_43 rfl rfl ?_
        refine r_p dX12_lacks_60 rfl rfl ?_
        refine r_ia dX12_lacks_62 rfl q2 ?_
        show tR _ _ _ _ [some (.ref 571), some (.int l1), some (.int l2), some (.int l3), some (.int v4), some (.int v5), some (.int v6), some (.int ((60 * l1) + v6)), none, none] [.int (T.2.2.1 583 ((60 * l1) + v6 : Int32).toNatClampNeg)] _ _ _
        exact r_eIp (r' := KJ1 (T.2.2.1 583 ((60 * l1) + v6 : Int32).toNatClampNeg)) (by simp only [jn]; rw [if_pos c41_18]) ((hJ1 (T.2.2.1 583 ((60 * l1) + v6 : Int32).toNatClampNeg) kk))
      · have kk := kk.2 c41_18
        refine r_p dX12_lacks_44 rfl rfl ?_
        refine r_p dX12_lacks_46 rfl rfl ?_
        refine r_get dX12_lacks_47 fkX12_19 rfl rfl ?_
        refine r_ci (x := 4) dX12_lacks_50 rfl ?_
        refine r_ia dX12_lacks_51 rfl q1 ?_
        refine r_p dX12_lacks_52 rfl rfl ?_
        refine r_go dX12_lacks_53 rfl ?_
        show tR _ _ _ _ [some (.ref 571), some (.int l1), some (.int l2), some (.int l3), some (.int v4), some (.int v5), some (.int v6), some (.int ((60 * l1) + v6)), none, none] [.int (v4 - (T.2.2.1 575 (4 : Int32).toNatClampNeg))] _ _ _
        exact r_eIp (r' := KJ1 (v4 - (T.2.2.1 575 (4 : Int32).toNatClampNeg))) (by simp only [jn]; rw [if_neg c41_18]) ((hJ1 (v4 - (T.2.2.1 575 (4 : Int32).toNatClampNeg)) kk))
def x_m_lacks (T : St) (p0 : Int32) (p1 : Int32) (p2 : Int32) : Int32 := x_m_lacks_9 T p0 p1 p2 (fun (w1_4 : Int32) (w1_5 : Int32) (w1_6 : Int32) => (-1000000)) 1000 0 0 0
def ok_m_lacks (T : St) (p0 : Int32) (p1 : Int32) (p2 : Int32) : Prop := ok_m_lacks_9 T p0 p1 p2 (fun (w1_4 : Int32) (w1_5 : Int32) (w1_6 : Int32) => True) 1000 0 0 0
theorem c_m_lacks {X : Nat × (Nat → Int32)} {T : St} (p0 : Int32) (p1 : Int32) (p2 : Int32) (kk : ok_m_lacks T p0 p1 p2) : tC X 3 mX12_lacks [.ref 571, .int p0, .int p1, .int p2] T (some (.int (x_m_lacks T p0 p1 p2))) T := by
  unfold ok_m_lacks at kk
  refine tC_of ?_
  refine r_ci (x := 0) dX12_lacks_0 rfl ?_
  refine r_p dX12_lacks_1 rfl rfl ?_
  refine r_ci (x := 0) dX12_lacks_3 rfl ?_
  refine r_p dX12_lacks_4 rfl rfl ?_
  refine r_ci (x := 0) dX12_lacks_6 rfl ?_
  refine r_p dX12_lacks_7 rfl rfl ?_
  show tR _ _ _ _ [some (.ref 571), some (.int p0), some (.int p1), some (.int p2), some (.int 0), some (.int 0), some (.int 0), none, none, none] _ _ _ _
  refine r_eIp (r' := x_m_lacks_9 T p0 p1 p2 (fun (w1_4 : Int32) (w1_5 : Int32) (w1_6 : Int32) => (-1000000)) 1000 0 0 0) (by unfold x_m_lacks; rfl) ((c_m_lacks_9 T p0 p1 p2 (fun w1_4 w1_5 w1_6 kk => ?_) 1000 0 0 0  kk))
  · refine r_k dX12_lacks_250 kkX12_137 ?_
    exact r_eIp (r' := (-1000000)) rfl (r_ri dX12_lacks_252 rfl rfl rfl rfl)
def x_m_layBegins_92 (l1 : Int32) (l2 : Int32) (l3 : Int32) (l4 : Int32) (l5 : Int32) (l6 : Int32) (l7 : Int32) (l8 : Int32) (K : Int32 → Int32 → Int32 → Int32 → Int32 → St → Int32 × St) : Nat → Int32 → Int32 → Int32 → Int32 → Int32 → St → Int32 × St
  | 0, _, _, _, _, _, T => (0, T)
  | f + 1, v9, v10, v11, v12, v13, T => if v13 < 0 then (K v9 v10 v11 v12 v13 T) else (jn (fun (KJ1 : Int32 → Int32 × St) => if v13 = (l4 - 1) then (KJ1 0) else (if v13 = 0 then (KJ1 l7) else (KJ1 l8))) (fun (j1_s0 : Int32) => (fun (T1 : St) => jn (fun (KJ2 : Int32 → Int32 × St) => if (x_m_stepOf T1 ((x_m_dishOf T l3 4) + v13) 0) = 5 then (KJ2 ((x_m_stepOf T1 ((x_m_dishOf T l3 4) + v13) 4) * (x_m_stepOf T1 ((x_m_dishOf T l3 4) + v13) 1))) else (KJ2 0)) (fun (j2_s1 : Int32) => if v12 = 0 then (x_m_layBegins_92 l1 l2 l3 l4 l5 l6 l7 l8 K f (T1.2.2.1 588 ((3 * l1) + v13 : Int32).toNatClampNeg) (v10 + j1_s0) (v11 + j2_s1) 0 (v13 + (-1)) T1) else (jn (fun (KJ3 : Int32 × St) => if (T1.1 571 32) ≤ 0 then (KJ3) else (if (T1.1 571 32) ≤ (T1.2.2.1 591 ((3 * l1) + v13 : Int32).toNatClampNeg) then (KJ3) else (if (T1.2.2.1 588 ((3 * l1) + v13 : Int32).toNatClampNeg) = (T1.2.2.1 591 ((3 * l1) + v13 : Int32).toNatClampNeg) then (x_m_layBegins_92 l1 l2 l3 l4 l5 l6 l7 l8 K f (T1.2.2.1 588 ((3 * l1) + v13 : Int32).toNatClampNeg) (v10 + j1_s0) (v11 + j2_s1) 1 (v13 + (-1)) T1) else (x_m_layBegins_92 l1 l2 l3 l4 l5 l6 l7 l8 K f (T1.2.2.1 588 ((3 * l1) + v13 : Int32).toNatClampNeg) (v10 + j1_s0) (v11 + j2_s1) 0 (v13 + (-1)) T1)))) (if (T1.2.2.1 588 ((3 * l1) + v13 : Int32).toNatClampNeg) < (T1.1 571 32) then (x_m_layBegins_92 l1 l2 l3 l4 l5 l6 l7 l8 K f (T1.2.2.1 588 ((3 * l1) + v13 : Int32).toNatClampNeg) (v10 + j1_s0) (v11 + j2_s1) 0 (v13 + (-1)) T1) else (x_m_layBegins_92 l1 l2 l3 l4 l5 l6 l7 l8 K f (T1.2.2.1 588 ((3 * l1) + v13 : Int32).toNatClampNeg) (v10 + j1_s0) (v11 + j2_s1) 1 (v13 + (-1)) T1))))) (sA T 588 ((3 * l1) + v13 : Int32).toNatClampNeg ((v9 - j1_s0) - (x_m_stepOf T ((x_m_dishOf T l3 4) + v13) 1)))))
def ok_m_layBegins_92 (l1 : Int32) (l2 : Int32) (l3 : Int32) (l4 : Int32) (l5 : Int32) (l6 : Int32) (l7 : Int32) (l8 : Int32) (Kk : Int32 → Int32 → Int32 → Int32 → Int32 → St → Prop) : Nat → Int32 → Int32 → Int32 → Int32 → Int32 → St → Prop
  | 0, _, _, _, _, _, _ => False
  | f + 1, v9, v10, v11, v12, v13, T => ((v13 < 0 → Kk v9 v10 v11 v12 v13 T) ∧ (¬ v13 < 0 → (ok_m_dishOf T l3 4) ∧ jn (fun (OJ1 : Int32 → Prop) => ((v13 = (l4 - 1) → OJ1 0) ∧ (¬ v13 = (l4 - 1) → ((v13 = 0 → OJ1 l7) ∧ (¬ v13 = 0 → OJ1 l8))))) (fun (j1_s0 : Int32) => (ok_m_stepOf T ((x_m_dishOf T l3 4) + v13) 1) ∧ (vp_in ((3 * l1) + v13) 12) ∧ (fun (T1 : St) => (vp_in ((3 * l1) + v13) 12) ∧ (ok_m_stepOf T1 ((x_m_dishOf T l3 4) + v13) 0) ∧ jn (fun (OJ2 : Int32 → Prop) => (((x_m_stepOf T1 ((x_m_dishOf T l3 4) + v13) 0) = 5 → (ok_m_stepOf T1 ((x_m_dishOf T l3 4) + v13) 4) ∧ (ok_m_stepOf T1 ((x_m_dishOf T l3 4) + v13) 1) ∧ OJ2 ((x_m_stepOf T1 ((x_m_dishOf T l3 4) + v13) 4) * (x_m_stepOf T1 ((x_m_dishOf T l3 4) + v13) 1))) ∧ (¬ (x_m_stepOf T1 ((x_m_dishOf T l3 4) + v13) 0) = 5 → OJ2 0))) (fun (j2_s1 : Int32) => ((v12 = 0 → ok_m_layBegins_92 l1 l2 l3 l4 l5 l6 l7 l8 Kk f (T1.2.2.1 588 ((3 * l1) + v13 : Int32).toNatClampNeg) (v10 + j1_s0) (v11 + j2_s1) 0 (v13 + (-1)) T1) ∧ (¬ v12 = 0 → jn (fun (OJ3 : Prop) => (((T1.1 571 32) ≤ 0 → OJ3) ∧ (¬ (T1.1 571 32) ≤ 0 → (vp_in ((3 * l1) + v13) 12) ∧ (((T1.1 571 32) ≤ (T1.2.2.1 591 ((3 * l1) + v13 : Int32).toNatClampNeg) → OJ3) ∧ (¬ (T1.1 571 32) ≤ (T1.2.2.1 591 ((3 * l1) + v13 : Int32).toNatClampNeg) → (((T1.2.2.1 588 ((3 * l1) + v13 : Int32).toNatClampNeg) = (T1.2.2.1 591 ((3 * l1) + v13 : Int32).toNatClampNeg) → ok_m_layBegins_92 l1 l2 l3 l4 l5 l6 l7 l8 Kk f (T1.2.2.1 588 ((3 * l1) + v13 : Int32).toNatClampNeg) (v10 + j1_s0) (v11 + j2_s1) 1 (v13 + (-1)) T1) ∧ (¬ (T1.2.2.1 588 ((3 * l1) + v13 : Int32).toNatClampNeg) = (T1.2.2.1 591 ((3 * l1) + v13 : Int32).toNatClampNeg) → ok_m_layBegins_92 l1 l2 l3 l4 l5 l6 l7 l8 Kk f (T1.2.2.1 588 ((3 * l1) + v13 : Int32).toNatClampNeg) (v10 + j1_s0) (v11 + j2_s1) 0 (v13 + (-1)) T1))))))) ((((T1.2.2.1 588 ((3 * l1) + v13 : Int32).toNatClampNeg) < (T1.1 571 32) → ok_m_layBegins_92 l1 l2 l3 l4 l5 l6 l7 l8 Kk f (T1.2.2.1 588 ((3 * l1) + v13 : Int32).toNatClampNeg) (v10 + j1_s0) (v11 + j2_s1) 0 (v13 + (-1)) T1) ∧ (¬ (T1.2.2.1 588 ((3 * l1) + v13 : Int32).toNatClampNeg) < (T1.1 571 32) → ok_m_layBegins_92 l1 l2 l3 l4 l5 l6 l7 l8 Kk f (T1.2.2.1 588 ((3 * l1) + v13 : Int32).toNatClampNeg) (v10 + j1_s0) (v11 + j2_s1) 1 (v13 + (-1)) T1))))))) (sA T 588 ((3 * l1) + v13 : Int32).toNatClampNeg ((v9 - j1_s0) - (x_m_stepOf T ((x_m_dishOf T l3 4) + v13) 1))))))
theorem c_m_layBegins_92 {X : Nat × (Nat → Int32)} (l1 : Int32) (l2 : Int32) (l3 : Int32) (l4 : Int32) (l5 : Int32) (l6 : Int32) (l7 : Int32) (l8 : Int32) {K : Int32 → Int32 → Int32 → Int32 → Int32 → St → Int32 × St} {Kk : Int32 → Int32 → Int32 → Int32 → Int32 → St → Prop} (hk : ∀ (v9 : Int32) (v10 : Int32) (v11 : Int32) (v12 : Int32) (v13 : Int32) (T : St), Kk v9 v10 v11 v12 v13 T → tR X 2 mX12_layBegins 285 [some (.ref 571), some (.int l1), some (.int l2), some (.int l3), some (.int l4), some (.int l5), some (.int l6), some (.int l7), some (.int l8), some (.int v9), some (.int v10), some (.int v11), some (.int v12), some (.int v13), none, none] [] T (some (.int (K v9 v10 v11 v12 v13 T).1)) ((K v9 v10 v11 v12 v13 T).2)) : ∀ (f : Nat) (v9 : Int32) (v10 : Int32) (v11 : Int32) (v12 : Int32) (v13 : Int32) (T : St), ok_m_layBegins_92 l1 l2 l3 l4 l5 l6 l7 l8 Kk f v9 v10 v11 v12 v13 T → tR X 2 mX12_layBegins 92 [some (.ref 571), some (.int l1), some (.int l2), some (.int l3), some (.int l4), some (.int l5), some (.int l6), some (.int l7), some (.int l8), some (.int v9), some (.int v10), some (.int v11), some (.int v12), some (.int v13), none, none] [] T (some (.int (x_m_layBegins_92 l1 l2 l3 l4 l5 l6 l7 l8 K f v9 v10 v11 v12 v13 T).1)) ((x_m_layBegins_92 l1 l2 l3 l4 l5 l6 l7 l8 K f v9 v10 v11 v12 v13 T).2) := by
  intro f
  induction f with
  | zero => intro v9 v10 v11 v12 v13 T kk; exact kk.elim
  | succ f ih =>
    intro v9 v10 v11 v12 v13 T kk
    rw [ok_m_layBegins_92] at kk
    refine r_p dX12_layBegins_92 rfl rfl ?_
    refine r_ilt dX12_layBegins_94 rfl (fun c94_1 => ?_) (fun c94_1 => ?_)
    · have kk := kk.1 c94_1
      show tR _ _ _ _ [some (.ref 571), some (.int l1), some (.int l2), some (.int l3), some (.int l4), some (.int l5), some (.int l6), some (.int l7), some (.int l8), some (.int v9), some (.int v10), some (.int v11), some (.int v12), some (.int v13), none, none] _ _ _ _
      exact r_eI (r' := K v9 v10 v11 v12 v13 T) (by rw [x_m_layBegins_92]; rw [if_pos c94_1]) ((hk v9 v10 v11 v12 v13 T kk))
    · have kk := kk.2 c94_1
      refine r_p dX12_layBegins_97 rfl rfl ?_
      refine r_p dX12_layBegins_98 rfl rfl ?_
      refine r_ci (x := 4) dX12_layBegins_99 rfl ?_
      obtain ⟨q8, kk⟩ := kk
      refine r_cv (d1 := 1) dX12_layBegins_100 cvX12_228 rfl rfl rfl rfl (Nat.le_of_ble_eq_true rfl) (Nat.le_of_ble_eq_true rfl) (Nat.le_of_ble_eq_true rfl) (c_m_dishOf l3 4 q8) ?_
      refine r_p dX12_layBegins_103 rfl rfl ?_
      refine r_p dX12_layBegins_105 rfl rfl ?_
      refine r_p dX12_layBegins_106 rfl rfl ?_
      refine r_p dX12_layBegins_108 rfl rfl ?_
      refine r_p dX12_layBegins_110 rfl rfl ?_
      refine r_ci (x := 1) dX12_layBegins_112 rfl ?_
      refine r_p dX12_layBegins_113 rfl rfl ?_
      obtain ⟨KJ1, hKJ1⟩ : ∃ q : Int32 → Int32 × St, q = (fun (j1_s0 : Int32) => (fun (T1 : St) => jn (fun (KJ2 : Int32 → Int32 × St) => if (x_m_stepOf T1 ((x_m_dishOf T l3 4) + v13) 0) = 5 then (KJ2 ((x_m_stepOf T1 ((x_m_dishOf T l3 4) + v13) 4) * (x_m_stepOf T1 ((x_m_dishOf T l3 4) + v13) 1))) else (KJ2 0)) (fun (j2_s1 : Int32) => if v12 = 0 then (x_m_layBegins_92 l1 l2 l3 l4 l5 l6 l7 l8 K f (T1.2.2.1 588 ((3 * l1) + v13 : Int32).toNatClampNeg) (v10 + j1_s0) (v11 + j2_s1) 0 (v13 + (-1)) T1) else (jn (fun (KJ3 : Int32 × St) => if (T1.1 571 32) ≤ 0 then (KJ3) else (if (T1.1 571 32) ≤ (T1.2.2.1 591 ((3 * l1) + v13 : Int32).toNatClampNeg) then (KJ3) else (if (T1.2.2.1 588 ((3 * l1) + v13 : Int32).toNatClampNeg) = (T1.2.2.1 591 ((3 * l1) + v13 : Int32).toNatClampNeg) then (x_m_layBegins_92 l1 l2 l3 l4 l5 l6 l7 l8 K f (T1.2.2.1 588 ((3 * l1) + v13 : Int32).toNatClampNeg) (v10 + j1_s0) (v11 + j2_s1) 1 (v13 + (-1)) T1) else (x_m_layBegins_92 l1 l2 l3 l4 l5 l6 l7 l8 K f (T1.2.2.1 588 ((3 * l1) + v13 : Int32).toNatClampNeg) (v10 + j1_s0) (v11 + j2_s1) 0 (v13 + (-1)) T1)))) (if (T1.2.2.1 588 ((3 * l1) + v13 : Int32).toNatClampNeg) < (T1.1 571 32) then (x_m_layBegins_92 l1 l2 l3 l4 l5 l6 l7 l8 K f (T1.2.2.1 588 ((3 * l1) + v13 : Int32).toNatClampNeg) (v10 + j1_s0) (v11 + j2_s1) 0 (v13 + (-1)) T1) else (x_m_layBegins_92 l1 l2 l3 l4 l5 l6 l7 l8 K f (T1.2.2.1 588 ((3 * l1) + v13 : Int32).toNatClampNeg) (v10 + j1_s0) (v11 + j2_s1) 1 (v13 + (-1)) T1))))) (sA T 588 ((3 * l1) + v13 : Int32).toNatClampNeg ((v9 - j1_s0) - (x_m_stepOf T ((x_m_dishOf T l3 4) + v13) 1)))) := ⟨_, rfl⟩
      obtain ⟨OJ1, hOJ1⟩ : ∃ q : Int32 → Prop, q = (fun (j1_s0 : Int32) => (ok_m_stepOf T ((x_m_dishOf T l3 4) + v13) 1) ∧ (vp_in ((3 * l1) + v13) 12) ∧ (fun (T1 : St) => (vp_in ((3 * l1) + v13) 12) ∧ (ok_m_stepOf T1 ((x_m_dishOf T l3 4) + v13) 0) ∧ jn (fun (OJ2 : Int32 → Prop) => (((x_m_stepOf T1 ((x_m_dishOf T l3 4) + v13) 0) = 5 → (ok_m_stepOf T1 ((x_m_dishOf T l3 4) + v13) 4) ∧ (ok_m_stepOf T1 ((x_m_dishOf T l3 4) + v13) 1) ∧ OJ2 ((x_m_stepOf T1 ((x_m_dishOf T l3 4) + v13) 4) * (x_m_stepOf T1 ((x_m_dishOf T l3 4) + v13) 1))) ∧ (¬ (x_m_stepOf T1 ((x_m_dishOf T l3 4) + v13) 0) = 5 → OJ2 0))) (fun (j2_s1 : Int32) => ((v12 = 0 → ok_m_layBegins_92 l1 l2 l3 l4 l5 l6 l7 l8 Kk f (T1.2.2.1 588 ((3 * l1) + v13 : Int32).toNatClampNeg) (v10 + j1_s0) (v11 + j2_s1) 0 (v13 + (-1)) T1) ∧ (¬ v12 = 0 → jn (fun (OJ3 : Prop) => (((T1.1 571 32) ≤ 0 → OJ3) ∧ (¬ (T1.1 571 32) ≤ 0 → (vp_in ((3 * l1) + v13) 12) ∧ (((T1.1 571 32) ≤ (T1.2.2.1 591 ((3 * l1) + v13 : Int32).toNatClampNeg) → OJ3) ∧ (¬ (T1.1 571 32) ≤ (T1.2.2.1 591 ((3 * l1) + v13 : Int32).toNatClampNeg) → (((T1.2.2.1 588 ((3 * l1) + v13 : Int32).toNatClampNeg) = (T1.2.2.1 591 ((3 * l1) + v13 : Int32).toNatClampNeg) → ok_m_layBegins_92 l1 l2 l3 l4 l5 l6 l7 l8 Kk f (T1.2.2.1 588 ((3 * l1) + v13 : Int32).toNatClampNeg) (v10 + j1_s0) (v11 + j2_s1) 1 (v13 + (-1)) T1) ∧ (¬ (T1.2.2.1 588 ((3 * l1) + v13 : Int32).toNatClampNeg) = (T1.2.2.1 591 ((3 * l1) + v13 : Int32).toNatClampNeg) → ok_m_layBegins_92 l1 l2 l3 l4 l5 l6 l7 l8 Kk f (T1.2.2.1 588 ((3 * l1) + v13 : Int32).toNatClampNeg) (v10 + j1_s0) (v11 + j2_s1) 0 (v13 + (-1)) T1))))))) ((((T1.2.2.1 588 ((3 * l1) + v13 : Int32).toNatClampNeg) < (T1.1 571 32) → ok_m_layBegins_92 l1 l2 l3 l4 l5 l6 l7 l8 Kk f (T1.2.2.1 588 ((3 * l1) + v13 : Int32).toNatClampNeg) (v10 + j1_s0) (v11 + j2_s1) 0 (v13 + (-1)) T1) ∧ (¬ (T1.2.2.1 588 ((3 * l1) + v13 : Int32).toNatClampNeg) < (T1.1 571 32) → ok_m_layBegins_92 l1 l2 l3 l4 l5 l6 l7 l8 Kk f (T1.2.2.1 588 ((3 * l1) + v13 : Int32).toNatClampNeg) (v10 + j1_s0) (v11 + j2_s1) 1 (v13 + (-1)) T1))))))) (sA T 588 ((3 * l1) + v13 : Int32).toNatClampNeg ((v9 - j1_s0) - (x_m_stepOf T ((x_m_dishOf T l3 4) + v13) 1)))) := ⟨_, rfl⟩
      rw [← hOJ1] at kk
      simp only [jn] at kk
      have hJ1 : ∀ (j1_s0 : Int32), OJ1 j1_s0 → tR X 2 mX12_layBegins 133 [some (.ref 571), some (.int l1), some (.int l2), some (.int l3), some (.int l4), some (.int l5), some (.int l6), some (.int l7), some (.int l8), some (.int v9), some (.int v10), some (.int v11), some (.int v12), some (.int v13), some (.int ((x_m_dishOf T l3 4) + v13)), none] [.int j1_s0] T (some (.int (KJ1 j1_s0).1)) ((KJ1 j1_s0).2) := by
        intro j1_s0 kk
        rw [hOJ1] at kk
        try dsimp only at kk
        rw [hKJ1]
        refine r_p dX12_layBegins_133 rfl rfl ?_
        refine r_p dX12_layBegins_135 rfl rfl ?_
        refine r_get dX12_layBegins_136 fkX12_58 rfl rfl ?_
        refine r_ci (x := 3) dX12_layBegins_139 rfl ?_
        refine r_p dX12_layBegins_140 rfl rfl ?_
        refine r_p dX12_layBegins_141 rfl rfl ?_
        refine r_p dX12_layBegins_142 rfl rfl ?_
        refine r_p dX12_layBegins_144 rfl rfl ?_
        refine r_p dX12_layBegins_145 rfl rfl ?_
        refine r_p dX12_layBegins_147 rfl rfl ?_
        refine r_p dX12_layBegins_149 rfl rfl ?_
        refine r_p dX12_layBegins_150 rfl rfl ?_
        refine r_p dX12_layBegins_151 rfl rfl ?_
        refine r_ci (x := 1) dX12_layBegins_153 rfl ?_
        obtain ⟨q9, kk⟩ := kk
        refine r_cv (d1 := 1) dX12_layBegins_154 cvX12_232 rfl rfl rfl rfl (Nat.le_of_ble_eq_true rfl) (Nat.le_of_ble_eq_true rfl) (Nat.le_of_ble_eq_true rfl) (c_m_stepOf ((x_m_dishOf T l3 4) + v13) 1 q9) ?_
        refine r_p dX12_layBegins_157 rfl rfl ?_
        obtain ⟨q10, kk⟩ := kk
        refine r_ias dX12_layBegins_158 rfl q10 ?_
        refine r_eI (r' := (fun (T1 : St) => jn (fun (KJ2 : Int32 → Int32 × St) => if (x_m_stepOf T1 ((x_m_dishOf T l3 4) + v13) 0) = 5 then (KJ2 ((x_m_stepOf T1 ((x_m_dishOf T l3 4) + v13) 4) * (x_m_stepOf T1 ((x_m_dishOf T l3 4) + v13) 1))) else (KJ2 0)) (fun (j2_s1 : Int32) => if v12 = 0 then (x_m_layBegins_92 l1 l2 l3 l4 l5 l6 l7 l8 K f (T1.2.2.1 588 ((3 * l1) + v13 : Int32).toNatClampNeg) (v10 + j1_s0) (v11 + j2_s1) 0 (v13 + (-1)) T1) else (jn (fun (KJ3 : Int32 × St) => if (T1.1 571 32) ≤ 0 then (KJ3) else (if (T1.1 571 32) ≤ (T1.2.2.1 591 ((3 * l1) + v13 : Int32).toNatClampNeg) then (KJ3) else (if (T1.2.2.1 588 ((3 * l1) + v13 : Int32).toNatClampNeg) = (T1.2.2.1 591 ((3 * l1) + v13 : Int32).toNatClampNeg) then (x_m_layBegins_92 l1 l2 l3 l4 l5 l6 l7 l8 K f (T1.2.2.1 588 ((3 * l1) + v13 : Int32).toNatClampNeg) (v10 + j1_s0) (v11 + j2_s1) 1 (v13 + (-1)) T1) else (x_m_layBegins_92 l1 l2 l3 l4 l5 l6 l7 l8 K f (T1.2.2.1 588 ((3 * l1) + v13 : Int32).toNatClampNeg) (v10 + j1_s0) (v11 + j2_s1) 0 (v13 + (-1)) T1)))) (if (T1.2.2.1 588 ((3 * l1) + v13 : Int32).toNatClampNeg) < (T1.1 571 32) then (x_m_layBegins_92 l1 l2 l3 l4 l5 l6 l7 l8 K f (T1.2.2.1 588 ((3 * l1) + v13 : Int32).toNatClampNeg) (v10 + j1_s0) (v11 + j2_s1) 0 (v13 + (-1)) T1) else (x_m_layBegins_92 l1 l2 l3 l4 l5 l6 l7 l8 K f (T1.2.2.1 588 ((3 * l1) + v13 : Int32).toNatClampNeg) (v10 + j1_s0) (v11 + j2_s1) 1 (v13 + (-1)) T1))))) (sA T 588 ((3 * l1) + v13 : Int32).toNatClampNeg ((v9 - j1_s0) - (x_m_stepOf T ((x_m_dishOf T l3 4) + v13) 1)))) rfl ?_
        generalize sA T 588 ((3 * l1) + v13 : Int32).toNatClampNeg ((v9 - j1_s0) - (x_m_stepOf T ((x_m_dishOf T l3 4) + v13) 1)) = T1 at kk ⊢
        try dsimp only at kk
        refine r_p dX12_layBegins_159 rfl rfl ?_
        refine r_get dX12_layBegins_160 fkX12_58 rfl rfl ?_
        refine r_ci (x := 3) dX12_layBegins_163 rfl ?_
        refine r_p dX12_layBegins_164 rfl rfl ?_
        refine r_p dX12_layBegins_165 rfl rfl ?_
        refine r_p dX12_layBegins_166 rfl rfl ?_
        refine r_p dX12_layBegins_168 rfl rfl ?_
        obtain ⟨q11, kk⟩ := kk
        refine r_ia dX12_layBegins_169 rfl q11 ?_
        refine r_p dX12_layBegins_170 rfl rfl ?_
        refine r_p dX12_layBegins_172 rfl rfl ?_
        refine r_p dX12_layBegins_174 rfl rfl ?_
        refine r_p dX12_layBegins_176 rfl rfl ?_
        refine r_p dX12_layBegins_177 rfl rfl ?_
        refine r_p dX12_layBegins_179 rfl rfl ?_
        refine r_p dX12_layBegins_181 rfl rfl ?_
        refine r_p dX12_layBegins_182 rfl rfl ?_
        refine r_ci (x := 0) dX12_layBegins_184 rfl ?_
        obtain ⟨q12, kk⟩ := kk
        refine r_cv (d1 := 1) dX12_layBegins_185 cvX12_232 rfl rfl rfl rfl (Nat.le_of_ble_eq_true rfl) (Nat.le_of_ble_eq_true rfl) (Nat.le_of_ble_eq_true rfl) (c_m_stepOf ((x_m_dishOf T l3 4) + v13) 0 q12) ?_
        refine r_ci (x := 5) dX12_layBegins_188 rfl ?_
        obtain ⟨KJ2, hKJ2⟩ : ∃ q : Int32 → Int32 × St, q = (fun (j2_s1 : Int32) => if v12 = 0 then (x_m_layBegins_92 l1 l2 l3 l4 l5 l6 l7 l8 K f (T1.2.2.1 588 ((3 * l1) + v13 : Int32).toNatClampNeg) (v10 + j1_s0) (v11 + j2_s1) 0 (v13 + (-1)) T1) else (jn (fun (KJ3 : Int32 × St) => if (T1.1 571 32) ≤ 0 then (KJ3) else (if (T1.1 571 32) ≤ (T1.2.2.1 591 ((3 * l1) + v13 : Int32).toNatClampNeg) then (KJ3) else (if (T1.2.2.1 588 ((3 * l1) + v13 : Int32).toNatClampNeg) = (T1.2.2.1 591 ((3 * l1) + v13 : Int32).toNatClampNeg) then (x_m_layBegins_92 l1 l2 l3 l4 l5 l6 l7 l8 K f (T1.2.2.1 588 ((3 * l1) + v13 : Int32).toNatClampNeg) (v10 + j1_s0) (v11 + j2_s1) 1 (v13 + (-1)) T1) else (x_m_layBegins_92 l1 l2 l3 l4 l5 l6 l7 l8 K f (T1.2.2.1 588 ((3 * l1) + v13 : Int32).toNatClampNeg) (v10 + j1_s0) (v11 + j2_s1) 0 (v13 + (-1)) T1)))) (if (T1.2.2.1 588 ((3 * l1) + v13 : Int32).toNatClampNeg) < (T1.1 571 32) then (x_m_layBegins_92 l1 l2 l3 l4 l5 l6 l7 l8 K f (T1.2.2.1 588 ((3 * l1) + v13 : Int32).toNatClampNeg) (v10 + j1_s0) (v11 + j2_s1) 0 (v13 + (-1)) T1) else (x_m_layBegins_92 l1 l2 l3 l4 l5 l6 l7 l8 K f (T1.2.2.1 588 ((3 * l1) + v13 : Int32).toNatClampNeg) (v10 + j1_s0) (v11 + j2_s1) 1 (v13 + (-1)) T1)))) := ⟨_, rfl⟩
        obtain ⟨OJ2, hOJ2⟩ : ∃ q : Int32 → Prop, q = (fun (j2_s1 : Int32) => ((v12 = 0 → ok_m_layBegins_92 l1 l2 l3 l4 l5 l6 l7 l8 Kk f (T1.2.2.1 588 ((3 * l1) + v13 : Int32).toNatClampNeg) (v10 + j1_s0) (v11 + j2_s1) 0 (v13 + (-1)) T1) ∧ (¬ v12 = 0 → jn (fun (OJ3 : Prop) => (((T1.1 571 32) ≤ 0 → OJ3) ∧ (¬ (T1.1 571 32) ≤ 0 → (vp_in ((3 * l1) + v13) 12) ∧ (((T1.1 571 32) ≤ (T1.2.2.1 591 ((3 * l1) + v13 : Int32).toNatClampNeg) → OJ3) ∧ (¬ (T1.1 571 32) ≤ (T1.2.2.1 591 ((3 * l1) + v13 : Int32).toNatClampNeg) → (((T1.2.2.1 588 ((3 * l1) + v13 : Int32).toNatClampNeg) = (T1.2.2.1 591 ((3 * l1) + v13 : Int32).toNatClampNeg) → ok_m_layBegins_92 l1 l2 l3 l4 l5 l6 l7 l8 Kk f (T1.2.2.1 588 ((3 * l1) + v13 : Int32).toNatClampNeg) (v10 + j1_s0) (v11 + j2_s1) 1 (v13 + (-1)) T1) ∧ (¬ (T1.2.2.1 588 ((3 * l1) + v13 : Int32).toNatClampNeg) = (T1.2.2.1 591 ((3 * l1) + v13 : Int32).toNatClampNeg) → ok_m_layBegins_92 l1 l2 l3 l4 l5 l6 l7 l8 Kk f (T1.2.2.1 588 ((3 * l1) + v13 : Int32).toNatClampNeg) (v10 + j1_s0) (v11 + j2_s1) 0 (v13 + (-1)) T1))))))) ((((T1.2.2.1 588 ((3 * l1) + v13 : Int32).toNatClampNeg) < (T1.1 571 32) → ok_m_layBegins_92 l1 l2 l3 l4 l5 l6 l7 l8 Kk f (T1.2.2.1 588 ((3 * l1) + v13 : Int32).toNatClampNeg) (v10 + j1_s0) (v11 + j2_s1) 0 (v13 + (-1)) T1) ∧ (¬ (T1.2.2.1 588 ((3 * l1) + v13 : Int32).toNatClampNeg) < (T1.1 571 32) → ok_m_layBegins_92 l1 l2 l3 l4 l5 l6 l7 l8 Kk f (T1.2.2.1 588 ((3 * l1) + v13 : Int32).toNatClampNeg) (v10 + j1_s0) (v11 + j2_s1) 1 (v13 + (-1)) T1)))))) := ⟨_, rfl⟩
        rw [← hOJ2] at kk
        simp only [jn] at kk
        have hJ2 : ∀ (j2_s1 : Int32), OJ2 j2_s1 → tR X 2 mX12_layBegins 211 [some (.ref 571), some (.int l1), some (.int l2), some (.int l3), some (.int l4), some (.int l5), some (.int l6), some (.int l7), some (.int l8), some (.int (T1.2.2.1 588 ((3 * l1) + v13 : Int32).toNatClampNeg)), some (.int (v10 + j1_s0)), some (.int v11), some (.int v12), some (.int v13), some (.int ((x_m_dishOf T l3 4) + v13)), some (.int j1_s0)] [.int j2_s1, .int v11] T1 (some (.int (KJ2 j2_s1).1)) ((KJ2 j2_s1).2) := by
          intro j2_s1 kk
          rw [hOJ2] at kk
          try dsimp only at kk
          rw [hKJ2]
          refine r_p dX12_layBegins_211 rfl rfl ?_
          refine r_p dX12_layBegins_212 rfl rfl ?_
          refine r_p dX12_layBegins_214 rfl rfl ?_
          refine r_ieq dX12_layBegins_216 rfl (fun c216_5 => ?_) (fun c216_5 => ?_)
          · have kk := kk.1 c216_5
            refine r_ci (x := 0) dX12_layBegins_276 rfl ?_
            refine r_p dX12_layBegins_277 rfl rfl ?_
            refine r_inc (y := -1) dX12_layBegins_279 rfl rfl rfl ?_
            refine r_go dX12_layBegins_282 rfl ?_
            show tR _ _ _ _ [some (.ref 571), some (.int l1), some (.int l2), some (.int l3), some (.int l4), some (.int l5), some (.int l6), some (.int l7), some (.int l8), some (.int (T1.2.2.1 588 ((3 * l1) + v13 : Int32).toNatClampNeg)), some (.int (v10 + j1_s0)), some (.int (v11 + j2_s1)), some (.int 0), some (.int (v13 + (-1))), some (.int ((x_m_dishOf T l3 4) + v13)), some (.int j1_s0)] _ _ _ _
            exact r_eI (r' := x_m_layBegins_92 l1 l2 l3 l4 l5 l6 l7 l8 K f (T1.2.2.1 588 ((3 * l1) + v13 : Int32).toNatClampNeg) (v10 + j1_s0) (v11 + j2_s1) 0 (v13 + (-1)) T1) (by first | rw [if_pos c216_5] | (dsimp only; rw [if_pos c216_5])) (r_le (le_s (le_s (le_s (le_s (le_s (le_s (le_s (le_s (le_s (le_s (le_s (le_s (le_s (le_s (le_n (le_n (le_0))))))))))))))))) (ih (T1.2.2.1 588 ((3 * l1) + v13 : Int32).toNatClampNeg) (v10 + j1_s0) (v11 + j2_s1) 0 (v13 + (-1)) T1 kk))
          · have kk := kk.2 c216_5
            refine r_p dX12_layBegins_219 rfl rfl ?_
            refine r_get dX12_layBegins_220 fkX12_268 rfl rfl ?_
            obtain ⟨KJ3, hKJ3⟩ : ∃ q : Int32 × St, q = (if (T1.2.2.1 588 ((3 * l1) + v13 : Int32).toNatClampNeg) < (T1.1 571 32) then (x_m_layBegins_92 l1 l2 l3 l4 l5 l6 l7 l8 K f (T1.2.2.1 588 ((3 * l1) + v13 : Int32).toNatClampNeg) (v10 + j1_s0) (v11 + j2_s1) 0 (v13 + (-1)) T1) else (x_m_layBegins_92 l1 l2 l3 l4 l5 l6 l7 l8 K f (T1.2.2.1 588 ((3 * l1) + v13 : Int32).toNatClampNeg) (v10 + j1_s0) (v11 + j2_s1) 1 (v13 + (-1)) T1)) := ⟨_, rfl⟩
            obtain ⟨OJ3, hOJ3⟩ : ∃ q : Prop, q = ((((T1.2.2.1 588 ((3 * l1) + v13 : Int32).toNatClampNeg) < (T1.1 571 32) → ok_m_layBegins_92 l1 l2 l3 l4 l5 l6 l7 l8 Kk f (T1.2.2.1 588 ((3 * l1) + v13 : Int32).toNatClampNeg) (v10 + j1_s0) (v11 + j2_s1) 0 (v13 + (-1)) T1) ∧ (¬ (T1.2.2.1 588 ((3 * l1) + v13 : Int32).toNatClampNeg) < (T1.1 571 32) → ok_m_layBegins_92 l1 l2 l3 l4 l5 l6 l7 l8 Kk f (T1.2.2.1 588 ((3 * l1) + v13 : Int32).toNatClampNeg) (v10 + j1_s0) (v11 + j2_s1) 1 (v13 + (-1)) T1))) := ⟨_, rfl⟩
            rw [← hOJ3] at kk
            simp only [jn] at kk
            have hJ3 : OJ3 → tR X 2 mX12_layBegins 263 [some (.ref 571), some (.int l1), some (.int l2), some (.int l3), some (.int l4), some (.int l5), some (.int l6), some (.int l7), some (.int l8), some (.int (T1.2.2.1 588 ((3 * l1) + v13 : Int32).toNatClampNeg)), some (.int (v10 + j1_s0)), some (.int (v11 + j2_s1)), some (.int v12), some (.int v13), some (.int ((x_m_dishOf T l3 4) + v13)), some (.int j1_s0)] [] T1 (some (.int KJ3.1)) KJ3.2 := by
              intro  kk
              rw [hOJ3] at kk
              try dsimp only at kk
              rw [hKJ3]
              refine r_p dX12_layBegins_263 rfl rfl ?_
              refine r_p dX12_layBegins_265 rfl rfl ?_
              refine r_get dX12_layBegins_266 fkX12_268 rfl rfl ?_
              refine r_clt dX12_layBegins_269 rfl (fun c269_9 => ?_) (fun c269_9 => ?_)
              · have kk := kk.1 c269_9
                refine r_ci (x := 0) dX12_layBegins_276 rfl ?_
                refine r_p dX12_layBegins_277 rfl rfl ?_
                refine r_inc (y := -1) dX12_layBegins_279 rfl rfl rfl ?_
                refine r_go dX12_layBegins_282 rfl ?_
                show tR _ _ _ _ [some (.ref 571), some (.int l1), some (.int l2), some (.int l3), some (.int l4), some (.int l5), some (.int l6), some (.int l7), some (.int l8), some (.int (T1.2.2.1 588 ((3 * l1) + v13 : Int32).toNatClampNeg)), some (.int (v10 + j1_s0)), some (.int (v11 + j2_s1)), some (.int 0), some (.int (v13 + (-1))), some (.int ((x_m_dishOf T l3 4) + v13)), some (.int j1_s0)] _ _ _ _
                exact r_eI (r' := x_m_layBegins_92 l1 l2 l3 l4 l5 l6 l7 l8 K f (T1.2.2.1 588 ((3 * l1) + v13 : Int32).toNatClampNeg) (v10 + j1_s0) (v11 + j2_s1) 0 (v13 + (-1)) T1) (by first | rw [if_pos c269_9] | (dsimp only; rw [if_pos c269_9])) (r_le (le_s (le_s (le_s (le_s (le_s (le_s (le_s (le_s (le_s (le_s (le_s (le_s (le_s (le_s (le_n (le_n (le_0))))))))))))))))) (ih (T1.2.2.1 588 ((3 * l1) + v13 : Int32).toNatClampNeg) (v10 + j1_s0) (v11 + j2_s1) 0 (v13 + (-1)) T1 kk))
              · have kk := kk.2 c269_9
                refine r_ci (x := 1) dX12_layBegins_272 rfl ?_
                refine r_go dX12_layBegins_273 rfl ?_
                refine r_p dX12_layBegins_277 rfl rfl ?_
                refine r_inc (y := -1) dX12_layBegins_279 rfl rfl rfl ?_
                refine r_go dX12_layBegins_282 rfl ?_
                show tR _ _ _ _ [some (.ref 571), some (.int l1), some (.int l2), some (.int l3), some (.int l4), some (.int l5), some (.int l6), some (.int l7), some (.int l8), some (.int (T1.2.2.1 588 ((3 * l1) + v13 : Int32).toNatClampNeg)), some (.int (v10 + j1_s0)), some (.int (v11 + j2_s1)), some (.int 1), some (.int (v13 + (-1))), some (.int ((x_m_dishOf T l3 4) + v13)), some (.int j1_s0)] _ _ _ _
                exact r_eI (r' := x_m_layBegins_92 l1 l2 l3 l4 l5 l6 l7 l8 K f (T1.2.2.1 588 ((3 * l1) + v13 : Int32).toNatClampNeg) (v10 + j1_s0) (v11 + j2_s1) 1 (v13 + (-1)) T1) (by first | rw [if_neg c269_9] | (dsimp only; rw [if_neg c269_9])) (r_le (le_s (le_s (le_s (le_s (le_s (le_s (le_s (le_s (le_s (le_s (le_s (le_s (le_s (le_s (le_n (le_n (le_0))))))))))))))))) (ih (T1.2.2.1 588 ((3 * l1) + v13 : Int32).toNatClampNeg) (v10 + j1_s0) (v11 + j2_s1) 1 (v13 + (-1)) T1 kk))
            refine r_eI (r' := jn (fun (KJ3 : Int32 × St) => if (T1.1 571 32) ≤ 0 then (KJ3) else (if (T1.1 571 32) ≤ (T1.2.2.1 591 ((3 * l1) + v13 : Int32).toNatClampNeg) then (KJ3) else (if (T1.2.2.1 588 ((3 * l1) + v13 : Int32).toNatClampNeg) = (T1.2.2.1 591 ((3 * l1) + v13 : Int32).toNatClampNeg) then (x_m_layBegins_92 l1 l2 l3 l4 l5 l6 l7 l8 K f (T1.2.2.1 588 ((3 * l1) + v13 : Int32).toNatClampNeg) (v10 + j1_s0) (v11 + j2_s1) 1 (v13 + (-1)) T1) else (x_m_layBegins_92 l1 l2 l3 l4 l5 l6 l7 l8 K f (T1.2.2.1 588 ((3 * l1) + v13 : Int32).toNatClampNeg) (v10 + j1_s0) (v11 + j2_s1) 0 (v13 + (-1)) T1)))) KJ3) (by rw [hKJ3]; first | rw [if_neg c216_5] | (dsimp only; rw [if_neg c216_5])) ?_
            refine r_ile dX12_layBegins_223 rfl (fun c223_10 => ?_) (fun c223_10 => ?_)
            · have kk := kk.1 c223_10
              show tR _ _ _ _ [some (.ref 571), some (.int l1), some (.int l2), some (.int l3), some (.int l4), some (.int l5), some (.int l6), some (.int l7), some (.int l8), some (.int (T1.2.2.1 588 ((3 * l1) + v13 : Int32).toNatClampNeg)), some (.int (v10 + j1_s0)), some (.int (v11 + j2_s1)), some (.int v12), some (.int v13), some (.int ((x_m_dishOf T l3 4) + v13)), some (.int j1_s0)] [] _ _ _
              exact r_eI (r' := KJ3) (by simp only [jn]; rw [if_pos c223_10]) ((hJ3  kk))
            · have kk := kk.2 c223_10
              refine r_p dX12_layBegins_226 rfl rfl ?_
              refine r_get dX12_layBegins_227 fkX12_67 rfl rfl ?_
              refine r_ci (x := 3) dX12_layBegins_230 rfl ?_
              refine r_p dX12_layBegins_231 rfl rfl ?_
              refine r_p dX12_layBegins_232 rfl rfl ?_
              refine r_p dX12_layBegins_233 rfl rfl ?_
              refine r_p dX12_layBegins_235 rfl rfl ?_
              obtain ⟨q16, kk⟩ := kk
              refine r_ia dX12_layBegins_236 rfl q16 ?_
              refine r_p dX12_layBegins_237 rfl rfl ?_
              refine r_get dX12_layBegins_238 fkX12_268 rfl rfl ?_
              refine r_cge dX12_layBegins_241 rfl (fun c241_11 => ?_) (fun c241_11 => ?_)
              · have kk := kk.1 c241_11
                show tR _ _ _ _ [some (.ref 571), some (.int l1), some (.int l2), some (.int l3), some (.int l4), some (.int l5), some (.int l6), some (.int l7), some (.int l8), some (.int (T1.2.2.1 588 ((3 * l1) + v13 : Int32).toNatClampNeg)), some (.int (v10 + j1_s0)), some (.int (v11 + j2_s1)), some (.int v12), some (.int v13), some (.int ((x_m_dishOf T l3 4) + v13)), some (.int j1_s0)] [] _ _ _
                exact r_eI (r' := KJ3) (by simp only [jn]; rw [if_neg c223_10, if_pos c241_11]) ((hJ3  kk))
              · have kk := kk.2 c241_11
                refine r_p dX12_layBegins_244 rfl rfl ?_
                refine r_p dX12_layBegins_246 rfl rfl ?_
                refine r_get dX12_layBegins_247 fkX12_67 rfl rfl ?_
                refine r_ci (x := 3) dX12_layBegins_250 rfl ?_
                refine r_p dX12_layBegins_251 rfl rfl ?_
                refine r_p dX12_layBegins_252 rfl rfl ?_
                refine r_p dX12_layBegins_253 rfl rfl ?_
                refine r_p dX12_layBegins_255 rfl rfl ?_
                refine r_ia dX12_layBegins_256 rfl q16 ?_
                refine r_cne dX12_layBegins_257 rfl (fun c257_12 => ?_) (fun c257_12 => ?_)
                · have kk := kk.2 c257_12
                  refine r_ci (x := 0) dX12_layBegins_276 rfl ?_
                  refine r_p dX12_layBegins_277 rfl rfl ?_
                  refine r_inc (y := -1) dX12_layBegins_279 rfl rfl rfl ?_
                  refine r_go dX12_layBegins_282 rfl ?_
                  show tR _ _ _ _ [some (.ref 571), some (.int l1), some (.int l2), some (.int l3), some (.int l4), some (.int l5), some (.int l6), some (.int l7), some (.int l8), some (.int (T1.2.2.1 588 ((3 * l1) + v13 : Int32).toNatClampNeg)), some (.int (v10 + j1_s0)), some (.int (v11 + j2_s1)), some (.int 0), some (.int (v13 + (-1))), some (.int ((x_m_dishOf T l3 4) + v13)), some (.int j1_s0)] _ _ _ _
                  exact r_eI (r' := x_m_layBegins_92 l1 l2 l3 l4 l5 l6 l7 l8 K f (T1.2.2.1 588 ((3 * l1) + v13 : Int32).toNatClampNeg) (v10 + j1_s0) (v11 + j2_s1) 0 (v13 + (-1)) T1) (by simp only [jn]; rw [if_neg c223_10, if_neg c241_11, if_neg c257_12]) (r_le (le_s (le_s (le_s (le_s (le_s (le_s (le_s (le_s (le_s (le_s (le_s (le_s (le_s (le_s (le_n (le_n (le_0))))))))))))))))) (ih (T1.2.2.1 588 ((3 * l1) + v13 : Int32).toNatClampNeg) (v10 + j1_s0) (v11 + j2_s1) 0 (v13 + (-1)) T1 kk))
                · have kk := kk.1 c257_12
                  refine r_go dX12_layBegins_260 rfl ?_
                  refine r_ci (x := 1) dX12_layBegins_272 rfl ?_
                  refine r_go dX12_layBegins_273 rfl ?_
                  refine r_p dX12_layBegins_277 rfl rfl ?_
                  refine r_inc (y := -1) dX12_layBegins_279 rfl rfl rfl ?_
                  refine r_go dX12_layBegins_282 rfl ?_
                  show tR _ _ _ _ [some (.ref 571), some (.int l1), some (.int l2), some (.int l3), some (.int l4), some (.int l5), some (.int l6), some (.int l7), some (.int l8), some (.int (T1.2.2.1 588 ((3 * l1) + v13 : Int32).toNatClampNeg)), some (.int (v10 + j1_s0)), some (.int (v11 + j2_s1)), some (.int 1), some (.int (v13 + (-1))), some (.int ((x_m_dishOf T l3 4) + v13)), some (.int j1_s0)] _ _ _ _
                  exact r_eI (r' := x_m_layBegins_92 l1 l2 l3 l4 l5 l6 l7 l8 K f (T1.2.2.1 588 ((3 * l1) + v13 : Int32).toNatClampNeg) (v10 + j1_s0) (v11 + j2_s1) 1 (v13 + (-1)) T1) (by simp only [jn]; rw [if_neg c223_10, if_neg c241_11, if_pos c257_12]) (r_le (le_s (le_s (le_s (le_s (le_s (le_s (le_s (le_s (le_s (le_s (le_s (le_s (le_s (le_s (le_n (le_n (le_0))))))))))))))))) (ih (T1.2.2.1 588 ((3 * l1) + v13 : Int32).toNatClampNeg) (v10 + j1_s0) (v11 + j2_s1) 1 (v13 + (-1)) T1 kk))
        refine r_eI (r' := jn (fun (KJ2 : Int32 → Int32 × St) => if (x_m_stepOf T1 ((x_m_dishOf T l3 4) + v13) 0) = 5 then (KJ2 ((x_m_stepOf T1 ((x_m_dishOf T l3 4) + v13) 4) * (x_m_stepOf T1 ((x_m_dishOf T l3 4) + v13) 1))) else (KJ2 0)) KJ2) (by rw [hKJ2]) ?_
        refine r_cne dX12_layBegins_189 rfl (fun c189_13 => ?_) (fun c189_13 => ?_)
        · have kk := kk.2 c189_13
          refine r_ci (x := 0) dX12_layBegins_210 rfl ?_
          show tR _ _ _ _ [some (.ref 571), some (.int l1), some (.int l2), some (.int l3), some (.int l4), some (.int l5), some (.int l6), some (.int l7), some (.int l8), some (.int (T1.2.2.1 588 ((3 * l1) + v13 : Int32).toNatClampNeg)), some (.int (v10 + j1_s0)), some (.int v11), some (.int v12), some (.int v13), some (.int ((x_m_dishOf T l3 4) + v13)), some (.int j1_s0)] [.int 0, .int v11] _ _ _
          exact r_eI (r' := KJ2 0) (by simp only [jn]; rw [if_neg c189_13]) ((hJ2 0 kk))
        · have kk := kk.1 c189_13
          refine r_p dX12_layBegins_192 rfl rfl ?_
          refine r_p dX12_layBegins_193 rfl rfl ?_
          refine r_ci (x := 4) dX12_layBegins_195 rfl ?_
          obtain ⟨q17, kk⟩ := kk
          refine r_cv (d1 := 1) dX12_layBegins_196 cvX12_232 rfl rfl rfl rfl (Nat.le_of_ble_eq_true rfl) (Nat.le_of_ble_eq_true rfl) (Nat.le_of_ble_eq_true rfl) (c_m_stepOf ((x_m_dishOf T l3 4) + v13) 4 q17) ?_
          refine r_p dX12_layBegins_199 rfl rfl ?_
          refine r_p dX12_layBegins_200 rfl rfl ?_
          refine r_ci (x := 1) dX12_layBegins_202 rfl ?_
          obtain ⟨q18, kk⟩ := kk
          refine r_cv (d1 := 1) dX12_layBegins_203 cvX12_232 rfl rfl rfl rfl (Nat.le_of_ble_eq_true rfl) (Nat.le_of_ble_eq_true rfl) (Nat.le_of_ble_eq_true rfl) (c_m_stepOf ((x_m_dishOf T l3 4) + v13) 1 q18) ?_
          refine r_p dX12_layBegins_206 rfl rfl ?_
          refine r_go dX12_layBegins_207 rfl ?_
          show tR _ _ _ _ [some (.ref 571), some (.int l1), some (.int l2), some (.int l3), some (.int l4), some (.int l5), some (.int l6), some (.int l7), some (.int l8), some (.int (T1.2.2.1 588 ((3 * l1) + v13 : Int32).toNatClampNeg)), some (.int (v10 + j1_s0)), some (.int v11), some (.int v12), some (.int v13), some (.int ((x_m_dishOf T l3 4) + v13)), some (.int j1_s0)] [.int ((x_m_stepOf T1 ((x_m_dishOf T l3 4) + v13) 4) * (x_m_stepOf T1 ((x_m_dishOf T l3 4) + v13) 1)), .int v11] _ _ _
          exact r_eI (r' := KJ2 ((x_m_stepOf T1 ((x_m_dishOf T l3 4) + v13) 4) * (x_m_stepOf T1 ((x_m_dishOf T l3 4) + v13) 1))) (by simp only [jn]; rw [if_pos c189_13]) ((hJ2 ((x_m_stepOf T1 ((x_m_dishOf T l3 4) + v13) 4) * (x_m_stepOf T1 ((x_m_dishOf T l3 4) + v13) 1)) kk))
      refine r_eI (r' := jn (fun (KJ1 : Int32 → Int32 × St) => if v13 = (l4 - 1) then (KJ1 0) else (if v13 = 0 then (KJ1 l7) else (KJ1 l8))) KJ1) (by rw [hKJ1]; rw [x_m_layBegins_92]; rw [if_neg c94_1]) ?_
      refine r_cne dX12_layBegins_114 rfl (fun c114_14 => ?_) (fun c114_14 => ?_)
      · have kk := kk.2 c114_14
        refine r_p dX12_layBegins_121 rfl rfl ?_
        refine r_ine dX12_layBegins_123 rfl (fun c123_15 => ?_) (fun c123_15 => ?_)
        · have kk := kk.2 c123_15
          refine r_p dX12_layBegins_131 rfl rfl ?_
          show tR _ _ _ _ [some (.ref 571), some (.int l1), some (.int l2), some (.int l3), some (.int l4), some (.int l5), some (.int l6), some (.int l7), some (.int l8), some (.int v9), some (.int v10), some (.int v11), some (.int v12), some (.int v13), some (.int ((x_m_dishOf T l3 4) + v13)), none] [.int l8] _ _ _
          exact r_eI (r' := KJ1 l8) (by simp only [jn]; rw [if_neg c114_14, if_neg c123_15]) ((hJ1 l8 kk))
        · have kk := kk.1 c123_15
          refine r_p dX12_layBegins_126 rfl rfl ?_
          refine r_go dX12_layBegins_128 rfl ?_
          show tR _ _ _ _ [some (.ref 571), some (.int l1), some (.int l2), some (.int l3), some (.int l4), some (.int l5), some (.int l6), some (.int l7), some (.int l8), some (.int v9), some (.int v10), some (.int v11), some (.int v12), some (.int v13), some (.int ((x_m_dishOf T l3 4) + v13)), none] [.int l7] _ _ _
          exact r_eI (r' := KJ1 l7) (by simp only [jn]; rw [if_neg c114_14, if_pos c123_15]) ((hJ1 l7 kk))
      · have kk := kk.1 c114_14
        refine r_ci (x := 0) dX12_layBegins_117 rfl ?_
        refine r_go dX12_layBegins_118 rfl ?_
        show tR _ _ _ _ [some (.ref 571), some (.int l1), some (.int l2), some (.int l3), some (.int l4), some (.int l5), some (.int l6), some (.int l7), some (.int l8), some (.int v9), some (.int v10), some (.int v11), some (.int v12), some (.int v13), some (.int ((x_m_dishOf T l3 4) + v13)), none] [.int 0] _ _ _
        exact r_eI (r' := KJ1 0) (by simp only [jn]; rw [if_pos c114_14]) ((hJ1 0 kk))
def x_m_layBegins (T : St) (p0 : Int32) (p1 : Int32) : Int32 × St := x_m_layBegins_92 p0 p1 (T.2.2.1 585 (p0 : Int32).toNatClampNeg) (x_m_dishOf T (T.2.2.1 585 (p0 : Int32).toNatClampNeg) 3) ((T.2.2.1 586 (p0 : Int32).toNatClampNeg) / (1 + (x_m_dishOf T (T.2.2.1 585 (p0 : Int32).toNatClampNeg) 0))) ((T.2.2.1 586 (p0 : Int32).toNatClampNeg) - (T.2.2.1 586 (p0 : Int32).toNatClampNeg) / (1 + (x_m_dishOf T (T.2.2.1 585 (p0 : Int32).toNatClampNeg) 0)) * (1 + (x_m_dishOf T (T.2.2.1 585 (p0 : Int32).toNatClampNeg) 0))) (((T.2.2.1 586 (p0 : Int32).toNatClampNeg) / (1 + (x_m_dishOf T (T.2.2.1 585 (p0 : Int32).toNatClampNeg) 0))) - ((T.2.2.1 586 (p0 : Int32).toNatClampNeg) / (1 + (x_m_dishOf T (T.2.2.1 585 (p0 : Int32).toNatClampNeg) 0))) / (x_m_waitsOf T (T.2.2.1 585 (p0 : Int32).toNatClampNeg) 0) * (x_m_waitsOf T (T.2.2.1 585 (p0 : Int32).toNatClampNeg) 0)) (((T.2.2.1 586 (p0 : Int32).toNatClampNeg) / (1 + (x_m_dishOf T (T.2.2.1 585 (p0 : Int32).toNatClampNeg) 0))) / (x_m_waitsOf T (T.2.2.1 585 (p0 : Int32).toNatClampNeg) 0)) (fun (w1_9 : Int32) (w1_10 : Int32) (w1_11 : Int32) (w1_12 : Int32) (w1_13 : Int32) (T201 : St) => (fun (T2 : St) => if w1_12 = 0 then (0, T2) else (if w1_9 < 0 then (0, T2) else (1, T2))) (sA T201 587 (p0 + 1 : Int32).toNatClampNeg ((((T201.2.2.1 587 (p0 : Int32).toNatClampNeg) + (((T.2.2.1 586 (p0 : Int32).toNatClampNeg) - (T.2.2.1 586 (p0 : Int32).toNatClampNeg) / (1 + (x_m_dishOf T (T.2.2.1 585 (p0 : Int32).toNatClampNeg) 0)) * (1 + (x_m_dishOf T (T.2.2.1 585 (p0 : Int32).toNatClampNeg) 0))) * (x_m_dishOf T201 (T.2.2.1 585 (p0 : Int32).toNatClampNeg) 1))) + w1_10) + w1_11))) 1000 (p1 - ((T.2.2.1 586 (p0 : Int32).toNatClampNeg) - (T.2.2.1 586 (p0 : Int32).toNatClampNeg) / (1 + (x_m_dishOf T (T.2.2.1 585 (p0 : Int32).toNatClampNeg) 0)) * (1 + (x_m_dishOf T (T.2.2.1 585 (p0 : Int32).toNatClampNeg) 0)))) 0 0 1 ((x_m_dishOf T (T.2.2.1 585 (p0 : Int32).toNatClampNeg) 3) - 1) T
def ok_m_layBegins (T : St) (p0 : Int32) (p1 : Int32) : Prop := (vp_in p0 4) ∧ (ok_m_dishOf T (T.2.2.1 585 (p0 : Int32).toNatClampNeg) 3) ∧ (vp_in p0 5) ∧ (ok_m_dishOf T (T.2.2.1 585 (p0 : Int32).toNatClampNeg) 0) ∧ (¬ (1 + (x_m_dishOf T (T.2.2.1 585 (p0 : Int32).toNatClampNeg) 0)) = (0 : Int32)) ∧ (ok_m_waitsOf T (T.2.2.1 585 (p0 : Int32).toNatClampNeg) 0) ∧ (¬ (x_m_waitsOf T (T.2.2.1 585 (p0 : Int32).toNatClampNeg) 0) = (0 : Int32)) ∧ ok_m_layBegins_92 p0 p1 (T.2.2.1 585 (p0 : Int32).toNatClampNeg) (x_m_dishOf T (T.2.2.1 585 (p0 : Int32).toNatClampNeg) 3) ((T.2.2.1 586 (p0 : Int32).toNatClampNeg) / (1 + (x_m_dishOf T (T.2.2.1 585 (p0 : Int32).toNatClampNeg) 0))) ((T.2.2.1 586 (p0 : Int32).toNatClampNeg) - (T.2.2.1 586 (p0 : Int32).toNatClampNeg) / (1 + (x_m_dishOf T (T.2.2.1 585 (p0 : Int32).toNatClampNeg) 0)) * (1 + (x_m_dishOf T (T.2.2.1 585 (p0 : Int32).toNatClampNeg) 0))) (((T.2.2.1 586 (p0 : Int32).toNatClampNeg) / (1 + (x_m_dishOf T (T.2.2.1 585 (p0 : Int32).toNatClampNeg) 0))) - ((T.2.2.1 586 (p0 : Int32).toNatClampNeg) / (1 + (x_m_dishOf T (T.2.2.1 585 (p0 : Int32).toNatClampNeg) 0))) / (x_m_waitsOf T (T.2.2.1 585 (p0 : Int32).toNatClampNeg) 0) * (x_m_waitsOf T (T.2.2.1 585 (p0 : Int32).toNatClampNeg) 0)) (((T.2.2.1 586 (p0 : Int32).toNatClampNeg) / (1 + (x_m_dishOf T (T.2.2.1 585 (p0 : Int32).toNatClampNeg) 0))) / (x_m_waitsOf T (T.2.2.1 585 (p0 : Int32).toNatClampNeg) 0)) (fun (w1_9 : Int32) (w1_10 : Int32) (w1_11 : Int32) (w1_12 : Int32) (w1_13 : Int32) (T201 : St) => (vp_in p0 5) ∧ (ok_m_dishOf T201 (T.2.2.1 585 (p0 : Int32).toNatClampNeg) 1) ∧ (vp_in (p0 + 1) 5) ∧ True) 1000 (p1 - ((T.2.2.1 586 (p0 : Int32).toNatClampNeg) - (T.2.2.1 586 (p0 : Int32).toNatClampNeg) / (1 + (x_m_dishOf T (T.2.2.1 585 (p0 : Int32).toNatClampNeg) 0)) * (1 + (x_m_dishOf T (T.2.2.1 585 (p0 : Int32).toNatClampNeg) 0)))) 0 0 1 ((x_m_dishOf T (T.2.2.1 585 (p0 : Int32).toNatClampNeg) 3) - 1) T
theorem c_m_layBegins {X : Nat × (Nat → Int32)} {T : St} (p0 : Int32) (p1 : Int32) (kk : ok_m_layBegins T p0 p1) : tC X 3 mX12_layBegins [.ref 571, .int p0, .int p1] T (some (.int (x_m_layBegins T p0 p1).1)) ((x_m_layBegins T p0 p1).2) := by
  unfold ok_m_layBegins at kk
  refine tC_of ?_
  refine r_p dX12_layBegins_0 rfl rfl ?_
  refine r_get dX12_layBegins_1 fkX12_49 rfl rfl ?_
  refine r_p dX12_layBegins_4 rfl rfl ?_
  obtain ⟨q1, kk⟩ := kk
  refine r_ia dX12_layBegins_5 rfl q1 ?_
  refine r_p dX12_layBegins_6 rfl rfl ?_
  refine r_p dX12_layBegins_7 rfl rfl ?_
  refine r_p dX12_layBegins_8 rfl rfl ?_
  refine r_ci (x := 3) dX12_layBegins_9 rfl ?_
  obtain ⟨q2, kk⟩ := kk
  refine r_cv (d1 := 1) dX12_layBegins_10 cvX12_228 rfl rfl rfl rfl (Nat.le_of_ble_eq_true rfl) (Nat.le_of_ble_eq_true rfl) (Nat.le_of_ble_eq_true rfl) (c_m_dishOf (T.2.2.1 585 (p0 : Int32).toNatClampNeg) 3 q2) ?_
  refine r_p dX12_layBegins_13 rfl rfl ?_
  refine r_p dX12_layBegins_15 rfl rfl ?_
  refine r_get dX12_layBegins_16 fkX12_52 rfl rfl ?_
  refine r_p dX12_layBegins_19 rfl rfl ?_
  obtain ⟨q3, kk⟩ := kk
  refine r_ia dX12_layBegins_20 rfl q3 ?_
  refine r_p dX12_layBegins_21 rfl rfl ?_
  refine r_p dX12_layBegins_23 rfl rfl ?_
  refine r_ci (x := 1) dX12_layBegins_25 rfl ?_
  refine r_p dX12_layBegins_26 rfl rfl ?_
  refine r_p dX12_layBegins_27 rfl rfl ?_
  refine r_ci (x := 0) dX12_layBegins_28 rfl ?_
  obtain ⟨q4, kk⟩ := kk
  refine r_cv (d1 := 1) dX12_layBegins_29 cvX12_228 rfl rfl rfl rfl (Nat.le_of_ble_eq_true rfl) (Nat.le_of_ble_eq_true rfl) (Nat.le_of_ble_eq_true rfl) (c_m_dishOf (T.2.2.1 585 (p0 : Int32).toNatClampNeg) 0 q4) ?_
  refine r_p dX12_layBegins_32 rfl rfl ?_
  obtain ⟨q5, kk⟩ := kk
  refine r_p dX12_layBegins_33 rfl (if_neg q5) ?_
  refine r_p dX12_layBegins_34 rfl rfl ?_
  refine r_p dX12_layBegins_36 rfl rfl ?_
  refine r_ci (x := 1) dX12_layBegins_38 rfl ?_
  refine r_p dX12_layBegins_39 rfl rfl ?_
  refine r_p dX12_layBegins_40 rfl rfl ?_
  refine r_ci (x := 0) dX12_layBegins_41 rfl ?_
  refine r_cv (d1 := 1) dX12_layBegins_42 cvX12_228 rfl rfl rfl rfl (Nat.le_of_ble_eq_true rfl) (Nat.le_of_ble_eq_true rfl) (Nat.le_of_ble_eq_true rfl) (c_m_dishOf (T.2.2.1 585 (p0 : Int32).toNatClampNeg) 0 q4) ?_
  refine r_p dX12_layBegins_45 rfl rfl ?_
  refine r_p dX12_layBegins_46 rfl (if_neg q5) ?_
  refine r_p dX12_layBegins_47 rfl rfl ?_
  refine r_p dX12_layBegins_49 rfl rfl ?_
  refine r_p dX12_layBegins_51 rfl rfl ?_
  refine r_p dX12_layBegins_52 rfl rfl ?_
  refine r_ci (x := 0) dX12_layBegins_53 rfl ?_
  obtain ⟨q6, kk⟩ := kk
  refine r_cv (d1 := 2) dX12_layBegins_54 cvX12_235 rfl rfl rfl rfl (Nat.le_of_ble_eq_true rfl) (Nat.le_of_ble_eq_true rfl) (Nat.le_of_ble_eq_true rfl) (c_m_waitsOf (T.2.2.1 585 (p0 : Int32).toNatClampNeg) 0 q6) ?_
  obtain ⟨q7, kk⟩ := kk
  refine r_p dX12_layBegins_57 rfl (if_neg q7) ?_
  refine r_p dX12_layBegins_58 rfl rfl ?_
  refine r_p dX12_layBegins_60 rfl rfl ?_
  refine r_p dX12_layBegins_62 rfl rfl ?_
  refine r_p dX12_layBegins_63 rfl rfl ?_
  refine r_ci (x := 0) dX12_layBegins_64 rfl ?_
  refine r_cv (d1 := 2) dX12_layBegins_65 cvX12_235 rfl rfl rfl rfl (Nat.le_of_ble_eq_true rfl) (Nat.le_of_ble_eq_true rfl) (Nat.le_of_ble_eq_true rfl) (c_m_waitsOf (T.2.2.1 585 (p0 : Int32).toNatClampNeg) 0 q6) ?_
  refine r_p dX12_layBegins_68 rfl (if_neg q7) ?_
  refine r_p dX12_layBegins_69 rfl rfl ?_
  refine r_p dX12_layBegins_71 rfl rfl ?_
  refine r_p dX12_layBegins_72 rfl rfl ?_
  refine r_p dX12_layBegins_74 rfl rfl ?_
  refine r_p dX12_layBegins_75 rfl rfl ?_
  refine r_ci (x := 0) dX12_layBegins_77 rfl ?_
  refine r_p dX12_layBegins_78 rfl rfl ?_
  refine r_ci (x := 0) dX12_layBegins_80 rfl ?_
  refine r_p dX12_layBegins_81 rfl rfl ?_
  refine r_ci (x := 1) dX12_layBegins_83 rfl ?_
  refine r_p dX12_layBegins_84 rfl rfl ?_
  refine r_p dX12_layBegins_86 rfl rfl ?_
  refine r_ci (x := 1) dX12_layBegins_88 rfl ?_
  refine r_p dX12_layBegins_89 rfl rfl ?_
  refine r_p dX12_layBegins_90 rfl rfl ?_
  show tR _ _ _ _ [some (.ref 571), some (.int p0), some (.int p1), some (.int (T.2.2.1 585 (p0 : Int32).toNatClampNeg)), some (.int (x_m_dishOf T (T.2.2.1 585 (p0 : Int32).toNatClampNeg) 3)), some (.int ((T.2.2.1 586 (p0 : Int32).toNatClampNeg) / (1 + (x_m_dishOf T (T.2.2.1 585 (p0 : Int32).toNatClampNeg) 0)))), some (.int ((T.2.2.1 586 (p0 : Int32).toNatClampNeg) - (T.2.2.1 586 (p0 : Int32).toNatClampNeg) / (1 + (x_m_dishOf T (T.2.2.1 585 (p0 : Int32).toNatClampNeg) 0)) * (1 + (x_m_dishOf T (T.2.2.1 585 (p0 : Int32).toNatClampNeg) 0)))), some (.int (((T.2.2.1 586 (p0 : Int32).toNatClampNeg) / (1 + (x_m_dishOf T (T.2.2.1 585 (p0 : Int32).toNatClampNeg) 0))) - ((T.2.2.1 586 (p0 : Int32).toNatClampNeg) / (1 + (x_m_dishOf T (T.2.2.1 585 (p0 : Int32).toNatClampNeg) 0))) / (x_m_waitsOf T (T.2.2.1 585 (p0 : Int32).toNatClampNeg) 0) * (x_m_waitsOf T (T.2.2.1 585 (p0 : Int32).toNatClampNeg) 0))), some (.int (((T.2.2.1 586 (p0 : Int32).toNatClampNeg) / (1 + (x_m_dishOf T (T.2.2.1 585 (p0 : Int32).toNatClampNeg) 0))) / (x_m_waitsOf T (T.2.2.1 585 (p0 : Int32).toNatClampNeg) 0))), some (.int (p1 - ((T.2.2.1 586 (p0 : Int32).toNatClampNeg) - (T.2.2.1 586 (p0 : Int32).toNatClampNeg) / (1 + (x_m_dishOf T (T.2.2.1 585 (p0 : Int32).toNatClampNeg) 0)) * (1 + (x_m_dishOf T (T.2.2.1 585 (p0 : Int32).toNatClampNeg) 0))))), some (.int 0), some (.int 0), some (.int 1), some (.int ((x_m_dishOf T (T.2.2.1 585 (p0 : Int32).toNatClampNeg) 3) - 1)), none, none] _ _ _ _
  refine r_eI (r' := x_m_layBegins_92 p0 p1 (T.2.2.1 585 (p0 : Int32).toNatClampNeg) (x_m_dishOf T (T.2.2.1 585 (p0 : Int32).toNatClampNeg) 3) ((T.2.2.1 586 (p0 : Int32).toNatClampNeg) / (1 + (x_m_dishOf T (T.2.2.1 585 (p0 : Int32).toNatClampNeg) 0))) ((T.2.2.1 586 (p0 : Int32).toNatClampNeg) - (T.2.2.1 586 (p0 : Int32).toNatClampNeg) / (1 + (x_m_dishOf T (T.2.2.1 585 (p0 : Int32).toNatClampNeg) 0)) * (1 + (x_m_dishOf T (T.2.2.1 585 (p0 : Int32).toNatClampNeg) 0))) (((T.2.2.1 586 (p0 : Int32).toNatClampNeg) / (1 + (x_m_dishOf T (T.2.2.1 585 (p0 : Int32).toNatClampNeg) 0))) - ((T.2.2.1 586 (p0 : Int32).toNatClampNeg) / (1 + (x_m_dishOf T (T.2.2.1 585 (p0 : Int32).toNatClampNeg) 0))) / (x_m_waitsOf T (T.2.2.1 585 (p0 : Int32).toNatClampNeg) 0) * (x_m_waitsOf T (T.2.2.1 585 (p0 : Int32).toNatClampNeg) 0)) (((T.2.2.1 586 (p0 : Int32).toNatClampNeg) / (1 + (x_m_dishOf T (T.2.2.1 585 (p0 : Int32).toNatClampNeg) 0))) / (x_m_waitsOf T (T.2.2.1 585 (p0 : Int32).toNatClampNeg) 0)) (fun (w1_9 : Int32) (w1_10 : Int32) (w1_11 : Int32) (w1_12 : Int32) (w1_13 : Int32) (T201 : St) => (fun (T2 : St) => if w1_12 = 0 then (0, T2) else (if w1_9 < 0 then (0, T2) else (1, T2))) (sA T201 587 (p0 + 1 : Int32).toNatClampNeg ((((T201.2.2.1 587 (p0 : Int32).toNatClampNeg) + (((T.2.2.1 586 (p0 : Int32).toNatClampNeg) - (T.2.2.1 586 (p0 : Int32).toNatClampNeg) / (1 + (x_m_dishOf T (T.2.2.1 585 (p0 : Int32).toNatClampNeg) 0)) * (1 + (x_m_dishOf T (T.2.2.1 585 (p0 : Int32).toNatClampNeg) 0))) * (x_m_dishOf T201 (T.2.2.1 585 (p0 : Int32).toNatClampNeg) 1))) + w1_10) + w1_11))) 1000 (p1 - ((T.2.2.1 586 (p0 : Int32).toNatClampNeg) - (T.2.2.1 586 (p0 : Int32).toNatClampNeg) / (1 + (x_m_dishOf T (T.2.2.1 585 (p0 : Int32).toNatClampNeg) 0)) * (1 + (x_m_dishOf T (T.2.2.1 585 (p0 : Int32).toNatClampNeg) 0)))) 0 0 1 ((x_m_dishOf T (T.2.2.1 585 (p0 : Int32).toNatClampNeg) 3) - 1) T) (by unfold x_m_layBegins; rfl) ((c_m_layBegins_92 p0 p1 (T.2.2.1 585 (p0 : Int32).toNatClampNeg) (x_m_dishOf T (T.2.2.1 585 (p0 : Int32).toNatClampNeg) 3) ((T.2.2.1 586 (p0 : Int32).toNatClampNeg) / (1 + (x_m_dishOf T (T.2.2.1 585 (p0 : Int32).toNatClampNeg) 0))) ((T.2.2.1 586 (p0 : Int32).toNatClampNeg) - (T.2.2.1 586 (p0 : Int32).toNatClampNeg) / (1 + (x_m_dishOf T (T.2.2.1 585 (p0 : Int32).toNatClampNeg) 0)) * (1 + (x_m_dishOf T (T.2.2.1 585 (p0 : Int32).toNatClampNeg) 0))) (((T.2.2.1 586 (p0 : Int32).toNatClampNeg) / (1 + (x_m_dishOf T (T.2.2.1 585 (p0 : Int32).toNatClampNeg) 0))) - ((T.2.2.1 586 (p0 : Int32).toNatClampNeg) / (1 + (x_m_dishOf T (T.2.2.1 585 (p0 : Int32).toNatClampNeg) 0))) / (x_m_waitsOf T (T.2.2.1 585 (p0 : Int32).toNatClampNeg) 0) * (x_m_waitsOf T (T.2.2.1 585 (p0 : Int32).toNatClampNeg) 0)) (((T.2.2.1 586 (p0 : Int32).toNatClampNeg) / (1 + (x_m_dishOf T (T.2.2.1 585 (p0 : Int32).toNatClampNeg) 0))) / (x_m_waitsOf T (T.2.2.1 585 (p0 : Int32).toNatClampNeg) 0)) (fun w1_9 w1_10 w1_11 w1_12 w1_13 T201 kk => ?_) 1000 (p1 - ((T.2.2.1 586 (p0 : Int32).toNatClampNeg) - (T.2.2.1 586 (p0 : Int32).toNatClampNeg) / (1 + (x_m_dishOf T (T.2.2.1 585 (p0 : Int32).toNatClampNeg) 0)) * (1 + (x_m_dishOf T (T.2.2.1 585 (p0 : Int32).toNatClampNeg) 0)))) 0 0 1 ((x_m_dishOf T (T.2.2.1 585 (p0 : Int32).toNatClampNeg) 3) - 1) T kk))
  · try dsimp only at kk
    refine r_p dX12_layBegins_285 rfl rfl ?_
    refine r_get dX12_layBegins_286 fkX12_55 rfl rfl ?_
    refine r_p dX12_layBegins_289 rfl rfl ?_
    refine r_ci (x := 1) dX12_layBegins_290 rfl ?_
    refine r_p dX12_layBegins_291 rfl rfl ?_
    refine r_p dX12_layBegins_292 rfl rfl ?_
    refine r_get dX12_layBegins_293 fkX12_55 rfl rfl ?_
    refine r_p dX12_layBegins_296 rfl rfl ?_
    obtain ⟨q19, kk⟩ := kk
    refine r_ia dX12_layBegins_297 rfl q19 ?_
    refine r_p dX12_layBegins_298 rfl rfl ?_
    refine r_p dX12_layBegins_300 rfl rfl ?_
    refine r_p dX12_layBegins_301 rfl rfl ?_
    refine r_ci (x := 1) dX12_layBegins_302 rfl ?_
    obtain ⟨q20, kk⟩ := kk
    refine r_cv (d1 := 1) dX12_layBegins_303 cvX12_228 rfl rfl rfl rfl (Nat.le_of_ble_eq_true rfl) (Nat.le_of_ble_eq_true rfl) (Nat.le_of_ble_eq_true rfl) (c_m_dishOf (T.2.2.1 585 (p0 : Int32).toNatClampNeg) 1 q20) ?_
    refine r_p dX12_layBegins_306 rfl rfl ?_
    refine r_p dX12_layBegins_307 rfl rfl ?_
    refine r_p dX12_layBegins_308 rfl rfl ?_
    refine r_p dX12_layBegins_310 rfl rfl ?_
    refine r_p dX12_layBegins_311 rfl rfl ?_
    refine r_p dX12_layBegins_313 rfl rfl ?_
    obtain ⟨q21, kk⟩ := kk
    refine r_ias dX12_layBegins_314 rfl q21 ?_
    refine r_eI (r' := (fun (T2 : St) => if w1_12 = 0 then (0, T2) else (if w1_9 < 0 then (0, T2) else (1, T2))) (sA T201 587 (p0 + 1 : Int32).toNatClampNeg ((((T201.2.2.1 587 (p0 : Int32).toNatClampNeg) + (((T.2.2.1 586 (p0 : Int32).toNatClampNeg) - (T.2.2.1 586 (p0 : Int32).toNatClampNeg) / (1 + (x_m_dishOf T (T.2.2.1 585 (p0 : Int32).toNatClampNeg) 0)) * (1 + (x_m_dishOf T (T.2.2.1 585 (p0 : Int32).toNatClampNeg) 0))) * (x_m_dishOf T201 (T.2.2.1 585 (p0 : Int32).toNatClampNeg) 1))) + w1_10) + w1_11))) rfl ?_
    generalize sA T201 587 (p0 + 1 : Int32).toNatClampNeg ((((T201.2.2.1 587 (p0 : Int32).toNatClampNeg) + (((T.2.2.1 586 (p0 : Int32).toNatClampNeg) - (T.2.2.1 586 (p0 : Int32).toNatClampNeg) / (1 + (x_m_dishOf T (T.2.2.1 585 (p0 : Int32).toNatClampNeg) 0)) * (1 + (x_m_dishOf T (T.2.2.1 585 (p0 : Int32).toNatClampNeg) 0))) * (x_m_dishOf T201 (T.2.2.1 585 (p0 : Int32).toNatClampNeg) 1))) + w1_10) + w1_11) = T2 at ⊢
    refine r_p dX12_layBegins_315 rfl rfl ?_
    refine r_ieq dX12_layBegins_317 rfl (fun c317_16 => ?_) (fun c317_16 => ?_)
    · refine r_ci (x := 0) dX12_layBegins_329 rfl ?_
      exact r_eI (r' := (0, T2)) (by first | rw [if_pos c317_16] | (dsimp only; rw [if_pos c317_16])) (r_ri dX12_layBegins_330 rfl rfl rfl rfl)
    · refine r_p dX12_layBegins_320 rfl rfl ?_
      refine r_ilt dX12_layBegins_322 rfl (fun c322_17 => ?_) (fun c322_17 => ?_)
      · refine r_ci (x := 0) dX12_layBegins_329 rfl ?_
        exact r_eI (r' := (0, T2)) (by first | rw [if_neg c317_16, if_pos c322_17] | (dsimp only; rw [if_neg c317_16, if_pos c322_17])) (r_ri dX12_layBegins_330 rfl rfl rfl rfl)
      · refine r_ci (x := 1) dX12_layBegins_325 rfl ?_
        refine r_go dX12_layBegins_326 rfl ?_
        exact r_eI (r' := (1, T2)) (by first | rw [if_neg c317_16, if_neg c322_17] | (dsimp only; rw [if_neg c317_16, if_neg c322_17])) (r_ri dX12_layBegins_330 rfl rfl rfl rfl)
