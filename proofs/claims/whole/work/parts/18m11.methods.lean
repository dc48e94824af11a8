def x_m_fits_38 (l1 : Int32) (l2 : Int32) (l3 : Int32) (l4 : Int32) (l5 : Int32) (l6 : Int32) (K : Int32 → St → Int32 × St) : Nat → Int32 → St → Int32 × St
  | 0, _, T => (0, T)
  | f + 1, v7, T => if l6 ≤ v7 then (K v7 T) else (fun (T1 : St) => x_m_fits_38 l1 l2 l3 l4 l5 l6 K f (v7 + 1) T1) (x_m_addStep T (l1 + 1) ((x_m_dishOf T l5 4) + v7) (T.2.2.1 588 ((3 * l1) + v7 : Int32).toNatClampNeg) (x_m_stepOf T ((x_m_dishOf T l5 4) + v7) 1))
def ok_m_fits_38 (l1 : Int32) (l2 : Int32) (l3 : Int32) (l4 : Int32) (l5 : Int32) (l6 : Int32) (Kk : Int32 → St → Prop) : Nat → Int32 → St → Prop
  | 0, _, _ => False
  | f + 1, v7, T => ((l6 ≤ v7 → Kk v7 T) ∧ (¬ l6 ≤ v7 → (ok_m_dishOf T l5 4) ∧ (vp_in ((3 * l1) + v7) 12) ∧ (ok_m_stepOf T ((x_m_dishOf T l5 4) + v7) 1) ∧ (ok_m_addStep T (l1 + 1) ((x_m_dishOf T l5 4) + v7) (T.2.2.1 588 ((3 * l1) + v7 : Int32).toNatClampNeg) (x_m_stepOf T ((x_m_dishOf T l5 4) + v7) 1)) ∧ (fun (T1 : St) => ok_m_fits_38 l1 l2 l3 l4 l5 l6 Kk f (v7 + 1) T1) (x_m_addStep T (l1 + 1) ((x_m_dishOf T l5 4) + v7) (T.2.2.1 588 ((3 * l1) + v7 : Int32).toNatClampNeg) (x_m_stepOf T ((x_m_dishOf T l5 4) + v7) 1))))
theorem c_m_fits_38 {X : Nat × (Nat → Int32)} (l1 : Int32) (l2 : Int32) (l3 : Int32) (l4 : Int32) (l5 : Int32) (l6 : Int32) {K : Int32 → St → Int32 × St} {Kk : Int32 → St → Prop} (hk : ∀ (v7 : Int32) (T : St), Kk v7 T → tR X 3 mX12_fits 90 [some (.ref 571), some (.int l1), some (.int l2), some (.int l3), some (.int l4), some (.int l5), some (.int l6), some (.int v7), none] [] T (some (.int (K v7 T).1)) ((K v7 T).2)) : ∀ (f : Nat) (v7 : Int32) (T : St), ok_m_fits_38 l1 l2 l3 l4 l5 l6 Kk f v7 T → tR X 3 mX12_fits 38 [some (.ref 571), some (.int l1), some (.int l2), some (.int l3), some (.int l4), some (.int l5), some (.int l6), some (.int v7), none] [] T (some (.int (x_m_fits_38 l1 l2 l3 l4 l5 l6 K f v7 T).1)) ((x_m_fits_38 l1 l2 l3 l4 l5 l6 K f v7 T).2) := by
  intro f
  induction f with
  | zero => intro v7 T kk; exact kk.elim
  | succ f ih =>
    intro v7 T kk
    rw [ok_m_fits_38] at kk
    refine r_p dX12_fits_38 rfl rfl ?_
    refine r_p dX12_fits_40 rfl rfl ?_
    refine r_cge dX12_fits_42 rfl (fun c42_2 => ?_) (fun c42_2 => ?_)
    · have kk := kk.1 c42_2
      show tR _ _ _ _ [some (.ref 571), some (.int l1), some (.int l2), some (.int l3), some (.int l4), some (.int l5), some (.int l6), some (.int v7), none] _ _ _ _
      exact r_eI (r' := K v7 T) (by rw [x_m_fits_38]; rw [if_pos c42_2]) ((hk v7 T kk))
    · have kk := kk.2 c42_2
      refine r_p dX12_fits_45 rfl rfl ?_
      refine r_p dX12_fits_46 rfl rfl ?_
      refine r_ci (x := 4) dX12_fits_48 rfl ?_
      obtain ⟨q5, kk⟩ := kk
      refine r_cv (d1 := 1) dX12_fits_49 cvX12_228 rfl rfl rfl rfl (Nat.le_of_ble_eq_true rfl) (Nat.le_of_ble_eq_true rfl) (Nat.le_of_ble_eq_true rfl) (c_m_dishOf l5 4 q5) ?_
      refine r_p dX12_fits_52 rfl rfl ?_
      refine r_p dX12_fits_54 rfl rfl ?_
      refine r_p dX12_fits_55 rfl rfl ?_
      refine r_p dX12_fits_57 rfl rfl ?_
      refine r_p dX12_fits_58 rfl rfl ?_
      refine r_ci (x := 1) dX12_fits_59 rfl ?_
      refine r_p dX12_fits_60 rfl rfl ?_
      refine r_p dX12_fits_61 rfl rfl ?_
      refine r_p dX12_fits_63 rfl rfl ?_
      refine r_get dX12_fits_64 fkX12_58 rfl rfl ?_
      refine r_ci (x := 3) dX12_fits_67 rfl ?_
      refine r_p dX12_fits_68 rfl rfl ?_
      refine r_p dX12_fits_69 rfl rfl ?_
      refine r_p dX12_fits_70 rfl rfl ?_
      refine r_p dX12_fits_72 rfl rfl ?_
      obtain ⟨q6, kk⟩ := kk
      refine r_ia dX12_fits_73 rfl q6 ?_
      refine r_p dX12_fits_74 rfl rfl ?_
      refine r_p dX12_fits_75 rfl rfl ?_
      refine r_ci (x := 1) dX12_fits_77 rfl ?_
      obtain ⟨q7, kk⟩ := kk
      refine r_cv (d1 := 1) dX12_fits_78 cvX12_232 rfl rfl rfl rfl (Nat.le_of_ble_eq_true rfl) (Nat.le_of_ble_eq_true rfl) (Nat.le_of_ble_eq_true rfl) (c_m_stepOf ((x_m_dishOf T l5 4) + v7) 1 q7) ?_
      obtain ⟨q8, kk⟩ := kk
      refine r_cv (d1 := 2) dX12_fits_81 cvX12_278 rfl rfl rfl rfl (Nat.le_of_ble_eq_true rfl) (Nat.le_of_ble_eq_true rfl) (Nat.le_of_ble_eq_true rfl) (c_m_addStep (l1 + 1) ((x_m_dishOf T l5 4) + v7) (T.2.2.1 588 ((3 * l1) + v7 : Int32).toNatClampNeg) (x_m_stepOf T ((x_m_dishOf T l5 4) + v7) 1) q8) ?_
      refine r_eI (r' := (fun (T1 : St) => x_m_fits_38 l1 l2 l3 l4 l5 l6 K f (v7 + 1) T1) (x_m_addStep T (l1 + 1) ((x_m_dishOf T l5 4) + v7) (T.2.2.1 588 ((3 * l1) + v7 : Int32).toNatClampNeg) (x_m_stepOf T ((x_m_dishOf T l5 4) + v7) 1))) (by rw [x_m_fits_38]; rw [if_neg c42_2]) ?_
      generalize x_m_addStep T (l1 + 1) ((x_m_dishOf T l5 4) + v7) (T.2.2.1 588 ((3 * l1) + v7 : Int32).toNatClampNeg) (x_m_stepOf T ((x_m_dishOf T l5 4) + v7) 1) = T1 at kk ⊢
      try dsimp only at kk
      refine r_inc (y := 1) dX12_fits_84 rfl rfl rfl ?_
      refine r_go dX12_fits_87 rfl ?_
      show tR _ _ _ _ [some (.ref 571), some (.int l1), some (.int l2), some (.int l3), some (.int l4), some (.int l5), some (.int l6), some (.int (v7 + 1)), some (.int ((x_m_dishOf T l5 4) + v7))] _ _ _ _
      exact r_eI (r' := x_m_fits_38 l1 l2 l3 l4 l5 l6 K f (v7 + 1) T1) rfl (r_le (le_s (le_s (le_s (le_s (le_s (le_s (le_s (le_s (le_n (le_0)))))))))) (ih (v7 + 1) T1 kk))
def x_m_fits (T : St) (p0 : Int32) (p1 : Int32) (p2 : Int32) (p3 : Int32) : Int32 × St := if ((x_m_layBegins T p0 p1).1) = 0 then (0, (x_m_layBegins T p0 p1).2) else (x_m_fits_38 p0 p1 p2 p3 (((x_m_layBegins T p0 p1).2).2.2.1 585 (p0 : Int32).toNatClampNeg) (x_m_dishOf ((x_m_layBegins T p0 p1).2) (((x_m_layBegins T p0 p1).2).2.2.1 585 (p0 : Int32).toNatClampNeg) 3) (fun (w1_7 : Int32) (T201 : St) => jn (fun (KJ1 : St → Int32 × St) => if (x_m_dishOf T201 (((x_m_layBegins T p0 p1).2).2.2.1 585 (p0 : Int32).toNatClampNeg) 2) = 1 then (fun (T3 : St) => KJ1 T3) (x_m_addPan T201 (p0 + 1) (T201.2.2.1 588 (3 * p0 : Int32).toNatClampNeg) ((T201.2.2.1 588 (((3 * p0) + (x_m_dishOf ((x_m_layBegins T p0 p1).2) (((x_m_layBegins T p0 p1).2).2.2.1 585 (p0 : Int32).toNatClampNeg) 3)) - 1 : Int32).toNatClampNeg) + (x_m_stepOf T201 (((x_m_dishOf T201 (((x_m_layBegins T p0 p1).2).2.2.1 585 (p0 : Int32).toNatClampNeg) 4) + (x_m_dishOf ((x_m_layBegins T p0 p1).2) (((x_m_layBegins T p0 p1).2).2.2.1 585 (p0 : Int32).toNatClampNeg) 3)) - 1) 1))) else (KJ1 T201)) (fun (T301 : St) => if (x_m_lacks T301 (p0 + 1) p2 p3) = (-1000000) then (1, T301) else (0, T301))) 1000 0 (x_m_copyLevel ((x_m_layBegins T p0 p1).2) (p0 + 1)))
def ok_m_fits (T : St) (p0 : Int32) (p1 : Int32) (p2 : Int32) (p3 : Int32) : Prop := (ok_m_layBegins T p0 p1) ∧ (¬ ((x_m_layBegins T p0 p1).1) = 0 → (vp_in p0 4) ∧ (ok_m_dishOf ((x_m_layBegins T p0 p1).2) (((x_m_layBegins T p0 p1).2).2.2.1 585 (p0 : Int32).toNatClampNeg) 3) ∧ (ok_m_copyLevel ((x_m_layBegins T p0 p1).2) (p0 + 1)) ∧ ok_m_fits_38 p0 p1 p2 p3 (((x_m_layBegins T p0 p1).2).2.2.1 585 (p0 : Int32).toNatClampNeg) (x_m_dishOf ((x_m_layBegins T p0 p1).2) (((x_m_layBegins T p0 p1).2).2.2.1 585 (p0 : Int32).toNatClampNeg) 3) (fun (w1_7 : Int32) (T201 : St) => (ok_m_dishOf T201 (((x_m_layBegins T p0 p1).2).2.2.1 585 (p0 : Int32).toNatClampNeg) 4) ∧ (ok_m_dishOf T201 (((x_m_layBegins T p0 p1).2).2.2.1 585 (p0 : Int32).toNatClampNeg) 2) ∧ jn (fun (OJ1 : St → Prop) => (((x_m_dishOf T201 (((x_m_layBegins T p0 p1).2).2.2.1 585 (p0 : Int32).toNatClampNeg) 2) = 1 → (vp_in (3 * p0) 12) ∧ (vp_in (((3 * p0) + (x_m_dishOf ((x_m_layBegins T p0 p1).2) (((x_m_layBegins T p0 p1).2).2.2.1 585 (p0 : Int32).toNatClampNeg) 3)) - 1) 12) ∧ (ok_m_stepOf T201 (((x_m_dishOf T201 (((x_m_layBegins T p0 p1).2).2.2.1 585 (p0 : Int32).toNatClampNeg) 4) + (x_m_dishOf ((x_m_layBegins T p0 p1).2) (((x_m_layBegins T p0 p1).2).2.2.1 585 (p0 : Int32).toNatClampNeg) 3)) - 1) 1) ∧ (ok_m_addPan T201 (p0 + 1) (T201.2.2.1 588 (3 * p0 : Int32).toNatClampNeg) ((T201.2.2.1 588 (((3 * p0) + (x_m_dishOf ((x_m_layBegins T p0 p1).2) (((x_m_layBegins T p0 p1).2).2.2.1 585 (p0 : Int32).toNatClampNeg) 3)) - 1 : Int32).toNatClampNeg) + (x_m_stepOf T201 (((x_m_dishOf T201 (((x_m_layBegins T p0 p1).2).2.2.1 585 (p0 : Int32).toNatClampNeg) 4) + (x_m_dishOf ((x_m_layBegins T p0 p1).2) (((x_m_layBegins T p0 p1).2).2.2.1 585 (p0 : Int32).toNatClampNeg) 3)) - 1) 1))) ∧ (fun (T3 : St) => OJ1 T3) (x_m_addPan T201 (p0 + 1) (T201.2.2.1 588 (3 * p0 : Int32).toNatClampNeg) ((T201.2.2.1 588 (((3 * p0) + (x_m_dishOf ((x_m_layBegins T p0 p1).2) (((x_m_layBegins T p0 p1).2).2.2.1 585 (p0 : Int32).toNatClampNeg) 3)) - 1 : Int32).toNatClampNeg) + (x_m_stepOf T201 (((x_m_dishOf T201 (((x_m_layBegins T p0 p1).2).2.2.1 585 (p0 : Int32).toNatClampNeg) 4) + (x_m_dishOf ((x_m_layBegins T p0 p1).2) (((x_m_layBegins T p0 p1).2).2.2.1 585 (p0 : Int32).toNatClampNeg) 3)) - 1) 1)))) ∧ (¬ (x_m_dishOf T201 (((x_m_layBegins T p0 p1).2).2.2.1 585 (p0 : Int32).toNatClampNeg) 2) = 1 → OJ1 T201))) (fun (T301 : St) => (ok_m_lacks T301 (p0 + 1) p2 p3) ∧ True)) 1000 0 (x_m_copyLevel ((x_m_layBegins T p0 p1).2) (p0 + 1)))
theorem c_m_fits {X : Nat × (Nat → Int32)} {T : St} (p0 : Int32) (p1 : Int32) (p2 : Int32) (p3 : Int32) (kk : ok_m_fits T p0 p1 p2 p3) : tC X 4 mX12_fits [.ref 571, .int p0, .int p1, .int p2, .int p3] T (some (.int (x_m_fits T p0 p1 p2 p3).1)) ((x_m_fits T p0 p1 p2 p3).2) := by
  unfold ok_m_fits at kk
  refine tC_of ?_
  refine r_p dX12_fits_0 rfl rfl ?_
  refine r_p dX12_fits_1 rfl rfl ?_
  refine r_p dX12_fits_2 rfl rfl ?_
  obtain ⟨q1, kk⟩ := kk
  refine r_cv (d1 := 3) dX12_fits_3 cvX12_271 rfl rfl rfl rfl (Nat.le_of_ble_eq_true rfl) (Nat.le_of_ble_eq_true rfl) (Nat.le_of_ble_eq_true rfl) (c_m_layBegins p0 p1 q1) ?_
  refine r_ine dX12_fits_6 rfl (fun c6_1 => ?_) (fun c6_1 => ?_)
  · have kk := kk c6_1
    refine r_p dX12_fits_11 rfl rfl ?_
    refine r_get dX12_fits_12 fkX12_49 rfl rfl ?_
    refine r_p dX12_fits_15 rfl rfl ?_
    obtain ⟨q2, kk⟩ := kk
    refine r_ia dX12_fits_16 rfl q2 ?_
    refine r_p dX12_fits_17 rfl rfl ?_
    refine r_p dX12_fits_19 rfl rfl ?_
    refine r_p dX12_fits_20 rfl rfl ?_
    refine r_ci (x := 3) dX12_fits_22 rfl ?_
    obtain ⟨q3, kk⟩ := kk
    refine r_cv (d1 := 1) dX12_fits_23 cvX12_228 rfl rfl rfl rfl (Nat.le_of_ble_eq_true rfl) (Nat.le_of_ble_eq_true rfl) (Nat.le_of_ble_eq_true rfl) (c_m_dishOf (((x_m_layBegins T p0 p1).2).2.2.1 585 (p0 : Int32).toNatClampNeg) 3 q3) ?_
    refine r_p dX12_fits_26 rfl rfl ?_
    refine r_p dX12_fits_28 rfl rfl ?_
    refine r_p dX12_fits_29 rfl rfl ?_
    refine r_ci (x := 1) dX12_fits_30 rfl ?_
    refine r_p dX12_fits_31 rfl rfl ?_
    obtain ⟨q4, kk⟩ := kk
    refine r_cv (d1 := 1) dX12_fits_32 cvX12_275 rfl rfl rfl rfl (Nat.le_of_ble_eq_true rfl) (Nat.le_of_ble_eq_true rfl) (Nat.le_of_ble_eq_true rfl) (c_m_copyLevel (p0 + 1) q4) ?_
    refine r_ci (x := 0) dX12_fits_35 rfl ?_
    refine r_p dX12_fits_36 rfl rfl ?_
    show tR _ _ _ _ [some (.ref 571), some (.int p0), some (.int p1), some (.int p2), some (.int p3), some (.int (((x_m_layBegins T p0 p1).2).2.2.1 585 (p0 : Int32).toNatClampNeg)), some (.int (x_m_dishOf ((x_m_layBegins T p0 p1).2) (((x_m_layBegins T p0 p1).2).2.2.1 585 (p0 : Int32).toNatClampNeg) 3)), some (.int 0), none] _ _ _ _
    refine r_eI (r' := x_m_fits_38 p0 p1 p2 p3 (((x_m_layBegins T p0 p1).2).2.2.1 585 (p0 : Int32).toNatClampNeg) (x_m_dishOf ((x_m_layBegins T p0 p1).2) (((x_m_layBegins T p0 p1).2).2.2.1 585 (p0 : Int32).toNatClampNeg) 3) (fun (w1_7 : Int32) (T201 : St) => jn (fun (KJ1 : St → Int32 × St) => if (x_m_dishOf T201 (((x_m_layBegins T p0 p1).2).2.2.1 585 (p0 : Int32).toNatClampNeg) 2) = 1 then (fun (T3 : St) => KJ1 T3) (x_m_addPan T201 (p0 + 1) (T201.2.2.1 588 (3 * p0 : Int32).toNatClampNeg) ((T201.2.2.1 588 (((3 * p0) + (x_m_dishOf ((x_m_layBegins T p0 p1).2) (((x_m_layBegins T p0 p1).2).2.2.1 585 (p0 : Int32).toNatClampNeg) 3)) - 1 : Int32).toNatClampNeg) + (x_m_stepOf T201 (((x_m_dishOf T201 (((x_m_layBegins T p0 p1).2).2.2.1 585 (p0 : Int32).toNatClampNeg) 4) + (x_m_dishOf ((x_m_layBegins T p0 p1).2) (((x_m_layBegins T p0 p1).2).2.2.1 585 (p0 : Int32).toNatClampNeg) 3)) - 1) 1))) else (KJ1 T201)) (fun (T301 : St) => if (x_m_lacks T301 (p0 + 1) p2 p3) = (-1000000) then (1, T301) else (0, T301))) 1000 0 (x_m_copyLevel ((x_m_layBegins T p0 p1).2) (p0 + 1))) (by unfold x_m_fits; rw [if_neg c6_1]) ((c_m_fits_38 p0 p1 p2 p3 (((x_m_layBegins T p0 p1).2).2.2.1 585 (p0 : Int32).toNatClampNeg) (x_m_dishOf ((x_m_layBegins T p0 p1).2) (((x_m_layBegins T p0 p1).2).2.2.1 585 (p0 : Int32).toNatClampNeg) 3) (fun w1_7 T201 kk => ?_) 1000 0 (x_m_copyLevel ((x_m_layBegins T p0 p1).2) (p0 + 1)) kk))
    · try dsimp only at kk
      refine r_p dX12_fits_90 rfl rfl ?_
      refine r_p dX12_fits_91 rfl rfl ?_
      refine r_ci (x := 4) dX12_fits_93 rfl ?_
      obtain ⟨q9, kk⟩ := kk
      refine r_cv (d1 := 1) dX12_fits_94 cvX12_228 rfl rfl rfl rfl (Nat.le_of_ble_eq_true rfl) (Nat.le_of_ble_eq_true rfl) (Nat.le_of_ble_eq_true rfl) (c_m_dishOf (((x_m_layBegins T p0 p1).2).2.2.1 585 (p0 : Int32).toNatClampNeg) 4 q9) ?_
      refine r_p dX12_fits_97 rfl rfl ?_
      refine r_p dX12_fits_99 rfl rfl ?_
      refine r_ci (x := 1) dX12_fits_100 rfl ?_
      refine r_p dX12_fits_101 rfl rfl ?_
      refine r_p dX12_fits_102 rfl rfl ?_
      refine r_p dX12_fits_104 rfl rfl ?_
      refine r_p dX12_fits_105 rfl rfl ?_
      refine r_ci (x := 2) dX12_fits_107 rfl ?_
      obtain ⟨q10, kk⟩ := kk
      refine r_cv (d1 := 1) dX12_fits_108 cvX12_228 rfl rfl rfl rfl (Nat.le_of_ble_eq_true rfl) (Nat.le_of_ble_eq_true rfl) (Nat.le_of_ble_eq_true rfl) (c_m_dishOf (((x_m_layBegins T p0 p1).2).2.2.1 585 (p0 : Int32).toNatClampNeg) 2 q10) ?_
      refine r_ci (x := 1) dX12_fits_111 rfl ?_
      obtain ⟨KJ1, hKJ1⟩ : ∃ q : St → Int32 × St, q = (fun (T301 : St) => if (x_m_lacks T301 (p0 + 1) p2 p3) = (-1000000) then (1, T301) else (0, T301)) := ⟨_, rfl⟩
      obtain ⟨OJ1, hOJ1⟩ : ∃ q : St → Prop, q = (fun (T301 : St) => (ok_m_lacks T301 (p0 + 1) p2 p3) ∧ True) := ⟨_, rfl⟩
      rw [← hOJ1] at kk
      simp only [jn] at kk
      have hJ1 : ∀ (T301 : St), OJ1 T301 → tR X 3 mX12_fits 151 [some (.ref 571), some (.int p0), some (.int p1), some (.int p2), some (.int p3), some (.int (((x_m_layBegins T p0 p1).2).2.2.1 585 (p0 : Int32).toNatClampNeg)), some (.int (x_m_dishOf ((x_m_layBegins T p0 p1).2) (((x_m_layBegins T p0 p1).2).2.2.1 585 (p0 : Int32).toNatClampNeg) 3)), some (.int (((x_m_dishOf T201 (((x_m_layBegins T p0 p1).2).2.2.1 585 (p0 : Int32).toNatClampNeg) 4) + (x_m_dishOf ((x_m_layBegins T p0 p1).2) (((x_m_layBegins T p0 p1).2).2.2.1 585 (p0 : Int32).toNatClampNeg) 3)) - 1)), none] [] T301 (some (.int (KJ1 T301).1)) ((KJ1 T301).2) := by
        intro T301 kk
        rw [hOJ1] at kk
        try dsimp only at kk
        rw [hKJ1]
        refine r_p dX12_fits_151 rfl rfl ?_
        refine r_p dX12_fits_152 rfl rfl ?_
        refine r_ci (x := 1) dX12_fits_153 rfl ?_
        refine r_p dX12_fits_154 rfl rfl ?_
        refine r_p dX12_fits_155 rfl rfl ?_
        refine r_p dX12_fits_156 rfl rfl ?_
        obtain ⟨q15, kk⟩ := kk
        refine r_cv (d1 := 3) dX12_fits_158 cvX12_285 rfl rfl rfl rfl (Nat.le_of_ble_eq_true rfl) (Nat.le_of_ble_eq_true rfl) (Nat.le_of_ble_eq_true rfl) (c_m_lacks (p0 + 1) p2 p3 q15) ?_
        refine r_k dX12_fits_161 kkX12_137 ?_
        refine r_cne dX12_fits_163 rfl (fun c163_4 => ?_) (fun c163_4 => ?_)
        · refine r_ci (x := 0) dX12_fits_170 rfl ?_
          exact r_eI (r' := (0, T301)) (by first | rw [if_neg c163_4] | (dsimp only; rw [if_neg c163_4])) (r_ri dX12_fits_171 rfl rfl rfl rfl)
        · refine r_ci (x := 1) dX12_fits_166 rfl ?_
          refine r_go dX12_fits_167 rfl ?_
          exact r_eI (r' := (1, T301)) (by first | rw [if_pos c163_4] | (dsimp only; rw [if_pos c163_4])) (r_ri dX12_fits_171 rfl rfl rfl rfl)
      refine r_eI (r' := jn (fun (KJ1 : St → Int32 × St) => if (x_m_dishOf T201 (((x_m_layBegins T p0 p1).2).2.2.1 585 (p0 : Int32).toNatClampNeg) 2) = 1 then (fun (T3 : St) => KJ1 T3) (x_m_addPan T201 (p0 + 1) (T201.2.2.1 588 (3 * p0 : Int32).toNatClampNeg) ((T201.2.2.1 588 (((3 * p0) + (x_m_dishOf ((x_m_layBegins T p0 p1).2) (((x_m_layBegins T p0 p1).2).2.2.1 585 (p0 : Int32).toNatClampNeg) 3)) - 1 : Int32).toNatClampNeg) + (x_m_stepOf T201 (((x_m_dishOf T201 (((x_m_layBegins T p0 p1).2).2.2.1 585 (p0 : Int32).toNatClampNeg) 4) + (x_m_dishOf ((x_m_layBegins T p0 p1).2) (((x_m_layBegins T p0 p1).2).2.2.1 585 (p0 : Int32).toNatClampNeg) 3)) - 1) 1))) else (KJ1 T201)) KJ1) (by rw [hKJ1]) ?_
      refine r_cne dX12_fits_112 rfl (fun c112_5 => ?_) (fun c112_5 => ?_)
      · have kk := kk.2 c112_5
        show tR _ _ _ _ [some (.ref 571), some (.int p0), some (.int p1), some (.int p2), some (.int p3), some (.int (((x_m_layBegins T p0 p1).2).2.2.1 585 (p0 : Int32).toNatClampNeg)), some (.int (x_m_dishOf ((x_m_layBegins T p0 p1).2) (((x_m_layBegins T p0 p1).2).2.2.1 585 (p0 : Int32).toNatClampNeg) 3)), some (.int (((x_m_dishOf T201 (((x_m_layBegins T p0 p1).2).2.2.1 585 (p0 : Int32).toNatClampNeg) 4) + (x_m_dishOf ((x_m_layBegins T p0 p1).2) (((x_m_layBegins T p0 p1).2).2.2.1 585 (p0 : Int32).toNatClampNeg) 3)) - 1)), none] [] _ _ _
        exact r_eI (r' := KJ1 T201) (by simp only [jn]; rw [if_neg c112_5]) ((hJ1 T201 kk))
      · have kk := kk.1 c112_5
        refine r_p dX12_fits_115 rfl rfl ?_
        refine r_p dX12_fits_116 rfl rfl ?_
        refine r_ci (x := 1) dX12_fits_117 rfl ?_
        refine r_p dX12_fits_118 rfl rfl ?_
        refine r_p dX12_fits_119 rfl rfl ?_
        refine r_get dX12_fits_120 fkX12_58 rfl rfl ?_
        refine r_ci (x := 3) dX12_fits_123 rfl ?_
        refine r_p dX12_fits_124 rfl rfl ?_
        refine r_p dX12_fits_125 rfl rfl ?_
        obtain ⟨q16, kk⟩ := kk
        refine r_ia dX12_fits_126 rfl q16 ?_
        refine r_p dX12_fits_127 rfl rfl ?_
        refine r_get dX12_fits_128 fkX12_58 rfl rfl ?_
        refine r_ci (x := 3) dX12_fits_131 rfl ?_
        refine r_p dX12_fits_132 rfl rfl ?_
        refine r_p dX12_fits_133 rfl rfl ?_
        refine r_p dX12_fits_134 rfl rfl ?_
        refine r_p dX12_fits_136 rfl rfl ?_
        refine r_ci (x := 1) dX12_fits_137 rfl ?_
        refine r_p dX12_fits_138 rfl rfl ?_
        obtain ⟨q17, kk⟩ := kk
        refine r_ia dX12_fits_139 rfl q17 ?_
        refine r_p dX12_fits_140 rfl rfl ?_
        refine r_p dX12_fits_141 rfl rfl ?_
        refine r_ci (x := 1) dX12_fits_143 rfl ?_
        obtain ⟨q18, kk⟩ := kk
        refine r_cv (d1 := 1) dX12_fits_144 cvX12_232 rfl rfl rfl rfl (Nat.le_of_ble_eq_true rfl) (Nat.le_of_ble_eq_true rfl) (Nat.le_of_ble_eq_true rfl) (c_m_stepOf (((x_m_dishOf T201 (((x_m_layBegins T p0 p1).2).2.2.1 585 (p0 : Int32).toNatClampNeg) 4) + (x_m_dishOf ((x_m_layBegins T p0 p1).2) (((x_m_layBegins T p0 p1).2).2.2.1 585 (p0 : Int32).toNatClampNeg) 3)) - 1) 1 q18) ?_
        refine r_p dX12_fits_147 rfl rfl ?_
        obtain ⟨q19, kk⟩ := kk
        refine r_cv (d1 := 1) dX12_fits_148 cvX12_282 rfl rfl rfl rfl (Nat.le_of_ble_eq_true rfl) (Nat.le_of_ble_eq_true rfl) (Nat.le_of_ble_eq_true rfl) (c_m_addPan (p0 + 1) (T201.2.2.1 588 (3 * p0 : Int32).toNatClampNeg) ((T201.2.2.1 588 (((3 * p0) + (x_m_dishOf ((x_m_layBegins T p0 p1).2) (((x_m_layBegins T p0 p1).2).2.2.1 585 (p0 : Int32).toNatClampNeg) 3)) - 1 : Int32).toNatClampNeg) + (x_m_stepOf T201 (((x_m_dishOf T201 (((x_m_layBegins T p0 p1).2).2.2.1 585 (p0 : Int32).toNatClampNeg) 4) + (x_m_dishOf ((x_m_layBegins T p0 p1).2) (((x_m_layBegins T p0 p1).2).2.2.1 585 (p0 : Int32).toNatClampNeg) 3)) - 1) 1)) q19) ?_
        refine r_eI (r' := (fun (T3 : St) => KJ1 T3) (x_m_addPan T201 (p0 + 1) (T201.2.2.1 588 (3 * p0 : Int32).toNatClampNeg) ((T201.2.2.1 588 (((3 * p0) + (x_m_dishOf ((x_m_layBegins T p0 p1).2) (((x_m_layBegins T p0 p1).2).2.2.1 585 (p0 : Int32).toNatClampNeg) 3)) - 1 : Int32).toNatClampNeg) + (x_m_stepOf T201 (((x_m_dishOf T201 (((x_m_layBegins T p0 p1).2).2.2.1 585 (p0 : Int32).toNatClampNeg) 4) + (x_m_dishOf ((x_m_layBegins T p0 p1).2) (((x_m_layBegins T p0 p1).2).2.2.1 585 (p0 : Int32).toNatClampNeg) 3)) - 1) 1)))) (by simp only [jn]; rw [if_pos c112_5]) ?_
        generalize x_m_addPan T201 (p0 + 1) (T201.2.2.1 588 (3 * p0 : Int32).toNatClampNeg) ((T201.2.2.1 588 (((3 * p0) + (x_m_dishOf ((x_m_layBegins T p0 p1).2) (((x_m_layBegins T p0 p1).2).2.2.1 585 (p0 : Int32).toNatClampNeg) 3)) - 1 : Int32).toNatClampNeg) + (x_m_stepOf T201 (((x_m_dishOf T201 (((x_m_layBegins T p0 p1).2).2.2.1 585 (p0 : Int32).toNatClampNeg) 4) + (x_m_dishOf ((x_m_layBegins T p0 p1).2) (((x_m_layBegins T p0 p1).2).2.2.1 585 (p0 : Int32).toNatClampNeg) 3)) - 1) 1)) = T3 at kk ⊢
        try dsimp only at kk
        show tR _ _ _ _ [some (.ref 571), some (.int p0), some (.int p1), some (.int p2), some (.int p3), some (.int (((x_m_layBegins T p0 p1).2).2.2.1 585 (p0 : Int32).toNatClampNeg)), some (.int (x_m_dishOf ((x_m_layBegins T p0 p1).2) (((x_m_layBegins T p0 p1).2).2.2.1 585 (p0 : Int32).toNatClampNeg) 3)), some (.int (((x_m_dishOf T201 (((x_m_layBegins T p0 p1).2).2.2.1 585 (p0 : Int32).toNatClampNeg) 4) + (x_m_dishOf ((x_m_layBegins T p0 p1).2) (((x_m_layBegins T p0 p1).2).2.2.1 585 (p0 : Int32).toNatClampNeg) 3)) - 1)), none] [] _ _ _
        exact r_eI (r' := KJ1 T3) rfl ((hJ1 T3 kk))
  · refine r_ci (x := 0) dX12_fits_9 rfl ?_
    exact r_eI (r' := (0, (x_m_layBegins T p0 p1).2)) (by unfold x_m_fits; rw [if_pos c6_1]) (r_ri dX12_fits_10 rfl rfl rfl rfl)
def x_m_seek_6 (l1 : Int32) (l2 : Int32) (l3 : Int32) (l4 : Int32) (l5 : Int32) (l6 : Int32) (K : Int32 → Int32 → St → Int32 × St) : Nat → Int32 → Int32 → St → Int32 × St
  | 0, _, _, T => (0, T)
  | f + 1, v7, v8, T => if (T.2.2.1 575 (16 : Int32).toNatClampNeg) ≤ v8 then (K v7 v8 T) else (if ((l1 >>> (v8 &&& 31)) &&& 1) = 1 then (x_m_seek_6 l1 l2 l3 l4 l5 l6 K f (v7 + 1) (v8 + 1) (sA T 585 (v7 : Int32).toNatClampNeg v8)) else (x_m_seek_6 l1 l2 l3 l4 l5 l6 K f v7 (v8 + 1) T))
def ok_m_seek_6 (l1 : Int32) (l2 : Int32) (l3 : Int32) (l4 : Int32) (l5 : Int32) (l6 : Int32) (Kk : Int32 → Int32 → St → Prop) : Nat → Int32 → Int32 → St → Prop
  | 0, _, _, _ => False
  | f + 1, v7, v8, T => (vp_in 16 204) ∧ (((T.2.2.1 575 (16 : Int32).toNatClampNeg) ≤ v8 → Kk v7 v8 T) ∧ (¬ (T.2.2.1 575 (16 : Int32).toNatClampNeg) ≤ v8 → ((((l1 >>> (v8 &&& 31)) &&& 1) = 1 → (vp_in v7 4) ∧ ok_m_seek_6 l1 l2 l3 l4 l5 l6 Kk f (v7 + 1) (v8 + 1) (sA T 585 (v7 : Int32).toNatClampNeg v8)) ∧ (¬ ((l1 >>> (v8 &&& 31)) &&& 1) = 1 → ok_m_seek_6 l1 l2 l3 l4 l5 l6 Kk f v7 (v8 + 1) T))))
theorem c_m_seek_6 {X : Nat × (Nat → Int32)} (l1 : Int32) (l2 : Int32) (l3 : Int32) (l4 : Int32) (l5 : Int32) (l6 : Int32) {K : Int32 → Int32 → St → Int32 × St} {Kk : Int32 → Int32 → St → Prop} (hk : ∀ (v7 : Int32) (v8 : Int32) (T : St), Kk v7 v8 T → tR X 4 mX12_seek 46 [some (.ref 571), some (.int l1), some (.int l2), some (.int l3), some (.int l4), some (.int l5), some (.int l6), some (.int v7), some (.int v8), none, none, none] [] T (some (.int (K v7 v8 T).1)) ((K v7 v8 T).2)) : ∀ (f : Nat) (v7 : Int32) (v8 : Int32) (T : St), ok_m_seek_6 l1 l2 l3 l4 l5 l6 Kk f v7 v8 T → tR X 4 mX12_seek 6 [some (.ref 571), some (.int l1), some (.int l2), some (.int l3), some (.int l4), some (.int l5), some (.int l6), some (.int v7), some (.int v8), none, none, none] [] T (some (.int (x_m_seek_6 l1 l2 l3 l4 l5 l6 K f v7 v8 T).1)) ((x_m_seek_6 l1 l2 l3 l4 l5 l6 K f v7 v8 T).2) := by
  intro f
  induction f with
  | zero => intro v7 v8 T kk; exact kk.elim
  | succ f ih =>
    intro v7 v8 T kk
    rw [ok_m_seek_6] at kk
    refine r_p dX12_seek_6 rfl rfl ?_
    refine r_p dX12_seek_8 rfl rfl ?_
    refine r_get dX12_seek_9 fkX12_19 rfl rfl ?_
    refine r_cb (x := 16) dX12_seek_12 rfl ?_
    obtain ⟨q1, kk⟩ := kk
    refine r_ia dX12_seek_14 rfl q1 ?_
    refine r_cge dX12_seek_15 rfl (fun c15_1 => ?_) (fun c15_1 => ?_)
    · have kk := kk.1 c15_1
      show tR _ _ _ _ [some (.ref 571), some (.int l1), some (.int l2), some (.int l3), some (.int l4), some (.int l5), some (.int l6), some (.int v7), some (.int v8), none, none, none] _ _ _ _
      exact r_eI (r' := K v7 v8 T) (by rw [x_m_seek_6]; rw [if_pos c15_1]) ((hk v7 v8 T kk))
    · have kk := kk.2 c15_1
      refine r_p dX12_seek_18 rfl rfl ?_
      refine r_p dX12_seek_19 rfl rfl ?_
      refine r_p dX12_seek_21 rfl rfl ?_
      refine r_ci (x := 1) dX12_seek_22 rfl ?_
      refine r_p dX12_seek_23 rfl rfl ?_
      refine r_ci (x := 1) dX12_seek_24 rfl ?_
      refine r_cne dX12_seek_25 rfl (fun c25_2 => ?_) (fun c25_2 => ?_)
      · have kk := kk.2 c25_2
        refine r_inc (y := 1) dX12_seek_40 rfl rfl rfl ?_
        refine r_go dX12_seek_43 rfl ?_
        show tR _ _ _ _ [some (.ref 571), some (.int l1), some (.int l2), some (.int l3), some (.int l4), some (.int l5), some (.int l6), some (.int v7), some (.int (v8 + 1)), none, none, none] _ _ _ _
        exact r_eI (r' := x_m_seek_6 l1 l2 l3 l4 l5 l6 K f v7 (v8 + 1) T) (by rw [x_m_seek_6]; rw [if_neg c15_1, if_neg c25_2]) ((ih v7 (v8 + 1) T kk))
      · have kk := kk.1 c25_2
        refine r_p dX12_seek_28 rfl rfl ?_
        refine r_get dX12_seek_29 fkX12_49 rfl rfl ?_
        refine r_p dX12_seek_32 rfl rfl ?_
        refine r_p dX12_seek_34 rfl rfl ?_
        obtain ⟨q2, kk⟩ := kk
        refine r_ias dX12_seek_36 rfl q2 ?_
        refine r_inc (y := 1) dX12_seek_37 rfl rfl rfl ?_
        refine r_inc (y := 1) dX12_seek_40 rfl rfl rfl ?_
        refine r_go dX12_seek_43 rfl ?_
        show tR _ _ _ _ [some (.ref 571), some (.int l1), some (.int l2), some (.int l3), some (.int l4), some (.int l5), some (.int l6), some (.int (v7 + 1)), some (.int (v8 + 1)), none, none, none] _ _ _ _
        exact r_eI (r' := x_m_seek_6 l1 l2 l3 l4 l5 l6 K f (v7 + 1) (v8 + 1) (sA T 585 (v7 : Int32).toNatClampNeg v8)) (by rw [x_m_seek_6]; rw [if_neg c15_1, if_pos c25_2]) ((ih (v7 + 1) (v8 + 1) (sA T 585 (v7 : Int32).toNatClampNeg v8) kk))
def x_m_seek_226 (l1 : Int32) (l2 : Int32) (l3 : Int32) (l4 : Int32) (l5 : Int32) (l6 : Int32) (l7 : Int32) (l8 : Int32) (l9 : Int32) (l10 : Int32) (K : Int32 → St → Int32 × St) : Nat → Int32 → St → Int32 × St
  | 0, _, T => (0, T)
  | f + 1, v11, T => if 4 ≤ v11 then (K v11 T) else (x_m_seek_226 l1 l2 l3 l4 l5 l6 l7 l8 l9 l10 K f (v11 + 1) (sA T 589 (v11 : Int32).toNatClampNeg (T.2.2.1 586 (v11 : Int32).toNatClampNeg)))
def ok_m_seek_226 (l1 : Int32) (l2 : Int32) (l3 : Int32) (l4 : Int32) (l5 : Int32) (l6 : Int32) (l7 : Int32) (l8 : Int32) (l9 : Int32) (l10 : Int32) (Kk : Int32 → St → Prop) : Nat → Int32 → St → Prop
  | 0, _, _ => False
  | f + 1, v11, T => ((4 ≤ v11 → Kk v11 T) ∧ (¬ 4 ≤ v11 → (vp_in v11 5) ∧ (vp_in v11 4) ∧ ok_m_seek_226 l1 l2 l3 l4 l5 l6 l7 l8 l9 l10 Kk f (v11 + 1) (sA T 589 (v11 : Int32).toNatClampNeg (T.2.2.1 586 (v11 : Int32).toNatClampNeg))))
theorem c_m_seek_226 {X : Nat × (Nat → Int32)} (l1 : Int32) (l2 : Int32) (l3 : Int32) (l4 : Int32) (l5 : Int32) (l6 : Int32) (l7 : Int32) (l8 : Int32) (l9 : Int32) (l10 : Int32) {K : Int32 → St → Int32 × St} {Kk : Int32 → St → Prop} (hk : ∀ (v11 : Int32) (T : St), Kk v11 T → tR X 4 mX12_seek 252 [some (.ref 571), some (.int l1), some (.int l2), some (.int l3), some (.int l4), some (.int l5), some (.int l6), some (.int l7), some (.int l8), some (.int l9), some (.int l10), some (.int v11)] [] T (some (.int (K v11 T).1)) ((K v11 T).2)) : ∀ (f : Nat) (v11 : Int32) (T : St), ok_m_seek_226 l1 l2 l3 l4 l5 l6 l7 l8 l9 l10 Kk f v11 T → tR X 4 mX12_seek 226 [some (.ref 571), some (.int l1), some (.int l2), some (.int l3), some (.int l4), some (.int l5), some (.int l6), some (.int l7), some (.int l8), some (.int l9), some (.int l10), some (.int v11)] [] T (some (.int (x_m_seek_226 l1 l2 l3 l4 l5 l6 l7 l8 l9 l10 K f v11 T).1)) ((x_m_seek_226 l1 l2 l3 l4 l5 l6 l7 l8 l9 l10 K f v11 T).2) := by
  intro f
  induction f with
  | zero => intro v11 T kk; exact kk.elim
  | succ f ih =>
    intro v11 T kk
    rw [ok_m_seek_226] at kk
    refine r_p dX12_seek_226 rfl rfl ?_
    refine r_ci (x := 4) dX12_seek_228 rfl ?_
    refine r_cge dX12_seek_229 rfl (fun c229_13 => ?_) (fun c229_13 => ?_)
    · have kk := kk.1 c229_13
      show tR _ _ _ _ [some (.ref 571), some (.int l1), some (.int l2), some (.int l3), some (.int l4), some (.int l5), some (.int l6), some (.int l7), some (.int l8), some (.int l9), some (.int l10), some (.int v11)] _ _ _ _
      exact r_eI (r' := K v11 T) (by rw [x_m_seek_226]; rw [if_pos c229_13]) ((hk v11 T kk))
    · have kk := kk.2 c229_13
      refine r_p dX12_seek_232 rfl rfl ?_
      refine r_get dX12_seek_233 fkX12_61 rfl rfl ?_
      refine r_p dX12_seek_236 rfl rfl ?_
      refine r_p dX12_seek_238 rfl rfl ?_
      refine r_get dX12_seek_239 fkX12_52 rfl rfl ?_
      refine r_p dX12_seek_242 rfl rfl ?_
      obtain ⟨q13, kk⟩ := kk
      refine r_ia dX12_seek_244 rfl q13 ?_
      obtain ⟨q14, kk⟩ := kk
      refine r_ias dX12_seek_245 rfl q14 ?_
      refine r_inc (y := 1) dX12_seek_246 rfl rfl rfl ?_
      refine r_go dX12_seek_249 rfl ?_
      show tR _ _ _ _ [some (.ref 571), some (.int l1), some (.int l2), some (.int l3), some (.int l4), some (.int l5), some (.int l6), some (.int l7), some (.int l8), some (.int l9), some (.int l10), some (.int (v11 + 1))] _ _ _ _
      exact r_eI (r' := x_m_seek_226 l1 l2 l3 l4 l5 l6 l7 l8 l9 l10 K f (v11 + 1) (sA T 589 (v11 : Int32).toNatClampNeg (T.2.2.1 586 (v11 : Int32).toNatClampNeg))) (by rw [x_m_seek_226]; rw [if_neg c229_13]) ((ih (v11 + 1) (sA T 589 (v11 : Int32).toNatClampNeg (T.2.2.1 586 (v11 : Int32).toNatClampNeg)) kk))
def x_m_seek_255 (l1 : Int32) (l2 : Int32) (l3 : Int32) (l4 : Int32) (l5 : Int32) (l6 : Int32) (l7 : Int32) (l8 : Int32) (l9 : Int32) (l10 : Int32) (K : Int32 → St → Int32 × St) : Nat → Int32 → St → Int32 × St
  | 0, _, T => (0, T)
  | f + 1, v11, T => if 12 ≤ v11 then (K v11 T) else (x_m_seek_255 l1 l2 l3 l4 l5 l6 l7 l8 l9 l10 K f (v11 + 1) (sA T 590 (v11 : Int32).toNatClampNeg (T.2.2.1 588 (v11 : Int32).toNatClampNeg)))
def ok_m_seek_255 (l1 : Int32) (l2 : Int32) (l3 : Int32) (l4 : Int32) (l5 : Int32) (l6 : Int32) (l7 : Int32) (l8 : Int32) (l9 : Int32) (l10 : Int32) (Kk : Int32 → St → Prop) : Nat → Int32 → St → Prop
  | 0, _, _ => False
  | f + 1, v11, T => ((12 ≤ v11 → Kk v11 T) ∧ (¬ 12 ≤ v11 → (vp_in v11 12) ∧ ok_m_seek_255 l1 l2 l3 l4 l5 l6 l7 l8 l9 l10 Kk f (v11 + 1) (sA T 590 (v11 : Int32).toNatClampNeg (T.2.2.1 588 (v11 : Int32).toNatClampNeg))))
theorem c_m_seek_255 {X : Nat × (Nat → Int32)} (l1 : Int32) (l2 : Int32) (l3 : Int32) (l4 : Int32) (l5 : Int32) (l6 : Int32) (l7 : Int32) (l8 : Int32) (l9 : Int32) (l10 : Int32) {K : Int32 → St → Int32 × St} {Kk : Int32 → St → Prop} (hk : ∀ (v11 : Int32) (T : St), Kk v11 T → tR X 4 mX12_seek 282 [some (.ref 571), some (.int l1), some (.int l2), some (.int l3), some (.int l4), some (.int l5), some (.int l6), some (.int l7), some (.int l8), some (.int l9), some (.int l10), some (.int v11)] [] T (some (.int (K v11 T).1)) ((K v11 T).2)) : ∀ (f : Nat) (v11 : Int32) (T : St), ok_m_seek_255 l1 l2 l3 l4 l5 l6 l7 l8 l9 l10 Kk f v11 T → tR X 4 mX12_seek 255 [some (.ref 571), some (.int l1), some (.int l2), some (.int l3), some (.int l4), some (.int l5), some (.int l6), some (.int l7), some (.int l8), some (.int l9), some (.int l10), some (.int v11)] [] T (some (.int (x_m_seek_255 l1 l2 l3 l4 l5 l6 l7 l8 l9 l10 K f v11 T).1)) ((x_m_seek_255 l1 l2 l3 l4 l5 l6 l7 l8 l9 l10 K f v11 T).2) := by
  intro f
  induction f with
  | zero => intro v11 T kk; exact kk.elim
  | succ f ih =>
    intro v11 T kk
    rw [ok_m_seek_255] at kk
    refine r_p dX12_seek_255 rfl rfl ?_
    refine r_cb (x := 12) dX12_seek_257 rfl ?_
    refine r_cge dX12_seek_259 rfl (fun c259_14 => ?_) (fun c259_14 => ?_)
    · have kk := kk.1 c259_14
      show tR _ _ _ _ [some (.ref 571), some (.int l1), some (.int l2), some (.int l3), some (.int l4), some (.int l5), some (.int l6), some (.int l7), some (.int l8), some (.int l9), some (.int l10), some (.int v11)] _ _ _ _
      exact r_eI (r' := K v11 T) (by rw [x_m_seek_255]; rw [if_pos c259_14]) ((hk v11 T kk))
    · have kk := kk.2 c259_14
      refine r_p dX12_seek_262 rfl rfl ?_
      refine r_get dX12_seek_263 fkX12_64 rfl rfl ?_
      refine r_p dX12_seek_266 rfl rfl ?_
      refine r_p dX12_seek_268 rfl rfl ?_
      refine r_get dX12_seek_269 fkX12_58 rfl rfl ?_
      refine r_p dX12_seek_272 rfl rfl ?_
      obtain ⟨q15, kk⟩ := kk
      refine r_ia dX12_seek_274 rfl q15 ?_
      refine r_ias dX12_seek_275 rfl q15 ?_
      refine r_inc (y := 1) dX12_seek_276 rfl rfl rfl ?_
      refine r_go dX12_seek_279 rfl ?_
      show tR _ _ _ _ [some (.ref 571), some (.int l1), some (.int l2), some (.int l3), some (.int l4), some (.int l5), some (.int l6), some (.int l7), some (.int l8), some (.int l9), some (.int l10), some (.int (v11 + 1))] _ _ _ _
      exact r_eI (r' := x_m_seek_255 l1 l2 l3 l4 l5 l6 l7 l8 l9 l10 K f (v11 + 1) (sA T 590 (v11 : Int32).toNatClampNeg (T.2.2.1 588 (v11 : Int32).toNatClampNeg))) (by rw [x_m_seek_255]; rw [if_neg c259_14]) ((ih (v11 + 1) (sA T 590 (v11 : Int32).toNatClampNeg (T.2.2.1 588 (v11 : Int32).toNatClampNeg)) kk))
def x_m_seek_70 (l1 : Int32) (l2 : Int32) (l3 : Int32) (l4 : Int32) (l5 : Int32) (l6 : Int32) (l7 : Int32) (K : Int32 → Int32 → St → Int32 × St) : Nat → Int32 → Int32 → St → Int32 × St
  | 0, _, _, T => (0, T)
  | f + 1, v8, v9, T => if v9 < 0 then (K v8 v9 T) else (jn (fun (KJ1 : Int32 × St) => if v8 = 0 then (KJ1) else (if l6 = 0 then (KJ1) else (K v8 v9 T))) (if ((sA T 586 (v9 : Int32).toNatClampNeg ((T.2.2.1 586 (v9 : Int32).toNatClampNeg) + 1)).2.2.1 586 (v9 : Int32).toNatClampNeg) = (x_m_choicesOf (sA T 586 (v9 : Int32).toNatClampNeg ((T.2.2.1 586 (v9 : Int32).toNatClampNeg) + 1)) ((sA T 586 (v9 : Int32).toNatClampNeg ((T.2.2.1 586 (v9 : Int32).toNatClampNeg) + 1)).2.2.1 585 (v9 : Int32).toNatClampNeg)) then (x_m_seek_70 l1 l2 l3 l4 l5 l6 l7 K f v8 (v9 + (-1)) (sA T 586 (v9 : Int32).toNatClampNeg ((T.2.2.1 586 (v9 : Int32).toNatClampNeg) + 1))) else (jn (fun (KJ2 : Int32 × St) => if l5 = 0 then (KJ2) else (if 0 < (((sA T 586 (v9 : Int32).toNatClampNeg ((T.2.2.1 586 (v9 : Int32).toNatClampNeg) + 1)).2.2.1 586 (v9 : Int32).toNatClampNeg) - ((sA T 586 (v9 : Int32).toNatClampNeg ((T.2.2.1 586 (v9 : Int32).toNatClampNeg) + 1)).2.2.1 586 (v9 : Int32).toNatClampNeg) / (1 + (x_m_dishOf (sA T 586 (v9 : Int32).toNatClampNeg ((T.2.2.1 586 (v9 : Int32).toNatClampNeg) + 1)) ((sA T 586 (v9 : Int32).toNatClampNeg ((T.2.2.1 586 (v9 : Int32).toNatClampNeg) + 1)).2.2.1 585 (v9 : Int32).toNatClampNeg) 0)) * (1 + (x_m_dishOf (sA T 586 (v9 : Int32).toNatClampNeg ((T.2.2.1 586 (v9 : Int32).toNatClampNeg) + 1)) ((sA T 586 (v9 : Int32).toNatClampNeg ((T.2.2.1 586 (v9 : Int32).toNatClampNeg) + 1)).2.2.1 585 (v9 : Int32).toNatClampNeg) 0))) then (x_m_seek_70 l1 l2 l3 l4 l5 l6 l7 K f v8 v9 (sA T 586 (v9 : Int32).toNatClampNeg ((T.2.2.1 586 (v9 : Int32).toNatClampNeg) + 1))) else (KJ2))) ((fun (T2 : St) => if ((x_m_fits (sA T 586 (v9 : Int32).toNatClampNeg ((T.2.2.1 586 (v9 : Int32).toNatClampNeg) + 1)) v9 l2 l3 l4).1) = 0 then (x_m_seek_70 l1 l2 l3 l4 l5 l6 l7 K f v8 v9 T2) else (jn (fun (KJ3 : Int32 × St) => if v8 = 0 then (KJ3) else (if (T2.1 571 31) ≤ (T2.2.2.1 587 (v9 + 1 : Int32).toNatClampNeg) then (x_m_seek_70 l1 l2 l3 l4 l5 l6 l7 K f v8 v9 T2) else (KJ3))) (if (l7 - 1) ≤ v9 then (x_m_seek_226 l1 l2 l3 l4 l5 l6 l7 1 v9 ((sA T 586 (v9 : Int32).toNatClampNeg ((T.2.2.1 586 (v9 : Int32).toNatClampNeg) + 1)).2.2.1 585 (v9 : Int32).toNatClampNeg) (fun (w2_11 : Int32) (T202 : St) => x_m_seek_255 l1 l2 l3 l4 l5 l6 l7 1 v9 ((sA T 586 (v9 : Int32).toNatClampNeg ((T.2.2.1 586 (v9 : Int32).toNatClampNeg) + 1)).2.2.1 585 (v9 : Int32).toNatClampNeg) (fun (w3_11 : Int32) (T203 : St) => x_m_seek_70 l1 l2 l3 l4 l5 l6 l7 K f 1 v9 T203) 1000 0 T202) 1000 0 (sF T2 571 31 (T2.2.2.1 587 (l7 : Int32).toNatClampNeg))) else (x_m_seek_70 l1 l2 l3 l4 l5 l6 l7 K f v8 (v9 + 1) (sA T2 586 (v9 + 1 : Int32).toNatClampNeg (-1)))))) ((x_m_fits (sA T 586 (v9 : Int32).toNatClampNeg ((T.2.2.1 586 (v9 : Int32).toNatClampNeg) + 1)) v9 l2 l3 l4).2)))))
def ok_m_seek_70 (l1 : Int32) (l2 : Int32) (l3 : Int32) (l4 : Int32) (l5 : Int32) (l6 : Int32) (l7 : Int32) (Kk : Int32 → Int32 → St → Prop) : Nat → Int32 → Int32 → St → Prop
  | 0, _, _, _ => False
  | f + 1, v8, v9, T => ((v9 < 0 → Kk v8 v9 T) ∧ (¬ v9 < 0 → jn (fun (OJ1 : Prop) => ((v8 = 0 → OJ1) ∧ (¬ v8 = 0 → ((l6 = 0 → OJ1) ∧ (¬ l6 = 0 → Kk v8 v9 T))))) ((vp_in v9 5) ∧ (vp_in v9 4) ∧ (ok_m_choicesOf (sA T 586 (v9 : Int32).toNatClampNeg ((T.2.2.1 586 (v9 : Int32).toNatClampNeg) + 1)) ((sA T 586 (v9 : Int32).toNatClampNeg ((T.2.2.1 586 (v9 : Int32).toNatClampNeg) + 1)).2.2.1 585 (v9 : Int32).toNatClampNeg)) ∧ ((((sA T 586 (v9 : Int32).toNatClampNeg ((T.2.2.1 586 (v9 : Int32).toNatClampNeg) + 1)).2.2.1 586 (v9 : Int32).toNatClampNeg) = (x_m_choicesOf (sA T 586 (v9 : Int32).toNatClampNeg ((T.2.2.1 586 (v9 : Int32).toNatClampNeg) + 1)) ((sA T 586 (v9 : Int32).toNatClampNeg ((T.2.2.1 586 (v9 : Int32).toNatClampNeg) + 1)).2.2.1 585 (v9 : Int32).toNatClampNeg)) → ok_m_seek_70 l1 l2 l3 l4 l5 l6 l7 Kk f v8 (v9 + (-1)) (sA T 586 (v9 : Int32).toNatClampNeg ((T.2.2.1 586 (v9 : Int32).toNatClampNeg) + 1))) ∧ (¬ ((sA T 586 (v9 : Int32).toNatClampNeg ((T.2.2.1 586 (v9 : Int32).toNatClampNeg) + 1)).2.2.1 586 (v9 : Int32).toNatClampNeg) = (x_m_choicesOf (sA T 586 (v9 : Int32).toNatClampNeg ((T.2.2.1 586 (v9 : Int32).toNatClampNeg) + 1)) ((sA T 586 (v9 : Int32).toNatClampNeg ((T.2.2.1 586 (v9 : Int32).toNatClampNeg) + 1)).2.2.1 585 (v9 : Int32).toNatClampNeg)) → jn (fun (OJ2 : Prop) => ((l5 = 0 → OJ2) ∧ (¬ l5 = 0 → (ok_m_dishOf (sA T 586 (v9 : Int32).toNatClampNeg ((T.2.2.1 586 (v9 : Int32).toNatClampNeg) + 1)) ((sA T 586 (v9 : Int32).toNatClampNeg ((T.2.2.1 586 (v9 : Int32).toNatClampNeg) + 1)).2.2.1 585 (v9 : Int32).toNatClampNeg) 0) ∧ (¬ (1 + (x_m_dishOf (sA T 586 (v9 : Int32).toNatClampNeg ((T.2.2.1 586 (v9 : Int32).toNatClampNeg) + 1)) ((sA T 586 (v9 : Int32).toNatClampNeg ((T.2.2.1 586 (v9 : Int32).toNatClampNeg) + 1)).2.2.1 585 (v9 : Int32).toNatClampNeg) 0)) = (0 : Int32)) ∧ ((0 < (((sA T 586 (v9 : Int32).toNatClampNeg ((T.2.2.1 586 (v9 : Int32).toNatClampNeg) + 1)).2.2.1 586 (v9 : Int32).toNatClampNeg) - ((sA T 586 (v9 : Int32).toNatClampNeg ((T.2.2.1 586 (v9 : Int32).toNatClampNeg) + 1)).2.2.1 586 (v9 : Int32).toNatClampNeg) / (1 + (x_m_dishOf (sA T 586 (v9 : Int32).toNatClampNeg ((T.2.2.1 586 (v9 : Int32).toNatClampNeg) + 1)) ((sA T 586 (v9 : Int32).toNatClampNeg ((T.2.2.1 586 (v9 : Int32).toNatClampNeg) + 1)).2.2.1 585 (v9 : Int32).toNatClampNeg) 0)) * (1 + (x_m_dishOf (sA T 586 (v9 : Int32).toNatClampNeg ((T.2.2.1 586 (v9 : Int32).toNatClampNeg) + 1)) ((sA T 586 (v9 : Int32).toNatClampNeg ((T.2.2.1 586 (v9 : Int32).toNatClampNeg) + 1)).2.2.1 585 (v9 : Int32).toNatClampNeg) 0))) → ok_m_seek_70 l1 l2 l3 l4 l5 l6 l7 Kk f v8 v9 (sA T 586 (v9 : Int32).toNatClampNeg ((T.2.2.1 586 (v9 : Int32).toNatClampNeg) + 1))) ∧ (¬ 0 < (((sA T 586 (v9 : Int32).toNatClampNeg ((T.2.2.1 586 (v9 : Int32).toNatClampNeg) + 1)).2.2.1 586 (v9 : Int32).toNatClampNeg) - ((sA T 586 (v9 : Int32).toNatClampNeg ((T.2.2.1 586 (v9 : Int32).toNatClampNeg) + 1)).2.2.1 586 (v9 : Int32).toNatClampNeg) / (1 + (x_m_dishOf (sA T 586 (v9 : Int32).toNatClampNeg ((T.2.2.1 586 (v9 : Int32).toNatClampNeg) + 1)) ((sA T 586 (v9 : Int32).toNatClampNeg ((T.2.2.1 586 (v9 : Int32).toNatClampNeg) + 1)).2.2.1 585 (v9 : Int32).toNatClampNeg) 0)) * (1 + (x_m_dishOf (sA T 586 (v9 : Int32).toNatClampNeg ((T.2.2.1 586 (v9 : Int32).toNatClampNeg) + 1)) ((sA T 586 (v9 : Int32).toNatClampNeg ((T.2.2.1 586 (v9 : Int32).toNatClampNeg) + 1)).2.2.1 585 (v9 : Int32).toNatClampNeg) 0))) → OJ2))))) ((ok_m_fits (sA T 586 (v9 : Int32).toNatClampNeg ((T.2.2.1 586 (v9 : Int32).toNatClampNeg) + 1)) v9 l2 l3 l4) ∧ (fun (T2 : St) => ((((x_m_fits (sA T 586 (v9 : Int32).toNatClampNeg ((T.2.2.1 586 (v9 : Int32).toNatClampNeg) + 1)) v9 l2 l3 l4).1) = 0 → ok_m_seek_70 l1 l2 l3 l4 l5 l6 l7 Kk f v8 v9 T2) ∧ (¬ ((x_m_fits (sA T 586 (v9 : Int32).toNatClampNeg ((T.2.2.1 586 (v9 : Int32).toNatClampNeg) + 1)) v9 l2 l3 l4).1) = 0 → jn (fun (OJ3 : Prop) => ((v8 = 0 → OJ3) ∧ (¬ v8 = 0 → (vp_in (v9 + 1) 5) ∧ (((T2.1 571 31) ≤ (T2.2.2.1 587 (v9 + 1 : Int32).toNatClampNeg) → ok_m_seek_70 l1 l2 l3 l4 l5 l6 l7 Kk f v8 v9 T2) ∧ (¬ (T2.1 571 31) ≤ (T2.2.2.1 587 (v9 + 1 : Int32).toNatClampNeg) → OJ3))))) ((((l7 - 1) ≤ v9 → (vp_in l7 5) ∧ ok_m_seek_226 l1 l2 l3 l4 l5 l6 l7 1 v9 ((sA T 586 (v9 : Int32).toNatClampNeg ((T.2.2.1 586 (v9 : Int32).toNatClampNeg) + 1)).2.2.1 585 (v9 : Int32).toNatClampNeg) (fun (w2_11 : Int32) (T202 : St) => ok_m_seek_255 l1 l2 l3 l4 l5 l6 l7 1 v9 ((sA T 586 (v9 : Int32).toNatClampNeg ((T.2.2.1 586 (v9 : Int32).toNatClampNeg) + 1)).2.2.1 585 (v9 : Int32).toNatClampNeg) (fun (w3_11 : Int32) (T203 : St) => ok_m_seek_70 l1 l2 l3 l4 l5 l6 l7 Kk f 1 v9 T203) 1000 0 T202) 1000 0 (sF T2 571 31 (T2.2.2.1 587 (l7 : Int32).toNatClampNeg))) ∧ (¬ (l7 - 1) ≤ v9 → (vp_in (v9 + 1) 5) ∧ ok_m_seek_70 l1 l2 l3 l4 l5 l6 l7 Kk f v8 (v9 + 1) (sA T2 586 (v9 + 1 : Int32).toNatClampNeg (-1)))))))) ((x_m_fits (sA T 586 (v9 : Int32).toNatClampNeg ((T.2.2.1 586 (v9 : Int32).toNatClampNeg) + 1)) v9 l2 l3 l4).2)))))))
theorem c_m_seek_70 {X : Nat × (Nat → Int32)} (l1 : Int32) (l2 : Int32) (l3 : Int32) (l4 : Int32) (l5 : Int32) (l6 : Int32) (l7 : Int32) {K : Int32 → Int32 → St → Int32 × St} {Kk : Int32 → Int32 → St → Prop} (hk : ∀ (v8 : Int32) (v9 : Int32) (T : St), Kk v8 v9 T → tR X 4 mX12_seek 285 [some (.ref 571), some (.int l1), some (.int l2), some (.int l3), some (.int l4), some (.int l5), some (.int l6), some (.int l7), some (.int v8), some (.int v9), none, none] [] T (some (.int (K v8 v9 T).1)) ((K v8 v9 T).2)) : ∀ (f : Nat) (v8 : Int32) (v9 : Int32) (T : St), ok_m_seek_70 l1 l2 l3 l4 l5 l6 l7 Kk f v8 v9 T → tR X 4 mX12_seek 70 [some (.ref 571), some (.int l1), some (.int l2), some (.int l3), some (.int l4), some (.int l5), some (.int l6), some (.int l7), some (.int v8), some (.int v9), none, none] [] T (some (.int (x_m_seek_70 l1 l2 l3 l4 l5 l6 l7 K f v8 v9 T).1)) ((x_m_seek_70 l1 l2 l3 l4 l5 l6 l7 K f v8 v9 T).2) := by
  intro f
  induction f with
  | zero => intro v8 v9 T kk; exact kk.elim
  | succ f ih =>
    intro v8 v9 T kk
    rw [ok_m_seek_70] at kk
    refine r_p dX12_seek_70 rfl rfl ?_
    refine r_ilt dX12_seek_72 rfl (fun c72_3 => ?_) (fun c72_3 => ?_)
    · have kk := kk.1 c72_3
      show tR _ _ _ _ [some (.ref 571), some (.int l1), some (.int l2), some (.int l3), some (.int l4), some (.int l5), some (.int l6), some (.int l7), some (.int v8), some (.int v9), none, none] _ _ _ _
      exact r_eI (r' := K v8 v9 T) (by rw [x_m_seek_70]; rw [if_pos c72_3]) ((hk v8 v9 T kk))
    · have kk := kk.2 c72_3
      refine r_p dX12_seek_75 rfl rfl ?_
      obtain ⟨KJ1, hKJ1⟩ : ∃ q : Int32 × St, q = (if ((sA T 586 (v9 : Int32).toNatClampNeg ((T.2.2.1 586 (v9 : Int32).toNatClampNeg) + 1)).2.2.1 586 (v9 : Int32).toNatClampNeg) = (x_m_choicesOf (sA T 586 (v9 : Int32).toNatClampNeg ((T.2.2.1 586 (v9 : Int32).toNatClampNeg) + 1)) ((sA T 586 (v9 : Int32).toNatClampNeg ((T.2.2.1 586 (v9 : Int32).toNatClampNeg) + 1)).2.2.1 585 (v9 : Int32).toNatClampNeg)) then (x_m_seek_70 l1 l2 l3 l4 l5 l6 l7 K f v8 (v9 + (-1)) (sA T 586 (v9 : Int32).toNatClampNeg ((T.2.2.1 586 (v9 : Int32).toNatClampNeg) + 1))) else (jn (fun (KJ2 : Int32 × St) => if l5 = 0 then (KJ2) else (if 0 < (((sA T 586 (v9 : Int32).toNatClampNeg ((T.2.2.1 586 (v9 : Int32).toNatClampNeg) + 1)).2.2.1 586 (v9 : Int32).toNatClampNeg) - ((sA T 586 (v9 : Int32).toNatClampNeg ((T.2.2.1 586 (v9 : Int32).toNatClampNeg) + 1)).2.2.1 586 (v9 : Int32).toNatClampNeg) / (1 + (x_m_dishOf (sA T 586 (v9 : Int32).toNatClampNeg ((T.2.2.1 586 (v9 : Int32).toNatClampNeg) + 1)) ((sA T 586 (v9 : Int32).toNatClampNeg ((T.2.2.1 586 (v9 : Int32).toNatClampNeg) + 1)).2.2.1 585 (v9 : Int32).toNatClampNeg) 0)) * (1 + (x_m_dishOf (sA T 586 (v9 : Int32).toNatClampNeg ((T.2.2.1 586 (v9 : Int32).toNatClampNeg) + 1)) ((sA T 586 (v9 : Int32).toNatClampNeg ((T.2.2.1 586 (v9 : Int32).toNatClampNeg) + 1)).2.2.1 585 (v9 : Int32).toNatClampNeg) 0))) then (x_m_seek_70 l1 l2 l3 l4 l5 l6 l7 K f v8 v9 (sA T 586 (v9 : Int32).toNatClampNeg ((T.2.2.1 586 (v9 : Int32).toNatClampNeg) + 1))) else (KJ2))) ((fun (T2 : St) => if ((x_m_fits (sA T 586 (v9 : Int32).toNatClampNeg ((T.2.2.1 586 (v9 : Int32).toNatClampNeg) + 1)) v9 l2 l3 l4).1) = 0 then (x_m_seek_70 l1 l2 l3 l4 l5 l6 l7 K f v8 v9 T2) else (jn (fun (KJ3 : Int32 × St) => if v8 = 0 then (KJ3) else (if (T2.1 571 31) ≤ (T2.2.2.1 587 (v9 + 1 : Int32).toNatClampNeg) then (x_m_seek_70 l1 l2 l3 l4 l5 l6 l7 K f v8 v9 T2) else (KJ3))) (if (l7 - 1) ≤ v9 then (x_m_seek_226 l1 l2 l3 l4 l5 l6 l7 1 v9 ((sA T 586 (v9 : Int32).toNatClampNeg ((T.2.2.1 586 (v9 : Int32).toNatClampNeg) + 1)).2.2.1 585 (v9 : Int32).toNatClampNeg) (fun (w2_11 : Int32) (T202 : St) => x_m_seek_255 l1 l2 l3 l4 l5 l6 l7 1 v9 ((sA T 586 (v9 : Int32).toNatClampNeg ((T.2.2.1 586 (v9 : Int32).toNatClampNeg) + 1)).2.2.1 585 (v9 : Int32).toNatClampNeg) (fun (w3_11 : Int32) (T203 : St) => x_m_seek_70 l1 l2 l3 l4 l5 l6 l7 K f 1 v9 T203) 1000 0 T202) 1000 0 (sF T2 571 31 (T2.2.2.1 587 (l7 : Int32).toNatClampNeg))) else (x_m_seek_70 l1 l2 l3 l4 l5 l6 l7 K f v8 (v9 + 1) (sA T2 586 (v9 + 1 : Int32).toNatClampNeg (-1)))))) ((x_m_fits (sA T 586 (v9 : Int32).toNatClampNeg ((T.2.2.1 586 (v9 : Int32).toNatClampNeg) + 1)) v9 l2 l3 l4).2)))) := ⟨_, rfl⟩
      obtain ⟨OJ1, hOJ1⟩ : ∃ q : Prop, q = ((vp_in v9 5) ∧ (vp_in v9 4) ∧ (ok_m_choicesOf (sA T 586 (v9 : Int32).toNatClampNeg ((T.2.2.1 586 (v9 : Int32).toNatClampNeg) + 1)) ((sA T 586 (v9 : Int32).toNatClampNeg ((T.2.2.1 586 (v9 : Int32).toNatClampNeg) + 1)).2.2.1 585 (v9 : Int32).toNatClampNeg)) ∧ ((((sA T 586 (v9 : Int32).toNatClampNeg ((T.2.2.1 586 (v9 : Int32).toNatClampNeg) + 1)).2.2.1 586 (v9 : Int32).toNatClampNeg) = (x_m_choicesOf (sA T 586 (v9 : Int32).toNatClampNeg ((T.2.2.1 586 (v9 : Int32).toNatClampNeg) + 1)) ((sA T 586 (v9 : Int32).toNatClampNeg ((T.2.2.1 586 (v9 : Int32).toNatClampNeg) + 1)).2.2.1 585 (v9 : Int32).toNatClampNeg)) → ok_m_seek_70 l1 l2 l3 l4 l5 l6 l7 Kk f v8 (v9 + (-1)) (sA T 586 (v9 : Int32).toNatClampNeg ((T.2.2.1 586 (v9 : Int32).toNatClampNeg) + 1))) ∧ (¬ ((sA T 586 (v9 : Int32).toNatClampNeg ((T.2.2.1 586 (v9 : Int32).toNatClampNeg) + 1)).2.2.1 586 (v9 : Int32).toNatClampNeg) = (x_m_choicesOf (sA T 586 (v9 : Int32).toNatClampNeg ((T.2.2.1 586 (v9 : Int32).toNatClampNeg) + 1)) ((sA T 586 (v9 : Int32).toNatClampNeg ((T.2.2.1 586 (v9 : Int32).toNatClampNeg) + 1)).2.2.1 585 (v9 : Int32).toNatClampNeg)) → jn (fun (OJ2 : Prop) => ((l5 = 0 → OJ2) ∧ (¬ l5 = 0 → (ok_m_dishOf (sA T 586 (v9 : Int32).toNatClampNeg ((T.2.2.1 586 (v9 : Int32).toNatClampNeg) + 1)) ((sA T 586 (v9 : Int32).toNatClampNeg ((T.2.2.1 586 (v9 : Int32).toNatClampNeg) + 1)).2.2.1 585 (v9 : Int32).toNatClampNeg) 0) ∧ (¬ (1 + (x_m_dishOf (sA T 586 (v9 : Int32).toNatClampNeg ((T.2.2.1 586 (v9 : Int32).toNatClampNeg) + 1)) ((sA T 586 (v9 : Int32).toNatClampNeg ((T.2.2.1 586 (v9 : Int32).toNatClampNeg) + 1)).2.2.1 585 (v9 : Int32).toNatClampNeg) 0)) = (0 : Int32)) ∧ ((0 < (((sA T 586 (v9 : Int32).toNatClampNeg ((T.2.2.1 586 (v9 : Int32).toNatClampNeg) + 1)).2.2.1 586 (v9 : Int32).toNatClampNeg) - ((sA T 586 (v9 : Int32).toNatClampNeg ((T.2.2.1 586 (v9 : Int32).toNatClampNeg) + 1)).2.2.1 586 (v9 : Int32).toNatClampNeg) / (1 + (x_m_dishOf (sA T 586 (v9 : Int32).toNatClampNeg ((T.2.2.1 586 (v9 : Int32).toNatClampNeg) + 1)) ((sA T 586 (v9 : Int32).toNatClampNeg ((T.2.2.1 586 (v9 : Int32).toNatClampNeg) + 1)).2.2.1 585 (v9 : Int32).toNatClampNeg) 0)) * (1 + (x_m_dishOf (sA T 586 (v9 : Int32).toNatClampNeg ((T.2.2.1 586 (v9 : Int32).toNatClampNeg) + 1)) ((sA T 586 (v9 : Int32).toNatClampNeg ((T.2.2.1 586 (v9 : Int32).toNatClampNeg) + 1)).2.2.1 585 (v9 : Int32).toNatClampNeg) 0))) → ok_m_seek_70 l1 l2 l3 l4 l5 l6 l7 Kk f v8 v9 (sA T 586 (v9 : Int32).toNatClampNeg ((T.2.2.1 586 (v9 : Int32).toNatClampNeg) + 1))) ∧ (¬ 0 < (((sA T 586 (v9 : Int32).toNatClampNeg ((T.2.2.1 586 (v9 : Int32).toNatClampNeg) + 1)).2.2.1 586 (v9 : Int32).toNatClampNeg) - ((sA T 586 (v9 : Int32).toNatClampNeg ((T.2.2.1 586 (v9 : Int32).toNatClampNeg) + 1)).2.2.1 586 (v9 : Int32).toNatClampNeg) / (1 + (x_m_dishOf (sA T 586 (v9 : Int32).toNatClampNeg ((T.2.2.1 586 (v9 : Int32).toNatClampNeg) + 1)) ((sA T 586 (v9 : Int32).toNatClampNeg ((T.2.2.1 586 (v9 : Int32).toNatClampNeg) + 1)).2.2.1 585 (v9 : Int32).toNatClampNeg) 0)) * (1 + (x_m_dishOf (sA T 586 (v9 : Int32).toNatClampNeg ((T.2.2.1 586 (v9 : Int32).toNatClampNeg) + 1)) ((sA T 586 (v9 : Int32).toNatClampNeg ((T.2.2.1 586 (v9 : Int32).toNatClampNeg) + 1)).2.2.1 585 (v9 : Int32).toNatClampNeg) 0))) → OJ2))))) ((ok_m_fits (sA T 586 (v9 : Int32).toNatClampNeg ((T.2.2.1 586 (v9 : Int32).toNatClampNeg) + 1)) v9 l2 l3 l4) ∧ (fun (T2 : St) => ((((x_m_fits (sA T 586 (v9 : Int32).toNatClampNeg ((T.2.2.1 586 (v9 : Int32).toNatClampNeg) + 1)) v9 l2 l3 l4).1) = 0 → ok_m_seek_70 l1 l2 l3 l4 l5 l6 l7 Kk f v8 v9 T2) ∧ (¬ ((x_m_fits (sA T 586 (v9 : Int32).toNatClampNeg ((T.2.2.1 586 (v9 : Int32).toNatClampNeg) + 1)) v9 l2 l3 l4).1) = 0 → jn (fun (OJ3 : Prop) => ((v8 = 0 → OJ3) ∧ (¬ v8 = 0 → (vp_in (v9 + 1) 5) ∧ (((T2.1 571 31) ≤ (T2.2.2.1 587 (v9 + 1 : Int32).toNatClampNeg) → ok_m_seek_70 l1 l2 l3 l4 l5 l6 l7 Kk f v8 v9 T2) ∧ (¬ (T2.1 571 31) ≤ (T2.2.2.1 587 (v9 + 1 : Int32).toNatClampNeg) → OJ3))))) ((((l7 - 1) ≤ v9 → (vp_in l7 5) ∧ ok_m_seek_226 l1 l2 l3 l4 l5 l6 l7 1 v9 ((sA T 586 (v9 : Int32).toNatClampNeg ((T.2.2.1 586 (v9 : Int32).toNatClampNeg) + 1)).2.2.1 585 (v9 : Int32).toNatClampNeg) (fun (w2_11 : Int32) (T202 : St) => ok_m_seek_255 l1 l2 l3 l4 l5 l6 l7 1 v9 ((sA T 586 (v9 : Int32).toNatClampNeg ((T.2.2.1 586 (v9 : Int32).toNatClampNeg) + 1)).2.2.1 585 (v9 : Int32).toNatClampNeg) (fun (w3_11 : Int32) (T203 : St) => ok_m_seek_70 l1 l2 l3 l4 l5 l6 l7 Kk f 1 v9 T203) 1000 0 T202) 1000 0 (sF T2 571 31 (T2.2.2.1 587 (l7 : Int32).toNatClampNeg))) ∧ (¬ (l7 - 1) ≤ v9 → (vp_in (v9 + 1) 5) ∧ ok_m_seek_70 l1 l2 l3 l4 l5 l6 l7 Kk f v8 (v9 + 1) (sA T2 586 (v9 + 1 : Int32).toNatClampNeg (-1)))))))) ((x_m_fits (sA T 586 (v9 : Int32).toNatClampNeg ((T.2.2.1 586 (v9 : Int32).toNatClampNeg) + 1)) v9 l2 l3 l4).2))))) := ⟨_, rfl⟩
      rw [← hOJ1] at kk
      simp only [jn] at kk
      have hJ1 : OJ1 → tR X 4 mX12_seek 85 [some (.ref 571), some (.int l1), some (.int l2), some (.int l3), some (.int l4), some (.int l5), some (.int l6), some (.int l7), some (.int v8), some (.int v9), none, none] [] T (some (.int KJ1.1)) KJ1.2 := by
        intro  kk
        rw [hOJ1] at kk
        try dsimp only at kk
        rw [hKJ1]
        refine r_p dX12_seek_85 rfl rfl ?_
        refine r_get dX12_seek_86 fkX12_52 rfl rfl ?_
        refine r_p dX12_seek_89 rfl rfl ?_
        refine r_p dX12_seek_91 rfl rfl ?_
        obtain ⟨q5, kk⟩ := kk
        refine r_ia dX12_seek_92 rfl q5 ?_
        refine r_ci (x := 1) dX12_seek_93 rfl ?_
        refine r_p dX12_seek_94 rfl rfl ?_
        refine r_ias dX12_seek_95 rfl q5 ?_
        refine r_p dX12_seek_96 rfl rfl ?_
        refine r_get dX12_seek_97 fkX12_49 rfl rfl ?_
        refine r_p dX12_seek_100 rfl rfl ?_
        obtain ⟨q6, kk⟩ := kk
        refine r_ia dX12_seek_102 rfl q6 ?_
        refine r_p dX12_seek_103 rfl rfl ?_
        refine r_p dX12_seek_105 rfl rfl ?_
        refine r_get dX12_seek_106 fkX12_52 rfl rfl ?_
        refine r_p dX12_seek_109 rfl rfl ?_
        refine r_ia dX12_seek_111 rfl q5 ?_
        refine r_p dX12_seek_112 rfl rfl ?_
        refine r_p dX12_seek_113 rfl rfl ?_
        obtain ⟨q7, kk⟩ := kk
        refine r_cv (d1 := 3) dX12_seek_115 cvX12_243 rfl rfl rfl rfl (Nat.le_of_ble_eq_true rfl) (Nat.le_of_ble_eq_true rfl) (Nat.le_of_ble_eq_true rfl) (c_m_choicesOf ((sA T 586 (v9 : Int32).toNatClampNeg ((T.2.2.1 586 (v9 : Int32).toNatClampNeg) + 1)).2.2.1 585 (v9 : Int32).toNatClampNeg) q7) ?_
        refine r_cne dX12_seek_118 rfl (fun c118_6 => ?_) (fun c118_6 => ?_)
        · have kk := kk.2 c118_6
          refine r_p dX12_seek_127 rfl rfl ?_
          obtain ⟨KJ2, hKJ2⟩ : ∃ q : Int32 × St, q = ((fun (T2 : St) => if ((x_m_fits (sA T 586 (v9 : Int32).toNatClampNeg ((T.2.2.1 586 (v9 : Int32).toNatClampNeg) + 1)) v9 l2 l3 l4).1) = 0 then (x_m_seek_70 l1 l2 l3 l4 l5 l6 l7 K f v8 v9 T2) else (jn (fun (KJ3 : Int32 × St) => if v8 = 0 then (KJ3) else (if (T2.1 571 31) ≤ (T2.2.2.1 587 (v9 + 1 : Int32).toNatClampNeg) then (x_m_seek_70 l1 l2 l3 l4 l5 l6 l7 K f v8 v9 T2) else (KJ3))) (if (l7 - 1) ≤ v9 then (x_m_seek_226 l1 l2 l3 l4 l5 l6 l7 1 v9 ((sA T 586 (v9 : Int32).toNatClampNeg ((T.2.2.1 586 (v9 : Int32).toNatClampNeg) + 1)).2.2.1 585 (v9 : Int32).toNatClampNeg) (fun (w2_11 : Int32) (T202 : St) => x_m_seek_255 l1 l2 l3 l4 l5 l6 l7 1 v9 ((sA T 586 (v9 : Int32).toNatClampNeg ((T.2.2.1 586 (v9 : Int32).toNatClampNeg) + 1)).2.2.1 585 (v9 : Int32).toNatClampNeg) (fun (w3_11 : Int32) (T203 : St) => x_m_seek_70 l1 l2 l3 l4 l5 l6 l7 K f 1 v9 T203) 1000 0 T202) 1000 0 (sF T2 571 31 (T2.2.2.1 587 (l7 : Int32).toNatClampNeg))) else (x_m_seek_70 l1 l2 l3 l4 l5 l6 l7 K f v8 (v9 + 1) (sA T2 586 (v9 + 1 : Int32).toNatClampNeg (-1)))))) ((x_m_fits (sA T 586 (v9 : Int32).toNatClampNeg ((T.2.2.1 586 (v9 : Int32).toNatClampNeg) + 1)) v9 l2 l3 l4).2)) := ⟨_, rfl⟩
          obtain ⟨OJ2, hOJ2⟩ : ∃ q : Prop, q = ((ok_m_fits (sA T 586 (v9 : Int32).toNatClampNeg ((T.2.2.1 586 (v9 : Int32).toNatClampNeg) + 1)) v9 l2 l3 l4) ∧ (fun (T2 : St) => ((((x_m_fits (sA T 586 (v9 : Int32).toNatClampNeg ((T.2.2.1 586 (v9 : Int32).toNatClampNeg) + 1)) v9 l2 l3 l4).1) = 0 → ok_m_seek_70 l1 l2 l3 l4 l5 l6 l7 Kk f v8 v9 T2) ∧ (¬ ((x_m_fits (sA T 586 (v9 : Int32).toNatClampNeg ((T.2.2.1 586 (v9 : Int32).toNatClampNeg) + 1)) v9 l2 l3 l4).1) = 0 → jn (fun (OJ3 : Prop) => ((v8 = 0 → OJ3) ∧ (¬ v8 = 0 → (vp_in (v9 + 1) 5) ∧ (((T2.1 571 31) ≤ (T2.2.2.1 587 (v9 + 1 : Int32).toNatClampNeg) → ok_m_seek_70 l1 l2 l3 l4 l5 l6 l7 Kk f v8 v9 T2) ∧ (¬ (T2.1 571 31) ≤ (T2.2.2.1 587 (v9 + 1 : Int32).toNatClampNeg) → OJ3))))) ((((l7 - 1) ≤ v9 → (vp_in l7 5) ∧ ok_m_seek_226 l1 l2 l3 l4 l5 l6 l7 1 v9 ((sA T 586 (v9 : Int32).toNatClampNeg ((T.2.2.1 586 (v9 : Int32).toNatClampNeg) + 1)).2.2.1 585 (v9 : Int32).toNatClampNeg) (fun (w2_11 : Int32) (T202 : St) => ok_m_seek_255 l1 l2 l3 l4 l5 l6 l7 1 v9 ((sA T 586 (v9 : Int32).toNatClampNeg ((T.2.2.1 586 (v9 : Int32).toNatClampNeg) + 1)).2.2.1 585 (v9 : Int32).toNatClampNeg) (fun (w3_11 : Int32) (T203 : St) => ok_m_seek_70 l1 l2 l3 l4 l5 l6 l7 Kk f 1 v9 T203) 1000 0 T202) 1000 0 (sF T2 571 31 (T2.2.2.1 587 (l7 : Int32).toNatClampNeg))) ∧ (¬ (l7 - 1) ≤ v9 → (vp_in (v9 + 1) 5) ∧ ok_m_seek_70 l1 l2 l3 l4 l5 l6 l7 Kk f v8 (v9 + 1) (sA T2 586 (v9 + 1 : Int32).toNatClampNeg (-1)))))))) ((x_m_fits (sA T 586 (v9 : Int32).toNatClampNeg ((T.2.2.1 586 (v9 : Int32).toNatClampNeg) + 1)) v9 l2 l3 l4).2)) := ⟨_, rfl⟩
          rw [← hOJ2] at kk
          simp only [jn] at kk
          have hJ2 : OJ2 → tR X 4 mX12_seek 152 [some (.ref 571), some (.int l1), some (.int l2), some (.int l3), some (.int l4), some (.int l5), some (.int l6), some (.int l7), some (.int v8), some (.int v9), some (.int ((sA T 586 (v9 : Int32).toNatClampNeg ((T.2.2.1 586 (v9 : Int32).toNatClampNeg) + 1)).2.2.1 585 (v9 : Int32).toNatClampNeg)), none] [] (sA T 586 (v9 : Int32).toNatClampNeg ((T.2.2.1 586 (v9 : Int32).toNatClampNeg) + 1)) (some (.int KJ2.1)) KJ2.2 := by
            intro  kk
            rw [hOJ2] at kk
            try dsimp only at kk
            rw [hKJ2]
            refine r_p dX12_seek_152 rfl rfl ?_
            refine r_p dX12_seek_153 rfl rfl ?_
            refine r_p dX12_seek_155 rfl rfl ?_
            refine r_p dX12_seek_156 rfl rfl ?_
            refine r_p dX12_seek_157 rfl rfl ?_
            obtain ⟨q10, kk⟩ := kk
            refine r_cv (d1 := 4) dX12_seek_159 cvX12_292 rfl rfl rfl rfl (Nat.le_of_ble_eq_true rfl) (Nat.le_of_ble_eq_true rfl) (Nat.le_of_ble_eq_true rfl) (c_m_fits v9 l2 l3 l4 q10) ?_
            refine r_eI (r' := (fun (T2 : St) => if ((x_m_fits (sA T 586 (v9 : Int32).toNatClampNeg ((T.2.2.1 586 (v9 : Int32).toNatClampNeg) + 1)) v9 l2 l3 l4).1) = 0 then (x_m_seek_70 l1 l2 l3 l4 l5 l6 l7 K f v8 v9 T2) else (jn (fun (KJ3 : Int32 × St) => if v8 = 0 then (KJ3) else (if (T2.1 571 31) ≤ (T2.2.2.1 587 (v9 + 1 : Int32).toNatClampNeg) then (x_m_seek_70 l1 l2 l3 l4 l5 l6 l7 K f v8 v9 T2) else (KJ3))) (if (l7 - 1) ≤ v9 then (x_m_seek_226 l1 l2 l3 l4 l5 l6 l7 1 v9 ((sA T 586 (v9 : Int32).toNatClampNeg ((T.2.2.1 586 (v9 : Int32).toNatClampNeg) + 1)).2.2.1 585 (v9 : Int32).toNatClampNeg) (fun (w2_11 : Int32) (T202 : St) => x_m_seek_255 l1 l2 l3 l4 l5 l6 l7 1 v9 ((sA T 586 (v9 : Int32).toNatClampNeg ((T.2.2.1 586 (v9 : Int32).toNatClampNeg) + 1)).2.2.1 585 (v9 : Int32).toNatClampNeg) (fun (w3_11 : Int32) (T203 : St) => x_m_seek_70 l1 l2 l3 l4 l5 l6 l7 K f 1 v9 T203) 1000 0 T202) 1000 0 (sF T2 571 31 (T2.2.2.1 587 (l7 : Int32).toNatClampNeg))) else (x_m_seek_70 l1 l2 l3 l4 l5 l6 l7 K f v8 (v9 + 1) (sA T2 586 (v9 + 1 : Int32).toNatClampNeg (-1)))))) ((x_m_fits (sA T 586 (v9 : Int32).toNatClampNeg ((T.2.2.1 586 (v9 : Int32).toNatClampNeg) + 1)) v9 l2 l3 l4).2)) rfl ?_
            generalize (x_m_fits (sA T 586 (v9 : Int32).toNatClampNeg ((T.2.2.1 586 (v9 : Int32).toNatClampNeg) + 1)) v9 l2 l3 l4).2 = T2 at kk ⊢
            try dsimp only at kk
            refine r_ieq dX12_seek_162 rfl (fun c162_9 => ?_) (fun c162_9 => ?_)
            · have kk := kk.1 c162_9
              refine r_go dX12_seek_282 rfl ?_
              show tR _ _ _ _ [some (.ref 571), some (.int l1), some (.int l2), some (.int l3), some (.int l4), some (.int l5), some (.int l6), some (.int l7), some (.int v8), some (.int v9), some (.int ((sA T 586 (v9 : Int32).toNatClampNeg ((T.2.2.1 586 (v9 : Int32).toNatClampNeg) + 1)).2.2.1 585 (v9 : Int32).toNatClampNeg)), none] _ _ _ _
              exact r_eI (r' := x_m_seek_70 l1 l2 l3 l4 l5 l6 l7 K f v8 v9 T2) (by first | rw [if_pos c162_9] | (dsimp only; rw [if_pos c162_9])) (r_le (le_s (le_s (le_s (le_s (le_s (le_s (le_s (le_s (le_s (le_s (le_n (le_s (le_0))))))))))))) (ih v8 v9 T2 kk))
            · have kk := kk.2 c162_9
              refine r_p dX12_seek_165 rfl rfl ?_
              obtain ⟨KJ3, hKJ3⟩ : ∃ q : Int32 × St, q = (if (l7 - 1) ≤ v9 then (x_m_seek_226 l1 l2 l3 l4 l5 l6 l7 1 v9 ((sA T 586 (v9 : Int32).toNatClampNeg ((T.2.2.1 586 (v9 : Int32).toNatClampNeg) + 1)).2.2.1 585 (v9 : Int32).toNatClampNeg) (fun (w2_11 : Int32) (T202 : St) => x_m_seek_255 l1 l2 l3 l4 l5 l6 l7 1 v9 ((sA T 586 (v9 : Int32).toNatClampNeg ((T.2.2.1 586 (v9 : Int32).toNatClampNeg) + 1)).2.2.1 585 (v9 : Int32).toNatClampNeg) (fun (w3_11 : Int32) (T203 : St) => x_m_seek_70 l1 l2 l3 l4 l5 l6 l7 K f 1 v9 T203) 1000 0 T202) 1000 0 (sF T2 571 31 (T2.2.2.1 587 (l7 : Int32).toNatClampNeg))) else (x_m_seek_70 l1 l2 l3 l4 l5 l6 l7 K f v8 (v9 + 1) (sA T2 586 (v9 + 1 : Int32).toNatClampNeg (-1)))) := ⟨_, rfl⟩
              obtain ⟨OJ3, hOJ3⟩ : ∃ q : Prop, q = ((((l7 - 1) ≤ v9 → (vp_in l7 5) ∧ ok_m_seek_226 l1 l2 l3 l4 l5 l6 l7 1 v9 ((sA T 586 (v9 : Int32).toNatClampNeg ((T.2.2.1 586 (v9 : Int32).toNatClampNeg) + 1)).2.2.1 585 (v9 : Int32).toNatClampNeg) (fun (w2_11 : Int32) (T202 : St) => ok_m_seek_255 l1 l2 l3 l4 l5 l6 l7 1 v9 ((sA T 586 (v9 : Int32).toNatClampNeg ((T.2.2.1 586 (v9 : Int32).toNatClampNeg) + 1)).2.2.1 585 (v9 : Int32).toNatClampNeg) (fun (w3_11 : Int32) (T203 : St) => ok_m_seek_70 l1 l2 l3 l4 l5 l6 l7 Kk f 1 v9 T203) 1000 0 T202) 1000 0 (sF T2 571 31 (T2.2.2.1 587 (l7 : Int32).toNatClampNeg))) ∧ (¬ (l7 - 1) ≤ v9 → (vp_in (v9 + 1) 5) ∧ ok_m_seek_70 l1 l2 l3 l4 l5 l6 l7 Kk f v8 (v9 + 1) (sA T2 586 (v9 + 1 : Int32).toNatClampNeg (-1))))) := ⟨_, rfl⟩
              rw [← hOJ3] at kk
              simp only [jn] at kk
              have hJ3 : OJ3 → tR X 4 mX12_seek 186 [some (.ref 571), some (.int l1), some (.int l2), some (.int l3), some (.int l4), some (.int l5), some (.int l6), some (.int l7), some (.int v8), some (.int v9), some (.int ((sA T 586 (v9 : Int32).toNatClampNeg ((T.2.2.1 586 (v9 : Int32).toNatClampNeg) + 1)).2.2.1 585 (v9 : Int32).toNatClampNeg)), none] [] T2 (some (.int KJ3.1)) KJ3.2 := by
                intro  kk
                rw [hOJ3] at kk
                try dsimp only at kk
                rw [hKJ3]
                refine r_p dX12_seek_186 rfl rfl ?_
                refine r_p dX12_seek_188 rfl rfl ?_
                refine r_ci (x := 1) dX12_seek_190 rfl ?_
                refine r_p dX12_seek_191 rfl rfl ?_
                refine r_cge dX12_seek_192 rfl (fun c192_12 => ?_) (fun c192_12 => ?_)
                · have kk := kk.1 c192_12
                  refine r_ci (x := 1) dX12_seek_209 rfl ?_
                  refine r_p dX12_seek_210 rfl rfl ?_
                  refine r_p dX12_seek_212 rfl rfl ?_
                  refine r_p dX12_seek_213 rfl rfl ?_
                  refine r_get dX12_seek_214 fkX12_55 rfl rfl ?_
                  refine r_p dX12_seek_217 rfl rfl ?_
                  obtain ⟨q12, kk⟩ := kk
                  refine r_ia dX12_seek_219 rfl q12 ?_
                  refine r_put dX12_seek_220 fkX12_296 rfl rfl rfl (Nat.le_of_ble_eq_true rfl) rfl rfl ?_
                  refine r_ci (x := 0) dX12_seek_223 rfl ?_
                  refine r_p dX12_seek_224 rfl rfl ?_
                  show tR _ _ _ _ [some (.ref 571), some (.int l1), some (.int l2), some (.int l3), some (.int l4), some (.int l5), some (.int l6), some (.int l7), some (.int 1), some (.int v9), some (.int ((sA T 586 (v9 : Int32).toNatClampNeg ((T.2.2.1 586 (v9 : Int32).toNatClampNeg) + 1)).2.2.1 585 (v9 : Int32).toNatClampNeg)), some (.int 0)] _ _ _ _
                  refine r_eI (r' := x_m_seek_226 l1 l2 l3 l4 l5 l6 l7 1 v9 ((sA T 586 (v9 : Int32).toNatClampNeg ((T.2.2.1 586 (v9 : Int32).toNatClampNeg) + 1)).2.2.1 585 (v9 : Int32).toNatClampNeg) (fun (w2_11 : Int32) (T202 : St) => x_m_seek_255 l1 l2 l3 l4 l5 l6 l7 1 v9 ((sA T 586 (v9 : Int32).toNatClampNeg ((T.2.2.1 586 (v9 : Int32).toNatClampNeg) + 1)).2.2.1 585 (v9 : Int32).toNatClampNeg) (fun (w3_11 : Int32) (T203 : St) => x_m_seek_70 l1 l2 l3 l4 l5 l6 l7 K f 1 v9 T203) 1000 0 T202) 1000 0 (sF T2 571 31 (T2.2.2.1 587 (l7 : Int32).toNatClampNeg))) (by first | rw [if_pos c192_12] | (dsimp only; rw [if_pos c192_12])) ((c_m_seek_226 l1 l2 l3 l4 l5 l6 l7 1 v9 ((sA T 586 (v9 : Int32).toNatClampNeg ((T.2.2.1 586 (v9 : Int32).toNatClampNeg) + 1)).2.2.1 585 (v9 : Int32).toNatClampNeg) (fun w2_11 T202 kk => ?_) 1000 0 (sF T2 571 31 (T2.2.2.1 587 (l7 : Int32).toNatClampNeg)) kk))
                  · try dsimp only at kk
                    refine r_ci (x := 0) dX12_seek_252 rfl ?_
                    refine r_p dX12_seek_253 rfl rfl ?_
                    show tR _ _ _ _ [some (.ref 571), some (.int l1), some (.int l2), some (.int l3), some (.int l4), some (.int l5), some (.int l6), some (.int l7), some (.int 1), some (.int v9), some (.int ((sA T 586 (v9 : Int32).toNatClampNeg ((T.2.2.1 586 (v9 : Int32).toNatClampNeg) + 1)).2.2.1 585 (v9 : Int32).toNatClampNeg)), some (.int 0)] _ _ _ _
                    refine r_eI (r' := x_m_seek_255 l1 l2 l3 l4 l5 l6 l7 1 v9 ((sA T 586 (v9 : Int32).toNatClampNeg ((T.2.2.1 586 (v9 : Int32).toNatClampNeg) + 1)).2.2.1 585 (v9 : Int32).toNatClampNeg) (fun (w3_11 : Int32) (T203 : St) => x_m_seek_70 l1 l2 l3 l4 l5 l6 l7 K f 1 v9 T203) 1000 0 T202) rfl ((c_m_seek_255 l1 l2 l3 l4 l5 l6 l7 1 v9 ((sA T 586 (v9 : Int32).toNatClampNeg ((T.2.2.1 586 (v9 : Int32).toNatClampNeg) + 1)).2.2.1 585 (v9 : Int32).toNatClampNeg) (fun w3_11 T203 kk => ?_) 1000 0 T202 kk))
                    · try dsimp only at kk
                      refine r_go dX12_seek_282 rfl ?_
                      show tR _ _ _ _ [some (.ref 571), some (.int l1), some (.int l2), some (.int l3), some (.int l4), some (.int l5), some (.int l6), some (.int l7), some (.int 1), some (.int v9), some (.int ((sA T 586 (v9 : Int32).toNatClampNeg ((T.2.2.1 586 (v9 : Int32).toNatClampNeg) + 1)).2.2.1 585 (v9 : Int32).toNatClampNeg)), some (.int w3_11)] _ _ _ _
                      exact r_eI (r' := x_m_seek_70 l1 l2 l3 l4 l5 l6 l7 K f 1 v9 T203) rfl (r_le (le_s (le_s (le_s (le_s (le_s (le_s (le_s (le_s (le_s (le_s (le_n (le_n (le_0))))))))))))) (ih 1 v9 T203 kk))
                · have kk := kk.2 c192_12
                  refine r_inc (y := 1) dX12_seek_195 rfl rfl rfl ?_
                  refine r_p dX12_seek_198 rfl rfl ?_
                  refine r_get dX12_seek_199 fkX12_52 rfl rfl ?_
                  refine r_p dX12_seek_202 rfl rfl ?_
                  refine r_ci (x := -1) dX12_seek_204 rfl ?_
                  obtain ⟨q16, kk⟩ := kk
                  refine r_ias dX12_seek_205 rfl q16 ?_
                  refine r_go dX12_seek_206 rfl ?_
                  refine r_go dX12_seek_282 rfl ?_
                  show tR _ _ _ _ [some (.ref 571), some (.int l1), some (.int l2), some (.int l3), some (.int l4), some (.int l5), some (.int l6), some (.int l7), some (.int v8), some (.int (v9 + 1)), some (.int ((sA T 586 (v9 : Int32).toNatClampNeg ((T.2.2.1 586 (v9 : Int32).toNatClampNeg) + 1)).2.2.1 585 (v9 : Int32).toNatClampNeg)), none] _ _ _ _
                  exact r_eI (r' := x_m_seek_70 l1 l2 l3 l4 l5 l6 l7 K f v8 (v9 + 1) (sA T2 586 (v9 + 1 : Int32).toNatClampNeg (-1))) (by first | rw [if_neg c192_12] | (dsimp only; rw [if_neg c192_12])) (r_le (le_s (le_s (le_s (le_s (le_s (le_s (le_s (le_s (le_s (le_s (le_n (le_s (le_0))))))))))))) (ih v8 (v9 + 1) (sA T2 586 (v9 + 1 : Int32).toNatClampNeg (-1)) kk))
              refine r_eI (r' := jn (fun (KJ3 : Int32 × St) => if v8 = 0 then (KJ3) else (if (T2.1 571 31) ≤ (T2.2.2.1 587 (v9 + 1 : Int32).toNatClampNeg) then (x_m_seek_70 l1 l2 l3 l4 l5 l6 l7 K f v8 v9 T2) else (KJ3))) KJ3) (by rw [hKJ3]; first | rw [if_neg c162_9] | (dsimp only; rw [if_neg c162_9])) ?_
              refine r_ieq dX12_seek_167 rfl (fun c167_15 => ?_) (fun c167_15 => ?_)
              · have kk := kk.1 c167_15
                show tR _ _ _ _ [some (.ref 571), some (.int l1), some (.int l2), some (.int l3), some (.int l4), some (.int l5), some (.int l6), some (.int l7), some (.int v8), some (.int v9), some (.int ((sA T 586 (v9 : Int32).toNatClampNeg ((T.2.2.1 586 (v9 : Int32).toNatClampNeg) + 1)).2.2.1 585 (v9 : Int32).toNatClampNeg)), none] [] _ _ _
                exact r_eI (r' := KJ3) (by simp only [jn]; rw [if_pos c167_15]) ((hJ3  kk))
              · have kk := kk.2 c167_15
                refine r_p dX12_seek_170 rfl rfl ?_
                refine r_get dX12_seek_171 fkX12_55 rfl rfl ?_
                refine r_p dX12_seek_174 rfl rfl ?_
                refine r_ci (x := 1) dX12_seek_176 rfl ?_
                refine r_p dX12_seek_177 rfl rfl ?_
                obtain ⟨q17, kk⟩ := kk
                refine r_ia dX12_seek_178 rfl q17 ?_
                refine r_p dX12_seek_179 rfl rfl ?_
                refine r_get dX12_seek_180 fkX12_296 rfl rfl ?_
                refine r_cge dX12_seek_183 rfl (fun c183_16 => ?_) (fun c183_16 => ?_)
                · have kk := kk.1 c183_16
                  refine r_go dX12_seek_282 rfl ?_
                  show tR _ _ _ _ [some (.ref 571), some (.int l1), some (.int l2), some (.int l3), some (.int l4), some (.int l5), some (.int l6), some (.int l7), some (.int v8), some (.int v9), some (.int ((sA T 586 (v9 : Int32).toNatClampNeg ((T.2.2.1 586 (v9 : Int32).toNatClampNeg) + 1)).2.2.1 585 (v9 : Int32).toNatClampNeg)), none] _ _ _ _
                  exact r_eI (r' := x_m_seek_70 l1 l2 l3 l4 l5 l6 l7 K f v8 v9 T2) (by simp only [jn]; rw [if_neg c167_15, if_pos c183_16]) (r_le (le_s (le_s (le_s (le_s (le_s (le_s (le_s (le_s (le_s (le_s (le_n (le_s (le_0))))))))))))) (ih v8 v9 T2 kk))
                · have kk := kk.2 c183_16
                  show tR _ _ _ _ [some (.ref 571), some (.int l1), some (.int l2), some (.int l3), some (.int l4), some (.int l5), some (.int l6), some (.int l7), some (.int v8), some (.int v9), some (.int ((sA T 586 (v9 : Int32).toNatClampNeg ((T.2.2.1 586 (v9 : Int32).toNatClampNeg) + 1)).2.2.1 585 (v9 : Int32).toNatClampNeg)), none] [] _ _ _
                  exact r_eI (r' := KJ3) (by simp only [jn]; rw [if_neg c167_15, if_neg c183_16]) ((hJ3  kk))
          refine r_eI (r' := jn (fun (KJ2 : Int32 × St) => if l5 = 0 then (KJ2) else (if 0 < (((sA T 586 (v9 : Int32).toNatClampNeg ((T.2.2.1 586 (v9 : Int32).toNatClampNeg) + 1)).2.2.1 586 (v9 : Int32).toNatClampNeg) - ((sA T 586 (v9 : Int32).toNatClampNeg ((T.2.2.1 586 (v9 : Int32).toNatClampNeg) + 1)).2.2.1 586 (v9 : Int32).toNatClampNeg) / (1 + (x_m_dishOf (sA T 586 (v9 : Int32).toNatClampNeg ((T.2.2.1 586 (v9 : Int32).toNatClampNeg) + 1)) ((sA T 586 (v9 : Int32).toNatClampNeg ((T.2.2.1 586 (v9 : Int32).toNatClampNeg) + 1)).2.2.1 585 (v9 : Int32).toNatClampNeg) 0)) * (1 + (x_m_dishOf (sA T 586 (v9 : Int32).toNatClampNeg ((T.2.2.1 586 (v9 : Int32).toNatClampNeg) + 1)) ((sA T 586 (v9 : Int32).toNatClampNeg ((T.2.2.1 586 (v9 : Int32).toNatClampNeg) + 1)).2.2.1 585 (v9 : Int32).toNatClampNeg) 0))) then (x_m_seek_70 l1 l2 l3 l4 l5 l6 l7 K f v8 v9 (sA T 586 (v9 : Int32).toNatClampNeg ((T.2.2.1 586 (v9 : Int32).toNatClampNeg) + 1))) else (KJ2))) KJ2) (by rw [hKJ2]; first | rw [if_neg c118_6] | (dsimp only; rw [if_neg c118_6])) ?_
          refine r_ieq dX12_seek_129 rfl (fun c129_17 => ?_) (fun c129_17 => ?_)
          · have kk := kk.1 c129_17
            show tR _ _ _ _ [some (.ref 571), some (.int l1), some (.int l2), some (.int l3), some (.int l4), some (.int l5), some (.int l6), some (.int l7), some (.int v8), some (.int v9), some (.int ((sA T 586 (v9 : Int32).toNatClampNeg ((T.2.2.1 586 (v9 : Int32).toNatClampNeg) + 1)).2.2.1 585 (v9 : Int32).toNatClampNeg)), none] [] _ _ _
            exact r_eI (r' := KJ2) (by simp only [jn]; rw [if_pos c129_17]) ((hJ2  kk))
          · have kk := kk.2 c129_17
            refine r_p dX12_seek_132 rfl rfl ?_
            refine r_get dX12_seek_133 fkX12_52 rfl rfl ?_
            refine r_p dX12_seek_136 rfl rfl ?_
            refine r_ia dX12_seek_138 rfl q5 ?_
            refine r_ci (x := 1) dX12_seek_139 rfl ?_
            refine r_p dX12_seek_140 rfl rfl ?_
            refine r_p dX12_seek_141 rfl rfl ?_
            refine r_ci (x := 0) dX12_seek_143 rfl ?_
            obtain ⟨q18, kk⟩ := kk
            refine r_cv (d1 := 1) dX12_seek_144 cvX12_228 rfl rfl rfl rfl (Nat.le_of_ble_eq_true rfl) (Nat.le_of_ble_eq_true rfl) (Nat.le_of_ble_eq_true rfl) (c_m_dishOf ((sA T 586 (v9 : Int32).toNatClampNeg ((T.2.2.1 586 (v9 : Int32).toNatClampNeg) + 1)).2.2.1 585 (v9 : Int32).toNatClampNeg) 0 q18) ?_
            refine r_p dX12_seek_147 rfl rfl ?_
            obtain ⟨q19, kk⟩ := kk
            refine r_p dX12_seek_148 rfl (if_neg q19) ?_
            refine r_igt dX12_seek_149 rfl (fun c149_18 => ?_) (fun c149_18 => ?_)
            · have kk := kk.1 c149_18
              refine r_go dX12_seek_282 rfl ?_
              show tR _ _ _ _ [some (.ref 571), some (.int l1), some (.int l2), some (.int l3), some (.int l4), some (.int l5), some (.int l6), some (.int l7), some (.int v8), some (.int v9), some (.int ((sA T 586 (v9 : Int32).toNatClampNeg ((T.2.2.1 586 (v9 : Int32).toNatClampNeg) + 1)).2.2.1 585 (v9 : Int32).toNatClampNeg)), none] _ _ _ _
              exact r_eI (r' := x_m_seek_70 l1 l2 l3 l4 l5 l6 l7 K f v8 v9 (sA T 586 (v9 : Int32).toNatClampNeg ((T.2.2.1 586 (v9 : Int32).toNatClampNeg) + 1))) (by simp only [jn]; rw [if_neg c129_17, if_pos c149_18]) (r_le (le_s (le_s (le_s (le_s (le_s (le_s (le_s (le_s (le_s (le_s (le_n (le_s (le_0))))))))))))) (ih v8 v9 (sA T 586 (v9 : Int32).toNatClampNeg ((T.2.2.1 586 (v9 : Int32).toNatClampNeg) + 1)) kk))
            · have kk := kk.2 c149_18
              show tR _ _ _ _ [some (.ref 571), some (.int l1), some (.int l2), some (.int l3), some (.int l4), some (.int l5), some (.int l6), some (.int l7), some (.int v8), some (.int v9), some (.int ((sA T 586 (v9 : Int32).toNatClampNeg ((T.2.2.1 586 (v9 : Int32).toNatClampNeg) + 1)).2.2.1 585 (v9 : Int32).toNatClampNeg)), none] [] _ _ _
              exact r_eI (r' := KJ2) (by simp only [jn]; rw [if_neg c129_17, if_neg c149_18]) ((hJ2  kk))
        · have kk := kk.1 c118_6
          refine r_inc (y := -1) dX12_seek_121 rfl rfl rfl ?_
          refine r_go dX12_seek_124 rfl ?_
          refine r_go dX12_seek_282 rfl ?_
          show tR _ _ _ _ [some (.ref 571), some (.int l1), some (.int l2), some (.int l3), some (.int l4), some (.int l5), some (.int l6), some (.int l7), some (.int v8), some (.int (v9 + (-1))), some (.int ((sA T 586 (v9 : Int32).toNatClampNeg ((T.2.2.1 586 (v9 : Int32).toNatClampNeg) + 1)).2.2.1 585 (v9 : Int32).toNatClampNeg)), none] _ _ _ _
          exact r_eI (r' := x_m_seek_70 l1 l2 l3 l4 l5 l6 l7 K f v8 (v9 + (-1)) (sA T 586 (v9 : Int32).toNatClampNeg ((T.2.2.1 586 (v9 : Int32).toNatClampNeg) + 1))) (by first | rw [if_pos c118_6] | (dsimp only; rw [if_pos c118_6])) (r_le (le_s (le_s (le_s (le_s (le_s (le_s (le_s (le_s (le_s (le_s (le_n (le_s (le_0))))))))))))) (ih v8 (v9 + (-1)) (sA T 586 (v9 : Int32).toNatClampNeg ((T.2.2.1 586 (v9 : Int32).toNatClampNeg) + 1)) kk))
      refine r_eI (r' := jn (fun (KJ1 : Int32 × St) => if v8 = 0 then (KJ1) else (if l6 = 0 then (KJ1) else (K v8 v9 T))) KJ1) (by rw [hKJ1]; rw [x_m_seek_70]; rw [if_neg c72_3]) ?_
      refine r_ieq dX12_seek_77 rfl (fun c77_19 => ?_) (fun c77_19 => ?_)
      · have kk := kk.1 c77_19
        show tR _ _ _ _ [some (.ref 571), some (.int l1), some (.int l2), some (.int l3), some (.int l4), some (.int l5), some (.int l6), some (.int l7), some (.int v8), some (.int v9), none, none] [] _ _ _
        exact r_eI (r' := KJ1) (by simp only [jn]; rw [if_pos c77_19]) ((hJ1  kk))
      · have kk := kk.2 c77_19
        refine r_p dX12_seek_80 rfl rfl ?_
        refine r_ine dX12_seek_82 rfl (fun c82_20 => ?_) (fun c82_20 => ?_)
        · have kk := kk.2 c82_20
          show tR _ _ _ _ [some (.ref 571), some (.int l1), some (.int l2), some (.int l3), some (.int l4), some (.int l5), some (.int l6), some (.int l7), some (.int v8), some (.int v9), none, none] _ _ _ _
          exact r_eI (r' := K v8 v9 T) (by simp only [jn]; rw [if_neg c77_19, if_neg c82_20]) ((hk v8 v9 T kk))
        · have kk := kk.1 c82_20
          show tR _ _ _ _ [some (.ref 571), some (.int l1), some (.int l2), some (.int l3), some (.int l4), some (.int l5), some (.int l6), some (.int l7), some (.int v8), some (.int v9), none, none] [] _ _ _
          exact r_eI (r' := KJ1) (by simp only [jn]; rw [if_neg c77_19, if_pos c82_20]) ((hJ1  kk))
def x_m_seek (T : St) (p0 : Int32) (p1 : Int32) (p2 : Int32) (p3 : Int32) (p4 : Int32) (p5 : Int32) : Int32 × St := x_m_seek_6 p0 p1 p2 p3 p4 p5 (fun (w1_7 : Int32) (w1_8 : Int32) (T201 : St) => (fun (T1 : St) => x_m_seek_70 p0 p1 p2 p3 p4 p5 w1_7 (fun (w4_8 : Int32) (w4_9 : Int32) (T204 : St) => (w4_8, T204)) 1000000 0 0 T1) (sA (sA (x_m_clearLevel T201) 587 (0 : Int32).toNatClampNeg 0) 586 (0 : Int32).toNatClampNeg (-1))) 1000 0 0 T
def ok_m_seek (T : St) (p0 : Int32) (p1 : Int32) (p2 : Int32) (p3 : Int32) (p4 : Int32) (p5 : Int32) : Prop := ok_m_seek_6 p0 p1 p2 p3 p4 p5 (fun (w1_7 : Int32) (w1_8 : Int32) (T201 : St) => (ok_m_clearLevel T201) ∧ (vp_in 0 5) ∧ (fun (T1 : St) => ok_m_seek_70 p0 p1 p2 p3 p4 p5 w1_7 (fun (w4_8 : Int32) (w4_9 : Int32) (T204 : St) => ((w4_8 = 0 ∨ w4_8 = (1 : Int32))) ∧ True) 1000000 0 0 T1) (sA (sA (x_m_clearLevel T201) 587 (0 : Int32).toNatClampNeg 0) 586 (0 : Int32).toNatClampNeg (-1))) 1000 0 0 T
theorem c_m_seek {X : Nat × (Nat → Int32)} {T : St} (p0 : Int32) (p1 : Int32) (p2 : Int32) (p3 : Int32) (p4 : Int32) (p5 : Int32) (kk : ok_m_seek T p0 p1 p2 p3 p4 p5) : tC X 5 mX12_seek [.ref 571, .int p0, .int p1, .int p2, .int p3, .int p4, .int p5] T (some (.int (x_m_seek T p0 p1 p2 p3 p4 p5).1)) ((x_m_seek T p0 p1 p2 p3 p4 p5).2) := by
  unfold ok_m_seek at kk
  refine tC_of ?_
  refine r_ci (x := 0) dX12_seek_0 rfl ?_
  refine r_p dX12_seek_1 rfl rfl ?_
  refine r_ci (x := 0) dX12_seek_3 rfl ?_
  refine r_p dX12_seek_4 rfl rfl ?_
  show tR _ _ _ _ [some (.ref 571), some (.int p0), some (.int p1), some (.int p2), some (.int p3), some (.int p4), some (.int p5), some (.int 0), some (.int 0), none, none, none] _ _ _ _
  refine r_eI (r' := x_m_seek_6 p0 p1 p2 p3 p4 p5 (fun (w1_7 : Int32) (w1_8 : Int32) (T201 : St) => (fun (T1 : St) => x_m_seek_70 p0 p1 p2 p3 p4 p5 w1_7 (fun (w4_8 : Int32) (w4_9 : Int32) (T204 : St) => (w4_8, T204)) 1000000 0 0 T1) (sA (sA (x_m_clearLevel T201) 587 (0 : Int32).toNatClampNeg 0) 586 (0 : Int32).toNatClampNeg (-1))) 1000 0 0 T) (by unfold x_m_seek; rfl) ((c_m_seek_6 p0 p1 p2 p3 p4 p5 (fun w1_7 w1_8 T201 kk => ?_) 1000 0 0 T kk))
  · try dsimp only at kk
    refine r_p dX12_seek_46 rfl rfl ?_
    obtain ⟨q3, kk⟩ := kk
    refine r_cv (d1 := 1) dX12_seek_47 cvX12_289 rfl rfl rfl rfl (Nat.le_of_ble_eq_true rfl) (Nat.le_of_ble_eq_true rfl) (Nat.le_of_ble_eq_true rfl) (c_m_clearLevel  q3) ?_
    refine r_p dX12_seek_50 rfl rfl ?_
    refine r_get dX12_seek_51 fkX12_55 rfl rfl ?_
    refine r_ci (x := 0) dX12_seek_54 rfl ?_
    refine r_ci (x := 0) dX12_seek_55 rfl ?_
    obtain ⟨q4, kk⟩ := kk
    refine r_ias dX12_seek_56 rfl q4 ?_
    refine r_ci (x := 0) dX12_seek_57 rfl ?_
    refine r_p dX12_seek_58 rfl rfl ?_
    refine r_ci (x := 0) dX12_seek_60 rfl ?_
    refine r_p dX12_seek_61 rfl rfl ?_
    refine r_p dX12_seek_63 rfl rfl ?_
    refine r_get dX12_seek_64 fkX12_52 rfl rfl ?_
    refine r_ci (x := 0) dX12_seek_67 rfl ?_
    refine r_ci (x := -1) dX12_seek_68 rfl ?_
    refine r_ias dX12_seek_69 rfl q4 ?_
    refine r_eI (r' := (fun (T1 : St) => x_m_seek_70 p0 p1 p2 p3 p4 p5 w1_7 (fun (w4_8 : Int32) (w4_9 : Int32) (T204 : St) => (w4_8, T204)) 1000000 0 0 T1) (sA (sA (x_m_clearLevel T201) 587 (0 : Int32).toNatClampNeg 0) 586 (0 : Int32).toNatClampNeg (-1))) rfl ?_
    generalize sA (sA (x_m_clearLevel T201) 587 (0 : Int32).toNatClampNeg 0) 586 (0 : Int32).toNatClampNeg (-1) = T1 at kk ⊢
    try dsimp only at kk
    show tR _ _ _ _ [some (.ref 571), some (.int p0), some (.int p1), some (.int p2), some (.int p3), some (.int p4), some (.int p5), some (.int w1_7), some (.int 0), some (.int 0), none, none] _ _ _ _
    refine r_eI (r' := x_m_seek_70 p0 p1 p2 p3 p4 p5 w1_7 (fun (w4_8 : Int32) (w4_9 : Int32) (T204 : St) => (w4_8, T204)) 1000000 0 0 T1) rfl ((c_m_seek_70 p0 p1 p2 p3 p4 p5 w1_7 (fun w4_8 w4_9 T204 kk => ?_) 1000000 0 0 T1 kk))
    · try dsimp only at kk
      refine r_p dX12_seek_285 rfl rfl ?_
      obtain ⟨q20, kk⟩ := kk
      exact r_eI (r' := (w4_8, T204)) rfl (r_ri dX12_seek_287 rfl (nar_b q20) rfl rfl)
