def x_m_forget (T : St)  : St := sF (sF T 571 34 (-1000000)) 571 32 0
theorem c_m_forget {X : Nat × (Nat → Int32)} {T : St}  : tC X 1 mX12_forget [.ref 571] T none (x_m_forget T) := by
  refine tC_of ?_
  refine r_p dX12_forget_0 rfl rfl ?_
  refine r_k dX12_forget_1 kkX12_137 ?_
  refine r_put dX12_forget_3 fkX12_299 rfl rfl rfl (Nat.le_of_ble_eq_true rfl) rfl rfl ?_
  refine r_p dX12_forget_6 rfl rfl ?_
  refine r_ci (x := 0) dX12_forget_7 rfl ?_
  refine r_put dX12_forget_8 fkX12_268 rfl rfl rfl (Nat.le_of_ble_eq_true rfl) rfl rfl ?_
  exact r_eV (r' := (sF (sF T 571 34 (-1000000)) 571 32 0)) (by unfold x_m_forget; rfl) (r_rv dX12_forget_11 rfl rfl rfl)
def x_m_isBy (T : St) (p0 : Int32) : Int32 := x_m_in T ((p0 : Int32).toInt64) 1 60
theorem c_m_isBy {X : Nat × (Nat → Int32)} {T : St} (p0 : Int32) : tC X 2 mX12_isBy [.int p0] T (some (.int (x_m_isBy T p0))) T := by
  refine tC_of ?_
  refine r_p dX12_isBy_0 rfl rfl ?_
  refine r_p dX12_isBy_1 rfl rfl ?_
  refine r_cl (x := 1) dX12_isBy_2 rfl ?_
  refine r_kl dX12_isBy_3 klX12_266 ?_
  refine r_cs (d1 := 1) dX12_isBy_6 csX12_111 rfl rfl (Nat.le_of_ble_eq_true rfl) (Nat.le_of_ble_eq_true rfl) (Nat.le_of_ble_eq_true rfl) (c_m_in ((p0 : Int32).toInt64) 1 60) ?_
  exact r_eIp (r' := (x_m_in T ((p0 : Int32).toInt64) 1 60)) (by unfold x_m_isBy; rfl) (r_ri dX12_isBy_9 rfl (nar_b (b_m_in T ((p0 : Int32).toInt64) 1 60)) rfl rfl)
theorem b_m_isBy (T : St) (p0 : Int32) : x_m_isBy T p0 = 0 ∨ x_m_isBy T p0 = 1 := by
  unfold x_m_isBy
  repeat' split
  all_goals (first | exact Or.inl rfl | exact Or.inr rfl | apply b_m_in)
def x_m_layRow_38 (l1 : Int32) (l2 : Int32) (K : Int32 → St → St) : Nat → Int32 → St → St
  | 0, _, T => T
  | f + 1, v3, T => if (x_m_dishOf T l2 3) ≤ v3 then (K v3 T) else (fun (T1 : St) => (fun (T2 : St) => x_m_layRow_38 l1 l2 K f (v3 + 1) T2) (sF (sA T1 596 (T1.1 571 39 : Int32).toNatClampNeg 0) 571 39 (((sA T1 596 (T1.1 571 39 : Int32).toNatClampNeg 0).1 571 39) + 1))) (sA (sA T 594 (T.1 571 39 : Int32).toNatClampNeg ((x_m_dishOf T l2 4) + v3)) 595 ((sA T 594 (T.1 571 39 : Int32).toNatClampNeg ((x_m_dishOf T l2 4) + v3)).1 571 39 : Int32).toNatClampNeg ((sA T 594 (T.1 571 39 : Int32).toNatClampNeg ((x_m_dishOf T l2 4) + v3)).2.2.1 593 ((3 * l1) + v3 : Int32).toNatClampNeg))
def ok_m_layRow_38 (l1 : Int32) (l2 : Int32) (Kk : Int32 → St → Prop) : Nat → Int32 → St → Prop
  | 0, _, _ => False
  | f + 1, v3, T => (ok_m_dishOf T l2 3) ∧ (((x_m_dishOf T l2 3) ≤ v3 → Kk v3 T) ∧ (¬ (x_m_dishOf T l2 3) ≤ v3 → (ok_m_dishOf T l2 4) ∧ (vp_in (T.1 571 39) 12) ∧ (vp_in ((3 * l1) + v3) 12) ∧ (vp_in ((sA T 594 (T.1 571 39 : Int32).toNatClampNeg ((x_m_dishOf T l2 4) + v3)).1 571 39) 12) ∧ (fun (T1 : St) => (vp_in (T1.1 571 39) 12) ∧ (fun (T2 : St) => ok_m_layRow_38 l1 l2 Kk f (v3 + 1) T2) (sF (sA T1 596 (T1.1 571 39 : Int32).toNatClampNeg 0) 571 39 (((sA T1 596 (T1.1 571 39 : Int32).toNatClampNeg 0).1 571 39) + 1))) (sA (sA T 594 (T.1 571 39 : Int32).toNatClampNeg ((x_m_dishOf T l2 4) + v3)) 595 ((sA T 594 (T.1 571 39 : Int32).toNatClampNeg ((x_m_dishOf T l2 4) + v3)).1 571 39 : Int32).toNatClampNeg ((sA T 594 (T.1 571 39 : Int32).toNatClampNeg ((x_m_dishOf T l2 4) + v3)).2.2.1 593 ((3 * l1) + v3 : Int32).toNatClampNeg))))
theorem c_m_layRow_38 {X : Nat × (Nat → Int32)} (l1 : Int32) (l2 : Int32) {K : Int32 → St → St} {Kk : Int32 → St → Prop} (hk : ∀ (v3 : Int32) (T : St), Kk v3 T → tR X 1 mX12_layRow 110 [some (.ref 571), some (.int l1), some (.int l2), some (.int v3)] [] T none (K v3 T)) : ∀ (f : Nat) (v3 : Int32) (T : St), ok_m_layRow_38 l1 l2 Kk f v3 T → tR X 1 mX12_layRow 38 [some (.ref 571), some (.int l1), some (.int l2), some (.int v3)] [] T none (x_m_layRow_38 l1 l2 K f v3 T) := by
  intro f
  induction f with
  | zero => intro v3 T kk; exact kk.elim
  | succ f ih =>
    intro v3 T kk
    rw [ok_m_layRow_38] at kk
    refine r_p dX12_layRow_38 rfl rfl ?_
    refine r_p dX12_layRow_39 rfl rfl ?_
    refine r_p dX12_layRow_40 rfl rfl ?_
    refine r_ci (x := 3) dX12_layRow_41 rfl ?_
    obtain ⟨q3, kk⟩ := kk
    refine r_cv (d1 := 1) dX12_layRow_42 cvX12_228 rfl rfl rfl rfl (Nat.le_of_ble_eq_true rfl) (Nat.le_of_ble_eq_true rfl) (Nat.le_of_ble_eq_true rfl) (c_m_dishOf l2 3 q3) ?_
    refine r_cge dX12_layRow_45 rfl (fun c45_3 => ?_) (fun c45_3 => ?_)
    · have kk := kk.1 c45_3
      show tR _ _ _ _ [some (.ref 571), some (.int l1), some (.int l2), some (.int v3)] _ _ _ _
      exact r_eV (r' := K v3 T) (by rw [x_m_layRow_38]; rw [if_pos c45_3]) ((hk v3 T kk))
    · have kk := kk.2 c45_3
      refine r_p dX12_layRow_48 rfl rfl ?_
      refine r_get dX12_layRow_49 fkX12_76 rfl rfl ?_
      refine r_p dX12_layRow_52 rfl rfl ?_
      refine r_get dX12_layRow_53 fkX12_302 rfl rfl ?_
      refine r_p dX12_layRow_56 rfl rfl ?_
      refine r_p dX12_layRow_57 rfl rfl ?_
      refine r_ci (x := 4) dX12_layRow_58 rfl ?_
      obtain ⟨q4, kk⟩ := kk
      refine r_cv (d1 := 1) dX12_layRow_59 cvX12_228 rfl rfl rfl rfl (Nat.le_of_ble_eq_true rfl) (Nat.le_of_ble_eq_true rfl) (Nat.le_of_ble_eq_true rfl) (c_m_dishOf l2 4 q4) ?_
      refine r_p dX12_layRow_62 rfl rfl ?_
      refine r_p dX12_layRow_63 rfl rfl ?_
      obtain ⟨q5, kk⟩ := kk
      refine r_ias dX12_layRow_64 rfl q5 ?_
      refine r_p dX12_layRow_65 rfl rfl ?_
      refine r_get dX12_layRow_66 fkX12_79 rfl rfl ?_
      refine r_p dX12_layRow_69 rfl rfl ?_
      refine r_get dX12_layRow_70 fkX12_302 rfl rfl ?_
      refine r_p dX12_layRow_73 rfl rfl ?_
      refine r_get dX12_layRow_74 fkX12_73 rfl rfl ?_
      refine r_ci (x := 3) dX12_layRow_77 rfl ?_
      refine r_p dX12_layRow_78 rfl rfl ?_
      refine r_p dX12_layRow_79 rfl rfl ?_
      refine r_p dX12_layRow_80 rfl rfl ?_
      refine r_p dX12_layRow_81 rfl rfl ?_
      obtain ⟨q6, kk⟩ := kk
      refine r_ia dX12_layRow_82 rfl q6 ?_
      obtain ⟨q7, kk⟩ := kk
      refine r_ias dX12_layRow_83 rfl q7 ?_
      refine r_eV (r' := (fun (T1 : St) => (fun (T2 : St) => x_m_layRow_38 l1 l2 K f (v3 + 1) T2) (sF (sA T1 596 (T1.1 571 39 : Int32).toNatClampNeg 0) 571 39 (((sA T1 596 (T1.1 571 39 : Int32).toNatClampNeg 0).1 571 39) + 1))) (sA (sA T 594 (T.1 571 39 : Int32).toNatClampNeg ((x_m_dishOf T l2 4) + v3)) 595 ((sA T 594 (T.1 571 39 : Int32).toNatClampNeg ((x_m_dishOf T l2 4) + v3)).1 571 39 : Int32).toNatClampNeg ((sA T 594 (T.1 571 39 : Int32).toNatClampNeg ((x_m_dishOf T l2 4) + v3)).2.2.1 593 ((3 * l1) + v3 : Int32).toNatClampNeg))) (by rw [x_m_layRow_38]; rw [if_neg c45_3]) ?_
      generalize sA (sA T 594 (T.1 571 39 : Int32).toNatClampNeg ((x_m_dishOf T l2 4) + v3)) 595 ((sA T 594 (T.1 571 39 : Int32).toNatClampNeg ((x_m_dishOf T l2 4) + v3)).1 571 39 : Int32).toNatClampNeg ((sA T 594 (T.1 571 39 : Int32).toNatClampNeg ((x_m_dishOf T l2 4) + v3)).2.2.1 593 ((3 * l1) + v3 : Int32).toNatClampNeg) = T1 at kk ⊢
      try dsimp only at kk
      refine r_p dX12_layRow_84 rfl rfl ?_
      refine r_get dX12_layRow_85 fkX12_82 rfl rfl ?_
      refine r_p dX12_layRow_88 rfl rfl ?_
      refine r_get dX12_layRow_89 fkX12_302 rfl rfl ?_
      refine r_ci (x := 0) dX12_layRow_92 rfl ?_
      obtain ⟨q8, kk⟩ := kk
      refine r_ias dX12_layRow_93 rfl q8 ?_
      refine r_p dX12_layRow_94 rfl rfl ?_
      refine r_p dX12_layRow_95 rfl rfl ?_
      refine r_get dX12_layRow_96 fkX12_302 rfl rfl ?_
      refine r_ci (x := 1) dX12_layRow_99 rfl ?_
      refine r_p dX12_layRow_100 rfl rfl ?_
      refine r_put dX12_layRow_101 fkX12_302 rfl rfl rfl (Nat.le_of_ble_eq_true rfl) rfl rfl ?_
      refine r_eV (r' := (fun (T2 : St) => x_m_layRow_38 l1 l2 K f (v3 + 1) T2) (sF (sA T1 596 (T1.1 571 39 : Int32).toNatClampNeg 0) 571 39 (((sA T1 596 (T1.1 571 39 : Int32).toNatClampNeg 0).1 571 39) + 1))) rfl ?_
      generalize sF (sA T1 596 (T1.1 571 39 : Int32).toNatClampNeg 0) 571 39 (((sA T1 596 (T1.1 571 39 : Int32).toNatClampNeg 0).1 571 39) + 1) = T2 at kk ⊢
      try dsimp only at kk
      refine r_inc (y := 1) dX12_layRow_104 rfl rfl rfl ?_
      refine r_go dX12_layRow_107 rfl ?_
      show tR _ _ _ _ [some (.ref 571), some (.int l1), some (.int l2), some (.int (v3 + 1))] _ _ _ _
      exact r_eV (r' := x_m_layRow_38 l1 l2 K f (v3 + 1) T2) rfl ((ih (v3 + 1) T2 kk))
def x_m_layRow_9  (K : Int32 → Int32 → St → St) : Nat → Int32 → Int32 → St → St
  | 0, _, _, T => T
  | f + 1, v1, v2, T => if (T.2.2.1 575 (16 : Int32).toNatClampNeg) ≤ v2 then (K v1 v2 T) else (if (((T.2.2.1 575 (202 : Int32).toNatClampNeg) >>> (v2 &&& 31)) &&& 1) = 1 then (x_m_layRow_38 v1 v2 (fun (w1_3 : Int32) (T201 : St) => x_m_layRow_9 K f (v1 + 1) (v2 + 1) T201) 1000 0 T) else (x_m_layRow_9 K f v1 (v2 + 1) T))
def ok_m_layRow_9  (Kk : Int32 → Int32 → St → Prop) : Nat → Int32 → Int32 → St → Prop
  | 0, _, _, _ => False
  | f + 1, v1, v2, T => (vp_in 16 204) ∧ (((T.2.2.1 575 (16 : Int32).toNatClampNeg) ≤ v2 → Kk v1 v2 T) ∧ (¬ (T.2.2.1 575 (16 : Int32).toNatClampNeg) ≤ v2 → (vp_in 202 204) ∧ (((((T.2.2.1 575 (202 : Int32).toNatClampNeg) >>> (v2 &&& 31)) &&& 1) = 1 → ok_m_layRow_38 v1 v2 (fun (w1_3 : Int32) (T201 : St) => ok_m_layRow_9 Kk f (v1 + 1) (v2 + 1) T201) 1000 0 T) ∧ (¬ (((T.2.2.1 575 (202 : Int32).toNatClampNeg) >>> (v2 &&& 31)) &&& 1) = 1 → ok_m_layRow_9 Kk f v1 (v2 + 1) T))))
theorem c_m_layRow_9 {X : Nat × (Nat → Int32)}  {K : Int32 → Int32 → St → St} {Kk : Int32 → Int32 → St → Prop} (hk : ∀ (v1 : Int32) (v2 : Int32) (T : St), Kk v1 v2 T → tR X 1 mX12_layRow 119 [some (.ref 571), some (.int v1), some (.int v2), none] [] T none (K v1 v2 T)) : ∀ (f : Nat) (v1 : Int32) (v2 : Int32) (T : St), ok_m_layRow_9  Kk f v1 v2 T → tR X 1 mX12_layRow 9 [some (.ref 571), some (.int v1), some (.int v2), none] [] T none (x_m_layRow_9 K f v1 v2 T) := by
  intro f
  induction f with
  | zero => intro v1 v2 T kk; exact kk.elim
  | succ f ih =>
    intro v1 v2 T kk
    rw [ok_m_layRow_9] at kk
    refine r_p dX12_layRow_9 rfl rfl ?_
    refine r_p dX12_layRow_10 rfl rfl ?_
    refine r_get dX12_layRow_11 fkX12_19 rfl rfl ?_
    refine r_cb (x := 16) dX12_layRow_14 rfl ?_
    obtain ⟨q1, kk⟩ := kk
    refine r_ia dX12_layRow_16 rfl q1 ?_
    refine r_cge dX12_layRow_17 rfl (fun c17_1 => ?_) (fun c17_1 => ?_)
    · have kk := kk.1 c17_1
      show tR _ _ _ _ [some (.ref 571), some (.int v1), some (.int v2), none] _ _ _ _
      exact r_eV (r' := K v1 v2 T) (by rw [x_m_layRow_9]; rw [if_pos c17_1]) ((hk v1 v2 T kk))
    · have kk := kk.2 c17_1
      refine r_p dX12_layRow_20 rfl rfl ?_
      refine r_get dX12_layRow_21 fkX12_19 rfl rfl ?_
      refine r_csi (x := 202) dX12_layRow_24 rfl ?_
      obtain ⟨q2, kk⟩ := kk
      refine r_ia dX12_layRow_27 rfl q2 ?_
      refine r_p dX12_layRow_28 rfl rfl ?_
      refine r_p dX12_layRow_29 rfl rfl ?_
      refine r_ci (x := 1) dX12_layRow_30 rfl ?_
      refine r_p dX12_layRow_31 rfl rfl ?_
      refine r_ci (x := 1) dX12_layRow_32 rfl ?_
      refine r_cne dX12_layRow_33 rfl (fun c33_2 => ?_) (fun c33_2 => ?_)
      · have kk := kk.2 c33_2
        refine r_inc (y := 1) dX12_layRow_113 rfl rfl rfl ?_
        refine r_go dX12_layRow_116 rfl ?_
        show tR _ _ _ _ [some (.ref 571), some (.int v1), some (.int (v2 + 1)), none] _ _ _ _
        exact r_eV (r' := x_m_layRow_9 K f v1 (v2 + 1) T) (by rw [x_m_layRow_9]; rw [if_neg c17_1, if_neg c33_2]) ((ih v1 (v2 + 1) T kk))
      · have kk := kk.1 c33_2
        refine r_ci (x := 0) dX12_layRow_36 rfl ?_
        refine r_p dX12_layRow_37 rfl rfl ?_
        show tR _ _ _ _ [some (.ref 571), some (.int v1), some (.int v2), some (.int 0)] _ _ _ _
        refine r_eV (r' := x_m_layRow_38 v1 v2 (fun (w1_3 : Int32) (T201 : St) => x_m_layRow_9 K f (v1 + 1) (v2 + 1) T201) 1000 0 T) (by rw [x_m_layRow_9]; rw [if_neg c17_1, if_pos c33_2]) ((c_m_layRow_38 v1 v2 (fun w1_3 T201 kk => ?_) 1000 0 T kk))
        · try dsimp only at kk
          refine r_inc (y := 1) dX12_layRow_110 rfl rfl rfl ?_
          refine r_inc (y := 1) dX12_layRow_113 rfl rfl rfl ?_
          refine r_go dX12_layRow_116 rfl ?_
          show tR _ _ _ _ [some (.ref 571), some (.int (v1 + 1)), some (.int (v2 + 1)), some (.int w1_3)] _ _ _ _
          exact r_eV (r' := x_m_layRow_9 K f (v1 + 1) (v2 + 1) T201) rfl (r_le (le_s (le_s (le_s (le_n (le_0))))) (ih (v1 + 1) (v2 + 1) T201 kk))
def x_m_layRow (T : St)  : St := x_m_layRow_9  (fun (w2_1 : Int32) (w2_2 : Int32) (T202 : St) => T202) 1000 0 0 (sF T 571 39 0)
def ok_m_layRow (T : St)  : Prop := ok_m_layRow_9  (fun (w2_1 : Int32) (w2_2 : Int32) (T202 : St) => True) 1000 0 0 (sF T 571 39 0)
theorem c_m_layRow {X : Nat × (Nat → Int32)} {T : St}  (kk : ok_m_layRow T ) : tC X 2 mX12_layRow [.ref 571] T none (x_m_layRow T) := by
  unfold ok_m_layRow at kk
  refine tC_of ?_
  refine r_p dX12_layRow_0 rfl rfl ?_
  refine r_ci (x := 0) dX12_layRow_1 rfl ?_
  refine r_put dX12_layRow_2 fkX12_302 rfl rfl rfl (Nat.le_of_ble_eq_true rfl) rfl rfl ?_
  refine r_ci (x := 0) dX12_layRow_5 rfl ?_
  refine r_p dX12_layRow_6 rfl rfl ?_
  refine r_ci (x := 0) dX12_layRow_7 rfl ?_
  refine r_p dX12_layRow_8 rfl rfl ?_
  show tR _ _ _ _ [some (.ref 571), some (.int 0), some (.int 0), none] _ _ _ _
  refine r_eV (r' := x_m_layRow_9  (fun (w2_1 : Int32) (w2_2 : Int32) (T202 : St) => T202) 1000 0 0 (sF T 571 39 0)) (by unfold x_m_layRow; rfl) ((c_m_layRow_9  (fun w2_1 w2_2 T202 kk => ?_) 1000 0 0 (sF T 571 39 0) kk))
  · exact r_eV (r' := T202) rfl (r_rv dX12_layRow_119 rfl rfl rfl)
def x_m_know_61 (l1 : Int32) (K : Int32 → St → Int32 × St) : Nat → Int32 → St → Int32 × St
  | 0, _, T => (0, T)
  | f + 1, v2, T => if 4 ≤ v2 then (K v2 T) else (x_m_know_61 l1 K f (v2 + 1) (sA T 592 (v2 : Int32).toNatClampNeg (T.2.2.1 589 (v2 : Int32).toNatClampNeg)))
def ok_m_know_61 (l1 : Int32) (Kk : Int32 → St → Prop) : Nat → Int32 → St → Prop
  | 0, _, _ => False
  | f + 1, v2, T => ((4 ≤ v2 → Kk v2 T) ∧ (¬ 4 ≤ v2 → (vp_in v2 4) ∧ ok_m_know_61 l1 Kk f (v2 + 1) (sA T 592 (v2 : Int32).toNatClampNeg (T.2.2.1 589 (v2 : Int32).toNatClampNeg))))
theorem c_m_know_61 {X : Nat × (Nat → Int32)} (l1 : Int32) {K : Int32 → St → Int32 × St} {Kk : Int32 → St → Prop} (hk : ∀ (v2 : Int32) (T : St), Kk v2 T → tR X 5 mX12_know 84 [some (.ref 571), some (.int l1), some (.int v2)] [] T (some (.int (K v2 T).1)) ((K v2 T).2)) : ∀ (f : Nat) (v2 : Int32) (T : St), ok_m_know_61 l1 Kk f v2 T → tR X 5 mX12_know 61 [some (.ref 571), some (.int l1), some (.int v2)] [] T (some (.int (x_m_know_61 l1 K f v2 T).1)) ((x_m_know_61 l1 K f v2 T).2) := by
  intro f
  induction f with
  | zero => intro v2 T kk; exact kk.elim
  | succ f ih =>
    intro v2 T kk
    rw [ok_m_know_61] at kk
    refine r_p dX12_know_61 rfl rfl ?_
    refine r_ci (x := 4) dX12_know_62 rfl ?_
    refine r_cge dX12_know_63 rfl (fun c63_2 => ?_) (fun c63_2 => ?_)
    · have kk := kk.1 c63_2
      show tR _ _ _ _ [some (.ref 571), some (.int l1), some (.int v2)] _ _ _ _
      exact r_eI (r' := K v2 T) (by rw [x_m_know_61]; rw [if_pos c63_2]) ((hk v2 T kk))
    · have kk := kk.2 c63_2
      refine r_p dX12_know_66 rfl rfl ?_
      refine r_get dX12_know_67 fkX12_70 rfl rfl ?_
      refine r_p dX12_know_70 rfl rfl ?_
      refine r_p dX12_know_71 rfl rfl ?_
      refine r_get dX12_know_72 fkX12_61 rfl rfl ?_
      refine r_p dX12_know_75 rfl rfl ?_
      obtain ⟨q6, kk⟩ := kk
      refine r_ia dX12_know_76 rfl q6 ?_
      refine r_ias dX12_know_77 rfl q6 ?_
      refine r_inc (y := 1) dX12_know_78 rfl rfl rfl ?_
      refine r_go dX12_know_81 rfl ?_
      show tR _ _ _ _ [some (.ref 571), some (.int l1), some (.int (v2 + 1))] _ _ _ _
      exact r_eI (r' := x_m_know_61 l1 K f (v2 + 1) (sA T 592 (v2 : Int32).toNatClampNeg (T.2.2.1 589 (v2 : Int32).toNatClampNeg))) (by rw [x_m_know_61]; rw [if_neg c63_2]) ((ih (v2 + 1) (sA T 592 (v2 : Int32).toNatClampNeg (T.2.2.1 589 (v2 : Int32).toNatClampNeg)) kk))
def x_m_know_86 (l1 : Int32) (K : Int32 → St → Int32 × St) : Nat → Int32 → St → Int32 × St
  | 0, _, T => (0, T)
  | f + 1, v2, T => if 12 ≤ v2 then (K v2 T) else (x_m_know_86 l1 K f (v2 + 1) (sA T 593 (v2 : Int32).toNatClampNeg (T.2.2.1 590 (v2 : Int32).toNatClampNeg)))
def ok_m_know_86 (l1 : Int32) (Kk : Int32 → St → Prop) : Nat → Int32 → St → Prop
  | 0, _, _ => False
  | f + 1, v2, T => ((12 ≤ v2 → Kk v2 T) ∧ (¬ 12 ≤ v2 → (vp_in v2 12) ∧ ok_m_know_86 l1 Kk f (v2 + 1) (sA T 593 (v2 : Int32).toNatClampNeg (T.2.2.1 590 (v2 : Int32).toNatClampNeg))))
theorem c_m_know_86 {X : Nat × (Nat → Int32)} (l1 : Int32) {K : Int32 → St → Int32 × St} {Kk : Int32 → St → Prop} (hk : ∀ (v2 : Int32) (T : St), Kk v2 T → tR X 5 mX12_know 110 [some (.ref 571), some (.int l1), some (.int v2)] [] T (some (.int (K v2 T).1)) ((K v2 T).2)) : ∀ (f : Nat) (v2 : Int32) (T : St), ok_m_know_86 l1 Kk f v2 T → tR X 5 mX12_know 86 [some (.ref 571), some (.int l1), some (.int v2)] [] T (some (.int (x_m_know_86 l1 K f v2 T).1)) ((x_m_know_86 l1 K f v2 T).2) := by
  intro f
  induction f with
  | zero => intro v2 T kk; exact kk.elim
  | succ f ih =>
    intro v2 T kk
    rw [ok_m_know_86] at kk
    refine r_p dX12_know_86 rfl rfl ?_
    refine r_cb (x := 12) dX12_know_87 rfl ?_
    refine r_cge dX12_know_89 rfl (fun c89_3 => ?_) (fun c89_3 => ?_)
    · have kk := kk.1 c89_3
      show tR _ _ _ _ [some (.ref 571), some (.int l1), some (.int v2)] _ _ _ _
      exact r_eI (r' := K v2 T) (by rw [x_m_know_86]; rw [if_pos c89_3]) ((hk v2 T kk))
    · have kk := kk.2 c89_3
      refine r_p dX12_know_92 rfl rfl ?_
      refine r_get dX12_know_93 fkX12_73 rfl rfl ?_
      refine r_p dX12_know_96 rfl rfl ?_
      refine r_p dX12_know_97 rfl rfl ?_
      refine r_get dX12_know_98 fkX12_64 rfl rfl ?_
      refine r_p dX12_know_101 rfl rfl ?_
      obtain ⟨q7, kk⟩ := kk
      refine r_ia dX12_know_102 rfl q7 ?_
      refine r_ias dX12_know_103 rfl q7 ?_
      refine r_inc (y := 1) dX12_know_104 rfl rfl rfl ?_
      refine r_go dX12_know_107 rfl ?_
      show tR _ _ _ _ [some (.ref 571), some (.int l1), some (.int (v2 + 1))] _ _ _ _
      exact r_eI (r' := x_m_know_86 l1 K f (v2 + 1) (sA T 593 (v2 : Int32).toNatClampNeg (T.2.2.1 590 (v2 : Int32).toNatClampNeg))) (by rw [x_m_know_86]; rw [if_neg c89_3]) ((ih (v2 + 1) (sA T 593 (v2 : Int32).toNatClampNeg (T.2.2.1 590 (v2 : Int32).toNatClampNeg)) kk))
def x_m_know (T : St) (p0 : Int32) : Int32 × St := jn (fun (KJ1 : St → Int32 × St) => if (T.1 571 34) = p0 then (KJ1 T) else (fun (T3 : St) => (fun (T4 : St) => x_m_know_61 p0 (fun (w3_2 : Int32) (T203 : St) => x_m_know_86 p0 (fun (w4_2 : Int32) (T204 : St) => KJ1 T204) 1000 0 T203) 1000 0 (sF (sF T4 571 34 p0) 571 36 ((sF T4 571 34 p0).1 571 31))) (sF T3 571 35 ((x_m_seek (sF T 571 32 0) ((sF T 571 32 0).2.2.1 575 (202 : Int32).toNatClampNeg) p0 ((sF T 571 32 0).2.2.1 575 (5 : Int32).toNatClampNeg) ((sF T 571 32 0).2.2.1 575 (203 : Int32).toNatClampNeg) 0 0).1))) ((x_m_seek (sF T 571 32 0) ((sF T 571 32 0).2.2.1 575 (202 : Int32).toNatClampNeg) p0 ((sF T 571 32 0).2.2.1 575 (5 : Int32).toNatClampNeg) ((sF T 571 32 0).2.2.1 575 (203 : Int32).toNatClampNeg) 0 0).2)) (fun (T301 : St) => ((x_m_layRow T301).1 571 35, x_m_layRow T301))
def ok_m_know (T : St) (p0 : Int32) : Prop := jn (fun (OJ1 : St → Prop) => (((T.1 571 34) = p0 → OJ1 T) ∧ (¬ (T.1 571 34) = p0 → (vp_in 202 204) ∧ (vp_in 5 204) ∧ (vp_in 203 204) ∧ (ok_m_seek (sF T 571 32 0) ((sF T 571 32 0).2.2.1 575 (202 : Int32).toNatClampNeg) p0 ((sF T 571 32 0).2.2.1 575 (5 : Int32).toNatClampNeg) ((sF T 571 32 0).2.2.1 575 (203 : Int32).toNatClampNeg) 0 0) ∧ (fun (T3 : St) => (((x_m_seek (sF T 571 32 0) ((sF T 571 32 0).2.2.1 575 (202 : Int32).toNatClampNeg) p0 ((sF T 571 32 0).2.2.1 575 (5 : Int32).toNatClampNeg) ((sF T 571 32 0).2.2.1 575 (203 : Int32).toNatClampNeg) 0 0).1 = 0 ∨ (x_m_seek (sF T 571 32 0) ((sF T 571 32 0).2.2.1 575 (202 : Int32).toNatClampNeg) p0 ((sF T 571 32 0).2.2.1 575 (5 : Int32).toNatClampNeg) ((sF T 571 32 0).2.2.1 575 (203 : Int32).toNatClampNeg) 0 0).1 = (1 : Int32))) ∧ (fun (T4 : St) => ok_m_know_61 p0 (fun (w3_2 : Int32) (T203 : St) => ok_m_know_86 p0 (fun (w4_2 : Int32) (T204 : St) => OJ1 T204) 1000 0 T203) 1000 0 (sF (sF T4 571 34 p0) 571 36 ((sF T4 571 34 p0).1 571 31))) (sF T3 571 35 ((x_m_seek (sF T 571 32 0) ((sF T 571 32 0).2.2.1 575 (202 : Int32).toNatClampNeg) p0 ((sF T 571 32 0).2.2.1 575 (5 : Int32).toNatClampNeg) ((sF T 571 32 0).2.2.1 575 (203 : Int32).toNatClampNeg) 0 0).1))) ((x_m_seek (sF T 571 32 0) ((sF T 571 32 0).2.2.1 575 (202 : Int32).toNatClampNeg) p0 ((sF T 571 32 0).2.2.1 575 (5 : Int32).toNatClampNeg) ((sF T 571 32 0).2.2.1 575 (203 : Int32).toNatClampNeg) 0 0).2)))) (fun (T301 : St) => (ok_m_layRow T301) ∧ (((x_m_layRow T301).1 571 35 = 0 ∨ (x_m_layRow T301).1 571 35 = (1 : Int32))) ∧ True)
theorem c_m_know {X : Nat × (Nat → Int32)} {T : St} (p0 : Int32) (kk : ok_m_know T p0) : tC X 6 mX12_know [.ref 571, .int p0] T (some (.int (x_m_know T p0).1)) ((x_m_know T p0).2) := by
  unfold ok_m_know at kk
  refine tC_of ?_
  refine r_p dX12_know_0 rfl rfl ?_
  refine r_get dX12_know_1 fkX12_299 rfl rfl ?_
  refine r_p dX12_know_4 rfl rfl ?_
  obtain ⟨KJ1, hKJ1⟩ : ∃ q : St → Int32 × St, q = (fun (T301 : St) => ((x_m_layRow T301).1 571 35, x_m_layRow T301)) := ⟨_, rfl⟩
  obtain ⟨OJ1, hOJ1⟩ : ∃ q : St → Prop, q = (fun (T301 : St) => (ok_m_layRow T301) ∧ (((x_m_layRow T301).1 571 35 = 0 ∨ (x_m_layRow T301).1 571 35 = (1 : Int32))) ∧ True) := ⟨_, rfl⟩
  rw [← hOJ1] at kk
  simp only [jn] at kk
  have hJ1 : ∀ (T301 : St), OJ1 T301 → tR X 5 mX12_know 110 [some (.ref 571), some (.int p0), none] [] T301 (some (.int (KJ1 T301).1)) ((KJ1 T301).2) := by
    intro T301 kk
    rw [hOJ1] at kk
    try dsimp only at kk
    rw [hKJ1]
    refine r_p dX12_know_110 rfl rfl ?_
    obtain ⟨q8, kk⟩ := kk
    refine r_cv (d1 := 2) dX12_know_111 cvX12_315 rfl rfl rfl rfl (Nat.le_of_ble_eq_true rfl) (Nat.le_of_ble_eq_true rfl) (Nat.le_of_ble_eq_true rfl) (c_m_layRow  q8) ?_
    refine r_p dX12_know_114 rfl rfl ?_
    refine r_get dX12_know_115 fkX12_309 rfl rfl ?_
    obtain ⟨q9, kk⟩ := kk
    exact r_eI (r' := ((x_m_layRow T301).1 571 35, x_m_layRow T301)) rfl (r_ri dX12_know_118 rfl (nar_b q9) rfl rfl)
  refine r_eI (r' := jn (fun (KJ1 : St → Int32 × St) => if (T.1 571 34) = p0 then (KJ1 T) else (fun (T3 : St) => (fun (T4 : St) => x_m_know_61 p0 (fun (w3_2 : Int32) (T203 : St) => x_m_know_86 p0 (fun (w4_2 : Int32) (T204 : St) => KJ1 T204) 1000 0 T203) 1000 0 (sF (sF T4 571 34 p0) 571 36 ((sF T4 571 34 p0).1 571 31))) (sF T3 571 35 ((x_m_seek (sF T 571 32 0) ((sF T 571 32 0).2.2.1 575 (202 : Int32).toNatClampNeg) p0 ((sF T 571 32 0).2.2.1 575 (5 : Int32).toNatClampNeg) ((sF T 571 32 0).2.2.1 575 (203 : Int32).toNatClampNeg) 0 0).1))) ((x_m_seek (sF T 571 32 0) ((sF T 571 32 0).2.2.1 575 (202 : Int32).toNatClampNeg) p0 ((sF T 571 32 0).2.2.1 575 (5 : Int32).toNatClampNeg) ((sF T 571 32 0).2.2.1 575 (203 : Int32).toNatClampNeg) 0 0).2)) KJ1) (by rw [hKJ1]; unfold x_m_know; rfl) ?_
  refine r_ceq dX12_know_5 rfl (fun c5_4 => ?_) (fun c5_4 => ?_)
  · have kk := kk.1 c5_4
    show tR _ _ _ _ [some (.ref 571), some (.int p0), none] [] _ _ _
    exact r_eI (r' := KJ1 T) (by simp only [jn]; rw [if_pos c5_4]) ((hJ1 T kk))
  · have kk := kk.2 c5_4
    refine r_p dX12_know_8 rfl rfl ?_
    refine r_ci (x := 0) dX12_know_9 rfl ?_
    refine r_put dX12_know_10 fkX12_268 rfl rfl rfl (Nat.le_of_ble_eq_true rfl) rfl rfl ?_
    refine r_p dX12_know_13 rfl rfl ?_
    refine r_p dX12_know_14 rfl rfl ?_
    refine r_p dX12_know_15 rfl rfl ?_
    refine r_get dX12_know_16 fkX12_19 rfl rfl ?_
    refine r_csi (x := 202) dX12_know_19 rfl ?_
    obtain ⟨q10, kk⟩ := kk
    refine r_ia dX12_know_22 rfl q10 ?_
    refine r_p dX12_know_23 rfl rfl ?_
    refine r_p dX12_know_24 rfl rfl ?_
    refine r_get dX12_know_25 fkX12_19 rfl rfl ?_
    refine r_ci (x := 5) dX12_know_28 rfl ?_
    obtain ⟨q11, kk⟩ := kk
    refine r_ia dX12_know_29 rfl q11 ?_
    refine r_p dX12_know_30 rfl rfl ?_
    refine r_get dX12_know_31 fkX12_19 rfl rfl ?_
    refine r_csi (x := 203) dX12_know_34 rfl ?_
    obtain ⟨q12, kk⟩ := kk
    refine r_ia dX12_know_37 rfl q12 ?_
    refine r_ci (x := 0) dX12_know_38 rfl ?_
    refine r_ci (x := 0) dX12_know_39 rfl ?_
    obtain ⟨q13, kk⟩ := kk
    refine r_cv (d1 := 5) dX12_know_40 cvX12_305 rfl rfl rfl rfl (Nat.le_of_ble_eq_true rfl) (Nat.le_of_ble_eq_true rfl) (Nat.le_of_ble_eq_true rfl) (c_m_seek ((sF T 571 32 0).2.2.1 575 (202 : Int32).toNatClampNeg) p0 ((sF T 571 32 0).2.2.1 575 (5 : Int32).toNatClampNeg) ((sF T 571 32 0).2.2.1 575 (203 : Int32).toNatClampNeg) 0 0 q13) ?_
    refine r_eI (r' := (fun (T3 : St) => (fun (T4 : St) => x_m_know_61 p0 (fun (w3_2 : Int32) (T203 : St) => x_m_know_86 p0 (fun (w4_2 : Int32) (T204 : St) => KJ1 T204) 1000 0 T203) 1000 0 (sF (sF T4 571 34 p0) 571 36 ((sF T4 571 34 p0).1 571 31))) (sF T3 571 35 ((x_m_seek (sF T 571 32 0) ((sF T 571 32 0).2.2.1 575 (202 : Int32).toNatClampNeg) p0 ((sF T 571 32 0).2.2.1 575 (5 : Int32).toNatClampNeg) ((sF T 571 32 0).2.2.1 575 (203 : Int32).toNatClampNeg) 0 0).1))) ((x_m_seek (sF T 571 32 0) ((sF T 571 32 0).2.2.1 575 (202 : Int32).toNatClampNeg) p0 ((sF T 571 32 0).2.2.1 575 (5 : Int32).toNatClampNeg) ((sF T 571 32 0).2.2.1 575 (203 : Int32).toNatClampNeg) 0 0).2)) (by simp only [jn]; rw [if_neg c5_4]) ?_
    generalize (x_m_seek (sF T 571 32 0) ((sF T 571 32 0).2.2.1 575 (202 : Int32).toNatClampNeg) p0 ((sF T 571 32 0).2.2.1 575 (5 : Int32).toNatClampNeg) ((sF T 571 32 0).2.2.1 575 (203 : Int32).toNatClampNeg) 0 0).2 = T3 at kk ⊢
    try dsimp only at kk
    obtain ⟨q14, kk⟩ := kk
    refine r_put dX12_know_43 fkX12_309 rfl rfl rfl (Nat.le_of_ble_eq_true rfl) (nar_b q14) (fit_b q14) ?_
    refine r_eI (r' := (fun (T4 : St) => x_m_know_61 p0 (fun (w3_2 : Int32) (T203 : St) => x_m_know_86 p0 (fun (w4_2 : Int32) (T204 : St) => KJ1 T204) 1000 0 T203) 1000 0 (sF (sF T4 571 34 p0) 571 36 ((sF T4 571 34 p0).1 571 31))) (sF T3 571 35 ((x_m_seek (sF T 571 32 0) ((sF T 571 32 0).2.2.1 575 (202 : Int32).toNatClampNeg) p0 ((sF T 571 32 0).2.2.1 575 (5 : Int32).toNatClampNeg) ((sF T 571 32 0).2.2.1 575 (203 : Int32).toNatClampNeg) 0 0).1))) rfl ?_
    generalize sF T3 571 35 ((x_m_seek (sF T 571 32 0) ((sF T 571 32 0).2.2.1 575 (202 : Int32).toNatClampNeg) p0 ((sF T 571 32 0).2.2.1 575 (5 : Int32).toNatClampNeg) ((sF T 571 32 0).2.2.1 575 (203 : Int32).toNatClampNeg) 0 0).1) = T4 at kk ⊢
    try dsimp only at kk
    refine r_p dX12_know_46 rfl rfl ?_
    refine r_p dX12_know_47 rfl rfl ?_
    refine r_put dX12_know_48 fkX12_299 rfl rfl rfl (Nat.le_of_ble_eq_true rfl) rfl rfl ?_
    refine r_p dX12_know_51 rfl rfl ?_
    refine r_p dX12_know_52 rfl rfl ?_
    refine r_get dX12_know_53 fkX12_296 rfl rfl ?_
    refine r_put dX12_know_56 fkX12_312 rfl rfl rfl (Nat.le_of_ble_eq_true rfl) rfl rfl ?_
    refine r_ci (x := 0) dX12_know_59 rfl ?_
    refine r_p dX12_know_60 rfl rfl ?_
    show tR _ _ _ _ [some (.ref 571), some (.int p0), some (.int 0)] _ _ _ _
    refine r_eI (r' := x_m_know_61 p0 (fun (w3_2 : Int32) (T203 : St) => x_m_know_86 p0 (fun (w4_2 : Int32) (T204 : St) => KJ1 T204) 1000 0 T203) 1000 0 (sF (sF T4 571 34 p0) 571 36 ((sF T4 571 34 p0).1 571 31))) rfl ((c_m_know_61 p0 (fun w3_2 T203 kk => ?_) 1000 0 (sF (sF T4 571 34 p0) 571 36 ((sF T4 571 34 p0).1 571 31)) kk))
    · try dsimp only at kk
      refine r_ci (x := 0) dX12_know_84 rfl ?_
      refine r_p dX12_know_85 rfl rfl ?_
      show tR _ _ _ _ [some (.ref 571), some (.int p0), some (.int 0)] _ _ _ _
      refine r_eI (r' := x_m_know_86 p0 (fun (w4_2 : Int32) (T204 : St) => KJ1 T204) 1000 0 T203) rfl ((c_m_know_86 p0 (fun w4_2 T204 kk => ?_) 1000 0 T203 kk))
      · try dsimp only at kk
        show tR _ _ _ _ [some (.ref 571), some (.int p0), some (.int w4_2)] [] _ _ _
        exact r_eI (r' := KJ1 T204) rfl (r_le (le_s (le_s (le_n (le_0)))) (hJ1 T204 kk))
def x_m_least (T : St) (p0 : Int32) (p1 : Int32) : Int32 × St := if (x_m_isBy (sF T 571 0 0) p0) = 0 then ((-1000001), sF T 571 0 0) else (if (-1) ≤ p1 then (if ((sF T 571 0 0).1 571 7) = 0 then ((-1000002), sF T 571 0 0) else (if ((x_m_know (sF T 571 0 0) p0).1) = 0 then ((-1000000), (x_m_know (sF T 571 0 0) p0).2) else (if p1 = (-1) then (((x_m_know (sF T 571 0 0) p0).2).1 571 36, (x_m_know (sF T 571 0 0) p0).2) else (if (x_m_bits ((x_m_know (sF T 571 0 0) p0).2) (((x_m_know (sF T 571 0 0) p0).2).2.2.1 575 (202 : Int32).toNatClampNeg)) ≤ p1 then ((-1000000), (x_m_know (sF T 571 0 0) p0).2) else (((x_m_know (sF T 571 0 0) p0).2).2.2.1 592 (p1 : Int32).toNatClampNeg, (x_m_know (sF T 571 0 0) p0).2))))) else ((-1000001), sF T 571 0 0))
def ok_m_least (T : St) (p0 : Int32) (p1 : Int32) : Prop := (¬ (x_m_isBy (sF T 571 0 0) p0) = 0 → ((-1) ≤ p1 → (¬ ((sF T 571 0 0).1 571 7) = 0 → (ok_m_know (sF T 571 0 0) p0) ∧ (¬ ((x_m_know (sF T 571 0 0) p0).1) = 0 → (¬ p1 = (-1) → (vp_in 202 204) ∧ (ok_m_bits ((x_m_know (sF T 571 0 0) p0).2) (((x_m_know (sF T 571 0 0) p0).2).2.2.1 575 (202 : Int32).toNatClampNeg)) ∧ (¬ (x_m_bits ((x_m_know (sF T 571 0 0) p0).2) (((x_m_know (sF T 571 0 0) p0).2).2.2.1 575 (202 : Int32).toNatClampNeg)) ≤ p1 → (vp_in p1 4) ∧ True))))))
theorem c_m_least {X : Nat × (Nat → Int32)} {T : St} (p0 : Int32) (p1 : Int32) (kk : ok_m_least T p0 p1) : tC X 7 mX12_least [.ref 571, .int p0, .int p1] T (some (.int (x_m_least T p0 p1).1)) ((x_m_least T p0 p1).2) := by
  unfold ok_m_least at kk
  refine tC_of ?_
  refine r_p dX12_least_0 rfl rfl ?_
  refine r_ci (x := 0) dX12_least_1 rfl ?_
  refine r_put dX12_least_2 fkX12_101 rfl rfl rfl (Nat.le_of_ble_eq_true rfl) rfl rfl ?_
  refine r_p dX12_least_5 rfl rfl ?_
  refine r_cs (d1 := 2) dX12_least_6 csX12_318 rfl rfl (Nat.le_of_ble_eq_true rfl) (Nat.le_of_ble_eq_true rfl) (Nat.le_of_ble_eq_true rfl) (c_m_isBy p0) ?_
  refine r_ieq dX12_least_9 rfl (fun c9_1 => ?_) (fun c9_1 => ?_)
  · refine r_k dX12_least_17 kkX12_121 ?_
    exact r_eI (r' := ((-1000001), sF T 571 0 0)) (by unfold x_m_least; rw [if_pos c9_1]) (r_ri dX12_least_19 rfl rfl rfl rfl)
  · have kk := kk c9_1
    refine r_p dX12_least_12 rfl rfl ?_
    refine r_ci (x := -1) dX12_least_13 rfl ?_
    refine r_cge dX12_least_14 rfl (fun c14_2 => ?_) (fun c14_2 => ?_)
    · have kk := kk c14_2
      refine r_p dX12_least_20 rfl rfl ?_
      refine r_get dX12_least_21 fkX12_221 rfl rfl ?_
      refine r_ine dX12_least_24 rfl (fun c24_3 => ?_) (fun c24_3 => ?_)
      · have kk := kk c24_3
        refine r_p dX12_least_30 rfl rfl ?_
        refine r_p dX12_least_31 rfl rfl ?_
        obtain ⟨q1, kk⟩ := kk
        refine r_cv (d1 := 6) dX12_least_32 cvX12_321 rfl rfl rfl rfl (Nat.le_of_ble_eq_true rfl) (Nat.le_of_ble_eq_true rfl) (Nat.le_of_ble_eq_true rfl) (c_m_know p0 q1) ?_
        refine r_ine dX12_least_35 rfl (fun c35_4 => ?_) (fun c35_4 => ?_)
        · have kk := kk c35_4
          refine r_p dX12_least_41 rfl rfl ?_
          refine r_ci (x := -1) dX12_least_42 rfl ?_
          refine r_cne dX12_least_43 rfl (fun c43_5 => ?_) (fun c43_5 => ?_)
          · have kk := kk c43_5
            refine r_p dX12_least_53 rfl rfl ?_
            refine r_p dX12_least_54 rfl rfl ?_
            refine r_get dX12_least_55 fkX12_19 rfl rfl ?_
            refine r_csi (x := 202) dX12_least_58 rfl ?_
            obtain ⟨q2, kk⟩ := kk
            refine r_ia dX12_least_61 rfl q2 ?_
            obtain ⟨q3, kk⟩ := kk
            refine r_cs (d1 := 1) dX12_least_62 csX12_263 rfl rfl (Nat.le_of_ble_eq_true rfl) (Nat.le_of_ble_eq_true rfl) (Nat.le_of_ble_eq_true rfl) (c_m_bits (((x_m_know (sF T 571 0 0) p0).2).2.2.1 575 (202 : Int32).toNatClampNeg) q3) ?_
            refine r_cge dX12_least_65 rfl (fun c65_6 => ?_) (fun c65_6 => ?_)
            · refine r_k dX12_least_77 kkX12_137 ?_
              exact r_eI (r' := ((-1000000), (x_m_know (sF T 571 0 0) p0).2)) (by unfold x_m_least; rw [if_neg c9_1, if_pos c14_2, if_neg c24_3, if_neg c35_4, if_neg c43_5, if_pos c65_6]) (r_ri dX12_least_79 rfl rfl rfl rfl)
            · have kk := kk c65_6
              refine r_p dX12_least_68 rfl rfl ?_
              refine r_get dX12_least_69 fkX12_70 rfl rfl ?_
              refine r_p dX12_least_72 rfl rfl ?_
              obtain ⟨q4, kk⟩ := kk
              refine r_ia dX12_least_73 rfl q4 ?_
              refine r_go dX12_least_74 rfl ?_
              exact r_eI (r' := (((x_m_know (sF T 571 0 0) p0).2).2.2.1 592 (p1 : Int32).toNatClampNeg, (x_m_know (sF T 571 0 0) p0).2)) (by unfold x_m_least; rw [if_neg c9_1, if_pos c14_2, if_neg c24_3, if_neg c35_4, if_neg c43_5, if_neg c65_6]) (r_ri dX12_least_79 rfl rfl rfl rfl)
          · refine r_p dX12_least_46 rfl rfl ?_
            refine r_get dX12_least_47 fkX12_312 rfl rfl ?_
            refine r_go dX12_least_50 rfl ?_
            exact r_eI (r' := (((x_m_know (sF T 571 0 0) p0).2).1 571 36, (x_m_know (sF T 571 0 0) p0).2)) (by unfold x_m_least; rw [if_neg c9_1, if_pos c14_2, if_neg c24_3, if_neg c35_4, if_pos c43_5]) (r_ri dX12_least_79 rfl rfl rfl rfl)
        · refine r_k dX12_least_38 kkX12_137 ?_
          exact r_eI (r' := ((-1000000), (x_m_know (sF T 571 0 0) p0).2)) (by unfold x_m_least; rw [if_neg c9_1, if_pos c14_2, if_neg c24_3, if_pos c35_4]) (r_ri dX12_least_40 rfl rfl rfl rfl)
      · refine r_k dX12_least_27 kkX12_253 ?_
        exact r_eI (r' := ((-1000002), sF T 571 0 0)) (by unfold x_m_least; rw [if_neg c9_1, if_pos c14_2, if_pos c24_3]) (r_ri dX12_least_29 rfl rfl rfl rfl)
    · refine r_k dX12_least_17 kkX12_121 ?_
      exact r_eI (r' := ((-1000001), sF T 571 0 0)) (by unfold x_m_least; rw [if_neg c9_1, if_neg c14_2]) (r_ri dX12_least_19 rfl rfl rfl rfl)
def x_m_begins (T : St) (p0 : Int32) (p1 : Int32) : Int32 × St := if (x_m_isBy (sF T 571 0 0) p0) = 0 then ((-1000001), sF T 571 0 0) else (if 0 ≤ p1 then (if ((sF T 571 0 0).1 571 7) = 0 then ((-1000002), sF T 571 0 0) else (if ((x_m_know (sF T 571 0 0) p0).1) = 0 then ((-1000000), (x_m_know (sF T 571 0 0) p0).2) else (if (((x_m_know (sF T 571 0 0) p0).2).1 571 39) ≤ p1 then ((-1000000), (x_m_know (sF T 571 0 0) p0).2) else (((x_m_know (sF T 571 0 0) p0).2).2.2.1 595 (p1 : Int32).toNatClampNeg, (x_m_know (sF T 571 0 0) p0).2)))) else ((-1000001), sF T 571 0 0))
def ok_m_begins (T : St) (p0 : Int32) (p1 : Int32) : Prop := (¬ (x_m_isBy (sF T 571 0 0) p0) = 0 → (0 ≤ p1 → (¬ ((sF T 571 0 0).1 571 7) = 0 → (ok_m_know (sF T 571 0 0) p0) ∧ (¬ ((x_m_know (sF T 571 0 0) p0).1) = 0 → (¬ (((x_m_know (sF T 571 0 0) p0).2).1 571 39) ≤ p1 → (vp_in p1 12) ∧ True)))))
theorem c_m_begins {X : Nat × (Nat → Int32)} {T : St} (p0 : Int32) (p1 : Int32) (kk : ok_m_begins T p0 p1) : tC X 7 mX12_begins [.ref 571, .int p0, .int p1] T (some (.int (x_m_begins T p0 p1).1)) ((x_m_begins T p0 p1).2) := by
  unfold ok_m_begins at kk
  refine tC_of ?_
  refine r_p dX12_begins_0 rfl rfl ?_
  refine r_ci (x := 0) dX12_begins_1 rfl ?_
  refine r_put dX12_begins_2 fkX12_101 rfl rfl rfl (Nat.le_of_ble_eq_true rfl) rfl rfl ?_
  refine r_p dX12_begins_5 rfl rfl ?_
  refine r_cs (d1 := 2) dX12_begins_6 csX12_318 rfl rfl (Nat.le_of_ble_eq_true rfl) (Nat.le_of_ble_eq_true rfl) (Nat.le_of_ble_eq_true rfl) (c_m_isBy p0) ?_
  refine r_ieq dX12_begins_9 rfl (fun c9_1 => ?_) (fun c9_1 => ?_)
  · refine r_k dX12_begins_16 kkX12_121 ?_
    exact r_eI (r' := ((-1000001), sF T 571 0 0)) (by unfold x_m_begins; rw [if_pos c9_1]) (r_ri dX12_begins_18 rfl rfl rfl rfl)
  · have kk := kk c9_1
    refine r_p dX12_begins_12 rfl rfl ?_
    refine r_ige dX12_begins_13 rfl (fun c13_2 => ?_) (fun c13_2 => ?_)
    · have kk := kk c13_2
      refine r_p dX12_begins_19 rfl rfl ?_
      refine r_get dX12_begins_20 fkX12_221 rfl rfl ?_
      refine r_ine dX12_begins_23 rfl (fun c23_3 => ?_) (fun c23_3 => ?_)
      · have kk := kk c23_3
        refine r_p dX12_begins_29 rfl rfl ?_
        refine r_p dX12_begins_30 rfl rfl ?_
        obtain ⟨q1, kk⟩ := kk
        refine r_cv (d1 := 6) dX12_begins_31 cvX12_321 rfl rfl rfl rfl (Nat.le_of_ble_eq_true rfl) (Nat.le_of_ble_eq_true rfl) (Nat.le_of_ble_eq_true rfl) (c_m_know p0 q1) ?_
        refine r_ieq dX12_begins_34 rfl (fun c34_4 => ?_) (fun c34_4 => ?_)
        · refine r_k dX12_begins_54 kkX12_137 ?_
          exact r_eI (r' := ((-1000000), (x_m_know (sF T 571 0 0) p0).2)) (by unfold x_m_begins; rw [if_neg c9_1, if_pos c13_2, if_neg c23_3, if_pos c34_4]) (r_ri dX12_begins_56 rfl rfl rfl rfl)
        · have kk := kk c34_4
          refine r_p dX12_begins_37 rfl rfl ?_
          refine r_p dX12_begins_38 rfl rfl ?_
          refine r_get dX12_begins_39 fkX12_302 rfl rfl ?_
          refine r_cge dX12_begins_42 rfl (fun c42_5 => ?_) (fun c42_5 => ?_)
          · refine r_k dX12_begins_54 kkX12_137 ?_
            exact r_eI (r' := ((-1000000), (x_m_know (sF T 571 0 0) p0).2)) (by unfold x_m_begins; rw [if_neg c9_1, if_pos c13_2, if_neg c23_3, if_neg c34_4, if_pos c42_5]) (r_ri dX12_begins_56 rfl rfl rfl rfl)
          · have kk := kk c42_5
            refine r_p dX12_begins_45 rfl rfl ?_
            refine r_get dX12_begins_46 fkX12_79 rfl rfl ?_
            refine r_p dX12_begins_49 rfl rfl ?_
            obtain ⟨q2, kk⟩ := kk
            refine r_ia dX12_begins_50 rfl q2 ?_
            refine r_go dX12_begins_51 rfl ?_
            exact r_eI (r' := (((x_m_know (sF T 571 0 0) p0).2).2.2.1 595 (p1 : Int32).toNatClampNeg, (x_m_know (sF T 571 0 0) p0).2)) (by unfold x_m_begins; rw [if_neg c9_1, if_pos c13_2, if_neg c23_3, if_neg c34_4, if_neg c42_5]) (r_ri dX12_begins_56 rfl rfl rfl rfl)
      · refine r_k dX12_begins_26 kkX12_253 ?_
        exact r_eI (r' := ((-1000002), sF T 571 0 0)) (by unfold x_m_begins; rw [if_neg c9_1, if_pos c13_2, if_pos c23_3]) (r_ri dX12_begins_28 rfl rfl rfl rfl)
    · refine r_k dX12_begins_16 kkX12_121 ?_
      exact r_eI (r' := ((-1000001), sF T 571 0 0)) (by unfold x_m_begins; rw [if_neg c9_1, if_neg c13_2]) (r_ri dX12_begins_18 rfl rfl rfl rfl)
def x_m_seven (T : St) (p0 : Int32) : Int32 × St := if (x_m_isBy (sF T 571 0 0) p0) = 0 then ((-1000001), sF T 571 0 0) else (if ((sF T 571 0 0).1 571 7) = 0 then ((-1000002), sF T 571 0 0) else (fun (T1 : St) => if ((x_m_seek (sF (sF T 571 0 0) 571 32 0) ((sF (sF T 571 0 0) 571 32 0).2.2.1 575 (202 : Int32).toNatClampNeg) p0 ((sF (sF T 571 0 0) 571 32 0).2.2.1 575 (5 : Int32).toNatClampNeg) ((sF (sF T 571 0 0) 571 32 0).2.2.1 575 (203 : Int32).toNatClampNeg) 1 1).1) = 0 then (0, T1) else (1, T1)) ((x_m_seek (sF (sF T 571 0 0) 571 32 0) ((sF (sF T 571 0 0) 571 32 0).2.2.1 575 (202 : Int32).toNatClampNeg) p0 ((sF (sF T 571 0 0) 571 32 0).2.2.1 575 (5 : Int32).toNatClampNeg) ((sF (sF T 571 0 0) 571 32 0).2.2.1 575 (203 : Int32).toNatClampNeg) 1 1).2))
def ok_m_seven (T : St) (p0 : Int32) : Prop := (¬ (x_m_isBy (sF T 571 0 0) p0) = 0 → (¬ ((sF T 571 0 0).1 571 7) = 0 → (vp_in 202 204) ∧ (vp_in 5 204) ∧ (vp_in 203 204) ∧ (ok_m_seek (sF (sF T 571 0 0) 571 32 0) ((sF (sF T 571 0 0) 571 32 0).2.2.1 575 (202 : Int32).toNatClampNeg) p0 ((sF (sF T 571 0 0) 571 32 0).2.2.1 575 (5 : Int32).toNatClampNeg) ((sF (sF T 571 0 0) 571 32 0).2.2.1 575 (203 : Int32).toNatClampNeg) 1 1) ∧ True))
theorem c_m_seven {X : Nat × (Nat → Int32)} {T : St} (p0 : Int32) (kk : ok_m_seven T p0) : tC X 6 mX12_seven [.ref 571, .int p0] T (some (.int (x_m_seven T p0).1)) ((x_m_seven T p0).2) := by
  unfold ok_m_seven at kk
  refine tC_of ?_
  refine r_p dX12_seven_0 rfl rfl ?_
  refine r_ci (x := 0) dX12_seven_1 rfl ?_
  refine r_put dX12_seven_2 fkX12_101 rfl rfl rfl (Nat.le_of_ble_eq_true rfl) rfl rfl ?_
  refine r_p dX12_seven_5 rfl rfl ?_
  refine r_cs (d1 := 2) dX12_seven_6 csX12_318 rfl rfl (Nat.le_of_ble_eq_true rfl) (Nat.le_of_ble_eq_true rfl) (Nat.le_of_ble_eq_true rfl) (c_m_isBy p0) ?_
  refine r_ine dX12_seven_9 rfl (fun c9_1 => ?_) (fun c9_1 => ?_)
  · have kk := kk c9_1
    refine r_p dX12_seven_15 rfl rfl ?_
    refine r_get dX12_seven_16 fkX12_221 rfl rfl ?_
    refine r_ine dX12_seven_19 rfl (fun c19_2 => ?_) (fun c19_2 => ?_)
    · have kk := kk c19_2
      refine r_p dX12_seven_25 rfl rfl ?_
      refine r_ci (x := 0) dX12_seven_26 rfl ?_
      refine r_put dX12_seven_27 fkX12_268 rfl rfl rfl (Nat.le_of_ble_eq_true rfl) rfl rfl ?_
      refine r_p dX12_seven_30 rfl rfl ?_
      refine r_p dX12_seven_31 rfl rfl ?_
      refine r_get dX12_seven_32 fkX12_19 rfl rfl ?_
      refine r_csi (x := 202) dX12_seven_35 rfl ?_
      obtain ⟨q1, kk⟩ := kk
      refine r_ia dX12_seven_38 rfl q1 ?_
      refine r_p dX12_seven_39 rfl rfl ?_
      refine r_p dX12_seven_40 rfl rfl ?_
      refine r_get dX12_seven_41 fkX12_19 rfl rfl ?_
      refine r_ci (x := 5) dX12_seven_44 rfl ?_
      obtain ⟨q2, kk⟩ := kk
      refine r_ia dX12_seven_45 rfl q2 ?_
      refine r_p dX12_seven_46 rfl rfl ?_
      refine r_get dX12_seven_47 fkX12_19 rfl rfl ?_
      refine r_csi (x := 203) dX12_seven_50 rfl ?_
      obtain ⟨q3, kk⟩ := kk
      refine r_ia dX12_seven_53 rfl q3 ?_
      refine r_ci (x := 1) dX12_seven_54 rfl ?_
      refine r_ci (x := 1) dX12_seven_55 rfl ?_
      obtain ⟨q4, kk⟩ := kk
      refine r_cv (d1 := 5) dX12_seven_56 cvX12_305 rfl rfl rfl rfl (Nat.le_of_ble_eq_true rfl) (Nat.le_of_ble_eq_true rfl) (Nat.le_of_ble_eq_true rfl) (c_m_seek ((sF (sF T 571 0 0) 571 32 0).2.2.1 575 (202 : Int32).toNatClampNeg) p0 ((sF (sF T 571 0 0) 571 32 0).2.2.1 575 (5 : Int32).toNatClampNeg) ((sF (sF T 571 0 0) 571 32 0).2.2.1 575 (203 : Int32).toNatClampNeg) 1 1 q4) ?_
      refine r_eI (r' := (fun (T1 : St) => if ((x_m_seek (sF (sF T 571 0 0) 571 32 0) ((sF (sF T 571 0 0) 571 32 0).2.2.1 575 (202 : Int32).toNatClampNeg) p0 ((sF (sF T 571 0 0) 571 32 0).2.2.1 575 (5 : Int32).toNatClampNeg) ((sF (sF T 571 0 0) 571 32 0).2.2.1 575 (203 : Int32).toNatClampNeg) 1 1).1) = 0 then (0, T1) else (1, T1)) ((x_m_seek (sF (sF T 571 0 0) 571 32 0) ((sF (sF T 571 0 0) 571 32 0).2.2.1 575 (202 : Int32).toNatClampNeg) p0 ((sF (sF T 571 0 0) 571 32 0).2.2.1 575 (5 : Int32).toNatClampNeg) ((sF (sF T 571 0 0) 571 32 0).2.2.1 575 (203 : Int32).toNatClampNeg) 1 1).2)) (by unfold x_m_seven; rw [if_neg c9_1, if_neg c19_2]) ?_
      generalize (x_m_seek (sF (sF T 571 0 0) 571 32 0) ((sF (sF T 571 0 0) 571 32 0).2.2.1 575 (202 : Int32).toNatClampNeg) p0 ((sF (sF T 571 0 0) 571 32 0).2.2.1 575 (5 : Int32).toNatClampNeg) ((sF (sF T 571 0 0) 571 32 0).2.2.1 575 (203 : Int32).toNatClampNeg) 1 1).2 = T1 at ⊢
      refine r_ieq dX12_seven_59 rfl (fun c59_3 => ?_) (fun c59_3 => ?_)
      · refine r_ci (x := 0) dX12_seven_66 rfl ?_
        exact r_eI (r' := (0, T1)) (by first | rw [if_pos c59_3] | (dsimp only; rw [if_pos c59_3])) (r_ri dX12_seven_67 rfl rfl rfl rfl)
      · refine r_ci (x := 1) dX12_seven_62 rfl ?_
        refine r_go dX12_seven_63 rfl ?_
        exact r_eI (r' := (1, T1)) (by first | rw [if_neg c59_3] | (dsimp only; rw [if_neg c59_3])) (r_ri dX12_seven_67 rfl rfl rfl rfl)
    · refine r_k dX12_seven_22 kkX12_253 ?_
      exact r_eI (r' := ((-1000002), sF T 571 0 0)) (by unfold x_m_seven; rw [if_neg c9_1, if_pos c19_2]) (r_ri dX12_seven_24 rfl rfl rfl rfl)
  · refine r_k dX12_seven_12 kkX12_121 ?_
    exact r_eI (r' := ((-1000001), sF T 571 0 0)) (by unfold x_m_seven; rw [if_pos c9_1]) (r_ri dX12_seven_14 rfl rfl rfl rfl)
def x_m_canBe (T : St) (p0 : Int32) (p1 : Int32) (p2 : Int32) : Int32 × St := ((x_m_seek (sF T 571 32 0) p0 p1 p2 ((sF T 571 32 0).2.2.1 575 (203 : Int32).toNatClampNeg) 0 1).1, (x_m_seek (sF T 571 32 0) p0 p1 p2 ((sF T 571 32 0).2.2.1 575 (203 : Int32).toNatClampNeg) 0 1).2)
def ok_m_canBe (T : St) (p0 : Int32) (p1 : Int32) (p2 : Int32) : Prop := (vp_in 203 204) ∧ (ok_m_seek (sF T 571 32 0) p0 p1 p2 ((sF T 571 32 0).2.2.1 575 (203 : Int32).toNatClampNeg) 0 1) ∧ (((x_m_seek (sF T 571 32 0) p0 p1 p2 ((sF T 571 32 0).2.2.1 575 (203 : Int32).toNatClampNeg) 0 1).1 = 0 ∨ (x_m_seek (sF T 571 32 0) p0 p1 p2 ((sF T 571 32 0).2.2.1 575 (203 : Int32).toNatClampNeg) 0 1).1 = (1 : Int32))) ∧ True
theorem c_m_canBe {X : Nat × (Nat → Int32)} {T : St} (p0 : Int32) (p1 : Int32) (p2 : Int32) (kk : ok_m_canBe T p0 p1 p2) : tC X 6 mX12_canBe [.ref 571, .int p0, .int p1, .int p2] T (some (.int (x_m_canBe T p0 p1 p2).1)) ((x_m_canBe T p0 p1 p2).2) := by
  unfold ok_m_canBe at kk
  refine tC_of ?_
  refine r_p dX12_canBe_0 rfl rfl ?_
  refine r_ci (x := 0) dX12_canBe_1 rfl ?_
  refine r_put dX12_canBe_2 fkX12_268 rfl rfl rfl (Nat.le_of_ble_eq_true rfl) rfl rfl ?_
  refine r_p dX12_canBe_5 rfl rfl ?_
  refine r_p dX12_canBe_6 rfl rfl ?_
  refine r_p dX12_canBe_7 rfl rfl ?_
  refine r_p dX12_canBe_8 rfl rfl ?_
  refine r_p dX12_canBe_9 rfl rfl ?_
  refine r_get dX12_canBe_10 fkX12_19 rfl rfl ?_
  refine r_csi (x := 203) dX12_canBe_13 rfl ?_
  obtain ⟨q1, kk⟩ := kk
  refine r_ia dX12_canBe_16 rfl q1 ?_
  refine r_ci (x := 0) dX12_canBe_17 rfl ?_
  refine r_ci (x := 1) dX12_canBe_18 rfl ?_
  obtain ⟨q2, kk⟩ := kk
  refine r_cv (d1 := 5) dX12_canBe_19 cvX12_305 rfl rfl rfl rfl (Nat.le_of_ble_eq_true rfl) (Nat.le_of_ble_eq_true rfl) (Nat.le_of_ble_eq_true rfl) (c_m_seek p0 p1 p2 ((sF T 571 32 0).2.2.1 575 (203 : Int32).toNatClampNeg) 0 1 q2) ?_
  obtain ⟨q3, kk⟩ := kk
  exact r_eI (r' := ((x_m_seek (sF T 571 32 0) p0 p1 p2 ((sF T 571 32 0).2.2.1 575 (203 : Int32).toNatClampNeg) 0 1).1, (x_m_seek (sF T 571 32 0) p0 p1 p2 ((sF T 571 32 0).2.2.1 575 (203 : Int32).toNatClampNeg) 0 1).2)) (by unfold x_m_canBe; rfl) (r_ri dX12_canBe_22 rfl (nar_b q3) rfl rfl)
def x_m_earliest_17  (K : Int32 → St → Int32 × St) : Nat → Int32 → St → Int32 × St
  | 0, _, T => (0, T)
  | f + 1, v1, T => if 61 ≤ v1 then (K v1 T) else (fun (T1 : St) => if ((x_m_canBe T (T.2.2.1 575 (202 : Int32).toNatClampNeg) v1 (T.2.2.1 575 (5 : Int32).toNatClampNeg)).1) = 0 then (x_m_earliest_17 K f (v1 + 1) T1) else (v1, T1)) ((x_m_canBe T (T.2.2.1 575 (202 : Int32).toNatClampNeg) v1 (T.2.2.1 575 (5 : Int32).toNatClampNeg)).2)
def ok_m_earliest_17  (Kk : Int32 → St → Prop) : Nat → Int32 → St → Prop
  | 0, _, _ => False
  | f + 1, v1, T => ((61 ≤ v1 → Kk v1 T) ∧ (¬ 61 ≤ v1 → (vp_in 202 204) ∧ (vp_in 5 204) ∧ (ok_m_canBe T (T.2.2.1 575 (202 : Int32).toNatClampNeg) v1 (T.2.2.1 575 (5 : Int32).toNatClampNeg)) ∧ (fun (T1 : St) => (((x_m_canBe T (T.2.2.1 575 (202 : Int32).toNatClampNeg) v1 (T.2.2.1 575 (5 : Int32).toNatClampNeg)).1) = 0 → ok_m_earliest_17 Kk f (v1 + 1) T1)) ((x_m_canBe T (T.2.2.1 575 (202 : Int32).toNatClampNeg) v1 (T.2.2.1 575 (5 : Int32).toNatClampNeg)).2)))
theorem c_m_earliest_17 {X : Nat × (Nat → Int32)}  {K : Int32 → St → Int32 × St} {Kk : Int32 → St → Prop} (hk : ∀ (v1 : Int32) (T : St), Kk v1 T → tR X 6 mX12_earliest 53 [some (.ref 571), some (.int v1)] [] T (some (.int (K v1 T).1)) ((K v1 T).2)) : ∀ (f : Nat) (v1 : Int32) (T : St), ok_m_earliest_17  Kk f v1 T → tR X 6 mX12_earliest 17 [some (.ref 571), some (.int v1)] [] T (some (.int (x_m_earliest_17 K f v1 T).1)) ((x_m_earliest_17 K f v1 T).2) := by
  intro f
  induction f with
  | zero => intro v1 T kk; exact kk.elim
  | succ f ih =>
    intro v1 T kk
    rw [ok_m_earliest_17] at kk
    refine r_p dX12_earliest_17 rfl rfl ?_
    refine r_cb (x := 61) dX12_earliest_18 rfl ?_
    refine r_cge dX12_earliest_20 rfl (fun c20_2 => ?_) (fun c20_2 => ?_)
    · have kk := kk.1 c20_2
      show tR _ _ _ _ [some (.ref 571), some (.int v1)] _ _ _ _
      exact r_eI (r' := K v1 T) (by rw [x_m_earliest_17]; rw [if_pos c20_2]) ((hk v1 T kk))
    · have kk := kk.2 c20_2
      refine r_p dX12_earliest_23 rfl rfl ?_
      refine r_p dX12_earliest_24 rfl rfl ?_
      refine r_get dX12_earliest_25 fkX12_19 rfl rfl ?_
      refine r_csi (x := 202) dX12_earliest_28 rfl ?_
      obtain ⟨q1, kk⟩ := kk
      refine r_ia dX12_earliest_31 rfl q1 ?_
      refine r_p dX12_earliest_32 rfl rfl ?_
      refine r_p dX12_earliest_33 rfl rfl ?_
      refine r_get dX12_earliest_34 fkX12_19 rfl rfl ?_
      refine r_ci (x := 5) dX12_earliest_37 rfl ?_
      obtain ⟨q2, kk⟩ := kk
      refine r_ia dX12_earliest_38 rfl q2 ?_
      obtain ⟨q3, kk⟩ := kk
      refine r_cv (d1 := 6) dX12_earliest_39 cvX12_324 rfl rfl rfl rfl (Nat.le_of_ble_eq_true rfl) (Nat.le_of_ble_eq_true rfl) (Nat.le_of_ble_eq_true rfl) (c_m_canBe (T.2.2.1 575 (202 : Int32).toNatClampNeg) v1 (T.2.2.1 575 (5 : Int32).toNatClampNeg) q3) ?_
      refine r_eI (r' := (fun (T1 : St) => if ((x_m_canBe T (T.2.2.1 575 (202 : Int32).toNatClampNeg) v1 (T.2.2.1 575 (5 : Int32).toNatClampNeg)).1) = 0 then (x_m_earliest_17 K f (v1 + 1) T1) else (v1, T1)) ((x_m_canBe T (T.2.2.1 575 (202 : Int32).toNatClampNeg) v1 (T.2.2.1 575 (5 : Int32).toNatClampNeg)).2)) (by rw [x_m_earliest_17]; rw [if_neg c20_2]) ?_
      generalize (x_m_canBe T (T.2.2.1 575 (202 : Int32).toNatClampNeg) v1 (T.2.2.1 575 (5 : Int32).toNatClampNeg)).2 = T1 at kk ⊢
      try dsimp only at kk
      refine r_ieq dX12_earliest_42 rfl (fun c42_3 => ?_) (fun c42_3 => ?_)
      · have kk := kk c42_3
        refine r_inc (y := 1) dX12_earliest_47 rfl rfl rfl ?_
        refine r_go dX12_earliest_50 rfl ?_
        show tR _ _ _ _ [some (.ref 571), some (.int (v1 + 1))] _ _ _ _
        exact r_eI (r' := x_m_earliest_17 K f (v1 + 1) T1) (by first | rw [if_pos c42_3] | (dsimp only; rw [if_pos c42_3])) ((ih (v1 + 1) T1 kk))
      · refine r_p dX12_earliest_45 rfl rfl ?_
        exact r_eI (r' := (v1, T1)) (by first | rw [if_neg c42_3] | (dsimp only; rw [if_neg c42_3])) (r_ri dX12_earliest_46 rfl rfl rfl rfl)
def x_m_earliest (T : St)  : Int32 × St := if ((sF T 571 0 0).1 571 7) = 0 then ((-1000002), sF T 571 0 0) else (x_m_earliest_17  (fun (w1_1 : Int32) (T201 : St) => ((-1000000), T201)) 1000 1 (sF T 571 0 0))
def ok_m_earliest (T : St)  : Prop := (¬ ((sF T 571 0 0).1 571 7) = 0 → ok_m_earliest_17  (fun (w1_1 : Int32) (T201 : St) => True) 1000 1 (sF T 571 0 0))
theorem c_m_earliest {X : Nat × (Nat → Int32)} {T : St}  (kk : ok_m_earliest T ) : tC X 7 mX12_earliest [.ref 571] T (some (.int (x_m_earliest T).1)) ((x_m_earliest T).2) := by
  unfold ok_m_earliest at kk
  refine tC_of ?_
  refine r_p dX12_earliest_0 rfl rfl ?_
  refine r_ci (x := 0) dX12_earliest_1 rfl ?_
  refine r_put dX12_earliest_2 fkX12_101 rfl rfl rfl (Nat.le_of_ble_eq_true rfl) rfl rfl ?_
  refine r_p dX12_earliest_5 rfl rfl ?_
  refine r_get dX12_earliest_6 fkX12_221 rfl rfl ?_
  refine r_ine dX12_earliest_9 rfl (fun c9_1 => ?_) (fun c9_1 => ?_)
  · have kk := kk c9_1
    refine r_ci (x := 1) dX12_earliest_15 rfl ?_
    refine r_p dX12_earliest_16 rfl rfl ?_
    show tR _ _ _ _ [some (.ref 571), some (.int 1)] _ _ _ _
    refine r_eI (r' := x_m_earliest_17  (fun (w1_1 : Int32) (T201 : St) => ((-1000000), T201)) 1000 1 (sF T 571 0 0)) (by unfold x_m_earliest; rw [if_neg c9_1]) ((c_m_earliest_17  (fun w1_1 T201 kk => ?_) 1000 1 (sF T 571 0 0) kk))
    · refine r_k dX12_earliest_53 kkX12_137 ?_
      exact r_eI (r' := ((-1000000), T201)) rfl (r_ri dX12_earliest_55 rfl rfl rfl rfl)
  · refine r_k dX12_earliest_12 kkX12_253 ?_
    exact r_eI (r' := ((-1000002), sF T 571 0 0)) (by unfold x_m_earliest; rw [if_pos c9_1]) (r_ri dX12_earliest_14 rfl rfl rfl rfl)
def x_m_endOf (T : St) (p0 : Int32) : Int32 := ((T.2.2.1 595 (p0 : Int32).toNatClampNeg) + (x_m_stepOf T (T.2.2.1 594 (p0 : Int32).toNatClampNeg) 1)) + (T.2.2.1 596 (p0 : Int32).toNatClampNeg)
def ok_m_endOf (T : St) (p0 : Int32) : Prop := (vp_in p0 12) ∧ (ok_m_stepOf T (T.2.2.1 594 (p0 : Int32).toNatClampNeg) 1) ∧ True
theorem c_m_endOf {X : Nat × (Nat → Int32)} {T : St} (p0 : Int32) (kk : ok_m_endOf T p0) : tC X 2 mX12_endOf [.ref 571, .int p0] T (some (.int (x_m_endOf T p0))) T := by
  unfold ok_m_endOf at kk
  refine tC_of ?_
  refine r_p dX12_endOf_0 rfl rfl ?_
  refine r_get dX12_endOf_1 fkX12_79 rfl rfl ?_
  refine r_p dX12_endOf_4 rfl rfl ?_
  obtain ⟨q1, kk⟩ := kk
  refine r_ia dX12_endOf_5 rfl q1 ?_
  refine r_p dX12_endOf_6 rfl rfl ?_
  refine r_p dX12_endOf_7 rfl rfl ?_
  refine r_get dX12_endOf_8 fkX12_76 rfl rfl ?_
  refine r_p dX12_endOf_11 rfl rfl ?_
  refine r_ia dX12_endOf_12 rfl q1 ?_
  refine r_ci (x := 1) dX12_endOf_13 rfl ?_
  obtain ⟨q2, kk⟩ := kk
  refine r_cv (d1 := 1) dX12_endOf_14 cvX12_232 rfl rfl rfl rfl (Nat.le_of_ble_eq_true rfl) (Nat.le_of_ble_eq_true rfl) (Nat.le_of_ble_eq_true rfl) (c_m_stepOf (T.2.2.1 594 (p0 : Int32).toNatClampNeg) 1 q2) ?_
  refine r_p dX12_endOf_17 rfl rfl ?_
  refine r_p dX12_endOf_18 rfl rfl ?_
  refine r_get dX12_endOf_19 fkX12_82 rfl rfl ?_
  refine r_p dX12_endOf_22 rfl rfl ?_
  refine r_ia dX12_endOf_23 rfl q1 ?_
  refine r_p dX12_endOf_24 rfl rfl ?_
  exact r_eIp (r' := (((T.2.2.1 595 (p0 : Int32).toNatClampNeg) + (x_m_stepOf T (T.2.2.1 594 (p0 : Int32).toNatClampNeg) 1)) + (T.2.2.1 596 (p0 : Int32).toNatClampNeg))) (by unfold x_m_endOf; rfl) (r_ri dX12_endOf_25 rfl rfl rfl rfl)
def x_m_dishBy_4 (T : St) (l1 : Int32) (K : Int32 → Int32 → Int32) : Nat → Int32 → Int32 → Int32
  | 0, _, _ => 0
  | f + 1, v2, v3 => if (T.2.2.1 575 (16 : Int32).toNatClampNeg) ≤ v3 then (K v2 v3) else (if l1 < (x_m_dishOf T v3 4) then (x_m_dishBy_4 T l1 K f v2 (v3 + 1)) else (x_m_dishBy_4 T l1 K f v3 (v3 + 1)))
def ok_m_dishBy_4 (T : St) (l1 : Int32) (Kk : Int32 → Int32 → Prop) : Nat → Int32 → Int32 → Prop
  | 0, _, _ => False
  | f + 1, v2, v3 => (vp_in 16 204) ∧ (((T.2.2.1 575 (16 : Int32).toNatClampNeg) ≤ v3 → Kk v2 v3) ∧ (¬ (T.2.2.1 575 (16 : Int32).toNatClampNeg) ≤ v3 → (ok_m_dishOf T v3 4) ∧ ((l1 < (x_m_dishOf T v3 4) → ok_m_dishBy_4 T l1 Kk f v2 (v3 + 1)) ∧ (¬ l1 < (x_m_dishOf T v3 4) → ok_m_dishBy_4 T l1 Kk f v3 (v3 + 1)))))
theorem c_m_dishBy_4 {X : Nat × (Nat → Int32)} (T : St) (l1 : Int32) {K : Int32 → Int32 → Int32} {Kk : Int32 → Int32 → Prop} (hk : ∀ (v2 : Int32) (v3 : Int32), Kk v2 v3 → tR X 1 mX12_dishBy 37 [some (.ref 571), some (.int l1), some (.int v2), some (.int v3)] [] T (some (.int (K v2 v3))) T) : ∀ (f : Nat) (v2 : Int32) (v3 : Int32), ok_m_dishBy_4 T l1 Kk f v2 v3 → tR X 1 mX12_dishBy 4 [some (.ref 571), some (.int l1), some (.int v2), some (.int v3)] [] T (some (.int (x_m_dishBy_4 T l1 K f v2 v3))) T := by
  intro f
  induction f with
  | zero => intro v2 v3 kk; exact kk.elim
  | succ f ih =>
    intro v2 v3 kk
    rw [ok_m_dishBy_4] at kk
    refine r_p dX12_dishBy_4 rfl rfl ?_
    refine r_p dX12_dishBy_5 rfl rfl ?_
    refine r_get dX12_dishBy_6 fkX12_19 rfl rfl ?_
    refine r_cb (x := 16) dX12_dishBy_9 rfl ?_
    obtain ⟨q1, kk⟩ := kk
    refine r_ia dX12_dishBy_11 rfl q1 ?_
    refine r_cge dX12_dishBy_12 rfl (fun c12_1 => ?_) (fun c12_1 => ?_)
    · have kk := kk.1 c12_1
      show tR _ _ _ _ [some (.ref 571), some (.int l1), some (.int v2), some (.int v3)] _ _ _ _
      exact r_eIp (r' := K v2 v3) (by rw [x_m_dishBy_4]; rw [if_pos c12_1]) ((hk v2 v3  kk))
    · have kk := kk.2 c12_1
      refine r_p dX12_dishBy_15 rfl rfl ?_
      refine r_p dX12_dishBy_16 rfl rfl ?_
      refine r_p dX12_dishBy_17 rfl rfl ?_
      refine r_ci (x := 4) dX12_dishBy_18 rfl ?_
      obtain ⟨q2, kk⟩ := kk
      refine r_cv (d1 := 1) dX12_dishBy_19 cvX12_228 rfl rfl rfl rfl (Nat.le_of_ble_eq_true rfl) (Nat.le_of_ble_eq_true rfl) (Nat.le_of_ble_eq_true rfl) (c_m_dishOf v3 4 q2) ?_
      refine r_clt dX12_dishBy_22 rfl (fun c22_2 => ?_) (fun c22_2 => ?_)
      · have kk := kk.1 c22_2
        refine r_p dX12_dishBy_29 rfl rfl ?_
        refine r_p dX12_dishBy_30 rfl rfl ?_
        refine r_inc (y := 1) dX12_dishBy_31 rfl rfl rfl ?_
        refine r_go dX12_dishBy_34 rfl ?_
        show tR _ _ _ _ [some (.ref 571), some (.int l1), some (.int v2), some (.int (v3 + 1))] _ _ _ _
        exact r_eIp (r' := x_m_dishBy_4 T l1 K f v2 (v3 + 1)) (by rw [x_m_dishBy_4]; rw [if_neg c12_1, if_pos c22_2]) ((ih v2 (v3 + 1)  kk))
      · have kk := kk.2 c22_2
        refine r_p dX12_dishBy_25 rfl rfl ?_
        refine r_go dX12_dishBy_26 rfl ?_
        refine r_p dX12_dishBy_30 rfl rfl ?_
        refine r_inc (y := 1) dX12_dishBy_31 rfl rfl rfl ?_
        refine r_go dX12_dishBy_34 rfl ?_
        show tR _ _ _ _ [some (.ref 571), some (.int l1), some (.int v3), some (.int (v3 + 1))] _ _ _ _
        exact r_eIp (r' := x_m_dishBy_4 T l1 K f v3 (v3 + 1)) (by rw [x_m_dishBy_4]; rw [if_neg c12_1, if_neg c22_2]) ((ih v3 (v3 + 1)  kk))
def x_m_dishBy (T : St) (p0 : Int32) : Int32 := x_m_dishBy_4 T p0 (fun (w1_2 : Int32) (w1_3 : Int32) => w1_2) 1000 0 0
def ok_m_dishBy (T : St) (p0 : Int32) : Prop := ok_m_dishBy_4 T p0 (fun (w1_2 : Int32) (w1_3 : Int32) => True) 1000 0 0
theorem c_m_dishBy {X : Nat × (Nat → Int32)} {T : St} (p0 : Int32) (kk : ok_m_dishBy T p0) : tC X 2 mX12_dishBy [.ref 571, .int p0] T (some (.int (x_m_dishBy T p0))) T := by
  unfold ok_m_dishBy at kk
  refine tC_of ?_
  refine r_ci (x := 0) dX12_dishBy_0 rfl ?_
  refine r_p dX12_dishBy_1 rfl rfl ?_
  refine r_ci (x := 0) dX12_dishBy_2 rfl ?_
  refine r_p dX12_dishBy_3 rfl rfl ?_
  show tR _ _ _ _ [some (.ref 571), some (.int p0), some (.int 0), some (.int 0)] _ _ _ _
  refine r_eIp (r' := x_m_dishBy_4 T p0 (fun (w1_2 : Int32) (w1_3 : Int32) => w1_2) 1000 0 0) (by unfold x_m_dishBy; rfl) ((c_m_dishBy_4 T p0 (fun w1_2 w1_3 kk => ?_) 1000 0 0  kk))
  · refine r_p dX12_dishBy_37 rfl rfl ?_
    exact r_eIp (r' := w1_2) rfl (r_ri dX12_dishBy_38 rfl rfl rfl rfl)
def x_m_dinners_57 (l1 : Int32) (l2 : Int32) (l3 : Int32) (K : Int32 → Int32 → Int32 → St → Int32 × St) : Nat → Int32 → Int32 → Int32 → St → Int32 × St
  | 0, _, _, _, T => (0, T)
  | f + 1, v4, v5, v6, T => if (1 <<< ((T.2.2.1 575 (16 : Int32).toNatClampNeg) &&& 31)) ≤ v6 then (K v4 v5 v6 T) else (if 5 ≤ (x_m_bits T v6) then (x_m_dinners_57 l1 l2 l3 K f v4 v5 (v6 + 1) T) else (if ((x_m_canBe T v6 l2 l1).1) = 0 then (x_m_dinners_57 l1 l2 l3 K f v4 v5 (v6 + 1) ((x_m_canBe T v6 l2 l1).2)) else (jn (fun (KJ1 : Int32 × St) => if v5 = (-1000000) then (KJ1) else (if (x_m_bits ((x_m_canBe T v6 l2 l1).2) v6) ≤ (x_m_bits ((x_m_canBe T v6 l2 l1).2) v5) then (x_m_dinners_57 l1 l2 l3 K f (v4 + 1) v5 (v6 + 1) ((x_m_canBe T v6 l2 l1).2)) else (KJ1))) (x_m_dinners_57 l1 l2 l3 K f (v4 + 1) v6 (v6 + 1) ((x_m_canBe T v6 l2 l1).2)))))
def ok_m_dinners_57 (l1 : Int32) (l2 : Int32) (l3 : Int32) (Kk : Int32 → Int32 → Int32 → St → Prop) : Nat → Int32 → Int32 → Int32 → St → Prop
  | 0, _, _, _, _ => False
  | f + 1, v4, v5, v6, T => (vp_in 16 204) ∧ (((1 <<< ((T.2.2.1 575 (16 : Int32).toNatClampNeg) &&& 31)) ≤ v6 → Kk v4 v5 v6 T) ∧ (¬ (1 <<< ((T.2.2.1 575 (16 : Int32).toNatClampNeg) &&& 31)) ≤ v6 → (ok_m_bits T v6) ∧ ((5 ≤ (x_m_bits T v6) → ok_m_dinners_57 l1 l2 l3 Kk f v4 v5 (v6 + 1) T) ∧ (¬ 5 ≤ (x_m_bits T v6) → (ok_m_canBe T v6 l2 l1) ∧ ((((x_m_canBe T v6 l2 l1).1) = 0 → ok_m_dinners_57 l1 l2 l3 Kk f v4 v5 (v6 + 1) ((x_m_canBe T v6 l2 l1).2)) ∧ (¬ ((x_m_canBe T v6 l2 l1).1) = 0 → jn (fun (OJ1 : Prop) => ((v5 = (-1000000) → OJ1) ∧ (¬ v5 = (-1000000) → (ok_m_bits ((x_m_canBe T v6 l2 l1).2) v6) ∧ (ok_m_bits ((x_m_canBe T v6 l2 l1).2) v5) ∧ (((x_m_bits ((x_m_canBe T v6 l2 l1).2) v6) ≤ (x_m_bits ((x_m_canBe T v6 l2 l1).2) v5) → ok_m_dinners_57 l1 l2 l3 Kk f (v4 + 1) v5 (v6 + 1) ((x_m_canBe T v6 l2 l1).2)) ∧ (¬ (x_m_bits ((x_m_canBe T v6 l2 l1).2) v6) ≤ (x_m_bits ((x_m_canBe T v6 l2 l1).2) v5) → OJ1))))) (ok_m_dinners_57 l1 l2 l3 Kk f (v4 + 1) v6 (v6 + 1) ((x_m_canBe T v6 l2 l1).2))))))))
theorem c_m_dinners_57 {X : Nat × (Nat → Int32)} (l1 : Int32) (l2 : Int32) (l3 : Int32) {K : Int32 → Int32 → Int32 → St → Int32 × St} {Kk : Int32 → Int32 → Int32 → St → Prop} (hk : ∀ (v4 : Int32) (v5 : Int32) (v6 : Int32) (T : St), Kk v4 v5 v6 T → tR X 6 mX12_dinners 129 [some (.ref 571), some (.int l1), some (.int l2), some (.int l3), some (.int v4), some (.int v5), some (.int v6)] [] T (some (.int (K v4 v5 v6 T).1)) ((K v4 v5 v6 T).2)) : ∀ (f : Nat) (v4 : Int32) (v5 : Int32) (v6 : Int32) (T : St), ok_m_dinners_57 l1 l2 l3 Kk f v4 v5 v6 T → tR X 6 mX12_dinners 57 [some (.ref 571), some (.int l1), some (.int l2), some (.int l3), some (.int v4), some (.int v5), some (.int v6)] [] T (some (.int (x_m_dinners_57 l1 l2 l3 K f v4 v5 v6 T).1)) ((x_m_dinners_57 l1 l2 l3 K f v4 v5 v6 T).2) := by
  intro f
  induction f with
  | zero => intro v4 v5 v6 T kk; exact kk.elim
  | succ f ih =>
    intro v4 v5 v6 T kk
    rw [ok_m_dinners_57] at kk
    refine r_p dX12_dinners_57 rfl rfl ?_
    refine r_ci (x := 1) dX12_dinners_59 rfl ?_
    refine r_p dX12_dinners_60 rfl rfl ?_
    refine r_get dX12_dinners_61 fkX12_19 rfl rfl ?_
    refine r_cb (x := 16) dX12_dinners_64 rfl ?_
    obtain ⟨q1, kk⟩ := kk
    refine r_ia dX12_dinners_66 rfl q1 ?_
    refine r_p dX12_dinners_67 rfl rfl ?_
    refine r_cge dX12_dinners_68 rfl (fun c68_5 => ?_) (fun c68_5 => ?_)
    · have kk := kk.1 c68_5
      show tR _ _ _ _ [some (.ref 571), some (.int l1), some (.int l2), some (.int l3), some (.int v4), some (.int v5), some (.int v6)] _ _ _ _
      exact r_eI (r' := K v4 v5 v6 T) (by rw [x_m_dinners_57]; rw [if_pos c68_5]) ((hk v4 v5 v6 T kk))
    · have kk := kk.2 c68_5
      refine r_p dX12_dinners_71 rfl rfl ?_
      obtain ⟨q2, kk⟩ := kk
      refine r_cs (d1 := 1) dX12_dinners_73 csX12_263 rfl rfl (Nat.le_of_ble_eq_true rfl) (Nat.le_of_ble_eq_true rfl) (Nat.le_of_ble_eq_true rfl) (c_m_bits v6 q2) ?_
      refine r_ci (x := 5) dX12_dinners_76 rfl ?_
      refine r_cge dX12_dinners_77 rfl (fun c77_6 => ?_) (fun c77_6 => ?_)
      · have kk := kk.1 c77_6
        refine r_inc (y := 1) dX12_dinners_123 rfl rfl rfl ?_
        refine r_go dX12_dinners_126 rfl ?_
        show tR _ _ _ _ [some (.ref 571), some (.int l1), some (.int l2), some (.int l3), some (.int v4), some (.int v5), some (.int (v6 + 1))] _ _ _ _
        exact r_eI (r' := x_m_dinners_57 l1 l2 l3 K f v4 v5 (v6 + 1) T) (by rw [x_m_dinners_57]; rw [if_neg c68_5, if_pos c77_6]) ((ih v4 v5 (v6 + 1) T kk))
      · have kk := kk.2 c77_6
        refine r_p dX12_dinners_80 rfl rfl ?_
        refine r_p dX12_dinners_81 rfl rfl ?_
        refine r_p dX12_dinners_83 rfl rfl ?_
        refine r_p dX12_dinners_84 rfl rfl ?_
        obtain ⟨q3, kk⟩ := kk
        refine r_cv (d1 := 6) dX12_dinners_85 cvX12_324 rfl rfl rfl rfl (Nat.le_of_ble_eq_true rfl) (Nat.le_of_ble_eq_true rfl) (Nat.le_of_ble_eq_true rfl) (c_m_canBe v6 l2 l1 q3) ?_
        refine r_ieq dX12_dinners_88 rfl (fun c88_7 => ?_) (fun c88_7 => ?_)
        · have kk := kk.1 c88_7
          refine r_inc (y := 1) dX12_dinners_123 rfl rfl rfl ?_
          refine r_go dX12_dinners_126 rfl ?_
          show tR _ _ _ _ [some (.ref 571), some (.int l1), some (.int l2), some (.int l3), some (.int v4), some (.int v5), some (.int (v6 + 1))] _ _ _ _
          exact r_eI (r' := x_m_dinners_57 l1 l2 l3 K f v4 v5 (v6 + 1) ((x_m_canBe T v6 l2 l1).2)) (by rw [x_m_dinners_57]; rw [if_neg c68_5, if_neg c77_6, if_pos c88_7]) ((ih v4 v5 (v6 + 1) ((x_m_canBe T v6 l2 l1).2) kk))
        · have kk := kk.2 c88_7
          refine r_inc (y := 1) dX12_dinners_91 rfl rfl rfl ?_
          refine r_p dX12_dinners_94 rfl rfl ?_
          refine r_k dX12_dinners_96 kkX12_137 ?_
          obtain ⟨KJ1, hKJ1⟩ : ∃ q : Int32 × St, q = (x_m_dinners_57 l1 l2 l3 K f (v4 + 1) v6 (v6 + 1) ((x_m_canBe T v6 l2 l1).2)) := ⟨_, rfl⟩
          obtain ⟨OJ1, hOJ1⟩ : ∃ q : Prop, q = (ok_m_dinners_57 l1 l2 l3 Kk f (v4 + 1) v6 (v6 + 1) ((x_m_canBe T v6 l2 l1).2)) := ⟨_, rfl⟩
          rw [← hOJ1] at kk
          simp only [jn] at kk
          have hJ1 : OJ1 → tR X 6 mX12_dinners 114 [some (.ref 571), some (.int l1), some (.int l2), some (.int l3), some (.int (v4 + 1)), some (.int v5), some (.int v6)] [] ((x_m_canBe T v6 l2 l1).2) (some (.int KJ1.1)) KJ1.2 := by
            intro  kk
            rw [hOJ1] at kk
            try dsimp only at kk
            rw [hKJ1]
            refine r_p dX12_dinners_114 rfl rfl ?_
            refine r_go dX12_dinners_116 rfl ?_
            refine r_p dX12_dinners_121 rfl rfl ?_
            refine r_inc (y := 1) dX12_dinners_123 rfl rfl rfl ?_
            refine r_go dX12_dinners_126 rfl ?_
            show tR _ _ _ _ [some (.ref 571), some (.int l1), some (.int l2), some (.int l3), some (.int (v4 + 1)), some (.int v6), some (.int (v6 + 1))] _ _ _ _
            exact r_eI (r' := x_m_dinners_57 l1 l2 l3 K f (v4 + 1) v6 (v6 + 1) ((x_m_canBe T v6 l2 l1).2)) rfl ((ih (v4 + 1) v6 (v6 + 1) ((x_m_canBe T v6 l2 l1).2) kk))
          refine r_eI (r' := jn (fun (KJ1 : Int32 × St) => if v5 = (-1000000) then (KJ1) else (if (x_m_bits ((x_m_canBe T v6 l2 l1).2) v6) ≤ (x_m_bits ((x_m_canBe T v6 l2 l1).2) v5) then (x_m_dinners_57 l1 l2 l3 K f (v4 + 1) v5 (v6 + 1) ((x_m_canBe T v6 l2 l1).2)) else (KJ1))) KJ1) (by rw [hKJ1]; rw [x_m_dinners_57]; rw [if_neg c68_5, if_neg c77_6, if_neg c88_7]) ?_
          refine r_ceq dX12_dinners_98 rfl (fun c98_10 => ?_) (fun c98_10 => ?_)
          · have kk := kk.1 c98_10
            show tR _ _ _ _ [some (.ref 571), some (.int l1), some (.int l2), some (.int l3), some (.int (v4 + 1)), some (.int v5), some (.int v6)] [] _ _ _
            exact r_eI (r' := KJ1) (by simp only [jn]; rw [if_pos c98_10]) ((hJ1  kk))
          · have kk := kk.2 c98_10
            refine r_p dX12_dinners_101 rfl rfl ?_
            obtain ⟨q6, kk⟩ := kk
            refine r_cs (d1 := 1) dX12_dinners_103 csX12_263 rfl rfl (Nat.le_of_ble_eq_true rfl) (Nat.le_of_ble_eq_true rfl) (Nat.le_of_ble_eq_true rfl) (c_m_bits v6 q6) ?_
            refine r_p dX12_dinners_106 rfl rfl ?_
            obtain ⟨q7, kk⟩ := kk
            refine r_cs (d1 := 1) dX12_dinners_108 csX12_263 rfl rfl (Nat.le_of_ble_eq_true rfl) (Nat.le_of_ble_eq_true rfl) (Nat.le_of_ble_eq_true rfl) (c_m_bits v5 q7) ?_
            refine r_cle dX12_dinners_111 rfl (fun c111_11 => ?_) (fun c111_11 => ?_)
            · have kk := kk.1 c111_11
              refine r_p dX12_dinners_119 rfl rfl ?_
              refine r_p dX12_dinners_121 rfl rfl ?_
              refine r_inc (y := 1) dX12_dinners_123 rfl rfl rfl ?_
              refine r_go dX12_dinners_126 rfl ?_
              show tR _ _ _ _ [some (.ref 571), some (.int l1), some (.int l2), some (.int l3), some (.int (v4 + 1)), some (.int v5), some (.int (v6 + 1))] _ _ _ _
              exact r_eI (r' := x_m_dinners_57 l1 l2 l3 K f (v4 + 1) v5 (v6 + 1) ((x_m_canBe T v6 l2 l1).2)) (by simp only [jn]; rw [if_neg c98_10, if_pos c111_11]) ((ih (v4 + 1) v5 (v6 + 1) ((x_m_canBe T v6 l2 l1).2) kk))
            · have kk := kk.2 c111_11
              show tR _ _ _ _ [some (.ref 571), some (.int l1), some (.int l2), some (.int l3), some (.int (v4 + 1)), some (.int v5), some (.int v6)] [] _ _ _
              exact r_eI (r' := KJ1) (by simp only [jn]; rw [if_neg c98_10, if_neg c111_11]) ((hJ1  kk))
def x_m_dinners (T : St) (p0 : Int32) (p1 : Int32) (p2 : Int32) : Int32 × St := if (x_m_in (sF T 571 0 0) ((p0 : Int32).toInt64) 1 3) = 0 then ((-1000001), sF T 571 0 0) else (if (x_m_isBy (sF T 571 0 0) p1) = 0 then ((-1000001), sF T 571 0 0) else (if (x_m_in (sF T 571 0 0) ((p2 : Int32).toInt64) 0 1) = 0 then ((-1000001), sF T 571 0 0) else (if ((sF T 571 0 0).1 571 7) = 0 then ((-1000002), sF T 571 0 0) else (x_m_dinners_57 p0 p1 p2 (fun (w1_4 : Int32) (w1_5 : Int32) (w1_6 : Int32) (T201 : St) => if p2 = 0 then (w1_4, T201) else (w1_5, T201)) 1000 0 (-1000000) 1 (sF T 571 0 0)))))
def ok_m_dinners (T : St) (p0 : Int32) (p1 : Int32) (p2 : Int32) : Prop := (¬ (x_m_in (sF T 571 0 0) ((p0 : Int32).toInt64) 1 3) = 0 → (¬ (x_m_isBy (sF T 571 0 0) p1) = 0 → (¬ (x_m_in (sF T 571 0 0) ((p2 : Int32).toInt64) 0 1) = 0 → (¬ ((sF T 571 0 0).1 571 7) = 0 → ok_m_dinners_57 p0 p1 p2 (fun (w1_4 : Int32) (w1_5 : Int32) (w1_6 : Int32) (T201 : St) => True) 1000 0 (-1000000) 1 (sF T 571 0 0)))))
theorem c_m_dinners {X : Nat × (Nat → Int32)} {T : St} (p0 : Int32) (p1 : Int32) (p2 : Int32) (kk : ok_m_dinners T p0 p1 p2) : tC X 7 mX12_dinners [.ref 571, .int p0, .int p1, .int p2] T (some (.int (x_m_dinners T p0 p1 p2).1)) ((x_m_dinners T p0 p1 p2).2) := by
  unfold ok_m_dinners at kk
  refine tC_of ?_
  refine r_p dX12_dinners_0 rfl rfl ?_
  refine r_ci (x := 0) dX12_dinners_1 rfl ?_
  refine r_put dX12_dinners_2 fkX12_101 rfl rfl rfl (Nat.le_of_ble_eq_true rfl) rfl rfl ?_
  refine r_p dX12_dinners_5 rfl rfl ?_
  refine r_p dX12_dinners_6 rfl rfl ?_
  refine r_cl (x := 1) dX12_dinners_7 rfl ?_
  refine r_kl dX12_dinners_8 klX12_346 ?_
  refine r_cs (d1 := 1) dX12_dinners_11 csX12_111 rfl rfl (Nat.le_of_ble_eq_true rfl) (Nat.le_of_ble_eq_true rfl) (Nat.le_of_ble_eq_true rfl) (c_m_in ((p0 : Int32).toInt64) 1 3) ?_
  refine r_ieq dX12_dinners_14 rfl (fun c14_1 => ?_) (fun c14_1 => ?_)
  · refine r_k dX12_dinners_34 kkX12_121 ?_
    exact r_eI (r' := ((-1000001), sF T 571 0 0)) (by unfold x_m_dinners; rw [if_pos c14_1]) (r_ri dX12_dinners_36 rfl rfl rfl rfl)
  · have kk := kk c14_1
    refine r_p dX12_dinners_17 rfl rfl ?_
    refine r_cs (d1 := 2) dX12_dinners_18 csX12_318 rfl rfl (Nat.le_of_ble_eq_true rfl) (Nat.le_of_ble_eq_true rfl) (Nat.le_of_ble_eq_true rfl) (c_m_isBy p1) ?_
    refine r_ieq dX12_dinners_21 rfl (fun c21_2 => ?_) (fun c21_2 => ?_)
    · refine r_k dX12_dinners_34 kkX12_121 ?_
      exact r_eI (r' := ((-1000001), sF T 571 0 0)) (by unfold x_m_dinners; rw [if_neg c14_1, if_pos c21_2]) (r_ri dX12_dinners_36 rfl rfl rfl rfl)
    · have kk := kk c21_2
      refine r_p dX12_dinners_24 rfl rfl ?_
      refine r_p dX12_dinners_25 rfl rfl ?_
      refine r_cl (x := 0) dX12_dinners_26 rfl ?_
      refine r_cl (x := 1) dX12_dinners_27 rfl ?_
      refine r_cs (d1 := 1) dX12_dinners_28 csX12_111 rfl rfl (Nat.le_of_ble_eq_true rfl) (Nat.le_of_ble_eq_true rfl) (Nat.le_of_ble_eq_true rfl) (c_m_in ((p2 : Int32).toInt64) 0 1) ?_
      refine r_ine dX12_dinners_31 rfl (fun c31_3 => ?_) (fun c31_3 => ?_)
      · have kk := kk c31_3
        refine r_p dX12_dinners_37 rfl rfl ?_
        refine r_get dX12_dinners_38 fkX12_221 rfl rfl ?_
        refine r_ine dX12_dinners_41 rfl (fun c41_4 => ?_) (fun c41_4 => ?_)
        · have kk := kk c41_4
          refine r_ci (x := 0) dX12_dinners_47 rfl ?_
          refine r_p dX12_dinners_48 rfl rfl ?_
          refine r_k dX12_dinners_50 kkX12_137 ?_
          refine r_p dX12_dinners_52 rfl rfl ?_
          refine r_ci (x := 1) dX12_dinners_54 rfl ?_
          refine r_p dX12_dinners_55 rfl rfl ?_
          show tR _ _ _ _ [some (.ref 571), some (.int p0), some (.int p1), some (.int p2), some (.int 0), some (.int (-1000000)), some (.int 1)] _ _ _ _
          refine r_eI (r' := x_m_dinners_57 p0 p1 p2 (fun (w1_4 : Int32) (w1_5 : Int32) (w1_6 : Int32) (T201 : St) => if p2 = 0 then (w1_4, T201) else (w1_5, T201)) 1000 0 (-1000000) 1 (sF T 571 0 0)) (by unfold x_m_dinners; rw [if_neg c14_1, if_neg c21_2, if_neg c31_3, if_neg c41_4]) ((c_m_dinners_57 p0 p1 p2 (fun w1_4 w1_5 w1_6 T201 kk => ?_) 1000 0 (-1000000) 1 (sF T 571 0 0) kk))
          · refine r_p dX12_dinners_129 rfl rfl ?_
            refine r_ine dX12_dinners_130 rfl (fun c130_12 => ?_) (fun c130_12 => ?_)
            · refine r_p dX12_dinners_138 rfl rfl ?_
              exact r_eI (r' := (w1_5, T201)) (by first | rw [if_neg c130_12] | (dsimp only; rw [if_neg c130_12])) (r_ri dX12_dinners_140 rfl rfl rfl rfl)
            · refine r_p dX12_dinners_133 rfl rfl ?_
              refine r_go dX12_dinners_135 rfl ?_
              exact r_eI (r' := (w1_4, T201)) (by first | rw [if_pos c130_12] | (dsimp only; rw [if_pos c130_12])) (r_ri dX12_dinners_140 rfl rfl rfl rfl)
        · refine r_k dX12_dinners_44 kkX12_253 ?_
          exact r_eI (r' := ((-1000002), sF T 571 0 0)) (by unfold x_m_dinners; rw [if_neg c14_1, if_neg c21_2, if_neg c31_3, if_pos c41_4]) (r_ri dX12_dinners_46 rfl rfl rfl rfl)
      · refine r_k dX12_dinners_34 kkX12_121 ?_
        exact r_eI (r' := ((-1000001), sF T 571 0 0)) (by unfold x_m_dinners; rw [if_neg c14_1, if_neg c21_2, if_pos c31_3]) (r_ri dX12_dinners_36 rfl rfl rfl rfl)
