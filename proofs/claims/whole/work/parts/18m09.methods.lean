def x_m_fits_38 (l1 : Int32) (l2 : Int32) (l3 : Int32) (l4 : Int32) (l5 : Int32) (l6 : Int32) (K : Int32 → St → Int32 × St) : Nat → Int32 → St → Int32 × St
  | 0, _, T => (0, T)
  | f + 1, v7, T => if l6 ≤ v7 then (K v7 T) else (jn (fun (i3 : Int32) => jn (fun (T4 : St) => x_m_fits_38 l1 l2 l3 l4 l5 l6 K f (v7 + 1) T4) (x_m_addStep T (l1 + 1) i3 (T.2.2.1 588 ((3 * l1) + v7 : Int32).toNatClampNeg) (x_m_stepOf T i3 1))) ((x_m_dishOf T l5 4) + v7))
def ok_m_fits_38 (l1 : Int32) (l2 : Int32) (l3 : Int32) (l4 : Int32) (l5 : Int32) (l6 : Int32) (Kk : Int32 → St → Prop) : Nat → Int32 → St → Prop
  | 0, _, _ => False
  | f + 1, v7, T => ((l6 ≤ v7 → Kk v7 T) ∧ (¬ l6 ≤ v7 → (ok_m_dishOf T l5 4) ∧ jn (fun (i3 : Int32) => (vp_in ((3 * l1) + v7) 12) ∧ (ok_m_stepOf T i3 1) ∧ (ok_m_addStep T (l1 + 1) i3 (T.2.2.1 588 ((3 * l1) + v7 : Int32).toNatClampNeg) (x_m_stepOf T i3 1)) ∧ jn (fun (T4 : St) => ok_m_fits_38 l1 l2 l3 l4 l5 l6 Kk f (v7 + 1) T4) (x_m_addStep T (l1 + 1) i3 (T.2.2.1 588 ((3 * l1) + v7 : Int32).toNatClampNeg) (x_m_stepOf T i3 1))) ((x_m_dishOf T l5 4) + v7)))
theorem c_m_fits_38 {X : Nat × (Nat → Int32)} (l1 : Int32) (l2 : Int32) (l3 : Int32) (l4 : Int32) (l5 : Int32) (l6 : Int32) {K : Int32 → St → Int32 × St} {Kk : Int32 → St → Prop} (hk : ∀ (v7 : Int32) (T : St), Kk v7 T → tR X 3 mX12_fits 90 [some (.ref (571 : Nat)), some (.int l1), some (.int l2), some (.int l3), some (.int l4), some (.int l5), some (.int l6), some (.int v7), none] [] T (rI (K v7 T)).1 ((rI (K v7 T)).2)) : ∀ (f : Nat) (v7 : Int32) (T : St), ok_m_fits_38 l1 l2 l3 l4 l5 l6 Kk f v7 T → tR X 3 mX12_fits 38 [some (.ref (571 : Nat)), some (.int l1), some (.int l2), some (.int l3), some (.int l4), some (.int l5), some (.int l6), some (.int v7), none] [] T (rI (x_m_fits_38 l1 l2 l3 l4 l5 l6 K f v7 T)).1 ((rI (x_m_fits_38 l1 l2 l3 l4 l5 l6 K f v7 T)).2) := by
  intro f
  induction f with
  | zero => intro v7 T kk; exact kk.elim
  | succ f ih =>
    intro v7 T kk
    rw [ok_m_fits_38] at kk
    rw [x_m_fits_38]
    refine r_p (pc2 := 40) dX12_fits_38 rfl rfl ?_
    refine r_p (pc2 := 42) dX12_fits_40 rfl rfl ?_
    refine r_cge dX12_fits_42 rfl (fun c42_2 => ?_) (fun c42_2 => ?_)
    · refine r_ip (R := rI) c42_2 ?_
      have kk := kk.1 c42_2
      show tR _ _ _ _ [some (.ref (571 : Nat)), some (.int l1), some (.int l2), some (.int l3), some (.int l4), some (.int l5), some (.int l6), some (.int v7), none] _ _ _ _
      exact (hk v7 T kk)
    · refine r_in (R := rI) c42_2 ?_
      have kk := kk.2 c42_2
      refine r_p (pc2 := 46) dX12_fits_45 rfl rfl ?_
      refine r_p (pc2 := 48) dX12_fits_46 rfl rfl ?_
      refine r_ci (x := 4) dX12_fits_48 rfl ?_
      obtain ⟨q5, kk⟩ := kk
      refine r_cv (d1 := 1) dX12_fits_49 cvX12_228 rfl rfl rfl rfl (Nat.le_of_ble_eq_true rfl) (Nat.le_of_ble_eq_true rfl) (Nat.le_of_ble_eq_true rfl) (c_m_dishOf l5 4 q5) ?_
      refine r_p (pc2 := 54) dX12_fits_52 rfl rfl ?_
      refine r_p (pc2 := 55) dX12_fits_54 rfl rfl ?_
      refine r_nI (R := rI) rfl kk (fun i3 kk => ?_)
      refine r_p (pc2 := 57) (L2 := [some (.ref (571 : Nat)), some (.int l1), some (.int l2), some (.int l3), some (.int l4), some (.int l5), some (.int l6), some (.int v7), some (.int i3)]) dX12_fits_55 rfl rfl ?_
      refine r_p (pc2 := 58) dX12_fits_57 rfl rfl ?_
      refine r_p (pc2 := 59) dX12_fits_58 rfl rfl ?_
      refine r_ci (x := 1) dX12_fits_59 rfl ?_
      refine r_p (pc2 := 61) dX12_fits_60 rfl rfl ?_
      refine r_p (pc2 := 63) dX12_fits_61 rfl rfl ?_
      refine r_p (pc2 := 64) dX12_fits_63 rfl rfl ?_
      refine r_get dX12_fits_64 fkX12_58 rfl rfl ?_
      refine r_ci (x := 3) dX12_fits_67 rfl ?_
      refine r_p (pc2 := 69) dX12_fits_68 rfl rfl ?_
      refine r_p (pc2 := 70) dX12_fits_69 rfl rfl ?_
      refine r_p (pc2 := 72) dX12_fits_70 rfl rfl ?_
      refine r_p (pc2 := 73) dX12_fits_72 rfl rfl ?_
      obtain ⟨q6, kk⟩ := kk
      refine r_ia dX12_fits_73 rfl q6 ?_
      refine r_p (pc2 := 75) dX12_fits_74 rfl rfl ?_
      refine r_p (pc2 := 77) dX12_fits_75 rfl rfl ?_
      refine r_ci (x := 1) dX12_fits_77 rfl ?_
      obtain ⟨q7, kk⟩ := kk
      refine r_cv (d1 := 1) dX12_fits_78 cvX12_232 rfl rfl rfl rfl (Nat.le_of_ble_eq_true rfl) (Nat.le_of_ble_eq_true rfl) (Nat.le_of_ble_eq_true rfl) (c_m_stepOf i3 1 q7) ?_
      obtain ⟨q8, kk⟩ := kk
      refine r_cv (d1 := 2) dX12_fits_81 cvX12_278 rfl rfl rfl rfl (Nat.le_of_ble_eq_true rfl) (Nat.le_of_ble_eq_true rfl) (Nat.le_of_ble_eq_true rfl) (c_m_addStep (l1 + 1) i3 (T.2.2.1 588 ((3 * l1) + v7 : Int32).toNatClampNeg) (x_m_stepOf T i3 1) q8) ?_
      refine r_nT (R := rI) rfl kk (fun T4 kk => ?_)
      refine r_inc (L2 := [some (.ref (571 : Nat)), some (.int l1), some (.int l2), some (.int l3), some (.int l4), some (.int l5), some (.int l6), some (.int (v7 + 1)), some (.int i3)]) (y := 1) dX12_fits_84 rfl rfl rfl ?_
      refine r_go dX12_fits_87 rfl ?_
      show tR _ _ _ _ [some (.ref (571 : Nat)), some (.int l1), some (.int l2), some (.int l3), some (.int l4), some (.int l5), some (.int l6), some (.int (v7 + 1)), some (.int i3)] _ _ _ _
      exact r_le (le_s (le_s (le_s (le_s (le_s (le_s (le_s (le_s (le_n (le_0)))))))))) (ih (v7 + 1) T4 kk)
def x_m_fits (T : St) (p0 : Int32) (p1 : Int32) (p2 : Int32) (p3 : Int32) : Int32 × St := if ((x_m_layBegins T p0 p1).1) = 0 then (0, (x_m_layBegins T p0 p1).2) else (jn (fun (i1 : Int32) => jn (fun (i2 : Int32) => x_m_fits_38 p0 p1 p2 p3 i1 i2 (fun (w1_7 : Int32) (T201 : St) => jn (fun (i5 : Int32) => jn (fun (KJ1 : St → Int32 × St) => if (x_m_dishOf T201 i1 2) = 1 then (jn (fun (T7 : St) => KJ1 T7) (x_m_addPan T201 (p0 + 1) (T201.2.2.1 588 (3 * p0 : Int32).toNatClampNeg) ((T201.2.2.1 588 (((3 * p0) + i2) - 1 : Int32).toNatClampNeg) + (x_m_stepOf T201 i5 1)))) else (KJ1 T201)) (fun (T301 : St) => if (x_m_lacks T301 (p0 + 1) p2 p3) = (-1000000) then (1, T301) else (0, T301))) (((x_m_dishOf T201 i1 4) + i2) - 1)) 1000 0 (x_m_copyLevel ((x_m_layBegins T p0 p1).2) (p0 + 1))) (x_m_dishOf ((x_m_layBegins T p0 p1).2) i1 3)) (((x_m_layBegins T p0 p1).2).2.2.1 585 (p0 : Int32).toNatClampNeg))
def ok_m_fits (T : St) (p0 : Int32) (p1 : Int32) (p2 : Int32) (p3 : Int32) : Prop := (ok_m_layBegins T p0 p1) ∧ (¬ ((x_m_layBegins T p0 p1).1) = 0 → (vp_in p0 4) ∧ jn (fun (i1 : Int32) => (ok_m_dishOf ((x_m_layBegins T p0 p1).2) i1 3) ∧ jn (fun (i2 : Int32) => (ok_m_copyLevel ((x_m_layBegins T p0 p1).2) (p0 + 1)) ∧ ok_m_fits_38 p0 p1 p2 p3 i1 i2 (fun (w1_7 : Int32) (T201 : St) => (ok_m_dishOf T201 i1 4) ∧ jn (fun (i5 : Int32) => (ok_m_dishOf T201 i1 2) ∧ jn (fun (OJ1 : St → Prop) => (((x_m_dishOf T201 i1 2) = 1 → (vp_in (3 * p0) 12) ∧ (vp_in (((3 * p0) + i2) - 1) 12) ∧ (ok_m_stepOf T201 i5 1) ∧ (ok_m_addPan T201 (p0 + 1) (T201.2.2.1 588 (3 * p0 : Int32).toNatClampNeg) ((T201.2.2.1 588 (((3 * p0) + i2) - 1 : Int32).toNatClampNeg) + (x_m_stepOf T201 i5 1))) ∧ jn (fun (T7 : St) => OJ1 T7) (x_m_addPan T201 (p0 + 1) (T201.2.2.1 588 (3 * p0 : Int32).toNatClampNeg) ((T201.2.2.1 588 (((3 * p0) + i2) - 1 : Int32).toNatClampNeg) + (x_m_stepOf T201 i5 1)))) ∧ (¬ (x_m_dishOf T201 i1 2) = 1 → OJ1 T201))) (fun (T301 : St) => (ok_m_lacks T301 (p0 + 1) p2 p3) ∧ True)) (((x_m_dishOf T201 i1 4) + i2) - 1)) 1000 0 (x_m_copyLevel ((x_m_layBegins T p0 p1).2) (p0 + 1))) (x_m_dishOf ((x_m_layBegins T p0 p1).2) i1 3)) (((x_m_layBegins T p0 p1).2).2.2.1 585 (p0 : Int32).toNatClampNeg))
theorem c_m_fits {X : Nat × (Nat → Int32)} {T : St} (p0 : Int32) (p1 : Int32) (p2 : Int32) (p3 : Int32) (kk : ok_m_fits T p0 p1 p2 p3) : tC X 4 mX12_fits [.ref (571 : Nat), .int p0, .int p1, .int p2, .int p3] T (some (.int (x_m_fits T p0 p1 p2 p3).1)) ((x_m_fits T p0 p1 p2 p3).2) := by
  unfold ok_m_fits at kk
  refine tC_orI (L := [some (.ref (571 : Nat)), some (.int p0), some (.int p1), some (.int p2), some (.int p3), none, none, none, none]) (x_m_fits T p0 p1 p2 p3) rfl ?_
  unfold x_m_fits
  refine r_p (pc2 := 1) dX12_fits_0 rfl rfl ?_
  refine r_p (pc2 := 2) dX12_fits_1 rfl rfl ?_
  refine r_p (pc2 := 3) dX12_fits_2 rfl rfl ?_
  obtain ⟨q1, kk⟩ := kk
  refine r_cv (d1 := 3) dX12_fits_3 cvX12_271 rfl rfl rfl rfl (Nat.le_of_ble_eq_true rfl) (Nat.le_of_ble_eq_true rfl) (Nat.le_of_ble_eq_true rfl) (c_m_layBegins p0 p1 q1) ?_
  refine r_ine dX12_fits_6 rfl (fun c6_1 => ?_) (fun c6_1 => ?_)
  · refine r_in (R := rI) c6_1 ?_
    have kk := kk c6_1
    refine r_p (pc2 := 12) dX12_fits_11 rfl rfl ?_
    refine r_get dX12_fits_12 fkX12_49 rfl rfl ?_
    refine r_p (pc2 := 16) dX12_fits_15 rfl rfl ?_
    obtain ⟨q2, kk⟩ := kk
    refine r_ia dX12_fits_16 rfl q2 ?_
    refine r_nI (R := rI) rfl kk (fun i1 kk => ?_)
    refine r_p (pc2 := 19) (L2 := [some (.ref (571 : Nat)), some (.int p0), some (.int p1), some (.int p2), some (.int p3), some (.int i1), none, none, none]) dX12_fits_17 rfl rfl ?_
    refine r_p (pc2 := 20) dX12_fits_19 rfl rfl ?_
    refine r_p (pc2 := 22) dX12_fits_20 rfl rfl ?_
    refine r_ci (x := 3) dX12_fits_22 rfl ?_
    obtain ⟨q3, kk⟩ := kk
    refine r_cv (d1 := 1) dX12_fits_23 cvX12_228 rfl rfl rfl rfl (Nat.le_of_ble_eq_true rfl) (Nat.le_of_ble_eq_true rfl) (Nat.le_of_ble_eq_true rfl) (c_m_dishOf i1 3 q3) ?_
    refine r_nI (R := rI) rfl kk (fun i2 kk => ?_)
    refine r_p (pc2 := 28) (L2 := [some (.ref (571 : Nat)), some (.int p0), some (.int p1), some (.int p2), some (.int p3), some (.int i1), some (.int i2), none, none]) dX12_fits_26 rfl rfl ?_
    refine r_p (pc2 := 29) dX12_fits_28 rfl rfl ?_
    refine r_p (pc2 := 30) dX12_fits_29 rfl rfl ?_
    refine r_ci (x := 1) dX12_fits_30 rfl ?_
    refine r_p (pc2 := 32) dX12_fits_31 rfl rfl ?_
    obtain ⟨q4, kk⟩ := kk
    refine r_cv (d1 := 1) dX12_fits_32 cvX12_275 rfl rfl rfl rfl (Nat.le_of_ble_eq_true rfl) (Nat.le_of_ble_eq_true rfl) (Nat.le_of_ble_eq_true rfl) (c_m_copyLevel (p0 + 1) q4) ?_
    refine r_ci (x := 0) dX12_fits_35 rfl ?_
    refine r_p (pc2 := 38) (L2 := [some (.ref (571 : Nat)), some (.int p0), some (.int p1), some (.int p2), some (.int p3), some (.int i1), some (.int i2), some (.int 0), none]) dX12_fits_36 rfl rfl ?_
    show tR _ _ _ _ [some (.ref (571 : Nat)), some (.int p0), some (.int p1), some (.int p2), some (.int p3), some (.int i1), some (.int i2), some (.int 0), none] _ _ _ _
    refine (c_m_fits_38 p0 p1 p2 p3 i1 i2 (fun w1_7 T201 kk => ?_) 1000 0 (x_m_copyLevel ((x_m_layBegins T p0 p1).2) (p0 + 1)) kk)
    · skip
      refine r_p (pc2 := 91) dX12_fits_90 rfl rfl ?_
      refine r_p (pc2 := 93) dX12_fits_91 rfl rfl ?_
      refine r_ci (x := 4) dX12_fits_93 rfl ?_
      obtain ⟨q9, kk⟩ := kk
      refine r_cv (d1 := 1) dX12_fits_94 cvX12_228 rfl rfl rfl rfl (Nat.le_of_ble_eq_true rfl) (Nat.le_of_ble_eq_true rfl) (Nat.le_of_ble_eq_true rfl) (c_m_dishOf i1 4 q9) ?_
      refine r_p (pc2 := 99) dX12_fits_97 rfl rfl ?_
      refine r_p (pc2 := 100) dX12_fits_99 rfl rfl ?_
      refine r_ci (x := 1) dX12_fits_100 rfl ?_
      refine r_p (pc2 := 102) dX12_fits_101 rfl rfl ?_
      refine r_nI (R := rI) rfl kk (fun i5 kk => ?_)
      refine r_p (pc2 := 104) (L2 := [some (.ref (571 : Nat)), some (.int p0), some (.int p1), some (.int p2), some (.int p3), some (.int i1), some (.int i2), some (.int i5), none]) dX12_fits_102 rfl rfl ?_
      refine r_p (pc2 := 105) dX12_fits_104 rfl rfl ?_
      refine r_p (pc2 := 107) dX12_fits_105 rfl rfl ?_
      refine r_ci (x := 2) dX12_fits_107 rfl ?_
      obtain ⟨q10, kk⟩ := kk
      refine r_cv (d1 := 1) dX12_fits_108 cvX12_228 rfl rfl rfl rfl (Nat.le_of_ble_eq_true rfl) (Nat.le_of_ble_eq_true rfl) (Nat.le_of_ble_eq_true rfl) (c_m_dishOf i1 2 q10) ?_
      refine r_ci (x := 1) dX12_fits_111 rfl ?_
      refine r_jn (R := rI) (J := fun (KJ1 : St → Int32 × St) (OJ1 : St → Prop) => ∀ (T301 : St), OJ1 T301 → tR X 3 mX12_fits 151 [some (.ref (571 : Nat)), some (.int p0), some (.int p1), some (.int p2), some (.int p3), some (.int i1), some (.int i2), some (.int i5), none] [] T301 (rI (KJ1 T301)).1 (rI (KJ1 T301)).2) kk (fun T301 kk => ?_) (fun KJ1 OJ1 hJ1 kk => ?_)
      · skip
        refine r_p (pc2 := 152) dX12_fits_151 rfl rfl ?_
        refine r_p (pc2 := 153) dX12_fits_152 rfl rfl ?_
        refine r_ci (x := 1) dX12_fits_153 rfl ?_
        refine r_p (pc2 := 155) dX12_fits_154 rfl rfl ?_
        refine r_p (pc2 := 156) dX12_fits_155 rfl rfl ?_
        refine r_p (pc2 := 158) dX12_fits_156 rfl rfl ?_
        obtain ⟨q15, kk⟩ := kk
        refine r_cv (d1 := 3) dX12_fits_158 cvX12_285 rfl rfl rfl rfl (Nat.le_of_ble_eq_true rfl) (Nat.le_of_ble_eq_true rfl) (Nat.le_of_ble_eq_true rfl) (c_m_lacks (p0 + 1) p2 p3 q15) ?_
        refine r_k dX12_fits_161 kkX12_137 ?_
        refine r_cne dX12_fits_163 rfl (fun c163_4 => ?_) (fun c163_4 => ?_)
        · refine r_in (R := rI) c163_4 ?_
          refine r_ci (x := 0) dX12_fits_170 rfl ?_
          exact r_qI dX12_fits_171 rfl rfl rfl rfl
        · refine r_ip (R := rI) c163_4 ?_
          refine r_ci (x := 1) dX12_fits_166 rfl ?_
          refine r_go dX12_fits_167 rfl ?_
          exact r_qI dX12_fits_171 rfl rfl rfl rfl
      refine r_cne dX12_fits_112 rfl (fun c112_5 => ?_) (fun c112_5 => ?_)
      · refine r_in (R := rI) c112_5 ?_
        have kk := kk.2 c112_5
        show tR _ _ _ _ [some (.ref (571 : Nat)), some (.int p0), some (.int p1), some (.int p2), some (.int p3), some (.int i1), some (.int i2), some (.int i5), none] [] _ _ _
        exact (hJ1 T201 kk)
      · refine r_ip (R := rI) c112_5 ?_
        have kk := kk.1 c112_5
        refine r_p (pc2 := 116) dX12_fits_115 rfl rfl ?_
        refine r_p (pc2 := 117) dX12_fits_116 rfl rfl ?_
        refine r_ci (x := 1) dX12_fits_117 rfl ?_
        refine r_p (pc2 := 119) dX12_fits_118 rfl rfl ?_
        refine r_p (pc2 := 120) dX12_fits_119 rfl rfl ?_
        refine r_get dX12_fits_120 fkX12_58 rfl rfl ?_
        refine r_ci (x := 3) dX12_fits_123 rfl ?_
        refine r_p (pc2 := 125) dX12_fits_124 rfl rfl ?_
        refine r_p (pc2 := 126) dX12_fits_125 rfl rfl ?_
        obtain ⟨q16, kk⟩ := kk
        refine r_ia dX12_fits_126 rfl q16 ?_
        refine r_p (pc2 := 128) dX12_fits_127 rfl rfl ?_
        refine r_get dX12_fits_128 fkX12_58 rfl rfl ?_
        refine r_ci (x := 3) dX12_fits_131 rfl ?_
        refine r_p (pc2 := 133) dX12_fits_132 rfl rfl ?_
        refine r_p (pc2 := 134) dX12_fits_133 rfl rfl ?_
        refine r_p (pc2 := 136) dX12_fits_134 rfl rfl ?_
        refine r_p (pc2 := 137) dX12_fits_136 rfl rfl ?_
        refine r_ci (x := 1) dX12_fits_137 rfl ?_
        refine r_p (pc2 := 139) dX12_fits_138 rfl rfl ?_
        obtain ⟨q17, kk⟩ := kk
        refine r_ia dX12_fits_139 rfl q17 ?_
        refine r_p (pc2 := 141) dX12_fits_140 rfl rfl ?_
        refine r_p (pc2 := 143) dX12_fits_141 rfl rfl ?_
        refine r_ci (x := 1) dX12_fits_143 rfl ?_
        obtain ⟨q18, kk⟩ := kk
        refine r_cv (d1 := 1) dX12_fits_144 cvX12_232 rfl rfl rfl rfl (Nat.le_of_ble_eq_true rfl) (Nat.le_of_ble_eq_true rfl) (Nat.le_of_ble_eq_true rfl) (c_m_stepOf i5 1 q18) ?_
        refine r_p (pc2 := 148) dX12_fits_147 rfl rfl ?_
        obtain ⟨q19, kk⟩ := kk
        refine r_cv (d1 := 1) dX12_fits_148 cvX12_282 rfl rfl rfl rfl (Nat.le_of_ble_eq_true rfl) (Nat.le_of_ble_eq_true rfl) (Nat.le_of_ble_eq_true rfl) (c_m_addPan (p0 + 1) (T201.2.2.1 588 (3 * p0 : Int32).toNatClampNeg) ((T201.2.2.1 588 (((3 * p0) + i2) - 1 : Int32).toNatClampNeg) + (x_m_stepOf T201 i5 1)) q19) ?_
        refine r_nT (R := rI) rfl kk (fun T7 kk => ?_)
        show tR _ _ _ _ [some (.ref (571 : Nat)), some (.int p0), some (.int p1), some (.int p2), some (.int p3), some (.int i1), some (.int i2), some (.int i5), none] [] _ _ _
        exact (hJ1 T7 kk)
  · refine r_ip (R := rI) c6_1 ?_
    refine r_ci (x := 0) dX12_fits_9 rfl ?_
    exact r_qI dX12_fits_10 rfl rfl rfl rfl
def x_m_seek_6 (l1 : Int32) (l2 : Int32) (l3 : Int32) (l4 : Int32) (l5 : Int32) (l6 : Int32) (K : Int32 → Int32 → St → Int32 × St) : Nat → Int32 → Int32 → St → Int32 × St
  | 0, _, _, T => (0, T)
  | f + 1, v7, v8, T => if (T.2.2.1 575 (16 : Int32).toNatClampNeg) ≤ v8 then (K v7 v8 T) else (if ((l1 >>> (v8 &&& 31)) &&& 1) = 1 then (x_m_seek_6 l1 l2 l3 l4 l5 l6 K f (v7 + 1) (v8 + 1) (sA T 585 (v7 : Int32).toNatClampNeg v8)) else (x_m_seek_6 l1 l2 l3 l4 l5 l6 K f v7 (v8 + 1) T))
def ok_m_seek_6 (l1 : Int32) (l2 : Int32) (l3 : Int32) (l4 : Int32) (l5 : Int32) (l6 : Int32) (Kk : Int32 → Int32 → St → Prop) : Nat → Int32 → Int32 → St → Prop
  | 0, _, _, _ => False
  | f + 1, v7, v8, T => (((T.2.2.1 575 (16 : Int32).toNatClampNeg) ≤ v8 → Kk v7 v8 T) ∧ (¬ (T.2.2.1 575 (16 : Int32).toNatClampNeg) ≤ v8 → ((((l1 >>> (v8 &&& 31)) &&& 1) = 1 → (vp_in v7 4) ∧ ok_m_seek_6 l1 l2 l3 l4 l5 l6 Kk f (v7 + 1) (v8 + 1) (sA T 585 (v7 : Int32).toNatClampNeg v8)) ∧ (¬ ((l1 >>> (v8 &&& 31)) &&& 1) = 1 → ok_m_seek_6 l1 l2 l3 l4 l5 l6 Kk f v7 (v8 + 1) T))))
theorem c_m_seek_6 {X : Nat × (Nat → Int32)} (l1 : Int32) (l2 : Int32) (l3 : Int32) (l4 : Int32) (l5 : Int32) (l6 : Int32) {K : Int32 → Int32 → St → Int32 × St} {Kk : Int32 → Int32 → St → Prop} (hk : ∀ (v7 : Int32) (v8 : Int32) (T : St), Kk v7 v8 T → tR X 4 mX12_seek 46 [some (.ref (571 : Nat)), some (.int l1), some (.int l2), some (.int l3), some (.int l4), some (.int l5), some (.int l6), some (.int v7), some (.int v8), none, none, none] [] T (rI (K v7 v8 T)).1 ((rI (K v7 v8 T)).2)) : ∀ (f : Nat) (v7 : Int32) (v8 : Int32) (T : St), ok_m_seek_6 l1 l2 l3 l4 l5 l6 Kk f v7 v8 T → tR X 4 mX12_seek 6 [some (.ref (571 : Nat)), some (.int l1), some (.int l2), some (.int l3), some (.int l4), some (.int l5), some (.int l6), some (.int v7), some (.int v8), none, none, none] [] T (rI (x_m_seek_6 l1 l2 l3 l4 l5 l6 K f v7 v8 T)).1 ((rI (x_m_seek_6 l1 l2 l3 l4 l5 l6 K f v7 v8 T)).2) := by
  intro f
  induction f with
  | zero => intro v7 v8 T kk; exact kk.elim
  | succ f ih =>
    intro v7 v8 T kk
    rw [ok_m_seek_6] at kk
    rw [x_m_seek_6]
    refine r_p (pc2 := 8) dX12_seek_6 rfl rfl ?_
    refine r_p (pc2 := 9) dX12_seek_8 rfl rfl ?_
    refine r_get dX12_seek_9 fkX12_19 rfl rfl ?_
    refine r_cb (x := 16) dX12_seek_12 rfl ?_
    refine r_ia dX12_seek_14 rfl (in_c (by decide)) ?_
    refine r_cge dX12_seek_15 rfl (fun c15_1 => ?_) (fun c15_1 => ?_)
    · refine r_ip (R := rI) c15_1 ?_
      have kk := kk.1 c15_1
      show tR _ _ _ _ [some (.ref (571 : Nat)), some (.int l1), some (.int l2), some (.int l3), some (.int l4), some (.int l5), some (.int l6), some (.int v7), some (.int v8), none, none, none] _ _ _ _
      exact (hk v7 v8 T kk)
    · refine r_in (R := rI) c15_1 ?_
      have kk := kk.2 c15_1
      refine r_p (pc2 := 19) dX12_seek_18 rfl rfl ?_
      refine r_p (pc2 := 21) dX12_seek_19 rfl rfl ?_
      refine r_p (pc2 := 22) dX12_seek_21 rfl rfl ?_
      refine r_ci (x := 1) dX12_seek_22 rfl ?_
      refine r_p (pc2 := 24) dX12_seek_23 rfl rfl ?_
      refine r_ci (x := 1) dX12_seek_24 rfl ?_
      refine r_cne dX12_seek_25 rfl (fun c25_2 => ?_) (fun c25_2 => ?_)
      · refine r_in (R := rI) c25_2 ?_
        have kk := kk.2 c25_2
        refine r_inc (L2 := [some (.ref (571 : Nat)), some (.int l1), some (.int l2), some (.int l3), some (.int l4), some (.int l5), some (.int l6), some (.int v7), some (.int (v8 + 1)), none, none, none]) (y := 1) dX12_seek_40 rfl rfl rfl ?_
        refine r_go dX12_seek_43 rfl ?_
        show tR _ _ _ _ [some (.ref (571 : Nat)), some (.int l1), some (.int l2), some (.int l3), some (.int l4), some (.int l5), some (.int l6), some (.int v7), some (.int (v8 + 1)), none, none, none] _ _ _ _
        exact (ih v7 (v8 + 1) T kk)
      · refine r_ip (R := rI) c25_2 ?_
        have kk := kk.1 c25_2
        refine r_p (pc2 := 29) dX12_seek_28 rfl rfl ?_
        refine r_get dX12_seek_29 fkX12_49 rfl rfl ?_
        refine r_p (pc2 := 34) dX12_seek_32 rfl rfl ?_
        refine r_p (pc2 := 36) dX12_seek_34 rfl rfl ?_
        obtain ⟨q1, kk⟩ := kk
        refine r_ias dX12_seek_36 rfl q1 ?_
        refine r_inc (L2 := [some (.ref (571 : Nat)), some (.int l1), some (.int l2), some (.int l3), some (.int l4), some (.int l5), some (.int l6), some (.int (v7 + 1)), some (.int v8), none, none, none]) (y := 1) dX12_seek_37 rfl rfl rfl ?_
        refine r_inc (L2 := [some (.ref (571 : Nat)), some (.int l1), some (.int l2), some (.int l3), some (.int l4), some (.int l5), some (.int l6), some (.int (v7 + 1)), some (.int (v8 + 1)), none, none, none]) (y := 1) dX12_seek_40 rfl rfl rfl ?_
        refine r_go dX12_seek_43 rfl ?_
        show tR _ _ _ _ [some (.ref (571 : Nat)), some (.int l1), some (.int l2), some (.int l3), some (.int l4), some (.int l5), some (.int l6), some (.int (v7 + 1)), some (.int (v8 + 1)), none, none, none] _ _ _ _
        exact (ih (v7 + 1) (v8 + 1) (sA T 585 (v7 : Int32).toNatClampNeg v8) kk)
def x_m_seek_226 (l1 : Int32) (l2 : Int32) (l3 : Int32) (l4 : Int32) (l5 : Int32) (l6 : Int32) (l7 : Int32) (l8 : Int32) (l9 : Int32) (l10 : Int32) (K : Int32 → St → Int32 × St) : Nat → Int32 → St → Int32 × St
  | 0, _, T => (0, T)
  | f + 1, v11, T => if 4 ≤ v11 then (K v11 T) else (x_m_seek_226 l1 l2 l3 l4 l5 l6 l7 l8 l9 l10 K f (v11 + 1) (sA T 589 (v11 : Int32).toNatClampNeg (T.2.2.1 586 (v11 : Int32).toNatClampNeg)))
def ok_m_seek_226 (l1 : Int32) (l2 : Int32) (l3 : Int32) (l4 : Int32) (l5 : Int32) (l6 : Int32) (l7 : Int32) (l8 : Int32) (l9 : Int32) (l10 : Int32) (Kk : Int32 → St → Prop) : Nat → Int32 → St → Prop
  | 0, _, _ => False
  | f + 1, v11, T => ((4 ≤ v11 → Kk v11 T) ∧ (¬ 4 ≤ v11 → (vp_in v11 5) ∧ (vp_in v11 4) ∧ ok_m_seek_226 l1 l2 l3 l4 l5 l6 l7 l8 l9 l10 Kk f (v11 + 1) (sA T 589 (v11 : Int32).toNatClampNeg (T.2.2.1 586 (v11 : Int32).toNatClampNeg))))
theorem c_m_seek_226 {X : Nat × (Nat → Int32)} (l1 : Int32) (l2 : Int32) (l3 : Int32) (l4 : Int32) (l5 : Int32) (l6 : Int32) (l7 : Int32) (l8 : Int32) (l9 : Int32) (l10 : Int32) {K : Int32 → St → Int32 × St} {Kk : Int32 → St → Prop} (hk : ∀ (v11 : Int32) (T : St), Kk v11 T → tR X 4 mX12_seek 252 [some (.ref (571 : Nat)), some (.int l1), some (.int l2), some (.int l3), some (.int l4), some (.int l5), some (.int l6), some (.int l7), some (.int l8), some (.int l9), some (.int l10), some (.int v11)] [] T (rI (K v11 T)).1 ((rI (K v11 T)).2)) : ∀ (f : Nat) (v11 : Int32) (T : St), ok_m_seek_226 l1 l2 l3 l4 l5 l6 l7 l8 l9 l10 Kk f v11 T → tR X 4 mX12_seek 226 [some (.ref (571 : Nat)), some (.int l1), some (.int l2), some (.int l3), some (.int l4), some (.int l5), some (.int l6), some (.int l7), some (.int l8), some (.int l9), some (.int l10), some (.int v11)] [] T (rI (x_m_seek_226 l1 l2 l3 l4 l5 l6 l7 l8 l9 l10 K f v11 T)).1 ((rI (x_m_seek_226 l1 l2 l3 l4 l5 l6 l7 l8 l9 l10 K f v11 T)).2) := by
  intro f
  induction f with
  | zero => intro v11 T kk; exact kk.elim
  | succ f ih =>
    intro v11 T kk
    rw [ok_m_seek_226] at kk
    rw [x_m_seek_226]
    refine r_p (pc2 := 228) dX12_seek_226 rfl rfl ?_
    refine r_ci (x := 4) dX12_seek_228 rfl ?_
    refine r_cge dX12_seek_229 rfl (fun c229_13 => ?_) (fun c229_13 => ?_)
    · refine r_ip (R := rI) c229_13 ?_
      have kk := kk.1 c229_13
      show tR _ _ _ _ [some (.ref (571 : Nat)), some (.int l1), some (.int l2), some (.int l3), some (.int l4), some (.int l5), some (.int l6), some (.int l7), some (.int l8), some (.int l9), some (.int l10), some (.int v11)] _ _ _ _
      exact (hk v11 T kk)
    · refine r_in (R := rI) c229_13 ?_
      have kk := kk.2 c229_13
      refine r_p (pc2 := 233) dX12_seek_232 rfl rfl ?_
      refine r_get dX12_seek_233 fkX12_61 rfl rfl ?_
      refine r_p (pc2 := 238) dX12_seek_236 rfl rfl ?_
      refine r_p (pc2 := 239) dX12_seek_238 rfl rfl ?_
      refine r_get dX12_seek_239 fkX12_52 rfl rfl ?_
      refine r_p (pc2 := 244) dX12_seek_242 rfl rfl ?_
      obtain ⟨q11, kk⟩ := kk
      refine r_ia dX12_seek_244 rfl q11 ?_
      obtain ⟨q12, kk⟩ := kk
      refine r_ias dX12_seek_245 rfl q12 ?_
      refine r_inc (L2 := [some (.ref (571 : Nat)), some (.int l1), some (.int l2), some (.int l3), some (.int l4), some (.int l5), some (.int l6), some (.int l7), some (.int l8), some (.int l9), some (.int l10), some (.int (v11 + 1))]) (y := 1) dX12_seek_246 rfl rfl rfl ?_
      refine r_go dX12_seek_249 rfl ?_
      show tR _ _ _ _ [some (.ref (571 : Nat)), some (.int l1), some (.int l2), some (.int l3), some (.int l4), some (.int l5), some (.int l6), some (.int l7), some (.int l8), some (.int l9), some (.int l10), some (.int (v11 + 1))] _ _ _ _
      exact (ih (v11 + 1) (sA T 589 (v11 : Int32).toNatClampNeg (T.2.2.1 586 (v11 : Int32).toNatClampNeg)) kk)
def x_m_seek_255 (l1 : Int32) (l2 : Int32) (l3 : Int32) (l4 : Int32) (l5 : Int32) (l6 : Int32) (l7 : Int32) (l8 : Int32) (l9 : Int32) (l10 : Int32) (K : Int32 → St → Int32 × St) : Nat → Int32 → St → Int32 × St
  | 0, _, T => (0, T)
  | f + 1, v11, T => if 12 ≤ v11 then (K v11 T) else (x_m_seek_255 l1 l2 l3 l4 l5 l6 l7 l8 l9 l10 K f (v11 + 1) (sA T 590 (v11 : Int32).toNatClampNeg (T.2.2.1 588 (v11 : Int32).toNatClampNeg)))
def ok_m_seek_255 (l1 : Int32) (l2 : Int32) (l3 : Int32) (l4 : Int32) (l5 : Int32) (l6 : Int32) (l7 : Int32) (l8 : Int32) (l9 : Int32) (l10 : Int32) (Kk : Int32 → St → Prop) : Nat → Int32 → St → Prop
  | 0, _, _ => False
  | f + 1, v11, T => ((12 ≤ v11 → Kk v11 T) ∧ (¬ 12 ≤ v11 → (vp_in v11 12) ∧ ok_m_seek_255 l1 l2 l3 l4 l5 l6 l7 l8 l9 l10 Kk f (v11 + 1) (sA T 590 (v11 : Int32).toNatClampNeg (T.2.2.1 588 (v11 : Int32).toNatClampNeg))))
theorem c_m_seek_255 {X : Nat × (Nat → Int32)} (l1 : Int32) (l2 : Int32) (l3 : Int32) (l4 : Int32) (l5 : Int32) (l6 : Int32) (l7 : Int32) (l8 : Int32) (l9 : Int32) (l10 : Int32) {K : Int32 → St → Int32 × St} {Kk : Int32 → St → Prop} (hk : ∀ (v11 : Int32) (T : St), Kk v11 T → tR X 4 mX12_seek 282 [some (.ref (571 : Nat)), some (.int l1), some (.int l2), some (.int l3), some (.int l4), some (.int l5), some (.int l6), some (.int l7), some (.int l8), some (.int l9), some (.int l10), some (.int v11)] [] T (rI (K v11 T)).1 ((rI (K v11 T)).2)) : ∀ (f : Nat) (v11 : Int32) (T : St), ok_m_seek_255 l1 l2 l3 l4 l5 l6 l7 l8 l9 l10 Kk f v11 T → tR X 4 mX12_seek 255 [some (.ref (571 : Nat)), some (.int l1), some (.int l2), some (.int l3), some (.int l4), some (.int l5), some (.int l6), some (.int l7), some (.int l8), some (.int l9), some (.int l10), some (.int v11)] [] T (rI (x_m_seek_255 l1 l2 l3 l4 l5 l6 l7 l8 l9 l10 K f v11 T)).1 ((rI (x_m_seek_255 l1 l2 l3 l4 l5 l6 l7 l8 l9 l10 K f v11 T)).2) := by
  intro f
  induction f with
  | zero => intro v11 T kk; exact kk.elim
  | succ f ih =>
    intro v11 T kk
    rw [ok_m_seek_255] at kk
    rw [x_m_seek_255]
    refine r_p (pc2 := 257) dX12_seek_255 rfl rfl ?_
    refine r_cb (x := 12) dX12_seek_257 rfl ?_
    refine r_cge dX12_seek_259 rfl (fun c259_14 => ?_) (fun c259_14 => ?_)
    · refine r_ip (R := rI) c259_14 ?_
      have kk := kk.1 c259_14
      show tR _ _ _ _ [some (.ref (571 : Nat)), some (.int l1), some (.int l2), some (.int l3), some (.int l4), some (.int l5), some (.int l6), some (.int l7), some (.int l8), some (.int l9), some (.int l10), some (.int v11)] _ _ _ _
      exact (hk v11 T kk)
    · refine r_in (R := rI) c259_14 ?_
      have kk := kk.2 c259_14
      refine r_p (pc2 := 263) dX12_seek_262 rfl rfl ?_
      refine r_get dX12_seek_263 fkX12_64 rfl rfl ?_
      refine r_p (pc2 := 268) dX12_seek_266 rfl rfl ?_
      refine r_p (pc2 := 269) dX12_seek_268 rfl rfl ?_
      refine r_get dX12_seek_269 fkX12_58 rfl rfl ?_
      refine r_p (pc2 := 274) dX12_seek_272 rfl rfl ?_
      obtain ⟨q13, kk⟩ := kk
      refine r_ia dX12_seek_274 rfl q13 ?_
      refine r_ias dX12_seek_275 rfl q13 ?_
      refine r_inc (L2 := [some (.ref (571 : Nat)), some (.int l1), some (.int l2), some (.int l3), some (.int l4), some (.int l5), some (.int l6), some (.int l7), some (.int l8), some (.int l9), some (.int l10), some (.int (v11 + 1))]) (y := 1) dX12_seek_276 rfl rfl rfl ?_
      refine r_go dX12_seek_279 rfl ?_
      show tR _ _ _ _ [some (.ref (571 : Nat)), some (.int l1), some (.int l2), some (.int l3), some (.int l4), some (.int l5), some (.int l6), some (.int l7), some (.int l8), some (.int l9), some (.int l10), some (.int (v11 + 1))] _ _ _ _
      exact (ih (v11 + 1) (sA T 590 (v11 : Int32).toNatClampNeg (T.2.2.1 588 (v11 : Int32).toNatClampNeg)) kk)
def x_m_seek_70 (l1 : Int32) (l2 : Int32) (l3 : Int32) (l4 : Int32) (l5 : Int32) (l6 : Int32) (l7 : Int32) (K : Int32 → Int32 → St → Int32 × St) : Nat → Int32 → Int32 → St → Int32 × St
  | 0, _, _, T => (0, T)
  | f + 1, v8, v9, T => if v9 < 0 then (K v8 v9 T) else (jn (fun (KJ1 : Int32 × St) => if v8 = 0 then (KJ1) else (if l6 = 0 then (KJ1) else (K v8 v9 T))) (jn (fun (i2 : Int32) => if ((sA T 586 (v9 : Int32).toNatClampNeg ((T.2.2.1 586 (v9 : Int32).toNatClampNeg) + 1)).2.2.1 586 (v9 : Int32).toNatClampNeg) = (x_m_choicesOf (sA T 586 (v9 : Int32).toNatClampNeg ((T.2.2.1 586 (v9 : Int32).toNatClampNeg) + 1)) i2) then (x_m_seek_70 l1 l2 l3 l4 l5 l6 l7 K f v8 (v9 + (-1)) (sA T 586 (v9 : Int32).toNatClampNeg ((T.2.2.1 586 (v9 : Int32).toNatClampNeg) + 1))) else (jn (fun (KJ2 : Int32 × St) => if l5 = 0 then (KJ2) else (if 0 < (((sA T 586 (v9 : Int32).toNatClampNeg ((T.2.2.1 586 (v9 : Int32).toNatClampNeg) + 1)).2.2.1 586 (v9 : Int32).toNatClampNeg) - ((sA T 586 (v9 : Int32).toNatClampNeg ((T.2.2.1 586 (v9 : Int32).toNatClampNeg) + 1)).2.2.1 586 (v9 : Int32).toNatClampNeg) / (1 + (x_m_dishOf (sA T 586 (v9 : Int32).toNatClampNeg ((T.2.2.1 586 (v9 : Int32).toNatClampNeg) + 1)) i2 0)) * (1 + (x_m_dishOf (sA T 586 (v9 : Int32).toNatClampNeg ((T.2.2.1 586 (v9 : Int32).toNatClampNeg) + 1)) i2 0))) then (x_m_seek_70 l1 l2 l3 l4 l5 l6 l7 K f v8 v9 (sA T 586 (v9 : Int32).toNatClampNeg ((T.2.2.1 586 (v9 : Int32).toNatClampNeg) + 1))) else (KJ2))) (jn (fun (T3 : St) => if ((x_m_fits (sA T 586 (v9 : Int32).toNatClampNeg ((T.2.2.1 586 (v9 : Int32).toNatClampNeg) + 1)) v9 l2 l3 l4).1) = 0 then (x_m_seek_70 l1 l2 l3 l4 l5 l6 l7 K f v8 v9 T3) else (jn (fun (KJ3 : Int32 × St) => if v8 = 0 then (KJ3) else (if (T3.1 571 31) ≤ (T3.2.2.1 587 (v9 + 1 : Int32).toNatClampNeg) then (x_m_seek_70 l1 l2 l3 l4 l5 l6 l7 K f v8 v9 T3) else (KJ3))) (if (l7 - 1) ≤ v9 then (x_m_seek_226 l1 l2 l3 l4 l5 l6 l7 1 v9 i2 (fun (w2_11 : Int32) (T202 : St) => x_m_seek_255 l1 l2 l3 l4 l5 l6 l7 1 v9 i2 (fun (w3_11 : Int32) (T203 : St) => x_m_seek_70 l1 l2 l3 l4 l5 l6 l7 K f 1 v9 T203) 1000 0 T202) 1000 0 (sF T3 571 31 (T3.2.2.1 587 (l7 : Int32).toNatClampNeg))) else (x_m_seek_70 l1 l2 l3 l4 l5 l6 l7 K f v8 (v9 + 1) (sA T3 586 (v9 + 1 : Int32).toNatClampNeg (-1)))))) ((x_m_fits (sA T 586 (v9 : Int32).toNatClampNeg ((T.2.2.1 586 (v9 : Int32).toNatClampNeg) + 1)) v9 l2 l3 l4).2)))) ((sA T 586 (v9 : Int32).toNatClampNeg ((T.2.2.1 586 (v9 : Int32).toNatClampNeg) + 1)).2.2.1 585 (v9 : Int32).toNatClampNeg)))
def ok_m_seek_70 (l1 : Int32) (l2 : Int32) (l3 : Int32) (l4 : Int32) (l5 : Int32) (l6 : Int32) (l7 : Int32) (Kk : Int32 → Int32 → St → Prop) : Nat → Int32 → Int32 → St → Prop
  | 0, _, _, _ => False
  | f + 1, v8, v9, T => ((v9 < 0 → Kk v8 v9 T) ∧ (¬ v9 < 0 → jn (fun (OJ1 : Prop) => ((v8 = 0 → OJ1) ∧ (¬ v8 = 0 → ((l6 = 0 → OJ1) ∧ (¬ l6 = 0 → Kk v8 v9 T))))) ((vp_in v9 5) ∧ (vp_in v9 4) ∧ jn (fun (i2 : Int32) => (ok_m_choicesOf (sA T 586 (v9 : Int32).toNatClampNeg ((T.2.2.1 586 (v9 : Int32).toNatClampNeg) + 1)) i2) ∧ ((((sA T 586 (v9 : Int32).toNatClampNeg ((T.2.2.1 586 (v9 : Int32).toNatClampNeg) + 1)).2.2.1 586 (v9 : Int32).toNatClampNeg) = (x_m_choicesOf (sA T 586 (v9 : Int32).toNatClampNeg ((T.2.2.1 586 (v9 : Int32).toNatClampNeg) + 1)) i2) → ok_m_seek_70 l1 l2 l3 l4 l5 l6 l7 Kk f v8 (v9 + (-1)) (sA T 586 (v9 : Int32).toNatClampNeg ((T.2.2.1 586 (v9 : Int32).toNatClampNeg) + 1))) ∧ (¬ ((sA T 586 (v9 : Int32).toNatClampNeg ((T.2.2.1 586 (v9 : Int32).toNatClampNeg) + 1)).2.2.1 586 (v9 : Int32).toNatClampNeg) = (x_m_choicesOf (sA T 586 (v9 : Int32).toNatClampNeg ((T.2.2.1 586 (v9 : Int32).toNatClampNeg) + 1)) i2) → jn (fun (OJ2 : Prop) => ((l5 = 0 → OJ2) ∧ (¬ l5 = 0 → (ok_m_dishOf (sA T 586 (v9 : Int32).toNatClampNeg ((T.2.2.1 586 (v9 : Int32).toNatClampNeg) + 1)) i2 0) ∧ (¬ (1 + (x_m_dishOf (sA T 586 (v9 : Int32).toNatClampNeg ((T.2.2.1 586 (v9 : Int32).toNatClampNeg) + 1)) i2 0)) = (0 : Int32)) ∧ ((0 < (((sA T 586 (v9 : Int32).toNatClampNeg ((T.2.2.1 586 (v9 : Int32).toNatClampNeg) + 1)).2.2.1 586 (v9 : Int32).toNatClampNeg) - ((sA T 586 (v9 : Int32).toNatClampNeg ((T.2.2.1 586 (v9 : Int32).toNatClampNeg) + 1)).2.2.1 586 (v9 : Int32).toNatClampNeg) / (1 + (x_m_dishOf (sA T 586 (v9 : Int32).toNatClampNeg ((T.2.2.1 586 (v9 : Int32).toNatClampNeg) + 1)) i2 0)) * (1 + (x_m_dishOf (sA T 586 (v9 : Int32).toNatClampNeg ((T.2.2.1 586 (v9 : Int32).toNatClampNeg) + 1)) i2 0))) → ok_m_seek_70 l1 l2 l3 l4 l5 l6 l7 Kk f v8 v9 (sA T 586 (v9 : Int32).toNatClampNeg ((T.2.2.1 586 (v9 : Int32).toNatClampNeg) + 1))) ∧ (¬ 0 < (((sA T 586 (v9 : Int32).toNatClampNeg ((T.2.2.1 586 (v9 : Int32).toNatClampNeg) + 1)).2.2.1 586 (v9 : Int32).toNatClampNeg) - ((sA T 586 (v9 : Int32).toNatClampNeg ((T.2.2.1 586 (v9 : Int32).toNatClampNeg) + 1)).2.2.1 586 (v9 : Int32).toNatClampNeg) / (1 + (x_m_dishOf (sA T 586 (v9 : Int32).toNatClampNeg ((T.2.2.1 586 (v9 : Int32).toNatClampNeg) + 1)) i2 0)) * (1 + (x_m_dishOf (sA T 586 (v9 : Int32).toNatClampNeg ((T.2.2.1 586 (v9 : Int32).toNatClampNeg) + 1)) i2 0))) → OJ2))))) ((ok_m_fits (sA T 586 (v9 : Int32).toNatClampNeg ((T.2.2.1 586 (v9 : Int32).toNatClampNeg) + 1)) v9 l2 l3 l4) ∧ jn (fun (T3 : St) => ((((x_m_fits (sA T 586 (v9 : Int32).toNatClampNeg ((T.2.2.1 586 (v9 : Int32).toNatClampNeg) + 1)) v9 l2 l3 l4).1) = 0 → ok_m_seek_70 l1 l2 l3 l4 l5 l6 l7 Kk f v8 v9 T3) ∧ (¬ ((x_m_fits (sA T 586 (v9 : Int32).toNatClampNeg ((T.2.2.1 586 (v9 : Int32).toNatClampNeg) + 1)) v9 l2 l3 l4).1) = 0 → jn (fun (OJ3 : Prop) => ((v8 = 0 → OJ3) ∧ (¬ v8 = 0 → (vp_in (v9 + 1) 5) ∧ (((T3.1 571 31) ≤ (T3.2.2.1 587 (v9 + 1 : Int32).toNatClampNeg) → ok_m_seek_70 l1 l2 l3 l4 l5 l6 l7 Kk f v8 v9 T3) ∧ (¬ (T3.1 571 31) ≤ (T3.2.2.1 587 (v9 + 1 : Int32).toNatClampNeg) → OJ3))))) ((((l7 - 1) ≤ v9 → (vp_in l7 5) ∧ ok_m_seek_226 l1 l2 l3 l4 l5 l6 l7 1 v9 i2 (fun (w2_11 : Int32) (T202 : St) => ok_m_seek_255 l1 l2 l3 l4 l5 l6 l7 1 v9 i2 (fun (w3_11 : Int32) (T203 : St) => ok_m_seek_70 l1 l2 l3 l4 l5 l6 l7 Kk f 1 v9 T203) 1000 0 T202) 1000 0 (sF T3 571 31 (T3.2.2.1 587 (l7 : Int32).toNatClampNeg))) ∧ (¬ (l7 - 1) ≤ v9 → (vp_in (v9 + 1) 5) ∧ ok_m_seek_70 l1 l2 l3 l4 l5 l6 l7 Kk f v8 (v9 + 1) (sA T3 586 (v9 + 1 : Int32).toNatClampNeg (-1)))))))) ((x_m_fits (sA T 586 (v9 : Int32).toNatClampNeg ((T.2.2.1 586 (v9 : Int32).toNatClampNeg) + 1)) v9 l2 l3 l4).2))))) ((sA T 586 (v9 : Int32).toNatClampNeg ((T.2.2.1 586 (v9 : Int32).toNatClampNeg) + 1)).2.2.1 585 (v9 : Int32).toNatClampNeg))))
theorem c_m_seek_70 {X : Nat × (Nat → Int32)} (l1 : Int32) (l2 : Int32) (l3 : Int32) (l4 : Int32) (l5 : Int32) (l6 : Int32) (l7 : Int32) {K : Int32 → Int32 → St → Int32 × St} {Kk : Int32 → Int32 → St → Prop} (hk : ∀ (v8 : Int32) (v9 : Int32) (T : St), Kk v8 v9 T → tR X 4 mX12_seek 285 [some (.ref (571 : Nat)), some (.int l1), some (.int l2), some (.int l3), some (.int l4), some (.int l5), some (.int l6), some (.int l7), some (.int v8), some (.int v9), none, none] [] T (rI (K v8 v9 T)).1 ((rI (K v8 v9 T)).2)) : ∀ (f : Nat) (v8 : Int32) (v9 : Int32) (T : St), ok_m_seek_70 l1 l2 l3 l4 l5 l6 l7 Kk f v8 v9 T → tR X 4 mX12_seek 70 [some (.ref (571 : Nat)), some (.int l1), some (.int l2), some (.int l3), some (.int l4), some (.int l5), some (.int l6), some (.int l7), some (.int v8), some (.int v9), none, none] [] T (rI (x_m_seek_70 l1 l2 l3 l4 l5 l6 l7 K f v8 v9 T)).1 ((rI (x_m_seek_70 l1 l2 l3 l4 l5 l6 l7 K f v8 v9 T)).2) := by
  intro f
  induction f with
  | zero => intro v8 v9 T kk; exact kk.elim
  | succ f ih =>
    intro v8 v9 T kk
    rw [ok_m_seek_70] at kk
    rw [x_m_seek_70]
    refine r_p (pc2 := 72) dX12_seek_70 rfl rfl ?_
    refine r_ilt dX12_seek_72 rfl (fun c72_3 => ?_) (fun c72_3 => ?_)
    · refine r_ip (R := rI) c72_3 ?_
      have kk := kk.1 c72_3
      show tR _ _ _ _ [some (.ref (571 : Nat)), some (.int l1), some (.int l2), some (.int l3), some (.int l4), some (.int l5), some (.int l6), some (.int l7), some (.int v8), some (.int v9), none, none] _ _ _ _
      exact (hk v8 v9 T kk)
    · refine r_in (R := rI) c72_3 ?_
      have kk := kk.2 c72_3
      refine r_p (pc2 := 77) dX12_seek_75 rfl rfl ?_
      refine r_jn (R := rI) (J := fun (KJ1 : Int32 × St) (OJ1 : Prop) => OJ1 → tR X 4 mX12_seek 85 [some (.ref (571 : Nat)), some (.int l1), some (.int l2), some (.int l3), some (.int l4), some (.int l5), some (.int l6), some (.int l7), some (.int v8), some (.int v9), none, none] [] T (rI KJ1).1 (rI KJ1).2) kk (fun  kk => ?_) (fun KJ1 OJ1 hJ1 kk => ?_)
      · skip
        refine r_p (pc2 := 86) dX12_seek_85 rfl rfl ?_
        refine r_get dX12_seek_86 fkX12_52 rfl rfl ?_
        refine r_p (pc2 := 91) dX12_seek_89 rfl rfl ?_
        refine r_p (pc2 := 92) dX12_seek_91 rfl rfl ?_
        obtain ⟨q3, kk⟩ := kk
        refine r_ia dX12_seek_92 rfl q3 ?_
        refine r_ci (x := 1) dX12_seek_93 rfl ?_
        refine r_p (pc2 := 95) dX12_seek_94 rfl rfl ?_
        refine r_ias dX12_seek_95 rfl q3 ?_
        refine r_p (pc2 := 97) dX12_seek_96 rfl rfl ?_
        refine r_get dX12_seek_97 fkX12_49 rfl rfl ?_
        refine r_p (pc2 := 102) dX12_seek_100 rfl rfl ?_
        obtain ⟨q4, kk⟩ := kk
        refine r_ia dX12_seek_102 rfl q4 ?_
        refine r_nI (R := rI) rfl kk (fun i2 kk => ?_)
        refine r_p (pc2 := 105) (L2 := [some (.ref (571 : Nat)), some (.int l1), some (.int l2), some (.int l3), some (.int l4), some (.int l5), some (.int l6), some (.int l7), some (.int v8), some (.int v9), some (.int i2), none]) dX12_seek_103 rfl rfl ?_
        refine r_p (pc2 := 106) dX12_seek_105 rfl rfl ?_
        refine r_get dX12_seek_106 fkX12_52 rfl rfl ?_
        refine r_p (pc2 := 111) dX12_seek_109 rfl rfl ?_
        refine r_ia dX12_seek_111 rfl q3 ?_
        refine r_p (pc2 := 113) dX12_seek_112 rfl rfl ?_
        refine r_p (pc2 := 115) dX12_seek_113 rfl rfl ?_
        obtain ⟨q5, kk⟩ := kk
        refine r_cv (d1 := 3) dX12_seek_115 cvX12_243 rfl rfl rfl rfl (Nat.le_of_ble_eq_true rfl) (Nat.le_of_ble_eq_true rfl) (Nat.le_of_ble_eq_true rfl) (c_m_choicesOf i2 q5) ?_
        refine r_cne dX12_seek_118 rfl (fun c118_6 => ?_) (fun c118_6 => ?_)
        · refine r_in (R := rI) c118_6 ?_
          have kk := kk.2 c118_6
          refine r_p (pc2 := 129) dX12_seek_127 rfl rfl ?_
          refine r_jn (R := rI) (J := fun (KJ2 : Int32 × St) (OJ2 : Prop) => OJ2 → tR X 4 mX12_seek 152 [some (.ref (571 : Nat)), some (.int l1), some (.int l2), some (.int l3), some (.int l4), some (.int l5), some (.int l6), some (.int l7), some (.int v8), some (.int v9), some (.int i2), none] [] (sA T 586 (v9 : Int32).toNatClampNeg ((T.2.2.1 586 (v9 : Int32).toNatClampNeg) + 1)) (rI KJ2).1 (rI KJ2).2) kk (fun  kk => ?_) (fun KJ2 OJ2 hJ2 kk => ?_)
          · skip
            refine r_p (pc2 := 153) dX12_seek_152 rfl rfl ?_
            refine r_p (pc2 := 155) dX12_seek_153 rfl rfl ?_
            refine r_p (pc2 := 156) dX12_seek_155 rfl rfl ?_
            refine r_p (pc2 := 157) dX12_seek_156 rfl rfl ?_
            refine r_p (pc2 := 159) dX12_seek_157 rfl rfl ?_
            obtain ⟨q8, kk⟩ := kk
            refine r_cv (d1 := 4) dX12_seek_159 cvX12_292 rfl rfl rfl rfl (Nat.le_of_ble_eq_true rfl) (Nat.le_of_ble_eq_true rfl) (Nat.le_of_ble_eq_true rfl) (c_m_fits v9 l2 l3 l4 q8) ?_
            refine r_nT (R := rI) rfl kk (fun T3 kk => ?_)
            refine r_ieq dX12_seek_162 rfl (fun c162_9 => ?_) (fun c162_9 => ?_)
            · refine r_ip (R := rI) c162_9 ?_
              have kk := kk.1 c162_9
              refine r_go dX12_seek_282 rfl ?_
              show tR _ _ _ _ [some (.ref (571 : Nat)), some (.int l1), some (.int l2), some (.int l3), some (.int l4), some (.int l5), some (.int l6), some (.int l7), some (.int v8), some (.int v9), some (.int i2), none] _ _ _ _
              exact r_le (le_s (le_s (le_s (le_s (le_s (le_s (le_s (le_s (le_s (le_s (le_n (le_s (le_0))))))))))))) (ih v8 v9 T3 kk)
            · refine r_in (R := rI) c162_9 ?_
              have kk := kk.2 c162_9
              refine r_p (pc2 := 167) dX12_seek_165 rfl rfl ?_
              refine r_jn (R := rI) (J := fun (KJ3 : Int32 × St) (OJ3 : Prop) => OJ3 → tR X 4 mX12_seek 186 [some (.ref (571 : Nat)), some (.int l1), some (.int l2), some (.int l3), some (.int l4), some (.int l5), some (.int l6), some (.int l7), some (.int v8), some (.int v9), some (.int i2), none] [] T3 (rI KJ3).1 (rI KJ3).2) kk (fun  kk => ?_) (fun KJ3 OJ3 hJ3 kk => ?_)
              · skip
                refine r_p (pc2 := 188) dX12_seek_186 rfl rfl ?_
                refine r_p (pc2 := 190) dX12_seek_188 rfl rfl ?_
                refine r_ci (x := 1) dX12_seek_190 rfl ?_
                refine r_p (pc2 := 192) dX12_seek_191 rfl rfl ?_
                refine r_cge dX12_seek_192 rfl (fun c192_12 => ?_) (fun c192_12 => ?_)
                · refine r_ip (R := rI) c192_12 ?_
                  have kk := kk.1 c192_12
                  refine r_ci (x := 1) dX12_seek_209 rfl ?_
                  refine r_p (pc2 := 212) (L2 := [some (.ref (571 : Nat)), some (.int l1), some (.int l2), some (.int l3), some (.int l4), some (.int l5), some (.int l6), some (.int l7), some (.int 1), some (.int v9), some (.int i2), none]) dX12_seek_210 rfl rfl ?_
                  refine r_p (pc2 := 213) dX12_seek_212 rfl rfl ?_
                  refine r_p (pc2 := 214) dX12_seek_213 rfl rfl ?_
                  refine r_get dX12_seek_214 fkX12_55 rfl rfl ?_
                  refine r_p (pc2 := 219) dX12_seek_217 rfl rfl ?_
                  obtain ⟨q10, kk⟩ := kk
                  refine r_ia dX12_seek_219 rfl q10 ?_
                  refine r_put dX12_seek_220 fkX12_296 rfl rfl rfl (Nat.le_of_ble_eq_true rfl) rfl rfl ?_
                  refine r_ci (x := 0) dX12_seek_223 rfl ?_
                  refine r_p (pc2 := 226) (L2 := [some (.ref (571 : Nat)), some (.int l1), some (.int l2), some (.int l3), some (.int l4), some (.int l5), some (.int l6), some (.int l7), some (.int 1), some (.int v9), some (.int i2), some (.int 0)]) dX12_seek_224 rfl rfl ?_
                  show tR _ _ _ _ [some (.ref (571 : Nat)), some (.int l1), some (.int l2), some (.int l3), some (.int l4), some (.int l5), some (.int l6), some (.int l7), some (.int 1), some (.int v9), some (.int i2), some (.int 0)] _ _ _ _
                  refine (c_m_seek_226 l1 l2 l3 l4 l5 l6 l7 1 v9 i2 (fun w2_11 T202 kk => ?_) 1000 0 (sF T3 571 31 (T3.2.2.1 587 (l7 : Int32).toNatClampNeg)) kk)
                  · skip
                    refine r_ci (x := 0) dX12_seek_252 rfl ?_
                    refine r_p (pc2 := 255) (L2 := [some (.ref (571 : Nat)), some (.int l1), some (.int l2), some (.int l3), some (.int l4), some (.int l5), some (.int l6), some (.int l7), some (.int 1), some (.int v9), some (.int i2), some (.int 0)]) dX12_seek_253 rfl rfl ?_
                    show tR _ _ _ _ [some (.ref (571 : Nat)), some (.int l1), some (.int l2), some (.int l3), some (.int l4), some (.int l5), some (.int l6), some (.int l7), some (.int 1), some (.int v9), some (.int i2), some (.int 0)] _ _ _ _
                    refine (c_m_seek_255 l1 l2 l3 l4 l5 l6 l7 1 v9 i2 (fun w3_11 T203 kk => ?_) 1000 0 T202 kk)
                    · skip
                      refine r_go dX12_seek_282 rfl ?_
                      show tR _ _ _ _ [some (.ref (571 : Nat)), some (.int l1), some (.int l2), some (.int l3), some (.int l4), some (.int l5), some (.int l6), some (.int l7), some (.int 1), some (.int v9), some (.int i2), some (.int w3_11)] _ _ _ _
                      exact r_le (le_s (le_s (le_s (le_s (le_s (le_s (le_s (le_s (le_s (le_s (le_n (le_n (le_0))))))))))))) (ih 1 v9 T203 kk)
                · refine r_in (R := rI) c192_12 ?_
                  have kk := kk.2 c192_12
                  refine r_inc (L2 := [some (.ref (571 : Nat)), some (.int l1), some (.int l2), some (.int l3), some (.int l4), some (.int l5), some (.int l6), some (.int l7), some (.int v8), some (.int (v9 + 1)), some (.int i2), none]) (y := 1) dX12_seek_195 rfl rfl rfl ?_
                  refine r_p (pc2 := 199) dX12_seek_198 rfl rfl ?_
                  refine r_get dX12_seek_199 fkX12_52 rfl rfl ?_
                  refine r_p (pc2 := 204) dX12_seek_202 rfl rfl ?_
                  refine r_ci (x := -1) dX12_seek_204 rfl ?_
                  obtain ⟨q14, kk⟩ := kk
                  refine r_ias dX12_seek_205 rfl q14 ?_
                  refine r_go dX12_seek_206 rfl ?_
                  refine r_go dX12_seek_282 rfl ?_
                  show tR _ _ _ _ [some (.ref (571 : Nat)), some (.int l1), some (.int l2), some (.int l3), some (.int l4), some (.int l5), some (.int l6), some (.int l7), some (.int v8), some (.int (v9 + 1)), some (.int i2), none] _ _ _ _
                  exact r_le (le_s (le_s (le_s (le_s (le_s (le_s (le_s (le_s (le_s (le_s (le_n (le_s (le_0))))))))))))) (ih v8 (v9 + 1) (sA T3 586 (v9 + 1 : Int32).toNatClampNeg (-1)) kk)
              refine r_ieq dX12_seek_167 rfl (fun c167_15 => ?_) (fun c167_15 => ?_)
              · refine r_ip (R := rI) c167_15 ?_
                have kk := kk.1 c167_15
                show tR _ _ _ _ [some (.ref (571 : Nat)), some (.int l1), some (.int l2), some (.int l3), some (.int l4), some (.int l5), some (.int l6), some (.int l7), some (.int v8), some (.int v9), some (.int i2), none] [] _ _ _
                exact (hJ3  kk)
              · refine r_in (R := rI) c167_15 ?_
                have kk := kk.2 c167_15
                refine r_p (pc2 := 171) dX12_seek_170 rfl rfl ?_
                refine r_get dX12_seek_171 fkX12_55 rfl rfl ?_
                refine r_p (pc2 := 176) dX12_seek_174 rfl rfl ?_
                refine r_ci (x := 1) dX12_seek_176 rfl ?_
                refine r_p (pc2 := 178) dX12_seek_177 rfl rfl ?_
                obtain ⟨q15, kk⟩ := kk
                refine r_ia dX12_seek_178 rfl q15 ?_
                refine r_p (pc2 := 180) dX12_seek_179 rfl rfl ?_
                refine r_get dX12_seek_180 fkX12_296 rfl rfl ?_
                refine r_cge dX12_seek_183 rfl (fun c183_16 => ?_) (fun c183_16 => ?_)
                · refine r_ip (R := rI) c183_16 ?_
                  have kk := kk.1 c183_16
                  refine r_go dX12_seek_282 rfl ?_
                  show tR _ _ _ _ [some (.ref (571 : Nat)), some (.int l1), some (.int l2), some (.int l3), some (.int l4), some (.int l5), some (.int l6), some (.int l7), some (.int v8), some (.int v9), some (.int i2), none] _ _ _ _
                  exact r_le (le_s (le_s (le_s (le_s (le_s (le_s (le_s (le_s (le_s (le_s (le_n (le_s (le_0))))))))))))) (ih v8 v9 T3 kk)
                · refine r_in (R := rI) c183_16 ?_
                  have kk := kk.2 c183_16
                  show tR _ _ _ _ [some (.ref (571 : Nat)), some (.int l1), some (.int l2), some (.int l3), some (.int l4), some (.int l5), some (.int l6), some (.int l7), some (.int v8), some (.int v9), some (.int i2), none] [] _ _ _
                  exact (hJ3  kk)
          refine r_ieq dX12_seek_129 rfl (fun c129_17 => ?_) (fun c129_17 => ?_)
          · refine r_ip (R := rI) c129_17 ?_
            have kk := kk.1 c129_17
            show tR _ _ _ _ [some (.ref (571 : Nat)), some (.int l1), some (.int l2), some (.int l3), some (.int l4), some (.int l5), some (.int l6), some (.int l7), some (.int v8), some (.int v9), some (.int i2), none] [] _ _ _
            exact (hJ2  kk)
          · refine r_in (R := rI) c129_17 ?_
            have kk := kk.2 c129_17
            refine r_p (pc2 := 133) dX12_seek_132 rfl rfl ?_
            refine r_get dX12_seek_133 fkX12_52 rfl rfl ?_
            refine r_p (pc2 := 138) dX12_seek_136 rfl rfl ?_
            refine r_ia dX12_seek_138 rfl q3 ?_
            refine r_ci (x := 1) dX12_seek_139 rfl ?_
            refine r_p (pc2 := 141) dX12_seek_140 rfl rfl ?_
            refine r_p (pc2 := 143) dX12_seek_141 rfl rfl ?_
            refine r_ci (x := 0) dX12_seek_143 rfl ?_
            obtain ⟨q16, kk⟩ := kk
            refine r_cv (d1 := 1) dX12_seek_144 cvX12_228 rfl rfl rfl rfl (Nat.le_of_ble_eq_true rfl) (Nat.le_of_ble_eq_true rfl) (Nat.le_of_ble_eq_true rfl) (c_m_dishOf i2 0 q16) ?_
            refine r_p (pc2 := 148) dX12_seek_147 rfl rfl ?_
            obtain ⟨q17, kk⟩ := kk
            refine r_p dX12_seek_148 rfl (if_neg q17) ?_
            refine r_igt dX12_seek_149 rfl (fun c149_18 => ?_) (fun c149_18 => ?_)
            · refine r_ip (R := rI) c149_18 ?_
              have kk := kk.1 c149_18
              refine r_go dX12_seek_282 rfl ?_
              show tR _ _ _ _ [some (.ref (571 : Nat)), some (.int l1), some (.int l2), some (.int l3), some (.int l4), some (.int l5), some (.int l6), some (.int l7), some (.int v8), some (.int v9), some (.int i2), none] _ _ _ _
              exact r_le (le_s (le_s (le_s (le_s (le_s (le_s (le_s (le_s (le_s (le_s (le_n (le_s (le_0))))))))))))) (ih v8 v9 (sA T 586 (v9 : Int32).toNatClampNeg ((T.2.2.1 586 (v9 : Int32).toNatClampNeg) + 1)) kk)
            · refine r_in (R := rI) c149_18 ?_
              have kk := kk.2 c149_18
              show tR _ _ _ _ [some (.ref (571 : Nat)), some (.int l1), some (.int l2), some (.int l3), some (.int l4), some (.int l5), some (.int l6), some (.int l7), some (.int v8), some (.int v9), some (.int i2), none] [] _ _ _
              exact (hJ2  kk)
        · refine r_ip (R := rI) c118_6 ?_
          have kk := kk.1 c118_6
          refine r_inc (L2 := [some (.ref (571 : Nat)), some (.int l1), some (.int l2), some (.int l3), some (.int l4), some (.int l5), some (.int l6), some (.int l7), some (.int v8), some (.int (v9 + (-1))), some (.int i2), none]) (y := -1) dX12_seek_121 rfl rfl rfl ?_
          refine r_go dX12_seek_124 rfl ?_
          refine r_go dX12_seek_282 rfl ?_
          show tR _ _ _ _ [some (.ref (571 : Nat)), some (.int l1), some (.int l2), some (.int l3), some (.int l4), some (.int l5), some (.int l6), some (.int l7), some (.int v8), some (.int (v9 + (-1))), some (.int i2), none] _ _ _ _
          exact r_le (le_s (le_s (le_s (le_s (le_s (le_s (le_s (le_s (le_s (le_s (le_n (le_s (le_0))))))))))))) (ih v8 (v9 + (-1)) (sA T 586 (v9 : Int32).toNatClampNeg ((T.2.2.1 586 (v9 : Int32).toNatClampNeg) + 1)) kk)
      refine r_ieq dX12_seek_77 rfl (fun c77_19 => ?_) (fun c77_19 => ?_)
      · refine r_ip (R := rI) c77_19 ?_
        have kk := kk.1 c77_19
        show tR _ _ _ _ [some (.ref (571 : Nat)), some (.int l1), some (.int l2), some (.int l3), some (.int l4), some (.int l5), some (.int l6), some (.int l7), some (.int v8), some (.int v9), none, none] [] _ _ _
        exact (hJ1  kk)
      · refine r_in (R := rI) c77_19 ?_
        have kk := kk.2 c77_19
        refine r_p (pc2 := 82) dX12_seek_80 rfl rfl ?_
        refine r_ine dX12_seek_82 rfl (fun c82_20 => ?_) (fun c82_20 => ?_)
        · refine r_in (R := rI) c82_20 ?_
          have kk := kk.2 c82_20
          show tR _ _ _ _ [some (.ref (571 : Nat)), some (.int l1), some (.int l2), some (.int l3), some (.int l4), some (.int l5), some (.int l6), some (.int l7), some (.int v8), some (.int v9), none, none] _ _ _ _
          exact (hk v8 v9 T kk)
        · refine r_ip (R := rI) c82_20 ?_
          have kk := kk.1 c82_20
          show tR _ _ _ _ [some (.ref (571 : Nat)), some (.int l1), some (.int l2), some (.int l3), some (.int l4), some (.int l5), some (.int l6), some (.int l7), some (.int v8), some (.int v9), none, none] [] _ _ _
          exact (hJ1  kk)
def x_m_seek (T : St) (p0 : Int32) (p1 : Int32) (p2 : Int32) (p3 : Int32) (p4 : Int32) (p5 : Int32) : Int32 × St := x_m_seek_6 p0 p1 p2 p3 p4 p5 (fun (w1_7 : Int32) (w1_8 : Int32) (T201 : St) => jn (fun (T1 : St) => x_m_seek_70 p0 p1 p2 p3 p4 p5 w1_7 (fun (w4_8 : Int32) (w4_9 : Int32) (T204 : St) => (w4_8, T204)) 1000000 0 0 T1) (sA (sA (x_m_clearLevel T201) 587 (0 : Int32).toNatClampNeg 0) 586 (0 : Int32).toNatClampNeg (-1))) 1000 0 0 T
def ok_m_seek (T : St) (p0 : Int32) (p1 : Int32) (p2 : Int32) (p3 : Int32) (p4 : Int32) (p5 : Int32) : Prop := ok_m_seek_6 p0 p1 p2 p3 p4 p5 (fun (w1_7 : Int32) (w1_8 : Int32) (T201 : St) => (ok_m_clearLevel T201) ∧ jn (fun (T1 : St) => ok_m_seek_70 p0 p1 p2 p3 p4 p5 w1_7 (fun (w4_8 : Int32) (w4_9 : Int32) (T204 : St) => ((w4_8 = 0 ∨ w4_8 = (1 : Int32))) ∧ True) 1000000 0 0 T1) (sA (sA (x_m_clearLevel T201) 587 (0 : Int32).toNatClampNeg 0) 586 (0 : Int32).toNatClampNeg (-1))) 1000 0 0 T
theorem c_m_seek {X : Nat × (Nat → Int32)} {T : St} (p0 : Int32) (p1 : Int32) (p2 : Int32) (p3 : Int32) (p4 : Int32) (p5 : Int32) (kk : ok_m_seek T p0 p1 p2 p3 p4 p5) : tC X 5 mX12_seek [.ref (571 : Nat), .int p0, .int p1, .int p2, .int p3, .int p4, .int p5] T (some (.int (x_m_seek T p0 p1 p2 p3 p4 p5).1)) ((x_m_seek T p0 p1 p2 p3 p4 p5).2) := by
  unfold ok_m_seek at kk
  refine tC_orI (L := [some (.ref (571 : Nat)), some (.int p0), some (.int p1), some (.int p2), some (.int p3), some (.int p4), some (.int p5), none, none, none, none, none]) (x_m_seek T p0 p1 p2 p3 p4 p5) rfl ?_
  unfold x_m_seek
  refine r_ci (x := 0) dX12_seek_0 rfl ?_
  refine r_p (pc2 := 3) (L2 := [some (.ref (571 : Nat)), some (.int p0), some (.int p1), some (.int p2), some (.int p3), some (.int p4), some (.int p5), some (.int 0), none, none, none, none]) dX12_seek_1 rfl rfl ?_
  refine r_ci (x := 0) dX12_seek_3 rfl ?_
  refine r_p (pc2 := 6) (L2 := [some (.ref (571 : Nat)), some (.int p0), some (.int p1), some (.int p2), some (.int p3), some (.int p4), some (.int p5), some (.int 0), some (.int 0), none, none, none]) dX12_seek_4 rfl rfl ?_
  show tR _ _ _ _ [some (.ref (571 : Nat)), some (.int p0), some (.int p1), some (.int p2), some (.int p3), some (.int p4), some (.int p5), some (.int 0), some (.int 0), none, none, none] _ _ _ _
  refine (c_m_seek_6 p0 p1 p2 p3 p4 p5 (fun w1_7 w1_8 T201 kk => ?_) 1000 0 0 T kk)
  · skip
    refine r_p (pc2 := 47) dX12_seek_46 rfl rfl ?_
    obtain ⟨q2, kk⟩ := kk
    refine r_cv (d1 := 1) dX12_seek_47 cvX12_289 rfl rfl rfl rfl (Nat.le_of_ble_eq_true rfl) (Nat.le_of_ble_eq_true rfl) (Nat.le_of_ble_eq_true rfl) (c_m_clearLevel  q2) ?_
    refine r_p (pc2 := 51) dX12_seek_50 rfl rfl ?_
    refine r_get dX12_seek_51 fkX12_55 rfl rfl ?_
    refine r_ci (x := 0) dX12_seek_54 rfl ?_
    refine r_ci (x := 0) dX12_seek_55 rfl ?_
    refine r_ias dX12_seek_56 rfl (in_c (by decide)) ?_
    refine r_ci (x := 0) dX12_seek_57 rfl ?_
    refine r_p (pc2 := 60) (L2 := [some (.ref (571 : Nat)), some (.int p0), some (.int p1), some (.int p2), some (.int p3), some (.int p4), some (.int p5), some (.int w1_7), some (.int 0), none, none, none]) dX12_seek_58 rfl rfl ?_
    refine r_ci (x := 0) dX12_seek_60 rfl ?_
    refine r_p (pc2 := 63) (L2 := [some (.ref (571 : Nat)), some (.int p0), some (.int p1), some (.int p2), some (.int p3), some (.int p4), some (.int p5), some (.int w1_7), some (.int 0), some (.int 0), none, none]) dX12_seek_61 rfl rfl ?_
    refine r_p (pc2 := 64) dX12_seek_63 rfl rfl ?_
    refine r_get dX12_seek_64 fkX12_52 rfl rfl ?_
    refine r_ci (x := 0) dX12_seek_67 rfl ?_
    refine r_ci (x := -1) dX12_seek_68 rfl ?_
    refine r_ias dX12_seek_69 rfl (in_c (by decide)) ?_
    refine r_nT (R := rI) rfl kk (fun T1 kk => ?_)
    show tR _ _ _ _ [some (.ref (571 : Nat)), some (.int p0), some (.int p1), some (.int p2), some (.int p3), some (.int p4), some (.int p5), some (.int w1_7), some (.int 0), some (.int 0), none, none] _ _ _ _
    refine (c_m_seek_70 p0 p1 p2 p3 p4 p5 w1_7 (fun w4_8 w4_9 T204 kk => ?_) 1000000 0 0 T1 kk)
    · skip
      refine r_p (pc2 := 287) dX12_seek_285 rfl rfl ?_
      obtain ⟨q18, kk⟩ := kk
      exact r_qI dX12_seek_287 rfl (nar_b q18) rfl rfl
def x_m_forget (T : St)  : St := sF (sF T 571 34 (-1000000)) 571 32 0
theorem c_m_forget {X : Nat × (Nat → Int32)} {T : St}  : tC X 1 mX12_forget [.ref (571 : Nat)] T none (x_m_forget T) := by
  refine tC_orV (L := [some (.ref (571 : Nat))]) (x_m_forget T ) rfl ?_
  unfold x_m_forget
  refine r_p (pc2 := 1) dX12_forget_0 rfl rfl ?_
  refine r_k dX12_forget_1 kkX12_137 ?_
  refine r_put dX12_forget_3 fkX12_299 rfl rfl rfl (Nat.le_of_ble_eq_true rfl) rfl rfl ?_
  refine r_p (pc2 := 7) dX12_forget_6 rfl rfl ?_
  refine r_ci (x := 0) dX12_forget_7 rfl ?_
  refine r_put dX12_forget_8 fkX12_268 rfl rfl rfl (Nat.le_of_ble_eq_true rfl) rfl rfl ?_
  exact r_qV dX12_forget_11 rfl rfl
def x_m_isBy (T : St) (p0 : Int32) : Int32 := x_m_in T ((p0 : Int32).toInt64) 1 60
theorem c_m_isBy {X : Nat × (Nat → Int32)} {T : St} (p0 : Int32) : tC X 2 mX12_isBy [.int p0] T (some (.int (x_m_isBy T p0))) T := by
  refine tC_orIp (L := [some (.int p0)]) (x_m_isBy T p0) rfl ?_
  unfold x_m_isBy
  refine r_p (pc2 := 1) dX12_isBy_0 rfl rfl ?_
  refine r_p (pc2 := 2) dX12_isBy_1 rfl rfl ?_
  refine r_cl (x := 1) dX12_isBy_2 rfl ?_
  refine r_kl dX12_isBy_3 klX12_266 ?_
  refine r_cs (d1 := 1) dX12_isBy_6 csX12_111 rfl rfl (Nat.le_of_ble_eq_true rfl) (Nat.le_of_ble_eq_true rfl) (Nat.le_of_ble_eq_true rfl) (c_m_in ((p0 : Int32).toInt64) 1 60) ?_
  exact r_qIp dX12_isBy_9 rfl (nar_b (b_m_in T ((p0 : Int32).toInt64) 1 60)) rfl
theorem b_m_isBy (T : St) (p0 : Int32) : x_m_isBy T p0 = 0 ∨ x_m_isBy T p0 = 1 := by
  unfold x_m_isBy
  try simp only [jn]
  repeat' split
  all_goals (first | exact Or.inl rfl | exact Or.inr rfl | apply b_m_in)
def x_m_layRow_38 (l1 : Int32) (l2 : Int32) (K : Int32 → St → St) : Nat → Int32 → St → St
  | 0, _, T => T
  | f + 1, v3, T => if (x_m_dishOf T l2 3) ≤ v3 then (K v3 T) else (jn (fun (T1 : St) => jn (fun (T2 : St) => x_m_layRow_38 l1 l2 K f (v3 + 1) T2) (sF (sA T1 596 (T1.1 571 39 : Int32).toNatClampNeg 0) 571 39 (((sA T1 596 (T1.1 571 39 : Int32).toNatClampNeg 0).1 571 39) + 1))) (sA (sA T 594 (T.1 571 39 : Int32).toNatClampNeg ((x_m_dishOf T l2 4) + v3)) 595 ((sA T 594 (T.1 571 39 : Int32).toNatClampNeg ((x_m_dishOf T l2 4) + v3)).1 571 39 : Int32).toNatClampNeg ((sA T 594 (T.1 571 39 : Int32).toNatClampNeg ((x_m_dishOf T l2 4) + v3)).2.2.1 593 ((3 * l1) + v3 : Int32).toNatClampNeg)))
def ok_m_layRow_38 (l1 : Int32) (l2 : Int32) (Kk : Int32 → St → Prop) : Nat → Int32 → St → Prop
  | 0, _, _ => False
  | f + 1, v3, T => (ok_m_dishOf T l2 3) ∧ (((x_m_dishOf T l2 3) ≤ v3 → Kk v3 T) ∧ (¬ (x_m_dishOf T l2 3) ≤ v3 → (ok_m_dishOf T l2 4) ∧ (vp_in (T.1 571 39) 12) ∧ (vp_in ((3 * l1) + v3) 12) ∧ (vp_in ((sA T 594 (T.1 571 39 : Int32).toNatClampNeg ((x_m_dishOf T l2 4) + v3)).1 571 39) 12) ∧ jn (fun (T1 : St) => (vp_in (T1.1 571 39) 12) ∧ jn (fun (T2 : St) => ok_m_layRow_38 l1 l2 Kk f (v3 + 1) T2) (sF (sA T1 596 (T1.1 571 39 : Int32).toNatClampNeg 0) 571 39 (((sA T1 596 (T1.1 571 39 : Int32).toNatClampNeg 0).1 571 39) + 1))) (sA (sA T 594 (T.1 571 39 : Int32).toNatClampNeg ((x_m_dishOf T l2 4) + v3)) 595 ((sA T 594 (T.1 571 39 : Int32).toNatClampNeg ((x_m_dishOf T l2 4) + v3)).1 571 39 : Int32).toNatClampNeg ((sA T 594 (T.1 571 39 : Int32).toNatClampNeg ((x_m_dishOf T l2 4) + v3)).2.2.1 593 ((3 * l1) + v3 : Int32).toNatClampNeg))))
theorem c_m_layRow_38 {X : Nat × (Nat → Int32)} (l1 : Int32) (l2 : Int32) {K : Int32 → St → St} {Kk : Int32 → St → Prop} (hk : ∀ (v3 : Int32) (T : St), Kk v3 T → tR X 1 mX12_layRow 110 [some (.ref (571 : Nat)), some (.int l1), some (.int l2), some (.int v3)] [] T (rV (K v3 T)).1 ((rV (K v3 T)).2)) : ∀ (f : Nat) (v3 : Int32) (T : St), ok_m_layRow_38 l1 l2 Kk f v3 T → tR X 1 mX12_layRow 38 [some (.ref (571 : Nat)), some (.int l1), some (.int l2), some (.int v3)] [] T (rV (x_m_layRow_38 l1 l2 K f v3 T)).1 ((rV (x_m_layRow_38 l1 l2 K f v3 T)).2) := by
  intro f
  induction f with
  | zero => intro v3 T kk; exact kk.elim
  | succ f ih =>
    intro v3 T kk
    rw [ok_m_layRow_38] at kk
    rw [x_m_layRow_38]
    refine r_p (pc2 := 39) dX12_layRow_38 rfl rfl ?_
    refine r_p (pc2 := 40) dX12_layRow_39 rfl rfl ?_
    refine r_p (pc2 := 41) dX12_layRow_40 rfl rfl ?_
    refine r_ci (x := 3) dX12_layRow_41 rfl ?_
    obtain ⟨q1, kk⟩ := kk
    refine r_cv (d1 := 1) dX12_layRow_42 cvX12_228 rfl rfl rfl rfl (Nat.le_of_ble_eq_true rfl) (Nat.le_of_ble_eq_true rfl) (Nat.le_of_ble_eq_true rfl) (c_m_dishOf l2 3 q1) ?_
    refine r_cge dX12_layRow_45 rfl (fun c45_3 => ?_) (fun c45_3 => ?_)
    · refine r_ip (R := rV) c45_3 ?_
      have kk := kk.1 c45_3
      show tR _ _ _ _ [some (.ref (571 : Nat)), some (.int l1), some (.int l2), some (.int v3)] _ _ _ _
      exact (hk v3 T kk)
    · refine r_in (R := rV) c45_3 ?_
      have kk := kk.2 c45_3
      refine r_p (pc2 := 49) dX12_layRow_48 rfl rfl ?_
      refine r_get dX12_layRow_49 fkX12_76 rfl rfl ?_
      refine r_p (pc2 := 53) dX12_layRow_52 rfl rfl ?_
      refine r_get dX12_layRow_53 fkX12_302 rfl rfl ?_
      refine r_p (pc2 := 57) dX12_layRow_56 rfl rfl ?_
      refine r_p (pc2 := 58) dX12_layRow_57 rfl rfl ?_
      refine r_ci (x := 4) dX12_layRow_58 rfl ?_
      obtain ⟨q2, kk⟩ := kk
      refine r_cv (d1 := 1) dX12_layRow_59 cvX12_228 rfl rfl rfl rfl (Nat.le_of_ble_eq_true rfl) (Nat.le_of_ble_eq_true rfl) (Nat.le_of_ble_eq_true rfl) (c_m_dishOf l2 4 q2) ?_
      refine r_p (pc2 := 63) dX12_layRow_62 rfl rfl ?_
      refine r_p (pc2 := 64) dX12_layRow_63 rfl rfl ?_
      obtain ⟨q3, kk⟩ := kk
      refine r_ias dX12_layRow_64 rfl q3 ?_
      refine r_p (pc2 := 66) dX12_layRow_65 rfl rfl ?_
      refine r_get dX12_layRow_66 fkX12_79 rfl rfl ?_
      refine r_p (pc2 := 70) dX12_layRow_69 rfl rfl ?_
      refine r_get dX12_layRow_70 fkX12_302 rfl rfl ?_
      refine r_p (pc2 := 74) dX12_layRow_73 rfl rfl ?_
      refine r_get dX12_layRow_74 fkX12_73 rfl rfl ?_
      refine r_ci (x := 3) dX12_layRow_77 rfl ?_
      refine r_p (pc2 := 79) dX12_layRow_78 rfl rfl ?_
      refine r_p (pc2 := 80) dX12_layRow_79 rfl rfl ?_
      refine r_p (pc2 := 81) dX12_layRow_80 rfl rfl ?_
      refine r_p (pc2 := 82) dX12_layRow_81 rfl rfl ?_
      obtain ⟨q4, kk⟩ := kk
      refine r_ia dX12_layRow_82 rfl q4 ?_
      obtain ⟨q5, kk⟩ := kk
      refine r_ias dX12_layRow_83 rfl q5 ?_
      refine r_nT (R := rV) rfl kk (fun T1 kk => ?_)
      refine r_p (pc2 := 85) dX12_layRow_84 rfl rfl ?_
      refine r_get dX12_layRow_85 fkX12_82 rfl rfl ?_
      refine r_p (pc2 := 89) dX12_layRow_88 rfl rfl ?_
      refine r_get dX12_layRow_89 fkX12_302 rfl rfl ?_
      refine r_ci (x := 0) dX12_layRow_92 rfl ?_
      obtain ⟨q6, kk⟩ := kk
      refine r_ias dX12_layRow_93 rfl q6 ?_
      refine r_p (pc2 := 95) dX12_layRow_94 rfl rfl ?_
      refine r_p (pc2 := 96) dX12_layRow_95 rfl rfl ?_
      refine r_get dX12_layRow_96 fkX12_302 rfl rfl ?_
      refine r_ci (x := 1) dX12_layRow_99 rfl ?_
      refine r_p (pc2 := 101) dX12_layRow_100 rfl rfl ?_
      refine r_put dX12_layRow_101 fkX12_302 rfl rfl rfl (Nat.le_of_ble_eq_true rfl) rfl rfl ?_
      refine r_nT (R := rV) rfl kk (fun T2 kk => ?_)
      refine r_inc (L2 := [some (.ref (571 : Nat)), some (.int l1), some (.int l2), some (.int (v3 + 1))]) (y := 1) dX12_layRow_104 rfl rfl rfl ?_
      refine r_go dX12_layRow_107 rfl ?_
      show tR _ _ _ _ [some (.ref (571 : Nat)), some (.int l1), some (.int l2), some (.int (v3 + 1))] _ _ _ _
      exact (ih (v3 + 1) T2 kk)
def x_m_layRow_9  (K : Int32 → Int32 → St → St) : Nat → Int32 → Int32 → St → St
  | 0, _, _, T => T
  | f + 1, v1, v2, T => if (T.2.2.1 575 (16 : Int32).toNatClampNeg) ≤ v2 then (K v1 v2 T) else (if (((T.2.2.1 575 (202 : Int32).toNatClampNeg) >>> (v2 &&& 31)) &&& 1) = 1 then (x_m_layRow_38 v1 v2 (fun (w1_3 : Int32) (T201 : St) => x_m_layRow_9 K f (v1 + 1) (v2 + 1) T201) 1000 0 T) else (x_m_layRow_9 K f v1 (v2 + 1) T))
def ok_m_layRow_9  (Kk : Int32 → Int32 → St → Prop) : Nat → Int32 → Int32 → St → Prop
  | 0, _, _, _ => False
  | f + 1, v1, v2, T => (((T.2.2.1 575 (16 : Int32).toNatClampNeg) ≤ v2 → Kk v1 v2 T) ∧ (¬ (T.2.2.1 575 (16 : Int32).toNatClampNeg) ≤ v2 → (((((T.2.2.1 575 (202 : Int32).toNatClampNeg) >>> (v2 &&& 31)) &&& 1) = 1 → ok_m_layRow_38 v1 v2 (fun (w1_3 : Int32) (T201 : St) => ok_m_layRow_9 Kk f (v1 + 1) (v2 + 1) T201) 1000 0 T) ∧ (¬ (((T.2.2.1 575 (202 : Int32).toNatClampNeg) >>> (v2 &&& 31)) &&& 1) = 1 → ok_m_layRow_9 Kk f v1 (v2 + 1) T))))
theorem c_m_layRow_9 {X : Nat × (Nat → Int32)}  {K : Int32 → Int32 → St → St} {Kk : Int32 → Int32 → St → Prop} (hk : ∀ (v1 : Int32) (v2 : Int32) (T : St), Kk v1 v2 T → tR X 1 mX12_layRow 119 [some (.ref (571 : Nat)), some (.int v1), some (.int v2), none] [] T (rV (K v1 v2 T)).1 ((rV (K v1 v2 T)).2)) : ∀ (f : Nat) (v1 : Int32) (v2 : Int32) (T : St), ok_m_layRow_9  Kk f v1 v2 T → tR X 1 mX12_layRow 9 [some (.ref (571 : Nat)), some (.int v1), some (.int v2), none] [] T (rV (x_m_layRow_9 K f v1 v2 T)).1 ((rV (x_m_layRow_9 K f v1 v2 T)).2) := by
  intro f
  induction f with
  | zero => intro v1 v2 T kk; exact kk.elim
  | succ f ih =>
    intro v1 v2 T kk
    rw [ok_m_layRow_9] at kk
    rw [x_m_layRow_9]
    refine r_p (pc2 := 10) dX12_layRow_9 rfl rfl ?_
    refine r_p (pc2 := 11) dX12_layRow_10 rfl rfl ?_
    refine r_get dX12_layRow_11 fkX12_19 rfl rfl ?_
    refine r_cb (x := 16) dX12_layRow_14 rfl ?_
    refine r_ia dX12_layRow_16 rfl (in_c (by decide)) ?_
    refine r_cge dX12_layRow_17 rfl (fun c17_1 => ?_) (fun c17_1 => ?_)
    · refine r_ip (R := rV) c17_1 ?_
      have kk := kk.1 c17_1
      show tR _ _ _ _ [some (.ref (571 : Nat)), some (.int v1), some (.int v2), none] _ _ _ _
      exact (hk v1 v2 T kk)
    · refine r_in (R := rV) c17_1 ?_
      have kk := kk.2 c17_1
      refine r_p (pc2 := 21) dX12_layRow_20 rfl rfl ?_
      refine r_get dX12_layRow_21 fkX12_19 rfl rfl ?_
      refine r_csi (x := 202) dX12_layRow_24 rfl ?_
      refine r_ia dX12_layRow_27 rfl (in_c (by decide)) ?_
      refine r_p (pc2 := 29) dX12_layRow_28 rfl rfl ?_
      refine r_p (pc2 := 30) dX12_layRow_29 rfl rfl ?_
      refine r_ci (x := 1) dX12_layRow_30 rfl ?_
      refine r_p (pc2 := 32) dX12_layRow_31 rfl rfl ?_
      refine r_ci (x := 1) dX12_layRow_32 rfl ?_
      refine r_cne dX12_layRow_33 rfl (fun c33_2 => ?_) (fun c33_2 => ?_)
      · refine r_in (R := rV) c33_2 ?_
        have kk := kk.2 c33_2
        refine r_inc (L2 := [some (.ref (571 : Nat)), some (.int v1), some (.int (v2 + 1)), none]) (y := 1) dX12_layRow_113 rfl rfl rfl ?_
        refine r_go dX12_layRow_116 rfl ?_
        show tR _ _ _ _ [some (.ref (571 : Nat)), some (.int v1), some (.int (v2 + 1)), none] _ _ _ _
        exact (ih v1 (v2 + 1) T kk)
      · refine r_ip (R := rV) c33_2 ?_
        have kk := kk.1 c33_2
        refine r_ci (x := 0) dX12_layRow_36 rfl ?_
        refine r_p (pc2 := 38) (L2 := [some (.ref (571 : Nat)), some (.int v1), some (.int v2), some (.int 0)]) dX12_layRow_37 rfl rfl ?_
        show tR _ _ _ _ [some (.ref (571 : Nat)), some (.int v1), some (.int v2), some (.int 0)] _ _ _ _
        refine (c_m_layRow_38 v1 v2 (fun w1_3 T201 kk => ?_) 1000 0 T kk)
        · skip
          refine r_inc (L2 := [some (.ref (571 : Nat)), some (.int (v1 + 1)), some (.int v2), some (.int w1_3)]) (y := 1) dX12_layRow_110 rfl rfl rfl ?_
          refine r_inc (L2 := [some (.ref (571 : Nat)), some (.int (v1 + 1)), some (.int (v2 + 1)), some (.int w1_3)]) (y := 1) dX12_layRow_113 rfl rfl rfl ?_
          refine r_go dX12_layRow_116 rfl ?_
          show tR _ _ _ _ [some (.ref (571 : Nat)), some (.int (v1 + 1)), some (.int (v2 + 1)), some (.int w1_3)] _ _ _ _
          exact r_le (le_s (le_s (le_s (le_n (le_0))))) (ih (v1 + 1) (v2 + 1) T201 kk)
def x_m_layRow (T : St)  : St := x_m_layRow_9  (fun (w2_1 : Int32) (w2_2 : Int32) (T202 : St) => T202) 1000 0 0 (sF T 571 39 0)
def ok_m_layRow (T : St)  : Prop := ok_m_layRow_9  (fun (w2_1 : Int32) (w2_2 : Int32) (T202 : St) => True) 1000 0 0 (sF T 571 39 0)
theorem c_m_layRow {X : Nat × (Nat → Int32)} {T : St}  (kk : ok_m_layRow T ) : tC X 2 mX12_layRow [.ref (571 : Nat)] T none (x_m_layRow T) := by
  unfold ok_m_layRow at kk
  refine tC_orV (L := [some (.ref (571 : Nat)), none, none, none]) (x_m_layRow T ) rfl ?_
  unfold x_m_layRow
  refine r_p (pc2 := 1) dX12_layRow_0 rfl rfl ?_
  refine r_ci (x := 0) dX12_layRow_1 rfl ?_
  refine r_put dX12_layRow_2 fkX12_302 rfl rfl rfl (Nat.le_of_ble_eq_true rfl) rfl rfl ?_
  refine r_ci (x := 0) dX12_layRow_5 rfl ?_
  refine r_p (pc2 := 7) (L2 := [some (.ref (571 : Nat)), some (.int 0), none, none]) dX12_layRow_6 rfl rfl ?_
  refine r_ci (x := 0) dX12_layRow_7 rfl ?_
  refine r_p (pc2 := 9) (L2 := [some (.ref (571 : Nat)), some (.int 0), some (.int 0), none]) dX12_layRow_8 rfl rfl ?_
  show tR _ _ _ _ [some (.ref (571 : Nat)), some (.int 0), some (.int 0), none] _ _ _ _
  refine (c_m_layRow_9  (fun w2_1 w2_2 T202 kk => ?_) 1000 0 0 (sF T 571 39 0) kk)
  · skip
    exact r_qV dX12_layRow_119 rfl rfl
def x_m_know_61 (l1 : Int32) (K : Int32 → St → Int32 × St) : Nat → Int32 → St → Int32 × St
  | 0, _, T => (0, T)
  | f + 1, v2, T => if 4 ≤ v2 then (K v2 T) else (x_m_know_61 l1 K f (v2 + 1) (sA T 592 (v2 : Int32).toNatClampNeg (T.2.2.1 589 (v2 : Int32).toNatClampNeg)))
def ok_m_know_61 (l1 : Int32) (Kk : Int32 → St → Prop) : Nat → Int32 → St → Prop
  | 0, _, _ => False
  | f + 1, v2, T => ((4 ≤ v2 → Kk v2 T) ∧ (¬ 4 ≤ v2 → (vp_in v2 4) ∧ ok_m_know_61 l1 Kk f (v2 + 1) (sA T 592 (v2 : Int32).toNatClampNeg (T.2.2.1 589 (v2 : Int32).toNatClampNeg))))
theorem c_m_know_61 {X : Nat × (Nat → Int32)} (l1 : Int32) {K : Int32 → St → Int32 × St} {Kk : Int32 → St → Prop} (hk : ∀ (v2 : Int32) (T : St), Kk v2 T → tR X 5 mX12_know 84 [some (.ref (571 : Nat)), some (.int l1), some (.int v2)] [] T (rI (K v2 T)).1 ((rI (K v2 T)).2)) : ∀ (f : Nat) (v2 : Int32) (T : St), ok_m_know_61 l1 Kk f v2 T → tR X 5 mX12_know 61 [some (.ref (571 : Nat)), some (.int l1), some (.int v2)] [] T (rI (x_m_know_61 l1 K f v2 T)).1 ((rI (x_m_know_61 l1 K f v2 T)).2) := by
  intro f
  induction f with
  | zero => intro v2 T kk; exact kk.elim
  | succ f ih =>
    intro v2 T kk
    rw [ok_m_know_61] at kk
    rw [x_m_know_61]
    refine r_p (pc2 := 62) dX12_know_61 rfl rfl ?_
    refine r_ci (x := 4) dX12_know_62 rfl ?_
    refine r_cge dX12_know_63 rfl (fun c63_2 => ?_) (fun c63_2 => ?_)
    · refine r_ip (R := rI) c63_2 ?_
      have kk := kk.1 c63_2
      show tR _ _ _ _ [some (.ref (571 : Nat)), some (.int l1), some (.int v2)] _ _ _ _
      exact (hk v2 T kk)
    · refine r_in (R := rI) c63_2 ?_
      have kk := kk.2 c63_2
      refine r_p (pc2 := 67) dX12_know_66 rfl rfl ?_
      refine r_get dX12_know_67 fkX12_70 rfl rfl ?_
      refine r_p (pc2 := 71) dX12_know_70 rfl rfl ?_
      refine r_p (pc2 := 72) dX12_know_71 rfl rfl ?_
      refine r_get dX12_know_72 fkX12_61 rfl rfl ?_
      refine r_p (pc2 := 76) dX12_know_75 rfl rfl ?_
      obtain ⟨q3, kk⟩ := kk
      refine r_ia dX12_know_76 rfl q3 ?_
      refine r_ias dX12_know_77 rfl q3 ?_
      refine r_inc (L2 := [some (.ref (571 : Nat)), some (.int l1), some (.int (v2 + 1))]) (y := 1) dX12_know_78 rfl rfl rfl ?_
      refine r_go dX12_know_81 rfl ?_
      show tR _ _ _ _ [some (.ref (571 : Nat)), some (.int l1), some (.int (v2 + 1))] _ _ _ _
      exact (ih (v2 + 1) (sA T 592 (v2 : Int32).toNatClampNeg (T.2.2.1 589 (v2 : Int32).toNatClampNeg)) kk)
def x_m_know_86 (l1 : Int32) (K : Int32 → St → Int32 × St) : Nat → Int32 → St → Int32 × St
  | 0, _, T => (0, T)
  | f + 1, v2, T => if 12 ≤ v2 then (K v2 T) else (x_m_know_86 l1 K f (v2 + 1) (sA T 593 (v2 : Int32).toNatClampNeg (T.2.2.1 590 (v2 : Int32).toNatClampNeg)))
def ok_m_know_86 (l1 : Int32) (Kk : Int32 → St → Prop) : Nat → Int32 → St → Prop
  | 0, _, _ => False
  | f + 1, v2, T => ((12 ≤ v2 → Kk v2 T) ∧ (¬ 12 ≤ v2 → (vp_in v2 12) ∧ ok_m_know_86 l1 Kk f (v2 + 1) (sA T 593 (v2 : Int32).toNatClampNeg (T.2.2.1 590 (v2 : Int32).toNatClampNeg))))
theorem c_m_know_86 {X : Nat × (Nat → Int32)} (l1 : Int32) {K : Int32 → St → Int32 × St} {Kk : Int32 → St → Prop} (hk : ∀ (v2 : Int32) (T : St), Kk v2 T → tR X 5 mX12_know 110 [some (.ref (571 : Nat)), some (.int l1), some (.int v2)] [] T (rI (K v2 T)).1 ((rI (K v2 T)).2)) : ∀ (f : Nat) (v2 : Int32) (T : St), ok_m_know_86 l1 Kk f v2 T → tR X 5 mX12_know 86 [some (.ref (571 : Nat)), some (.int l1), some (.int v2)] [] T (rI (x_m_know_86 l1 K f v2 T)).1 ((rI (x_m_know_86 l1 K f v2 T)).2) := by
  intro f
  induction f with
  | zero => intro v2 T kk; exact kk.elim
  | succ f ih =>
    intro v2 T kk
    rw [ok_m_know_86] at kk
    rw [x_m_know_86]
    refine r_p (pc2 := 87) dX12_know_86 rfl rfl ?_
    refine r_cb (x := 12) dX12_know_87 rfl ?_
    refine r_cge dX12_know_89 rfl (fun c89_3 => ?_) (fun c89_3 => ?_)
    · refine r_ip (R := rI) c89_3 ?_
      have kk := kk.1 c89_3
      show tR _ _ _ _ [some (.ref (571 : Nat)), some (.int l1), some (.int v2)] _ _ _ _
      exact (hk v2 T kk)
    · refine r_in (R := rI) c89_3 ?_
      have kk := kk.2 c89_3
      refine r_p (pc2 := 93) dX12_know_92 rfl rfl ?_
      refine r_get dX12_know_93 fkX12_73 rfl rfl ?_
      refine r_p (pc2 := 97) dX12_know_96 rfl rfl ?_
      refine r_p (pc2 := 98) dX12_know_97 rfl rfl ?_
      refine r_get dX12_know_98 fkX12_64 rfl rfl ?_
      refine r_p (pc2 := 102) dX12_know_101 rfl rfl ?_
      obtain ⟨q4, kk⟩ := kk
      refine r_ia dX12_know_102 rfl q4 ?_
      refine r_ias dX12_know_103 rfl q4 ?_
      refine r_inc (L2 := [some (.ref (571 : Nat)), some (.int l1), some (.int (v2 + 1))]) (y := 1) dX12_know_104 rfl rfl rfl ?_
      refine r_go dX12_know_107 rfl ?_
      show tR _ _ _ _ [some (.ref (571 : Nat)), some (.int l1), some (.int (v2 + 1))] _ _ _ _
      exact (ih (v2 + 1) (sA T 593 (v2 : Int32).toNatClampNeg (T.2.2.1 590 (v2 : Int32).toNatClampNeg)) kk)
def x_m_know (T : St) (p0 : Int32) : Int32 × St := jn (fun (KJ1 : St → Int32 × St) => if (T.1 571 34) = p0 then (KJ1 T) else (jn (fun (T3 : St) => jn (fun (T4 : St) => x_m_know_61 p0 (fun (w3_2 : Int32) (T203 : St) => x_m_know_86 p0 (fun (w4_2 : Int32) (T204 : St) => KJ1 T204) 1000 0 T203) 1000 0 (sF (sF T4 571 34 p0) 571 36 ((sF T4 571 34 p0).1 571 31))) (sF T3 571 35 ((x_m_seek (sF T 571 32 0) ((sF T 571 32 0).2.2.1 575 (202 : Int32).toNatClampNeg) p0 ((sF T 571 32 0).2.2.1 575 (5 : Int32).toNatClampNeg) ((sF T 571 32 0).2.2.1 575 (203 : Int32).toNatClampNeg) 0 0).1))) ((x_m_seek (sF T 571 32 0) ((sF T 571 32 0).2.2.1 575 (202 : Int32).toNatClampNeg) p0 ((sF T 571 32 0).2.2.1 575 (5 : Int32).toNatClampNeg) ((sF T 571 32 0).2.2.1 575 (203 : Int32).toNatClampNeg) 0 0).2))) (fun (T301 : St) => ((x_m_layRow T301).1 571 35, x_m_layRow T301))
def ok_m_know (T : St) (p0 : Int32) : Prop := jn (fun (OJ1 : St → Prop) => (((T.1 571 34) = p0 → OJ1 T) ∧ (¬ (T.1 571 34) = p0 → (ok_m_seek (sF T 571 32 0) ((sF T 571 32 0).2.2.1 575 (202 : Int32).toNatClampNeg) p0 ((sF T 571 32 0).2.2.1 575 (5 : Int32).toNatClampNeg) ((sF T 571 32 0).2.2.1 575 (203 : Int32).toNatClampNeg) 0 0) ∧ jn (fun (T3 : St) => (((x_m_seek (sF T 571 32 0) ((sF T 571 32 0).2.2.1 575 (202 : Int32).toNatClampNeg) p0 ((sF T 571 32 0).2.2.1 575 (5 : Int32).toNatClampNeg) ((sF T 571 32 0).2.2.1 575 (203 : Int32).toNatClampNeg) 0 0).1 = 0 ∨ (x_m_seek (sF T 571 32 0) ((sF T 571 32 0).2.2.1 575 (202 : Int32).toNatClampNeg) p0 ((sF T 571 32 0).2.2.1 575 (5 : Int32).toNatClampNeg) ((sF T 571 32 0).2.2.1 575 (203 : Int32).toNatClampNeg) 0 0).1 = (1 : Int32))) ∧ jn (fun (T4 : St) => ok_m_know_61 p0 (fun (w3_2 : Int32) (T203 : St) => ok_m_know_86 p0 (fun (w4_2 : Int32) (T204 : St) => OJ1 T204) 1000 0 T203) 1000 0 (sF (sF T4 571 34 p0) 571 36 ((sF T4 571 34 p0).1 571 31))) (sF T3 571 35 ((x_m_seek (sF T 571 32 0) ((sF T 571 32 0).2.2.1 575 (202 : Int32).toNatClampNeg) p0 ((sF T 571 32 0).2.2.1 575 (5 : Int32).toNatClampNeg) ((sF T 571 32 0).2.2.1 575 (203 : Int32).toNatClampNeg) 0 0).1))) ((x_m_seek (sF T 571 32 0) ((sF T 571 32 0).2.2.1 575 (202 : Int32).toNatClampNeg) p0 ((sF T 571 32 0).2.2.1 575 (5 : Int32).toNatClampNeg) ((sF T 571 32 0).2.2.1 575 (203 : Int32).toNatClampNeg) 0 0).2)))) (fun (T301 : St) => (ok_m_layRow T301) ∧ (((x_m_layRow T301).1 571 35 = 0 ∨ (x_m_layRow T301).1 571 35 = (1 : Int32))) ∧ True)
theorem c_m_know {X : Nat × (Nat → Int32)} {T : St} (p0 : Int32) (kk : ok_m_know T p0) : tC X 6 mX12_know [.ref (571 : Nat), .int p0] T (some (.int (x_m_know T p0).1)) ((x_m_know T p0).2) := by
  unfold ok_m_know at kk
  refine tC_orI (L := [some (.ref (571 : Nat)), some (.int p0), none]) (x_m_know T p0) rfl ?_
  unfold x_m_know
  refine r_p (pc2 := 1) dX12_know_0 rfl rfl ?_
  refine r_get dX12_know_1 fkX12_299 rfl rfl ?_
  refine r_p (pc2 := 5) dX12_know_4 rfl rfl ?_
  refine r_jn (R := rI) (J := fun (KJ1 : St → Int32 × St) (OJ1 : St → Prop) => ∀ (T301 : St), OJ1 T301 → tR X 5 mX12_know 110 [some (.ref (571 : Nat)), some (.int p0), none] [] T301 (rI (KJ1 T301)).1 (rI (KJ1 T301)).2) kk (fun T301 kk => ?_) (fun KJ1 OJ1 hJ1 kk => ?_)
  · skip
    refine r_p (pc2 := 111) dX12_know_110 rfl rfl ?_
    obtain ⟨q5, kk⟩ := kk
    refine r_cv (d1 := 2) dX12_know_111 cvX12_315 rfl rfl rfl rfl (Nat.le_of_ble_eq_true rfl) (Nat.le_of_ble_eq_true rfl) (Nat.le_of_ble_eq_true rfl) (c_m_layRow  q5) ?_
    refine r_p (pc2 := 115) dX12_know_114 rfl rfl ?_
    refine r_get dX12_know_115 fkX12_309 rfl rfl ?_
    obtain ⟨q6, kk⟩ := kk
    exact r_qI dX12_know_118 rfl (nar_b q6) rfl rfl
  refine r_ceq dX12_know_5 rfl (fun c5_4 => ?_) (fun c5_4 => ?_)
  · refine r_ip (R := rI) c5_4 ?_
    have kk := kk.1 c5_4
    show tR _ _ _ _ [some (.ref (571 : Nat)), some (.int p0), none] [] _ _ _
    exact (hJ1 T kk)
  · refine r_in (R := rI) c5_4 ?_
    have kk := kk.2 c5_4
    refine r_p (pc2 := 9) dX12_know_8 rfl rfl ?_
    refine r_ci (x := 0) dX12_know_9 rfl ?_
    refine r_put dX12_know_10 fkX12_268 rfl rfl rfl (Nat.le_of_ble_eq_true rfl) rfl rfl ?_
    refine r_p (pc2 := 14) dX12_know_13 rfl rfl ?_
    refine r_p (pc2 := 15) dX12_know_14 rfl rfl ?_
    refine r_p (pc2 := 16) dX12_know_15 rfl rfl ?_
    refine r_get dX12_know_16 fkX12_19 rfl rfl ?_
    refine r_csi (x := 202) dX12_know_19 rfl ?_
    refine r_ia dX12_know_22 rfl (in_c (by decide)) ?_
    refine r_p (pc2 := 24) dX12_know_23 rfl rfl ?_
    refine r_p (pc2 := 25) dX12_know_24 rfl rfl ?_
    refine r_get dX12_know_25 fkX12_19 rfl rfl ?_
    refine r_ci (x := 5) dX12_know_28 rfl ?_
    refine r_ia dX12_know_29 rfl (in_c (by decide)) ?_
    refine r_p (pc2 := 31) dX12_know_30 rfl rfl ?_
    refine r_get dX12_know_31 fkX12_19 rfl rfl ?_
    refine r_csi (x := 203) dX12_know_34 rfl ?_
    refine r_ia dX12_know_37 rfl (in_c (by decide)) ?_
    refine r_ci (x := 0) dX12_know_38 rfl ?_
    refine r_ci (x := 0) dX12_know_39 rfl ?_
    obtain ⟨q7, kk⟩ := kk
    refine r_cv (d1 := 5) dX12_know_40 cvX12_305 rfl rfl rfl rfl (Nat.le_of_ble_eq_true rfl) (Nat.le_of_ble_eq_true rfl) (Nat.le_of_ble_eq_true rfl) (c_m_seek ((sF T 571 32 0).2.2.1 575 (202 : Int32).toNatClampNeg) p0 ((sF T 571 32 0).2.2.1 575 (5 : Int32).toNatClampNeg) ((sF T 571 32 0).2.2.1 575 (203 : Int32).toNatClampNeg) 0 0 q7) ?_
    refine r_nT (R := rI) rfl kk (fun T3 kk => ?_)
    obtain ⟨q8, kk⟩ := kk
    refine r_put dX12_know_43 fkX12_309 rfl rfl rfl (Nat.le_of_ble_eq_true rfl) (nar_b q8) (fit_b q8) ?_
    refine r_nT (R := rI) rfl kk (fun T4 kk => ?_)
    refine r_p (pc2 := 47) dX12_know_46 rfl rfl ?_
    refine r_p (pc2 := 48) dX12_know_47 rfl rfl ?_
    refine r_put dX12_know_48 fkX12_299 rfl rfl rfl (Nat.le_of_ble_eq_true rfl) rfl rfl ?_
    refine r_p (pc2 := 52) dX12_know_51 rfl rfl ?_
    refine r_p (pc2 := 53) dX12_know_52 rfl rfl ?_
    refine r_get dX12_know_53 fkX12_296 rfl rfl ?_
    refine r_put dX12_know_56 fkX12_312 rfl rfl rfl (Nat.le_of_ble_eq_true rfl) rfl rfl ?_
    refine r_ci (x := 0) dX12_know_59 rfl ?_
    refine r_p (pc2 := 61) (L2 := [some (.ref (571 : Nat)), some (.int p0), some (.int 0)]) dX12_know_60 rfl rfl ?_
    show tR _ _ _ _ [some (.ref (571 : Nat)), some (.int p0), some (.int 0)] _ _ _ _
    refine (c_m_know_61 p0 (fun w3_2 T203 kk => ?_) 1000 0 (sF (sF T4 571 34 p0) 571 36 ((sF T4 571 34 p0).1 571 31)) kk)
    · skip
      refine r_ci (x := 0) dX12_know_84 rfl ?_
      refine r_p (pc2 := 86) (L2 := [some (.ref (571 : Nat)), some (.int p0), some (.int 0)]) dX12_know_85 rfl rfl ?_
      show tR _ _ _ _ [some (.ref (571 : Nat)), some (.int p0), some (.int 0)] _ _ _ _
      refine (c_m_know_86 p0 (fun w4_2 T204 kk => ?_) 1000 0 T203 kk)
      · skip
        show tR _ _ _ _ [some (.ref (571 : Nat)), some (.int p0), some (.int w4_2)] [] _ _ _
        exact r_le (le_s (le_s (le_n (le_0)))) (hJ1 T204 kk)
