def x_m_trace (T : St) (p0 : Int32) : Int32 × St := if (x_m_in (sF T 571 0 0) ((p0 : Int32).toInt64) 0 ((((sF T 571 0 0).1 571 48) - 1 : Int32).toInt64)) = 0 then ((-1000000), sF T 571 0 0) else ((sF T 571 0 0).2.2.1 601 (p0 : Int32).toNatClampNeg, sF T 571 0 0)
def ok_m_trace (T : St) (p0 : Int32) : Prop := (¬ (x_m_in (sF T 571 0 0) ((p0 : Int32).toInt64) 0 ((((sF T 571 0 0).1 571 48) - 1 : Int32).toInt64)) = 0 → (vp_in p0 16) ∧ True)
theorem c_m_trace {X : Nat × (Nat → Int32)} {T : St} (p0 : Int32) (kk : ok_m_trace T p0) : tC X 2 mX12_trace [.ref (571 : Nat), .int p0] T (some (.int (x_m_trace T p0).1)) ((x_m_trace T p0).2) := by
  unfold ok_m_trace at kk
  refine tC_orI (L := [some (.ref (571 : Nat)), some (.int p0)]) (x_m_trace T p0) rfl ?_
  unfold x_m_trace
  refine r_p (pc2 := 1) dX12_trace_0 rfl rfl ?_
  refine r_ci (x := 0) dX12_trace_1 rfl ?_
  refine r_put dX12_trace_2 fkX12_101 rfl rfl rfl (Nat.le_of_ble_eq_true rfl) rfl rfl ?_
  refine r_p (pc2 := 6) dX12_trace_5 rfl rfl ?_
  refine r_p (pc2 := 7) dX12_trace_6 rfl rfl ?_
  refine r_cl (x := 0) dX12_trace_7 rfl ?_
  refine r_p (pc2 := 9) dX12_trace_8 rfl rfl ?_
  refine r_get dX12_trace_9 fkX12_358 rfl rfl ?_
  refine r_ci (x := 1) dX12_trace_12 rfl ?_
  refine r_p (pc2 := 14) dX12_trace_13 rfl rfl ?_
  refine r_p (pc2 := 15) dX12_trace_14 rfl rfl ?_
  refine r_cs (d1 := 1) dX12_trace_15 csX12_111 rfl rfl (Nat.le_of_ble_eq_true rfl) (Nat.le_of_ble_eq_true rfl) (Nat.le_of_ble_eq_true rfl) (c_m_in ((p0 : Int32).toInt64) 0 ((((sF T 571 0 0).1 571 48) - 1 : Int32).toInt64)) ?_
  refine r_ieq dX12_trace_18 rfl (fun c18_1 => ?_) (fun c18_1 => ?_)
  · refine r_ip (R := rI) c18_1 ?_
    refine r_k dX12_trace_30 kkX12_137 ?_
    exact r_qI dX12_trace_32 rfl rfl rfl rfl
  · refine r_in (R := rI) c18_1 ?_
    have kk := kk c18_1
    refine r_p (pc2 := 22) dX12_trace_21 rfl rfl ?_
    refine r_get dX12_trace_22 fkX12_98 rfl rfl ?_
    refine r_p (pc2 := 26) dX12_trace_25 rfl rfl ?_
    obtain ⟨q1, kk⟩ := kk
    refine r_ia dX12_trace_26 rfl q1 ?_
    refine r_go dX12_trace_27 rfl ?_
    exact r_qI dX12_trace_32 rfl rfl rfl rfl
def x_m_count_58 (l1 : Int32) (K : Int32 → Int32 → St → Int32 × St) : Nat → Int32 → Int32 → St → Int32 × St
  | 0, _, _, T => (0, T)
  | f + 1, v2, v3, T => if 8 ≤ v3 then (K v2 v3 T) else (if (T.2.2.1 572 (v3 : Int32).toNatClampNeg) < 0 then (x_m_count_58 l1 K f (v2 + 0) (v3 + 1) T) else (x_m_count_58 l1 K f (v2 + 1) (v3 + 1) T))
def ok_m_count_58 (l1 : Int32) (Kk : Int32 → Int32 → St → Prop) : Nat → Int32 → Int32 → St → Prop
  | 0, _, _, _ => False
  | f + 1, v2, v3, T => ((8 ≤ v3 → Kk v2 v3 T) ∧ (¬ 8 ≤ v3 → (vp_in v3 8) ∧ (((T.2.2.1 572 (v3 : Int32).toNatClampNeg) < 0 → ok_m_count_58 l1 Kk f (v2 + 0) (v3 + 1) T) ∧ (¬ (T.2.2.1 572 (v3 : Int32).toNatClampNeg) < 0 → ok_m_count_58 l1 Kk f (v2 + 1) (v3 + 1) T))))
theorem c_m_count_58 {X : Nat × (Nat → Int32)} (l1 : Int32) {K : Int32 → Int32 → St → Int32 × St} {Kk : Int32 → Int32 → St → Prop} (hk : ∀ (v2 : Int32) (v3 : Int32) (T : St), Kk v2 v3 T → tR X 1 mX12_count 87 [some (.ref (571 : Nat)), some (.int l1), some (.int v2), some (.int v3)] [] T (rI (K v2 v3 T)).1 ((rI (K v2 v3 T)).2)) : ∀ (f : Nat) (v2 : Int32) (v3 : Int32) (T : St), ok_m_count_58 l1 Kk f v2 v3 T → tR X 1 mX12_count 58 [some (.ref (571 : Nat)), some (.int l1), some (.int v2), some (.int v3)] [] T (rI (x_m_count_58 l1 K f v2 v3 T)).1 ((rI (x_m_count_58 l1 K f v2 v3 T)).2) := by
  intro f
  induction f with
  | zero => intro v2 v3 T kk; exact kk.elim
  | succ f ih =>
    intro v2 v3 T kk
    rw [ok_m_count_58] at kk
    rw [x_m_count_58]
    refine r_p (pc2 := 59) dX12_count_58 rfl rfl ?_
    refine r_cb (x := 8) dX12_count_59 rfl ?_
    refine r_cge dX12_count_61 rfl (fun c61_2 => ?_) (fun c61_2 => ?_)
    · refine r_ip (R := rI) c61_2 ?_
      have kk := kk.1 c61_2
      show tR _ _ _ _ [some (.ref (571 : Nat)), some (.int l1), some (.int v2), some (.int v3)] _ _ _ _
      exact (hk v2 v3 T kk)
    · refine r_in (R := rI) c61_2 ?_
      have kk := kk.2 c61_2
      refine r_p (pc2 := 65) dX12_count_64 rfl rfl ?_
      refine r_p (pc2 := 66) dX12_count_65 rfl rfl ?_
      refine r_get dX12_count_66 fkX12_7 rfl rfl ?_
      refine r_p (pc2 := 70) dX12_count_69 rfl rfl ?_
      obtain ⟨q1, kk⟩ := kk
      refine r_ia dX12_count_70 rfl q1 ?_
      refine r_ilt dX12_count_71 rfl (fun c71_3 => ?_) (fun c71_3 => ?_)
      · refine r_ip (R := rI) c71_3 ?_
        have kk := kk.1 c71_3
        refine r_ci (x := 0) dX12_count_78 rfl ?_
        refine r_p (pc2 := 80) dX12_count_79 rfl rfl ?_
        refine r_p (pc2 := 81) (L2 := [some (.ref (571 : Nat)), some (.int l1), some (.int (v2 + 0)), some (.int v3)]) dX12_count_80 rfl rfl ?_
        refine r_inc (L2 := [some (.ref (571 : Nat)), some (.int l1), some (.int (v2 + 0)), some (.int (v3 + 1))]) (y := 1) dX12_count_81 rfl rfl rfl ?_
        refine r_go dX12_count_84 rfl ?_
        show tR _ _ _ _ [some (.ref (571 : Nat)), some (.int l1), some (.int (v2 + 0)), some (.int (v3 + 1))] _ _ _ _
        exact (ih (v2 + 0) (v3 + 1) T kk)
      · refine r_in (R := rI) c71_3 ?_
        have kk := kk.2 c71_3
        refine r_ci (x := 1) dX12_count_74 rfl ?_
        refine r_go dX12_count_75 rfl ?_
        refine r_p (pc2 := 80) dX12_count_79 rfl rfl ?_
        refine r_p (pc2 := 81) (L2 := [some (.ref (571 : Nat)), some (.int l1), some (.int (v2 + 1)), some (.int v3)]) dX12_count_80 rfl rfl ?_
        refine r_inc (L2 := [some (.ref (571 : Nat)), some (.int l1), some (.int (v2 + 1)), some (.int (v3 + 1))]) (y := 1) dX12_count_81 rfl rfl rfl ?_
        refine r_go dX12_count_84 rfl ?_
        show tR _ _ _ _ [some (.ref (571 : Nat)), some (.int l1), some (.int (v2 + 1)), some (.int (v3 + 1))] _ _ _ _
        exact (ih (v2 + 1) (v3 + 1) T kk)
def x_m_count_119 (l1 : Int32) (K : Int32 → Int32 → St → Int32 × St) : Nat → Int32 → Int32 → St → Int32 × St
  | 0, _, _, T => (0, T)
  | f + 1, v2, v3, T => if (T.2.2.1 575 (16 : Int32).toNatClampNeg) ≤ v3 then (K v2 v3 T) else (if (((T.2.2.1 575 (202 : Int32).toNatClampNeg) >>> (v3 &&& 31)) &&& 1) = 1 then (jn (fun (i1 : Int32) => x_m_count_119 l1 K f i1 (v3 + 1) T) (v2 + (x_m_dishOf T v3 3))) else (x_m_count_119 l1 K f (v2 + 0) (v3 + 1) T))
def ok_m_count_119 (l1 : Int32) (Kk : Int32 → Int32 → St → Prop) : Nat → Int32 → Int32 → St → Prop
  | 0, _, _, _ => False
  | f + 1, v2, v3, T => (((T.2.2.1 575 (16 : Int32).toNatClampNeg) ≤ v3 → Kk v2 v3 T) ∧ (¬ (T.2.2.1 575 (16 : Int32).toNatClampNeg) ≤ v3 → (((((T.2.2.1 575 (202 : Int32).toNatClampNeg) >>> (v3 &&& 31)) &&& 1) = 1 → (ok_m_dishOf T v3 3) ∧ jn (fun (i1 : Int32) => ok_m_count_119 l1 Kk f i1 (v3 + 1) T) (v2 + (x_m_dishOf T v3 3))) ∧ (¬ (((T.2.2.1 575 (202 : Int32).toNatClampNeg) >>> (v3 &&& 31)) &&& 1) = 1 → ok_m_count_119 l1 Kk f (v2 + 0) (v3 + 1) T))))
theorem c_m_count_119 {X : Nat × (Nat → Int32)} (l1 : Int32) {K : Int32 → Int32 → St → Int32 × St} {Kk : Int32 → Int32 → St → Prop} (hk : ∀ (v2 : Int32) (v3 : Int32) (T : St), Kk v2 v3 T → tR X 1 mX12_count 165 [some (.ref (571 : Nat)), some (.int l1), some (.int v2), some (.int v3)] [] T (rI (K v2 v3 T)).1 ((rI (K v2 v3 T)).2)) : ∀ (f : Nat) (v2 : Int32) (v3 : Int32) (T : St), ok_m_count_119 l1 Kk f v2 v3 T → tR X 1 mX12_count 119 [some (.ref (571 : Nat)), some (.int l1), some (.int v2), some (.int v3)] [] T (rI (x_m_count_119 l1 K f v2 v3 T)).1 ((rI (x_m_count_119 l1 K f v2 v3 T)).2) := by
  intro f
  induction f with
  | zero => intro v2 v3 T kk; exact kk.elim
  | succ f ih =>
    intro v2 v3 T kk
    rw [ok_m_count_119] at kk
    rw [x_m_count_119]
    refine r_p (pc2 := 120) dX12_count_119 rfl rfl ?_
    refine r_p (pc2 := 121) dX12_count_120 rfl rfl ?_
    refine r_get dX12_count_121 fkX12_19 rfl rfl ?_
    refine r_cb (x := 16) dX12_count_124 rfl ?_
    refine r_ia dX12_count_126 rfl (in_c (by decide)) ?_
    refine r_cge dX12_count_127 rfl (fun c127_4 => ?_) (fun c127_4 => ?_)
    · refine r_ip (R := rI) c127_4 ?_
      have kk := kk.1 c127_4
      show tR _ _ _ _ [some (.ref (571 : Nat)), some (.int l1), some (.int v2), some (.int v3)] _ _ _ _
      exact (hk v2 v3 T kk)
    · refine r_in (R := rI) c127_4 ?_
      have kk := kk.2 c127_4
      refine r_p (pc2 := 131) dX12_count_130 rfl rfl ?_
      refine r_p (pc2 := 132) dX12_count_131 rfl rfl ?_
      refine r_get dX12_count_132 fkX12_19 rfl rfl ?_
      refine r_csi (x := 202) dX12_count_135 rfl ?_
      refine r_ia dX12_count_138 rfl (in_c (by decide)) ?_
      refine r_p (pc2 := 140) dX12_count_139 rfl rfl ?_
      refine r_p (pc2 := 141) dX12_count_140 rfl rfl ?_
      refine r_ci (x := 1) dX12_count_141 rfl ?_
      refine r_p (pc2 := 143) dX12_count_142 rfl rfl ?_
      refine r_ci (x := 1) dX12_count_143 rfl ?_
      refine r_cne dX12_count_144 rfl (fun c144_5 => ?_) (fun c144_5 => ?_)
      · refine r_in (R := rI) c144_5 ?_
        have kk := kk.2 c144_5
        refine r_ci (x := 0) dX12_count_156 rfl ?_
        refine r_p (pc2 := 158) dX12_count_157 rfl rfl ?_
        refine r_p (pc2 := 159) (L2 := [some (.ref (571 : Nat)), some (.int l1), some (.int (v2 + 0)), some (.int v3)]) dX12_count_158 rfl rfl ?_
        refine r_inc (L2 := [some (.ref (571 : Nat)), some (.int l1), some (.int (v2 + 0)), some (.int (v3 + 1))]) (y := 1) dX12_count_159 rfl rfl rfl ?_
        refine r_go dX12_count_162 rfl ?_
        show tR _ _ _ _ [some (.ref (571 : Nat)), some (.int l1), some (.int (v2 + 0)), some (.int (v3 + 1))] _ _ _ _
        exact (ih (v2 + 0) (v3 + 1) T kk)
      · refine r_ip (R := rI) c144_5 ?_
        have kk := kk.1 c144_5
        refine r_p (pc2 := 148) dX12_count_147 rfl rfl ?_
        refine r_p (pc2 := 149) dX12_count_148 rfl rfl ?_
        refine r_ci (x := 3) dX12_count_149 rfl ?_
        obtain ⟨q3, kk⟩ := kk
        refine r_cv (d1 := 1) dX12_count_150 cvX12_228 rfl rfl rfl rfl (Nat.le_of_ble_eq_true rfl) (Nat.le_of_ble_eq_true rfl) (Nat.le_of_ble_eq_true rfl) (c_m_dishOf v3 3 q3) ?_
        refine r_go dX12_count_153 rfl ?_
        refine r_p (pc2 := 158) dX12_count_157 rfl rfl ?_
        refine r_nI (R := rI) rfl kk (fun i1 kk => ?_)
        refine r_p (pc2 := 159) (L2 := [some (.ref (571 : Nat)), some (.int l1), some (.int i1), some (.int v3)]) dX12_count_158 rfl rfl ?_
        refine r_inc (L2 := [some (.ref (571 : Nat)), some (.int l1), some (.int i1), some (.int (v3 + 1))]) (y := 1) dX12_count_159 rfl rfl rfl ?_
        refine r_go dX12_count_162 rfl ?_
        show tR _ _ _ _ [some (.ref (571 : Nat)), some (.int l1), some (.int i1), some (.int (v3 + 1))] _ _ _ _
        exact (ih i1 (v3 + 1) T kk)
def x_m_count (T : St) (p0 : Int32) : Int32 × St := if p0 = 0 then (x_m_count_58 p0 (fun (w1_2 : Int32) (w1_3 : Int32) (T201 : St) => (w1_2, T201)) 1000 0 0 (sF T 571 0 0)) else (if p0 = 1 then ((sF T 571 0 0).2.2.1 575 (16 : Int32).toNatClampNeg, sF T 571 0 0) else (if p0 = 2 then ((sF T 571 0 0).2.2.1 575 (17 : Int32).toNatClampNeg, sF T 571 0 0) else (if p0 = 3 then (x_m_bits (sF T 571 0 0) ((sF T 571 0 0).2.2.1 575 (202 : Int32).toNatClampNeg), sF T 571 0 0) else (if p0 = 4 then (x_m_count_119 p0 (fun (w2_2 : Int32) (w2_3 : Int32) (T202 : St) => (w2_2, T202)) 1000 0 0 (sF T 571 0 0)) else (if p0 = 5 then ((sF T 571 0 0).2.2.1 575 (7 : Int32).toNatClampNeg, sF T 571 0 0) else (if p0 = 6 then ((sF T 571 0 0).1 571 9, sF T 571 0 0) else (if p0 = 7 then (if ((sF T 571 0 0).1 571 7) = 0 then (60, sF T 571 0 0) else ((sF T 571 0 0).2.2.1 575 (203 : Int32).toNatClampNeg, sF T 571 0 0)) else ((-1000001), sF T 571 0 0))))))))
def ok_m_count (T : St) (p0 : Int32) : Prop := ((p0 = 0 → ok_m_count_58 p0 (fun (w1_2 : Int32) (w1_3 : Int32) (T201 : St) => True) 1000 0 0 (sF T 571 0 0)) ∧ (¬ p0 = 0 → (¬ p0 = 1 → (¬ p0 = 2 → ((p0 = 3 → (ok_m_bits (sF T 571 0 0) ((sF T 571 0 0).2.2.1 575 (202 : Int32).toNatClampNeg)) ∧ True) ∧ (¬ p0 = 3 → (p0 = 4 → ok_m_count_119 p0 (fun (w2_2 : Int32) (w2_3 : Int32) (T202 : St) => True) 1000 0 0 (sF T 571 0 0))))))))
theorem c_m_count {X : Nat × (Nat → Int32)} {T : St} (p0 : Int32) (kk : ok_m_count T p0) : tC X 2 mX12_count [.ref (571 : Nat), .int p0] T (some (.int (x_m_count T p0).1)) ((x_m_count T p0).2) := by
  unfold ok_m_count at kk
  refine tC_orI (L := [some (.ref (571 : Nat)), some (.int p0), none, none]) (x_m_count T p0) rfl ?_
  unfold x_m_count
  refine r_p (pc2 := 1) dX12_count_0 rfl rfl ?_
  refine r_ci (x := 0) dX12_count_1 rfl ?_
  refine r_put dX12_count_2 fkX12_101 rfl rfl rfl (Nat.le_of_ble_eq_true rfl) rfl rfl ?_
  refine r_ci (x := 0) dX12_count_5 rfl ?_
  refine r_p (pc2 := 7) (L2 := [some (.ref (571 : Nat)), some (.int p0), some (.int 0), none]) dX12_count_6 rfl rfl ?_
  refine r_p (pc2 := 8) dX12_count_7 rfl rfl ?_
  by_cases s8_1_0 : p0 = 0
  · refine r_ip (R := rI) s8_1_0 ?_
    have kk := kk.1 s8_1_0
    refine r_tin dX12_count_8 (by rw [s8_1_0]; decide) (by rw [s8_1_0]; decide) (off := 48) (by rw [s8_1_0]; rfl) rfl ?_
    refine r_ci (x := 0) dX12_count_56 rfl ?_
    refine r_p (pc2 := 58) (L2 := [some (.ref (571 : Nat)), some (.int p0), some (.int 0), some (.int 0)]) dX12_count_57 rfl rfl ?_
    show tR _ _ _ _ [some (.ref (571 : Nat)), some (.int p0), some (.int 0), some (.int 0)] _ _ _ _
    refine (c_m_count_58 p0 (fun w1_2 w1_3 T201 kk => ?_) 1000 0 0 (sF T 571 0 0) kk)
    · skip
      refine r_p (pc2 := 88) dX12_count_87 rfl rfl ?_
      exact r_qI dX12_count_88 rfl rfl rfl rfl
  · refine r_in (R := rI) s8_1_0 ?_
    have kk := kk.2 s8_1_0
    by_cases s8_1_1 : p0 = 1
    · refine r_ip (R := rI) s8_1_1 ?_
      refine r_tin dX12_count_8 (by rw [s8_1_1]; decide) (by rw [s8_1_1]; decide) (off := 81) (by rw [s8_1_1]; rfl) rfl ?_
      refine r_p (pc2 := 90) dX12_count_89 rfl rfl ?_
      refine r_get dX12_count_90 fkX12_19 rfl rfl ?_
      refine r_cb (x := 16) dX12_count_93 rfl ?_
      refine r_ia dX12_count_95 rfl (in_c (by decide)) ?_
      exact r_qI dX12_count_96 rfl rfl rfl rfl
    · refine r_in (R := rI) s8_1_1 ?_
      have kk := kk s8_1_1
      by_cases s8_1_2 : p0 = 2
      · refine r_ip (R := rI) s8_1_2 ?_
        refine r_tin dX12_count_8 (by rw [s8_1_2]; decide) (by rw [s8_1_2]; decide) (off := 89) (by rw [s8_1_2]; rfl) rfl ?_
        refine r_p (pc2 := 98) dX12_count_97 rfl rfl ?_
        refine r_get dX12_count_98 fkX12_19 rfl rfl ?_
        refine r_cb (x := 17) dX12_count_101 rfl ?_
        refine r_ia dX12_count_103 rfl (in_c (by decide)) ?_
        exact r_qI dX12_count_104 rfl rfl rfl rfl
      · refine r_in (R := rI) s8_1_2 ?_
        have kk := kk s8_1_2
        by_cases s8_1_3 : p0 = 3
        · refine r_ip (R := rI) s8_1_3 ?_
          have kk := kk.1 s8_1_3
          refine r_tin dX12_count_8 (by rw [s8_1_3]; decide) (by rw [s8_1_3]; decide) (off := 97) (by rw [s8_1_3]; rfl) rfl ?_
          refine r_p (pc2 := 106) dX12_count_105 rfl rfl ?_
          refine r_get dX12_count_106 fkX12_19 rfl rfl ?_
          refine r_csi (x := 202) dX12_count_109 rfl ?_
          refine r_ia dX12_count_112 rfl (in_c (by decide)) ?_
          obtain ⟨q2, kk⟩ := kk
          refine r_cs (d1 := 1) dX12_count_113 csX12_263 rfl rfl (Nat.le_of_ble_eq_true rfl) (Nat.le_of_ble_eq_true rfl) (Nat.le_of_ble_eq_true rfl) (c_m_bits ((sF T 571 0 0).2.2.1 575 (202 : Int32).toNatClampNeg) q2) ?_
          exact r_qI dX12_count_116 rfl rfl rfl rfl
        · refine r_in (R := rI) s8_1_3 ?_
          have kk := kk.2 s8_1_3
          by_cases s8_1_4 : p0 = 4
          · refine r_ip (R := rI) s8_1_4 ?_
            have kk := kk s8_1_4
            refine r_tin dX12_count_8 (by rw [s8_1_4]; decide) (by rw [s8_1_4]; decide) (off := 109) (by rw [s8_1_4]; rfl) rfl ?_
            refine r_ci (x := 0) dX12_count_117 rfl ?_
            refine r_p (pc2 := 119) (L2 := [some (.ref (571 : Nat)), some (.int p0), some (.int 0), some (.int 0)]) dX12_count_118 rfl rfl ?_
            show tR _ _ _ _ [some (.ref (571 : Nat)), some (.int p0), some (.int 0), some (.int 0)] _ _ _ _
            refine (c_m_count_119 p0 (fun w2_2 w2_3 T202 kk => ?_) 1000 0 0 (sF T 571 0 0) kk)
            · skip
              refine r_p (pc2 := 166) dX12_count_165 rfl rfl ?_
              exact r_qI dX12_count_166 rfl rfl rfl rfl
          · refine r_in (R := rI) s8_1_4 ?_
            by_cases s8_1_5 : p0 = 5
            · refine r_ip (R := rI) s8_1_5 ?_
              refine r_tin dX12_count_8 (by rw [s8_1_5]; decide) (by rw [s8_1_5]; decide) (off := 159) (by rw [s8_1_5]; rfl) rfl ?_
              refine r_p (pc2 := 168) dX12_count_167 rfl rfl ?_
              refine r_get dX12_count_168 fkX12_19 rfl rfl ?_
              refine r_cb (x := 7) dX12_count_171 rfl ?_
              refine r_ia dX12_count_173 rfl (in_c (by decide)) ?_
              exact r_qI dX12_count_174 rfl rfl rfl rfl
            · refine r_in (R := rI) s8_1_5 ?_
              by_cases s8_1_6 : p0 = 6
              · refine r_ip (R := rI) s8_1_6 ?_
                refine r_tin dX12_count_8 (by rw [s8_1_6]; decide) (by rw [s8_1_6]; decide) (off := 167) (by rw [s8_1_6]; rfl) rfl ?_
                refine r_p (pc2 := 176) dX12_count_175 rfl rfl ?_
                refine r_get dX12_count_176 fkX12_128 rfl rfl ?_
                exact r_qI dX12_count_179 rfl rfl rfl rfl
              · refine r_in (R := rI) s8_1_6 ?_
                by_cases s8_1_7 : p0 = 7
                · refine r_ip (R := rI) s8_1_7 ?_
                  refine r_tin dX12_count_8 (by rw [s8_1_7]; decide) (by rw [s8_1_7]; decide) (off := 172) (by rw [s8_1_7]; rfl) rfl ?_
                  refine r_p (pc2 := 181) dX12_count_180 rfl rfl ?_
                  refine r_get dX12_count_181 fkX12_221 rfl rfl ?_
                  refine r_ieq dX12_count_184 rfl (fun c184_6 => ?_) (fun c184_6 => ?_)
                  · refine r_ip (R := rI) c184_6 ?_
                    refine r_cb (x := 60) dX12_count_198 rfl ?_
                    exact r_qI dX12_count_200 rfl rfl rfl rfl
                  · refine r_in (R := rI) c184_6 ?_
                    refine r_p (pc2 := 188) dX12_count_187 rfl rfl ?_
                    refine r_get dX12_count_188 fkX12_19 rfl rfl ?_
                    refine r_csi (x := 203) dX12_count_191 rfl ?_
                    refine r_ia dX12_count_194 rfl (in_c (by decide)) ?_
                    refine r_go dX12_count_195 rfl ?_
                    exact r_qI dX12_count_200 rfl rfl rfl rfl
                · refine r_in (R := rI) s8_1_7 ?_
                  refine r_tout dX12_count_8 (by have := i_rg (p0); simp only [i_eq, i_0, i_1, i_2, i_3, i_4, i_5, i_6, i_7] at s8_1_0 s8_1_1 s8_1_2 s8_1_3 s8_1_4 s8_1_5 s8_1_6 s8_1_7; omega) rfl ?_
                  refine r_k dX12_count_201 kkX12_121 ?_
                  exact r_qI dX12_count_203 rfl rfl rfl rfl
def x_m_status (T : St)  : Int32 × St := ((sF T 571 0 0).1 571 1, sF T 571 0 0)
theorem c_m_status {X : Nat × (Nat → Int32)} {T : St}  : tC X 1 mX12_status [.ref (571 : Nat)] T (some (.int (x_m_status T).1)) ((x_m_status T).2) := by
  refine tC_orI (L := [some (.ref (571 : Nat))]) (x_m_status T ) rfl ?_
  unfold x_m_status
  refine r_p (pc2 := 1) dX12_status_0 rfl rfl ?_
  refine r_ci (x := 0) dX12_status_1 rfl ?_
  refine r_put dX12_status_2 fkX12_101 rfl rfl rfl (Nat.le_of_ble_eq_true rfl) rfl rfl ?_
  refine r_p (pc2 := 6) dX12_status_5 rfl rfl ?_
  refine r_get dX12_status_6 fkX12_105 rfl rfl ?_
  exact r_qI dX12_status_9 rfl rfl rfl rfl
def x_J_bitCount (T : St) (p0 : Int32) : Int32 := jn (fun (i1 : Int32) => jn (fun (i2 : Int32) => jn (fun (i3 : Int32) => jn (fun (i4 : Int32) => jn (fun (i5 : Int32) => i5 &&& 63) (i4 + (((i4 : Int32).toUInt32 >>> ((16 : Int32).toUInt32 &&& Int32.toUInt32 31)).toInt32))) (i3 + (((i3 : Int32).toUInt32 >>> ((8 : Int32).toUInt32 &&& Int32.toUInt32 31)).toInt32))) ((i2 + (((i2 : Int32).toUInt32 >>> ((4 : Int32).toUInt32 &&& Int32.toUInt32 31)).toInt32)) &&& 252645135)) ((i1 &&& 858993459) + ((((i1 : Int32).toUInt32 >>> ((2 : Int32).toUInt32 &&& Int32.toUInt32 31)).toInt32) &&& 858993459))) (p0 - ((((p0 : Int32).toUInt32 >>> ((1 : Int32).toUInt32 &&& Int32.toUInt32 31)).toInt32) &&& 1431655765))
theorem c_J_bitCount {X : Nat × (Nat → Int32)} {T : St} (p0 : Int32) : tC X 1 mJ6_bitCount_0f7a4 [.int p0] T (some (.int (x_J_bitCount T p0))) T := by
  refine tC_orIp (L := [some (.int p0)]) (x_J_bitCount T p0) rfl ?_
  unfold x_J_bitCount
  refine r_p (pc2 := 1) dJ6_bitCount_0f7a4_0 rfl rfl ?_
  refine r_p (pc2 := 2) dJ6_bitCount_0f7a4_1 rfl rfl ?_
  refine r_ci (x := 1) dJ6_bitCount_0f7a4_2 rfl ?_
  refine r_p (pc2 := 4) dJ6_bitCount_0f7a4_3 rfl rfl ?_
  refine r_kw dJ6_bitCount_0f7a4_4 kkJ6_265 ?_
  refine r_p (pc2 := 8) dJ6_bitCount_0f7a4_7 rfl rfl ?_
  refine r_p (pc2 := 9) dJ6_bitCount_0f7a4_8 rfl rfl ?_
  refine r_nI0 (R := (rIp T)) rfl (fun i1 => ?_)
  refine r_p (pc2 := 10) (L2 := [some (.int i1)]) dJ6_bitCount_0f7a4_9 rfl rfl ?_
  refine r_p (pc2 := 11) dJ6_bitCount_0f7a4_10 rfl rfl ?_
  refine r_kw dJ6_bitCount_0f7a4_11 kkJ6_266 ?_
  refine r_p (pc2 := 15) dJ6_bitCount_0f7a4_14 rfl rfl ?_
  refine r_p (pc2 := 16) dJ6_bitCount_0f7a4_15 rfl rfl ?_
  refine r_ci (x := 2) dJ6_bitCount_0f7a4_16 rfl ?_
  refine r_p (pc2 := 18) dJ6_bitCount_0f7a4_17 rfl rfl ?_
  refine r_kw dJ6_bitCount_0f7a4_18 kkJ6_266 ?_
  refine r_p (pc2 := 22) dJ6_bitCount_0f7a4_21 rfl rfl ?_
  refine r_p (pc2 := 23) dJ6_bitCount_0f7a4_22 rfl rfl ?_
  refine r_nI0 (R := (rIp T)) rfl (fun i2 => ?_)
  refine r_p (pc2 := 24) (L2 := [some (.int i2)]) dJ6_bitCount_0f7a4_23 rfl rfl ?_
  refine r_p (pc2 := 25) dJ6_bitCount_0f7a4_24 rfl rfl ?_
  refine r_p (pc2 := 26) dJ6_bitCount_0f7a4_25 rfl rfl ?_
  refine r_ci (x := 4) dJ6_bitCount_0f7a4_26 rfl ?_
  refine r_p (pc2 := 28) dJ6_bitCount_0f7a4_27 rfl rfl ?_
  refine r_p (pc2 := 29) dJ6_bitCount_0f7a4_28 rfl rfl ?_
  refine r_kw dJ6_bitCount_0f7a4_29 kkJ6_267 ?_
  refine r_p (pc2 := 33) dJ6_bitCount_0f7a4_32 rfl rfl ?_
  refine r_nI0 (R := (rIp T)) rfl (fun i3 => ?_)
  refine r_p (pc2 := 34) (L2 := [some (.int i3)]) dJ6_bitCount_0f7a4_33 rfl rfl ?_
  refine r_p (pc2 := 35) dJ6_bitCount_0f7a4_34 rfl rfl ?_
  refine r_p (pc2 := 36) dJ6_bitCount_0f7a4_35 rfl rfl ?_
  refine r_cb (x := 8) dJ6_bitCount_0f7a4_36 rfl ?_
  refine r_p (pc2 := 39) dJ6_bitCount_0f7a4_38 rfl rfl ?_
  refine r_p (pc2 := 40) dJ6_bitCount_0f7a4_39 rfl rfl ?_
  refine r_nI0 (R := (rIp T)) rfl (fun i4 => ?_)
  refine r_p (pc2 := 41) (L2 := [some (.int i4)]) dJ6_bitCount_0f7a4_40 rfl rfl ?_
  refine r_p (pc2 := 42) dJ6_bitCount_0f7a4_41 rfl rfl ?_
  refine r_p (pc2 := 43) dJ6_bitCount_0f7a4_42 rfl rfl ?_
  refine r_cb (x := 16) dJ6_bitCount_0f7a4_43 rfl ?_
  refine r_p (pc2 := 46) dJ6_bitCount_0f7a4_45 rfl rfl ?_
  refine r_p (pc2 := 47) dJ6_bitCount_0f7a4_46 rfl rfl ?_
  refine r_nI0 (R := (rIp T)) rfl (fun i5 => ?_)
  refine r_p (pc2 := 48) (L2 := [some (.int i5)]) dJ6_bitCount_0f7a4_47 rfl rfl ?_
  refine r_p (pc2 := 49) dJ6_bitCount_0f7a4_48 rfl rfl ?_
  refine r_cb (x := 63) dJ6_bitCount_0f7a4_49 rfl ?_
  refine r_p (pc2 := 52) dJ6_bitCount_0f7a4_51 rfl rfl ?_
  exact r_qIp dJ6_bitCount_0f7a4_52 rfl rfl rfl
def x_bk_given (T : St) (a : Nat) (p0 : Int32) (p1 : Int32) : Int32 := jn (fun (KJ1 : Int32 → Int32) => if p0 < (T.1 a 18) then (KJ1 0) else (KJ1 1)) (fun (j1_s0 : Int32) => if p1 = 0 then ((T.2.2.1 (a + 1) (0 : Int32).toNatClampNeg) + (T.2.2.1 (a + 1) (1 : Int32).toNatClampNeg)) - j1_s0 else (if p1 = 1 then (T.2.2.1 (a + 1) (1 : Int32).toNatClampNeg) - j1_s0 else (if p1 = 2 then (T.2.2.1 (a + 1) (2 : Int32).toNatClampNeg) else (if p1 = 3 then (if 0 < (T.2.2.1 (a + 1) (5 : Int32).toNatClampNeg) - (x_bk_awayAt T a p0) then (T.2.2.1 (a + 1) (5 : Int32).toNatClampNeg) - (x_bk_awayAt T a p0) else 0 : Int32) else (T.2.2.1 (a + 1) (6 : Int32).toNatClampNeg)))))
def ok_bk_given (T : St) (a : Nat) (p0 : Int32) (p1 : Int32) : Prop := (sh a = .inr 1) ∧ jn (fun (OJ1 : Int32 → Prop) => ((p0 < (T.1 a 18) → OJ1 0) ∧ (¬ p0 < (T.1 a 18) → OJ1 1))) (fun (j1_s0 : Int32) => (¬ p1 = 0 → (¬ p1 = 1 → (¬ p1 = 2 → (p1 = 3 → (ok_bk_awayAt T a p0) ∧ True)))))
theorem c_bk_given {X : Nat × (Nat → Int32)} {T : St} (a : Nat) (p0 : Int32) (p1 : Int32) (kk : ok_bk_given T a p0 p1) : tC X 2 mX1_given [.ref a, .int p0, .int p1] T (some (.int (x_bk_given T a p0 p1))) T := by
  unfold ok_bk_given at kk
  refine tC_orIp (L := [some (.ref a), some (.int p0), some (.int p1), none]) (x_bk_given T a p0 p1) rfl ?_
  unfold x_bk_given
  refine r_p (pc2 := 1) dX1_given_0 rfl rfl ?_
  refine r_p (pc2 := 2) dX1_given_1 rfl rfl ?_
  obtain ⟨q1, kk⟩ := kk
  refine r_get dX1_given_2 fkX1_54 q1 rfl ?_
  refine r_jn (R := (rIp T)) (J := fun (KJ1 : Int32 → Int32) (OJ1 : Int32 → Prop) => ∀ (j1_s0 : Int32), OJ1 j1_s0 → tR X 1 mX1_given 13 [some (.ref a), some (.int p0), some (.int p1), none] [.int j1_s0] T ((rIp T) (KJ1 j1_s0)).1 ((rIp T) (KJ1 j1_s0)).2) kk (fun j1_s0 kk => ?_) (fun KJ1 OJ1 hJ1 kk => ?_)
  · skip
    refine r_p (pc2 := 14) (L2 := [some (.ref a), some (.int p0), some (.int p1), some (.int j1_s0)]) dX1_given_13 rfl rfl ?_
    refine r_p (pc2 := 15) dX1_given_14 rfl rfl ?_
    by_cases s15_2_0 : p1 = 0
    · refine r_ip (R := (rIp T)) s15_2_0 ?_
      refine r_tin dX1_given_15 (by rw [s15_2_0]; decide) (by rw [s15_2_0]; decide) (off := 29) (by rw [s15_2_0]; rfl) rfl ?_
      refine r_p (pc2 := 45) dX1_given_44 rfl rfl ?_
      refine r_get dX1_given_45 fkX1_9 q1 rfl ?_
      refine r_ci (x := 0) dX1_given_48 rfl ?_
      refine r_ia dX1_given_49 (shl1_1 q1) (in_c (by decide)) ?_
      refine r_p (pc2 := 51) dX1_given_50 rfl rfl ?_
      refine r_get dX1_given_51 fkX1_9 q1 rfl ?_
      refine r_ci (x := 1) dX1_given_54 rfl ?_
      refine r_ia dX1_given_55 (shl1_1 q1) (in_c (by decide)) ?_
      refine r_p (pc2 := 57) dX1_given_56 rfl rfl ?_
      refine r_p (pc2 := 58) dX1_given_57 rfl rfl ?_
      refine r_p (pc2 := 59) dX1_given_58 rfl rfl ?_
      exact r_qIp dX1_given_59 rfl rfl rfl
    · refine r_in (R := (rIp T)) s15_2_0 ?_
      have kk := kk s15_2_0
      by_cases s15_2_1 : p1 = 1
      · refine r_ip (R := (rIp T)) s15_2_1 ?_
        refine r_tin dX1_given_15 (by rw [s15_2_1]; decide) (by rw [s15_2_1]; decide) (off := 45) (by rw [s15_2_1]; rfl) rfl ?_
        refine r_p (pc2 := 61) dX1_given_60 rfl rfl ?_
        refine r_get dX1_given_61 fkX1_9 q1 rfl ?_
        refine r_ci (x := 1) dX1_given_64 rfl ?_
        refine r_ia dX1_given_65 (shl1_1 q1) (in_c (by decide)) ?_
        refine r_p (pc2 := 67) dX1_given_66 rfl rfl ?_
        refine r_p (pc2 := 68) dX1_given_67 rfl rfl ?_
        exact r_qIp dX1_given_68 rfl rfl rfl
      · refine r_in (R := (rIp T)) s15_2_1 ?_
        have kk := kk s15_2_1
        by_cases s15_2_2 : p1 = 2
        · refine r_ip (R := (rIp T)) s15_2_2 ?_
          refine r_tin dX1_given_15 (by rw [s15_2_2]; decide) (by rw [s15_2_2]; decide) (off := 54) (by rw [s15_2_2]; rfl) rfl ?_
          refine r_p (pc2 := 70) dX1_given_69 rfl rfl ?_
          refine r_get dX1_given_70 fkX1_9 q1 rfl ?_
          refine r_ci (x := 2) dX1_given_73 rfl ?_
          refine r_ia dX1_given_74 (shl1_1 q1) (in_c (by decide)) ?_
          exact r_qIp dX1_given_75 rfl rfl rfl
        · refine r_in (R := (rIp T)) s15_2_2 ?_
          have kk := kk s15_2_2
          by_cases s15_2_3 : p1 = 3
          · refine r_ip (R := (rIp T)) s15_2_3 ?_
            have kk := kk s15_2_3
            refine r_tin dX1_given_15 (by rw [s15_2_3]; decide) (by rw [s15_2_3]; decide) (off := 61) (by rw [s15_2_3]; rfl) rfl ?_
            refine r_ci (x := 0) dX1_given_76 rfl ?_
            refine r_p (pc2 := 78) dX1_given_77 rfl rfl ?_
            refine r_get dX1_given_78 fkX1_9 q1 rfl ?_
            refine r_ci (x := 5) dX1_given_81 rfl ?_
            refine r_ia dX1_given_82 (shl1_1 q1) (in_c (by decide)) ?_
            refine r_p (pc2 := 84) dX1_given_83 rfl rfl ?_
            refine r_p (pc2 := 85) dX1_given_84 rfl rfl ?_
            obtain ⟨q2, kk⟩ := kk
            refine r_cv (d1 := 1) dX1_given_85 cvX1_76 rfl rfl q1 rfl (Nat.le_of_ble_eq_true rfl) (Nat.le_of_ble_eq_true rfl) (Nat.le_of_ble_eq_true rfl) (c_bk_awayAt a p0 q2) ?_
            refine r_p (pc2 := 89) dX1_given_88 rfl rfl ?_
            refine r_max dX1_given_89 cmxX1_80 (Nat.le_of_ble_eq_true rfl) ?_
            exact r_qIp dX1_given_92 rfl rfl rfl
          · refine r_in (R := (rIp T)) s15_2_3 ?_
            refine r_tout dX1_given_15 (by have := i_rg (p1); simp only [i_eq, i_0, i_1, i_2, i_3] at s15_2_0 s15_2_1 s15_2_2 s15_2_3; omega) rfl ?_
            refine r_p (pc2 := 94) dX1_given_93 rfl rfl ?_
            refine r_get dX1_given_94 fkX1_9 q1 rfl ?_
            refine r_cb (x := 6) dX1_given_97 rfl ?_
            refine r_ia dX1_given_99 (shl1_1 q1) (in_c (by decide)) ?_
            exact r_qIp dX1_given_100 rfl rfl rfl
  refine r_clt dX1_given_5 rfl (fun c5_3 => ?_) (fun c5_3 => ?_)
  · refine r_ip (R := (rIp T)) c5_3 ?_
    have kk := kk.1 c5_3
    refine r_ci (x := 0) dX1_given_12 rfl ?_
    show tR _ _ _ _ [some (.ref a), some (.int p0), some (.int p1), none] [.int 0] _ _ _
    exact (hJ1 0 kk)
  · refine r_in (R := (rIp T)) c5_3 ?_
    have kk := kk.2 c5_3
    refine r_ci (x := 1) dX1_given_8 rfl ?_
    refine r_go dX1_given_9 rfl ?_
    show tR _ _ _ _ [some (.ref a), some (.int p0), some (.int p1), none] [.int 1] _ _ _
    exact (hJ1 1 kk)
def x_ki_giveAll (T : St) (a : Nat) (p0 : Nat) (p1 : Int32) : St := jn (fun (T1 : St) => jn (fun (T2 : St) => x_ki_give (x_ki_give T2 a 3 p1) a 4 ((x_ki_give T2 a 3 p1).2.2.1 (p0 + 1) (6 : Int32).toNatClampNeg)) (x_ki_give (x_ki_give T1 a 1 (T1.2.2.1 (p0 + 1) (1 : Int32).toNatClampNeg)) a 2 ((x_ki_give T1 a 1 (T1.2.2.1 (p0 + 1) (1 : Int32).toNatClampNeg)).2.2.1 (p0 + 1) (2 : Int32).toNatClampNeg))) (x_ki_give T a 0 ((T.2.2.1 (p0 + 1) (0 : Int32).toNatClampNeg) + (T.2.2.1 (p0 + 1) (1 : Int32).toNatClampNeg)))
def ok_ki_giveAll (T : St) (a : Nat) (p0 : Nat) (p1 : Int32) : Prop := (sh p0 = .inr 1) ∧ (ok_ki_give T a 0 ((T.2.2.1 (p0 + 1) (0 : Int32).toNatClampNeg) + (T.2.2.1 (p0 + 1) (1 : Int32).toNatClampNeg))) ∧ (sh a = .inr 3) ∧ jn (fun (T1 : St) => (ok_ki_give T1 a 1 (T1.2.2.1 (p0 + 1) (1 : Int32).toNatClampNeg)) ∧ (ok_ki_give (x_ki_give T1 a 1 (T1.2.2.1 (p0 + 1) (1 : Int32).toNatClampNeg)) a 2 ((x_ki_give T1 a 1 (T1.2.2.1 (p0 + 1) (1 : Int32).toNatClampNeg)).2.2.1 (p0 + 1) (2 : Int32).toNatClampNeg)) ∧ jn (fun (T2 : St) => (ok_ki_give T2 a 3 p1) ∧ (ok_ki_give (x_ki_give T2 a 3 p1) a 4 ((x_ki_give T2 a 3 p1).2.2.1 (p0 + 1) (6 : Int32).toNatClampNeg)) ∧ True) (x_ki_give (x_ki_give T1 a 1 (T1.2.2.1 (p0 + 1) (1 : Int32).toNatClampNeg)) a 2 ((x_ki_give T1 a 1 (T1.2.2.1 (p0 + 1) (1 : Int32).toNatClampNeg)).2.2.1 (p0 + 1) (2 : Int32).toNatClampNeg))) (x_ki_give T a 0 ((T.2.2.1 (p0 + 1) (0 : Int32).toNatClampNeg) + (T.2.2.1 (p0 + 1) (1 : Int32).toNatClampNeg)))
theorem c_ki_giveAll {X : Nat × (Nat → Int32)} {T : St} (a : Nat) (p0 : Nat) (p1 : Int32) (kk : ok_ki_giveAll T a p0 p1) : tC X 2 mX3_giveAll [.ref a, .ref p0, .int p1] T none (x_ki_giveAll T a p0 p1) := by
  unfold ok_ki_giveAll at kk
  refine tC_orV (L := [some (.ref a), some (.ref p0), some (.int p1), none]) (x_ki_giveAll T a p0 p1) rfl ?_
  unfold x_ki_giveAll
  refine r_p (pc2 := 1) dX3_giveAll_0 rfl rfl ?_
  obtain ⟨q1, kk⟩ := kk
  refine r_get dX3_giveAll_1 fkX3_15 q1 rfl ?_
  refine r_p (pc2 := 5) (L2 := [some (.ref a), some (.ref p0), some (.int p1), some (.ref (p0 + 1))]) dX3_giveAll_4 rfl rfl ?_
  refine r_p (pc2 := 6) dX3_giveAll_5 rfl rfl ?_
  refine r_ci (x := 0) dX3_giveAll_6 rfl ?_
  refine r_p (pc2 := 8) dX3_giveAll_7 rfl rfl ?_
  refine r_ci (x := 0) dX3_giveAll_8 rfl ?_
  refine r_ia dX3_giveAll_9 (shl1_1 q1) (in_c (by decide)) ?_
  refine r_p (pc2 := 11) dX3_giveAll_10 rfl rfl ?_
  refine r_ci (x := 1) dX3_giveAll_11 rfl ?_
  refine r_ia dX3_giveAll_12 (shl1_1 q1) (in_c (by decide)) ?_
  refine r_p (pc2 := 14) dX3_giveAll_13 rfl rfl ?_
  obtain ⟨q2, kk⟩ := kk
  obtain ⟨q3, kk⟩ := kk
  refine r_cv (d1 := 1) dX3_giveAll_14 cvX3_21 rfl rfl q3 rfl (Nat.le_of_ble_eq_true rfl) (Nat.le_of_ble_eq_true rfl) (Nat.le_of_ble_eq_true rfl) (c_ki_give a 0 ((T.2.2.1 (p0 + 1) (0 : Int32).toNatClampNeg) + (T.2.2.1 (p0 + 1) (1 : Int32).toNatClampNeg)) q2) ?_
  refine r_nT (R := rV) rfl kk (fun T1 kk => ?_)
  refine r_p (pc2 := 18) dX3_giveAll_17 rfl rfl ?_
  refine r_ci (x := 1) dX3_giveAll_18 rfl ?_
  refine r_p (pc2 := 20) dX3_giveAll_19 rfl rfl ?_
  refine r_ci (x := 1) dX3_giveAll_20 rfl ?_
  refine r_ia dX3_giveAll_21 (shl1_1 q1) (in_c (by decide)) ?_
  obtain ⟨q4, kk⟩ := kk
  refine r_cv (d1 := 1) dX3_giveAll_22 cvX3_21 rfl rfl q3 rfl (Nat.le_of_ble_eq_true rfl) (Nat.le_of_ble_eq_true rfl) (Nat.le_of_ble_eq_true rfl) (c_ki_give a 1 (T1.2.2.1 (p0 + 1) (1 : Int32).toNatClampNeg) q4) ?_
  refine r_p (pc2 := 26) dX3_giveAll_25 rfl rfl ?_
  refine r_ci (x := 2) dX3_giveAll_26 rfl ?_
  refine r_p (pc2 := 28) dX3_giveAll_27 rfl rfl ?_
  refine r_ci (x := 2) dX3_giveAll_28 rfl ?_
  refine r_ia dX3_giveAll_29 (shl1_1 q1) (in_c (by decide)) ?_
  obtain ⟨q5, kk⟩ := kk
  refine r_cv (d1 := 1) dX3_giveAll_30 cvX3_21 rfl rfl q3 rfl (Nat.le_of_ble_eq_true rfl) (Nat.le_of_ble_eq_true rfl) (Nat.le_of_ble_eq_true rfl) (c_ki_give a 2 ((x_ki_give T1 a 1 (T1.2.2.1 (p0 + 1) (1 : Int32).toNatClampNeg)).2.2.1 (p0 + 1) (2 : Int32).toNatClampNeg) q5) ?_
  refine r_nT (R := rV) rfl kk (fun T2 kk => ?_)
  refine r_p (pc2 := 34) dX3_giveAll_33 rfl rfl ?_
  refine r_ci (x := 3) dX3_giveAll_34 rfl ?_
  refine r_p (pc2 := 36) dX3_giveAll_35 rfl rfl ?_
  obtain ⟨q6, kk⟩ := kk
  refine r_cv (d1 := 1) dX3_giveAll_36 cvX3_21 rfl rfl q3 rfl (Nat.le_of_ble_eq_true rfl) (Nat.le_of_ble_eq_true rfl) (Nat.le_of_ble_eq_true rfl) (c_ki_give a 3 p1 q6) ?_
  refine r_p (pc2 := 40) dX3_giveAll_39 rfl rfl ?_
  refine r_ci (x := 4) dX3_giveAll_40 rfl ?_
  refine r_p (pc2 := 42) dX3_giveAll_41 rfl rfl ?_
  refine r_cb (x := 6) dX3_giveAll_42 rfl ?_
  refine r_ia dX3_giveAll_44 (shl1_1 q1) (in_c (by decide)) ?_
  obtain ⟨q7, kk⟩ := kk
  refine r_cv (d1 := 1) dX3_giveAll_45 cvX3_21 rfl rfl q3 rfl (Nat.le_of_ble_eq_true rfl) (Nat.le_of_ble_eq_true rfl) (Nat.le_of_ble_eq_true rfl) (c_ki_give a 4 ((x_ki_give T2 a 3 p1).2.2.1 (p0 + 1) (6 : Int32).toNatClampNeg) q7) ?_
  exact r_qV dX3_giveAll_48 rfl rfl
def x_ki_fit_33 (l0 : Nat) (l1 : Nat) (l2 : Int32) (l3 : Int32) (l4 : Int64) (K : Int32 → St → St) : Nat → Int32 → St → St
  | 0, _, T => T
  | f + 1, v6, T => if (T.1 l1 1) ≤ v6 then (K v6 T) else (jn (fun (T2 : St) => x_ki_fit_33 l0 l1 l2 l3 l4 K f (v6 + 1) T2) (x_ki_giveOneLess T l0 3 (x_x_span T (T.2.2.1 (l1 + 2) (v6 : Int32).toNatClampNeg) (((T.2.2.1 (l1 + 3) (v6 : Int32).toNatClampNeg) - (T.2.2.1 (l1 + 2) (v6 : Int32).toNatClampNeg)) + 1))))
def ok_ki_fit_33 (l0 : Nat) (l1 : Nat) (l2 : Int32) (l3 : Int32) (l4 : Int64) (Kk : Int32 → St → Prop) : Nat → Int32 → St → Prop
  | 0, _, _ => False
  | f + 1, v6, T => (sh l1 = .inr 1) ∧ (((T.1 l1 1) ≤ v6 → Kk v6 T) ∧ (¬ (T.1 l1 1) ≤ v6 → (vp_in v6 4) ∧ (ok_ki_giveOneLess T l0 3 (x_x_span T (T.2.2.1 (l1 + 2) (v6 : Int32).toNatClampNeg) (((T.2.2.1 (l1 + 3) (v6 : Int32).toNatClampNeg) - (T.2.2.1 (l1 + 2) (v6 : Int32).toNatClampNeg)) + 1))) ∧ (sh l0 = .inr 3) ∧ jn (fun (T2 : St) => ok_ki_fit_33 l0 l1 l2 l3 l4 Kk f (v6 + 1) T2) (x_ki_giveOneLess T l0 3 (x_x_span T (T.2.2.1 (l1 + 2) (v6 : Int32).toNatClampNeg) (((T.2.2.1 (l1 + 3) (v6 : Int32).toNatClampNeg) - (T.2.2.1 (l1 + 2) (v6 : Int32).toNatClampNeg)) + 1)))))
theorem c_ki_fit_33 {X : Nat × (Nat → Int32)} (l0 : Nat) (l1 : Nat) (l2 : Int32) (l3 : Int32) (l4 : Int64) {K : Int32 → St → St} {Kk : Int32 → St → Prop} (hk : ∀ (v6 : Int32) (T : St), Kk v6 T → tR X 2 mX3_fit 80 [some (.ref l0), some (.ref l1), some (.int l2), some (.int l3), some (.long l4), none, some (.int v6)] [] T (rV (K v6 T)).1 ((rV (K v6 T)).2)) : ∀ (f : Nat) (v6 : Int32) (T : St), ok_ki_fit_33 l0 l1 l2 l3 l4 Kk f v6 T → tR X 2 mX3_fit 33 [some (.ref l0), some (.ref l1), some (.int l2), some (.int l3), some (.long l4), none, some (.int v6)] [] T (rV (x_ki_fit_33 l0 l1 l2 l3 l4 K f v6 T)).1 ((rV (x_ki_fit_33 l0 l1 l2 l3 l4 K f v6 T)).2) := by
  intro f
  induction f with
  | zero => intro v6 T kk; exact kk.elim
  | succ f ih =>
    intro v6 T kk
    rw [ok_ki_fit_33] at kk
    rw [x_ki_fit_33]
    refine r_p (pc2 := 35) dX3_fit_33 rfl rfl ?_
    refine r_p (pc2 := 36) dX3_fit_35 rfl rfl ?_
    obtain ⟨q5, kk⟩ := kk
    refine r_get dX3_fit_36 fkX3_37 q5 rfl ?_
    refine r_cge dX3_fit_39 rfl (fun c39_1 => ?_) (fun c39_1 => ?_)
    · refine r_ip (R := rV) c39_1 ?_
      have kk := kk.1 c39_1
      show tR _ _ _ _ [some (.ref l0), some (.ref l1), some (.int l2), some (.int l3), some (.long l4), none, some (.int v6)] _ _ _ _
      exact (hk v6 T kk)
    · refine r_in (R := rV) c39_1 ?_
      have kk := kk.2 c39_1
      refine r_p (pc2 := 43) dX3_fit_42 rfl rfl ?_
      refine r_ci (x := 3) dX3_fit_43 rfl ?_
      refine r_p (pc2 := 45) dX3_fit_44 rfl rfl ?_
      refine r_get dX3_fit_45 fkX3_41 q5 rfl ?_
      refine r_p (pc2 := 50) dX3_fit_48 rfl rfl ?_
      obtain ⟨q6, kk⟩ := kk
      refine r_ia dX3_fit_50 (shl1_2 q5) q6 ?_
      refine r_p (pc2 := 52) dX3_fit_51 rfl rfl ?_
      refine r_get dX3_fit_52 fkX3_44 q5 rfl ?_
      refine r_p (pc2 := 57) dX3_fit_55 rfl rfl ?_
      refine r_ia dX3_fit_57 (shl1_3 q5) q6 ?_
      refine r_p (pc2 := 59) dX3_fit_58 rfl rfl ?_
      refine r_get dX3_fit_59 fkX3_41 q5 rfl ?_
      refine r_p (pc2 := 64) dX3_fit_62 rfl rfl ?_
      refine r_ia dX3_fit_64 (shl1_2 q5) q6 ?_
      refine r_p (pc2 := 66) dX3_fit_65 rfl rfl ?_
      refine r_ci (x := 1) dX3_fit_66 rfl ?_
      refine r_p (pc2 := 68) dX3_fit_67 rfl rfl ?_
      refine r_cs (d1 := 1) dX3_fit_68 csX3_29 rfl rfl (Nat.le_of_ble_eq_true rfl) (Nat.le_of_ble_eq_true rfl) (Nat.le_of_ble_eq_true rfl) (c_x_span (T.2.2.1 (l1 + 2) (v6 : Int32).toNatClampNeg) (((T.2.2.1 (l1 + 3) (v6 : Int32).toNatClampNeg) - (T.2.2.1 (l1 + 2) (v6 : Int32).toNatClampNeg)) + 1)) ?_
      obtain ⟨q7, kk⟩ := kk
      obtain ⟨q8, kk⟩ := kk
      refine r_cv (d1 := 1) dX3_fit_71 cvX3_33 rfl rfl q8 rfl (Nat.le_of_ble_eq_true rfl) (Nat.le_of_ble_eq_true rfl) (Nat.le_of_ble_eq_true rfl) (c_ki_giveOneLess l0 3 (x_x_span T (T.2.2.1 (l1 + 2) (v6 : Int32).toNatClampNeg) (((T.2.2.1 (l1 + 3) (v6 : Int32).toNatClampNeg) - (T.2.2.1 (l1 + 2) (v6 : Int32).toNatClampNeg)) + 1)) q7) ?_
      refine r_nT (R := rV) rfl kk (fun T2 kk => ?_)
      refine r_inc (L2 := [some (.ref l0), some (.ref l1), some (.int l2), some (.int l3), some (.long l4), none, some (.int (v6 + 1))]) (y := 1) dX3_fit_74 rfl rfl rfl ?_
      refine r_go dX3_fit_77 rfl ?_
      show tR _ _ _ _ [some (.ref l0), some (.ref l1), some (.int l2), some (.int l3), some (.long l4), none, some (.int (v6 + 1))] _ _ _ _
      exact (ih (v6 + 1) T2 kk)
def x_ki_fit (T : St) (a : Nat) (p0 : Nat) (p1 : Int32) (p2 : Int32) : St := jn (fun (k1 : Int64) => x_ki_fit_33 a p0 p1 p2 k1 (fun (w1_6 : Int32) (T201 : St) => T201) 1000 0 (x_ki_giveOneLess (x_ki_giveOneLess (x_ki_giveAll T a p0 p1) a 0 k1) a 1 k1)) (x_x_span (x_ki_giveAll T a p0 p1) p2 (60 - p2))
def ok_ki_fit (T : St) (a : Nat) (p0 : Nat) (p1 : Int32) (p2 : Int32) : Prop := (ok_ki_giveAll T a p0 p1) ∧ (sh a = .inr 3) ∧ jn (fun (k1 : Int64) => (ok_ki_giveOneLess (x_ki_giveAll T a p0 p1) a 0 k1) ∧ (ok_ki_giveOneLess (x_ki_giveOneLess (x_ki_giveAll T a p0 p1) a 0 k1) a 1 k1) ∧ ok_ki_fit_33 a p0 p1 p2 k1 (fun (w1_6 : Int32) (T201 : St) => True) 1000 0 (x_ki_giveOneLess (x_ki_giveOneLess (x_ki_giveAll T a p0 p1) a 0 k1) a 1 k1)) (x_x_span (x_ki_giveAll T a p0 p1) p2 (60 - p2))
theorem c_ki_fit {X : Nat × (Nat → Int32)} {T : St} (a : Nat) (p0 : Nat) (p1 : Int32) (p2 : Int32) (kk : ok_ki_fit T a p0 p1 p2) : tC X 3 mX3_fit [.ref a, .ref p0, .int p1, .int p2] T none (x_ki_fit T a p0 p1 p2) := by
  unfold ok_ki_fit at kk
  refine tC_orV (L := [some (.ref a), some (.ref p0), some (.int p1), some (.int p2), none, none, none]) (x_ki_fit T a p0 p1 p2) rfl ?_
  unfold x_ki_fit
  refine r_p (pc2 := 1) dX3_fit_0 rfl rfl ?_
  refine r_p (pc2 := 2) dX3_fit_1 rfl rfl ?_
  refine r_p (pc2 := 3) dX3_fit_2 rfl rfl ?_
  obtain ⟨q1, kk⟩ := kk
  obtain ⟨q2, kk⟩ := kk
  refine r_cv (d1 := 2) dX3_fit_3 cvX3_25 rfl rfl q2 rfl (Nat.le_of_ble_eq_true rfl) (Nat.le_of_ble_eq_true rfl) (Nat.le_of_ble_eq_true rfl) (c_ki_giveAll a p0 p1 q1) ?_
  refine r_p (pc2 := 7) dX3_fit_6 rfl rfl ?_
  refine r_cb (x := 60) dX3_fit_7 rfl ?_
  refine r_p (pc2 := 10) dX3_fit_9 rfl rfl ?_
  refine r_p (pc2 := 11) dX3_fit_10 rfl rfl ?_
  refine r_cs (d1 := 1) dX3_fit_11 csX3_29 rfl rfl (Nat.le_of_ble_eq_true rfl) (Nat.le_of_ble_eq_true rfl) (Nat.le_of_ble_eq_true rfl) (c_x_span p2 (60 - p2)) ?_
  refine r_nJ (R := rV) rfl kk (fun k1 kk => ?_)
  refine r_p (pc2 := 16) (L2 := [some (.ref a), some (.ref p0), some (.int p1), some (.int p2), some (.long k1), none, none]) dX3_fit_14 rfl rfl ?_
  refine r_p (pc2 := 17) dX3_fit_16 rfl rfl ?_
  refine r_ci (x := 0) dX3_fit_17 rfl ?_
  refine r_p (pc2 := 20) dX3_fit_18 rfl rfl ?_
  obtain ⟨q3, kk⟩ := kk
  refine r_cv (d1 := 1) dX3_fit_20 cvX3_33 rfl rfl q2 rfl (Nat.le_of_ble_eq_true rfl) (Nat.le_of_ble_eq_true rfl) (Nat.le_of_ble_eq_true rfl) (c_ki_giveOneLess a 0 k1 q3) ?_
  refine r_p (pc2 := 24) dX3_fit_23 rfl rfl ?_
  refine r_ci (x := 1) dX3_fit_24 rfl ?_
  refine r_p (pc2 := 27) dX3_fit_25 rfl rfl ?_
  obtain ⟨q4, kk⟩ := kk
  refine r_cv (d1 := 1) dX3_fit_27 cvX3_33 rfl rfl q2 rfl (Nat.le_of_ble_eq_true rfl) (Nat.le_of_ble_eq_true rfl) (Nat.le_of_ble_eq_true rfl) (c_ki_giveOneLess a 1 k1 q4) ?_
  refine r_ci (x := 0) dX3_fit_30 rfl ?_
  refine r_p (pc2 := 33) (L2 := [some (.ref a), some (.ref p0), some (.int p1), some (.int p2), some (.long k1), none, some (.int 0)]) dX3_fit_31 rfl rfl ?_
  show tR _ _ _ _ [some (.ref a), some (.ref p0), some (.int p1), some (.int p2), some (.long k1), none, some (.int 0)] _ _ _ _
  refine (c_ki_fit_33 a p0 p1 p2 k1 (fun w1_6 T201 kk => ?_) 1000 0 (x_ki_giveOneLess (x_ki_giveOneLess (x_ki_giveAll T a p0 p1) a 0 k1) a 1 k1) kk)
  · skip
    exact r_qV dX3_fit_80 rfl rfl
def x_pl_settle_2 (l1 : Int32) (K : Int32 → St → St) : Nat → Int32 → St → St
  | 0, _, T => T
  | f + 1, v2, T => if (T.1 (T.2.1 2) 4) ≤ v2 then (K v2 T) else (if ((l1 >>> (v2 &&& 31)) &&& 1) = 0 then (x_pl_settle_2 l1 K f (v2 + 1) T) else (x_pl_settle_2 l1 K f (v2 + 1) (x_pl_settleDish T v2)))
def ok_pl_settle_2 (l1 : Int32) (Kk : Int32 → St → Prop) : Nat → Int32 → St → Prop
  | 0, _, _ => False
  | f + 1, v2, T => (sh (T.2.1 2) = .inr 1) ∧ (((T.1 (T.2.1 2) 4) ≤ v2 → Kk v2 T) ∧ (¬ (T.1 (T.2.1 2) 4) ≤ v2 → ((((l1 >>> (v2 &&& 31)) &&& 1) = 0 → ok_pl_settle_2 l1 Kk f (v2 + 1) T) ∧ (¬ ((l1 >>> (v2 &&& 31)) &&& 1) = 0 → (ok_pl_settleDish T v2) ∧ ok_pl_settle_2 l1 Kk f (v2 + 1) (x_pl_settleDish T v2)))))
theorem c_pl_settle_2 {X : Nat × (Nat → Int32)} (l1 : Int32) {K : Int32 → St → St} {Kk : Int32 → St → Prop} (hk : ∀ (v2 : Int32) (T : St), Kk v2 T → tR X 2 mX5_settle 32 [some (.ref (80 : Nat)), some (.int l1), some (.int v2)] [] T (rV (K v2 T)).1 ((rV (K v2 T)).2)) : ∀ (f : Nat) (v2 : Int32) (T : St), ok_pl_settle_2 l1 Kk f v2 T → tR X 2 mX5_settle 2 [some (.ref (80 : Nat)), some (.int l1), some (.int v2)] [] T (rV (x_pl_settle_2 l1 K f v2 T)).1 ((rV (x_pl_settle_2 l1 K f v2 T)).2) := by
  intro f
  induction f with
  | zero => intro v2 T kk; exact kk.elim
  | succ f ih =>
    intro v2 T kk
    rw [ok_pl_settle_2] at kk
    rw [x_pl_settle_2]
    refine r_p (pc2 := 3) dX5_settle_2 rfl rfl ?_
    refine r_p (pc2 := 4) dX5_settle_3 rfl rfl ?_
    refine r_get dX5_settle_4 fkX5_62 rfl rfl ?_
    obtain ⟨q1, kk⟩ := kk
    refine r_get dX5_settle_7 fkX5_78 q1 rfl ?_
    refine r_cge dX5_settle_10 rfl (fun c10_1 => ?_) (fun c10_1 => ?_)
    · refine r_ip (R := rV) c10_1 ?_
      have kk := kk.1 c10_1
      show tR _ _ _ _ [some (.ref (80 : Nat)), some (.int l1), some (.int v2)] _ _ _ _
      exact (hk v2 T kk)
    · refine r_in (R := rV) c10_1 ?_
      have kk := kk.2 c10_1
      refine r_p (pc2 := 14) dX5_settle_13 rfl rfl ?_
      refine r_p (pc2 := 15) dX5_settle_14 rfl rfl ?_
      refine r_p (pc2 := 16) dX5_settle_15 rfl rfl ?_
      refine r_ci (x := 1) dX5_settle_16 rfl ?_
      refine r_p (pc2 := 18) dX5_settle_17 rfl rfl ?_
      refine r_ieq dX5_settle_18 rfl (fun c18_2 => ?_) (fun c18_2 => ?_)
      · refine r_ip (R := rV) c18_2 ?_
        have kk := kk.1 c18_2
        refine r_inc (L2 := [some (.ref (80 : Nat)), some (.int l1), some (.int (v2 + 1))]) (y := 1) dX5_settle_26 rfl rfl rfl ?_
        refine r_go dX5_settle_29 rfl ?_
        show tR _ _ _ _ [some (.ref (80 : Nat)), some (.int l1), some (.int (v2 + 1))] _ _ _ _
        exact (ih (v2 + 1) T kk)
      · refine r_in (R := rV) c18_2 ?_
        have kk := kk.2 c18_2
        refine r_p (pc2 := 22) dX5_settle_21 rfl rfl ?_
        refine r_p (pc2 := 23) dX5_settle_22 rfl rfl ?_
        obtain ⟨q2, kk⟩ := kk
        refine r_cv (d1 := 2) dX5_settle_23 cvX5_139 rfl rfl rfl rfl (Nat.le_of_ble_eq_true rfl) (Nat.le_of_ble_eq_true rfl) (Nat.le_of_ble_eq_true rfl) (c_pl_settleDish v2 q2) ?_
        refine r_inc (L2 := [some (.ref (80 : Nat)), some (.int l1), some (.int (v2 + 1))]) (y := 1) dX5_settle_26 rfl rfl rfl ?_
        refine r_go dX5_settle_29 rfl ?_
        show tR _ _ _ _ [some (.ref (80 : Nat)), some (.int l1), some (.int (v2 + 1))] _ _ _ _
        exact (ih (v2 + 1) (x_pl_settleDish T v2) kk)
def x_pl_settle (T : St) (p0 : Int32) : St := x_pl_settle_2 p0 (fun (w1_2 : Int32) (T201 : St) => T201) 1000 0 T
def ok_pl_settle (T : St) (p0 : Int32) : Prop := ok_pl_settle_2 p0 (fun (w1_2 : Int32) (T201 : St) => True) 1000 0 T
theorem c_pl_settle {X : Nat × (Nat → Int32)} {T : St} (p0 : Int32) (kk : ok_pl_settle T p0) : tC X 3 mX5_settle [.ref (80 : Nat), .int p0] T none (x_pl_settle T p0) := by
  unfold ok_pl_settle at kk
  refine tC_orV (L := [some (.ref (80 : Nat)), some (.int p0), none]) (x_pl_settle T p0) rfl ?_
  unfold x_pl_settle
  refine r_ci (x := 0) dX5_settle_0 rfl ?_
  refine r_p (pc2 := 2) (L2 := [some (.ref (80 : Nat)), some (.int p0), some (.int 0)]) dX5_settle_1 rfl rfl ?_
  show tR _ _ _ _ [some (.ref (80 : Nat)), some (.int p0), some (.int 0)] _ _ _ _
  refine (c_pl_settle_2 p0 (fun w1_2 T201 kk => ?_) 1000 0 T kk)
  · skip
    exact r_qV dX5_settle_32 rfl rfl
def x_pl_seatAll_7 (l1 : Int32) (K : Int32 → St → Int32 × St) : Nat → Int32 → St → Int32 × St
  | 0, _, T => (0, T)
  | f + 1, v2, T => if (T.1 (T.2.1 2) 4) ≤ v2 then (K v2 T) else (if 4 ≤ (T.1 80 12) then (K v2 T) else (if ((l1 >>> (v2 &&& 31)) &&& 1) = 0 then (x_pl_seatAll_7 l1 K f (v2 + 1) T) else (if (T.2.2.1 83 (v2 : Int32).toNatClampNeg) = 1000000 then (0, T) else (jn (fun (T1 : St) => x_pl_seatAll_7 l1 K f (v2 + 1) (sF T1 80 12 ((T1.1 80 12) + 1))) (sA (sA T 94 (T.1 80 12 : Int32).toNatClampNeg v2) (100 + (0 : Int32).toNatClampNeg) ((sA T 94 (T.1 80 12 : Int32).toNatClampNeg v2).1 80 12 : Int32).toNatClampNeg (x_pl_choicesThatCan (sA T 94 (T.1 80 12 : Int32).toNatClampNeg v2) v2))))))
def ok_pl_seatAll_7 (l1 : Int32) (Kk : Int32 → St → Prop) : Nat → Int32 → St → Prop
  | 0, _, _ => False
  | f + 1, v2, T => (sh (T.2.1 2) = .inr 1) ∧ (((T.1 (T.2.1 2) 4) ≤ v2 → Kk v2 T) ∧ (¬ (T.1 (T.2.1 2) 4) ≤ v2 → ((4 ≤ (T.1 80 12) → Kk v2 T) ∧ (¬ 4 ≤ (T.1 80 12) → ((((l1 >>> (v2 &&& 31)) &&& 1) = 0 → ok_pl_seatAll_7 l1 Kk f (v2 + 1) T) ∧ (¬ ((l1 >>> (v2 &&& 31)) &&& 1) = 0 → (vp_in v2 8) ∧ (¬ (T.2.2.1 83 (v2 : Int32).toNatClampNeg) = 1000000 → (vp_in (T.1 80 12) 4) ∧ (ok_pl_choicesThatCan (sA T 94 (T.1 80 12 : Int32).toNatClampNeg v2) v2) ∧ (vp_in ((sA T 94 (T.1 80 12 : Int32).toNatClampNeg v2).1 80 12) 4) ∧ jn (fun (T1 : St) => ok_pl_seatAll_7 l1 Kk f (v2 + 1) (sF T1 80 12 ((T1.1 80 12) + 1))) (sA (sA T 94 (T.1 80 12 : Int32).toNatClampNeg v2) (100 + (0 : Int32).toNatClampNeg) ((sA T 94 (T.1 80 12 : Int32).toNatClampNeg v2).1 80 12 : Int32).toNatClampNeg (x_pl_choicesThatCan (sA T 94 (T.1 80 12 : Int32).toNatClampNeg v2) v2)))))))))
theorem c_pl_seatAll_7 {X : Nat × (Nat → Int32)} (l1 : Int32) {K : Int32 → St → Int32 × St} {Kk : Int32 → St → Prop} (hk : ∀ (v2 : Int32) (T : St), Kk v2 T → tR X 2 mX5_seatAll 89 [some (.ref (80 : Nat)), some (.int l1), some (.int v2), none] [] T (rI (K v2 T)).1 ((rI (K v2 T)).2)) : ∀ (f : Nat) (v2 : Int32) (T : St), ok_pl_seatAll_7 l1 Kk f v2 T → tR X 2 mX5_seatAll 7 [some (.ref (80 : Nat)), some (.int l1), some (.int v2), none] [] T (rI (x_pl_seatAll_7 l1 K f v2 T)).1 ((rI (x_pl_seatAll_7 l1 K f v2 T)).2) := by
  intro f
  induction f with
  | zero => intro v2 T kk; exact kk.elim
  | succ f ih =>
    intro v2 T kk
    rw [ok_pl_seatAll_7] at kk
    rw [x_pl_seatAll_7]
    refine r_p (pc2 := 8) dX5_seatAll_7 rfl rfl ?_
    refine r_p (pc2 := 9) dX5_seatAll_8 rfl rfl ?_
    refine r_get dX5_seatAll_9 fkX5_62 rfl rfl ?_
    obtain ⟨q1, kk⟩ := kk
    refine r_get dX5_seatAll_12 fkX5_78 q1 rfl ?_
    refine r_cge dX5_seatAll_15 rfl (fun c15_1 => ?_) (fun c15_1 => ?_)
    · refine r_ip (R := rI) c15_1 ?_
      have kk := kk.1 c15_1
      show tR _ _ _ _ [some (.ref (80 : Nat)), some (.int l1), some (.int v2), none] _ _ _ _
      exact (hk v2 T kk)
    · refine r_in (R := rI) c15_1 ?_
      have kk := kk.2 c15_1
      refine r_p (pc2 := 19) dX5_seatAll_18 rfl rfl ?_
      refine r_get dX5_seatAll_19 fkX5_172 rfl rfl ?_
      refine r_ci (x := 4) dX5_seatAll_22 rfl ?_
      refine r_cge dX5_seatAll_23 rfl (fun c23_2 => ?_) (fun c23_2 => ?_)
      · refine r_ip (R := rI) c23_2 ?_
        have kk := kk.1 c23_2
        show tR _ _ _ _ [some (.ref (80 : Nat)), some (.int l1), some (.int v2), none] _ _ _ _
        exact (hk v2 T kk)
      · refine r_in (R := rI) c23_2 ?_
        have kk := kk.2 c23_2
        refine r_p (pc2 := 27) dX5_seatAll_26 rfl rfl ?_
        refine r_p (pc2 := 28) dX5_seatAll_27 rfl rfl ?_
        refine r_p (pc2 := 29) dX5_seatAll_28 rfl rfl ?_
        refine r_ci (x := 1) dX5_seatAll_29 rfl ?_
        refine r_p (pc2 := 31) dX5_seatAll_30 rfl rfl ?_
        refine r_ieq dX5_seatAll_31 rfl (fun c31_3 => ?_) (fun c31_3 => ?_)
        · refine r_ip (R := rI) c31_3 ?_
          have kk := kk.1 c31_3
          refine r_inc (L2 := [some (.ref (80 : Nat)), some (.int l1), some (.int (v2 + 1)), none]) (y := 1) dX5_seatAll_83 rfl rfl rfl ?_
          refine r_go dX5_seatAll_86 rfl ?_
          show tR _ _ _ _ [some (.ref (80 : Nat)), some (.int l1), some (.int (v2 + 1)), none] _ _ _ _
          exact (ih (v2 + 1) T kk)
        · refine r_in (R := rI) c31_3 ?_
          have kk := kk.2 c31_3
          refine r_p (pc2 := 35) dX5_seatAll_34 rfl rfl ?_
          refine r_get dX5_seatAll_35 fkX5_21 rfl rfl ?_
          refine r_p (pc2 := 39) dX5_seatAll_38 rfl rfl ?_
          obtain ⟨q2, kk⟩ := kk
          refine r_ia dX5_seatAll_39 rfl q2 ?_
          refine r_k dX5_seatAll_40 kkX5_151 ?_
          refine r_cne dX5_seatAll_42 rfl (fun c42_4 => ?_) (fun c42_4 => ?_)
          · refine r_in (R := rI) c42_4 ?_
            have kk := kk c42_4
            refine r_p (pc2 := 48) dX5_seatAll_47 rfl rfl ?_
            refine r_get dX5_seatAll_48 fkX5_35 rfl rfl ?_
            refine r_p (pc2 := 52) dX5_seatAll_51 rfl rfl ?_
            refine r_get dX5_seatAll_52 fkX5_172 rfl rfl ?_
            refine r_p (pc2 := 56) dX5_seatAll_55 rfl rfl ?_
            obtain ⟨q3, kk⟩ := kk
            refine r_ias dX5_seatAll_56 rfl q3 ?_
            refine r_p (pc2 := 58) dX5_seatAll_57 rfl rfl ?_
            refine r_get dX5_seatAll_58 fkX5_52 rfl rfl ?_
            refine r_ci (x := 0) dX5_seatAll_61 rfl ?_
            refine r_aa dX5_seatAll_62 rfl (by decide) (in_c (by decide)) (rf99 (in_c (by decide))) ?_
            refine r_p (pc2 := 64) dX5_seatAll_63 rfl rfl ?_
            refine r_get dX5_seatAll_64 fkX5_172 rfl rfl ?_
            refine r_p (pc2 := 68) dX5_seatAll_67 rfl rfl ?_
            refine r_p (pc2 := 69) dX5_seatAll_68 rfl rfl ?_
            obtain ⟨q4, kk⟩ := kk
            refine r_cv (d1 := 1) dX5_seatAll_69 cvX5_175 rfl rfl rfl rfl (Nat.le_of_ble_eq_true rfl) (Nat.le_of_ble_eq_true rfl) (Nat.le_of_ble_eq_true rfl) (c_pl_choicesThatCan v2 q4) ?_
            obtain ⟨q5, kk⟩ := kk
            refine r_ias dX5_seatAll_72 (shr99 (in_c (by decide))) q5 ?_
            refine r_nT (R := rI) rfl kk (fun T1 kk => ?_)
            refine r_p (pc2 := 74) dX5_seatAll_73 rfl rfl ?_
            refine r_p (pc2 := 75) dX5_seatAll_74 rfl rfl ?_
            refine r_get dX5_seatAll_75 fkX5_172 rfl rfl ?_
            refine r_ci (x := 1) dX5_seatAll_78 rfl ?_
            refine r_p (pc2 := 80) dX5_seatAll_79 rfl rfl ?_
            refine r_put dX5_seatAll_80 fkX5_172 rfl rfl rfl (Nat.le_of_ble_eq_true rfl) rfl rfl ?_
            refine r_inc (L2 := [some (.ref (80 : Nat)), some (.int l1), some (.int (v2 + 1)), none]) (y := 1) dX5_seatAll_83 rfl rfl rfl ?_
            refine r_go dX5_seatAll_86 rfl ?_
            show tR _ _ _ _ [some (.ref (80 : Nat)), some (.int l1), some (.int (v2 + 1)), none] _ _ _ _
            exact (ih (v2 + 1) (sF T1 80 12 ((T1.1 80 12) + 1)) kk)
          · refine r_ip (R := rI) c42_4 ?_
            refine r_ci (x := 0) dX5_seatAll_45 rfl ?_
            exact r_qI dX5_seatAll_46 rfl rfl rfl rfl
def x_pl_seatAll_119 (l1 : Int32) (K : Int32 → St → Int32 × St) : Nat → Int32 → St → Int32 × St
  | 0, _, T => (0, T)
  | f + 1, v2, T => if v2 < 0 then (K v2 T) else (jn (fun (r3 : Nat) => if (x_ta_hasRoom T (507 + 5 * (0 : Int32).toNatClampNeg) r3) = 0 then (0, T) else (jn (fun (T4 : St) => jn (fun (T5 : St) => x_pl_seatAll_119 l1 K f (v2 + (-1)) T5) (sA T4 97 (v2 : Int32).toNatClampNeg ((T4.2.2.1 97 (v2 + 1 : Int32).toNatClampNeg) + (T4.2.2.1 83 (T4.2.2.1 94 (v2 : Int32).toNatClampNeg : Int32).toNatClampNeg)))) (x_ta_add T (507 + 5 * (0 : Int32).toNatClampNeg) (507 + 5 * (0 : Int32).toNatClampNeg) r3 (T.2.1 3)))) (85 + (T.2.2.1 94 (v2 : Int32).toNatClampNeg : Int32).toNatClampNeg))
def ok_pl_seatAll_119 (l1 : Int32) (Kk : Int32 → St → Prop) : Nat → Int32 → St → Prop
  | 0, _, _ => False
  | f + 1, v2, T => ((v2 < 0 → Kk v2 T) ∧ (¬ v2 < 0 → (vp_in v2 4) ∧ (vp_in (T.2.2.1 94 (v2 : Int32).toNatClampNeg) 8) ∧ jn (fun (r3 : Nat) => (ok_ta_hasRoom T (507 + 5 * (0 : Int32).toNatClampNeg) r3) ∧ (¬ (x_ta_hasRoom T (507 + 5 * (0 : Int32).toNatClampNeg) r3) = 0 → (ok_ta_add T (507 + 5 * (0 : Int32).toNatClampNeg) (507 + 5 * (0 : Int32).toNatClampNeg) r3 (T.2.1 3)) ∧ jn (fun (T4 : St) => (vp_in (v2 + 1) 5) ∧ (vp_in (T4.2.2.1 94 (v2 : Int32).toNatClampNeg) 8) ∧ (vp_in v2 5) ∧ jn (fun (T5 : St) => ok_pl_seatAll_119 l1 Kk f (v2 + (-1)) T5) (sA T4 97 (v2 : Int32).toNatClampNeg ((T4.2.2.1 97 (v2 + 1 : Int32).toNatClampNeg) + (T4.2.2.1 83 (T4.2.2.1 94 (v2 : Int32).toNatClampNeg : Int32).toNatClampNeg)))) (x_ta_add T (507 + 5 * (0 : Int32).toNatClampNeg) (507 + 5 * (0 : Int32).toNatClampNeg) r3 (T.2.1 3)))) (85 + (T.2.2.1 94 (v2 : Int32).toNatClampNeg : Int32).toNatClampNeg)))
theorem c_pl_seatAll_119 {X : Nat × (Nat → Int32)} (l1 : Int32) {K : Int32 → St → Int32 × St} {Kk : Int32 → St → Prop} (hk : ∀ (v2 : Int32) (T : St), Kk v2 T → tR X 2 mX5_seatAll 202 [some (.ref (80 : Nat)), some (.int l1), some (.int v2), none] [] T (rI (K v2 T)).1 ((rI (K v2 T)).2)) : ∀ (f : Nat) (v2 : Int32) (T : St), ok_pl_seatAll_119 l1 Kk f v2 T → tR X 2 mX5_seatAll 119 [some (.ref (80 : Nat)), some (.int l1), some (.int v2), none] [] T (rI (x_pl_seatAll_119 l1 K f v2 T)).1 ((rI (x_pl_seatAll_119 l1 K f v2 T)).2) := by
  intro f
  induction f with
  | zero => intro v2 T kk; exact kk.elim
  | succ f ih =>
    intro v2 T kk
    rw [ok_pl_seatAll_119] at kk
    rw [x_pl_seatAll_119]
    refine r_p (pc2 := 120) dX5_seatAll_119 rfl rfl ?_
    refine r_ilt dX5_seatAll_120 rfl (fun c120_5 => ?_) (fun c120_5 => ?_)
    · refine r_ip (R := rI) c120_5 ?_
      have kk := kk.1 c120_5
      show tR _ _ _ _ [some (.ref (80 : Nat)), some (.int l1), some (.int v2), none] _ _ _ _
      exact (hk v2 T kk)
    · refine r_in (R := rI) c120_5 ?_
      have kk := kk.2 c120_5
      refine r_p (pc2 := 124) dX5_seatAll_123 rfl rfl ?_
      refine r_get dX5_seatAll_124 fkX5_26 rfl rfl ?_
      refine r_p (pc2 := 128) dX5_seatAll_127 rfl rfl ?_
      refine r_get dX5_seatAll_128 fkX5_35 rfl rfl ?_
      refine r_p (pc2 := 132) dX5_seatAll_131 rfl rfl ?_
      obtain ⟨q8, kk⟩ := kk
      refine r_ia dX5_seatAll_132 rfl q8 ?_
      obtain ⟨q9, kk⟩ := kk
      refine r_aa dX5_seatAll_133 rfl (by decide) q9 (rf84 q9) ?_
      refine r_nR (R := rI) rfl kk (fun r3 kk => ?_)
      refine r_p (pc2 := 135) (L2 := [some (.ref (80 : Nat)), some (.int l1), some (.int v2), some (.ref r3)]) dX5_seatAll_134 rfl rfl ?_
      refine r_p (pc2 := 136) dX5_seatAll_135 rfl rfl ?_
      refine r_get dX5_seatAll_136 fkX5_31 rfl rfl ?_
      refine r_ci (x := 0) dX5_seatAll_139 rfl ?_
      refine r_aa dX5_seatAll_140 rfl (by decide) (in_c (by decide)) (rf93 (in_c (by decide))) ?_
      refine r_p (pc2 := 142) dX5_seatAll_141 rfl rfl ?_
      obtain ⟨q10, kk⟩ := kk
      refine r_cv (d1 := 1) dX5_seatAll_142 cvX5_114 rfl rfl (shr93 (in_c (by decide))) rfl (Nat.le_of_ble_eq_true rfl) (Nat.le_of_ble_eq_true rfl) (Nat.le_of_ble_eq_true rfl) (c_ta_hasRoom (507 + 5 * (0 : Int32).toNatClampNeg) r3 q10) ?_
      refine r_ine dX5_seatAll_145 rfl (fun c145_6 => ?_) (fun c145_6 => ?_)
      · refine r_in (R := rI) c145_6 ?_
        have kk := kk c145_6
        refine r_p (pc2 := 151) dX5_seatAll_150 rfl rfl ?_
        refine r_get dX5_seatAll_151 fkX5_31 rfl rfl ?_
        refine r_ci (x := 0) dX5_seatAll_154 rfl ?_
        refine r_aa dX5_seatAll_155 rfl (by decide) (in_c (by decide)) (rf93 (in_c (by decide))) ?_
        refine r_p (pc2 := 157) dX5_seatAll_156 rfl rfl ?_
        refine r_get dX5_seatAll_157 fkX5_31 rfl rfl ?_
        refine r_ci (x := 0) dX5_seatAll_160 rfl ?_
        refine r_aa dX5_seatAll_161 rfl (by decide) (in_c (by decide)) (rf93 (in_c (by decide))) ?_
        refine r_p (pc2 := 163) dX5_seatAll_162 rfl rfl ?_
        refine r_p (pc2 := 164) dX5_seatAll_163 rfl rfl ?_
        refine r_get dX5_seatAll_164 fkX5_69 rfl rfl ?_
        obtain ⟨q11, kk⟩ := kk
        refine r_cv (d1 := 2) dX5_seatAll_167 cvX5_179 rfl rfl (shr93 (in_c (by decide))) rfl (Nat.le_of_ble_eq_true rfl) (Nat.le_of_ble_eq_true rfl) (Nat.le_of_ble_eq_true rfl) (c_ta_add (507 + 5 * (0 : Int32).toNatClampNeg) (507 + 5 * (0 : Int32).toNatClampNeg) r3 (T.2.1 3) q11) ?_
        refine r_nT (R := rI) rfl kk (fun T4 kk => ?_)
        refine r_p (pc2 := 171) dX5_seatAll_170 rfl rfl ?_
        refine r_get dX5_seatAll_171 fkX5_44 rfl rfl ?_
        refine r_p (pc2 := 175) dX5_seatAll_174 rfl rfl ?_
        refine r_p (pc2 := 176) dX5_seatAll_175 rfl rfl ?_
        refine r_get dX5_seatAll_176 fkX5_44 rfl rfl ?_
        refine r_p (pc2 := 180) dX5_seatAll_179 rfl rfl ?_
        refine r_ci (x := 1) dX5_seatAll_180 rfl ?_
        refine r_p (pc2 := 182) dX5_seatAll_181 rfl rfl ?_
        obtain ⟨q12, kk⟩ := kk
        refine r_ia dX5_seatAll_182 rfl q12 ?_
        refine r_p (pc2 := 184) dX5_seatAll_183 rfl rfl ?_
        refine r_get dX5_seatAll_184 fkX5_21 rfl rfl ?_
        refine r_p (pc2 := 188) dX5_seatAll_187 rfl rfl ?_
        refine r_get dX5_seatAll_188 fkX5_35 rfl rfl ?_
        refine r_p (pc2 := 192) dX5_seatAll_191 rfl rfl ?_
        refine r_ia dX5_seatAll_192 rfl q8 ?_
        obtain ⟨q13, kk⟩ := kk
        refine r_ia dX5_seatAll_193 rfl q13 ?_
        refine r_p (pc2 := 195) dX5_seatAll_194 rfl rfl ?_
        obtain ⟨q14, kk⟩ := kk
        refine r_ias dX5_seatAll_195 rfl q14 ?_
        refine r_nT (R := rI) rfl kk (fun T5 kk => ?_)
        refine r_inc (L2 := [some (.ref (80 : Nat)), some (.int l1), some (.int (v2 + (-1))), some (.ref r3)]) (y := -1) dX5_seatAll_196 rfl rfl rfl ?_
        refine r_go dX5_seatAll_199 rfl ?_
        show tR _ _ _ _ [some (.ref (80 : Nat)), some (.int l1), some (.int (v2 + (-1))), some (.ref r3)] _ _ _ _
        exact r_le (le_s (le_s (le_s (le_n (le_0))))) (ih (v2 + (-1)) T5 kk)
      · refine r_ip (R := rI) c145_6 ?_
        refine r_ci (x := 0) dX5_seatAll_148 rfl ?_
        exact r_qI dX5_seatAll_149 rfl rfl rfl rfl
def x_pl_seatAll (T : St) (p0 : Int32) : Int32 × St := x_pl_seatAll_7 p0 (fun (w1_2 : Int32) (T201 : St) => jn (fun (T2 : St) => x_pl_seatAll_119 p0 (fun (w2_2 : Int32) (T202 : St) => (1, T202)) 1000 ((T2.1 80 12) - 1) T2) (x_ta_open (sA T201 97 (T201.1 80 12 : Int32).toNatClampNeg 0) (507 + 5 * (0 : Int32).toNatClampNeg) ((sA T201 97 (T201.1 80 12 : Int32).toNatClampNeg 0).2.1 3))) 1000 0 (sF T 80 12 0)
def ok_pl_seatAll (T : St) (p0 : Int32) : Prop := ok_pl_seatAll_7 p0 (fun (w1_2 : Int32) (T201 : St) => (vp_in (T201.1 80 12) 5) ∧ (ok_ta_open (sA T201 97 (T201.1 80 12 : Int32).toNatClampNeg 0) (507 + 5 * (0 : Int32).toNatClampNeg) ((sA T201 97 (T201.1 80 12 : Int32).toNatClampNeg 0).2.1 3)) ∧ jn (fun (T2 : St) => ok_pl_seatAll_119 p0 (fun (w2_2 : Int32) (T202 : St) => True) 1000 ((T2.1 80 12) - 1) T2) (x_ta_open (sA T201 97 (T201.1 80 12 : Int32).toNatClampNeg 0) (507 + 5 * (0 : Int32).toNatClampNeg) ((sA T201 97 (T201.1 80 12 : Int32).toNatClampNeg 0).2.1 3))) 1000 0 (sF T 80 12 0)
theorem c_pl_seatAll {X : Nat × (Nat → Int32)} {T : St} (p0 : Int32) (kk : ok_pl_seatAll T p0) : tC X 3 mX5_seatAll [.ref (80 : Nat), .int p0] T (some (.int (x_pl_seatAll T p0).1)) ((x_pl_seatAll T p0).2) := by
  unfold ok_pl_seatAll at kk
  refine tC_orI (L := [some (.ref (80 : Nat)), some (.int p0), none, none]) (x_pl_seatAll T p0) rfl ?_
  unfold x_pl_seatAll
  refine r_p (pc2 := 1) dX5_seatAll_0 rfl rfl ?_
  refine r_ci (x := 0) dX5_seatAll_1 rfl ?_
  refine r_put dX5_seatAll_2 fkX5_172 rfl rfl rfl (Nat.le_of_ble_eq_true rfl) rfl rfl ?_
  refine r_ci (x := 0) dX5_seatAll_5 rfl ?_
  refine r_p (pc2 := 7) (L2 := [some (.ref (80 : Nat)), some (.int p0), some (.int 0), none]) dX5_seatAll_6 rfl rfl ?_
  show tR _ _ _ _ [some (.ref (80 : Nat)), some (.int p0), some (.int 0), none] _ _ _ _
  refine (c_pl_seatAll_7 p0 (fun w1_2 T201 kk => ?_) 1000 0 (sF T 80 12 0) kk)
  · skip
    refine r_p (pc2 := 90) dX5_seatAll_89 rfl rfl ?_
    refine r_get dX5_seatAll_90 fkX5_44 rfl rfl ?_
    refine r_p (pc2 := 94) dX5_seatAll_93 rfl rfl ?_
    refine r_get dX5_seatAll_94 fkX5_172 rfl rfl ?_
    refine r_ci (x := 0) dX5_seatAll_97 rfl ?_
    obtain ⟨q6, kk⟩ := kk
    refine r_ias dX5_seatAll_98 rfl q6 ?_
    refine r_p (pc2 := 100) dX5_seatAll_99 rfl rfl ?_
    refine r_get dX5_seatAll_100 fkX5_31 rfl rfl ?_
    refine r_ci (x := 0) dX5_seatAll_103 rfl ?_
    refine r_aa dX5_seatAll_104 rfl (by decide) (in_c (by decide)) (rf93 (in_c (by decide))) ?_
    refine r_p (pc2 := 106) dX5_seatAll_105 rfl rfl ?_
    refine r_get dX5_seatAll_106 fkX5_69 rfl rfl ?_
    obtain ⟨q7, kk⟩ := kk
    refine r_cv (d1 := 2) dX5_seatAll_109 cvX5_75 rfl rfl (shr93 (in_c (by decide))) rfl (Nat.le_of_ble_eq_true rfl) (Nat.le_of_ble_eq_true rfl) (Nat.le_of_ble_eq_true rfl) (c_ta_open (507 + 5 * (0 : Int32).toNatClampNeg) ((sA T201 97 (T201.1 80 12 : Int32).toNatClampNeg 0).2.1 3) q7) ?_
    refine r_nT (R := rI) rfl kk (fun T2 kk => ?_)
    refine r_p (pc2 := 113) dX5_seatAll_112 rfl rfl ?_
    refine r_get dX5_seatAll_113 fkX5_172 rfl rfl ?_
    refine r_ci (x := 1) dX5_seatAll_116 rfl ?_
    refine r_p (pc2 := 118) dX5_seatAll_117 rfl rfl ?_
    refine r_p (pc2 := 119) (L2 := [some (.ref (80 : Nat)), some (.int p0), some (.int ((T2.1 80 12) - 1)), none]) dX5_seatAll_118 rfl rfl ?_
    show tR _ _ _ _ [some (.ref (80 : Nat)), some (.int p0), some (.int ((T2.1 80 12) - 1)), none] _ _ _ _
    refine (c_pl_seatAll_119 p0 (fun w2_2 T202 kk => ?_) 1000 ((T2.1 80 12) - 1) T2 kk)
    · skip
      refine r_ci (x := 1) dX5_seatAll_202 rfl ?_
      exact r_qI dX5_seatAll_203 rfl rfl rfl rfl
def x_pl_agreeing_31 (l1 : Int32) (l2 : Int32) (l3 : Int32) (l4 : Nat) (K : Int32 → Int32 → St → Int32 × St) : Nat → Int32 → Int32 → St → Int32 × St
  | 0, _, _, T => (0, T)
  | f + 1, v5, v6, T => if (T.2.2.1 82 (l2 : Int32).toNatClampNeg) ≤ v6 then (K v5 v6 T) else (jn (fun (r2 : Nat) => if (T.1 r2 6) = 0 then (x_pl_agreeing_31 l1 l2 l3 l4 K f v5 (v6 + 1) T) else (if (x_pl_collide T (l4 + 3) (r2 + 3)) = 0 then (if (x_wa_agrees T l4 (T.2.1 2) r2) = 0 then (x_pl_agreeing_31 l1 l2 l3 l4 K f v5 (v6 + 1) T) else (jn (fun (i3 : Int32) => x_pl_agreeing_31 l1 l2 l3 l4 K f i3 (v6 + 1) T) (v5 ||| (1 <<< (v6 &&& 31))))) else (x_pl_agreeing_31 l1 l2 l3 l4 K f v5 (v6 + 1) T))) (123 + 4 * ((l2 * 12) + v6 : Int32).toNatClampNeg))
def ok_pl_agreeing_31 (l1 : Int32) (l2 : Int32) (l3 : Int32) (l4 : Nat) (Kk : Int32 → Int32 → St → Prop) : Nat → Int32 → Int32 → St → Prop
  | 0, _, _, _ => False
  | f + 1, v5, v6, T => (vp_in l2 8) ∧ (((T.2.2.1 82 (l2 : Int32).toNatClampNeg) ≤ v6 → Kk v5 v6 T) ∧ (¬ (T.2.2.1 82 (l2 : Int32).toNatClampNeg) ≤ v6 → (vp_in ((l2 * 12) + v6) 96) ∧ jn (fun (r2 : Nat) => (sh r2 = .inr 10) ∧ (((T.1 r2 6) = 0 → ok_pl_agreeing_31 l1 l2 l3 l4 Kk f v5 (v6 + 1) T) ∧ (¬ (T.1 r2 6) = 0 → (sh l4 = .inr 10) ∧ (ok_pl_collide T (l4 + 3) (r2 + 3)) ∧ (((x_pl_collide T (l4 + 3) (r2 + 3)) = 0 → (ok_wa_agrees T l4 (T.2.1 2) r2) ∧ (((x_wa_agrees T l4 (T.2.1 2) r2) = 0 → ok_pl_agreeing_31 l1 l2 l3 l4 Kk f v5 (v6 + 1) T) ∧ (¬ (x_wa_agrees T l4 (T.2.1 2) r2) = 0 → jn (fun (i3 : Int32) => ok_pl_agreeing_31 l1 l2 l3 l4 Kk f i3 (v6 + 1) T) (v5 ||| (1 <<< (v6 &&& 31)))))) ∧ (¬ (x_pl_collide T (l4 + 3) (r2 + 3)) = 0 → ok_pl_agreeing_31 l1 l2 l3 l4 Kk f v5 (v6 + 1) T))))) (123 + 4 * ((l2 * 12) + v6 : Int32).toNatClampNeg)))
theorem c_pl_agreeing_31 {X : Nat × (Nat → Int32)} (l1 : Int32) (l2 : Int32) (l3 : Int32) (l4 : Nat) {K : Int32 → Int32 → St → Int32 × St} {Kk : Int32 → Int32 → St → Prop} (hk : ∀ (v5 : Int32) (v6 : Int32) (T : St), Kk v5 v6 T → tR X 2 mX5_agreeing 110 [some (.ref (80 : Nat)), some (.int l1), some (.int l2), some (.int l3), some (.ref l4), some (.int v5), some (.int v6), none] [] T (rI (K v5 v6 T)).1 ((rI (K v5 v6 T)).2)) : ∀ (f : Nat) (v5 : Int32) (v6 : Int32) (T : St), ok_pl_agreeing_31 l1 l2 l3 l4 Kk f v5 v6 T → tR X 2 mX5_agreeing 31 [some (.ref (80 : Nat)), some (.int l1), some (.int l2), some (.int l3), some (.ref l4), some (.int v5), some (.int v6), none] [] T (rI (x_pl_agreeing_31 l1 l2 l3 l4 K f v5 v6 T)).1 ((rI (x_pl_agreeing_31 l1 l2 l3 l4 K f v5 v6 T)).2) := by
  intro f
  induction f with
  | zero => intro v5 v6 T kk; exact kk.elim
  | succ f ih =>
    intro v5 v6 T kk
    rw [ok_pl_agreeing_31] at kk
    rw [x_pl_agreeing_31]
    refine r_p (pc2 := 33) dX5_agreeing_31 rfl rfl ?_
    refine r_p (pc2 := 34) dX5_agreeing_33 rfl rfl ?_
    refine r_get dX5_agreeing_34 fkX5_17 rfl rfl ?_
    refine r_p (pc2 := 38) dX5_agreeing_37 rfl rfl ?_
    obtain ⟨q3, kk⟩ := kk
    refine r_ia dX5_agreeing_38 rfl q3 ?_
    refine r_cge dX5_agreeing_39 rfl (fun c39_2 => ?_) (fun c39_2 => ?_)
    · refine r_ip (R := rI) c39_2 ?_
      have kk := kk.1 c39_2
      show tR _ _ _ _ [some (.ref (80 : Nat)), some (.int l1), some (.int l2), some (.int l3), some (.ref l4), some (.int v5), some (.int v6), none] _ _ _ _
      exact (hk v5 v6 T kk)
    · refine r_in (R := rI) c39_2 ?_
      have kk := kk.2 c39_2
      refine r_p (pc2 := 43) dX5_agreeing_42 rfl rfl ?_
      refine r_get dX5_agreeing_43 fkX5_11 rfl rfl ?_
      refine r_p (pc2 := 47) dX5_agreeing_46 rfl rfl ?_
      refine r_cb (x := 12) dX5_agreeing_47 rfl ?_
      refine r_p (pc2 := 50) dX5_agreeing_49 rfl rfl ?_
      refine r_p (pc2 := 52) dX5_agreeing_50 rfl rfl ?_
      refine r_p (pc2 := 53) dX5_agreeing_52 rfl rfl ?_
      obtain ⟨q4, kk⟩ := kk
      refine r_aa dX5_agreeing_53 rfl (by decide) q4 (rf81 q4) ?_
      refine r_nR (R := rI) rfl kk (fun r2 kk => ?_)
      refine r_p (pc2 := 56) (L2 := [some (.ref (80 : Nat)), some (.int l1), some (.int l2), some (.int l3), some (.ref l4), some (.int v5), some (.int v6), some (.ref r2)]) dX5_agreeing_54 rfl rfl ?_
      refine r_p (pc2 := 58) dX5_agreeing_56 rfl rfl ?_
      obtain ⟨q5, kk⟩ := kk
      refine r_get dX5_agreeing_58 fkX5_106 q5 rfl ?_
      refine r_ieq dX5_agreeing_61 rfl (fun c61_3 => ?_) (fun c61_3 => ?_)
      · refine r_ip (R := rI) c61_3 ?_
        have kk := kk.1 c61_3
        refine r_inc (L2 := [some (.ref (80 : Nat)), some (.int l1), some (.int l2), some (.int l3), some (.ref l4), some (.int v5), some (.int (v6 + 1)), some (.ref r2)]) (y := 1) dX5_agreeing_104 rfl rfl rfl ?_
        refine r_go dX5_agreeing_107 rfl ?_
        show tR _ _ _ _ [some (.ref (80 : Nat)), some (.int l1), some (.int l2), some (.int l3), some (.ref l4), some (.int v5), some (.int (v6 + 1)), some (.ref r2)] _ _ _ _
        exact r_le (le_s (le_s (le_s (le_s (le_s (le_s (le_s (le_n (le_0))))))))) (ih v5 (v6 + 1) T kk)
      · refine r_in (R := rI) c61_3 ?_
        have kk := kk.2 c61_3
        refine r_p (pc2 := 65) dX5_agreeing_64 rfl rfl ?_
        refine r_p (pc2 := 67) dX5_agreeing_65 rfl rfl ?_
        obtain ⟨q6, kk⟩ := kk
        refine r_get dX5_agreeing_67 fkX5_110 q6 rfl ?_
        refine r_p (pc2 := 72) dX5_agreeing_70 rfl rfl ?_
        refine r_get dX5_agreeing_72 fkX5_110 q5 rfl ?_
        obtain ⟨q7, kk⟩ := kk
        refine r_cv (d1 := 2) dX5_agreeing_75 cvX5_193 rfl rfl rfl rfl (Nat.le_of_ble_eq_true rfl) (Nat.le_of_ble_eq_true rfl) (Nat.le_of_ble_eq_true rfl) (c_pl_collide (l4 + 3) (r2 + 3) q7) ?_
        refine r_ine dX5_agreeing_78 rfl (fun c78_4 => ?_) (fun c78_4 => ?_)
        · refine r_in (R := rI) c78_4 ?_
          have kk := kk.2 c78_4
          refine r_inc (L2 := [some (.ref (80 : Nat)), some (.int l1), some (.int l2), some (.int l3), some (.ref l4), some (.int v5), some (.int (v6 + 1)), some (.ref r2)]) (y := 1) dX5_agreeing_104 rfl rfl rfl ?_
          refine r_go dX5_agreeing_107 rfl ?_
          show tR _ _ _ _ [some (.ref (80 : Nat)), some (.int l1), some (.int l2), some (.int l3), some (.ref l4), some (.int v5), some (.int (v6 + 1)), some (.ref r2)] _ _ _ _
          exact r_le (le_s (le_s (le_s (le_s (le_s (le_s (le_s (le_n (le_0))))))))) (ih v5 (v6 + 1) T kk)
        · refine r_ip (R := rI) c78_4 ?_
          have kk := kk.1 c78_4
          refine r_p (pc2 := 83) dX5_agreeing_81 rfl rfl ?_
          refine r_p (pc2 := 84) dX5_agreeing_83 rfl rfl ?_
          refine r_get dX5_agreeing_84 fkX5_62 rfl rfl ?_
          refine r_p (pc2 := 89) dX5_agreeing_87 rfl rfl ?_
          obtain ⟨q8, kk⟩ := kk
          refine r_cv (d1 := 2) dX5_agreeing_89 cvX5_197 rfl rfl q6 rfl (Nat.le_of_ble_eq_true rfl) (Nat.le_of_ble_eq_true rfl) (Nat.le_of_ble_eq_true rfl) (c_wa_agrees l4 (T.2.1 2) r2 q8) ?_
          refine r_ieq dX5_agreeing_92 rfl (fun c92_5 => ?_) (fun c92_5 => ?_)
          · refine r_ip (R := rI) c92_5 ?_
            have kk := kk.1 c92_5
            refine r_inc (L2 := [some (.ref (80 : Nat)), some (.int l1), some (.int l2), some (.int l3), some (.ref l4), some (.int v5), some (.int (v6 + 1)), some (.ref r2)]) (y := 1) dX5_agreeing_104 rfl rfl rfl ?_
            refine r_go dX5_agreeing_107 rfl ?_
            show tR _ _ _ _ [some (.ref (80 : Nat)), some (.int l1), some (.int l2), some (.int l3), some (.ref l4), some (.int v5), some (.int (v6 + 1)), some (.ref r2)] _ _ _ _
            exact r_le (le_s (le_s (le_s (le_s (le_s (le_s (le_s (le_n (le_0))))))))) (ih v5 (v6 + 1) T kk)
          · refine r_in (R := rI) c92_5 ?_
            have kk := kk.2 c92_5
            refine r_p (pc2 := 97) dX5_agreeing_95 rfl rfl ?_
            refine r_ci (x := 1) dX5_agreeing_97 rfl ?_
            refine r_p (pc2 := 100) dX5_agreeing_98 rfl rfl ?_
            refine r_p (pc2 := 101) dX5_agreeing_100 rfl rfl ?_
            refine r_p (pc2 := 102) dX5_agreeing_101 rfl rfl ?_
            refine r_nI (R := rI) rfl kk (fun i3 kk => ?_)
            refine r_p (pc2 := 104) (L2 := [some (.ref (80 : Nat)), some (.int l1), some (.int l2), some (.int l3), some (.ref l4), some (.int i3), some (.int v6), some (.ref r2)]) dX5_agreeing_102 rfl rfl ?_
            refine r_inc (L2 := [some (.ref (80 : Nat)), some (.int l1), some (.int l2), some (.int l3), some (.ref l4), some (.int i3), some (.int (v6 + 1)), some (.ref r2)]) (y := 1) dX5_agreeing_104 rfl rfl rfl ?_
            refine r_go dX5_agreeing_107 rfl ?_
            show tR _ _ _ _ [some (.ref (80 : Nat)), some (.int l1), some (.int l2), some (.int l3), some (.ref l4), some (.int i3), some (.int (v6 + 1)), some (.ref r2)] _ _ _ _
            exact r_le (le_s (le_s (le_s (le_s (le_s (le_s (le_s (le_n (le_0))))))))) (ih i3 (v6 + 1) T kk)
def x_pl_agreeing (T : St) (p0 : Int32) (p1 : Int32) : Int32 × St := jn (fun (KJ1 : St → Int32 × St) => if (T.2.2.1 98 ((p0 * 8) + p1 : Int32).toNatClampNeg) = (-1) then (jn (fun (r4 : Nat) => x_pl_agreeing_31 p0 p1 ((p0 * 8) + p1) r4 (fun (w2_5 : Int32) (w2_6 : Int32) (T202 : St) => KJ1 (sA T202 98 ((p0 * 8) + p1 : Int32).toNatClampNeg w2_5)) 1000 0 0 T) (123 + 4 * (p0 : Int32).toNatClampNeg)) else (KJ1 T)) (fun (T301 : St) => (T301.2.2.1 98 ((p0 * 8) + p1 : Int32).toNatClampNeg, T301))
def ok_pl_agreeing (T : St) (p0 : Int32) (p1 : Int32) : Prop := (vp_in ((p0 * 8) + p1) 768) ∧ ((T.2.2.1 98 ((p0 * 8) + p1 : Int32).toNatClampNeg) = (-1) → (vp_in p0 96) ∧ jn (fun (r4 : Nat) => ok_pl_agreeing_31 p0 p1 ((p0 * 8) + p1) r4 (fun (w2_5 : Int32) (w2_6 : Int32) (T202 : St) => True) 1000 0 0 T) (123 + 4 * (p0 : Int32).toNatClampNeg))
theorem c_pl_agreeing {X : Nat × (Nat → Int32)} {T : St} (p0 : Int32) (p1 : Int32) (kk : ok_pl_agreeing T p0 p1) : tC X 3 mX5_agreeing [.ref (80 : Nat), .int p0, .int p1] T (some (.int (x_pl_agreeing T p0 p1).1)) ((x_pl_agreeing T p0 p1).2) := by
  unfold ok_pl_agreeing at kk
  refine tC_orI (L := [some (.ref (80 : Nat)), some (.int p0), some (.int p1), none, none, none, none, none]) (x_pl_agreeing T p0 p1) rfl ?_
  unfold x_pl_agreeing
  refine r_p (pc2 := 1) dX5_agreeing_0 rfl rfl ?_
  refine r_cb (x := 8) dX5_agreeing_1 rfl ?_
  refine r_p (pc2 := 4) dX5_agreeing_3 rfl rfl ?_
  refine r_p (pc2 := 5) dX5_agreeing_4 rfl rfl ?_
  refine r_p (pc2 := 6) dX5_agreeing_5 rfl rfl ?_
  refine r_p (pc2 := 7) (L2 := [some (.ref (80 : Nat)), some (.int p0), some (.int p1), some (.int ((p0 * 8) + p1)), none, none, none, none]) dX5_agreeing_6 rfl rfl ?_
  refine r_p (pc2 := 8) dX5_agreeing_7 rfl rfl ?_
  refine r_get dX5_agreeing_8 fkX5_47 rfl rfl ?_
  refine r_p (pc2 := 12) dX5_agreeing_11 rfl rfl ?_
  obtain ⟨q1, kk⟩ := kk
  refine r_ia dX5_agreeing_12 rfl q1 ?_
  refine r_ci (x := -1) dX5_agreeing_13 rfl ?_
  refine r_jn0 (R := rI) (J := fun (KJ1 : St → Int32 × St) => ∀ (T301 : St), tR X 2 mX5_agreeing 118 [some (.ref (80 : Nat)), some (.int p0), some (.int p1), some (.int ((p0 * 8) + p1)), none, none, none, none] [] T301 (rI (KJ1 T301)).1 (rI (KJ1 T301)).2) (fun T301 => ?_) (fun KJ1 hJ1 => ?_)
  · skip
    refine r_p (pc2 := 119) dX5_agreeing_118 rfl rfl ?_
    refine r_get dX5_agreeing_119 fkX5_47 rfl rfl ?_
    refine r_p (pc2 := 123) dX5_agreeing_122 rfl rfl ?_
    refine r_ia dX5_agreeing_123 rfl q1 ?_
    exact r_qI dX5_agreeing_124 rfl rfl rfl rfl
  refine r_cne dX5_agreeing_14 rfl (fun c14_6 => ?_) (fun c14_6 => ?_)
  · refine r_in (R := rI) c14_6 ?_
    show tR _ _ _ _ [some (.ref (80 : Nat)), some (.int p0), some (.int p1), some (.int ((p0 * 8) + p1)), none, none, none, none] [] _ _ _
    exact (hJ1 T)
  · refine r_ip (R := rI) c14_6 ?_
    have kk := kk c14_6
    refine r_p (pc2 := 18) dX5_agreeing_17 rfl rfl ?_
    refine r_get dX5_agreeing_18 fkX5_11 rfl rfl ?_
    refine r_p (pc2 := 22) dX5_agreeing_21 rfl rfl ?_
    obtain ⟨q9, kk⟩ := kk
    refine r_aa dX5_agreeing_22 rfl (by decide) q9 (rf81 q9) ?_
    refine r_nR (R := rI) rfl kk (fun r4 kk => ?_)
    refine r_p (pc2 := 25) (L2 := [some (.ref (80 : Nat)), some (.int p0), some (.int p1), some (.int ((p0 * 8) + p1)), some (.ref r4), none, none, none]) dX5_agreeing_23 rfl rfl ?_
    refine r_ci (x := 0) dX5_agreeing_25 rfl ?_
    refine r_p (pc2 := 28) (L2 := [some (.ref (80 : Nat)), some (.int p0), some (.int p1), some (.int ((p0 * 8) + p1)), some (.ref r4), some (.int 0), none, none]) dX5_agreeing_26 rfl rfl ?_
    refine r_ci (x := 0) dX5_agreeing_28 rfl ?_
    refine r_p (pc2 := 31) (L2 := [some (.ref (80 : Nat)), some (.int p0), some (.int p1), some (.int ((p0 * 8) + p1)), some (.ref r4), some (.int 0), some (.int 0), none]) dX5_agreeing_29 rfl rfl ?_
    show tR _ _ _ _ [some (.ref (80 : Nat)), some (.int p0), some (.int p1), some (.int ((p0 * 8) + p1)), some (.ref r4), some (.int 0), some (.int 0), none] _ _ _ _
    refine (c_pl_agreeing_31 p0 p1 ((p0 * 8) + p1) r4 (fun w2_5 w2_6 T202 kk => ?_) 1000 0 0 T kk)
    · skip
      refine r_p (pc2 := 111) dX5_agreeing_110 rfl rfl ?_
      refine r_get dX5_agreeing_111 fkX5_47 rfl rfl ?_
      refine r_p (pc2 := 115) dX5_agreeing_114 rfl rfl ?_
      refine r_p (pc2 := 117) dX5_agreeing_115 rfl rfl ?_
      refine r_ias dX5_agreeing_117 rfl q1 ?_
      show tR _ _ _ _ [some (.ref (80 : Nat)), some (.int p0), some (.int p1), some (.int ((p0 * 8) + p1)), some (.ref r4), some (.int w2_5), some (.int w2_6), none] [] _ _ _
      exact r_le (le_s (le_s (le_s (le_s (le_n (le_n (le_n (le_s (le_0))))))))) (hJ1 (sA T202 98 ((p0 * 8) + p1 : Int32).toNatClampNeg w2_5))
