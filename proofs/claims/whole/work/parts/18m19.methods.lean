def x_pl_seek1_27 (l1 : Int32) (l2 : Int32) (l3 : Int32) (K : Int32 → St → St) : Nat → Int32 → St → St
  | 0, _, T => T
  | f + 1, v4, T => if (T.2.2.1 82 (T.2.2.1 94 (l1 : Int32).toNatClampNeg : Int32).toNatClampNeg) ≤ v4 then (K v4 T) else (if (((T.2.2.1 (100 + (l1 : Int32).toNatClampNeg) (l1 : Int32).toNatClampNeg) >>> (v4 &&& 31)) &&& 1) = 0 then (x_pl_seek1_27 l1 l2 l3 K f (v4 + 1) T) else (jn (fun (r2 : Nat) => if (T.1 80 13) ≤ ((l2 + (T.1 r2 5)) + (T.2.2.1 97 (l1 + 1 : Int32).toNatClampNeg)) then (x_pl_seek1_27 l1 l2 l3 K f (v4 + 1) T) else (if (x_ta_hasRoom T (507 + 5 * (l1 : Int32).toNatClampNeg) (r2 + 3)) = 0 then (x_pl_seek1_27 l1 l2 l3 K f (v4 + 1) T) else (if ((x_pl_leavesOpen T l1 (l3 + v4)).1) = 0 then (x_pl_seek1_27 l1 l2 l3 K f (v4 + 1) ((x_pl_leavesOpen T l1 (l3 + v4)).2)) else (jn (fun (KJ1 : St → St) => if ((sA ((x_pl_leavesOpen T l1 (l3 + v4)).2) 95 (l1 : Int32).toNatClampNeg (l3 + v4)).1 80 12) ≤ (l1 + 1) then (KJ1 (sA ((x_pl_leavesOpen T l1 (l3 + v4)).2) 95 (l1 : Int32).toNatClampNeg (l3 + v4))) else (jn (fun (T4 : St) => KJ1 T4) (x_ta_add (sA ((x_pl_leavesOpen T l1 (l3 + v4)).2) 95 (l1 : Int32).toNatClampNeg (l3 + v4)) (507 + 5 * (l1 + 1 : Int32).toNatClampNeg) (507 + 5 * (l1 : Int32).toNatClampNeg) (r2 + 3) ((sA ((x_pl_leavesOpen T l1 (l3 + v4)).2) 95 (l1 : Int32).toNatClampNeg (l3 + v4)).2.1 3)))) (fun (T301 : St) => x_pl_seek1_27 l1 l2 l3 K f (v4 + 1) (x_pl_seek0 T301 (l1 + 1) (l2 + (T301.1 r2 5)))))))) (123 + 4 * (l3 + v4 : Int32).toNatClampNeg)))
def ok_pl_seek1_27 (l1 : Int32) (l2 : Int32) (l3 : Int32) (Kk : Int32 → St → Prop) : Nat → Int32 → St → Prop
  | 0, _, _ => False
  | f + 1, v4, T => (vp_in l1 4) ∧ (vp_in (T.2.2.1 94 (l1 : Int32).toNatClampNeg) 8) ∧ (((T.2.2.1 82 (T.2.2.1 94 (l1 : Int32).toNatClampNeg : Int32).toNatClampNeg) ≤ v4 → Kk v4 T) ∧ (¬ (T.2.2.1 82 (T.2.2.1 94 (l1 : Int32).toNatClampNeg : Int32).toNatClampNeg) ≤ v4 → (vp_in l1 5) ∧ (((((T.2.2.1 (100 + (l1 : Int32).toNatClampNeg) (l1 : Int32).toNatClampNeg) >>> (v4 &&& 31)) &&& 1) = 0 → ok_pl_seek1_27 l1 l2 l3 Kk f (v4 + 1) T) ∧ (¬ (((T.2.2.1 (100 + (l1 : Int32).toNatClampNeg) (l1 : Int32).toNatClampNeg) >>> (v4 &&& 31)) &&& 1) = 0 → (vp_in (l3 + v4) 96) ∧ jn (fun (r2 : Nat) => (sh r2 = .inr 10) ∧ (vp_in (l1 + 1) 5) ∧ (((T.1 80 13) ≤ ((l2 + (T.1 r2 5)) + (T.2.2.1 97 (l1 + 1 : Int32).toNatClampNeg)) → ok_pl_seek1_27 l1 l2 l3 Kk f (v4 + 1) T) ∧ (¬ (T.1 80 13) ≤ ((l2 + (T.1 r2 5)) + (T.2.2.1 97 (l1 + 1 : Int32).toNatClampNeg)) → (ok_ta_hasRoom T (507 + 5 * (l1 : Int32).toNatClampNeg) (r2 + 3)) ∧ (((x_ta_hasRoom T (507 + 5 * (l1 : Int32).toNatClampNeg) (r2 + 3)) = 0 → ok_pl_seek1_27 l1 l2 l3 Kk f (v4 + 1) T) ∧ (¬ (x_ta_hasRoom T (507 + 5 * (l1 : Int32).toNatClampNeg) (r2 + 3)) = 0 → (ok_pl_leavesOpen T l1 (l3 + v4)) ∧ ((((x_pl_leavesOpen T l1 (l3 + v4)).1) = 0 → ok_pl_seek1_27 l1 l2 l3 Kk f (v4 + 1) ((x_pl_leavesOpen T l1 (l3 + v4)).2)) ∧ (¬ ((x_pl_leavesOpen T l1 (l3 + v4)).1) = 0 → jn (fun (OJ1 : St → Prop) => ((((sA ((x_pl_leavesOpen T l1 (l3 + v4)).2) 95 (l1 : Int32).toNatClampNeg (l3 + v4)).1 80 12) ≤ (l1 + 1) → OJ1 (sA ((x_pl_leavesOpen T l1 (l3 + v4)).2) 95 (l1 : Int32).toNatClampNeg (l3 + v4))) ∧ (¬ ((sA ((x_pl_leavesOpen T l1 (l3 + v4)).2) 95 (l1 : Int32).toNatClampNeg (l3 + v4)).1 80 12) ≤ (l1 + 1) → (vp_in (l1 + 1) 4) ∧ (ok_ta_add (sA ((x_pl_leavesOpen T l1 (l3 + v4)).2) 95 (l1 : Int32).toNatClampNeg (l3 + v4)) (507 + 5 * (l1 + 1 : Int32).toNatClampNeg) (507 + 5 * (l1 : Int32).toNatClampNeg) (r2 + 3) ((sA ((x_pl_leavesOpen T l1 (l3 + v4)).2) 95 (l1 : Int32).toNatClampNeg (l3 + v4)).2.1 3)) ∧ jn (fun (T4 : St) => OJ1 T4) (x_ta_add (sA ((x_pl_leavesOpen T l1 (l3 + v4)).2) 95 (l1 : Int32).toNatClampNeg (l3 + v4)) (507 + 5 * (l1 + 1 : Int32).toNatClampNeg) (507 + 5 * (l1 : Int32).toNatClampNeg) (r2 + 3) ((sA ((x_pl_leavesOpen T l1 (l3 + v4)).2) 95 (l1 : Int32).toNatClampNeg (l3 + v4)).2.1 3))))) (fun (T301 : St) => (ok_pl_seek0 T301 (l1 + 1) (l2 + (T301.1 r2 5))) ∧ ok_pl_seek1_27 l1 l2 l3 Kk f (v4 + 1) (x_pl_seek0 T301 (l1 + 1) (l2 + (T301.1 r2 5))))))))))) (123 + 4 * (l3 + v4 : Int32).toNatClampNeg)))))
theorem c_pl_seek1_27 {X : Nat × (Nat → Int32)} (l1 : Int32) (l2 : Int32) (l3 : Int32) {K : Int32 → St → St} {Kk : Int32 → St → Prop} (hk : ∀ (v4 : Int32) (T : St), Kk v4 T → tR X 5 mX5_seek 191 [some (.ref (80 : Nat)), some (.int l1), some (.int l2), some (.int l3), some (.int v4), none] [] T (rV (K v4 T)).1 ((rV (K v4 T)).2)) : ∀ (f : Nat) (v4 : Int32) (T : St), ok_pl_seek1_27 l1 l2 l3 Kk f v4 T → tR X 5 mX5_seek 27 [some (.ref (80 : Nat)), some (.int l1), some (.int l2), some (.int l3), some (.int v4), none] [] T (rV (x_pl_seek1_27 l1 l2 l3 K f v4 T)).1 ((rV (x_pl_seek1_27 l1 l2 l3 K f v4 T)).2) := by
  intro f
  induction f with
  | zero => intro v4 T kk; exact kk.elim
  | succ f ih =>
    intro v4 T kk
    rw [ok_pl_seek1_27] at kk
    rw [x_pl_seek1_27]
    refine r_p (pc2 := 29) dX5_seek_27 rfl rfl ?_
    refine r_p (pc2 := 30) dX5_seek_29 rfl rfl ?_
    refine r_get dX5_seek_30 fkX5_17 rfl rfl ?_
    refine r_p (pc2 := 34) dX5_seek_33 rfl rfl ?_
    refine r_get dX5_seek_34 fkX5_35 rfl rfl ?_
    refine r_p (pc2 := 38) dX5_seek_37 rfl rfl ?_
    obtain ⟨q2, kk⟩ := kk
    refine r_ia dX5_seek_38 rfl q2 ?_
    obtain ⟨q3, kk⟩ := kk
    refine r_ia dX5_seek_39 rfl q3 ?_
    refine r_cge dX5_seek_40 rfl (fun c40_2 => ?_) (fun c40_2 => ?_)
    · refine r_ip (R := rV) c40_2 ?_
      have kk := kk.1 c40_2
      show tR _ _ _ _ [some (.ref (80 : Nat)), some (.int l1), some (.int l2), some (.int l3), some (.int v4), none] _ _ _ _
      exact (hk v4 T kk)
    · refine r_in (R := rV) c40_2 ?_
      have kk := kk.2 c40_2
      refine r_p (pc2 := 44) dX5_seek_43 rfl rfl ?_
      refine r_get dX5_seek_44 fkX5_52 rfl rfl ?_
      refine r_p (pc2 := 48) dX5_seek_47 rfl rfl ?_
      obtain ⟨q4, kk⟩ := kk
      refine r_aa dX5_seek_48 rfl (by decide) q4 (rf99 q4) ?_
      refine r_p (pc2 := 50) dX5_seek_49 rfl rfl ?_
      refine r_ia dX5_seek_50 (shr99 q4) q2 ?_
      refine r_p (pc2 := 53) dX5_seek_51 rfl rfl ?_
      refine r_p (pc2 := 54) dX5_seek_53 rfl rfl ?_
      refine r_ci (x := 1) dX5_seek_54 rfl ?_
      refine r_p (pc2 := 56) dX5_seek_55 rfl rfl ?_
      refine r_ine dX5_seek_56 rfl (fun c56_3 => ?_) (fun c56_3 => ?_)
      · refine r_in (R := rV) c56_3 ?_
        have kk := kk.2 c56_3
        refine r_p (pc2 := 63) dX5_seek_62 rfl rfl ?_
        refine r_get dX5_seek_63 fkX5_11 rfl rfl ?_
        refine r_p (pc2 := 67) dX5_seek_66 rfl rfl ?_
        refine r_p (pc2 := 69) dX5_seek_67 rfl rfl ?_
        refine r_p (pc2 := 70) dX5_seek_69 rfl rfl ?_
        obtain ⟨q5, kk⟩ := kk
        refine r_aa dX5_seek_70 rfl (by decide) q5 (rf81 q5) ?_
        refine r_nR (R := rV) rfl kk (fun r2 kk => ?_)
        refine r_p (pc2 := 73) (L2 := [some (.ref (80 : Nat)), some (.int l1), some (.int l2), some (.int l3), some (.int v4), some (.ref r2)]) dX5_seek_71 rfl rfl ?_
        refine r_p (pc2 := 74) dX5_seek_73 rfl rfl ?_
        refine r_p (pc2 := 76) dX5_seek_74 rfl rfl ?_
        obtain ⟨q6, kk⟩ := kk
        refine r_get dX5_seek_76 fkX5_100 q6 rfl ?_
        refine r_p (pc2 := 80) dX5_seek_79 rfl rfl ?_
        refine r_p (pc2 := 81) dX5_seek_80 rfl rfl ?_
        refine r_get dX5_seek_81 fkX5_44 rfl rfl ?_
        refine r_p (pc2 := 85) dX5_seek_84 rfl rfl ?_
        refine r_ci (x := 1) dX5_seek_85 rfl ?_
        refine r_p (pc2 := 87) dX5_seek_86 rfl rfl ?_
        obtain ⟨q7, kk⟩ := kk
        refine r_ia dX5_seek_87 rfl q7 ?_
        refine r_p (pc2 := 89) dX5_seek_88 rfl rfl ?_
        refine r_p (pc2 := 90) dX5_seek_89 rfl rfl ?_
        refine r_get dX5_seek_90 fkX5_160 rfl rfl ?_
        refine r_cge dX5_seek_93 rfl (fun c93_4 => ?_) (fun c93_4 => ?_)
        · refine r_ip (R := rV) c93_4 ?_
          have kk := kk.1 c93_4
          refine r_inc (L2 := [some (.ref (80 : Nat)), some (.int l1), some (.int l2), some (.int l3), some (.int (v4 + 1)), some (.ref r2)]) (y := 1) dX5_seek_185 rfl rfl rfl ?_
          refine r_go dX5_seek_188 rfl ?_
          show tR _ _ _ _ [some (.ref (80 : Nat)), some (.int l1), some (.int l2), some (.int l3), some (.int (v4 + 1)), some (.ref r2)] _ _ _ _
          exact r_le (le_s (le_s (le_s (le_s (le_s (le_n (le_0))))))) (ih (v4 + 1) T kk)
        · refine r_in (R := rV) c93_4 ?_
          have kk := kk.2 c93_4
          refine r_p (pc2 := 97) dX5_seek_96 rfl rfl ?_
          refine r_get dX5_seek_97 fkX5_31 rfl rfl ?_
          refine r_p (pc2 := 101) dX5_seek_100 rfl rfl ?_
          refine r_aa dX5_seek_101 rfl (by decide) q2 (rf93 q2) ?_
          refine r_p (pc2 := 104) dX5_seek_102 rfl rfl ?_
          refine r_get dX5_seek_104 fkX5_110 q6 rfl ?_
          obtain ⟨q8, kk⟩ := kk
          refine r_cv (d1 := 1) dX5_seek_107 cvX5_114 rfl rfl (shr93 q2) rfl (Nat.le_of_ble_eq_true rfl) (Nat.le_of_ble_eq_true rfl) (Nat.le_of_ble_eq_true rfl) (c_ta_hasRoom (507 + 5 * (l1 : Int32).toNatClampNeg) (r2 + 3) q8) ?_
          refine r_ieq dX5_seek_110 rfl (fun c110_5 => ?_) (fun c110_5 => ?_)
          · refine r_ip (R := rV) c110_5 ?_
            have kk := kk.1 c110_5
            refine r_inc (L2 := [some (.ref (80 : Nat)), some (.int l1), some (.int l2), some (.int l3), some (.int (v4 + 1)), some (.ref r2)]) (y := 1) dX5_seek_185 rfl rfl rfl ?_
            refine r_go dX5_seek_188 rfl ?_
            show tR _ _ _ _ [some (.ref (80 : Nat)), some (.int l1), some (.int l2), some (.int l3), some (.int (v4 + 1)), some (.ref r2)] _ _ _ _
            exact r_le (le_s (le_s (le_s (le_s (le_s (le_n (le_0))))))) (ih (v4 + 1) T kk)
          · refine r_in (R := rV) c110_5 ?_
            have kk := kk.2 c110_5
            refine r_p (pc2 := 114) dX5_seek_113 rfl rfl ?_
            refine r_p (pc2 := 115) dX5_seek_114 rfl rfl ?_
            refine r_p (pc2 := 116) dX5_seek_115 rfl rfl ?_
            refine r_p (pc2 := 118) dX5_seek_116 rfl rfl ?_
            refine r_p (pc2 := 119) dX5_seek_118 rfl rfl ?_
            obtain ⟨q9, kk⟩ := kk
            refine r_cv (d1 := 4) dX5_seek_119 cvX5_186 rfl rfl rfl rfl (Nat.le_of_ble_eq_true rfl) (Nat.le_of_ble_eq_true rfl) (Nat.le_of_ble_eq_true rfl) (c_pl_leavesOpen l1 (l3 + v4) q9) ?_
            refine r_ieq dX5_seek_122 rfl (fun c122_6 => ?_) (fun c122_6 => ?_)
            · refine r_ip (R := rV) c122_6 ?_
              have kk := kk.1 c122_6
              refine r_inc (L2 := [some (.ref (80 : Nat)), some (.int l1), some (.int l2), some (.int l3), some (.int (v4 + 1)), some (.ref r2)]) (y := 1) dX5_seek_185 rfl rfl rfl ?_
              refine r_go dX5_seek_188 rfl ?_
              show tR _ _ _ _ [some (.ref (80 : Nat)), some (.int l1), some (.int l2), some (.int l3), some (.int (v4 + 1)), some (.ref r2)] _ _ _ _
              exact r_le (le_s (le_s (le_s (le_s (le_s (le_n (le_0))))))) (ih (v4 + 1) ((x_pl_leavesOpen T l1 (l3 + v4)).2) kk)
            · refine r_in (R := rV) c122_6 ?_
              have kk := kk.2 c122_6
              refine r_p (pc2 := 126) dX5_seek_125 rfl rfl ?_
              refine r_get dX5_seek_126 fkX5_38 rfl rfl ?_
              refine r_p (pc2 := 130) dX5_seek_129 rfl rfl ?_
              refine r_p (pc2 := 131) dX5_seek_130 rfl rfl ?_
              refine r_p (pc2 := 133) dX5_seek_131 rfl rfl ?_
              refine r_p (pc2 := 134) dX5_seek_133 rfl rfl ?_
              refine r_ias dX5_seek_134 rfl q2 ?_
              refine r_p (pc2 := 136) dX5_seek_135 rfl rfl ?_
              refine r_ci (x := 1) dX5_seek_136 rfl ?_
              refine r_p (pc2 := 138) dX5_seek_137 rfl rfl ?_
              refine r_p (pc2 := 139) dX5_seek_138 rfl rfl ?_
              refine r_get dX5_seek_139 fkX5_172 rfl rfl ?_
              refine r_jn (R := rV) (J := fun (KJ1 : St → St) (OJ1 : St → Prop) => ∀ (T301 : St), OJ1 T301 → tR X 5 mX5_seek 171 [some (.ref (80 : Nat)), some (.int l1), some (.int l2), some (.int l3), some (.int v4), some (.ref r2)] [] T301 (rV (KJ1 T301)).1 (rV (KJ1 T301)).2) kk (fun T301 kk => ?_) (fun KJ1 OJ1 hJ1 kk => ?_)
              · skip
                refine r_p (pc2 := 172) dX5_seek_171 rfl rfl ?_
                refine r_p (pc2 := 173) dX5_seek_172 rfl rfl ?_
                refine r_ci (x := 1) dX5_seek_173 rfl ?_
                refine r_p (pc2 := 175) dX5_seek_174 rfl rfl ?_
                refine r_p (pc2 := 176) dX5_seek_175 rfl rfl ?_
                refine r_p (pc2 := 178) dX5_seek_176 rfl rfl ?_
                refine r_get dX5_seek_178 fkX5_100 q6 rfl ?_
                refine r_p (pc2 := 182) dX5_seek_181 rfl rfl ?_
                obtain ⟨q12, kk⟩ := kk
                refine r_cv (d1 := 5) dX5_seek_182 cvX5_169 rfl rfl rfl rfl (Nat.le_of_ble_eq_true rfl) (Nat.le_of_ble_eq_true rfl) (Nat.le_of_ble_eq_true rfl) (c_pl_seek0 (l1 + 1) (l2 + (T301.1 r2 5)) q12) ?_
                refine r_inc (L2 := [some (.ref (80 : Nat)), some (.int l1), some (.int l2), some (.int l3), some (.int (v4 + 1)), some (.ref r2)]) (y := 1) dX5_seek_185 rfl rfl rfl ?_
                refine r_go dX5_seek_188 rfl ?_
                show tR _ _ _ _ [some (.ref (80 : Nat)), some (.int l1), some (.int l2), some (.int l3), some (.int (v4 + 1)), some (.ref r2)] _ _ _ _
                exact r_le (le_s (le_s (le_s (le_s (le_s (le_n (le_0))))))) (ih (v4 + 1) (x_pl_seek0 T301 (l1 + 1) (l2 + (T301.1 r2 5))) kk)
              refine r_cge dX5_seek_142 rfl (fun c142_8 => ?_) (fun c142_8 => ?_)
              · refine r_ip (R := rV) c142_8 ?_
                have kk := kk.1 c142_8
                show tR _ _ _ _ [some (.ref (80 : Nat)), some (.int l1), some (.int l2), some (.int l3), some (.int v4), some (.ref r2)] [] _ _ _
                exact (hJ1 (sA ((x_pl_leavesOpen T l1 (l3 + v4)).2) 95 (l1 : Int32).toNatClampNeg (l3 + v4)) kk)
              · refine r_in (R := rV) c142_8 ?_
                have kk := kk.2 c142_8
                refine r_p (pc2 := 146) dX5_seek_145 rfl rfl ?_
                refine r_get dX5_seek_146 fkX5_31 rfl rfl ?_
                refine r_p (pc2 := 150) dX5_seek_149 rfl rfl ?_
                refine r_ci (x := 1) dX5_seek_150 rfl ?_
                refine r_p (pc2 := 152) dX5_seek_151 rfl rfl ?_
                obtain ⟨q13, kk⟩ := kk
                refine r_aa dX5_seek_152 rfl (by decide) q13 (rf93 q13) ?_
                refine r_p (pc2 := 154) dX5_seek_153 rfl rfl ?_
                refine r_get dX5_seek_154 fkX5_31 rfl rfl ?_
                refine r_p (pc2 := 158) dX5_seek_157 rfl rfl ?_
                refine r_aa dX5_seek_158 rfl (by decide) q2 (rf93 q2) ?_
                refine r_p (pc2 := 161) dX5_seek_159 rfl rfl ?_
                refine r_get dX5_seek_161 fkX5_110 q6 rfl ?_
                refine r_p (pc2 := 165) dX5_seek_164 rfl rfl ?_
                refine r_get dX5_seek_165 fkX5_69 rfl rfl ?_
                obtain ⟨q14, kk⟩ := kk
                refine r_cv (d1 := 2) dX5_seek_168 cvX5_179 rfl rfl (shr93 q13) rfl (Nat.le_of_ble_eq_true rfl) (Nat.le_of_ble_eq_true rfl) (Nat.le_of_ble_eq_true rfl) (c_ta_add (507 + 5 * (l1 + 1 : Int32).toNatClampNeg) (507 + 5 * (l1 : Int32).toNatClampNeg) (r2 + 3) ((sA ((x_pl_leavesOpen T l1 (l3 + v4)).2) 95 (l1 : Int32).toNatClampNeg (l3 + v4)).2.1 3) q14) ?_
                refine r_nT (R := rV) rfl kk (fun T4 kk => ?_)
                show tR _ _ _ _ [some (.ref (80 : Nat)), some (.int l1), some (.int l2), some (.int l3), some (.int v4), some (.ref r2)] [] _ _ _
                exact (hJ1 T4 kk)
      · refine r_ip (R := rV) c56_3 ?_
        have kk := kk.1 c56_3
        refine r_go dX5_seek_59 rfl ?_
        refine r_inc (L2 := [some (.ref (80 : Nat)), some (.int l1), some (.int l2), some (.int l3), some (.int (v4 + 1)), none]) (y := 1) dX5_seek_185 rfl rfl rfl ?_
        refine r_go dX5_seek_188 rfl ?_
        show tR _ _ _ _ [some (.ref (80 : Nat)), some (.int l1), some (.int l2), some (.int l3), some (.int (v4 + 1)), none] _ _ _ _
        exact (ih (v4 + 1) T kk)
def x_pl_seek1 (T : St) (p0 : Int32) (p1 : Int32) : St := if p0 < (T.1 80 12) then (jn (fun (i1 : Int32) => x_pl_seek1_27 p0 p1 i1 (fun (w1_4 : Int32) (T201 : St) => T201) 1000 0 T) ((T.2.2.1 94 (p0 : Int32).toNatClampNeg) * 12)) else (x_pl_keepPicked T p1)
def ok_pl_seek1 (T : St) (p0 : Int32) (p1 : Int32) : Prop := ((p0 < (T.1 80 12) → (vp_in p0 4) ∧ jn (fun (i1 : Int32) => ok_pl_seek1_27 p0 p1 i1 (fun (w1_4 : Int32) (T201 : St) => True) 1000 0 T) ((T.2.2.1 94 (p0 : Int32).toNatClampNeg) * 12)) ∧ (¬ p0 < (T.1 80 12) → (ok_pl_keepPicked T p1) ∧ True))
theorem c_pl_seek1 {X : Nat × (Nat → Int32)} {T : St} (p0 : Int32) (p1 : Int32) (kk : ok_pl_seek1 T p0 p1) : tC X 6 mX5_seek [.ref (80 : Nat), .int p0, .int p1] T none (x_pl_seek1 T p0 p1) := by
  unfold ok_pl_seek1 at kk
  refine tC_orV (L := [some (.ref (80 : Nat)), some (.int p0), some (.int p1), none, none, none]) (x_pl_seek1 T p0 p1) rfl ?_
  unfold x_pl_seek1
  refine r_p (pc2 := 1) dX5_seek_0 rfl rfl ?_
  refine r_p (pc2 := 2) dX5_seek_1 rfl rfl ?_
  refine r_get dX5_seek_2 fkX5_172 rfl rfl ?_
  refine r_clt dX5_seek_5 rfl (fun c5_1 => ?_) (fun c5_1 => ?_)
  · refine r_ip (R := rV) c5_1 ?_
    have kk := kk.1 c5_1
    refine r_p (pc2 := 15) dX5_seek_14 rfl rfl ?_
    refine r_get dX5_seek_15 fkX5_35 rfl rfl ?_
    refine r_p (pc2 := 19) dX5_seek_18 rfl rfl ?_
    obtain ⟨q1, kk⟩ := kk
    refine r_ia dX5_seek_19 rfl q1 ?_
    refine r_cb (x := 12) dX5_seek_20 rfl ?_
    refine r_p (pc2 := 23) dX5_seek_22 rfl rfl ?_
    refine r_nI (R := rV) rfl kk (fun i1 kk => ?_)
    refine r_p (pc2 := 24) (L2 := [some (.ref (80 : Nat)), some (.int p0), some (.int p1), some (.int i1), none, none]) dX5_seek_23 rfl rfl ?_
    refine r_ci (x := 0) dX5_seek_24 rfl ?_
    refine r_p (pc2 := 27) (L2 := [some (.ref (80 : Nat)), some (.int p0), some (.int p1), some (.int i1), some (.int 0), none]) dX5_seek_25 rfl rfl ?_
    show tR _ _ _ _ [some (.ref (80 : Nat)), some (.int p0), some (.int p1), some (.int i1), some (.int 0), none] _ _ _ _
    refine (c_pl_seek1_27 p0 p1 i1 (fun w1_4 T201 kk => ?_) 1000 0 T kk)
    · skip
      exact r_qV dX5_seek_191 rfl rfl
  · refine r_in (R := rV) c5_1 ?_
    have kk := kk.2 c5_1
    refine r_p (pc2 := 9) dX5_seek_8 rfl rfl ?_
    refine r_p (pc2 := 10) dX5_seek_9 rfl rfl ?_
    obtain ⟨q15, kk⟩ := kk
    refine r_cv (d1 := 1) dX5_seek_10 cvX5_183 rfl rfl rfl rfl (Nat.le_of_ble_eq_true rfl) (Nat.le_of_ble_eq_true rfl) (Nat.le_of_ble_eq_true rfl) (c_pl_keepPicked p1 q15) ?_
    exact r_qV dX5_seek_13 rfl rfl
def x_pl_seek2_27 (l1 : Int32) (l2 : Int32) (l3 : Int32) (K : Int32 → St → St) : Nat → Int32 → St → St
  | 0, _, T => T
  | f + 1, v4, T => if (T.2.2.1 82 (T.2.2.1 94 (l1 : Int32).toNatClampNeg : Int32).toNatClampNeg) ≤ v4 then (K v4 T) else (if (((T.2.2.1 (100 + (l1 : Int32).toNatClampNeg) (l1 : Int32).toNatClampNeg) >>> (v4 &&& 31)) &&& 1) = 0 then (x_pl_seek2_27 l1 l2 l3 K f (v4 + 1) T) else (jn (fun (r2 : Nat) => if (T.1 80 13) ≤ ((l2 + (T.1 r2 5)) + (T.2.2.1 97 (l1 + 1 : Int32).toNatClampNeg)) then (x_pl_seek2_27 l1 l2 l3 K f (v4 + 1) T) else (if (x_ta_hasRoom T (507 + 5 * (l1 : Int32).toNatClampNeg) (r2 + 3)) = 0 then (x_pl_seek2_27 l1 l2 l3 K f (v4 + 1) T) else (if ((x_pl_leavesOpen T l1 (l3 + v4)).1) = 0 then (x_pl_seek2_27 l1 l2 l3 K f (v4 + 1) ((x_pl_leavesOpen T l1 (l3 + v4)).2)) else (jn (fun (KJ1 : St → St) => if ((sA ((x_pl_leavesOpen T l1 (l3 + v4)).2) 95 (l1 : Int32).toNatClampNeg (l3 + v4)).1 80 12) ≤ (l1 + 1) then (KJ1 (sA ((x_pl_leavesOpen T l1 (l3 + v4)).2) 95 (l1 : Int32).toNatClampNeg (l3 + v4))) else (jn (fun (T4 : St) => KJ1 T4) (x_ta_add (sA ((x_pl_leavesOpen T l1 (l3 + v4)).2) 95 (l1 : Int32).toNatClampNeg (l3 + v4)) (507 + 5 * (l1 + 1 : Int32).toNatClampNeg) (507 + 5 * (l1 : Int32).toNatClampNeg) (r2 + 3) ((sA ((x_pl_leavesOpen T l1 (l3 + v4)).2) 95 (l1 : Int32).toNatClampNeg (l3 + v4)).2.1 3)))) (fun (T301 : St) => x_pl_seek2_27 l1 l2 l3 K f (v4 + 1) (x_pl_seek1 T301 (l1 + 1) (l2 + (T301.1 r2 5)))))))) (123 + 4 * (l3 + v4 : Int32).toNatClampNeg)))
def ok_pl_seek2_27 (l1 : Int32) (l2 : Int32) (l3 : Int32) (Kk : Int32 → St → Prop) : Nat → Int32 → St → Prop
  | 0, _, _ => False
  | f + 1, v4, T => (vp_in l1 4) ∧ (vp_in (T.2.2.1 94 (l1 : Int32).toNatClampNeg) 8) ∧ (((T.2.2.1 82 (T.2.2.1 94 (l1 : Int32).toNatClampNeg : Int32).toNatClampNeg) ≤ v4 → Kk v4 T) ∧ (¬ (T.2.2.1 82 (T.2.2.1 94 (l1 : Int32).toNatClampNeg : Int32).toNatClampNeg) ≤ v4 → (vp_in l1 5) ∧ (((((T.2.2.1 (100 + (l1 : Int32).toNatClampNeg) (l1 : Int32).toNatClampNeg) >>> (v4 &&& 31)) &&& 1) = 0 → ok_pl_seek2_27 l1 l2 l3 Kk f (v4 + 1) T) ∧ (¬ (((T.2.2.1 (100 + (l1 : Int32).toNatClampNeg) (l1 : Int32).toNatClampNeg) >>> (v4 &&& 31)) &&& 1) = 0 → (vp_in (l3 + v4) 96) ∧ jn (fun (r2 : Nat) => (sh r2 = .inr 10) ∧ (vp_in (l1 + 1) 5) ∧ (((T.1 80 13) ≤ ((l2 + (T.1 r2 5)) + (T.2.2.1 97 (l1 + 1 : Int32).toNatClampNeg)) → ok_pl_seek2_27 l1 l2 l3 Kk f (v4 + 1) T) ∧ (¬ (T.1 80 13) ≤ ((l2 + (T.1 r2 5)) + (T.2.2.1 97 (l1 + 1 : Int32).toNatClampNeg)) → (ok_ta_hasRoom T (507 + 5 * (l1 : Int32).toNatClampNeg) (r2 + 3)) ∧ (((x_ta_hasRoom T (507 + 5 * (l1 : Int32).toNatClampNeg) (r2 + 3)) = 0 → ok_pl_seek2_27 l1 l2 l3 Kk f (v4 + 1) T) ∧ (¬ (x_ta_hasRoom T (507 + 5 * (l1 : Int32).toNatClampNeg) (r2 + 3)) = 0 → (ok_pl_leavesOpen T l1 (l3 + v4)) ∧ ((((x_pl_leavesOpen T l1 (l3 + v4)).1) = 0 → ok_pl_seek2_27 l1 l2 l3 Kk f (v4 + 1) ((x_pl_leavesOpen T l1 (l3 + v4)).2)) ∧ (¬ ((x_pl_leavesOpen T l1 (l3 + v4)).1) = 0 → jn (fun (OJ1 : St → Prop) => ((((sA ((x_pl_leavesOpen T l1 (l3 + v4)).2) 95 (l1 : Int32).toNatClampNeg (l3 + v4)).1 80 12) ≤ (l1 + 1) → OJ1 (sA ((x_pl_leavesOpen T l1 (l3 + v4)).2) 95 (l1 : Int32).toNatClampNeg (l3 + v4))) ∧ (¬ ((sA ((x_pl_leavesOpen T l1 (l3 + v4)).2) 95 (l1 : Int32).toNatClampNeg (l3 + v4)).1 80 12) ≤ (l1 + 1) → (vp_in (l1 + 1) 4) ∧ (ok_ta_add (sA ((x_pl_leavesOpen T l1 (l3 + v4)).2) 95 (l1 : Int32).toNatClampNeg (l3 + v4)) (507 + 5 * (l1 + 1 : Int32).toNatClampNeg) (507 + 5 * (l1 : Int32).toNatClampNeg) (r2 + 3) ((sA ((x_pl_leavesOpen T l1 (l3 + v4)).2) 95 (l1 : Int32).toNatClampNeg (l3 + v4)).2.1 3)) ∧ jn (fun (T4 : St) => OJ1 T4) (x_ta_add (sA ((x_pl_leavesOpen T l1 (l3 + v4)).2) 95 (l1 : Int32).toNatClampNeg (l3 + v4)) (507 + 5 * (l1 + 1 : Int32).toNatClampNeg) (507 + 5 * (l1 : Int32).toNatClampNeg) (r2 + 3) ((sA ((x_pl_leavesOpen T l1 (l3 + v4)).2) 95 (l1 : Int32).toNatClampNeg (l3 + v4)).2.1 3))))) (fun (T301 : St) => (ok_pl_seek1 T301 (l1 + 1) (l2 + (T301.1 r2 5))) ∧ ok_pl_seek2_27 l1 l2 l3 Kk f (v4 + 1) (x_pl_seek1 T301 (l1 + 1) (l2 + (T301.1 r2 5))))))))))) (123 + 4 * (l3 + v4 : Int32).toNatClampNeg)))))
theorem c_pl_seek2_27 {X : Nat × (Nat → Int32)} (l1 : Int32) (l2 : Int32) (l3 : Int32) {K : Int32 → St → St} {Kk : Int32 → St → Prop} (hk : ∀ (v4 : Int32) (T : St), Kk v4 T → tR X 6 mX5_seek 191 [some (.ref (80 : Nat)), some (.int l1), some (.int l2), some (.int l3), some (.int v4), none] [] T (rV (K v4 T)).1 ((rV (K v4 T)).2)) : ∀ (f : Nat) (v4 : Int32) (T : St), ok_pl_seek2_27 l1 l2 l3 Kk f v4 T → tR X 6 mX5_seek 27 [some (.ref (80 : Nat)), some (.int l1), some (.int l2), some (.int l3), some (.int v4), none] [] T (rV (x_pl_seek2_27 l1 l2 l3 K f v4 T)).1 ((rV (x_pl_seek2_27 l1 l2 l3 K f v4 T)).2) := by
  intro f
  induction f with
  | zero => intro v4 T kk; exact kk.elim
  | succ f ih =>
    intro v4 T kk
    rw [ok_pl_seek2_27] at kk
    rw [x_pl_seek2_27]
    refine r_p (pc2 := 29) dX5_seek_27 rfl rfl ?_
    refine r_p (pc2 := 30) dX5_seek_29 rfl rfl ?_
    refine r_get dX5_seek_30 fkX5_17 rfl rfl ?_
    refine r_p (pc2 := 34) dX5_seek_33 rfl rfl ?_
    refine r_get dX5_seek_34 fkX5_35 rfl rfl ?_
    refine r_p (pc2 := 38) dX5_seek_37 rfl rfl ?_
    obtain ⟨q2, kk⟩ := kk
    refine r_ia dX5_seek_38 rfl q2 ?_
    obtain ⟨q3, kk⟩ := kk
    refine r_ia dX5_seek_39 rfl q3 ?_
    refine r_cge dX5_seek_40 rfl (fun c40_2 => ?_) (fun c40_2 => ?_)
    · refine r_ip (R := rV) c40_2 ?_
      have kk := kk.1 c40_2
      show tR _ _ _ _ [some (.ref (80 : Nat)), some (.int l1), some (.int l2), some (.int l3), some (.int v4), none] _ _ _ _
      exact (hk v4 T kk)
    · refine r_in (R := rV) c40_2 ?_
      have kk := kk.2 c40_2
      refine r_p (pc2 := 44) dX5_seek_43 rfl rfl ?_
      refine r_get dX5_seek_44 fkX5_52 rfl rfl ?_
      refine r_p (pc2 := 48) dX5_seek_47 rfl rfl ?_
      obtain ⟨q4, kk⟩ := kk
      refine r_aa dX5_seek_48 rfl (by decide) q4 (rf99 q4) ?_
      refine r_p (pc2 := 50) dX5_seek_49 rfl rfl ?_
      refine r_ia dX5_seek_50 (shr99 q4) q2 ?_
      refine r_p (pc2 := 53) dX5_seek_51 rfl rfl ?_
      refine r_p (pc2 := 54) dX5_seek_53 rfl rfl ?_
      refine r_ci (x := 1) dX5_seek_54 rfl ?_
      refine r_p (pc2 := 56) dX5_seek_55 rfl rfl ?_
      refine r_ine dX5_seek_56 rfl (fun c56_3 => ?_) (fun c56_3 => ?_)
      · refine r_in (R := rV) c56_3 ?_
        have kk := kk.2 c56_3
        refine r_p (pc2 := 63) dX5_seek_62 rfl rfl ?_
        refine r_get dX5_seek_63 fkX5_11 rfl rfl ?_
        refine r_p (pc2 := 67) dX5_seek_66 rfl rfl ?_
        refine r_p (pc2 := 69) dX5_seek_67 rfl rfl ?_
        refine r_p (pc2 := 70) dX5_seek_69 rfl rfl ?_
        obtain ⟨q5, kk⟩ := kk
        refine r_aa dX5_seek_70 rfl (by decide) q5 (rf81 q5) ?_
        refine r_nR (R := rV) rfl kk (fun r2 kk => ?_)
        refine r_p (pc2 := 73) (L2 := [some (.ref (80 : Nat)), some (.int l1), some (.int l2), some (.int l3), some (.int v4), some (.ref r2)]) dX5_seek_71 rfl rfl ?_
        refine r_p (pc2 := 74) dX5_seek_73 rfl rfl ?_
        refine r_p (pc2 := 76) dX5_seek_74 rfl rfl ?_
        obtain ⟨q6, kk⟩ := kk
        refine r_get dX5_seek_76 fkX5_100 q6 rfl ?_
        refine r_p (pc2 := 80) dX5_seek_79 rfl rfl ?_
        refine r_p (pc2 := 81) dX5_seek_80 rfl rfl ?_
        refine r_get dX5_seek_81 fkX5_44 rfl rfl ?_
        refine r_p (pc2 := 85) dX5_seek_84 rfl rfl ?_
        refine r_ci (x := 1) dX5_seek_85 rfl ?_
        refine r_p (pc2 := 87) dX5_seek_86 rfl rfl ?_
        obtain ⟨q7, kk⟩ := kk
        refine r_ia dX5_seek_87 rfl q7 ?_
        refine r_p (pc2 := 89) dX5_seek_88 rfl rfl ?_
        refine r_p (pc2 := 90) dX5_seek_89 rfl rfl ?_
        refine r_get dX5_seek_90 fkX5_160 rfl rfl ?_
        refine r_cge dX5_seek_93 rfl (fun c93_4 => ?_) (fun c93_4 => ?_)
        · refine r_ip (R := rV) c93_4 ?_
          have kk := kk.1 c93_4
          refine r_inc (L2 := [some (.ref (80 : Nat)), some (.int l1), some (.int l2), some (.int l3), some (.int (v4 + 1)), some (.ref r2)]) (y := 1) dX5_seek_185 rfl rfl rfl ?_
          refine r_go dX5_seek_188 rfl ?_
          show tR _ _ _ _ [some (.ref (80 : Nat)), some (.int l1), some (.int l2), some (.int l3), some (.int (v4 + 1)), some (.ref r2)] _ _ _ _
          exact r_le (le_s (le_s (le_s (le_s (le_s (le_n (le_0))))))) (ih (v4 + 1) T kk)
        · refine r_in (R := rV) c93_4 ?_
          have kk := kk.2 c93_4
          refine r_p (pc2 := 97) dX5_seek_96 rfl rfl ?_
          refine r_get dX5_seek_97 fkX5_31 rfl rfl ?_
          refine r_p (pc2 := 101) dX5_seek_100 rfl rfl ?_
          refine r_aa dX5_seek_101 rfl (by decide) q2 (rf93 q2) ?_
          refine r_p (pc2 := 104) dX5_seek_102 rfl rfl ?_
          refine r_get dX5_seek_104 fkX5_110 q6 rfl ?_
          obtain ⟨q8, kk⟩ := kk
          refine r_cv (d1 := 1) dX5_seek_107 cvX5_114 rfl rfl (shr93 q2) rfl (Nat.le_of_ble_eq_true rfl) (Nat.le_of_ble_eq_true rfl) (Nat.le_of_ble_eq_true rfl) (c_ta_hasRoom (507 + 5 * (l1 : Int32).toNatClampNeg) (r2 + 3) q8) ?_
          refine r_ieq dX5_seek_110 rfl (fun c110_5 => ?_) (fun c110_5 => ?_)
          · refine r_ip (R := rV) c110_5 ?_
            have kk := kk.1 c110_5
            refine r_inc (L2 := [some (.ref (80 : Nat)), some (.int l1), some (.int l2), some (.int l3), some (.int (v4 + 1)), some (.ref r2)]) (y := 1) dX5_seek_185 rfl rfl rfl ?_
            refine r_go dX5_seek_188 rfl ?_
            show tR _ _ _ _ [some (.ref (80 : Nat)), some (.int l1), some (.int l2), some (.int l3), some (.int (v4 + 1)), some (.ref r2)] _ _ _ _
            exact r_le (le_s (le_s (le_s (le_s (le_s (le_n (le_0))))))) (ih (v4 + 1) T kk)
          · refine r_in (R := rV) c110_5 ?_
            have kk := kk.2 c110_5
            refine r_p (pc2 := 114) dX5_seek_113 rfl rfl ?_
            refine r_p (pc2 := 115) dX5_seek_114 rfl rfl ?_
            refine r_p (pc2 := 116) dX5_seek_115 rfl rfl ?_
            refine r_p (pc2 := 118) dX5_seek_116 rfl rfl ?_
            refine r_p (pc2 := 119) dX5_seek_118 rfl rfl ?_
            obtain ⟨q9, kk⟩ := kk
            refine r_cv (d1 := 4) dX5_seek_119 cvX5_186 rfl rfl rfl rfl (Nat.le_of_ble_eq_true rfl) (Nat.le_of_ble_eq_true rfl) (Nat.le_of_ble_eq_true rfl) (c_pl_leavesOpen l1 (l3 + v4) q9) ?_
            refine r_ieq dX5_seek_122 rfl (fun c122_6 => ?_) (fun c122_6 => ?_)
            · refine r_ip (R := rV) c122_6 ?_
              have kk := kk.1 c122_6
              refine r_inc (L2 := [some (.ref (80 : Nat)), some (.int l1), some (.int l2), some (.int l3), some (.int (v4 + 1)), some (.ref r2)]) (y := 1) dX5_seek_185 rfl rfl rfl ?_
              refine r_go dX5_seek_188 rfl ?_
              show tR _ _ _ _ [some (.ref (80 : Nat)), some (.int l1), some (.int l2), some (.int l3), some (.int (v4 + 1)), some (.ref r2)] _ _ _ _
              exact r_le (le_s (le_s (le_s (le_s (le_s (le_n (le_0))))))) (ih (v4 + 1) ((x_pl_leavesOpen T l1 (l3 + v4)).2) kk)
            · refine r_in (R := rV) c122_6 ?_
              have kk := kk.2 c122_6
              refine r_p (pc2 := 126) dX5_seek_125 rfl rfl ?_
              refine r_get dX5_seek_126 fkX5_38 rfl rfl ?_
              refine r_p (pc2 := 130) dX5_seek_129 rfl rfl ?_
              refine r_p (pc2 := 131) dX5_seek_130 rfl rfl ?_
              refine r_p (pc2 := 133) dX5_seek_131 rfl rfl ?_
              refine r_p (pc2 := 134) dX5_seek_133 rfl rfl ?_
              refine r_ias dX5_seek_134 rfl q2 ?_
              refine r_p (pc2 := 136) dX5_seek_135 rfl rfl ?_
              refine r_ci (x := 1) dX5_seek_136 rfl ?_
              refine r_p (pc2 := 138) dX5_seek_137 rfl rfl ?_
              refine r_p (pc2 := 139) dX5_seek_138 rfl rfl ?_
              refine r_get dX5_seek_139 fkX5_172 rfl rfl ?_
              refine r_jn (R := rV) (J := fun (KJ1 : St → St) (OJ1 : St → Prop) => ∀ (T301 : St), OJ1 T301 → tR X 6 mX5_seek 171 [some (.ref (80 : Nat)), some (.int l1), some (.int l2), some (.int l3), some (.int v4), some (.ref r2)] [] T301 (rV (KJ1 T301)).1 (rV (KJ1 T301)).2) kk (fun T301 kk => ?_) (fun KJ1 OJ1 hJ1 kk => ?_)
              · skip
                refine r_p (pc2 := 172) dX5_seek_171 rfl rfl ?_
                refine r_p (pc2 := 173) dX5_seek_172 rfl rfl ?_
                refine r_ci (x := 1) dX5_seek_173 rfl ?_
                refine r_p (pc2 := 175) dX5_seek_174 rfl rfl ?_
                refine r_p (pc2 := 176) dX5_seek_175 rfl rfl ?_
                refine r_p (pc2 := 178) dX5_seek_176 rfl rfl ?_
                refine r_get dX5_seek_178 fkX5_100 q6 rfl ?_
                refine r_p (pc2 := 182) dX5_seek_181 rfl rfl ?_
                obtain ⟨q12, kk⟩ := kk
                refine r_cv (d1 := 6) dX5_seek_182 cvX5_169 rfl rfl rfl rfl (Nat.le_of_ble_eq_true rfl) (Nat.le_of_ble_eq_true rfl) (Nat.le_of_ble_eq_true rfl) (c_pl_seek1 (l1 + 1) (l2 + (T301.1 r2 5)) q12) ?_
                refine r_inc (L2 := [some (.ref (80 : Nat)), some (.int l1), some (.int l2), some (.int l3), some (.int (v4 + 1)), some (.ref r2)]) (y := 1) dX5_seek_185 rfl rfl rfl ?_
                refine r_go dX5_seek_188 rfl ?_
                show tR _ _ _ _ [some (.ref (80 : Nat)), some (.int l1), some (.int l2), some (.int l3), some (.int (v4 + 1)), some (.ref r2)] _ _ _ _
                exact r_le (le_s (le_s (le_s (le_s (le_s (le_n (le_0))))))) (ih (v4 + 1) (x_pl_seek1 T301 (l1 + 1) (l2 + (T301.1 r2 5))) kk)
              refine r_cge dX5_seek_142 rfl (fun c142_8 => ?_) (fun c142_8 => ?_)
              · refine r_ip (R := rV) c142_8 ?_
                have kk := kk.1 c142_8
                show tR _ _ _ _ [some (.ref (80 : Nat)), some (.int l1), some (.int l2), some (.int l3), some (.int v4), some (.ref r2)] [] _ _ _
                exact (hJ1 (sA ((x_pl_leavesOpen T l1 (l3 + v4)).2) 95 (l1 : Int32).toNatClampNeg (l3 + v4)) kk)
              · refine r_in (R := rV) c142_8 ?_
                have kk := kk.2 c142_8
                refine r_p (pc2 := 146) dX5_seek_145 rfl rfl ?_
                refine r_get dX5_seek_146 fkX5_31 rfl rfl ?_
                refine r_p (pc2 := 150) dX5_seek_149 rfl rfl ?_
                refine r_ci (x := 1) dX5_seek_150 rfl ?_
                refine r_p (pc2 := 152) dX5_seek_151 rfl rfl ?_
                obtain ⟨q13, kk⟩ := kk
                refine r_aa dX5_seek_152 rfl (by decide) q13 (rf93 q13) ?_
                refine r_p (pc2 := 154) dX5_seek_153 rfl rfl ?_
                refine r_get dX5_seek_154 fkX5_31 rfl rfl ?_
                refine r_p (pc2 := 158) dX5_seek_157 rfl rfl ?_
                refine r_aa dX5_seek_158 rfl (by decide) q2 (rf93 q2) ?_
                refine r_p (pc2 := 161) dX5_seek_159 rfl rfl ?_
                refine r_get dX5_seek_161 fkX5_110 q6 rfl ?_
                refine r_p (pc2 := 165) dX5_seek_164 rfl rfl ?_
                refine r_get dX5_seek_165 fkX5_69 rfl rfl ?_
                obtain ⟨q14, kk⟩ := kk
                refine r_cv (d1 := 2) dX5_seek_168 cvX5_179 rfl rfl (shr93 q13) rfl (Nat.le_of_ble_eq_true rfl) (Nat.le_of_ble_eq_true rfl) (Nat.le_of_ble_eq_true rfl) (c_ta_add (507 + 5 * (l1 + 1 : Int32).toNatClampNeg) (507 + 5 * (l1 : Int32).toNatClampNeg) (r2 + 3) ((sA ((x_pl_leavesOpen T l1 (l3 + v4)).2) 95 (l1 : Int32).toNatClampNeg (l3 + v4)).2.1 3) q14) ?_
                refine r_nT (R := rV) rfl kk (fun T4 kk => ?_)
                show tR _ _ _ _ [some (.ref (80 : Nat)), some (.int l1), some (.int l2), some (.int l3), some (.int v4), some (.ref r2)] [] _ _ _
                exact (hJ1 T4 kk)
      · refine r_ip (R := rV) c56_3 ?_
        have kk := kk.1 c56_3
        refine r_go dX5_seek_59 rfl ?_
        refine r_inc (L2 := [some (.ref (80 : Nat)), some (.int l1), some (.int l2), some (.int l3), some (.int (v4 + 1)), none]) (y := 1) dX5_seek_185 rfl rfl rfl ?_
        refine r_go dX5_seek_188 rfl ?_
        show tR _ _ _ _ [some (.ref (80 : Nat)), some (.int l1), some (.int l2), some (.int l3), some (.int (v4 + 1)), none] _ _ _ _
        exact (ih (v4 + 1) T kk)
def x_pl_seek2 (T : St) (p0 : Int32) (p1 : Int32) : St := if p0 < (T.1 80 12) then (jn (fun (i1 : Int32) => x_pl_seek2_27 p0 p1 i1 (fun (w1_4 : Int32) (T201 : St) => T201) 1000 0 T) ((T.2.2.1 94 (p0 : Int32).toNatClampNeg) * 12)) else (x_pl_keepPicked T p1)
def ok_pl_seek2 (T : St) (p0 : Int32) (p1 : Int32) : Prop := ((p0 < (T.1 80 12) → (vp_in p0 4) ∧ jn (fun (i1 : Int32) => ok_pl_seek2_27 p0 p1 i1 (fun (w1_4 : Int32) (T201 : St) => True) 1000 0 T) ((T.2.2.1 94 (p0 : Int32).toNatClampNeg) * 12)) ∧ (¬ p0 < (T.1 80 12) → (ok_pl_keepPicked T p1) ∧ True))
theorem c_pl_seek2 {X : Nat × (Nat → Int32)} {T : St} (p0 : Int32) (p1 : Int32) (kk : ok_pl_seek2 T p0 p1) : tC X 7 mX5_seek [.ref (80 : Nat), .int p0, .int p1] T none (x_pl_seek2 T p0 p1) := by
  unfold ok_pl_seek2 at kk
  refine tC_orV (L := [some (.ref (80 : Nat)), some (.int p0), some (.int p1), none, none, none]) (x_pl_seek2 T p0 p1) rfl ?_
  unfold x_pl_seek2
  refine r_p (pc2 := 1) dX5_seek_0 rfl rfl ?_
  refine r_p (pc2 := 2) dX5_seek_1 rfl rfl ?_
  refine r_get dX5_seek_2 fkX5_172 rfl rfl ?_
  refine r_clt dX5_seek_5 rfl (fun c5_1 => ?_) (fun c5_1 => ?_)
  · refine r_ip (R := rV) c5_1 ?_
    have kk := kk.1 c5_1
    refine r_p (pc2 := 15) dX5_seek_14 rfl rfl ?_
    refine r_get dX5_seek_15 fkX5_35 rfl rfl ?_
    refine r_p (pc2 := 19) dX5_seek_18 rfl rfl ?_
    obtain ⟨q1, kk⟩ := kk
    refine r_ia dX5_seek_19 rfl q1 ?_
    refine r_cb (x := 12) dX5_seek_20 rfl ?_
    refine r_p (pc2 := 23) dX5_seek_22 rfl rfl ?_
    refine r_nI (R := rV) rfl kk (fun i1 kk => ?_)
    refine r_p (pc2 := 24) (L2 := [some (.ref (80 : Nat)), some (.int p0), some (.int p1), some (.int i1), none, none]) dX5_seek_23 rfl rfl ?_
    refine r_ci (x := 0) dX5_seek_24 rfl ?_
    refine r_p (pc2 := 27) (L2 := [some (.ref (80 : Nat)), some (.int p0), some (.int p1), some (.int i1), some (.int 0), none]) dX5_seek_25 rfl rfl ?_
    show tR _ _ _ _ [some (.ref (80 : Nat)), some (.int p0), some (.int p1), some (.int i1), some (.int 0), none] _ _ _ _
    refine (c_pl_seek2_27 p0 p1 i1 (fun w1_4 T201 kk => ?_) 1000 0 T kk)
    · skip
      exact r_qV dX5_seek_191 rfl rfl
  · refine r_in (R := rV) c5_1 ?_
    have kk := kk.2 c5_1
    refine r_p (pc2 := 9) dX5_seek_8 rfl rfl ?_
    refine r_p (pc2 := 10) dX5_seek_9 rfl rfl ?_
    obtain ⟨q15, kk⟩ := kk
    refine r_cv (d1 := 1) dX5_seek_10 cvX5_183 rfl rfl rfl rfl (Nat.le_of_ble_eq_true rfl) (Nat.le_of_ble_eq_true rfl) (Nat.le_of_ble_eq_true rfl) (c_pl_keepPicked p1 q15) ?_
    exact r_qV dX5_seek_13 rfl rfl
def x_pl_seek3_27 (l1 : Int32) (l2 : Int32) (l3 : Int32) (K : Int32 → St → St) : Nat → Int32 → St → St
  | 0, _, T => T
  | f + 1, v4, T => if (T.2.2.1 82 (T.2.2.1 94 (l1 : Int32).toNatClampNeg : Int32).toNatClampNeg) ≤ v4 then (K v4 T) else (if (((T.2.2.1 (100 + (l1 : Int32).toNatClampNeg) (l1 : Int32).toNatClampNeg) >>> (v4 &&& 31)) &&& 1) = 0 then (x_pl_seek3_27 l1 l2 l3 K f (v4 + 1) T) else (jn (fun (r2 : Nat) => if (T.1 80 13) ≤ ((l2 + (T.1 r2 5)) + (T.2.2.1 97 (l1 + 1 : Int32).toNatClampNeg)) then (x_pl_seek3_27 l1 l2 l3 K f (v4 + 1) T) else (if (x_ta_hasRoom T (507 + 5 * (l1 : Int32).toNatClampNeg) (r2 + 3)) = 0 then (x_pl_seek3_27 l1 l2 l3 K f (v4 + 1) T) else (if ((x_pl_leavesOpen T l1 (l3 + v4)).1) = 0 then (x_pl_seek3_27 l1 l2 l3 K f (v4 + 1) ((x_pl_leavesOpen T l1 (l3 + v4)).2)) else (jn (fun (KJ1 : St → St) => if ((sA ((x_pl_leavesOpen T l1 (l3 + v4)).2) 95 (l1 : Int32).toNatClampNeg (l3 + v4)).1 80 12) ≤ (l1 + 1) then (KJ1 (sA ((x_pl_leavesOpen T l1 (l3 + v4)).2) 95 (l1 : Int32).toNatClampNeg (l3 + v4))) else (jn (fun (T4 : St) => KJ1 T4) (x_ta_add (sA ((x_pl_leavesOpen T l1 (l3 + v4)).2) 95 (l1 : Int32).toNatClampNeg (l3 + v4)) (507 + 5 * (l1 + 1 : Int32).toNatClampNeg) (507 + 5 * (l1 : Int32).toNatClampNeg) (r2 + 3) ((sA ((x_pl_leavesOpen T l1 (l3 + v4)).2) 95 (l1 : Int32).toNatClampNeg (l3 + v4)).2.1 3)))) (fun (T301 : St) => x_pl_seek3_27 l1 l2 l3 K f (v4 + 1) (x_pl_seek2 T301 (l1 + 1) (l2 + (T301.1 r2 5)))))))) (123 + 4 * (l3 + v4 : Int32).toNatClampNeg)))
def ok_pl_seek3_27 (l1 : Int32) (l2 : Int32) (l3 : Int32) (Kk : Int32 → St → Prop) : Nat → Int32 → St → Prop
  | 0, _, _ => False
  | f + 1, v4, T => (vp_in l1 4) ∧ (vp_in (T.2.2.1 94 (l1 : Int32).toNatClampNeg) 8) ∧ (((T.2.2.1 82 (T.2.2.1 94 (l1 : Int32).toNatClampNeg : Int32).toNatClampNeg) ≤ v4 → Kk v4 T) ∧ (¬ (T.2.2.1 82 (T.2.2.1 94 (l1 : Int32).toNatClampNeg : Int32).toNatClampNeg) ≤ v4 → (vp_in l1 5) ∧ (((((T.2.2.1 (100 + (l1 : Int32).toNatClampNeg) (l1 : Int32).toNatClampNeg) >>> (v4 &&& 31)) &&& 1) = 0 → ok_pl_seek3_27 l1 l2 l3 Kk f (v4 + 1) T) ∧ (¬ (((T.2.2.1 (100 + (l1 : Int32).toNatClampNeg) (l1 : Int32).toNatClampNeg) >>> (v4 &&& 31)) &&& 1) = 0 → (vp_in (l3 + v4) 96) ∧ jn (fun (r2 : Nat) => (sh r2 = .inr 10) ∧ (vp_in (l1 + 1) 5) ∧ (((T.1 80 13) ≤ ((l2 + (T.1 r2 5)) + (T.2.2.1 97 (l1 + 1 : Int32).toNatClampNeg)) → ok_pl_seek3_27 l1 l2 l3 Kk f (v4 + 1) T) ∧ (¬ (T.1 80 13) ≤ ((l2 + (T.1 r2 5)) + (T.2.2.1 97 (l1 + 1 : Int32).toNatClampNeg)) → (ok_ta_hasRoom T (507 + 5 * (l1 : Int32).toNatClampNeg) (r2 + 3)) ∧ (((x_ta_hasRoom T (507 + 5 * (l1 : Int32).toNatClampNeg) (r2 + 3)) = 0 → ok_pl_seek3_27 l1 l2 l3 Kk f (v4 + 1) T) ∧ (¬ (x_ta_hasRoom T (507 + 5 * (l1 : Int32).toNatClampNeg) (r2 + 3)) = 0 → (ok_pl_leavesOpen T l1 (l3 + v4)) ∧ ((((x_pl_leavesOpen T l1 (l3 + v4)).1) = 0 → ok_pl_seek3_27 l1 l2 l3 Kk f (v4 + 1) ((x_pl_leavesOpen T l1 (l3 + v4)).2)) ∧ (¬ ((x_pl_leavesOpen T l1 (l3 + v4)).1) = 0 → jn (fun (OJ1 : St → Prop) => ((((sA ((x_pl_leavesOpen T l1 (l3 + v4)).2) 95 (l1 : Int32).toNatClampNeg (l3 + v4)).1 80 12) ≤ (l1 + 1) → OJ1 (sA ((x_pl_leavesOpen T l1 (l3 + v4)).2) 95 (l1 : Int32).toNatClampNeg (l3 + v4))) ∧ (¬ ((sA ((x_pl_leavesOpen T l1 (l3 + v4)).2) 95 (l1 : Int32).toNatClampNeg (l3 + v4)).1 80 12) ≤ (l1 + 1) → (vp_in (l1 + 1) 4) ∧ (ok_ta_add (sA ((x_pl_leavesOpen T l1 (l3 + v4)).2) 95 (l1 : Int32).toNatClampNeg (l3 + v4)) (507 + 5 * (l1 + 1 : Int32).toNatClampNeg) (507 + 5 * (l1 : Int32).toNatClampNeg) (r2 + 3) ((sA ((x_pl_leavesOpen T l1 (l3 + v4)).2) 95 (l1 : Int32).toNatClampNeg (l3 + v4)).2.1 3)) ∧ jn (fun (T4 : St) => OJ1 T4) (x_ta_add (sA ((x_pl_leavesOpen T l1 (l3 + v4)).2) 95 (l1 : Int32).toNatClampNeg (l3 + v4)) (507 + 5 * (l1 + 1 : Int32).toNatClampNeg) (507 + 5 * (l1 : Int32).toNatClampNeg) (r2 + 3) ((sA ((x_pl_leavesOpen T l1 (l3 + v4)).2) 95 (l1 : Int32).toNatClampNeg (l3 + v4)).2.1 3))))) (fun (T301 : St) => (ok_pl_seek2 T301 (l1 + 1) (l2 + (T301.1 r2 5))) ∧ ok_pl_seek3_27 l1 l2 l3 Kk f (v4 + 1) (x_pl_seek2 T301 (l1 + 1) (l2 + (T301.1 r2 5))))))))))) (123 + 4 * (l3 + v4 : Int32).toNatClampNeg)))))
theorem c_pl_seek3_27 {X : Nat × (Nat → Int32)} (l1 : Int32) (l2 : Int32) (l3 : Int32) {K : Int32 → St → St} {Kk : Int32 → St → Prop} (hk : ∀ (v4 : Int32) (T : St), Kk v4 T → tR X 7 mX5_seek 191 [some (.ref (80 : Nat)), some (.int l1), some (.int l2), some (.int l3), some (.int v4), none] [] T (rV (K v4 T)).1 ((rV (K v4 T)).2)) : ∀ (f : Nat) (v4 : Int32) (T : St), ok_pl_seek3_27 l1 l2 l3 Kk f v4 T → tR X 7 mX5_seek 27 [some (.ref (80 : Nat)), some (.int l1), some (.int l2), some (.int l3), some (.int v4), none] [] T (rV (x_pl_seek3_27 l1 l2 l3 K f v4 T)).1 ((rV (x_pl_seek3_27 l1 l2 l3 K f v4 T)).2) := by
  intro f
  induction f with
  | zero => intro v4 T kk; exact kk.elim
  | succ f ih =>
    intro v4 T kk
    rw [ok_pl_seek3_27] at kk
    rw [x_pl_seek3_27]
    refine r_p (pc2 := 29) dX5_seek_27 rfl rfl ?_
    refine r_p (pc2 := 30) dX5_seek_29 rfl rfl ?_
    refine r_get dX5_seek_30 fkX5_17 rfl rfl ?_
    refine r_p (pc2 := 34) dX5_seek_33 rfl rfl ?_
    refine r_get dX5_seek_34 fkX5_35 rfl rfl ?_
    refine r_p (pc2 := 38) dX5_seek_37 rfl rfl ?_
    obtain ⟨q2, kk⟩ := kk
    refine r_ia dX5_seek_38 rfl q2 ?_
    obtain ⟨q3, kk⟩ := kk
    refine r_ia dX5_seek_39 rfl q3 ?_
    refine r_cge dX5_seek_40 rfl (fun c40_2 => ?_) (fun c40_2 => ?_)
    · refine r_ip (R := rV) c40_2 ?_
      have kk := kk.1 c40_2
      show tR _ _ _ _ [some (.ref (80 : Nat)), some (.int l1), some (.int l2), some (.int l3), some (.int v4), none] _ _ _ _
      exact (hk v4 T kk)
    · refine r_in (R := rV) c40_2 ?_
      have kk := kk.2 c40_2
      refine r_p (pc2 := 44) dX5_seek_43 rfl rfl ?_
      refine r_get dX5_seek_44 fkX5_52 rfl rfl ?_
      refine r_p (pc2 := 48) dX5_seek_47 rfl rfl ?_
      obtain ⟨q4, kk⟩ := kk
      refine r_aa dX5_seek_48 rfl (by decide) q4 (rf99 q4) ?_
      refine r_p (pc2 := 50) dX5_seek_49 rfl rfl ?_
      refine r_ia dX5_seek_50 (shr99 q4) q2 ?_
      refine r_p (pc2 := 53) dX5_seek_51 rfl rfl ?_
      refine r_p (pc2 := 54) dX5_seek_53 rfl rfl ?_
      refine r_ci (x := 1) dX5_seek_54 rfl ?_
      refine r_p (pc2 := 56) dX5_seek_55 rfl rfl ?_
      refine r_ine dX5_seek_56 rfl (fun c56_3 => ?_) (fun c56_3 => ?_)
      · refine r_in (R := rV) c56_3 ?_
        have kk := kk.2 c56_3
        refine r_p (pc2 := 63) dX5_seek_62 rfl rfl ?_
        refine r_get dX5_seek_63 fkX5_11 rfl rfl ?_
        refine r_p (pc2 := 67) dX5_seek_66 rfl rfl ?_
        refine r_p (pc2 := 69) dX5_seek_67 rfl rfl ?_
        refine r_p (pc2 := 70) dX5_seek_69 rfl rfl ?_
        obtain ⟨q5, kk⟩ := kk
        refine r_aa dX5_seek_70 rfl (by decide) q5 (rf81 q5) ?_
        refine r_nR (R := rV) rfl kk (fun r2 kk => ?_)
        refine r_p (pc2 := 73) (L2 := [some (.ref (80 : Nat)), some (.int l1), some (.int l2), some (.int l3), some (.int v4), some (.ref r2)]) dX5_seek_71 rfl rfl ?_
        refine r_p (pc2 := 74) dX5_seek_73 rfl rfl ?_
        refine r_p (pc2 := 76) dX5_seek_74 rfl rfl ?_
        obtain ⟨q6, kk⟩ := kk
        refine r_get dX5_seek_76 fkX5_100 q6 rfl ?_
        refine r_p (pc2 := 80) dX5_seek_79 rfl rfl ?_
        refine r_p (pc2 := 81) dX5_seek_80 rfl rfl ?_
        refine r_get dX5_seek_81 fkX5_44 rfl rfl ?_
        refine r_p (pc2 := 85) dX5_seek_84 rfl rfl ?_
        refine r_ci (x := 1) dX5_seek_85 rfl ?_
        refine r_p (pc2 := 87) dX5_seek_86 rfl rfl ?_
        obtain ⟨q7, kk⟩ := kk
        refine r_ia dX5_seek_87 rfl q7 ?_
        refine r_p (pc2 := 89) dX5_seek_88 rfl rfl ?_
        refine r_p (pc2 := 90) dX5_seek_89 rfl rfl ?_
        refine r_get dX5_seek_90 fkX5_160 rfl rfl ?_
        refine r_cge dX5_seek_93 rfl (fun c93_4 => ?_) (fun c93_4 => ?_)
        · refine r_ip (R := rV) c93_4 ?_
          have kk := kk.1 c93_4
          refine r_inc (L2 := [some (.ref (80 : Nat)), some (.int l1), some (.int l2), some (.int l3), some (.int (v4 + 1)), some (.ref r2)]) (y := 1) dX5_seek_185 rfl rfl rfl ?_
          refine r_go dX5_seek_188 rfl ?_
          show tR _ _ _ _ [some (.ref (80 : Nat)), some (.int l1), some (.int l2), some (.int l3), some (.int (v4 + 1)), some (.ref r2)] _ _ _ _
          exact r_le (le_s (le_s (le_s (le_s (le_s (le_n (le_0))))))) (ih (v4 + 1) T kk)
        · refine r_in (R := rV) c93_4 ?_
          have kk := kk.2 c93_4
          refine r_p (pc2 := 97) dX5_seek_96 rfl rfl ?_
          refine r_get dX5_seek_97 fkX5_31 rfl rfl ?_
          refine r_p (pc2 := 101) dX5_seek_100 rfl rfl ?_
          refine r_aa dX5_seek_101 rfl (by decide) q2 (rf93 q2) ?_
          refine r_p (pc2 := 104) dX5_seek_102 rfl rfl ?_
          refine r_get dX5_seek_104 fkX5_110 q6 rfl ?_
          obtain ⟨q8, kk⟩ := kk
          refine r_cv (d1 := 1) dX5_seek_107 cvX5_114 rfl rfl (shr93 q2) rfl (Nat.le_of_ble_eq_true rfl) (Nat.le_of_ble_eq_true rfl) (Nat.le_of_ble_eq_true rfl) (c_ta_hasRoom (507 + 5 * (l1 : Int32).toNatClampNeg) (r2 + 3) q8) ?_
          refine r_ieq dX5_seek_110 rfl (fun c110_5 => ?_) (fun c110_5 => ?_)
          · refine r_ip (R := rV) c110_5 ?_
            have kk := kk.1 c110_5
            refine r_inc (L2 := [some (.ref (80 : Nat)), some (.int l1), some (.int l2), some (.int l3), some (.int (v4 + 1)), some (.ref r2)]) (y := 1) dX5_seek_185 rfl rfl rfl ?_
            refine r_go dX5_seek_188 rfl ?_
            show tR _ _ _ _ [some (.ref (80 : Nat)), some (.int l1), some (.int l2), some (.int l3), some (.int (v4 + 1)), some (.ref r2)] _ _ _ _
            exact r_le (le_s (le_s (le_s (le_s (le_s (le_n (le_0))))))) (ih (v4 + 1) T kk)
          · refine r_in (R := rV) c110_5 ?_
            have kk := kk.2 c110_5
            refine r_p (pc2 := 114) dX5_seek_113 rfl rfl ?_
            refine r_p (pc2 := 115) dX5_seek_114 rfl rfl ?_
            refine r_p (pc2 := 116) dX5_seek_115 rfl rfl ?_
            refine r_p (pc2 := 118) dX5_seek_116 rfl rfl ?_
            refine r_p (pc2 := 119) dX5_seek_118 rfl rfl ?_
            obtain ⟨q9, kk⟩ := kk
            refine r_cv (d1 := 4) dX5_seek_119 cvX5_186 rfl rfl rfl rfl (Nat.le_of_ble_eq_true rfl) (Nat.le_of_ble_eq_true rfl) (Nat.le_of_ble_eq_true rfl) (c_pl_leavesOpen l1 (l3 + v4) q9) ?_
            refine r_ieq dX5_seek_122 rfl (fun c122_6 => ?_) (fun c122_6 => ?_)
            · refine r_ip (R := rV) c122_6 ?_
              have kk := kk.1 c122_6
              refine r_inc (L2 := [some (.ref (80 : Nat)), some (.int l1), some (.int l2), some (.int l3), some (.int (v4 + 1)), some (.ref r2)]) (y := 1) dX5_seek_185 rfl rfl rfl ?_
              refine r_go dX5_seek_188 rfl ?_
              show tR _ _ _ _ [some (.ref (80 : Nat)), some (.int l1), some (.int l2), some (.int l3), some (.int (v4 + 1)), some (.ref r2)] _ _ _ _
              exact r_le (le_s (le_s (le_s (le_s (le_s (le_n (le_0))))))) (ih (v4 + 1) ((x_pl_leavesOpen T l1 (l3 + v4)).2) kk)
            · refine r_in (R := rV) c122_6 ?_
              have kk := kk.2 c122_6
              refine r_p (pc2 := 126) dX5_seek_125 rfl rfl ?_
              refine r_get dX5_seek_126 fkX5_38 rfl rfl ?_
              refine r_p (pc2 := 130) dX5_seek_129 rfl rfl ?_
              refine r_p (pc2 := 131) dX5_seek_130 rfl rfl ?_
              refine r_p (pc2 := 133) dX5_seek_131 rfl rfl ?_
              refine r_p (pc2 := 134) dX5_seek_133 rfl rfl ?_
              refine r_ias dX5_seek_134 rfl q2 ?_
              refine r_p (pc2 := 136) dX5_seek_135 rfl rfl ?_
              refine r_ci (x := 1) dX5_seek_136 rfl ?_
              refine r_p (pc2 := 138) dX5_seek_137 rfl rfl ?_
              refine r_p (pc2 := 139) dX5_seek_138 rfl rfl ?_
              refine r_get dX5_seek_139 fkX5_172 rfl rfl ?_
              refine r_jn (R := rV) (J := fun (KJ1 : St → St) (OJ1 : St → Prop) => ∀ (T301 : St), OJ1 T301 → tR X 7 mX5_seek 171 [some (.ref (80 : Nat)), some (.int l1), some (.int l2), some (.int l3), some (.int v4), some (.ref r2)] [] T301 (rV (KJ1 T301)).1 (rV (KJ1 T301)).2) kk (fun T301 kk => ?_) (fun KJ1 OJ1 hJ1 kk => ?_)
              · skip
                refine r_p (pc2 := 172) dX5_seek_171 rfl rfl ?_
                refine r_p (pc2 := 173) dX5_seek_172 rfl rfl ?_
                refine r_ci (x := 1) dX5_seek_173 rfl ?_
                refine r_p (pc2 := 175) dX5_seek_174 rfl rfl ?_
                refine r_p (pc2 := 176) dX5_seek_175 rfl rfl ?_
                refine r_p (pc2 := 178) dX5_seek_176 rfl rfl ?_
                refine r_get dX5_seek_178 fkX5_100 q6 rfl ?_
                refine r_p (pc2 := 182) dX5_seek_181 rfl rfl ?_
                obtain ⟨q12, kk⟩ := kk
                refine r_cv (d1 := 7) dX5_seek_182 cvX5_169 rfl rfl rfl rfl (Nat.le_of_ble_eq_true rfl) (Nat.le_of_ble_eq_true rfl) (Nat.le_of_ble_eq_true rfl) (c_pl_seek2 (l1 + 1) (l2 + (T301.1 r2 5)) q12) ?_
                refine r_inc (L2 := [some (.ref (80 : Nat)), some (.int l1), some (.int l2), some (.int l3), some (.int (v4 + 1)), some (.ref r2)]) (y := 1) dX5_seek_185 rfl rfl rfl ?_
                refine r_go dX5_seek_188 rfl ?_
                show tR _ _ _ _ [some (.ref (80 : Nat)), some (.int l1), some (.int l2), some (.int l3), some (.int (v4 + 1)), some (.ref r2)] _ _ _ _
                exact r_le (le_s (le_s (le_s (le_s (le_s (le_n (le_0))))))) (ih (v4 + 1) (x_pl_seek2 T301 (l1 + 1) (l2 + (T301.1 r2 5))) kk)
              refine r_cge dX5_seek_142 rfl (fun c142_8 => ?_) (fun c142_8 => ?_)
              · refine r_ip (R := rV) c142_8 ?_
                have kk := kk.1 c142_8
                show tR _ _ _ _ [some (.ref (80 : Nat)), some (.int l1), some (.int l2), some (.int l3), some (.int v4), some (.ref r2)] [] _ _ _
                exact (hJ1 (sA ((x_pl_leavesOpen T l1 (l3 + v4)).2) 95 (l1 : Int32).toNatClampNeg (l3 + v4)) kk)
              · refine r_in (R := rV) c142_8 ?_
                have kk := kk.2 c142_8
                refine r_p (pc2 := 146) dX5_seek_145 rfl rfl ?_
                refine r_get dX5_seek_146 fkX5_31 rfl rfl ?_
                refine r_p (pc2 := 150) dX5_seek_149 rfl rfl ?_
                refine r_ci (x := 1) dX5_seek_150 rfl ?_
                refine r_p (pc2 := 152) dX5_seek_151 rfl rfl ?_
                obtain ⟨q13, kk⟩ := kk
                refine r_aa dX5_seek_152 rfl (by decide) q13 (rf93 q13) ?_
                refine r_p (pc2 := 154) dX5_seek_153 rfl rfl ?_
                refine r_get dX5_seek_154 fkX5_31 rfl rfl ?_
                refine r_p (pc2 := 158) dX5_seek_157 rfl rfl ?_
                refine r_aa dX5_seek_158 rfl (by decide) q2 (rf93 q2) ?_
                refine r_p (pc2 := 161) dX5_seek_159 rfl rfl ?_
                refine r_get dX5_seek_161 fkX5_110 q6 rfl ?_
                refine r_p (pc2 := 165) dX5_seek_164 rfl rfl ?_
                refine r_get dX5_seek_165 fkX5_69 rfl rfl ?_
                obtain ⟨q14, kk⟩ := kk
                refine r_cv (d1 := 2) dX5_seek_168 cvX5_179 rfl rfl (shr93 q13) rfl (Nat.le_of_ble_eq_true rfl) (Nat.le_of_ble_eq_true rfl) (Nat.le_of_ble_eq_true rfl) (c_ta_add (507 + 5 * (l1 + 1 : Int32).toNatClampNeg) (507 + 5 * (l1 : Int32).toNatClampNeg) (r2 + 3) ((sA ((x_pl_leavesOpen T l1 (l3 + v4)).2) 95 (l1 : Int32).toNatClampNeg (l3 + v4)).2.1 3) q14) ?_
                refine r_nT (R := rV) rfl kk (fun T4 kk => ?_)
                show tR _ _ _ _ [some (.ref (80 : Nat)), some (.int l1), some (.int l2), some (.int l3), some (.int v4), some (.ref r2)] [] _ _ _
                exact (hJ1 T4 kk)
      · refine r_ip (R := rV) c56_3 ?_
        have kk := kk.1 c56_3
        refine r_go dX5_seek_59 rfl ?_
        refine r_inc (L2 := [some (.ref (80 : Nat)), some (.int l1), some (.int l2), some (.int l3), some (.int (v4 + 1)), none]) (y := 1) dX5_seek_185 rfl rfl rfl ?_
        refine r_go dX5_seek_188 rfl ?_
        show tR _ _ _ _ [some (.ref (80 : Nat)), some (.int l1), some (.int l2), some (.int l3), some (.int (v4 + 1)), none] _ _ _ _
        exact (ih (v4 + 1) T kk)
def x_pl_seek3 (T : St) (p0 : Int32) (p1 : Int32) : St := if p0 < (T.1 80 12) then (jn (fun (i1 : Int32) => x_pl_seek3_27 p0 p1 i1 (fun (w1_4 : Int32) (T201 : St) => T201) 1000 0 T) ((T.2.2.1 94 (p0 : Int32).toNatClampNeg) * 12)) else (x_pl_keepPicked T p1)
def ok_pl_seek3 (T : St) (p0 : Int32) (p1 : Int32) : Prop := ((p0 < (T.1 80 12) → (vp_in p0 4) ∧ jn (fun (i1 : Int32) => ok_pl_seek3_27 p0 p1 i1 (fun (w1_4 : Int32) (T201 : St) => True) 1000 0 T) ((T.2.2.1 94 (p0 : Int32).toNatClampNeg) * 12)) ∧ (¬ p0 < (T.1 80 12) → (ok_pl_keepPicked T p1) ∧ True))
theorem c_pl_seek3 {X : Nat × (Nat → Int32)} {T : St} (p0 : Int32) (p1 : Int32) (kk : ok_pl_seek3 T p0 p1) : tC X 8 mX5_seek [.ref (80 : Nat), .int p0, .int p1] T none (x_pl_seek3 T p0 p1) := by
  unfold ok_pl_seek3 at kk
  refine tC_orV (L := [some (.ref (80 : Nat)), some (.int p0), some (.int p1), none, none, none]) (x_pl_seek3 T p0 p1) rfl ?_
  unfold x_pl_seek3
  refine r_p (pc2 := 1) dX5_seek_0 rfl rfl ?_
  refine r_p (pc2 := 2) dX5_seek_1 rfl rfl ?_
  refine r_get dX5_seek_2 fkX5_172 rfl rfl ?_
  refine r_clt dX5_seek_5 rfl (fun c5_1 => ?_) (fun c5_1 => ?_)
  · refine r_ip (R := rV) c5_1 ?_
    have kk := kk.1 c5_1
    refine r_p (pc2 := 15) dX5_seek_14 rfl rfl ?_
    refine r_get dX5_seek_15 fkX5_35 rfl rfl ?_
    refine r_p (pc2 := 19) dX5_seek_18 rfl rfl ?_
    obtain ⟨q1, kk⟩ := kk
    refine r_ia dX5_seek_19 rfl q1 ?_
    refine r_cb (x := 12) dX5_seek_20 rfl ?_
    refine r_p (pc2 := 23) dX5_seek_22 rfl rfl ?_
    refine r_nI (R := rV) rfl kk (fun i1 kk => ?_)
    refine r_p (pc2 := 24) (L2 := [some (.ref (80 : Nat)), some (.int p0), some (.int p1), some (.int i1), none, none]) dX5_seek_23 rfl rfl ?_
    refine r_ci (x := 0) dX5_seek_24 rfl ?_
    refine r_p (pc2 := 27) (L2 := [some (.ref (80 : Nat)), some (.int p0), some (.int p1), some (.int i1), some (.int 0), none]) dX5_seek_25 rfl rfl ?_
    show tR _ _ _ _ [some (.ref (80 : Nat)), some (.int p0), some (.int p1), some (.int i1), some (.int 0), none] _ _ _ _
    refine (c_pl_seek3_27 p0 p1 i1 (fun w1_4 T201 kk => ?_) 1000 0 T kk)
    · skip
      exact r_qV dX5_seek_191 rfl rfl
  · refine r_in (R := rV) c5_1 ?_
    have kk := kk.2 c5_1
    refine r_p (pc2 := 9) dX5_seek_8 rfl rfl ?_
    refine r_p (pc2 := 10) dX5_seek_9 rfl rfl ?_
    obtain ⟨q15, kk⟩ := kk
    refine r_cv (d1 := 1) dX5_seek_10 cvX5_183 rfl rfl rfl rfl (Nat.le_of_ble_eq_true rfl) (Nat.le_of_ble_eq_true rfl) (Nat.le_of_ble_eq_true rfl) (c_pl_keepPicked p1 q15) ?_
    exact r_qV dX5_seek_13 rfl rfl
def x_pl_seek4_27 (l1 : Int32) (l2 : Int32) (l3 : Int32) (K : Int32 → St → St) : Nat → Int32 → St → St
  | 0, _, T => T
  | f + 1, v4, T => if (T.2.2.1 82 (T.2.2.1 94 (l1 : Int32).toNatClampNeg : Int32).toNatClampNeg) ≤ v4 then (K v4 T) else (if (((T.2.2.1 (100 + (l1 : Int32).toNatClampNeg) (l1 : Int32).toNatClampNeg) >>> (v4 &&& 31)) &&& 1) = 0 then (x_pl_seek4_27 l1 l2 l3 K f (v4 + 1) T) else (jn (fun (r2 : Nat) => if (T.1 80 13) ≤ ((l2 + (T.1 r2 5)) + (T.2.2.1 97 (l1 + 1 : Int32).toNatClampNeg)) then (x_pl_seek4_27 l1 l2 l3 K f (v4 + 1) T) else (if (x_ta_hasRoom T (507 + 5 * (l1 : Int32).toNatClampNeg) (r2 + 3)) = 0 then (x_pl_seek4_27 l1 l2 l3 K f (v4 + 1) T) else (if ((x_pl_leavesOpen T l1 (l3 + v4)).1) = 0 then (x_pl_seek4_27 l1 l2 l3 K f (v4 + 1) ((x_pl_leavesOpen T l1 (l3 + v4)).2)) else (jn (fun (KJ1 : St → St) => if ((sA ((x_pl_leavesOpen T l1 (l3 + v4)).2) 95 (l1 : Int32).toNatClampNeg (l3 + v4)).1 80 12) ≤ (l1 + 1) then (KJ1 (sA ((x_pl_leavesOpen T l1 (l3 + v4)).2) 95 (l1 : Int32).toNatClampNeg (l3 + v4))) else (jn (fun (T4 : St) => KJ1 T4) (x_ta_add (sA ((x_pl_leavesOpen T l1 (l3 + v4)).2) 95 (l1 : Int32).toNatClampNeg (l3 + v4)) (507 + 5 * (l1 + 1 : Int32).toNatClampNeg) (507 + 5 * (l1 : Int32).toNatClampNeg) (r2 + 3) ((sA ((x_pl_leavesOpen T l1 (l3 + v4)).2) 95 (l1 : Int32).toNatClampNeg (l3 + v4)).2.1 3)))) (fun (T301 : St) => x_pl_seek4_27 l1 l2 l3 K f (v4 + 1) (x_pl_seek3 T301 (l1 + 1) (l2 + (T301.1 r2 5)))))))) (123 + 4 * (l3 + v4 : Int32).toNatClampNeg)))
def ok_pl_seek4_27 (l1 : Int32) (l2 : Int32) (l3 : Int32) (Kk : Int32 → St → Prop) : Nat → Int32 → St → Prop
  | 0, _, _ => False
  | f + 1, v4, T => (vp_in l1 4) ∧ (vp_in (T.2.2.1 94 (l1 : Int32).toNatClampNeg) 8) ∧ (((T.2.2.1 82 (T.2.2.1 94 (l1 : Int32).toNatClampNeg : Int32).toNatClampNeg) ≤ v4 → Kk v4 T) ∧ (¬ (T.2.2.1 82 (T.2.2.1 94 (l1 : Int32).toNatClampNeg : Int32).toNatClampNeg) ≤ v4 → (vp_in l1 5) ∧ (((((T.2.2.1 (100 + (l1 : Int32).toNatClampNeg) (l1 : Int32).toNatClampNeg) >>> (v4 &&& 31)) &&& 1) = 0 → ok_pl_seek4_27 l1 l2 l3 Kk f (v4 + 1) T) ∧ (¬ (((T.2.2.1 (100 + (l1 : Int32).toNatClampNeg) (l1 : Int32).toNatClampNeg) >>> (v4 &&& 31)) &&& 1) = 0 → (vp_in (l3 + v4) 96) ∧ jn (fun (r2 : Nat) => (sh r2 = .inr 10) ∧ (vp_in (l1 + 1) 5) ∧ (((T.1 80 13) ≤ ((l2 + (T.1 r2 5)) + (T.2.2.1 97 (l1 + 1 : Int32).toNatClampNeg)) → ok_pl_seek4_27 l1 l2 l3 Kk f (v4 + 1) T) ∧ (¬ (T.1 80 13) ≤ ((l2 + (T.1 r2 5)) + (T.2.2.1 97 (l1 + 1 : Int32).toNatClampNeg)) → (ok_ta_hasRoom T (507 + 5 * (l1 : Int32).toNatClampNeg) (r2 + 3)) ∧ (((x_ta_hasRoom T (507 + 5 * (l1 : Int32).toNatClampNeg) (r2 + 3)) = 0 → ok_pl_seek4_27 l1 l2 l3 Kk f (v4 + 1) T) ∧ (¬ (x_ta_hasRoom T (507 + 5 * (l1 : Int32).toNatClampNeg) (r2 + 3)) = 0 → (ok_pl_leavesOpen T l1 (l3 + v4)) ∧ ((((x_pl_leavesOpen T l1 (l3 + v4)).1) = 0 → ok_pl_seek4_27 l1 l2 l3 Kk f (v4 + 1) ((x_pl_leavesOpen T l1 (l3 + v4)).2)) ∧ (¬ ((x_pl_leavesOpen T l1 (l3 + v4)).1) = 0 → jn (fun (OJ1 : St → Prop) => ((((sA ((x_pl_leavesOpen T l1 (l3 + v4)).2) 95 (l1 : Int32).toNatClampNeg (l3 + v4)).1 80 12) ≤ (l1 + 1) → OJ1 (sA ((x_pl_leavesOpen T l1 (l3 + v4)).2) 95 (l1 : Int32).toNatClampNeg (l3 + v4))) ∧ (¬ ((sA ((x_pl_leavesOpen T l1 (l3 + v4)).2) 95 (l1 : Int32).toNatClampNeg (l3 + v4)).1 80 12) ≤ (l1 + 1) → (vp_in (l1 + 1) 4) ∧ (ok_ta_add (sA ((x_pl_leavesOpen T l1 (l3 + v4)).2) 95 (l1 : Int32).toNatClampNeg (l3 + v4)) (507 + 5 * (l1 + 1 : Int32).toNatClampNeg) (507 + 5 * (l1 : Int32).toNatClampNeg) (r2 + 3) ((sA ((x_pl_leavesOpen T l1 (l3 + v4)).2) 95 (l1 : Int32).toNatClampNeg (l3 + v4)).2.1 3)) ∧ jn (fun (T4 : St) => OJ1 T4) (x_ta_add (sA ((x_pl_leavesOpen T l1 (l3 + v4)).2) 95 (l1 : Int32).toNatClampNeg (l3 + v4)) (507 + 5 * (l1 + 1 : Int32).toNatClampNeg) (507 + 5 * (l1 : Int32).toNatClampNeg) (r2 + 3) ((sA ((x_pl_leavesOpen T l1 (l3 + v4)).2) 95 (l1 : Int32).toNatClampNeg (l3 + v4)).2.1 3))))) (fun (T301 : St) => (ok_pl_seek3 T301 (l1 + 1) (l2 + (T301.1 r2 5))) ∧ ok_pl_seek4_27 l1 l2 l3 Kk f (v4 + 1) (x_pl_seek3 T301 (l1 + 1) (l2 + (T301.1 r2 5))))))))))) (123 + 4 * (l3 + v4 : Int32).toNatClampNeg)))))
theorem c_pl_seek4_27 {X : Nat × (Nat → Int32)} (l1 : Int32) (l2 : Int32) (l3 : Int32) {K : Int32 → St → St} {Kk : Int32 → St → Prop} (hk : ∀ (v4 : Int32) (T : St), Kk v4 T → tR X 8 mX5_seek 191 [some (.ref (80 : Nat)), some (.int l1), some (.int l2), some (.int l3), some (.int v4), none] [] T (rV (K v4 T)).1 ((rV (K v4 T)).2)) : ∀ (f : Nat) (v4 : Int32) (T : St), ok_pl_seek4_27 l1 l2 l3 Kk f v4 T → tR X 8 mX5_seek 27 [some (.ref (80 : Nat)), some (.int l1), some (.int l2), some (.int l3), some (.int v4), none] [] T (rV (x_pl_seek4_27 l1 l2 l3 K f v4 T)).1 ((rV (x_pl_seek4_27 l1 l2 l3 K f v4 T)).2) := by
  intro f
  induction f with
  | zero => intro v4 T kk; exact kk.elim
  | succ f ih =>
    intro v4 T kk
    rw [ok_pl_seek4_27] at kk
    rw [x_pl_seek4_27]
    refine r_p (pc2 := 29) dX5_seek_27 rfl rfl ?_
    refine r_p (pc2 := 30) dX5_seek_29 rfl rfl ?_
    refine r_get dX5_seek_30 fkX5_17 rfl rfl ?_
    refine r_p (pc2 := 34) dX5_seek_33 rfl rfl ?_
    refine r_get dX5_seek_34 fkX5_35 rfl rfl ?_
    refine r_p (pc2 := 38) dX5_seek_37 rfl rfl ?_
    obtain ⟨q2, kk⟩ := kk
    refine r_ia dX5_seek_38 rfl q2 ?_
    obtain ⟨q3, kk⟩ := kk
    refine r_ia dX5_seek_39 rfl q3 ?_
    refine r_cge dX5_seek_40 rfl (fun c40_2 => ?_) (fun c40_2 => ?_)
    · refine r_ip (R := rV) c40_2 ?_
      have kk := kk.1 c40_2
      show tR _ _ _ _ [some (.ref (80 : Nat)), some (.int l1), some (.int l2), some (.int l3), some (.int v4), none] _ _ _ _
      exact (hk v4 T kk)
    · refine r_in (R := rV) c40_2 ?_
      have kk := kk.2 c40_2
      refine r_p (pc2 := 44) dX5_seek_43 rfl rfl ?_
      refine r_get dX5_seek_44 fkX5_52 rfl rfl ?_
      refine r_p (pc2 := 48) dX5_seek_47 rfl rfl ?_
      obtain ⟨q4, kk⟩ := kk
      refine r_aa dX5_seek_48 rfl (by decide) q4 (rf99 q4) ?_
      refine r_p (pc2 := 50) dX5_seek_49 rfl rfl ?_
      refine r_ia dX5_seek_50 (shr99 q4) q2 ?_
      refine r_p (pc2 := 53) dX5_seek_51 rfl rfl ?_
      refine r_p (pc2 := 54) dX5_seek_53 rfl rfl ?_
      refine r_ci (x := 1) dX5_seek_54 rfl ?_
      refine r_p (pc2 := 56) dX5_seek_55 rfl rfl ?_
      refine r_ine dX5_seek_56 rfl (fun c56_3 => ?_) (fun c56_3 => ?_)
      · refine r_in (R := rV) c56_3 ?_
        have kk := kk.2 c56_3
        refine r_p (pc2 := 63) dX5_seek_62 rfl rfl ?_
        refine r_get dX5_seek_63 fkX5_11 rfl rfl ?_
        refine r_p (pc2 := 67) dX5_seek_66 rfl rfl ?_
        refine r_p (pc2 := 69) dX5_seek_67 rfl rfl ?_
        refine r_p (pc2 := 70) dX5_seek_69 rfl rfl ?_
        obtain ⟨q5, kk⟩ := kk
        refine r_aa dX5_seek_70 rfl (by decide) q5 (rf81 q5) ?_
        refine r_nR (R := rV) rfl kk (fun r2 kk => ?_)
        refine r_p (pc2 := 73) (L2 := [some (.ref (80 : Nat)), some (.int l1), some (.int l2), some (.int l3), some (.int v4), some (.ref r2)]) dX5_seek_71 rfl rfl ?_
        refine r_p (pc2 := 74) dX5_seek_73 rfl rfl ?_
        refine r_p (pc2 := 76) dX5_seek_74 rfl rfl ?_
        obtain ⟨q6, kk⟩ := kk
        refine r_get dX5_seek_76 fkX5_100 q6 rfl ?_
        refine r_p (pc2 := 80) dX5_seek_79 rfl rfl ?_
        refine r_p (pc2 := 81) dX5_seek_80 rfl rfl ?_
        refine r_get dX5_seek_81 fkX5_44 rfl rfl ?_
        refine r_p (pc2 := 85) dX5_seek_84 rfl rfl ?_
        refine r_ci (x := 1) dX5_seek_85 rfl ?_
        refine r_p (pc2 := 87) dX5_seek_86 rfl rfl ?_
        obtain ⟨q7, kk⟩ := kk
        refine r_ia dX5_seek_87 rfl q7 ?_
        refine r_p (pc2 := 89) dX5_seek_88 rfl rfl ?_
        refine r_p (pc2 := 90) dX5_seek_89 rfl rfl ?_
        refine r_get dX5_seek_90 fkX5_160 rfl rfl ?_
        refine r_cge dX5_seek_93 rfl (fun c93_4 => ?_) (fun c93_4 => ?_)
        · refine r_ip (R := rV) c93_4 ?_
          have kk := kk.1 c93_4
          refine r_inc (L2 := [some (.ref (80 : Nat)), some (.int l1), some (.int l2), some (.int l3), some (.int (v4 + 1)), some (.ref r2)]) (y := 1) dX5_seek_185 rfl rfl rfl ?_
          refine r_go dX5_seek_188 rfl ?_
          show tR _ _ _ _ [some (.ref (80 : Nat)), some (.int l1), some (.int l2), some (.int l3), some (.int (v4 + 1)), some (.ref r2)] _ _ _ _
          exact r_le (le_s (le_s (le_s (le_s (le_s (le_n (le_0))))))) (ih (v4 + 1) T kk)
        · refine r_in (R := rV) c93_4 ?_
          have kk := kk.2 c93_4
          refine r_p (pc2 := 97) dX5_seek_96 rfl rfl ?_
          refine r_get dX5_seek_97 fkX5_31 rfl rfl ?_
          refine r_p (pc2 := 101) dX5_seek_100 rfl rfl ?_
          refine r_aa dX5_seek_101 rfl (by decide) q2 (rf93 q2) ?_
          refine r_p (pc2 := 104) dX5_seek_102 rfl rfl ?_
          refine r_get dX5_seek_104 fkX5_110 q6 rfl ?_
          obtain ⟨q8, kk⟩ := kk
          refine r_cv (d1 := 1) dX5_seek_107 cvX5_114 rfl rfl (shr93 q2) rfl (Nat.le_of_ble_eq_true rfl) (Nat.le_of_ble_eq_true rfl) (Nat.le_of_ble_eq_true rfl) (c_ta_hasRoom (507 + 5 * (l1 : Int32).toNatClampNeg) (r2 + 3) q8) ?_
          refine r_ieq dX5_seek_110 rfl (fun c110_5 => ?_) (fun c110_5 => ?_)
          · refine r_ip (R := rV) c110_5 ?_
            have kk := kk.1 c110_5
            refine r_inc (L2 := [some (.ref (80 : Nat)), some (.int l1), some (.int l2), some (.int l3), some (.int (v4 + 1)), some (.ref r2)]) (y := 1) dX5_seek_185 rfl rfl rfl ?_
            refine r_go dX5_seek_188 rfl ?_
            show tR _ _ _ _ [some (.ref (80 : Nat)), some (.int l1), some (.int l2), some (.int l3), some (.int (v4 + 1)), some (.ref r2)] _ _ _ _
            exact r_le (le_s (le_s (le_s (le_s (le_s (le_n (le_0))))))) (ih (v4 + 1) T kk)
          · refine r_in (R := rV) c110_5 ?_
            have kk := kk.2 c110_5
            refine r_p (pc2 := 114) dX5_seek_113 rfl rfl ?_
            refine r_p (pc2 := 115) dX5_seek_114 rfl rfl ?_
            refine r_p (pc2 := 116) dX5_seek_115 rfl rfl ?_
            refine r_p (pc2 := 118) dX5_seek_116 rfl rfl ?_
            refine r_p (pc2 := 119) dX5_seek_118 rfl rfl ?_
            obtain ⟨q9, kk⟩ := kk
            refine r_cv (d1 := 4) dX5_seek_119 cvX5_186 rfl rfl rfl rfl (Nat.le_of_ble_eq_true rfl) (Nat.le_of_ble_eq_true rfl) (Nat.le_of_ble_eq_true rfl) (c_pl_leavesOpen l1 (l3 + v4) q9) ?_
            refine r_ieq dX5_seek_122 rfl (fun c122_6 => ?_) (fun c122_6 => ?_)
            · refine r_ip (R := rV) c122_6 ?_
              have kk := kk.1 c122_6
              refine r_inc (L2 := [some (.ref (80 : Nat)), some (.int l1), some (.int l2), some (.int l3), some (.int (v4 + 1)), some (.ref r2)]) (y := 1) dX5_seek_185 rfl rfl rfl ?_
              refine r_go dX5_seek_188 rfl ?_
              show tR _ _ _ _ [some (.ref (80 : Nat)), some (.int l1), some (.int l2), some (.int l3), some (.int (v4 + 1)), some (.ref r2)] _ _ _ _
              exact r_le (le_s (le_s (le_s (le_s (le_s (le_n (le_0))))))) (ih (v4 + 1) ((x_pl_leavesOpen T l1 (l3 + v4)).2) kk)
            · refine r_in (R := rV) c122_6 ?_
              have kk := kk.2 c122_6
              refine r_p (pc2 := 126) dX5_seek_125 rfl rfl ?_
              refine r_get dX5_seek_126 fkX5_38 rfl rfl ?_
              refine r_p (pc2 := 130) dX5_seek_129 rfl rfl ?_
              refine r_p (pc2 := 131) dX5_seek_130 rfl rfl ?_
              refine r_p (pc2 := 133) dX5_seek_131 rfl rfl ?_
              refine r_p (pc2 := 134) dX5_seek_133 rfl rfl ?_
              refine r_ias dX5_seek_134 rfl q2 ?_
              refine r_p (pc2 := 136) dX5_seek_135 rfl rfl ?_
              refine r_ci (x := 1) dX5_seek_136 rfl ?_
              refine r_p (pc2 := 138) dX5_seek_137 rfl rfl ?_
              refine r_p (pc2 := 139) dX5_seek_138 rfl rfl ?_
              refine r_get dX5_seek_139 fkX5_172 rfl rfl ?_
              refine r_jn (R := rV) (J := fun (KJ1 : St → St) (OJ1 : St → Prop) => ∀ (T301 : St), OJ1 T301 → tR X 8 mX5_seek 171 [some (.ref (80 : Nat)), some (.int l1), some (.int l2), some (.int l3), some (.int v4), some (.ref r2)] [] T301 (rV (KJ1 T301)).1 (rV (KJ1 T301)).2) kk (fun T301 kk => ?_) (fun KJ1 OJ1 hJ1 kk => ?_)
              · skip
                refine r_p (pc2 := 172) dX5_seek_171 rfl rfl ?_
                refine r_p (pc2 := 173) dX5_seek_172 rfl rfl ?_
                refine r_ci (x := 1) dX5_seek_173 rfl ?_
                refine r_p (pc2 := 175) dX5_seek_174 rfl rfl ?_
                refine r_p (pc2 := 176) dX5_seek_175 rfl rfl ?_
                refine r_p (pc2 := 178) dX5_seek_176 rfl rfl ?_
                refine r_get dX5_seek_178 fkX5_100 q6 rfl ?_
                refine r_p (pc2 := 182) dX5_seek_181 rfl rfl ?_
                obtain ⟨q12, kk⟩ := kk
                refine r_cv (d1 := 8) dX5_seek_182 cvX5_169 rfl rfl rfl rfl (Nat.le_of_ble_eq_true rfl) (Nat.le_of_ble_eq_true rfl) (Nat.le_of_ble_eq_true rfl) (c_pl_seek3 (l1 + 1) (l2 + (T301.1 r2 5)) q12) ?_
                refine r_inc (L2 := [some (.ref (80 : Nat)), some (.int l1), some (.int l2), some (.int l3), some (.int (v4 + 1)), some (.ref r2)]) (y := 1) dX5_seek_185 rfl rfl rfl ?_
                refine r_go dX5_seek_188 rfl ?_
                show tR _ _ _ _ [some (.ref (80 : Nat)), some (.int l1), some (.int l2), some (.int l3), some (.int (v4 + 1)), some (.ref r2)] _ _ _ _
                exact r_le (le_s (le_s (le_s (le_s (le_s (le_n (le_0))))))) (ih (v4 + 1) (x_pl_seek3 T301 (l1 + 1) (l2 + (T301.1 r2 5))) kk)
              refine r_cge dX5_seek_142 rfl (fun c142_8 => ?_) (fun c142_8 => ?_)
              · refine r_ip (R := rV) c142_8 ?_
                have kk := kk.1 c142_8
                show tR _ _ _ _ [some (.ref (80 : Nat)), some (.int l1), some (.int l2), some (.int l3), some (.int v4), some (.ref r2)] [] _ _ _
                exact (hJ1 (sA ((x_pl_leavesOpen T l1 (l3 + v4)).2) 95 (l1 : Int32).toNatClampNeg (l3 + v4)) kk)
              · refine r_in (R := rV) c142_8 ?_
                have kk := kk.2 c142_8
                refine r_p (pc2 := 146) dX5_seek_145 rfl rfl ?_
                refine r_get dX5_seek_146 fkX5_31 rfl rfl ?_
                refine r_p (pc2 := 150) dX5_seek_149 rfl rfl ?_
                refine r_ci (x := 1) dX5_seek_150 rfl ?_
                refine r_p (pc2 := 152) dX5_seek_151 rfl rfl ?_
                obtain ⟨q13, kk⟩ := kk
                refine r_aa dX5_seek_152 rfl (by decide) q13 (rf93 q13) ?_
                refine r_p (pc2 := 154) dX5_seek_153 rfl rfl ?_
                refine r_get dX5_seek_154 fkX5_31 rfl rfl ?_
                refine r_p (pc2 := 158) dX5_seek_157 rfl rfl ?_
                refine r_aa dX5_seek_158 rfl (by decide) q2 (rf93 q2) ?_
                refine r_p (pc2 := 161) dX5_seek_159 rfl rfl ?_
                refine r_get dX5_seek_161 fkX5_110 q6 rfl ?_
                refine r_p (pc2 := 165) dX5_seek_164 rfl rfl ?_
                refine r_get dX5_seek_165 fkX5_69 rfl rfl ?_
                obtain ⟨q14, kk⟩ := kk
                refine r_cv (d1 := 2) dX5_seek_168 cvX5_179 rfl rfl (shr93 q13) rfl (Nat.le_of_ble_eq_true rfl) (Nat.le_of_ble_eq_true rfl) (Nat.le_of_ble_eq_true rfl) (c_ta_add (507 + 5 * (l1 + 1 : Int32).toNatClampNeg) (507 + 5 * (l1 : Int32).toNatClampNeg) (r2 + 3) ((sA ((x_pl_leavesOpen T l1 (l3 + v4)).2) 95 (l1 : Int32).toNatClampNeg (l3 + v4)).2.1 3) q14) ?_
                refine r_nT (R := rV) rfl kk (fun T4 kk => ?_)
                show tR _ _ _ _ [some (.ref (80 : Nat)), some (.int l1), some (.int l2), some (.int l3), some (.int v4), some (.ref r2)] [] _ _ _
                exact (hJ1 T4 kk)
      · refine r_ip (R := rV) c56_3 ?_
        have kk := kk.1 c56_3
        refine r_go dX5_seek_59 rfl ?_
        refine r_inc (L2 := [some (.ref (80 : Nat)), some (.int l1), some (.int l2), some (.int l3), some (.int (v4 + 1)), none]) (y := 1) dX5_seek_185 rfl rfl rfl ?_
        refine r_go dX5_seek_188 rfl ?_
        show tR _ _ _ _ [some (.ref (80 : Nat)), some (.int l1), some (.int l2), some (.int l3), some (.int (v4 + 1)), none] _ _ _ _
        exact (ih (v4 + 1) T kk)
def x_pl_seek4 (T : St) (p0 : Int32) (p1 : Int32) : St := if p0 < (T.1 80 12) then (jn (fun (i1 : Int32) => x_pl_seek4_27 p0 p1 i1 (fun (w1_4 : Int32) (T201 : St) => T201) 1000 0 T) ((T.2.2.1 94 (p0 : Int32).toNatClampNeg) * 12)) else (x_pl_keepPicked T p1)
def ok_pl_seek4 (T : St) (p0 : Int32) (p1 : Int32) : Prop := ((p0 < (T.1 80 12) → (vp_in p0 4) ∧ jn (fun (i1 : Int32) => ok_pl_seek4_27 p0 p1 i1 (fun (w1_4 : Int32) (T201 : St) => True) 1000 0 T) ((T.2.2.1 94 (p0 : Int32).toNatClampNeg) * 12)) ∧ (¬ p0 < (T.1 80 12) → (ok_pl_keepPicked T p1) ∧ True))
theorem c_pl_seek4 {X : Nat × (Nat → Int32)} {T : St} (p0 : Int32) (p1 : Int32) (kk : ok_pl_seek4 T p0 p1) : tC X 9 mX5_seek [.ref (80 : Nat), .int p0, .int p1] T none (x_pl_seek4 T p0 p1) := by
  unfold ok_pl_seek4 at kk
  refine tC_orV (L := [some (.ref (80 : Nat)), some (.int p0), some (.int p1), none, none, none]) (x_pl_seek4 T p0 p1) rfl ?_
  unfold x_pl_seek4
  refine r_p (pc2 := 1) dX5_seek_0 rfl rfl ?_
  refine r_p (pc2 := 2) dX5_seek_1 rfl rfl ?_
  refine r_get dX5_seek_2 fkX5_172 rfl rfl ?_
  refine r_clt dX5_seek_5 rfl (fun c5_1 => ?_) (fun c5_1 => ?_)
  · refine r_ip (R := rV) c5_1 ?_
    have kk := kk.1 c5_1
    refine r_p (pc2 := 15) dX5_seek_14 rfl rfl ?_
    refine r_get dX5_seek_15 fkX5_35 rfl rfl ?_
    refine r_p (pc2 := 19) dX5_seek_18 rfl rfl ?_
    obtain ⟨q1, kk⟩ := kk
    refine r_ia dX5_seek_19 rfl q1 ?_
    refine r_cb (x := 12) dX5_seek_20 rfl ?_
    refine r_p (pc2 := 23) dX5_seek_22 rfl rfl ?_
    refine r_nI (R := rV) rfl kk (fun i1 kk => ?_)
    refine r_p (pc2 := 24) (L2 := [some (.ref (80 : Nat)), some (.int p0), some (.int p1), some (.int i1), none, none]) dX5_seek_23 rfl rfl ?_
    refine r_ci (x := 0) dX5_seek_24 rfl ?_
    refine r_p (pc2 := 27) (L2 := [some (.ref (80 : Nat)), some (.int p0), some (.int p1), some (.int i1), some (.int 0), none]) dX5_seek_25 rfl rfl ?_
    show tR _ _ _ _ [some (.ref (80 : Nat)), some (.int p0), some (.int p1), some (.int i1), some (.int 0), none] _ _ _ _
    refine (c_pl_seek4_27 p0 p1 i1 (fun w1_4 T201 kk => ?_) 1000 0 T kk)
    · skip
      exact r_qV dX5_seek_191 rfl rfl
  · refine r_in (R := rV) c5_1 ?_
    have kk := kk.2 c5_1
    refine r_p (pc2 := 9) dX5_seek_8 rfl rfl ?_
    refine r_p (pc2 := 10) dX5_seek_9 rfl rfl ?_
    obtain ⟨q15, kk⟩ := kk
    refine r_cv (d1 := 1) dX5_seek_10 cvX5_183 rfl rfl rfl rfl (Nat.le_of_ble_eq_true rfl) (Nat.le_of_ble_eq_true rfl) (Nat.le_of_ble_eq_true rfl) (c_pl_keepPicked p1 q15) ?_
    exact r_qV dX5_seek_13 rfl rfl
