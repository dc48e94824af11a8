def x_pl_seek2_27 (l1 : Int32) (l2 : Int32) (l3 : Int32) (K : Int32 → St → St) : Nat → Int32 → St → St
  | 0, _, T => T
  | f + 1, v4, T => if (T.2.2.1 82 (T.2.2.1 94 (l1 : Int32).toNatClampNeg : Int32).toNatClampNeg) ≤ v4 then (K v4 T) else (if (((T.2.2.1 (100 + (l1 : Int32).toNatClampNeg) (l1 : Int32).toNatClampNeg) >>> (v4 &&& 31)) &&& 1) = 0 then (x_pl_seek2_27 l1 l2 l3 K f (v4 + 1) T) else (if (T.1 80 13) ≤ ((l2 + (T.1 (123 + 4 * (l3 + v4 : Int32).toNatClampNeg) 5)) + (T.2.2.1 97 (l1 + 1 : Int32).toNatClampNeg)) then (x_pl_seek2_27 l1 l2 l3 K f (v4 + 1) T) else (if (x_ta_hasRoom T (507 + 5 * (l1 : Int32).toNatClampNeg) ((123 + 4 * (l3 + v4 : Int32).toNatClampNeg) + 3)) = 0 then (x_pl_seek2_27 l1 l2 l3 K f (v4 + 1) T) else (if ((x_pl_leavesOpen T l1 (l3 + v4)).1) = 0 then (x_pl_seek2_27 l1 l2 l3 K f (v4 + 1) ((x_pl_leavesOpen T l1 (l3 + v4)).2)) else (jn (fun (KJ1 : St → St) => if ((sA ((x_pl_leavesOpen T l1 (l3 + v4)).2) 95 (l1 : Int32).toNatClampNeg (l3 + v4)).1 80 12) ≤ (l1 + 1) then (KJ1 (sA ((x_pl_leavesOpen T l1 (l3 + v4)).2) 95 (l1 : Int32).toNatClampNeg (l3 + v4))) else (fun (T2 : St) => KJ1 T2) (x_ta_add (sA ((x_pl_leavesOpen T l1 (l3 + v4)).2) 95 (l1 : Int32).toNatClampNeg (l3 + v4)) (507 + 5 * (l1 + 1 : Int32).toNatClampNeg) (507 + 5 * (l1 : Int32).toNatClampNeg) ((123 + 4 * (l3 + v4 : Int32).toNatClampNeg) + 3) ((sA ((x_pl_leavesOpen T l1 (l3 + v4)).2) 95 (l1 : Int32).toNatClampNeg (l3 + v4)).2.1 3))) (fun (T301 : St) => x_pl_seek2_27 l1 l2 l3 K f (v4 + 1) (x_pl_seek1 T301 (l1 + 1) (l2 + (T301.1 (123 + 4 * (l3 + v4 : Int32).toNatClampNeg) 5)))))))))
def ok_pl_seek2_27 (l1 : Int32) (l2 : Int32) (l3 : Int32) (Kk : Int32 → St → Prop) : Nat → Int32 → St → Prop
  | 0, _, _ => False
  | f + 1, v4, T => (vp_in l1 4) ∧ (vp_in (T.2.2.1 94 (l1 : Int32).toNatClampNeg) 8) ∧ (((T.2.2.1 82 (T.2.2.1 94 (l1 : Int32).toNatClampNeg : Int32).toNatClampNeg) ≤ v4 → Kk v4 T) ∧ (¬ (T.2.2.1 82 (T.2.2.1 94 (l1 : Int32).toNatClampNeg : Int32).toNatClampNeg) ≤ v4 → (vp_in l1 5) ∧ (sh (100 + (l1 : Int32).toNatClampNeg) = .inl (0, 4)) ∧ (((((T.2.2.1 (100 + (l1 : Int32).toNatClampNeg) (l1 : Int32).toNatClampNeg) >>> (v4 &&& 31)) &&& 1) = 0 → ok_pl_seek2_27 l1 l2 l3 Kk f (v4 + 1) T) ∧ (¬ (((T.2.2.1 (100 + (l1 : Int32).toNatClampNeg) (l1 : Int32).toNatClampNeg) >>> (v4 &&& 31)) &&& 1) = 0 → (vp_in (l3 + v4) 96) ∧ (sh (123 + 4 * (l3 + v4 : Int32).toNatClampNeg) = .inr 10) ∧ (vp_in (l1 + 1) 5) ∧ (((T.1 80 13) ≤ ((l2 + (T.1 (123 + 4 * (l3 + v4 : Int32).toNatClampNeg) 5)) + (T.2.2.1 97 (l1 + 1 : Int32).toNatClampNeg)) → ok_pl_seek2_27 l1 l2 l3 Kk f (v4 + 1) T) ∧ (¬ (T.1 80 13) ≤ ((l2 + (T.1 (123 + 4 * (l3 + v4 : Int32).toNatClampNeg) 5)) + (T.2.2.1 97 (l1 + 1 : Int32).toNatClampNeg)) → (ok_ta_hasRoom T (507 + 5 * (l1 : Int32).toNatClampNeg) ((123 + 4 * (l3 + v4 : Int32).toNatClampNeg) + 3)) ∧ (sh (507 + 5 * (l1 : Int32).toNatClampNeg) = .inr 9) ∧ (((x_ta_hasRoom T (507 + 5 * (l1 : Int32).toNatClampNeg) ((123 + 4 * (l3 + v4 : Int32).toNatClampNeg) + 3)) = 0 → ok_pl_seek2_27 l1 l2 l3 Kk f (v4 + 1) T) ∧ (¬ (x_ta_hasRoom T (507 + 5 * (l1 : Int32).toNatClampNeg) ((123 + 4 * (l3 + v4 : Int32).toNatClampNeg) + 3)) = 0 → (ok_pl_leavesOpen T l1 (l3 + v4)) ∧ ((((x_pl_leavesOpen T l1 (l3 + v4)).1) = 0 → ok_pl_seek2_27 l1 l2 l3 Kk f (v4 + 1) ((x_pl_leavesOpen T l1 (l3 + v4)).2)) ∧ (¬ ((x_pl_leavesOpen T l1 (l3 + v4)).1) = 0 → jn (fun (OJ1 : St → Prop) => ((((sA ((x_pl_leavesOpen T l1 (l3 + v4)).2) 95 (l1 : Int32).toNatClampNeg (l3 + v4)).1 80 12) ≤ (l1 + 1) → OJ1 (sA ((x_pl_leavesOpen T l1 (l3 + v4)).2) 95 (l1 : Int32).toNatClampNeg (l3 + v4))) ∧ (¬ ((sA ((x_pl_leavesOpen T l1 (l3 + v4)).2) 95 (l1 : Int32).toNatClampNeg (l3 + v4)).1 80 12) ≤ (l1 + 1) → (vp_in (l1 + 1) 4) ∧ (ok_ta_add (sA ((x_pl_leavesOpen T l1 (l3 + v4)).2) 95 (l1 : Int32).toNatClampNeg (l3 + v4)) (507 + 5 * (l1 + 1 : Int32).toNatClampNeg) (507 + 5 * (l1 : Int32).toNatClampNeg) ((123 + 4 * (l3 + v4 : Int32).toNatClampNeg) + 3) ((sA ((x_pl_leavesOpen T l1 (l3 + v4)).2) 95 (l1 : Int32).toNatClampNeg (l3 + v4)).2.1 3)) ∧ (sh (507 + 5 * (l1 + 1 : Int32).toNatClampNeg) = .inr 9) ∧ (fun (T2 : St) => OJ1 T2) (x_ta_add (sA ((x_pl_leavesOpen T l1 (l3 + v4)).2) 95 (l1 : Int32).toNatClampNeg (l3 + v4)) (507 + 5 * (l1 + 1 : Int32).toNatClampNeg) (507 + 5 * (l1 : Int32).toNatClampNeg) ((123 + 4 * (l3 + v4 : Int32).toNatClampNeg) + 3) ((sA ((x_pl_leavesOpen T l1 (l3 + v4)).2) 95 (l1 : Int32).toNatClampNeg (l3 + v4)).2.1 3))))) (fun (T301 : St) => (sh (123 + 4 * (l3 + v4 : Int32).toNatClampNeg) = .inr 10) ∧ (ok_pl_seek1 T301 (l1 + 1) (l2 + (T301.1 (123 + 4 * (l3 + v4 : Int32).toNatClampNeg) 5))) ∧ ok_pl_seek2_27 l1 l2 l3 Kk f (v4 + 1) (x_pl_seek1 T301 (l1 + 1) (l2 + (T301.1 (123 + 4 * (l3 + v4 : Int32).toNatClampNeg) 5))))))))))))))
theorem c_pl_seek2_27 {X : Nat × (Nat → Int32)} (l1 : Int32) (l2 : Int32) (l3 : Int32) {K : Int32 → St → St} {Kk : Int32 → St → Prop} (hk : ∀ (v4 : Int32) (T : St), Kk v4 T → tR X 6 mX5_seek 191 [some (.ref 80), some (.int l1), some (.int l2), some (.int l3), some (.int v4), none] [] T none (K v4 T)) : ∀ (f : Nat) (v4 : Int32) (T : St), ok_pl_seek2_27 l1 l2 l3 Kk f v4 T → tR X 6 mX5_seek 27 [some (.ref 80), some (.int l1), some (.int l2), some (.int l3), some (.int v4), none] [] T none (x_pl_seek2_27 l1 l2 l3 K f v4 T) := by
  intro f
  induction f with
  | zero => intro v4 T kk; exact kk.elim
  | succ f ih =>
    intro v4 T kk
    rw [ok_pl_seek2_27] at kk
    refine r_p dX5_seek_27 rfl rfl ?_
    refine r_p dX5_seek_29 rfl rfl ?_
    refine r_get dX5_seek_30 fkX5_17 rfl rfl ?_
    refine r_p dX5_seek_33 rfl rfl ?_
    refine r_get dX5_seek_34 fkX5_35 rfl rfl ?_
    refine r_p dX5_seek_37 rfl rfl ?_
    obtain ⟨q2, kk⟩ := kk
    refine r_ia dX5_seek_38 rfl q2 ?_
    obtain ⟨q3, kk⟩ := kk
    refine r_ia dX5_seek_39 rfl q3 ?_
    refine r_cge dX5_seek_40 rfl (fun c40_2 => ?_) (fun c40_2 => ?_)
    · have kk := kk.1 c40_2
      show tR _ _ _ _ [some (.ref 80), some (.int l1), some (.int l2), some (.int l3), some (.int v4), none] _ _ _ _
      exact r_eV (r' := K v4 T) (by rw [x_pl_seek2_27]; rw [if_pos c40_2]) ((hk v4 T kk))
    · have kk := kk.2 c40_2
      refine r_p dX5_seek_43 rfl rfl ?_
      refine r_get dX5_seek_44 fkX5_52 rfl rfl ?_
      refine r_p dX5_seek_47 rfl rfl ?_
      obtain ⟨q4, kk⟩ := kk
      refine r_aa dX5_seek_48 rfl (by decide) q4 (rf99 q4) ?_
      refine r_p dX5_seek_49 rfl rfl ?_
      obtain ⟨q5, kk⟩ := kk
      refine r_ia dX5_seek_50 q5 q2 ?_
      refine r_p dX5_seek_51 rfl rfl ?_
      refine r_p dX5_seek_53 rfl rfl ?_
      refine r_ci (x := 1) dX5_seek_54 rfl ?_
      refine r_p dX5_seek_55 rfl rfl ?_
      refine r_ine dX5_seek_56 rfl (fun c56_3 => ?_) (fun c56_3 => ?_)
      · have kk := kk.2 c56_3
        refine r_p dX5_seek_62 rfl rfl ?_
        refine r_get dX5_seek_63 fkX5_11 rfl rfl ?_
        refine r_p dX5_seek_66 rfl rfl ?_
        refine r_p dX5_seek_67 rfl rfl ?_
        refine r_p dX5_seek_69 rfl rfl ?_
        obtain ⟨q6, kk⟩ := kk
        refine r_aa dX5_seek_70 rfl (by decide) q6 (rf81 q6) ?_
        refine r_p dX5_seek_71 rfl rfl ?_
        refine r_p dX5_seek_73 rfl rfl ?_
        refine r_p dX5_seek_74 rfl rfl ?_
        obtain ⟨q7, kk⟩ := kk
        refine r_get dX5_seek_76 fkX5_100 q7 rfl ?_
        refine r_p dX5_seek_79 rfl rfl ?_
        refine r_p dX5_seek_80 rfl rfl ?_
        refine r_get dX5_seek_81 fkX5_44 rfl rfl ?_
        refine r_p dX5_seek_84 rfl rfl ?_
        refine r_ci (x := 1) dX5_seek_85 rfl ?_
        refine r_p dX5_seek_86 rfl rfl ?_
        obtain ⟨q8, kk⟩ := kk
        refine r_ia dX5_seek_87 rfl q8 ?_
        refine r_p dX5_seek_88 rfl rfl ?_
        refine r_p dX5_seek_89 rfl rfl ?_
        refine r_get dX5_seek_90 fkX5_160 rfl rfl ?_
        refine r_cge dX5_seek_93 rfl (fun c93_4 => ?_) (fun c93_4 => ?_)
        · have kk := kk.1 c93_4
          refine r_inc (y := 1) dX5_seek_185 rfl rfl rfl ?_
          refine r_go dX5_seek_188 rfl ?_
          show tR _ _ _ _ [some (.ref 80), some (.int l1), some (.int l2), some (.int l3), some (.int (v4 + 1)), some (.ref (123 + 4 * (l3 + v4 : Int32).toNatClampNeg))] _ _ _ _
          exact r_eV (r' := x_pl_seek2_27 l1 l2 l3 K f (v4 + 1) T) (by rw [x_pl_seek2_27]; rw [if_neg c40_2, if_neg c56_3, if_pos c93_4]) (r_le (le_s (le_s (le_s (le_s (le_s (le_n (le_0))))))) (ih (v4 + 1) T kk))
        · have kk := kk.2 c93_4
          refine r_p dX5_seek_96 rfl rfl ?_
          refine r_get dX5_seek_97 fkX5_31 rfl rfl ?_
          refine r_p dX5_seek_100 rfl rfl ?_
          refine r_aa dX5_seek_101 rfl (by decide) q2 (rf93 q2) ?_
          refine r_p dX5_seek_102 rfl rfl ?_
          refine r_get dX5_seek_104 fkX5_110 q7 rfl ?_
          obtain ⟨q9, kk⟩ := kk
          obtain ⟨q10, kk⟩ := kk
          refine r_cv (d1 := 1) dX5_seek_107 cvX5_114 rfl rfl q10 rfl (Nat.le_of_ble_eq_true rfl) (Nat.le_of_ble_eq_true rfl) (Nat.le_of_ble_eq_true rfl) (c_ta_hasRoom (507 + 5 * (l1 : Int32).toNatClampNeg) ((123 + 4 * (l3 + v4 : Int32).toNatClampNeg) + 3) q9) ?_
          refine r_ieq dX5_seek_110 rfl (fun c110_5 => ?_) (fun c110_5 => ?_)
          · have kk := kk.1 c110_5
            refine r_inc (y := 1) dX5_seek_185 rfl rfl rfl ?_
            refine r_go dX5_seek_188 rfl ?_
            show tR _ _ _ _ [some (.ref 80), some (.int l1), some (.int l2), some (.int l3), some (.int (v4 + 1)), some (.ref (123 + 4 * (l3 + v4 : Int32).toNatClampNeg))] _ _ _ _
            exact r_eV (r' := x_pl_seek2_27 l1 l2 l3 K f (v4 + 1) T) (by rw [x_pl_seek2_27]; rw [if_neg c40_2, if_neg c56_3, if_neg c93_4, if_pos c110_5]) (r_le (le_s (le_s (le_s (le_s (le_s (le_n (le_0))))))) (ih (v4 + 1) T kk))
          · have kk := kk.2 c110_5
            refine r_p dX5_seek_113 rfl rfl ?_
            refine r_p dX5_seek_114 rfl rfl ?_
            refine r_p dX5_seek_115 rfl rfl ?_
            refine r_p dX5_seek_116 rfl rfl ?_
            refine r_p dX5_seek_118 rfl rfl ?_
            obtain ⟨q11, kk⟩ := kk
            refine r_cv (d1 := 4) dX5_seek_119 cvX5_186 rfl rfl rfl rfl (Nat.le_of_ble_eq_true rfl) (Nat.le_of_ble_eq_true rfl) (Nat.le_of_ble_eq_true rfl) (c_pl_leavesOpen l1 (l3 + v4) q11) ?_
            refine r_ieq dX5_seek_122 rfl (fun c122_6 => ?_) (fun c122_6 => ?_)
            · have kk := kk.1 c122_6
              refine r_inc (y := 1) dX5_seek_185 rfl rfl rfl ?_
              refine r_go dX5_seek_188 rfl ?_
              show tR _ _ _ _ [some (.ref 80), some (.int l1), some (.int l2), some (.int l3), some (.int (v4 + 1)), some (.ref (123 + 4 * (l3 + v4 : Int32).toNatClampNeg))] _ _ _ _
              exact r_eV (r' := x_pl_seek2_27 l1 l2 l3 K f (v4 + 1) ((x_pl_leavesOpen T l1 (l3 + v4)).2)) (by rw [x_pl_seek2_27]; rw [if_neg c40_2, if_neg c56_3, if_neg c93_4, if_neg c110_5, if_pos c122_6]) (r_le (le_s (le_s (le_s (le_s (le_s (le_n (le_0))))))) (ih (v4 + 1) ((x_pl_leavesOpen T l1 (l3 + v4)).2) kk))
            · have kk := kk.2 c122_6
              refine r_p dX5_seek_125 rfl rfl ?_
              refine r_get dX5_seek_126 fkX5_38 rfl rfl ?_
              refine r_p dX5_seek_129 rfl rfl ?_
              refine r_p dX5_seek_130 rfl rfl ?_
              refine r_p dX5_seek_131 rfl rfl ?_
              refine r_p dX5_seek_133 rfl rfl ?_
              refine r_ias dX5_seek_134 rfl q2 ?_
              refine r_p dX5_seek_135 rfl rfl ?_
              refine r_ci (x := 1) dX5_seek_136 rfl ?_
              refine r_p dX5_seek_137 rfl rfl ?_
              refine r_p dX5_seek_138 rfl rfl ?_
              refine r_get dX5_seek_139 fkX5_172 rfl rfl ?_
              obtain ⟨KJ1, hKJ1⟩ : ∃ q : St → St, q = (fun (T301 : St) => x_pl_seek2_27 l1 l2 l3 K f (v4 + 1) (x_pl_seek1 T301 (l1 + 1) (l2 + (T301.1 (123 + 4 * (l3 + v4 : Int32).toNatClampNeg) 5)))) := ⟨_, rfl⟩
              obtain ⟨OJ1, hOJ1⟩ : ∃ q : St → Prop, q = (fun (T301 : St) => (sh (123 + 4 * (l3 + v4 : Int32).toNatClampNeg) = .inr 10) ∧ (ok_pl_seek1 T301 (l1 + 1) (l2 + (T301.1 (123 + 4 * (l3 + v4 : Int32).toNatClampNeg) 5))) ∧ ok_pl_seek2_27 l1 l2 l3 Kk f (v4 + 1) (x_pl_seek1 T301 (l1 + 1) (l2 + (T301.1 (123 + 4 * (l3 + v4 : Int32).toNatClampNeg) 5)))) := ⟨_, rfl⟩
              rw [← hOJ1] at kk
              simp only [jn] at kk
              have hJ1 : ∀ (T301 : St), OJ1 T301 → tR X 6 mX5_seek 171 [some (.ref 80), some (.int l1), some (.int l2), some (.int l3), some (.int v4), some (.ref (123 + 4 * (l3 + v4 : Int32).toNatClampNeg))] [] T301 none (KJ1 T301) := by
                intro T301 kk
                rw [hOJ1] at kk
                try dsimp only at kk
                rw [hKJ1]
                refine r_p dX5_seek_171 rfl rfl ?_
                refine r_p dX5_seek_172 rfl rfl ?_
                refine r_ci (x := 1) dX5_seek_173 rfl ?_
                refine r_p dX5_seek_174 rfl rfl ?_
                refine r_p dX5_seek_175 rfl rfl ?_
                refine r_p dX5_seek_176 rfl rfl ?_
                obtain ⟨q15, kk⟩ := kk
                refine r_get dX5_seek_178 fkX5_100 q15 rfl ?_
                refine r_p dX5_seek_181 rfl rfl ?_
                obtain ⟨q16, kk⟩ := kk
                refine r_cv (d1 := 6) dX5_seek_182 cvX5_169 rfl rfl rfl rfl (Nat.le_of_ble_eq_true rfl) (Nat.le_of_ble_eq_true rfl) (Nat.le_of_ble_eq_true rfl) (c_pl_seek1 (l1 + 1) (l2 + (T301.1 (123 + 4 * (l3 + v4 : Int32).toNatClampNeg) 5)) q16) ?_
                refine r_inc (y := 1) dX5_seek_185 rfl rfl rfl ?_
                refine r_go dX5_seek_188 rfl ?_
                show tR _ _ _ _ [some (.ref 80), some (.int l1), some (.int l2), some (.int l3), some (.int (v4 + 1)), some (.ref (123 + 4 * (l3 + v4 : Int32).toNatClampNeg))] _ _ _ _
                exact r_eV (r' := x_pl_seek2_27 l1 l2 l3 K f (v4 + 1) (x_pl_seek1 T301 (l1 + 1) (l2 + (T301.1 (123 + 4 * (l3 + v4 : Int32).toNatClampNeg) 5)))) rfl (r_le (le_s (le_s (le_s (le_s (le_s (le_n (le_0))))))) (ih (v4 + 1) (x_pl_seek1 T301 (l1 + 1) (l2 + (T301.1 (123 + 4 * (l3 + v4 : Int32).toNatClampNeg) 5))) kk))
              refine r_eV (r' := jn (fun (KJ1 : St → St) => if ((sA ((x_pl_leavesOpen T l1 (l3 + v4)).2) 95 (l1 : Int32).toNatClampNeg (l3 + v4)).1 80 12) ≤ (l1 + 1) then (KJ1 (sA ((x_pl_leavesOpen T l1 (l3 + v4)).2) 95 (l1 : Int32).toNatClampNeg (l3 + v4))) else (fun (T2 : St) => KJ1 T2) (x_ta_add (sA ((x_pl_leavesOpen T l1 (l3 + v4)).2) 95 (l1 : Int32).toNatClampNeg (l3 + v4)) (507 + 5 * (l1 + 1 : Int32).toNatClampNeg) (507 + 5 * (l1 : Int32).toNatClampNeg) ((123 + 4 * (l3 + v4 : Int32).toNatClampNeg) + 3) ((sA ((x_pl_leavesOpen T l1 (l3 + v4)).2) 95 (l1 : Int32).toNatClampNeg (l3 + v4)).2.1 3))) KJ1) (by rw [hKJ1]; rw [x_pl_seek2_27]; rw [if_neg c40_2, if_neg c56_3, if_neg c93_4, if_neg c110_5, if_neg c122_6]) ?_
              refine r_cge dX5_seek_142 rfl (fun c142_8 => ?_) (fun c142_8 => ?_)
              · have kk := kk.1 c142_8
                show tR _ _ _ _ [some (.ref 80), some (.int l1), some (.int l2), some (.int l3), some (.int v4), some (.ref (123 + 4 * (l3 + v4 : Int32).toNatClampNeg))] [] _ _ _
                exact r_eV (r' := KJ1 (sA ((x_pl_leavesOpen T l1 (l3 + v4)).2) 95 (l1 : Int32).toNatClampNeg (l3 + v4))) (by simp only [jn]; rw [if_pos c142_8]) ((hJ1 (sA ((x_pl_leavesOpen T l1 (l3 + v4)).2) 95 (l1 : Int32).toNatClampNeg (l3 + v4)) kk))
              · have kk := kk.2 c142_8
                refine r_p dX5_seek_145 rfl rfl ?_
                refine r_get dX5_seek_146 fkX5_31 rfl rfl ?_
                refine r_p dX5_seek_149 rfl rfl ?_
                refine r_ci (x := 1) dX5_seek_150 rfl ?_
                refine r_p dX5_seek_151 rfl rfl ?_
                obtain ⟨q17, kk⟩ := kk
                refine r_aa dX5_seek_152 rfl (by decide) q17 (rf93 q17) ?_
                refine r_p dX5_seek_153 rfl rfl ?_
                refine r_get dX5_seek_154 fkX5_31 rfl rfl ?_
                refine r_p dX5_seek_157 rfl rfl ?_
                refine r_aa dX5_seek_158 rfl (by decide) q2 (rf93 q2) ?_
                refine r_p dX5_seek_159 rfl rfl ?_
                refine r_get dX5_seek_161 fkX5_110 q7 rfl ?_
                refine r_p dX5_seek_164 rfl rfl ?_
                refine r_get dX5_seek_165 fkX5_69 rfl rfl ?_
                obtain ⟨q18, kk⟩ := kk
                obtain ⟨q19, kk⟩ := kk
                refine r_cv (d1 := 2) dX5_seek_168 cvX5_179 rfl rfl q19 rfl (Nat.le_of_ble_eq_true rfl) (Nat.le_of_ble_eq_true rfl) (Nat.le_of_ble_eq_true rfl) (c_ta_add (507 + 5 * (l1 + 1 : Int32).toNatClampNeg) (507 + 5 * (l1 : Int32).toNatClampNeg) ((123 + 4 * (l3 + v4 : Int32).toNatClampNeg) + 3) ((sA ((x_pl_leavesOpen T l1 (l3 + v4)).2) 95 (l1 : Int32).toNatClampNeg (l3 + v4)).2.1 3) q18) ?_
                refine r_eV (r' := (fun (T2 : St) => KJ1 T2) (x_ta_add (sA ((x_pl_leavesOpen T l1 (l3 + v4)).2) 95 (l1 : Int32).toNatClampNeg (l3 + v4)) (507 + 5 * (l1 + 1 : Int32).toNatClampNeg) (507 + 5 * (l1 : Int32).toNatClampNeg) ((123 + 4 * (l3 + v4 : Int32).toNatClampNeg) + 3) ((sA ((x_pl_leavesOpen T l1 (l3 + v4)).2) 95 (l1 : Int32).toNatClampNeg (l3 + v4)).2.1 3))) (by simp only [jn]; rw [if_neg c142_8]) ?_
                generalize x_ta_add (sA ((x_pl_leavesOpen T l1 (l3 + v4)).2) 95 (l1 : Int32).toNatClampNeg (l3 + v4)) (507 + 5 * (l1 + 1 : Int32).toNatClampNeg) (507 + 5 * (l1 : Int32).toNatClampNeg) ((123 + 4 * (l3 + v4 : Int32).toNatClampNeg) + 3) ((sA ((x_pl_leavesOpen T l1 (l3 + v4)).2) 95 (l1 : Int32).toNatClampNeg (l3 + v4)).2.1 3) = T2 at kk ⊢
                try dsimp only at kk
                show tR _ _ _ _ [some (.ref 80), some (.int l1), some (.int l2), some (.int l3), some (.int v4), some (.ref (123 + 4 * (l3 + v4 : Int32).toNatClampNeg))] [] _ _ _
                exact r_eV (r' := KJ1 T2) rfl ((hJ1 T2 kk))
      · have kk := kk.1 c56_3
        refine r_go dX5_seek_59 rfl ?_
        refine r_inc (y := 1) dX5_seek_185 rfl rfl rfl ?_
        refine r_go dX5_seek_188 rfl ?_
        show tR _ _ _ _ [some (.ref 80), some (.int l1), some (.int l2), some (.int l3), some (.int (v4 + 1)), none] _ _ _ _
        exact r_eV (r' := x_pl_seek2_27 l1 l2 l3 K f (v4 + 1) T) (by rw [x_pl_seek2_27]; rw [if_neg c40_2, if_pos c56_3]) ((ih (v4 + 1) T kk))
def x_pl_seek2 (T : St) (p0 : Int32) (p1 : Int32) : St := if p0 < (T.1 80 12) then (x_pl_seek2_27 p0 p1 ((T.2.2.1 94 (p0 : Int32).toNatClampNeg) * 12) (fun (w1_4 : Int32) (T201 : St) => T201) 1000 0 T) else (x_pl_keepPicked T p1)
def ok_pl_seek2 (T : St) (p0 : Int32) (p1 : Int32) : Prop := ((p0 < (T.1 80 12) → (vp_in p0 4) ∧ ok_pl_seek2_27 p0 p1 ((T.2.2.1 94 (p0 : Int32).toNatClampNeg) * 12) (fun (w1_4 : Int32) (T201 : St) => True) 1000 0 T) ∧ (¬ p0 < (T.1 80 12) → (ok_pl_keepPicked T p1) ∧ True))
theorem c_pl_seek2 {X : Nat × (Nat → Int32)} {T : St} (p0 : Int32) (p1 : Int32) (kk : ok_pl_seek2 T p0 p1) : tC X 7 mX5_seek [.ref 80, .int p0, .int p1] T none (x_pl_seek2 T p0 p1) := by
  unfold ok_pl_seek2 at kk
  refine tC_of ?_
  refine r_p dX5_seek_0 rfl rfl ?_
  refine r_p dX5_seek_1 rfl rfl ?_
  refine r_get dX5_seek_2 fkX5_172 rfl rfl ?_
  refine r_clt dX5_seek_5 rfl (fun c5_1 => ?_) (fun c5_1 => ?_)
  · have kk := kk.1 c5_1
    refine r_p dX5_seek_14 rfl rfl ?_
    refine r_get dX5_seek_15 fkX5_35 rfl rfl ?_
    refine r_p dX5_seek_18 rfl rfl ?_
    obtain ⟨q1, kk⟩ := kk
    refine r_ia dX5_seek_19 rfl q1 ?_
    refine r_cb (x := 12) dX5_seek_20 rfl ?_
    refine r_p dX5_seek_22 rfl rfl ?_
    refine r_p dX5_seek_23 rfl rfl ?_
    refine r_ci (x := 0) dX5_seek_24 rfl ?_
    refine r_p dX5_seek_25 rfl rfl ?_
    show tR _ _ _ _ [some (.ref 80), some (.int p0), some (.int p1), some (.int ((T.2.2.1 94 (p0 : Int32).toNatClampNeg) * 12)), some (.int 0), none] _ _ _ _
    refine r_eV (r' := x_pl_seek2_27 p0 p1 ((T.2.2.1 94 (p0 : Int32).toNatClampNeg) * 12) (fun (w1_4 : Int32) (T201 : St) => T201) 1000 0 T) (by unfold x_pl_seek2; rw [if_pos c5_1]) ((c_pl_seek2_27 p0 p1 ((T.2.2.1 94 (p0 : Int32).toNatClampNeg) * 12) (fun w1_4 T201 kk => ?_) 1000 0 T kk))
    · exact r_eV (r' := T201) rfl (r_rv dX5_seek_191 rfl rfl rfl)
  · have kk := kk.2 c5_1
    refine r_p dX5_seek_8 rfl rfl ?_
    refine r_p dX5_seek_9 rfl rfl ?_
    obtain ⟨q20, kk⟩ := kk
    refine r_cv (d1 := 1) dX5_seek_10 cvX5_183 rfl rfl rfl rfl (Nat.le_of_ble_eq_true rfl) (Nat.le_of_ble_eq_true rfl) (Nat.le_of_ble_eq_true rfl) (c_pl_keepPicked p1 q20) ?_
    exact r_eV (r' := (x_pl_keepPicked T p1)) (by unfold x_pl_seek2; rw [if_neg c5_1]) (r_rv dX5_seek_13 rfl rfl rfl)
def x_pl_seek3_27 (l1 : Int32) (l2 : Int32) (l3 : Int32) (K : Int32 → St → St) : Nat → Int32 → St → St
  | 0, _, T => T
  | f + 1, v4, T => if (T.2.2.1 82 (T.2.2.1 94 (l1 : Int32).toNatClampNeg : Int32).toNatClampNeg) ≤ v4 then (K v4 T) else (if (((T.2.2.1 (100 + (l1 : Int32).toNatClampNeg) (l1 : Int32).toNatClampNeg) >>> (v4 &&& 31)) &&& 1) = 0 then (x_pl_seek3_27 l1 l2 l3 K f (v4 + 1) T) else (if (T.1 80 13) ≤ ((l2 + (T.1 (123 + 4 * (l3 + v4 : Int32).toNatClampNeg) 5)) + (T.2.2.1 97 (l1 + 1 : Int32).toNatClampNeg)) then (x_pl_seek3_27 l1 l2 l3 K f (v4 + 1) T) else (if (x_ta_hasRoom T (507 + 5 * (l1 : Int32).toNatClampNeg) ((123 + 4 * (l3 + v4 : Int32).toNatClampNeg) + 3)) = 0 then (x_pl_seek3_27 l1 l2 l3 K f (v4 + 1) T) else (if ((x_pl_leavesOpen T l1 (l3 + v4)).1) = 0 then (x_pl_seek3_27 l1 l2 l3 K f (v4 + 1) ((x_pl_leavesOpen T l1 (l3 + v4)).2)) else (jn (fun (KJ1 : St → St) => if ((sA ((x_pl_leavesOpen T l1 (l3 + v4)).2) 95 (l1 : Int32).toNatClampNeg (l3 + v4)).1 80 12) ≤ (l1 + 1) then (KJ1 (sA ((x_pl_leavesOpen T l1 (l3 + v4)).2) 95 (l1 : Int32).toNatClampNeg (l3 + v4))) else (fun (T2 : St) => KJ1 T2) (x_ta_add (sA ((x_pl_leavesOpen T l1 (l3 + v4)).2) 95 (l1 : Int32).toNatClampNeg (l3 + v4)) (507 + 5 * (l1 + 1 : Int32).toNatClampNeg) (507 + 5 * (l1 : Int32).toNatClampNeg) ((123 + 4 * (l3 + v4 : Int32).toNatClampNeg) + 3) ((sA ((x_pl_leavesOpen T l1 (l3 + v4)).2) 95 (l1 : Int32).toNatClampNeg (l3 + v4)).2.1 3))) (fun (T301 : St) => x_pl_seek3_27 l1 l2 l3 K f (v4 + 1) (x_pl_seek2 T301 (l1 + 1) (l2 + (T301.1 (123 + 4 * (l3 + v4 : Int32).toNatClampNeg) 5)))))))))
def ok_pl_seek3_27 (l1 : Int32) (l2 : Int32) (l3 : Int32) (Kk : Int32 → St → Prop) : Nat → Int32 → St → Prop
  | 0, _, _ => False
  | f + 1, v4, T => (vp_in l1 4) ∧ (vp_in (T.2.2.1 94 (l1 : Int32).toNatClampNeg) 8) ∧ (((T.2.2.1 82 (T.2.2.1 94 (l1 : Int32).toNatClampNeg : Int32).toNatClampNeg) ≤ v4 → Kk v4 T) ∧ (¬ (T.2.2.1 82 (T.2.2.1 94 (l1 : Int32).toNatClampNeg : Int32).toNatClampNeg) ≤ v4 → (vp_in l1 5) ∧ (sh (100 + (l1 : Int32).toNatClampNeg) = .inl (0, 4)) ∧ (((((T.2.2.1 (100 + (l1 : Int32).toNatClampNeg) (l1 : Int32).toNatClampNeg) >>> (v4 &&& 31)) &&& 1) = 0 → ok_pl_seek3_27 l1 l2 l3 Kk f (v4 + 1) T) ∧ (¬ (((T.2.2.1 (100 + (l1 : Int32).toNatClampNeg) (l1 : Int32).toNatClampNeg) >>> (v4 &&& 31)) &&& 1) = 0 → (vp_in (l3 + v4) 96) ∧ (sh (123 + 4 * (l3 + v4 : Int32).toNatClampNeg) = .inr 10) ∧ (vp_in (l1 + 1) 5) ∧ (((T.1 80 13) ≤ ((l2 + (T.1 (123 + 4 * (l3 + v4 : Int32).toNatClampNeg) 5)) + (T.2.2.1 97 (l1 + 1 : Int32).toNatClampNeg)) → ok_pl_seek3_27 l1 l2 l3 Kk f (v4 + 1) T) ∧ (¬ (T.1 80 13) ≤ ((l2 + (T.1 (123 + 4 * (l3 + v4 : Int32).toNatClampNeg) 5)) + (T.2.2.1 97 (l1 + 1 : Int32).toNatClampNeg)) → (ok_ta_hasRoom T (507 + 5 * (l1 : Int32).toNatClampNeg) ((123 + 4 * (l3 + v4 : Int32).toNatClampNeg) + 3)) ∧ (sh (507 + 5 * (l1 : Int32).toNatClampNeg) = .inr 9) ∧ (((x_ta_hasRoom T (507 + 5 * (l1 : Int32).toNatClampNeg) ((123 + 4 * (l3 + v4 : Int32).toNatClampNeg) + 3)) = 0 → ok_pl_seek3_27 l1 l2 l3 Kk f (v4 + 1) T) ∧ (¬ (x_ta_hasRoom T (507 + 5 * (l1 : Int32).toNatClampNeg) ((123 + 4 * (l3 + v4 : Int32).toNatClampNeg) + 3)) = 0 → (ok_pl_leavesOpen T l1 (l3 + v4)) ∧ ((((x_pl_leavesOpen T l1 (l3 + v4)).1) = 0 → ok_pl_seek3_27 l1 l2 l3 Kk f (v4 + 1) ((x_pl_leavesOpen T l1 (l3 + v4)).2)) ∧ (¬ ((x_pl_leavesOpen T l1 (l3 + v4)).1) = 0 → jn (fun (OJ1 : St → Prop) => ((((sA ((x_pl_leavesOpen T l1 (l3 + v4)).2) 95 (l1 : Int32).toNatClampNeg (l3 + v4)).1 80 12) ≤ (l1 + 1) → OJ1 (sA ((x_pl_leavesOpen T l1 (l3 + v4)).2) 95 (l1 : Int32).toNatClampNeg (l3 + v4))) ∧ (¬ ((sA ((x_pl_leavesOpen T l1 (l3 + v4)).2) 95 (l1 : Int32).toNatClampNeg (l3 + v4)).1 80 12) ≤ (l1 + 1) → (vp_in (l1 + 1) 4) ∧ (ok_ta_add (sA ((x_pl_leavesOpen T l1 (l3 + v4)).2) 95 (l1 : Int32).toNatClampNeg (l3 + v4)) (507 + 5 * (l1 + 1 : Int32).toNatClampNeg) (507 + 5 * (l1 : Int32).toNatClampNeg) ((123 + 4 * (l3 + v4 : Int32).toNatClampNeg) + 3) ((sA ((x_pl_leavesOpen T l1 (l3 + v4)).2) 95 (l1 : Int32).toNatClampNeg (l3 + v4)).2.1 3)) ∧ (sh (507 + 5 * (l1 + 1 : Int32).toNatClampNeg) = .inr 9) ∧ (fun (T2 : St) => OJ1 T2) (x_ta_add (sA ((x_pl_leavesOpen T l1 (l3 + v4)).2) 95 (l1 : Int32).toNatClampNeg (l3 + v4)) (507 + 5 * (l1 + 1 : Int32).toNatClampNeg) (507 + 5 * (l1 : Int32).toNatClampNeg) ((123 + 4 * (l3 + v4 : Int32).toNatClampNeg) + 3) ((sA ((x_pl_leavesOpen T l1 (l3 + v4)).2) 95 (l1 : Int32).toNatClampNeg (l3 + v4)).2.1 3))))) (fun (T301 : St) => (sh (123 + 4 * (l3 + v4 : Int32).toNatClampNeg) = .inr 10) ∧ (ok_pl_seek2 T301 (l1 + 1) (l2 + (T301.1 (123 + 4 * (l3 + v4 : Int32).toNatClampNeg) 5))) ∧ ok_pl_seek3_27 l1 l2 l3 Kk f (v4 + 1) (x_pl_seek2 T301 (l1 + 1) (l2 + (T301.1 (123 + 4 * (l3 + v4 : Int32).toNatClampNeg) 5))))))))))))))
theorem c_pl_seek3_27 {X : Nat × (Nat → Int32)} (l1 : Int32) (l2 : Int32) (l3 : Int32) {K : Int32 → St → St} {Kk : Int32 → St → Prop} (hk : ∀ (v4 : Int32) (T : St), Kk v4 T → tR X 7 mX5_seek 191 [some (.ref 80), some (.int l1), some (.int l2), some (.int l3), some (.int v4), none] [] T none (K v4 T)) : ∀ (f : Nat) (v4 : Int32) (T : St), ok_pl_seek3_27 l1 l2 l3 Kk f v4 T → tR X 7 mX5_seek 27 [some (.ref 80), some (.int l1), some (.int l2), some (.int l3), some (.int v4), none] [] T none (x_pl_seek3_27 l1 l2 l3 K f v4 T) := by
  intro f
  induction f with
  | zero => intro v4 T kk; exact kk.elim
  | succ f ih =>
    intro v4 T kk
    rw [ok_pl_seek3_27] at kk
    refine r_p dX5_seek_27 rfl rfl ?_
    refine r_p dX5_seek_29 rfl rfl ?_
    refine r_get dX5_seek_30 fkX5_17 rfl rfl ?_
    refine r_p dX5_seek_33 rfl rfl ?_
    refine r_get dX5_seek_34 fkX5_35 rfl rfl ?_
    refine r_p dX5_seek_37 rfl rfl ?_
    obtain ⟨q2, kk⟩ := kk
    refine r_ia dX5_seek_38 rfl q2 ?_
    obtain ⟨q3, kk⟩ := kk
    refine r_ia dX5_seek_39 rfl q3 ?_
    refine r_cge dX5_seek_40 rfl (fun c40_2 => ?_) (fun c40_2 => ?_)
    · have kk := kk.1 c40_2
      show tR _ _ _ _ [some (.ref 80), some (.int l1), some (.int l2), some (.int l3), some (.int v4), none] _ _ _ _
      exact r_eV (r' := K v4 T) (by rw [x_pl_seek3_27]; rw [if_pos c40_2]) ((hk v4 T kk))
    · have kk := kk.2 c40_2
      refine r_p dX5_seek_43 rfl rfl ?_
      refine r_get dX5_seek_44 fkX5_52 rfl rfl ?_
      refine r_p dX5_seek_47 rfl rfl ?_
      obtain ⟨q4, kk⟩ := kk
      refine r_aa dX5_seek_48 rfl (by decide) q4 (rf99 q4) ?_
      refine r_p dX5_seek_49 rfl rfl ?_
      obtain ⟨q5, kk⟩ := kk
      refine r_ia dX5_seek_50 q5 q2 ?_
      refine r_p dX5_seek_51 rfl rfl ?_
      refine r_p dX5_seek_53 rfl rfl ?_
      refine r_ci (x := 1) dX5_seek_54 rfl ?_
      refine r_p dX5_seek_55 rfl rfl ?_
      refine r_ine dX5_seek_56 rfl (fun c56_3 => ?_) (fun c56_3 => ?_)
      · have kk := kk.2 c56_3
        refine r_p dX5_seek_62 rfl rfl ?_
        refine r_get dX5_seek_63 fkX5_11 rfl rfl ?_
        refine r_p dX5_seek_66 rfl rfl ?_
        refine r_p dX5_seek_67 rfl rfl ?_
        refine r_p dX5_seek_69 rfl rfl ?_
        obtain ⟨q6, kk⟩ := kk
        refine r_aa dX5_seek_70 rfl (by decide) q6 (rf81 q6) ?_
        refine r_p dX5_seek_71 rfl rfl ?_
        refine r_p dX5_seek_73 rfl rfl ?_
        refine r_p dX5_seek_74 rfl rfl ?_
        obtain ⟨q7, kk⟩ := kk
        refine r_get dX5_seek_76 fkX5_100 q7 rfl ?_
        refine r_p dX5_seek_79 rfl rfl ?_
        refine r_p dX5_seek_80 rfl rfl ?_
        refine r_get dX5_seek_81 fkX5_44 rfl rfl ?_
        refine r_p dX5_seek_84 rfl rfl ?_
        refine r_ci (x := 1) dX5_seek_85 rfl ?_
        refine r_p dX5_seek_86 rfl rfl ?_
        obtain ⟨q8, kk⟩ := kk
        refine r_ia dX5_seek_87 rfl q8 ?_
        refine r_p dX5_seek_88 rfl rfl ?_
        refine r_p dX5_seek_89 rfl rfl ?_
        refine r_get dX5_seek_90 fkX5_160 rfl rfl ?_
        refine r_cge dX5_seek_93 rfl (fun c93_4 => ?_) (fun c93_4 => ?_)
        · have kk := kk.1 c93_4
          refine r_inc (y := 1) dX5_seek_185 rfl rfl rfl ?_
          refine r_go dX5_seek_188 rfl ?_
          show tR _ _ _ _ [some (.ref 80), some (.int l1), some (.int l2), some (.int l3), some (.int (v4 + 1)), some (.ref (123 + 4 * (l3 + v4 : Int32).toNatClampNeg))] _ _ _ _
          exact r_eV (r' := x_pl_seek3_27 l1 l2 l3 K f (v4 + 1) T) (by rw [x_pl_seek3_27]; rw [if_neg c40_2, if_neg c56_3, if_pos c93_4]) (r_le (le_s (le_s (le_s (le_s (le_s (le_n (le_0))))))) (ih (v4 + 1) T kk))
        · have kk := kk.2 c93_4
          refine r_p dX5_seek_96 rfl rfl ?_
          refine r_get dX5_seek_97 fkX5_31 rfl rfl ?_
          refine r_p dX5_seek_100 rfl rfl ?_
          refine r_aa dX5_seek_101 rfl (by decide) q2 (rf93 q2) ?_
          refine r_p dX5_seek_102 rfl rfl ?_
          refine r_get dX5_seek_104 fkX5_110 q7 rfl ?_
          obtain ⟨q9, kk⟩ := kk
          obtain ⟨q10, kk⟩ := kk
          refine r_cv (d1 := 1) dX5_seek_107 cvX5_114 rfl rfl q10 rfl (Nat.le_of_ble_eq_true rfl) (Nat.le_of_ble_eq_true rfl) (Nat.le_of_ble_eq_true rfl) (c_ta_hasRoom (507 + 5 * (l1 : Int32).toNatClampNeg) ((123 + 4 * (l3 + v4 : Int32).toNatClampNeg) + 3) q9) ?_
          refine r_ieq dX5_seek_110 rfl (fun c110_5 => ?_) (fun c110_5 => ?_)
          · have kk := kk.1 c110_5
            refine r_inc (y := 1) dX5_seek_185 rfl rfl rfl ?_
            refine r_go dX5_seek_188 rfl ?_
            show tR _ _ _ _ [some (.ref 80), some (.int l1), some (.int l2), some (.int l3), some (.int (v4 + 1)), some (.ref (123 + 4 * (l3 + v4 : Int32).toNatClampNeg))] _ _ _ _
            exact r_eV (r' := x_pl_seek3_27 l1 l2 l3 K f (v4 + 1) T) (by rw [x_pl_seek3_27]; rw [if_neg c40_2, if_neg c56_3, if_neg c93_4, if_pos c110_5]) (r_le (le_s (le_s (le_s (le_s (le_s (le_n (le_0))))))) (ih (v4 + 1) T kk))
          · have kk := kk.2 c110_5
            refine r_p dX5_seek_113 rfl rfl ?_
            refine r_p dX5_seek_114 rfl rfl ?_
            refine r_p dX5_seek_115 rfl rfl ?_
            refine r_p dX5_seek_116 rfl rfl ?_
            refine r_p dX5_seek_118 rfl rfl ?_
            obtain ⟨q11, kk⟩ := kk
            refine r_cv (d1 := 4) dX5_seek_119 cvX5_186 rfl rfl rfl rfl (Nat.le_of_ble_eq_true rfl) (Nat.le_of_ble_eq_true rfl) (Nat.le_of_ble_eq_true rfl) (c_pl_leavesOpen l1 (l3 + v4) q11) ?_
            refine r_ieq dX5_seek_122 rfl (fun c122_6 => ?_) (fun c122_6 => ?_)
            · have kk := kk.1 c122_6
              refine r_inc (y := 1) dX5_seek_185 rfl rfl rfl ?_
              refine r_go dX5_seek_188 rfl ?_
              show tR _ _ _ _ [some (.ref 80), some (.int l1), some (.int l2), some (.int l3), some (.int (v4 + 1)), some (.ref (123 + 4 * (l3 + v4 : Int32).toNatClampNeg))] _ _ _ _
              exact r_eV (r' := x_pl_seek3_27 l1 l2 l3 K f (v4 + 1) ((x_pl_leavesOpen T l1 (l3 + v4)).2)) (by rw [x_pl_seek3_27]; rw [if_neg c40_2, if_neg c56_3, if_neg c93_4, if_neg c110_5, if_pos c122_6]) (r_le (le_s (le_s (le_s (le_s (le_s (le_n (le_0))))))) (ih (v4 + 1) ((x_pl_leavesOpen T l1 (l3 + v4)).2) kk))
            · have kk := kk.2 c122_6
              refine r_p dX5_seek_125 rfl rfl ?_
              refine r_get dX5_seek_126 fkX5_38 rfl rfl ?_
              refine r_p dX5_seek_129 rfl rfl ?_
              refine r_p dX5_seek_130 rfl rfl ?_
              refine r_p dX5_seek_131 rfl rfl ?_
              refine r_p dX5_seek_133 rfl rfl ?_
              refine r_ias dX5_seek_134 rfl q2 ?_
              refine r_p dX5_seek_135 rfl rfl ?_
              refine r_ci (x := 1) dX5_seek_136 rfl ?_
              refine r_p dX5_seek_137 rfl rfl ?_
              refine r_p dX5_seek_138 rfl rfl ?_
              refine r_get dX5_seek_139 fkX5_172 rfl rfl ?_
              obtain ⟨KJ1, hKJ1⟩ : ∃ q : St → St, q = (fun (T301 : St) => x_pl_seek3_27 l1 l2 l3 K f (v4 + 1) (x_pl_seek2 T301 (l1 + 1) (l2 + (T301.1 (123 + 4 * (l3 + v4 : Int32).toNatClampNeg) 5)))) := ⟨_, rfl⟩
              obtain ⟨OJ1, hOJ1⟩ : ∃ q : St → Prop, q = (fun (T301 : St) => (sh (123 + 4 * (l3 + v4 : Int32).toNatClampNeg) = .inr 10) ∧ (ok_pl_seek2 T301 (l1 + 1) (l2 + (T301.1 (123 + 4 * (l3 + v4 : Int32).toNatClampNeg) 5))) ∧ ok_pl_seek3_27 l1 l2 l3 Kk f (v4 + 1) (x_pl_seek2 T301 (l1 + 1) (l2 + (T301.1 (123 + 4 * (l3 + v4 : Int32).toNatClampNeg) 5)))) := ⟨_, rfl⟩
              rw [← hOJ1] at kk
              simp only [jn] at kk
              have hJ1 : ∀ (T301 : St), OJ1 T301 → tR X 7 mX5_seek 171 [some (.ref 80), some (.int l1), some (.int l2), some (.int l3), some (.int v4), some (.ref (123 + 4 * (l3 + v4 : Int32).toNatClampNeg))] [] T301 none (KJ1 T301) := by
                intro T301 kk
                rw [hOJ1] at kk
                try dsimp only at kk
                rw [hKJ1]
                refine r_p dX5_seek_171 rfl rfl ?_
                refine r_p dX5_seek_172 rfl rfl ?_
                refine r_ci (x := 1) dX5_seek_173 rfl ?_
                refine r_p dX5_seek_174 rfl rfl ?_
                refine r_p dX5_seek_175 rfl rfl ?_
                refine r_p dX5_seek_176 rfl rfl ?_
                obtain ⟨q15, kk⟩ := kk
                refine r_get dX5_seek_178 fkX5_100 q15 rfl ?_
                refine r_p dX5_seek_181 rfl rfl ?_
                obtain ⟨q16, kk⟩ := kk
                refine r_cv (d1 := 7) dX5_seek_182 cvX5_169 rfl rfl rfl rfl (Nat.le_of_ble_eq_true rfl) (Nat.le_of_ble_eq_true rfl) (Nat.le_of_ble_eq_true rfl) (c_pl_seek2 (l1 + 1) (l2 + (T301.1 (123 + 4 * (l3 + v4 : Int32).toNatClampNeg) 5)) q16) ?_
                refine r_inc (y := 1) dX5_seek_185 rfl rfl rfl ?_
                refine r_go dX5_seek_188 rfl ?_
                show tR _ _ _ _ [some (.ref 80), some (.int l1), some (.int l2), some (.int l3), some (.int (v4 + 1)), some (.ref (123 + 4 * (l3 + v4 : Int32).toNatClampNeg))] _ _ _ _
                exact r_eV (r' := x_pl_seek3_27 l1 l2 l3 K f (v4 + 1) (x_pl_seek2 T301 (l1 + 1) (l2 + (T301.1 (123 + 4 * (l3 + v4 : Int32).toNatClampNeg) 5)))) rfl (r_le (le_s (le_s (le_s (le_s (le_s (le_n (le_0))))))) (ih (v4 + 1) (x_pl_seek2 T301 (l1 + 1) (l2 + (T301.1 (123 + 4 * (l3 + v4 : Int32).toNatClampNeg) 5))) kk))
              refine r_eV (r' := jn (fun (KJ1 : St → St) => if ((sA ((x_pl_leavesOpen T l1 (l3 + v4)).2) 95 (l1 : Int32).toNatClampNeg (l3 + v4)).1 80 12) ≤ (l1 + 1) then (KJ1 (sA ((x_pl_leavesOpen T l1 (l3 + v4)).2) 95 (l1 : Int32).toNatClampNeg (l3 + v4))) else (fun (T2 : St) => KJ1 T2) (x_ta_add (sA ((x_pl_leavesOpen T l1 (l3 + v4)).2) 95 (l1 : Int32).toNatClampNeg (l3 + v4)) (507 + 5 * (l1 + 1 : Int32).toNatClampNeg) (507 + 5 * (l1 : Int32).toNatClampNeg) ((123 + 4 * (l3 + v4 : Int32).toNatClampNeg) + 3) ((sA ((x_pl_leavesOpen T l1 (l3 + v4)).2) 95 (l1 : Int32).toNatClampNeg (l3 + v4)).2.1 3))) KJ1) (by rw [hKJ1]; rw [x_pl_seek3_27]; rw [if_neg c40_2, if_neg c56_3, if_neg c93_4, if_neg c110_5, if_neg c122_6]) ?_
              refine r_cge dX5_seek_142 rfl (fun c142_8 => ?_) (fun c142_8 => ?_)
              · have kk := kk.1 c142_8
                show tR _ _ _ _ [some (.ref 80), some (.int l1), some (.int l2), some (.int l3), some (.int v4), some (.ref (123 + 4 * (l3 + v4 : Int32).toNatClampNeg))] [] _ _ _
                exact r_eV (r' := KJ1 (sA ((x_pl_leavesOpen T l1 (l3 + v4)).2) 95 (l1 : Int32).toNatClampNeg (l3 + v4))) (by simp only [jn]; rw [if_pos c142_8]) ((hJ1 (sA ((x_pl_leavesOpen T l1 (l3 + v4)).2) 95 (l1 : Int32).toNatClampNeg (l3 + v4)) kk))
              · have kk := kk.2 c142_8
                refine r_p dX5_seek_145 rfl rfl ?_
                refine r_get dX5_seek_146 fkX5_31 rfl rfl ?_
                refine r_p dX5_seek_149 rfl rfl ?_
                refine r_ci (x := 1) dX5_seek_150 rfl ?_
                refine r_p dX5_seek_151 rfl rfl ?_
                obtain ⟨q17, kk⟩ := kk
                refine r_aa dX5_seek_152 rfl (by decide) q17 (rf93 q17) ?_
                refine r_p dX5_seek_153 rfl rfl ?_
                refine r_get dX5_seek_154 fkX5_31 rfl rfl ?_
                refine r_p dX5_seek_157 rfl rfl ?_
                refine r_aa dX5_seek_158 rfl (by decide) q2 (rf93 q2) ?_
                refine r_p dX5_seek_159 rfl rfl ?_
                refine r_get dX5_seek_161 fkX5_110 q7 rfl ?_
                refine r_p dX5_seek_164 rfl rfl ?_
                refine r_get dX5_seek_165 fkX5_69 rfl rfl ?_
                obtain ⟨q18, kk⟩ := kk
                obtain ⟨q19, kk⟩ := kk
                refine r_cv (d1 := 2) dX5_seek_168 cvX5_179 rfl rfl q19 rfl (Nat.le_of_ble_eq_true rfl) (Nat.le_of_ble_eq_true rfl) (Nat.le_of_ble_eq_true rfl) (c_ta_add (507 + 5 * (l1 + 1 : Int32).toNatClampNeg) (507 + 5 * (l1 : Int32).toNatClampNeg) ((123 + 4 * (l3 + v4 : Int32).toNatClampNeg) + 3) ((sA ((x_pl_leavesOpen T l1 (l3 + v4)).2) 95 (l1 : Int32).toNatClampNeg (l3 + v4)).2.1 3) q18) ?_
                refine r_eV (r' := (fun (T2 : St) => KJ1 T2) (x_ta_add (sA ((x_pl_leavesOpen T l1 (l3 + v4)).2) 95 (l1 : Int32).toNatClampNeg (l3 + v4)) (507 + 5 * (l1 + 1 : Int32).toNatClampNeg) (507 + 5 * (l1 : Int32).toNatClampNeg) ((123 + 4 * (l3 + v4 : Int32).toNatClampNeg) + 3) ((sA ((x_pl_leavesOpen T l1 (l3 + v4)).2) 95 (l1 : Int32).toNatClampNeg (l3 + v4)).2.1 3))) (by simp only [jn]; rw [if_neg c142_8]) ?_
                generalize x_ta_add (sA ((x_pl_leavesOpen T l1 (l3 + v4)).2) 95 (l1 : Int32).toNatClampNeg (l3 + v4)) (507 + 5 * (l1 + 1 : Int32).toNatClampNeg) (507 + 5 * (l1 : Int32).toNatClampNeg) ((123 + 4 * (l3 + v4 : Int32).toNatClampNeg) + 3) ((sA ((x_pl_leavesOpen T l1 (l3 + v4)).2) 95 (l1 : Int32).toNatClampNeg (l3 + v4)).2.1 3) = T2 at kk ⊢
                try dsimp only at kk
                show tR _ _ _ _ [some (.ref 80), some (.int l1), some (.int l2), some (.int l3), some (.int v4), some (.ref (123 + 4 * (l3 + v4 : Int32).toNatClampNeg))] [] _ _ _
                exact r_eV (r' := KJ1 T2) rfl ((hJ1 T2 kk))
      · have kk := kk.1 c56_3
        refine r_go dX5_seek_59 rfl ?_
        refine r_inc (y := 1) dX5_seek_185 rfl rfl rfl ?_
        refine r_go dX5_seek_188 rfl ?_
        show tR _ _ _ _ [some (.ref 80), some (.int l1), some (.int l2), some (.int l3), some (.int (v4 + 1)), none] _ _ _ _
        exact r_eV (r' := x_pl_seek3_27 l1 l2 l3 K f (v4 + 1) T) (by rw [x_pl_seek3_27]; rw [if_neg c40_2, if_pos c56_3]) ((ih (v4 + 1) T kk))
def x_pl_seek3 (T : St) (p0 : Int32) (p1 : Int32) : St := if p0 < (T.1 80 12) then (x_pl_seek3_27 p0 p1 ((T.2.2.1 94 (p0 : Int32).toNatClampNeg) * 12) (fun (w1_4 : Int32) (T201 : St) => T201) 1000 0 T) else (x_pl_keepPicked T p1)
def ok_pl_seek3 (T : St) (p0 : Int32) (p1 : Int32) : Prop := ((p0 < (T.1 80 12) → (vp_in p0 4) ∧ ok_pl_seek3_27 p0 p1 ((T.2.2.1 94 (p0 : Int32).toNatClampNeg) * 12) (fun (w1_4 : Int32) (T201 : St) => True) 1000 0 T) ∧ (¬ p0 < (T.1 80 12) → (ok_pl_keepPicked T p1) ∧ True))
theorem c_pl_seek3 {X : Nat × (Nat → Int32)} {T : St} (p0 : Int32) (p1 : Int32) (kk : ok_pl_seek3 T p0 p1) : tC X 8 mX5_seek [.ref 80, .int p0, .int p1] T none (x_pl_seek3 T p0 p1) := by
  unfold ok_pl_seek3 at kk
  refine tC_of ?_
  refine r_p dX5_seek_0 rfl rfl ?_
  refine r_p dX5_seek_1 rfl rfl ?_
  refine r_get dX5_seek_2 fkX5_172 rfl rfl ?_
  refine r_clt dX5_seek_5 rfl (fun c5_1 => ?_) (fun c5_1 => ?_)
  · have kk := kk.1 c5_1
    refine r_p dX5_seek_14 rfl rfl ?_
    refine r_get dX5_seek_15 fkX5_35 rfl rfl ?_
    refine r_p dX5_seek_18 rfl rfl ?_
    obtain ⟨q1, kk⟩ := kk
    refine r_ia dX5_seek_19 rfl q1 ?_
    refine r_cb (x := 12) dX5_seek_20 rfl ?_
    refine r_p dX5_seek_22 rfl rfl ?_
    refine r_p dX5_seek_23 rfl rfl ?_
    refine r_ci (x := 0) dX5_seek_24 rfl ?_
    refine r_p dX5_seek_25 rfl rfl ?_
    show tR _ _ _ _ [some (.ref 80), some (.int p0), some (.int p1), some (.int ((T.2.2.1 94 (p0 : Int32).toNatClampNeg) * 12)), some (.int 0), none] _ _ _ _
    refine r_eV (r' := x_pl_seek3_27 p0 p1 ((T.2.2.1 94 (p0 : Int32).toNatClampNeg) * 12) (fun (w1_4 : Int32) (T201 : St) => T201) 1000 0 T) (by unfold x_pl_seek3; rw [if_pos c5_1]) ((c_pl_seek3_27 p0 p1 ((T.2.2.1 94 (p0 : Int32).toNatClampNeg) * 12) (fun w1_4 T201 kk => ?_) 1000 0 T kk))
    · exact r_eV (r' := T201) rfl (r_rv dX5_seek_191 rfl rfl rfl)
  · have kk := kk.2 c5_1
    refine r_p dX5_seek_8 rfl rfl ?_
    refine r_p dX5_seek_9 rfl rfl ?_
    obtain ⟨q20, kk⟩ := kk
    refine r_cv (d1 := 1) dX5_seek_10 cvX5_183 rfl rfl rfl rfl (Nat.le_of_ble_eq_true rfl) (Nat.le_of_ble_eq_true rfl) (Nat.le_of_ble_eq_true rfl) (c_pl_keepPicked p1 q20) ?_
    exact r_eV (r' := (x_pl_keepPicked T p1)) (by unfold x_pl_seek3; rw [if_neg c5_1]) (r_rv dX5_seek_13 rfl rfl rfl)
def x_pl_seek4_27 (l1 : Int32) (l2 : Int32) (l3 : Int32) (K : Int32 → St → St) : Nat → Int32 → St → St
  | 0, _, T => T
  | f + 1, v4, T => if (T.2.2.1 82 (T.2.2.1 94 (l1 : Int32).toNatClampNeg : Int32).toNatClampNeg) ≤ v4 then (K v4 T) else (if (((T.2.2.1 (100 + (l1 : Int32).toNatClampNeg) (l1 : Int32).toNatClampNeg) >>> (v4 &&& 31)) &&& 1) = 0 then (x_pl_seek4_27 l1 l2 l3 K f (v4 + 1) T) else (if (T.1 80 13) ≤ ((l2 + (T.1 (123 + 4 * (l3 + v4 : Int32).toNatClampNeg) 5)) + (T.2.2.1 97 (l1 + 1 : Int32).toNatClampNeg)) then (x_pl_seek4_27 l1 l2 l3 K f (v4 + 1) T) else (if (x_ta_hasRoom T (507 + 5 * (l1 : Int32).toNatClampNeg) ((123 + 4 * (l3 + v4 : Int32).toNatClampNeg) + 3)) = 0 then (x_pl_seek4_27 l1 l2 l3 K f (v4 + 1) T) else (if ((x_pl_leavesOpen T l1 (l3 + v4)).1) = 0 then (x_pl_seek4_27 l1 l2 l3 K f (v4 + 1) ((x_pl_leavesOpen T l1 (l3 + v4)).2)) else (jn (fun (KJ1 : St → St) => if ((sA ((x_pl_leavesOpen T l1 (l3 + v4)).2) 95 (l1 : Int32).toNatClampNeg (l3 + v4)).1 80 12) ≤ (l1 + 1) then (KJ1 (sA ((x_pl_leavesOpen T l1 (l3 + v4)).2) 95 (l1 : Int32).toNatClampNeg (l3 + v4))) else (fun (T2 : St) => KJ1 T2) (x_ta_add (sA ((x_pl_leavesOpen T l1 (l3 + v4)).2) 95 (l1 : Int32).toNatClampNeg (l3 + v4)) (507 + 5 * (l1 + 1 : Int32).toNatClampNeg) (507 + 5 * (l1 : Int32).toNatClampNeg) ((123 + 4 * (l3 + v4 : Int32).toNatClampNeg) + 3) ((sA ((x_pl_leavesOpen T l1 (l3 + v4)).2) 95 (l1 : Int32).toNatClampNeg (l3 + v4)).2.1 3))) (fun (T301 : St) => x_pl_seek4_27 l1 l2 l3 K f (v4 + 1) (x_pl_seek3 T301 (l1 + 1) (l2 + (T301.1 (123 + 4 * (l3 + v4 : Int32).toNatClampNeg) 5)))))))))
def ok_pl_seek4_27 (l1 : Int32) (l2 : Int32) (l3 : Int32) (Kk : Int32 → St → Prop) : Nat → Int32 → St → Prop
  | 0, _, _ => False
  | f + 1, v4, T => (vp_in l1 4) ∧ (vp_in (T.2.2.1 94 (l1 : Int32).toNatClampNeg) 8) ∧ (((T.2.2.1 82 (T.2.2.1 94 (l1 : Int32).toNatClampNeg : Int32).toNatClampNeg) ≤ v4 → Kk v4 T) ∧ (¬ (T.2.2.1 82 (T.2.2.1 94 (l1 : Int32).toNatClampNeg : Int32).toNatClampNeg) ≤ v4 → (vp_in l1 5) ∧ (sh (100 + (l1 : Int32).toNatClampNeg) = .inl (0, 4)) ∧ (((((T.2.2.1 (100 + (l1 : Int32).toNatClampNeg) (l1 : Int32).toNatClampNeg) >>> (v4 &&& 31)) &&& 1) = 0 → ok_pl_seek4_27 l1 l2 l3 Kk f (v4 + 1) T) ∧ (¬ (((T.2.2.1 (100 + (l1 : Int32).toNatClampNeg) (l1 : Int32).toNatClampNeg) >>> (v4 &&& 31)) &&& 1) = 0 → (vp_in (l3 + v4) 96) ∧ (sh (123 + 4 * (l3 + v4 : Int32).toNatClampNeg) = .inr 10) ∧ (vp_in (l1 + 1) 5) ∧ (((T.1 80 13) ≤ ((l2 + (T.1 (123 + 4 * (l3 + v4 : Int32).toNatClampNeg) 5)) + (T.2.2.1 97 (l1 + 1 : Int32).toNatClampNeg)) → ok_pl_seek4_27 l1 l2 l3 Kk f (v4 + 1) T) ∧ (¬ (T.1 80 13) ≤ ((l2 + (T.1 (123 + 4 * (l3 + v4 : Int32).toNatClampNeg) 5)) + (T.2.2.1 97 (l1 + 1 : Int32).toNatClampNeg)) → (ok_ta_hasRoom T (507 + 5 * (l1 : Int32).toNatClampNeg) ((123 + 4 * (l3 + v4 : Int32).toNatClampNeg) + 3)) ∧ (sh (507 + 5 * (l1 : Int32).toNatClampNeg) = .inr 9) ∧ (((x_ta_hasRoom T (507 + 5 * (l1 : Int32).toNatClampNeg) ((123 + 4 * (l3 + v4 : Int32).toNatClampNeg) + 3)) = 0 → ok_pl_seek4_27 l1 l2 l3 Kk f (v4 + 1) T) ∧ (¬ (x_ta_hasRoom T (507 + 5 * (l1 : Int32).toNatClampNeg) ((123 + 4 * (l3 + v4 : Int32).toNatClampNeg) + 3)) = 0 → (ok_pl_leavesOpen T l1 (l3 + v4)) ∧ ((((x_pl_leavesOpen T l1 (l3 + v4)).1) = 0 → ok_pl_seek4_27 l1 l2 l3 Kk f (v4 + 1) ((x_pl_leavesOpen T l1 (l3 + v4)).2)) ∧ (¬ ((x_pl_leavesOpen T l1 (l3 + v4)).1) = 0 → jn (fun (OJ1 : St → Prop) => ((((sA ((x_pl_leavesOpen T l1 (l3 + v4)).2) 95 (l1 : Int32).toNatClampNeg (l3 + v4)).1 80 12) ≤ (l1 + 1) → OJ1 (sA ((x_pl_leavesOpen T l1 (l3 + v4)).2) 95 (l1 : Int32).toNatClampNeg (l3 + v4))) ∧ (¬ ((sA ((x_pl_leavesOpen T l1 (l3 + v4)).2) 95 (l1 : Int32).toNatClampNeg (l3 + v4)).1 80 12) ≤ (l1 + 1) → (vp_in (l1 + 1) 4) ∧ (ok_ta_add (sA ((x_pl_leavesOpen T l1 (l3 + v4)).2) 95 (l1 : Int32).toNatClampNeg (l3 + v4)) (507 + 5 * (l1 + 1 : Int32).toNatClampNeg) (507 + 5 * (l1 : Int32).toNatClampNeg) ((123 + 4 * (l3 + v4 : Int32).toNatClampNeg) + 3) ((sA ((x_pl_leavesOpen T l1 (l3 + v4)).2) 95 (l1 : Int32).toNatClampNeg (l3 + v4)).2.1 3)) ∧ (sh (507 + 5 * (l1 + 1 : Int32).toNatClampNeg) = .inr 9) ∧ (fun (T2 : St) => OJ1 T2) (x_ta_add (sA ((x_pl_leavesOpen T l1 (l3 + v4)).2) 95 (l1 : Int32).toNatClampNeg (l3 + v4)) (507 + 5 * (l1 + 1 : Int32).toNatClampNeg) (507 + 5 * (l1 : Int32).toNatClampNeg) ((123 + 4 * (l3 + v4 : Int32).toNatClampNeg) + 3) ((sA ((x_pl_leavesOpen T l1 (l3 + v4)).2) 95 (l1 : Int32).toNatClampNeg (l3 + v4)).2.1 3))))) (fun (T301 : St) => (sh (123 + 4 * (l3 + v4 : Int32).toNatClampNeg) = .inr 10) ∧ (ok_pl_seek3 T301 (l1 + 1) (l2 + (T301.1 (123 + 4 * (l3 + v4 : Int32).toNatClampNeg) 5))) ∧ ok_pl_seek4_27 l1 l2 l3 Kk f (v4 + 1) (x_pl_seek3 T301 (l1 + 1) (l2 + (T301.1 (123 + 4 * (l3 + v4 : Int32).toNatClampNeg) 5))))))))))))))
theorem c_pl_seek4_27 {X : Nat × (Nat → Int32)} (l1 : Int32) (l2 : Int32) (l3 : Int32) {K : Int32 → St → St} {Kk : Int32 → St → Prop} (hk : ∀ (v4 : Int32) (T : St), Kk v4 T → tR X 8 mX5_seek 191 [some (.ref 80), some (.int l1), some (.int l2), some (.int l3), some (.int v4), none] [] T none (K v4 T)) : ∀ (f : Nat) (v4 : Int32) (T : St), ok_pl_seek4_27 l1 l2 l3 Kk f v4 T → tR X 8 mX5_seek 27 [some (.ref 80), some (.int l1), some (.int l2), some (.int l3), some (.int v4), none] [] T none (x_pl_seek4_27 l1 l2 l3 K f v4 T) := by
  intro f
  induction f with
  | zero => intro v4 T kk; exact kk.elim
  | succ f ih =>
    intro v4 T kk
    rw [ok_pl_seek4_27] at kk
    refine r_p dX5_seek_27 rfl rfl ?_
    refine r_p dX5_seek_29 rfl rfl ?_
    refine r_get dX5_seek_30 fkX5_17 rfl rfl ?_
    refine r_p dX5_seek_33 rfl rfl ?_
    refine r_get dX5_seek_34 fkX5_35 rfl rfl ?_
    refine r_p dX5_seek_37 rfl rfl ?_
    obtain ⟨q2, kk⟩ := kk
    refine r_ia dX5_seek_38 rfl q2 ?_
    obtain ⟨q3, kk⟩ := kk
    refine r_ia dX5_seek_39 rfl q3 ?_
    refine r_cge dX5_seek_40 rfl (fun c40_2 => ?_) (fun c40_2 => ?_)
    · have kk := kk.1 c40_2
      show tR _ _ _ _ [some (.ref 80), some (.int l1), some (.int l2), some (.int l3), some (.int v4), none] _ _ _ _
      exact r_eV (r' := K v4 T) (by rw [x_pl_seek4_27]; rw [if_pos c40_2]) ((hk v4 T kk))
    · have kk := kk.2 c40_2
      refine r_p dX5_seek_43 rfl rfl ?_
      refine r_get dX5_seek_44 fkX5_52 rfl rfl ?_
      refine r_p dX5_seek_47 rfl rfl ?_
      obtain ⟨q4, kk⟩ := kk
      refine r_aa dX5_seek_48 rfl (by decide) q4 (rf99 q4) ?_
      refine r_p dX5_seek_49 rfl rfl ?_
      obtain ⟨q5, kk⟩ := kk
      refine r_ia dX5_seek_50 q5 q2 ?_
      refine r_p dX5_seek_51 rfl rfl ?_
      refine r_p dX5_seek_53 rfl rfl ?_
      refine r_ci (x := 1) dX5_seek_54 rfl ?_
      refine r_p dX5_seek_55 rfl rfl ?_
      refine r_ine dX5_seek_56 rfl (fun c56_3 => ?_) (fun c56_3 => ?_)
      · have kk := kk.2 c56_3
        refine r_p dX5_seek_62 rfl rfl ?_
        refine r_get dX5_seek_63 fkX5_11 rfl rfl ?_
        refine r_p dX5_seek_66 rfl rfl ?_
        refine r_p dX5_seek_67 rfl rfl ?_
        refine r_p dX5_seek_69 rfl rfl ?_
        obtain ⟨q6, kk⟩ := kk
        refine r_aa dX5_seek_70 rfl (by decide) q6 (rf81 q6) ?_
        refine r_p dX5_seek_71 rfl rfl ?_
        refine r_p dX5_seek_73 rfl rfl ?_
        refine r_p dX5_seek_74 rfl rfl ?_
        obtain ⟨q7, kk⟩ := kk
        refine r_get dX5_seek_76 fkX5_100 q7 rfl ?_
        refine r_p dX5_seek_79 rfl rfl ?_
        refine r_p dX5_seek_80 rfl rfl ?_
        refine r_get dX5_seek_81 fkX5_44 rfl rfl ?_
        refine r_p dX5_seek_84 rfl rfl ?_
        refine r_ci (x := 1) dX5_seek_85 rfl ?_
        refine r_p dX5_seek_86 rfl rfl ?_
        obtain ⟨q8, kk⟩ := kk
        refine r_ia dX5_seek_87 rfl q8 ?_
        refine r_p dX5_seek_88 rfl rfl ?_
        refine r_p dX5_seek_89 rfl rfl ?_
        refine r_get dX5_seek_90 fkX5_160 rfl rfl ?_
        refine r_cge dX5_seek_93 rfl (fun c93_4 => ?_) (fun c93_4 => ?_)
        · have kk := kk.1 c93_4
          refine r_inc (y := 1) dX5_seek_185 rfl rfl rfl ?_
          refine r_go dX5_seek_188 rfl ?_
          show tR _ _ _ _ [some (.ref 80), some (.int l1), some (.int l2), some (.int l3), some (.int (v4 + 1)), some (.ref (123 + 4 * (l3 + v4 : Int32).toNatClampNeg))] _ _ _ _
          exact r_eV (r' := x_pl_seek4_27 l1 l2 l3 K f (v4 + 1) T) (by rw [x_pl_seek4_27]; rw [if_neg c40_2, if_neg c56_3, if_pos c93_4]) (r_le (le_s (le_s (le_s (le_s (le_s (le_n (le_0))))))) (ih (v4 + 1) T kk))
        · have kk := kk.2 c93_4
          refine r_p dX5_seek_96 rfl rfl ?_
          refine r_get dX5_seek_97 fkX5_31 rfl rfl ?_
          refine r_p dX5_seek_100 rfl rfl ?_
          refine r_aa dX5_seek_101 rfl (by decide) q2 (rf93 q2) ?_
          refine r_p dX5_seek_102 rfl rfl ?_
          refine r_get dX5_seek_104 fkX5_110 q7 rfl ?_
          obtain ⟨q9, kk⟩ := kk
          obtain ⟨q10, kk⟩ := kk
          refine r_cv (d1 := 1) dX5_seek_107 cvX5_114 rfl rfl q10 rfl (Nat.le_of_ble_eq_true rfl) (Nat.le_of_ble_eq_true rfl) (Nat.le_of_ble_eq_true rfl) (c_ta_hasRoom (507 + 5 * (l1 : Int32).toNatClampNeg) ((123 + 4 * (l3 + v4 : Int32).toNatClampNeg) + 3) q9) ?_
          refine r_ieq dX5_seek_110 rfl (fun c110_5 => ?_) (fun c110_5 => ?_)
          · have kk := kk.1 c110_5
            refine r_inc (y := 1) dX5_seek_185 rfl rfl rfl ?_
            refine r_go dX5_seek_188 rfl ?_
            show tR _ _ _ _ [some (.ref 80), some (.int l1), some (.int l2), some (.int l3), some (.int (v4 + 1)), some (.ref (123 + 4 * (l3 + v4 : Int32).toNatClampNeg))] _ _ _ _
            exact r_eV (r' := x_pl_seek4_27 l1 l2 l3 K f (v4 + 1) T) (by rw [x_pl_seek4_27]; rw [if_neg c40_2, if_neg c56_3, if_neg c93_4, if_pos c110_5]) (r_le (le_s (le_s (le_s (le_s (le_s (le_n (le_0))))))) (ih (v4 + 1) T kk))
          · have kk := kk.2 c110_5
            refine r_p dX5_seek_113 rfl rfl ?_
            refine r_p dX5_seek_114 rfl rfl ?_
            refine r_p dX5_seek_115 rfl rfl ?_
            refine r_p dX5_seek_116 rfl rfl ?_
            refine r_p dX5_seek_118 rfl rfl ?_
            obtain ⟨q11, kk⟩ := kk
            refine r_cv (d1 := 4) dX5_seek_119 cvX5_186 rfl rfl rfl rfl (Nat.le_of_ble_eq_true rfl) (Nat.le_of_ble_eq_true rfl) (Nat.le_of_ble_eq_true rfl) (c_pl_leavesOpen l1 (l3 + v4) q11) ?_
            refine r_ieq dX5_seek_122 rfl (fun c122_6 => ?_) (fun c122_6 => ?_)
            · have kk := kk.1 c122_6
              refine r_inc (y := 1) dX5_seek_185 rfl rfl rfl ?_
              refine r_go dX5_seek_188 rfl ?_
              show tR _ _ _ _ [some (.ref 80), some (.int l1), some (.int l2), some (.int l3), some (.int (v4 + 1)), some (.ref (123 + 4 * (l3 + v4 : Int32).toNatClampNeg))] _ _ _ _
              exact r_eV (r' := x_pl_seek4_27 l1 l2 l3 K f (v4 + 1) ((x_pl_leavesOpen T l1 (l3 + v4)).2)) (by rw [x_pl_seek4_27]; rw [if_neg c40_2, if_neg c56_3, if_neg c93_4, if_neg c110_5, if_pos c122_6]) (r_le (le_s (le_s (le_s (le_s (le_s (le_n (le_0))))))) (ih (v4 + 1) ((x_pl_leavesOpen T l1 (l3 + v4)).2) kk))
            · have kk := kk.2 c122_6
              refine r_p dX5_seek_125 rfl rfl ?_
              refine r_get dX5_seek_126 fkX5_38 rfl rfl ?_
              refine r_p dX5_seek_129 rfl rfl ?_
              refine r_p dX5_seek_130 rfl rfl ?_
              refine r_p dX5_seek_131 rfl rfl ?_
              refine r_p dX5_seek_133 rfl rfl ?_
              refine r_ias dX5_seek_134 rfl q2 ?_
              refine r_p dX5_seek_135 rfl rfl ?_
              refine r_ci (x := 1) dX5_seek_136 rfl ?_
              refine r_p dX5_seek_137 rfl rfl ?_
              refine r_p dX5_seek_138 rfl rfl ?_
              refine r_get dX5_seek_139 fkX5_172 rfl rfl ?_
              obtain ⟨KJ1, hKJ1⟩ : ∃ q : St → St, q = (fun (T301 : St) => x_pl_seek4_27 l1 l2 l3 K f (v4 + 1) (x_pl_seek3 T301 (l1 + 1) (l2 + (T301.1 (123 + 4 * (l3 + v4 : Int32).toNatClampNeg) 5)))) := ⟨_, rfl⟩
              obtain ⟨OJ1, hOJ1⟩ : ∃ q : St → Prop, q = (fun (T301 : St) => (sh (123 + 4 * (l3 + v4 : Int32).toNatClampNeg) = .inr 10) ∧ (ok_pl_seek3 T301 (l1 + 1) (l2 + (T301.1 (123 + 4 * (l3 + v4 : Int32).toNatClampNeg) 5))) ∧ ok_pl_seek4_27 l1 l2 l3 Kk f (v4 + 1) (x_pl_seek3 T301 (l1 + 1) (l2 + (T301.1 (123 + 4 * (l3 + v4 : Int32).toNatClampNeg) 5)))) := ⟨_, rfl⟩
              rw [← hOJ1] at kk
              simp only [jn] at kk
              have hJ1 : ∀ (T301 : St), OJ1 T301 → tR X 8 mX5_seek 171 [some (.ref 80), some (.int l1), some (.int l2), some (.int l3), some (.int v4), some (.ref (123 + 4 * (l3 + v4 : Int32).toNatClampNeg))] [] T301 none (KJ1 T301) := by
                intro T301 kk
                rw [hOJ1] at kk
                try dsimp only at kk
                rw [hKJ1]
                refine r_p dX5_seek_171 rfl rfl ?_
                refine r_p dX5_seek_172 rfl rfl ?_
                refine r_ci (x := 1) dX5_seek_173 rfl ?_
                refine r_p dX5_seek_174 rfl rfl ?_
                refine r_p dX5_seek_175 rfl rfl ?_
                refine r_p dX5_seek_176 rfl rfl ?_
                obtain ⟨q15, kk⟩ := kk
                refine r_get dX5_seek_178 fkX5_100 q15 rfl ?_
                refine r_p dX5_seek_181 rfl rfl ?_
                obtain ⟨q16, kk⟩ := kk
                refine r_cv (d1 := 8) dX5_seek_182 cvX5_169 rfl rfl rfl rfl (Nat.le_of_ble_eq_true rfl) (Nat.le_of_ble_eq_true rfl) (Nat.le_of_ble_eq_true rfl) (c_pl_seek3 (l1 + 1) (l2 + (T301.1 (123 + 4 * (l3 + v4 : Int32).toNatClampNeg) 5)) q16) ?_
                refine r_inc (y := 1) dX5_seek_185 rfl rfl rfl ?_
                refine r_go dX5_seek_188 rfl ?_
                show tR _ _ _ _ [some (.ref 80), some (.int l1), some (.int l2), some (.int l3), some (.int (v4 + 1)), some (.ref (123 + 4 * (l3 + v4 : Int32).toNatClampNeg))] _ _ _ _
                exact r_eV (r' := x_pl_seek4_27 l1 l2 l3 K f (v4 + 1) (x_pl_seek3 T301 (l1 + 1) (l2 + (T301.1 (123 + 4 * (l3 + v4 : Int32).toNatClampNeg) 5)))) rfl (r_le (le_s (le_s (le_s (le_s (le_s (le_n (le_0))))))) (ih (v4 + 1) (x_pl_seek3 T301 (l1 + 1) (l2 + (T301.1 (123 + 4 * (l3 + v4 : Int32).toNatClampNeg) 5))) kk))
              refine r_eV (r' := jn (fun (KJ1 : St → St) => if ((sA ((x_pl_leavesOpen T l1 (l3 + v4)).2) 95 (l1 : Int32).toNatClampNeg (l3 + v4)).1 80 12) ≤ (l1 + 1) then (KJ1 (sA ((x_pl_leavesOpen T l1 (l3 + v4)).2) 95 (l1 : Int32).toNatClampNeg (l3 + v4))) else (fun (T2 : St) => KJ1 T2) (x_ta_add (sA ((x_pl_leavesOpen T l1 (l3 + v4)).2) 95 (l1 : Int32).toNatClampNeg (l3 + v4)) (507 + 5 * (l1 + 1 : Int32).toNatClampNeg) (507 + 5 * (l1 : Int32).toNatClampNeg) ((123 + 4 * (l3 + v4 : Int32).toNatClampNeg) + 3) ((sA ((x_pl_leavesOpen T l1 (l3 + v4)).2) 95 (l1 : Int32).toNatClampNeg (l3 + v4)).2.1 3))) KJ1) (by rw [hKJ1]; rw [x_pl_seek4_27]; rw [if_neg c40_2, if_neg c56_3, if_neg c93_4, if_neg c110_5, if_neg c122_6]) ?_
              refine r_cge dX5_seek_142 rfl (fun c142_8 => ?_) (fun c142_8 => ?_)
              · have kk := kk.1 c142_8
                show tR _ _ _ _ [some (.ref 80), some (.int l1), some (.int l2), some (.int l3), some (.int v4), some (.ref (123 + 4 * (l3 + v4 : Int32).toNatClampNeg))] [] _ _ _
                exact r_eV (r' := KJ1 (sA ((x_pl_leavesOpen T l1 (l3 + v4)).2) 95 (l1 : Int32).toNatClampNeg (l3 + v4))) (by simp only [jn]; rw [if_pos c142_8]) ((hJ1 (sA ((x_pl_leavesOpen T l1 (l3 + v4)).2) 95 (l1 : Int32).toNatClampNeg (l3 + v4)) kk))
              · have kk := kk.2 c142_8
                refine r_p dX5_seek_145 rfl rfl ?_
                refine r_get dX5_seek_146 fkX5_31 rfl rfl ?_
                refine r_p dX5_seek_149 rfl rfl ?_
                refine r_ci (x := 1) dX5_seek_150 rfl ?_
                refine r_p dX5_seek_151 rfl rfl ?_
                obtain ⟨q17, kk⟩ := kk
                refine r_aa dX5_seek_152 rfl (by decide) q17 (rf93 q17) ?_
                refine r_p dX5_seek_153 rfl rfl ?_
                refine r_get dX5_seek_154 fkX5_31 rfl rfl ?_
                refine r_p dX5_seek_157 rfl rfl ?_
                refine r_aa dX5_seek_158 rfl (by decide) q2 (rf93 q2) ?_
                refine r_p dX5_seek_159 rfl rfl ?_
                refine r_get dX5_seek_161 fkX5_110 q7 rfl ?_
                refine r_p dX5_seek_164 rfl rfl ?_
                refine r_get dX5_seek_165 fkX5_69 rfl rfl ?_
                obtain ⟨q18, kk⟩ := kk
                obtain ⟨q19, kk⟩ := kk
                refine r_cv (d1 := 2) dX5_seek_168 cvX5_179 rfl rfl q19 rfl (Nat.le_of_ble_eq_true rfl) (Nat.le_of_ble_eq_true rfl) (Nat.le_of_ble_eq_true rfl) (c_ta_add (507 + 5 * (l1 + 1 : Int32).toNatClampNeg) (507 + 5 * (l1 : Int32).toNatClampNeg) ((123 + 4 * (l3 + v4 : Int32).toNatClampNeg) + 3) ((sA ((x_pl_leavesOpen T l1 (l3 + v4)).2) 95 (l1 : Int32).toNatClampNeg (l3 + v4)).2.1 3) q18) ?_
                refine r_eV (r' := (fun (T2 : St) => KJ1 T2) (x_ta_add (sA ((x_pl_leavesOpen T l1 (l3 + v4)).2) 95 (l1 : Int32).toNatClampNeg (l3 + v4)) (507 + 5 * (l1 + 1 : Int32).toNatClampNeg) (507 + 5 * (l1 : Int32).toNatClampNeg) ((123 + 4 * (l3 + v4 : Int32).toNatClampNeg) + 3) ((sA ((x_pl_leavesOpen T l1 (l3 + v4)).2) 95 (l1 : Int32).toNatClampNeg (l3 + v4)).2.1 3))) (by simp only [jn]; rw [if_neg c142_8]) ?_
                generalize x_ta_add (sA ((x_pl_leavesOpen T l1 (l3 + v4)).2) 95 (l1 : Int32).toNatClampNeg (l3 + v4)) (507 + 5 * (l1 + 1 : Int32).toNatClampNeg) (507 + 5 * (l1 : Int32).toNatClampNeg) ((123 + 4 * (l3 + v4 : Int32).toNatClampNeg) + 3) ((sA ((x_pl_leavesOpen T l1 (l3 + v4)).2) 95 (l1 : Int32).toNatClampNeg (l3 + v4)).2.1 3) = T2 at kk ⊢
                try dsimp only at kk
                show tR _ _ _ _ [some (.ref 80), some (.int l1), some (.int l2), some (.int l3), some (.int v4), some (.ref (123 + 4 * (l3 + v4 : Int32).toNatClampNeg))] [] _ _ _
                exact r_eV (r' := KJ1 T2) rfl ((hJ1 T2 kk))
      · have kk := kk.1 c56_3
        refine r_go dX5_seek_59 rfl ?_
        refine r_inc (y := 1) dX5_seek_185 rfl rfl rfl ?_
        refine r_go dX5_seek_188 rfl ?_
        show tR _ _ _ _ [some (.ref 80), some (.int l1), some (.int l2), some (.int l3), some (.int (v4 + 1)), none] _ _ _ _
        exact r_eV (r' := x_pl_seek4_27 l1 l2 l3 K f (v4 + 1) T) (by rw [x_pl_seek4_27]; rw [if_neg c40_2, if_pos c56_3]) ((ih (v4 + 1) T kk))
def x_pl_seek4 (T : St) (p0 : Int32) (p1 : Int32) : St := if p0 < (T.1 80 12) then (x_pl_seek4_27 p0 p1 ((T.2.2.1 94 (p0 : Int32).toNatClampNeg) * 12) (fun (w1_4 : Int32) (T201 : St) => T201) 1000 0 T) else (x_pl_keepPicked T p1)
def ok_pl_seek4 (T : St) (p0 : Int32) (p1 : Int32) : Prop := ((p0 < (T.1 80 12) → (vp_in p0 4) ∧ ok_pl_seek4_27 p0 p1 ((T.2.2.1 94 (p0 : Int32).toNatClampNeg) * 12) (fun (w1_4 : Int32) (T201 : St) => True) 1000 0 T) ∧ (¬ p0 < (T.1 80 12) → (ok_pl_keepPicked T p1) ∧ True))
theorem c_pl_seek4 {X : Nat × (Nat → Int32)} {T : St} (p0 : Int32) (p1 : Int32) (kk : ok_pl_seek4 T p0 p1) : tC X 9 mX5_seek [.ref 80, .int p0, .int p1] T none (x_pl_seek4 T p0 p1) := by
  unfold ok_pl_seek4 at kk
  refine tC_of ?_
  refine r_p dX5_seek_0 rfl rfl ?_
  refine r_p dX5_seek_1 rfl rfl ?_
  refine r_get dX5_seek_2 fkX5_172 rfl rfl ?_
  refine r_clt dX5_seek_5 rfl (fun c5_1 => ?_) (fun c5_1 => ?_)
  · have kk := kk.1 c5_1
    refine r_p dX5_seek_14 rfl rfl ?_
    refine r_get dX5_seek_15 fkX5_35 rfl rfl ?_
    refine r_p dX5_seek_18 rfl rfl ?_
    obtain ⟨q1, kk⟩ := kk
    refine r_ia dX5_seek_19 rfl q1 ?_
    refine r_cb (x := 12) dX5_seek_20 rfl ?_
    refine r_p dX5_seek_22 rfl rfl ?_
    refine r_p dX5_seek_23 rfl rfl ?_
    refine r_ci (x := 0) dX5_seek_24 rfl ?_
    refine r_p dX5_seek_25 rfl rfl ?_
    show tR _ _ _ _ [some (.ref 80), some (.int p0), some (.int p1), some (.int ((T.2.2.1 94 (p0 : Int32).toNatClampNeg) * 12)), some (.int 0), none] _ _ _ _
    refine r_eV (r' := x_pl_seek4_27 p0 p1 ((T.2.2.1 94 (p0 : Int32).toNatClampNeg) * 12) (fun (w1_4 : Int32) (T201 : St) => T201) 1000 0 T) (by unfold x_pl_seek4; rw [if_pos c5_1]) ((c_pl_seek4_27 p0 p1 ((T.2.2.1 94 (p0 : Int32).toNatClampNeg) * 12) (fun w1_4 T201 kk => ?_) 1000 0 T kk))
    · exact r_eV (r' := T201) rfl (r_rv dX5_seek_191 rfl rfl rfl)
  · have kk := kk.2 c5_1
    refine r_p dX5_seek_8 rfl rfl ?_
    refine r_p dX5_seek_9 rfl rfl ?_
    obtain ⟨q20, kk⟩ := kk
    refine r_cv (d1 := 1) dX5_seek_10 cvX5_183 rfl rfl rfl rfl (Nat.le_of_ble_eq_true rfl) (Nat.le_of_ble_eq_true rfl) (Nat.le_of_ble_eq_true rfl) (c_pl_keepPicked p1 q20) ?_
    exact r_eV (r' := (x_pl_keepPicked T p1)) (by unfold x_pl_seek4; rw [if_neg c5_1]) (r_rv dX5_seek_13 rfl rfl rfl)
def x_ask_answer (T : St) (p0 : Nat) (p1 : Int32) (p2 : Int32) : Int32 × St := if p2 = 0 then ((x_ask_sizeOf (sF T 555 1 0) p0 p1 0).1, (x_ask_sizeOf (sF T 555 1 0) p0 p1 0).2) else ((x_ask_markOf (sF T 555 1 0) p0 p1 0).1, (x_ask_markOf (sF T 555 1 0) p0 p1 0).2)
def ok_ask_answer (T : St) (p0 : Nat) (p1 : Int32) (p2 : Int32) : Prop := ((p2 = 0 → (ok_ask_sizeOf (sF T 555 1 0) p0 p1 0) ∧ True) ∧ (¬ p2 = 0 → (ok_ask_markOf (sF T 555 1 0) p0 p1 0) ∧ True))
theorem c_ask_answer {X : Nat × (Nat → Int32)} {T : St} (p0 : Nat) (p1 : Int32) (p2 : Int32) (kk : ok_ask_answer T p0 p1 p2) : tC X 7 mX0_answer [.ref 555, .ref p0, .int p1, .int p2] T (some (.int (x_ask_answer T p0 p1 p2).1)) ((x_ask_answer T p0 p1 p2).2) := by
  unfold ok_ask_answer at kk
  refine tC_of ?_
  refine r_p dX0_answer_0 rfl rfl ?_
  refine r_ci (x := 0) dX0_answer_1 rfl ?_
  refine r_put dX0_answer_2 fkX0_16 rfl rfl rfl (Nat.le_of_ble_eq_true rfl) rfl rfl ?_
  refine r_p dX0_answer_5 rfl rfl ?_
  refine r_ine dX0_answer_6 rfl (fun c6_1 => ?_) (fun c6_1 => ?_)
  · have kk := kk.2 c6_1
    refine r_p dX0_answer_19 rfl rfl ?_
    refine r_p dX0_answer_20 rfl rfl ?_
    refine r_p dX0_answer_21 rfl rfl ?_
    refine r_ci (x := 0) dX0_answer_22 rfl ?_
    obtain ⟨q1, kk⟩ := kk
    refine r_cv (d1 := 6) dX0_answer_23 cvX0_24 rfl rfl rfl rfl (Nat.le_of_ble_eq_true rfl) (Nat.le_of_ble_eq_true rfl) (Nat.le_of_ble_eq_true rfl) (c_ask_markOf p0 p1 0 q1) ?_
    exact r_eI (r' := ((x_ask_markOf (sF T 555 1 0) p0 p1 0).1, (x_ask_markOf (sF T 555 1 0) p0 p1 0).2)) (by unfold x_ask_answer; rw [if_neg c6_1]) (r_ri dX0_answer_26 rfl rfl rfl rfl)
  · have kk := kk.1 c6_1
    refine r_p dX0_answer_9 rfl rfl ?_
    refine r_p dX0_answer_10 rfl rfl ?_
    refine r_p dX0_answer_11 rfl rfl ?_
    refine r_ci (x := 0) dX0_answer_12 rfl ?_
    obtain ⟨q2, kk⟩ := kk
    refine r_cv (d1 := 5) dX0_answer_13 cvX0_20 rfl rfl rfl rfl (Nat.le_of_ble_eq_true rfl) (Nat.le_of_ble_eq_true rfl) (Nat.le_of_ble_eq_true rfl) (c_ask_sizeOf p0 p1 0 q2) ?_
    refine r_go dX0_answer_16 rfl ?_
    exact r_eI (r' := ((x_ask_sizeOf (sF T 555 1 0) p0 p1 0).1, (x_ask_sizeOf (sF T 555 1 0) p0 p1 0).2)) (by unfold x_ask_answer; rw [if_pos c6_1]) (r_ri dX0_answer_26 rfl rfl rfl rfl)
def x_pl_finds (T : St) (p0 : Int32) (p1 : Int32) : Int32 × St := jn (fun (KJ1 : St → Int32 × St) => if ((x_pl_seatAll (sF (sF (sF T 80 14 p1) 80 13 1000000) 80 17 (-1000000)) p0).1) = 0 then (KJ1 ((x_pl_seatAll (sF (sF (sF T 80 14 p1) 80 13 1000000) 80 17 (-1000000)) p0).2)) else (fun (T2 : St) => KJ1 T2) (x_pl_seek4 ((x_pl_seatAll (sF (sF (sF T 80 14 p1) 80 13 1000000) 80 17 (-1000000)) p0).2) 0 0)) (fun (T301 : St) => if (T301.1 80 17) = (-1000000) then (0, T301) else (1, T301))
def ok_pl_finds (T : St) (p0 : Int32) (p1 : Int32) : Prop := ((p1 = 0 ∨ p1 = (1 : Int32))) ∧ (ok_pl_seatAll (sF (sF (sF T 80 14 p1) 80 13 1000000) 80 17 (-1000000)) p0) ∧ (¬ ((x_pl_seatAll (sF (sF (sF T 80 14 p1) 80 13 1000000) 80 17 (-1000000)) p0).1) = 0 → (ok_pl_seek4 ((x_pl_seatAll (sF (sF (sF T 80 14 p1) 80 13 1000000) 80 17 (-1000000)) p0).2) 0 0) ∧ True)
theorem c_pl_finds {X : Nat × (Nat → Int32)} {T : St} (p0 : Int32) (p1 : Int32) (kk : ok_pl_finds T p0 p1) : tC X 10 mX5_finds [.ref 80, .int p0, .int p1] T (some (.int (x_pl_finds T p0 p1).1)) ((x_pl_finds T p0 p1).2) := by
  unfold ok_pl_finds at kk
  refine tC_of ?_
  refine r_p dX5_finds_0 rfl rfl ?_
  refine r_p dX5_finds_1 rfl rfl ?_
  obtain ⟨q1, kk⟩ := kk
  refine r_put dX5_finds_2 fkX5_157 rfl rfl rfl (Nat.le_of_ble_eq_true rfl) (nar_b q1) (fit_b q1) ?_
  refine r_p dX5_finds_5 rfl rfl ?_
  refine r_k dX5_finds_6 kkX5_151 ?_
  refine r_put dX5_finds_8 fkX5_160 rfl rfl rfl (Nat.le_of_ble_eq_true rfl) rfl rfl ?_
  refine r_p dX5_finds_11 rfl rfl ?_
  refine r_k dX5_finds_12 kkX5_163 ?_
  refine r_put dX5_finds_14 fkX5_164 rfl rfl rfl (Nat.le_of_ble_eq_true rfl) rfl rfl ?_
  refine r_p dX5_finds_17 rfl rfl ?_
  refine r_p dX5_finds_18 rfl rfl ?_
  obtain ⟨q2, kk⟩ := kk
  refine r_cv (d1 := 3) dX5_finds_19 cvX5_165 rfl rfl rfl rfl (Nat.le_of_ble_eq_true rfl) (Nat.le_of_ble_eq_true rfl) (Nat.le_of_ble_eq_true rfl) (c_pl_seatAll p0 q2) ?_
  obtain ⟨KJ1, hKJ1⟩ : ∃ q : St → Int32 × St, q = (fun (T301 : St) => if (T301.1 80 17) = (-1000000) then (0, T301) else (1, T301)) := ⟨_, rfl⟩
  have hJ1 : ∀ (T301 : St), tR X 9 mX5_finds 31 [some (.ref 80), some (.int p0), some (.int p1)] [] T301 (some (.int (KJ1 T301).1)) ((KJ1 T301).2) := by
    intro T301
    rw [hKJ1]
    refine r_p dX5_finds_31 rfl rfl ?_
    refine r_get dX5_finds_32 fkX5_164 rfl rfl ?_
    refine r_k dX5_finds_35 kkX5_163 ?_
    refine r_ceq dX5_finds_37 rfl (fun c37_2 => ?_) (fun c37_2 => ?_)
    · refine r_ci (x := 0) dX5_finds_44 rfl ?_
      exact r_eI (r' := (0, T301)) (by first | rw [if_pos c37_2] | (dsimp only; rw [if_pos c37_2])) (r_ri dX5_finds_45 rfl rfl rfl rfl)
    · refine r_ci (x := 1) dX5_finds_40 rfl ?_
      refine r_go dX5_finds_41 rfl ?_
      exact r_eI (r' := (1, T301)) (by first | rw [if_neg c37_2] | (dsimp only; rw [if_neg c37_2])) (r_ri dX5_finds_45 rfl rfl rfl rfl)
  refine r_eI (r' := jn (fun (KJ1 : St → Int32 × St) => if ((x_pl_seatAll (sF (sF (sF T 80 14 p1) 80 13 1000000) 80 17 (-1000000)) p0).1) = 0 then (KJ1 ((x_pl_seatAll (sF (sF (sF T 80 14 p1) 80 13 1000000) 80 17 (-1000000)) p0).2)) else (fun (T2 : St) => KJ1 T2) (x_pl_seek4 ((x_pl_seatAll (sF (sF (sF T 80 14 p1) 80 13 1000000) 80 17 (-1000000)) p0).2) 0 0)) KJ1) (by rw [hKJ1]; unfold x_pl_finds; rfl) ?_
  refine r_ieq dX5_finds_22 rfl (fun c22_3 => ?_) (fun c22_3 => ?_)
  · show tR _ _ _ _ [some (.ref 80), some (.int p0), some (.int p1)] [] _ _ _
    exact r_eI (r' := KJ1 ((x_pl_seatAll (sF (sF (sF T 80 14 p1) 80 13 1000000) 80 17 (-1000000)) p0).2)) (by simp only [jn]; rw [if_pos c22_3]) ((hJ1 ((x_pl_seatAll (sF (sF (sF T 80 14 p1) 80 13 1000000) 80 17 (-1000000)) p0).2)))
  · have kk := kk c22_3
    refine r_p dX5_finds_25 rfl rfl ?_
    refine r_ci (x := 0) dX5_finds_26 rfl ?_
    refine r_ci (x := 0) dX5_finds_27 rfl ?_
    obtain ⟨q4, kk⟩ := kk
    refine r_cv (d1 := 9) dX5_finds_28 cvX5_169 rfl rfl rfl rfl (Nat.le_of_ble_eq_true rfl) (Nat.le_of_ble_eq_true rfl) (Nat.le_of_ble_eq_true rfl) (c_pl_seek4 0 0 q4) ?_
    refine r_eI (r' := (fun (T2 : St) => KJ1 T2) (x_pl_seek4 ((x_pl_seatAll (sF (sF (sF T 80 14 p1) 80 13 1000000) 80 17 (-1000000)) p0).2) 0 0)) (by simp only [jn]; rw [if_neg c22_3]) ?_
    generalize x_pl_seek4 ((x_pl_seatAll (sF (sF (sF T 80 14 p1) 80 13 1000000) 80 17 (-1000000)) p0).2) 0 0 = T2 at ⊢
    show tR _ _ _ _ [some (.ref 80), some (.int p0), some (.int p1)] [] _ _ _
    exact r_eI (r' := KJ1 T2) rfl ((hJ1 T2))
def x_pl_countDinners_15  (K : Int32 → Int32 → St → St) : Nat → Int32 → Int32 → St → St
  | 0, _, _, T => T
  | f + 1, v1, v2, T => if (x_bk_allDishes T (T.2.1 2)) < v2 then (K v1 v2 T) else (jn (fun (KJ1 : St → St) => if 4 < (x_J_bitCount T v2) then (KJ1 T) else (if (x_pl_isBuilt T v2) = 0 then (KJ1 T) else (if ((x_pl_finds T v2 1).1) = 0 then (KJ1 ((x_pl_finds T v2 1).2)) else (if ((sA ((x_pl_finds T v2 1).2) 105 (v2 : Int32).toNatClampNeg (vp_nar .boolean 1)).2.2.1 105 (v2 : Int32).toNatClampNeg) = 0 then (x_pl_countDinners_15 K f v1 (v2 + 1) (sA ((x_pl_finds T v2 1).2) 105 (v2 : Int32).toNatClampNeg (vp_nar .boolean 1))) else (fun (T3 : St) => if (x_J_bitCount T v2) ≤ v1 then (x_pl_countDinners_15 K f v1 (v2 + 1) T3) else (x_pl_countDinners_15 K f (x_J_bitCount T v2) (v2 + 1) (sF T3 80 19 v2))) (sF (sA ((x_pl_finds T v2 1).2) 105 (v2 : Int32).toNatClampNeg (vp_nar .boolean 1)) 80 18 (((sA ((x_pl_finds T v2 1).2) 105 (v2 : Int32).toNatClampNeg (vp_nar .boolean 1)).1 80 18) + 1)))))) (fun (T301 : St) => if ((sA T301 105 (v2 : Int32).toNatClampNeg (vp_nar .boolean 0)).2.2.1 105 (v2 : Int32).toNatClampNeg) = 0 then (x_pl_countDinners_15 K f v1 (v2 + 1) (sA T301 105 (v2 : Int32).toNatClampNeg (vp_nar .boolean 0))) else (fun (T2 : St) => if (x_J_bitCount T v2) ≤ v1 then (x_pl_countDinners_15 K f v1 (v2 + 1) T2) else (x_pl_countDinners_15 K f (x_J_bitCount T v2) (v2 + 1) (sF T2 80 19 v2))) (sF (sA T301 105 (v2 : Int32).toNatClampNeg (vp_nar .boolean 0)) 80 18 (((sA T301 105 (v2 : Int32).toNatClampNeg (vp_nar .boolean 0)).1 80 18) + 1))))
def ok_pl_countDinners_15  (Kk : Int32 → Int32 → St → Prop) : Nat → Int32 → Int32 → St → Prop
  | 0, _, _, _ => False
  | f + 1, v1, v2, T => (ok_bk_allDishes T (T.2.1 2)) ∧ (sh (T.2.1 2) = .inr 1) ∧ (((x_bk_allDishes T (T.2.1 2)) < v2 → Kk v1 v2 T) ∧ (¬ (x_bk_allDishes T (T.2.1 2)) < v2 → jn (fun (OJ1 : St → Prop) => ((4 < (x_J_bitCount T v2) → OJ1 T) ∧ (¬ 4 < (x_J_bitCount T v2) → (ok_pl_isBuilt T v2) ∧ (((x_pl_isBuilt T v2) = 0 → OJ1 T) ∧ (¬ (x_pl_isBuilt T v2) = 0 → (ok_pl_finds T v2 1) ∧ ((((x_pl_finds T v2 1).1) = 0 → OJ1 ((x_pl_finds T v2 1).2)) ∧ (¬ ((x_pl_finds T v2 1).1) = 0 → (vp_in v2 256) ∧ ((((sA ((x_pl_finds T v2 1).2) 105 (v2 : Int32).toNatClampNeg (vp_nar .boolean 1)).2.2.1 105 (v2 : Int32).toNatClampNeg) = 0 → ok_pl_countDinners_15 Kk f v1 (v2 + 1) (sA ((x_pl_finds T v2 1).2) 105 (v2 : Int32).toNatClampNeg (vp_nar .boolean 1))) ∧ (¬ ((sA ((x_pl_finds T v2 1).2) 105 (v2 : Int32).toNatClampNeg (vp_nar .boolean 1)).2.2.1 105 (v2 : Int32).toNatClampNeg) = 0 → (fun (T3 : St) => (((x_J_bitCount T v2) ≤ v1 → ok_pl_countDinners_15 Kk f v1 (v2 + 1) T3) ∧ (¬ (x_J_bitCount T v2) ≤ v1 → ok_pl_countDinners_15 Kk f (x_J_bitCount T v2) (v2 + 1) (sF T3 80 19 v2)))) (sF (sA ((x_pl_finds T v2 1).2) 105 (v2 : Int32).toNatClampNeg (vp_nar .boolean 1)) 80 18 (((sA ((x_pl_finds T v2 1).2) 105 (v2 : Int32).toNatClampNeg (vp_nar .boolean 1)).1 80 18) + 1))))))))))) (fun (T301 : St) => (vp_in v2 256) ∧ ((((sA T301 105 (v2 : Int32).toNatClampNeg (vp_nar .boolean 0)).2.2.1 105 (v2 : Int32).toNatClampNeg) = 0 → ok_pl_countDinners_15 Kk f v1 (v2 + 1) (sA T301 105 (v2 : Int32).toNatClampNeg (vp_nar .boolean 0))) ∧ (¬ ((sA T301 105 (v2 : Int32).toNatClampNeg (vp_nar .boolean 0)).2.2.1 105 (v2 : Int32).toNatClampNeg) = 0 → (fun (T2 : St) => (((x_J_bitCount T v2) ≤ v1 → ok_pl_countDinners_15 Kk f v1 (v2 + 1) T2) ∧ (¬ (x_J_bitCount T v2) ≤ v1 → ok_pl_countDinners_15 Kk f (x_J_bitCount T v2) (v2 + 1) (sF T2 80 19 v2)))) (sF (sA T301 105 (v2 : Int32).toNatClampNeg (vp_nar .boolean 0)) 80 18 (((sA T301 105 (v2 : Int32).toNatClampNeg (vp_nar .boolean 0)).1 80 18) + 1)))))))
theorem c_pl_countDinners_15 {X : Nat × (Nat → Int32)}  {K : Int32 → Int32 → St → St} {Kk : Int32 → Int32 → St → Prop} (hk : ∀ (v1 : Int32) (v2 : Int32) (T : St), Kk v1 v2 T → tR X 10 mX5_countDinners 101 [some (.ref 80), some (.int v1), some (.int v2), none] [] T none (K v1 v2 T)) : ∀ (f : Nat) (v1 : Int32) (v2 : Int32) (T : St), ok_pl_countDinners_15  Kk f v1 v2 T → tR X 10 mX5_countDinners 15 [some (.ref 80), some (.int v1), some (.int v2), none] [] T none (x_pl_countDinners_15 K f v1 v2 T) := by
  intro f
  induction f with
  | zero => intro v1 v2 T kk; exact kk.elim
  | succ f ih =>
    intro v1 v2 T kk
    rw [ok_pl_countDinners_15] at kk
    refine r_p dX5_countDinners_15 rfl rfl ?_
    refine r_p dX5_countDinners_16 rfl rfl ?_
    refine r_get dX5_countDinners_17 fkX5_62 rfl rfl ?_
    obtain ⟨q1, kk⟩ := kk
    obtain ⟨q2, kk⟩ := kk
    refine r_cv (d1 := 1) dX5_countDinners_20 cvX5_221 rfl rfl q2 rfl (Nat.le_of_ble_eq_true rfl) (Nat.le_of_ble_eq_true rfl) (Nat.le_of_ble_eq_true rfl) (c_bk_allDishes (T.2.1 2) q1) ?_
    refine r_cgt dX5_countDinners_23 rfl (fun c23_1 => ?_) (fun c23_1 => ?_)
    · have kk := kk.1 c23_1
      show tR _ _ _ _ [some (.ref 80), some (.int v1), some (.int v2), none] _ _ _ _
      exact r_eV (r' := K v1 v2 T) (by rw [x_pl_countDinners_15]; rw [if_pos c23_1]) ((hk v1 v2 T kk))
    · have kk := kk.2 c23_1
      refine r_p dX5_countDinners_26 rfl rfl ?_
      refine r_cs (d1 := 1) dX5_countDinners_27 csX5_225 rfl rfl (Nat.le_of_ble_eq_true rfl) (Nat.le_of_ble_eq_true rfl) (Nat.le_of_ble_eq_true rfl) (c_J_bitCount v2) ?_
      refine r_p dX5_countDinners_30 rfl rfl ?_
      refine r_p dX5_countDinners_31 rfl rfl ?_
      refine r_get dX5_countDinners_32 fkX5_55 rfl rfl ?_
      refine r_p dX5_countDinners_35 rfl rfl ?_
      refine r_p dX5_countDinners_36 rfl rfl ?_
      refine r_ci (x := 4) dX5_countDinners_37 rfl ?_
      obtain ⟨KJ1, hKJ1⟩ : ∃ q : St → St, q = (fun (T301 : St) => if ((sA T301 105 (v2 : Int32).toNatClampNeg (vp_nar .boolean 0)).2.2.1 105 (v2 : Int32).toNatClampNeg) = 0 then (x_pl_countDinners_15 K f v1 (v2 + 1) (sA T301 105 (v2 : Int32).toNatClampNeg (vp_nar .boolean 0))) else (fun (T2 : St) => if (x_J_bitCount T v2) ≤ v1 then (x_pl_countDinners_15 K f v1 (v2 + 1) T2) else (x_pl_countDinners_15 K f (x_J_bitCount T v2) (v2 + 1) (sF T2 80 19 v2))) (sF (sA T301 105 (v2 : Int32).toNatClampNeg (vp_nar .boolean 0)) 80 18 (((sA T301 105 (v2 : Int32).toNatClampNeg (vp_nar .boolean 0)).1 80 18) + 1))) := ⟨_, rfl⟩
      obtain ⟨OJ1, hOJ1⟩ : ∃ q : St → Prop, q = (fun (T301 : St) => (vp_in v2 256) ∧ ((((sA T301 105 (v2 : Int32).toNatClampNeg (vp_nar .boolean 0)).2.2.1 105 (v2 : Int32).toNatClampNeg) = 0 → ok_pl_countDinners_15 Kk f v1 (v2 + 1) (sA T301 105 (v2 : Int32).toNatClampNeg (vp_nar .boolean 0))) ∧ (¬ ((sA T301 105 (v2 : Int32).toNatClampNeg (vp_nar .boolean 0)).2.2.1 105 (v2 : Int32).toNatClampNeg) = 0 → (fun (T2 : St) => (((x_J_bitCount T v2) ≤ v1 → ok_pl_countDinners_15 Kk f v1 (v2 + 1) T2) ∧ (¬ (x_J_bitCount T v2) ≤ v1 → ok_pl_countDinners_15 Kk f (x_J_bitCount T v2) (v2 + 1) (sF T2 80 19 v2)))) (sF (sA T301 105 (v2 : Int32).toNatClampNeg (vp_nar .boolean 0)) 80 18 (((sA T301 105 (v2 : Int32).toNatClampNeg (vp_nar .boolean 0)).1 80 18) + 1))))) := ⟨_, rfl⟩
      rw [← hOJ1] at kk
      simp only [jn] at kk
      have hJ1 : ∀ (T301 : St), OJ1 T301 → tR X 10 mX5_countDinners 62 [some (.ref 80), some (.int v1), some (.int v2), some (.int (x_J_bitCount T v2))] [.int v2, .ref 105] T301 none (KJ1 T301) := by
        intro T301 kk
        rw [hOJ1] at kk
        try dsimp only at kk
        rw [hKJ1]
        refine r_ci (x := 0) dX5_countDinners_62 rfl ?_
        obtain ⟨q6, kk⟩ := kk
        refine r_zas dX5_countDinners_63 rfl q6 ?_
        refine r_p dX5_countDinners_64 rfl rfl ?_
        refine r_get dX5_countDinners_65 fkX5_55 rfl rfl ?_
        refine r_p dX5_countDinners_68 rfl rfl ?_
        refine r_za dX5_countDinners_69 rfl q6 ?_
        refine r_ieq dX5_countDinners_70 rfl (fun c70_7 => ?_) (fun c70_7 => ?_)
        · have kk := kk.1 c70_7
          refine r_inc (y := 1) dX5_countDinners_95 rfl rfl rfl ?_
          refine r_go dX5_countDinners_98 rfl ?_
          show tR _ _ _ _ [some (.ref 80), some (.int v1), some (.int (v2 + 1)), some (.int (x_J_bitCount T v2))] _ _ _ _
          exact r_eV (r' := x_pl_countDinners_15 K f v1 (v2 + 1) (sA T301 105 (v2 : Int32).toNatClampNeg (vp_nar .boolean 0))) (by first | rw [if_pos c70_7] | (dsimp only; rw [if_pos c70_7])) (r_le (le_s (le_s (le_s (le_n (le_0))))) (ih v1 (v2 + 1) (sA T301 105 (v2 : Int32).toNatClampNeg (vp_nar .boolean 0)) kk))
        · have kk := kk.2 c70_7
          refine r_p dX5_countDinners_73 rfl rfl ?_
          refine r_p dX5_countDinners_74 rfl rfl ?_
          refine r_get dX5_countDinners_75 fkX5_215 rfl rfl ?_
          refine r_ci (x := 1) dX5_countDinners_78 rfl ?_
          refine r_p dX5_countDinners_79 rfl rfl ?_
          refine r_put dX5_countDinners_80 fkX5_215 rfl rfl rfl (Nat.le_of_ble_eq_true rfl) rfl rfl ?_
          refine r_eV (r' := (fun (T2 : St) => if (x_J_bitCount T v2) ≤ v1 then (x_pl_countDinners_15 K f v1 (v2 + 1) T2) else (x_pl_countDinners_15 K f (x_J_bitCount T v2) (v2 + 1) (sF T2 80 19 v2))) (sF (sA T301 105 (v2 : Int32).toNatClampNeg (vp_nar .boolean 0)) 80 18 (((sA T301 105 (v2 : Int32).toNatClampNeg (vp_nar .boolean 0)).1 80 18) + 1))) (by first | rw [if_neg c70_7] | (dsimp only; rw [if_neg c70_7])) ?_
          generalize sF (sA T301 105 (v2 : Int32).toNatClampNeg (vp_nar .boolean 0)) 80 18 (((sA T301 105 (v2 : Int32).toNatClampNeg (vp_nar .boolean 0)).1 80 18) + 1) = T2 at kk ⊢
          try dsimp only at kk
          refine r_p dX5_countDinners_83 rfl rfl ?_
          refine r_p dX5_countDinners_84 rfl rfl ?_
          refine r_cle dX5_countDinners_85 rfl (fun c85_8 => ?_) (fun c85_8 => ?_)
          · have kk := kk.1 c85_8
            refine r_inc (y := 1) dX5_countDinners_95 rfl rfl rfl ?_
            refine r_go dX5_countDinners_98 rfl ?_
            show tR _ _ _ _ [some (.ref 80), some (.int v1), some (.int (v2 + 1)), some (.int (x_J_bitCount T v2))] _ _ _ _
            exact r_eV (r' := x_pl_countDinners_15 K f v1 (v2 + 1) T2) (by first | rw [if_pos c85_8] | (dsimp only; rw [if_pos c85_8])) (r_le (le_s (le_s (le_s (le_n (le_0))))) (ih v1 (v2 + 1) T2 kk))
          · have kk := kk.2 c85_8
            refine r_p dX5_countDinners_88 rfl rfl ?_
            refine r_p dX5_countDinners_89 rfl rfl ?_
            refine r_p dX5_countDinners_90 rfl rfl ?_
            refine r_p dX5_countDinners_91 rfl rfl ?_
            refine r_put dX5_countDinners_92 fkX5_218 rfl rfl rfl (Nat.le_of_ble_eq_true rfl) rfl rfl ?_
            refine r_inc (y := 1) dX5_countDinners_95 rfl rfl rfl ?_
            refine r_go dX5_countDinners_98 rfl ?_
            show tR _ _ _ _ [some (.ref 80), some (.int (x_J_bitCount T v2)), some (.int (v2 + 1)), some (.int (x_J_bitCount T v2))] _ _ _ _
            exact r_eV (r' := x_pl_countDinners_15 K f (x_J_bitCount T v2) (v2 + 1) (sF T2 80 19 v2)) (by first | rw [if_neg c85_8] | (dsimp only; rw [if_neg c85_8])) (r_le (le_s (le_s (le_s (le_n (le_0))))) (ih (x_J_bitCount T v2) (v2 + 1) (sF T2 80 19 v2) kk))
      refine r_eV (r' := jn (fun (KJ1 : St → St) => if 4 < (x_J_bitCount T v2) then (KJ1 T) else (if (x_pl_isBuilt T v2) = 0 then (KJ1 T) else (if ((x_pl_finds T v2 1).1) = 0 then (KJ1 ((x_pl_finds T v2 1).2)) else (if ((sA ((x_pl_finds T v2 1).2) 105 (v2 : Int32).toNatClampNeg (vp_nar .boolean 1)).2.2.1 105 (v2 : Int32).toNatClampNeg) = 0 then (x_pl_countDinners_15 K f v1 (v2 + 1) (sA ((x_pl_finds T v2 1).2) 105 (v2 : Int32).toNatClampNeg (vp_nar .boolean 1))) else (fun (T3 : St) => if (x_J_bitCount T v2) ≤ v1 then (x_pl_countDinners_15 K f v1 (v2 + 1) T3) else (x_pl_countDinners_15 K f (x_J_bitCount T v2) (v2 + 1) (sF T3 80 19 v2))) (sF (sA ((x_pl_finds T v2 1).2) 105 (v2 : Int32).toNatClampNeg (vp_nar .boolean 1)) 80 18 (((sA ((x_pl_finds T v2 1).2) 105 (v2 : Int32).toNatClampNeg (vp_nar .boolean 1)).1 80 18) + 1)))))) KJ1) (by rw [hKJ1]; rw [x_pl_countDinners_15]; rw [if_neg c23_1]) ?_
      refine r_cgt dX5_countDinners_38 rfl (fun c38_9 => ?_) (fun c38_9 => ?_)
      · have kk := kk.1 c38_9
        show tR _ _ _ _ [some (.ref 80), some (.int v1), some (.int v2), some (.int (x_J_bitCount T v2))] [.int v2, .ref 105] _ _ _
        exact r_eV (r' := KJ1 T) (by simp only [jn]; rw [if_pos c38_9]) ((hJ1 T kk))
      · have kk := kk.2 c38_9
        refine r_p dX5_countDinners_41 rfl rfl ?_
        refine r_p dX5_countDinners_42 rfl rfl ?_
        obtain ⟨q7, kk⟩ := kk
        refine r_cv (d1 := 1) dX5_countDinners_43 cvX5_230 rfl rfl rfl rfl (Nat.le_of_ble_eq_true rfl) (Nat.le_of_ble_eq_true rfl) (Nat.le_of_ble_eq_true rfl) (c_pl_isBuilt v2 q7) ?_
        refine r_ieq dX5_countDinners_46 rfl (fun c46_10 => ?_) (fun c46_10 => ?_)
        · have kk := kk.1 c46_10
          show tR _ _ _ _ [some (.ref 80), some (.int v1), some (.int v2), some (.int (x_J_bitCount T v2))] [.int v2, .ref 105] _ _ _
          exact r_eV (r' := KJ1 T) (by simp only [jn]; rw [if_neg c38_9, if_pos c46_10]) ((hJ1 T kk))
        · have kk := kk.2 c46_10
          refine r_p dX5_countDinners_49 rfl rfl ?_
          refine r_p dX5_countDinners_50 rfl rfl ?_
          refine r_ci (x := 1) dX5_countDinners_51 rfl ?_
          obtain ⟨q8, kk⟩ := kk
          refine r_cv (d1 := 10) dX5_countDinners_52 cvX5_233 rfl rfl rfl rfl (Nat.le_of_ble_eq_true rfl) (Nat.le_of_ble_eq_true rfl) (Nat.le_of_ble_eq_true rfl) (c_pl_finds v2 1 q8) ?_
          refine r_ieq dX5_countDinners_55 rfl (fun c55_11 => ?_) (fun c55_11 => ?_)
          · have kk := kk.1 c55_11
            show tR _ _ _ _ [some (.ref 80), some (.int v1), some (.int v2), some (.int (x_J_bitCount T v2))] [.int v2, .ref 105] _ _ _
            exact r_eV (r' := KJ1 ((x_pl_finds T v2 1).2)) (by simp only [jn]; rw [if_neg c38_9, if_neg c46_10, if_pos c55_11]) ((hJ1 ((x_pl_finds T v2 1).2) kk))
          · have kk := kk.2 c55_11
            refine r_ci (x := 1) dX5_countDinners_58 rfl ?_
            refine r_go dX5_countDinners_59 rfl ?_
            obtain ⟨q9, kk⟩ := kk
            refine r_zas dX5_countDinners_63 rfl q9 ?_
            refine r_p dX5_countDinners_64 rfl rfl ?_
            refine r_get dX5_countDinners_65 fkX5_55 rfl rfl ?_
            refine r_p dX5_countDinners_68 rfl rfl ?_
            refine r_za dX5_countDinners_69 rfl q9 ?_
            refine r_ieq dX5_countDinners_70 rfl (fun c70_12 => ?_) (fun c70_12 => ?_)
            · have kk := kk.1 c70_12
              refine r_inc (y := 1) dX5_countDinners_95 rfl rfl rfl ?_
              refine r_go dX5_countDinners_98 rfl ?_
              show tR _ _ _ _ [some (.ref 80), some (.int v1), some (.int (v2 + 1)), some (.int (x_J_bitCount T v2))] _ _ _ _
              exact r_eV (r' := x_pl_countDinners_15 K f v1 (v2 + 1) (sA ((x_pl_finds T v2 1).2) 105 (v2 : Int32).toNatClampNeg (vp_nar .boolean 1))) (by simp only [jn]; rw [if_neg c38_9, if_neg c46_10, if_neg c55_11, if_pos c70_12]) (r_le (le_s (le_s (le_s (le_n (le_0))))) (ih v1 (v2 + 1) (sA ((x_pl_finds T v2 1).2) 105 (v2 : Int32).toNatClampNeg (vp_nar .boolean 1)) kk))
            · have kk := kk.2 c70_12
              refine r_p dX5_countDinners_73 rfl rfl ?_
              refine r_p dX5_countDinners_74 rfl rfl ?_
              refine r_get dX5_countDinners_75 fkX5_215 rfl rfl ?_
              refine r_ci (x := 1) dX5_countDinners_78 rfl ?_
              refine r_p dX5_countDinners_79 rfl rfl ?_
              refine r_put dX5_countDinners_80 fkX5_215 rfl rfl rfl (Nat.le_of_ble_eq_true rfl) rfl rfl ?_
              refine r_eV (r' := (fun (T3 : St) => if (x_J_bitCount T v2) ≤ v1 then (x_pl_countDinners_15 K f v1 (v2 + 1) T3) else (x_pl_countDinners_15 K f (x_J_bitCount T v2) (v2 + 1) (sF T3 80 19 v2))) (sF (sA ((x_pl_finds T v2 1).2) 105 (v2 : Int32).toNatClampNeg (vp_nar .boolean 1)) 80 18 (((sA ((x_pl_finds T v2 1).2) 105 (v2 : Int32).toNatClampNeg (vp_nar .boolean 1)).1 80 18) + 1))) (by simp only [jn]; rw [if_neg c38_9, if_neg c46_10, if_neg c55_11, if_neg c70_12]) ?_
              generalize sF (sA ((x_pl_finds T v2 1).2) 105 (v2 : Int32).toNatClampNeg (vp_nar .boolean 1)) 80 18 (((sA ((x_pl_finds T v2 1).2) 105 (v2 : Int32).toNatClampNeg (vp_nar .boolean 1)).1 80 18) + 1) = T3 at kk ⊢
              try dsimp only at kk
              refine r_p dX5_countDinners_83 rfl rfl ?_
              refine r_p dX5_countDinners_84 rfl rfl ?_
              refine r_cle dX5_countDinners_85 rfl (fun c85_13 => ?_) (fun c85_13 => ?_)
              · have kk := kk.1 c85_13
                refine r_inc (y := 1) dX5_countDinners_95 rfl rfl rfl ?_
                refine r_go dX5_countDinners_98 rfl ?_
                show tR _ _ _ _ [some (.ref 80), some (.int v1), some (.int (v2 + 1)), some (.int (x_J_bitCount T v2))] _ _ _ _
                exact r_eV (r' := x_pl_countDinners_15 K f v1 (v2 + 1) T3) (by first | rw [if_pos c85_13] | (dsimp only; rw [if_pos c85_13])) (r_le (le_s (le_s (le_s (le_n (le_0))))) (ih v1 (v2 + 1) T3 kk))
              · have kk := kk.2 c85_13
                refine r_p dX5_countDinners_88 rfl rfl ?_
                refine r_p dX5_countDinners_89 rfl rfl ?_
                refine r_p dX5_countDinners_90 rfl rfl ?_
                refine r_p dX5_countDinners_91 rfl rfl ?_
                refine r_put dX5_countDinners_92 fkX5_218 rfl rfl rfl (Nat.le_of_ble_eq_true rfl) rfl rfl ?_
                refine r_inc (y := 1) dX5_countDinners_95 rfl rfl rfl ?_
                refine r_go dX5_countDinners_98 rfl ?_
                show tR _ _ _ _ [some (.ref 80), some (.int (x_J_bitCount T v2)), some (.int (v2 + 1)), some (.int (x_J_bitCount T v2))] _ _ _ _
                exact r_eV (r' := x_pl_countDinners_15 K f (x_J_bitCount T v2) (v2 + 1) (sF T3 80 19 v2)) (by first | rw [if_neg c85_13] | (dsimp only; rw [if_neg c85_13])) (r_le (le_s (le_s (le_s (le_n (le_0))))) (ih (x_J_bitCount T v2) (v2 + 1) (sF T3 80 19 v2) kk))
def x_pl_countDinners (T : St)  : St := x_pl_countDinners_15  (fun (w1_1 : Int32) (w1_2 : Int32) (T201 : St) => T201) 1000 0 1 (sF (sF T 80 18 0) 80 19 (-1000000))
def ok_pl_countDinners (T : St)  : Prop := ok_pl_countDinners_15  (fun (w1_1 : Int32) (w1_2 : Int32) (T201 : St) => True) 1000 0 1 (sF (sF T 80 18 0) 80 19 (-1000000))
theorem c_pl_countDinners {X : Nat × (Nat → Int32)} {T : St}  (kk : ok_pl_countDinners T ) : tC X 11 mX5_countDinners [.ref 80] T none (x_pl_countDinners T) := by
  unfold ok_pl_countDinners at kk
  refine tC_of ?_
  refine r_p dX5_countDinners_0 rfl rfl ?_
  refine r_ci (x := 0) dX5_countDinners_1 rfl ?_
  refine r_put dX5_countDinners_2 fkX5_215 rfl rfl rfl (Nat.le_of_ble_eq_true rfl) rfl rfl ?_
  refine r_p dX5_countDinners_5 rfl rfl ?_
  refine r_k dX5_countDinners_6 kkX5_163 ?_
  refine r_put dX5_countDinners_8 fkX5_218 rfl rfl rfl (Nat.le_of_ble_eq_true rfl) rfl rfl ?_
  refine r_ci (x := 0) dX5_countDinners_11 rfl ?_
  refine r_p dX5_countDinners_12 rfl rfl ?_
  refine r_ci (x := 1) dX5_countDinners_13 rfl ?_
  refine r_p dX5_countDinners_14 rfl rfl ?_
  show tR _ _ _ _ [some (.ref 80), some (.int 0), some (.int 1), none] _ _ _ _
  refine r_eV (r' := x_pl_countDinners_15  (fun (w1_1 : Int32) (w1_2 : Int32) (T201 : St) => T201) 1000 0 1 (sF (sF T 80 18 0) 80 19 (-1000000))) (by unfold x_pl_countDinners; rfl) ((c_pl_countDinners_15  (fun w1_1 w1_2 T201 kk => ?_) 1000 0 1 (sF (sF T 80 18 0) 80 19 (-1000000)) kk))
  · exact r_eV (r' := T201) rfl (r_rv dX5_countDinners_101 rfl rfl rfl)
