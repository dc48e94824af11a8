def x_x_heat (T : St) (p0 : Int32) (p1 : Int32) : Int32 × St := jn (fun (KJ1 : Int32 × St) => if (x_x_isTime T p0) = 0 then (KJ1) else (if (x_x_isMinute T p1) = 0 then (KJ1) else (if (x_x_refusal T 1) = 0 then (if ((x_x_findsPlan T p0).1) = 0 then ((-1000000), (x_x_findsPlan T p0).2) else (fun (T3 : St) => (T3.2.2.1 531 (p1 : Int32).toNatClampNeg, T3)) (x_ov_settle (x_ov_want ((x_x_findsPlan T p0).2) (((x_x_findsPlan T p0).2).2.1 0) 557) ((x_ov_want ((x_x_findsPlan T p0).2) (((x_x_findsPlan T p0).2).2.1 0) 557).2.2.1 (((x_ov_want ((x_x_findsPlan T p0).2) (((x_x_findsPlan T p0).2).2.1 0) 557).2.1 0) + 1) (3 : Int32).toNatClampNeg) ((x_ov_want ((x_x_findsPlan T p0).2) (((x_x_findsPlan T p0).2).2.1 0) 557).2.2.1 (((x_ov_want ((x_x_findsPlan T p0).2) (((x_x_findsPlan T p0).2).2.1 0) 557).2.1 0) + 1) (4 : Int32).toNatClampNeg))) else (x_x_refusal T 1, T)))) (if (x_x_refusal T 0) = 0 then (if ((x_x_findsPlan T p0).1) = 0 then ((-1000000), (x_x_findsPlan T p0).2) else (fun (T2 : St) => (T2.2.2.1 531 (p1 : Int32).toNatClampNeg, T2)) (x_ov_settle (x_ov_want ((x_x_findsPlan T p0).2) (((x_x_findsPlan T p0).2).2.1 0) 557) ((x_ov_want ((x_x_findsPlan T p0).2) (((x_x_findsPlan T p0).2).2.1 0) 557).2.2.1 (((x_ov_want ((x_x_findsPlan T p0).2) (((x_x_findsPlan T p0).2).2.1 0) 557).2.1 0) + 1) (3 : Int32).toNatClampNeg) ((x_ov_want ((x_x_findsPlan T p0).2) (((x_x_findsPlan T p0).2).2.1 0) 557).2.2.1 (((x_ov_want ((x_x_findsPlan T p0).2) (((x_x_findsPlan T p0).2).2.1 0) 557).2.1 0) + 1) (4 : Int32).toNatClampNeg))) else (x_x_refusal T 0, T))
def ok_x_heat (T : St) (p0 : Int32) (p1 : Int32) : Prop := jn (fun (OJ1 : Prop) => (((x_x_isTime T p0) = 0 → OJ1) ∧ (¬ (x_x_isTime T p0) = 0 → (((x_x_isMinute T p1) = 0 → OJ1) ∧ (¬ (x_x_isMinute T p1) = 0 → (ok_x_refusal T 1) ∧ ((x_x_refusal T 1) = 0 → (ok_x_findsPlan T p0) ∧ (¬ ((x_x_findsPlan T p0).1) = 0 → (ok_ov_want ((x_x_findsPlan T p0).2) (((x_x_findsPlan T p0).2).2.1 0) 557) ∧ (sh ((x_ov_want ((x_x_findsPlan T p0).2) (((x_x_findsPlan T p0).2).2.1 0) 557).2.1 0) = .inr 1) ∧ (sh (((x_ov_want ((x_x_findsPlan T p0).2) (((x_x_findsPlan T p0).2).2.1 0) 557).2.1 0) + 1) = .inl (0, 7)) ∧ (vp_in 3 7) ∧ (vp_in 4 7) ∧ (ok_ov_settle (x_ov_want ((x_x_findsPlan T p0).2) (((x_x_findsPlan T p0).2).2.1 0) 557) ((x_ov_want ((x_x_findsPlan T p0).2) (((x_x_findsPlan T p0).2).2.1 0) 557).2.2.1 (((x_ov_want ((x_x_findsPlan T p0).2) (((x_x_findsPlan T p0).2).2.1 0) 557).2.1 0) + 1) (3 : Int32).toNatClampNeg) ((x_ov_want ((x_x_findsPlan T p0).2) (((x_x_findsPlan T p0).2).2.1 0) 557).2.2.1 (((x_ov_want ((x_x_findsPlan T p0).2) (((x_x_findsPlan T p0).2).2.1 0) 557).2.1 0) + 1) (4 : Int32).toNatClampNeg)) ∧ (fun (T3 : St) => (vp_in p1 60) ∧ True) (x_ov_settle (x_ov_want ((x_x_findsPlan T p0).2) (((x_x_findsPlan T p0).2).2.1 0) 557) ((x_ov_want ((x_x_findsPlan T p0).2) (((x_x_findsPlan T p0).2).2.1 0) 557).2.2.1 (((x_ov_want ((x_x_findsPlan T p0).2) (((x_x_findsPlan T p0).2).2.1 0) 557).2.1 0) + 1) (3 : Int32).toNatClampNeg) ((x_ov_want ((x_x_findsPlan T p0).2) (((x_x_findsPlan T p0).2).2.1 0) 557).2.2.1 (((x_ov_want ((x_x_findsPlan T p0).2) (((x_x_findsPlan T p0).2).2.1 0) 557).2.1 0) + 1) (4 : Int32).toNatClampNeg))))))))) ((ok_x_refusal T 0) ∧ ((x_x_refusal T 0) = 0 → (ok_x_findsPlan T p0) ∧ (¬ ((x_x_findsPlan T p0).1) = 0 → (ok_ov_want ((x_x_findsPlan T p0).2) (((x_x_findsPlan T p0).2).2.1 0) 557) ∧ (sh ((x_ov_want ((x_x_findsPlan T p0).2) (((x_x_findsPlan T p0).2).2.1 0) 557).2.1 0) = .inr 1) ∧ (sh (((x_ov_want ((x_x_findsPlan T p0).2) (((x_x_findsPlan T p0).2).2.1 0) 557).2.1 0) + 1) = .inl (0, 7)) ∧ (vp_in 3 7) ∧ (vp_in 4 7) ∧ (ok_ov_settle (x_ov_want ((x_x_findsPlan T p0).2) (((x_x_findsPlan T p0).2).2.1 0) 557) ((x_ov_want ((x_x_findsPlan T p0).2) (((x_x_findsPlan T p0).2).2.1 0) 557).2.2.1 (((x_ov_want ((x_x_findsPlan T p0).2) (((x_x_findsPlan T p0).2).2.1 0) 557).2.1 0) + 1) (3 : Int32).toNatClampNeg) ((x_ov_want ((x_x_findsPlan T p0).2) (((x_x_findsPlan T p0).2).2.1 0) 557).2.2.1 (((x_ov_want ((x_x_findsPlan T p0).2) (((x_x_findsPlan T p0).2).2.1 0) 557).2.1 0) + 1) (4 : Int32).toNatClampNeg)) ∧ (fun (T2 : St) => (vp_in p1 60) ∧ True) (x_ov_settle (x_ov_want ((x_x_findsPlan T p0).2) (((x_x_findsPlan T p0).2).2.1 0) 557) ((x_ov_want ((x_x_findsPlan T p0).2) (((x_x_findsPlan T p0).2).2.1 0) 557).2.2.1 (((x_ov_want ((x_x_findsPlan T p0).2) (((x_x_findsPlan T p0).2).2.1 0) 557).2.1 0) + 1) (3 : Int32).toNatClampNeg) ((x_ov_want ((x_x_findsPlan T p0).2) (((x_x_findsPlan T p0).2).2.1 0) 557).2.2.1 (((x_ov_want ((x_x_findsPlan T p0).2) (((x_x_findsPlan T p0).2).2.1 0) 557).2.1 0) + 1) (4 : Int32).toNatClampNeg)))))
theorem c_x_heat {X : Nat × (Nat → Int32)} {T : St} (p0 : Int32) (p1 : Int32) (kk : ok_x_heat T p0 p1) : tC X 12 mX11_heat [.ref 0, .int p0, .int p1] T (some (.int (x_x_heat T p0 p1).1)) ((x_x_heat T p0 p1).2) := by
  unfold ok_x_heat at kk
  refine tC_of ?_
  refine r_p dX11_heat_0 rfl rfl ?_
  refine r_p dX11_heat_1 rfl rfl ?_
  refine r_cs (d1 := 1) dX11_heat_2 csX11_218 rfl rfl (Nat.le_of_ble_eq_true rfl) (Nat.le_of_ble_eq_true rfl) (Nat.le_of_ble_eq_true rfl) (c_x_isTime p0) ?_
  obtain ⟨KJ1, hKJ1⟩ : ∃ q : Int32 × St, q = (if (x_x_refusal T 0) = 0 then (if ((x_x_findsPlan T p0).1) = 0 then ((-1000000), (x_x_findsPlan T p0).2) else (fun (T2 : St) => (T2.2.2.1 531 (p1 : Int32).toNatClampNeg, T2)) (x_ov_settle (x_ov_want ((x_x_findsPlan T p0).2) (((x_x_findsPlan T p0).2).2.1 0) 557) ((x_ov_want ((x_x_findsPlan T p0).2) (((x_x_findsPlan T p0).2).2.1 0) 557).2.2.1 (((x_ov_want ((x_x_findsPlan T p0).2) (((x_x_findsPlan T p0).2).2.1 0) 557).2.1 0) + 1) (3 : Int32).toNatClampNeg) ((x_ov_want ((x_x_findsPlan T p0).2) (((x_x_findsPlan T p0).2).2.1 0) 557).2.2.1 (((x_ov_want ((x_x_findsPlan T p0).2) (((x_x_findsPlan T p0).2).2.1 0) 557).2.1 0) + 1) (4 : Int32).toNatClampNeg))) else (x_x_refusal T 0, T)) := ⟨_, rfl⟩
  obtain ⟨OJ1, hOJ1⟩ : ∃ q : Prop, q = ((ok_x_refusal T 0) ∧ ((x_x_refusal T 0) = 0 → (ok_x_findsPlan T p0) ∧ (¬ ((x_x_findsPlan T p0).1) = 0 → (ok_ov_want ((x_x_findsPlan T p0).2) (((x_x_findsPlan T p0).2).2.1 0) 557) ∧ (sh ((x_ov_want ((x_x_findsPlan T p0).2) (((x_x_findsPlan T p0).2).2.1 0) 557).2.1 0) = .inr 1) ∧ (sh (((x_ov_want ((x_x_findsPlan T p0).2) (((x_x_findsPlan T p0).2).2.1 0) 557).2.1 0) + 1) = .inl (0, 7)) ∧ (vp_in 3 7) ∧ (vp_in 4 7) ∧ (ok_ov_settle (x_ov_want ((x_x_findsPlan T p0).2) (((x_x_findsPlan T p0).2).2.1 0) 557) ((x_ov_want ((x_x_findsPlan T p0).2) (((x_x_findsPlan T p0).2).2.1 0) 557).2.2.1 (((x_ov_want ((x_x_findsPlan T p0).2) (((x_x_findsPlan T p0).2).2.1 0) 557).2.1 0) + 1) (3 : Int32).toNatClampNeg) ((x_ov_want ((x_x_findsPlan T p0).2) (((x_x_findsPlan T p0).2).2.1 0) 557).2.2.1 (((x_ov_want ((x_x_findsPlan T p0).2) (((x_x_findsPlan T p0).2).2.1 0) 557).2.1 0) + 1) (4 : Int32).toNatClampNeg)) ∧ (fun (T2 : St) => (vp_in p1 60) ∧ True) (x_ov_settle (x_ov_want ((x_x_findsPlan T p0).2) (((x_x_findsPlan T p0).2).2.1 0) 557) ((x_ov_want ((x_x_findsPlan T p0).2) (((x_x_findsPlan T p0).2).2.1 0) 557).2.2.1 (((x_ov_want ((x_x_findsPlan T p0).2) (((x_x_findsPlan T p0).2).2.1 0) 557).2.1 0) + 1) (3 : Int32).toNatClampNeg) ((x_ov_want ((x_x_findsPlan T p0).2) (((x_x_findsPlan T p0).2).2.1 0) 557).2.2.1 (((x_ov_want ((x_x_findsPlan T p0).2) (((x_x_findsPlan T p0).2).2.1 0) 557).2.1 0) + 1) (4 : Int32).toNatClampNeg))))) := ⟨_, rfl⟩
  rw [← hOJ1] at kk
  simp only [jn] at kk
  have hJ1 : OJ1 → tR X 11 mX11_heat 19 [some (.ref 0), some (.int p0), some (.int p1), none] [.ref 0] T (some (.int KJ1.1)) KJ1.2 := by
    intro  kk
    rw [hOJ1] at kk
    try dsimp only at kk
    rw [hKJ1]
    refine r_ci (x := 0) dX11_heat_19 rfl ?_
    obtain ⟨q10, kk⟩ := kk
    refine r_cv (d1 := 2) dX11_heat_20 cvX11_221 rfl rfl rfl rfl (Nat.le_of_ble_eq_true rfl) (Nat.le_of_ble_eq_true rfl) (Nat.le_of_ble_eq_true rfl) (c_x_refusal 0 q10) ?_
    refine r_p dX11_heat_23 rfl rfl ?_
    refine r_p dX11_heat_24 rfl rfl ?_
    refine r_ieq dX11_heat_25 rfl (fun c25_5 => ?_) (fun c25_5 => ?_)
    · have kk := kk c25_5
      refine r_p dX11_heat_30 rfl rfl ?_
      refine r_p dX11_heat_31 rfl rfl ?_
      obtain ⟨q11, kk⟩ := kk
      refine r_cv (d1 := 11) dX11_heat_32 cvX11_238 rfl rfl rfl rfl (Nat.le_of_ble_eq_true rfl) (Nat.le_of_ble_eq_true rfl) (Nat.le_of_ble_eq_true rfl) (c_x_findsPlan p0 q11) ?_
      refine r_ine dX11_heat_35 rfl (fun c35_6 => ?_) (fun c35_6 => ?_)
      · have kk := kk c35_6
        refine r_p dX11_heat_41 rfl rfl ?_
        refine r_get dX11_heat_42 fkX11_57 rfl rfl ?_
        refine r_get dX11_heat_45 fkX11_271 rfl rfl ?_
        refine r_p dX11_heat_48 rfl rfl ?_
        refine r_get dX11_heat_49 fkX11_30 rfl rfl ?_
        refine r_p dX11_heat_52 rfl rfl ?_
        refine r_get dX11_heat_53 fkX11_71 rfl rfl ?_
        obtain ⟨q12, kk⟩ := kk
        refine r_cv (d1 := 2) dX11_heat_56 cvX11_275 rfl rfl rfl rfl (Nat.le_of_ble_eq_true rfl) (Nat.le_of_ble_eq_true rfl) (Nat.le_of_ble_eq_true rfl) (c_ov_want (((x_x_findsPlan T p0).2).2.1 0) 557 q12) ?_
        refine r_p dX11_heat_59 rfl rfl ?_
        refine r_get dX11_heat_60 fkX11_57 rfl rfl ?_
        refine r_get dX11_heat_63 fkX11_271 rfl rfl ?_
        refine r_p dX11_heat_66 rfl rfl ?_
        refine r_get dX11_heat_67 fkX11_30 rfl rfl ?_
        obtain ⟨q13, kk⟩ := kk
        refine r_get dX11_heat_70 fkX11_212 q13 rfl ?_
        refine r_ci (x := 3) dX11_heat_73 rfl ?_
        obtain ⟨q14, kk⟩ := kk
        obtain ⟨q15, kk⟩ := kk
        refine r_ia dX11_heat_74 q14 q15 ?_
        refine r_p dX11_heat_75 rfl rfl ?_
        refine r_get dX11_heat_76 fkX11_30 rfl rfl ?_
        refine r_get dX11_heat_79 fkX11_212 q13 rfl ?_
        refine r_ci (x := 4) dX11_heat_82 rfl ?_
        obtain ⟨q16, kk⟩ := kk
        refine r_ia dX11_heat_83 q14 q16 ?_
        obtain ⟨q17, kk⟩ := kk
        refine r_cv (d1 := 1) dX11_heat_84 cvX11_281 rfl rfl rfl rfl (Nat.le_of_ble_eq_true rfl) (Nat.le_of_ble_eq_true rfl) (Nat.le_of_ble_eq_true rfl) (c_ov_settle ((x_ov_want ((x_x_findsPlan T p0).2) (((x_x_findsPlan T p0).2).2.1 0) 557).2.2.1 (((x_ov_want ((x_x_findsPlan T p0).2) (((x_x_findsPlan T p0).2).2.1 0) 557).2.1 0) + 1) (3 : Int32).toNatClampNeg) ((x_ov_want ((x_x_findsPlan T p0).2) (((x_x_findsPlan T p0).2).2.1 0) 557).2.2.1 (((x_ov_want ((x_x_findsPlan T p0).2) (((x_x_findsPlan T p0).2).2.1 0) 557).2.1 0) + 1) (4 : Int32).toNatClampNeg) q17) ?_
        refine r_eI (r' := (fun (T2 : St) => (T2.2.2.1 531 (p1 : Int32).toNatClampNeg, T2)) (x_ov_settle (x_ov_want ((x_x_findsPlan T p0).2) (((x_x_findsPlan T p0).2).2.1 0) 557) ((x_ov_want ((x_x_findsPlan T p0).2) (((x_x_findsPlan T p0).2).2.1 0) 557).2.2.1 (((x_ov_want ((x_x_findsPlan T p0).2) (((x_x_findsPlan T p0).2).2.1 0) 557).2.1 0) + 1) (3 : Int32).toNatClampNeg) ((x_ov_want ((x_x_findsPlan T p0).2) (((x_x_findsPlan T p0).2).2.1 0) 557).2.2.1 (((x_ov_want ((x_x_findsPlan T p0).2) (((x_x_findsPlan T p0).2).2.1 0) 557).2.1 0) + 1) (4 : Int32).toNatClampNeg))) (by first | rw [if_pos c25_5, if_neg c35_6] | (dsimp only; rw [if_pos c25_5, if_neg c35_6])) ?_
        generalize x_ov_settle (x_ov_want ((x_x_findsPlan T p0).2) (((x_x_findsPlan T p0).2).2.1 0) 557) ((x_ov_want ((x_x_findsPlan T p0).2) (((x_x_findsPlan T p0).2).2.1 0) 557).2.2.1 (((x_ov_want ((x_x_findsPlan T p0).2) (((x_x_findsPlan T p0).2).2.1 0) 557).2.1 0) + 1) (3 : Int32).toNatClampNeg) ((x_ov_want ((x_x_findsPlan T p0).2) (((x_x_findsPlan T p0).2).2.1 0) 557).2.2.1 (((x_ov_want ((x_x_findsPlan T p0).2) (((x_x_findsPlan T p0).2).2.1 0) 557).2.1 0) + 1) (4 : Int32).toNatClampNeg) = T2 at kk ⊢
        try dsimp only at kk
        refine r_p dX11_heat_87 rfl rfl ?_
        refine r_get dX11_heat_88 fkX11_57 rfl rfl ?_
        refine r_get dX11_heat_91 fkX11_271 rfl rfl ?_
        refine r_get dX11_heat_94 fkX11_284 rfl rfl ?_
        refine r_p dX11_heat_97 rfl rfl ?_
        obtain ⟨q18, kk⟩ := kk
        refine r_ia dX11_heat_98 rfl q18 ?_
        exact r_eI (r' := (T2.2.2.1 531 (p1 : Int32).toNatClampNeg, T2)) rfl (r_ri dX11_heat_99 rfl rfl rfl rfl)
      · refine r_k dX11_heat_38 kkX11_241 ?_
        exact r_eI (r' := ((-1000000), (x_x_findsPlan T p0).2)) (by first | rw [if_pos c25_5, if_pos c35_6] | (dsimp only; rw [if_pos c25_5, if_pos c35_6])) (r_ri dX11_heat_40 rfl rfl rfl rfl)
    · refine r_p dX11_heat_28 rfl rfl ?_
      exact r_eI (r' := (x_x_refusal T 0, T)) (by first | rw [if_neg c25_5] | (dsimp only; rw [if_neg c25_5])) (r_ri dX11_heat_29 rfl rfl rfl rfl)
  refine r_eI (r' := jn (fun (KJ1 : Int32 × St) => if (x_x_isTime T p0) = 0 then (KJ1) else (if (x_x_isMinute T p1) = 0 then (KJ1) else (if (x_x_refusal T 1) = 0 then (if ((x_x_findsPlan T p0).1) = 0 then ((-1000000), (x_x_findsPlan T p0).2) else (fun (T3 : St) => (T3.2.2.1 531 (p1 : Int32).toNatClampNeg, T3)) (x_ov_settle (x_ov_want ((x_x_findsPlan T p0).2) (((x_x_findsPlan T p0).2).2.1 0) 557) ((x_ov_want ((x_x_findsPlan T p0).2) (((x_x_findsPlan T p0).2).2.1 0) 557).2.2.1 (((x_ov_want ((x_x_findsPlan T p0).2) (((x_x_findsPlan T p0).2).2.1 0) 557).2.1 0) + 1) (3 : Int32).toNatClampNeg) ((x_ov_want ((x_x_findsPlan T p0).2) (((x_x_findsPlan T p0).2).2.1 0) 557).2.2.1 (((x_ov_want ((x_x_findsPlan T p0).2) (((x_x_findsPlan T p0).2).2.1 0) 557).2.1 0) + 1) (4 : Int32).toNatClampNeg))) else (x_x_refusal T 1, T)))) KJ1) (by rw [hKJ1]; unfold x_x_heat; rfl) ?_
  refine r_ieq dX11_heat_5 rfl (fun c5_7 => ?_) (fun c5_7 => ?_)
  · have kk := kk.1 c5_7
    show tR _ _ _ _ [some (.ref 0), some (.int p0), some (.int p1), none] [.ref 0] _ _ _
    exact r_eI (r' := KJ1) (by simp only [jn]; rw [if_pos c5_7]) ((hJ1  kk))
  · have kk := kk.2 c5_7
    refine r_p dX11_heat_8 rfl rfl ?_
    refine r_cs (d1 := 1) dX11_heat_9 csX11_194 rfl rfl (Nat.le_of_ble_eq_true rfl) (Nat.le_of_ble_eq_true rfl) (Nat.le_of_ble_eq_true rfl) (c_x_isMinute p1) ?_
    refine r_ieq dX11_heat_12 rfl (fun c12_8 => ?_) (fun c12_8 => ?_)
    · have kk := kk.1 c12_8
      show tR _ _ _ _ [some (.ref 0), some (.int p0), some (.int p1), none] [.ref 0] _ _ _
      exact r_eI (r' := KJ1) (by simp only [jn]; rw [if_neg c5_7, if_pos c12_8]) ((hJ1  kk))
    · have kk := kk.2 c12_8
      refine r_ci (x := 1) dX11_heat_15 rfl ?_
      refine r_go dX11_heat_16 rfl ?_
      obtain ⟨q19, kk⟩ := kk
      refine r_cv (d1 := 2) dX11_heat_20 cvX11_221 rfl rfl rfl rfl (Nat.le_of_ble_eq_true rfl) (Nat.le_of_ble_eq_true rfl) (Nat.le_of_ble_eq_true rfl) (c_x_refusal 1 q19) ?_
      refine r_p dX11_heat_23 rfl rfl ?_
      refine r_p dX11_heat_24 rfl rfl ?_
      refine r_ieq dX11_heat_25 rfl (fun c25_9 => ?_) (fun c25_9 => ?_)
      · have kk := kk c25_9
        refine r_p dX11_heat_30 rfl rfl ?_
        refine r_p dX11_heat_31 rfl rfl ?_
        obtain ⟨q20, kk⟩ := kk
        refine r_cv (d1 := 11) dX11_heat_32 cvX11_238 rfl rfl rfl rfl (Nat.le_of_ble_eq_true rfl) (Nat.le_of_ble_eq_true rfl) (Nat.le_of_ble_eq_true rfl) (c_x_findsPlan p0 q20) ?_
        refine r_ine dX11_heat_35 rfl (fun c35_10 => ?_) (fun c35_10 => ?_)
        · have kk := kk c35_10
          refine r_p dX11_heat_41 rfl rfl ?_
          refine r_get dX11_heat_42 fkX11_57 rfl rfl ?_
          refine r_get dX11_heat_45 fkX11_271 rfl rfl ?_
          refine r_p dX11_heat_48 rfl rfl ?_
          refine r_get dX11_heat_49 fkX11_30 rfl rfl ?_
          refine r_p dX11_heat_52 rfl rfl ?_
          refine r_get dX11_heat_53 fkX11_71 rfl rfl ?_
          obtain ⟨q21, kk⟩ := kk
          refine r_cv (d1 := 2) dX11_heat_56 cvX11_275 rfl rfl rfl rfl (Nat.le_of_ble_eq_true rfl) (Nat.le_of_ble_eq_true rfl) (Nat.le_of_ble_eq_true rfl) (c_ov_want (((x_x_findsPlan T p0).2).2.1 0) 557 q21) ?_
          refine r_p dX11_heat_59 rfl rfl ?_
          refine r_get dX11_heat_60 fkX11_57 rfl rfl ?_
          refine r_get dX11_heat_63 fkX11_271 rfl rfl ?_
          refine r_p dX11_heat_66 rfl rfl ?_
          refine r_get dX11_heat_67 fkX11_30 rfl rfl ?_
          obtain ⟨q22, kk⟩ := kk
          refine r_get dX11_heat_70 fkX11_212 q22 rfl ?_
          refine r_ci (x := 3) dX11_heat_73 rfl ?_
          obtain ⟨q23, kk⟩ := kk
          obtain ⟨q24, kk⟩ := kk
          refine r_ia dX11_heat_74 q23 q24 ?_
          refine r_p dX11_heat_75 rfl rfl ?_
          refine r_get dX11_heat_76 fkX11_30 rfl rfl ?_
          refine r_get dX11_heat_79 fkX11_212 q22 rfl ?_
          refine r_ci (x := 4) dX11_heat_82 rfl ?_
          obtain ⟨q25, kk⟩ := kk
          refine r_ia dX11_heat_83 q23 q25 ?_
          obtain ⟨q26, kk⟩ := kk
          refine r_cv (d1 := 1) dX11_heat_84 cvX11_281 rfl rfl rfl rfl (Nat.le_of_ble_eq_true rfl) (Nat.le_of_ble_eq_true rfl) (Nat.le_of_ble_eq_true rfl) (c_ov_settle ((x_ov_want ((x_x_findsPlan T p0).2) (((x_x_findsPlan T p0).2).2.1 0) 557).2.2.1 (((x_ov_want ((x_x_findsPlan T p0).2) (((x_x_findsPlan T p0).2).2.1 0) 557).2.1 0) + 1) (3 : Int32).toNatClampNeg) ((x_ov_want ((x_x_findsPlan T p0).2) (((x_x_findsPlan T p0).2).2.1 0) 557).2.2.1 (((x_ov_want ((x_x_findsPlan T p0).2) (((x_x_findsPlan T p0).2).2.1 0) 557).2.1 0) + 1) (4 : Int32).toNatClampNeg) q26) ?_
          refine r_eI (r' := (fun (T3 : St) => (T3.2.2.1 531 (p1 : Int32).toNatClampNeg, T3)) (x_ov_settle (x_ov_want ((x_x_findsPlan T p0).2) (((x_x_findsPlan T p0).2).2.1 0) 557) ((x_ov_want ((x_x_findsPlan T p0).2) (((x_x_findsPlan T p0).2).2.1 0) 557).2.2.1 (((x_ov_want ((x_x_findsPlan T p0).2) (((x_x_findsPlan T p0).2).2.1 0) 557).2.1 0) + 1) (3 : Int32).toNatClampNeg) ((x_ov_want ((x_x_findsPlan T p0).2) (((x_x_findsPlan T p0).2).2.1 0) 557).2.2.1 (((x_ov_want ((x_x_findsPlan T p0).2) (((x_x_findsPlan T p0).2).2.1 0) 557).2.1 0) + 1) (4 : Int32).toNatClampNeg))) (by simp only [jn]; rw [if_neg c5_7, if_neg c12_8, if_pos c25_9, if_neg c35_10]) ?_
          generalize x_ov_settle (x_ov_want ((x_x_findsPlan T p0).2) (((x_x_findsPlan T p0).2).2.1 0) 557) ((x_ov_want ((x_x_findsPlan T p0).2) (((x_x_findsPlan T p0).2).2.1 0) 557).2.2.1 (((x_ov_want ((x_x_findsPlan T p0).2) (((x_x_findsPlan T p0).2).2.1 0) 557).2.1 0) + 1) (3 : Int32).toNatClampNeg) ((x_ov_want ((x_x_findsPlan T p0).2) (((x_x_findsPlan T p0).2).2.1 0) 557).2.2.1 (((x_ov_want ((x_x_findsPlan T p0).2) (((x_x_findsPlan T p0).2).2.1 0) 557).2.1 0) + 1) (4 : Int32).toNatClampNeg) = T3 at kk ⊢
          try dsimp only at kk
          refine r_p dX11_heat_87 rfl rfl ?_
          refine r_get dX11_heat_88 fkX11_57 rfl rfl ?_
          refine r_get dX11_heat_91 fkX11_271 rfl rfl ?_
          refine r_get dX11_heat_94 fkX11_284 rfl rfl ?_
          refine r_p dX11_heat_97 rfl rfl ?_
          obtain ⟨q27, kk⟩ := kk
          refine r_ia dX11_heat_98 rfl q27 ?_
          exact r_eI (r' := (T3.2.2.1 531 (p1 : Int32).toNatClampNeg, T3)) rfl (r_ri dX11_heat_99 rfl rfl rfl rfl)
        · refine r_k dX11_heat_38 kkX11_241 ?_
          exact r_eI (r' := ((-1000000), (x_x_findsPlan T p0).2)) (by simp only [jn]; rw [if_neg c5_7, if_neg c12_8, if_pos c25_9, if_pos c35_10]) (r_ri dX11_heat_40 rfl rfl rfl rfl)
      · refine r_p dX11_heat_28 rfl rfl ?_
        exact r_eI (r' := (x_x_refusal T 1, T)) (by simp only [jn]; rw [if_neg c5_7, if_neg c12_8, if_neg c25_9]) (r_ri dX11_heat_29 rfl rfl rfl rfl)
def x_x_wanted (T : St) (p0 : Int32) (p1 : Int32) (p2 : Int32) : Int32 × St := jn (fun (KJ1 : Int32 × St) => if (x_x_isTime T p0) = 0 then (KJ1) else (if (x_x_isMinute T p1) = 0 then (KJ1) else (if p2 < 0 then (KJ1) else (if 4 ≤ p2 then (KJ1) else (if (x_x_refusal T 1) = 0 then (if ((x_x_findsPlan T p0).1) = 0 then ((-1000000), (x_x_findsPlan T p0).2) else (x_jd_wantedAt (x_jd_lay ((x_x_findsPlan T p0).2) (((x_x_findsPlan T p0).2).2.1 0) 76 557) 557 p1 (([3, 0, 2, 4] : List Int32).getD (p2 : Int32).toNatClampNeg 0), x_jd_lay ((x_x_findsPlan T p0).2) (((x_x_findsPlan T p0).2).2.1 0) 76 557)) else (x_x_refusal T 1, T)))))) (if (x_x_refusal T 0) = 0 then (if ((x_x_findsPlan T p0).1) = 0 then ((-1000000), (x_x_findsPlan T p0).2) else (x_jd_wantedAt (x_jd_lay ((x_x_findsPlan T p0).2) (((x_x_findsPlan T p0).2).2.1 0) 76 557) 557 p1 (([3, 0, 2, 4] : List Int32).getD (p2 : Int32).toNatClampNeg 0), x_jd_lay ((x_x_findsPlan T p0).2) (((x_x_findsPlan T p0).2).2.1 0) 76 557)) else (x_x_refusal T 0, T))
def ok_x_wanted (T : St) (p0 : Int32) (p1 : Int32) (p2 : Int32) : Prop := jn (fun (OJ1 : Prop) => (((x_x_isTime T p0) = 0 → OJ1) ∧ (¬ (x_x_isTime T p0) = 0 → (((x_x_isMinute T p1) = 0 → OJ1) ∧ (¬ (x_x_isMinute T p1) = 0 → ((p2 < 0 → OJ1) ∧ (¬ p2 < 0 → ((4 ≤ p2 → OJ1) ∧ (¬ 4 ≤ p2 → (ok_x_refusal T 1) ∧ ((x_x_refusal T 1) = 0 → (ok_x_findsPlan T p0) ∧ (¬ ((x_x_findsPlan T p0).1) = 0 → (ok_jd_lay ((x_x_findsPlan T p0).2) (((x_x_findsPlan T p0).2).2.1 0) 76 557) ∧ (vp_in p2 4) ∧ (ok_jd_wantedAt (x_jd_lay ((x_x_findsPlan T p0).2) (((x_x_findsPlan T p0).2).2.1 0) 76 557) 557 p1 (([3, 0, 2, 4] : List Int32).getD (p2 : Int32).toNatClampNeg 0)) ∧ True))))))))))) ((ok_x_refusal T 0) ∧ ((x_x_refusal T 0) = 0 → (ok_x_findsPlan T p0) ∧ (¬ ((x_x_findsPlan T p0).1) = 0 → (ok_jd_lay ((x_x_findsPlan T p0).2) (((x_x_findsPlan T p0).2).2.1 0) 76 557) ∧ (vp_in p2 4) ∧ (ok_jd_wantedAt (x_jd_lay ((x_x_findsPlan T p0).2) (((x_x_findsPlan T p0).2).2.1 0) 76 557) 557 p1 (([3, 0, 2, 4] : List Int32).getD (p2 : Int32).toNatClampNeg 0)) ∧ True)))
theorem c_x_wanted {X : Nat × (Nat → Int32)} {T : St} (p0 : Int32) (p1 : Int32) (p2 : Int32) (kk : ok_x_wanted T p0 p1 p2) : tC X 12 mX11_wanted [.ref 0, .int p0, .int p1, .int p2] T (some (.int (x_x_wanted T p0 p1 p2).1)) ((x_x_wanted T p0 p1 p2).2) := by
  unfold ok_x_wanted at kk
  refine tC_of ?_
  refine r_p dX11_wanted_0 rfl rfl ?_
  refine r_p dX11_wanted_1 rfl rfl ?_
  refine r_cs (d1 := 1) dX11_wanted_2 csX11_218 rfl rfl (Nat.le_of_ble_eq_true rfl) (Nat.le_of_ble_eq_true rfl) (Nat.le_of_ble_eq_true rfl) (c_x_isTime p0) ?_
  obtain ⟨KJ1, hKJ1⟩ : ∃ q : Int32 × St, q = (if (x_x_refusal T 0) = 0 then (if ((x_x_findsPlan T p0).1) = 0 then ((-1000000), (x_x_findsPlan T p0).2) else (x_jd_wantedAt (x_jd_lay ((x_x_findsPlan T p0).2) (((x_x_findsPlan T p0).2).2.1 0) 76 557) 557 p1 (([3, 0, 2, 4] : List Int32).getD (p2 : Int32).toNatClampNeg 0), x_jd_lay ((x_x_findsPlan T p0).2) (((x_x_findsPlan T p0).2).2.1 0) 76 557)) else (x_x_refusal T 0, T)) := ⟨_, rfl⟩
  obtain ⟨OJ1, hOJ1⟩ : ∃ q : Prop, q = ((ok_x_refusal T 0) ∧ ((x_x_refusal T 0) = 0 → (ok_x_findsPlan T p0) ∧ (¬ ((x_x_findsPlan T p0).1) = 0 → (ok_jd_lay ((x_x_findsPlan T p0).2) (((x_x_findsPlan T p0).2).2.1 0) 76 557) ∧ (vp_in p2 4) ∧ (ok_jd_wantedAt (x_jd_lay ((x_x_findsPlan T p0).2) (((x_x_findsPlan T p0).2).2.1 0) 76 557) 557 p1 (([3, 0, 2, 4] : List Int32).getD (p2 : Int32).toNatClampNeg 0)) ∧ True))) := ⟨_, rfl⟩
  rw [← hOJ1] at kk
  simp only [jn] at kk
  have hJ1 : OJ1 → tR X 11 mX11_wanted 31 [some (.ref 0), some (.int p0), some (.int p1), some (.int p2), none] [.ref 0] T (some (.int KJ1.1)) KJ1.2 := by
    intro  kk
    rw [hOJ1] at kk
    try dsimp only at kk
    rw [hKJ1]
    refine r_ci (x := 0) dX11_wanted_31 rfl ?_
    obtain ⟨q6, kk⟩ := kk
    refine r_cv (d1 := 2) dX11_wanted_32 cvX11_221 rfl rfl rfl rfl (Nat.le_of_ble_eq_true rfl) (Nat.le_of_ble_eq_true rfl) (Nat.le_of_ble_eq_true rfl) (c_x_refusal 0 q6) ?_
    refine r_p dX11_wanted_35 rfl rfl ?_
    refine r_p dX11_wanted_37 rfl rfl ?_
    refine r_ieq dX11_wanted_39 rfl (fun c39_7 => ?_) (fun c39_7 => ?_)
    · have kk := kk c39_7
      refine r_p dX11_wanted_45 rfl rfl ?_
      refine r_p dX11_wanted_46 rfl rfl ?_
      obtain ⟨q7, kk⟩ := kk
      refine r_cv (d1 := 11) dX11_wanted_47 cvX11_238 rfl rfl rfl rfl (Nat.le_of_ble_eq_true rfl) (Nat.le_of_ble_eq_true rfl) (Nat.le_of_ble_eq_true rfl) (c_x_findsPlan p0 q7) ?_
      refine r_ine dX11_wanted_50 rfl (fun c50_8 => ?_) (fun c50_8 => ?_)
      · have kk := kk c50_8
        refine r_p dX11_wanted_56 rfl rfl ?_
        refine r_get dX11_wanted_57 fkX11_57 rfl rfl ?_
        refine r_p dX11_wanted_60 rfl rfl ?_
        refine r_get dX11_wanted_61 fkX11_30 rfl rfl ?_
        refine r_p dX11_wanted_64 rfl rfl ?_
        refine r_get dX11_wanted_65 fkX11_40 rfl rfl ?_
        refine r_p dX11_wanted_68 rfl rfl ?_
        refine r_get dX11_wanted_69 fkX11_71 rfl rfl ?_
        obtain ⟨q8, kk⟩ := kk
        refine r_cv (d1 := 3) dX11_wanted_72 cvX11_290 rfl rfl rfl rfl (Nat.le_of_ble_eq_true rfl) (Nat.le_of_ble_eq_true rfl) (Nat.le_of_ble_eq_true rfl) (c_jd_lay (((x_x_findsPlan T p0).2).2.1 0) 76 557 q8) ?_
        refine r_p dX11_wanted_75 rfl rfl ?_
        refine r_get dX11_wanted_76 fkX11_57 rfl rfl ?_
        refine r_p dX11_wanted_79 rfl rfl ?_
        refine r_get dX11_wanted_80 fkX11_71 rfl rfl ?_
        refine r_p dX11_wanted_83 rfl rfl ?_
        refine r_gs 0 rfl dX11_wanted_84 gsX11_287 ?_
        refine r_p dX11_wanted_87 rfl rfl ?_
        obtain ⟨q9, kk⟩ := kk
        refine r_ta (j := 0) rfl dX11_wanted_88 q9 ?_
        obtain ⟨q10, kk⟩ := kk
        refine r_cv (d1 := 1) dX11_wanted_89 cvX11_293 rfl rfl rfl rfl (Nat.le_of_ble_eq_true rfl) (Nat.le_of_ble_eq_true rfl) (Nat.le_of_ble_eq_true rfl) (c_jd_wantedAt 557 p1 (([3, 0, 2, 4] : List Int32).getD (p2 : Int32).toNatClampNeg 0) q10) ?_
        exact r_eI (r' := (x_jd_wantedAt (x_jd_lay ((x_x_findsPlan T p0).2) (((x_x_findsPlan T p0).2).2.1 0) 76 557) 557 p1 (([3, 0, 2, 4] : List Int32).getD (p2 : Int32).toNatClampNeg 0), x_jd_lay ((x_x_findsPlan T p0).2) (((x_x_findsPlan T p0).2).2.1 0) 76 557)) (by first | rw [if_pos c39_7, if_neg c50_8] | (dsimp only; rw [if_pos c39_7, if_neg c50_8])) (r_ri dX11_wanted_92 rfl rfl rfl rfl)
      · refine r_k dX11_wanted_53 kkX11_241 ?_
        exact r_eI (r' := ((-1000000), (x_x_findsPlan T p0).2)) (by first | rw [if_pos c39_7, if_pos c50_8] | (dsimp only; rw [if_pos c39_7, if_pos c50_8])) (r_ri dX11_wanted_55 rfl rfl rfl rfl)
    · refine r_p dX11_wanted_42 rfl rfl ?_
      exact r_eI (r' := (x_x_refusal T 0, T)) (by first | rw [if_neg c39_7] | (dsimp only; rw [if_neg c39_7])) (r_ri dX11_wanted_44 rfl rfl rfl rfl)
  refine r_eI (r' := jn (fun (KJ1 : Int32 × St) => if (x_x_isTime T p0) = 0 then (KJ1) else (if (x_x_isMinute T p1) = 0 then (KJ1) else (if p2 < 0 then (KJ1) else (if 4 ≤ p2 then (KJ1) else (if (x_x_refusal T 1) = 0 then (if ((x_x_findsPlan T p0).1) = 0 then ((-1000000), (x_x_findsPlan T p0).2) else (x_jd_wantedAt (x_jd_lay ((x_x_findsPlan T p0).2) (((x_x_findsPlan T p0).2).2.1 0) 76 557) 557 p1 (([3, 0, 2, 4] : List Int32).getD (p2 : Int32).toNatClampNeg 0), x_jd_lay ((x_x_findsPlan T p0).2) (((x_x_findsPlan T p0).2).2.1 0) 76 557)) else (x_x_refusal T 1, T)))))) KJ1) (by rw [hKJ1]; unfold x_x_wanted; rfl) ?_
  refine r_ieq dX11_wanted_5 rfl (fun c5_9 => ?_) (fun c5_9 => ?_)
  · have kk := kk.1 c5_9
    show tR _ _ _ _ [some (.ref 0), some (.int p0), some (.int p1), some (.int p2), none] [.ref 0] _ _ _
    exact r_eI (r' := KJ1) (by simp only [jn]; rw [if_pos c5_9]) ((hJ1  kk))
  · have kk := kk.2 c5_9
    refine r_p dX11_wanted_8 rfl rfl ?_
    refine r_cs (d1 := 1) dX11_wanted_9 csX11_194 rfl rfl (Nat.le_of_ble_eq_true rfl) (Nat.le_of_ble_eq_true rfl) (Nat.le_of_ble_eq_true rfl) (c_x_isMinute p1) ?_
    refine r_ieq dX11_wanted_12 rfl (fun c12_10 => ?_) (fun c12_10 => ?_)
    · have kk := kk.1 c12_10
      show tR _ _ _ _ [some (.ref 0), some (.int p0), some (.int p1), some (.int p2), none] [.ref 0] _ _ _
      exact r_eI (r' := KJ1) (by simp only [jn]; rw [if_neg c5_9, if_pos c12_10]) ((hJ1  kk))
    · have kk := kk.2 c12_10
      refine r_p dX11_wanted_15 rfl rfl ?_
      refine r_ilt dX11_wanted_16 rfl (fun c16_11 => ?_) (fun c16_11 => ?_)
      · have kk := kk.1 c16_11
        show tR _ _ _ _ [some (.ref 0), some (.int p0), some (.int p1), some (.int p2), none] [.ref 0] _ _ _
        exact r_eI (r' := KJ1) (by simp only [jn]; rw [if_neg c5_9, if_neg c12_10, if_pos c16_11]) ((hJ1  kk))
      · have kk := kk.2 c16_11
        refine r_p dX11_wanted_19 rfl rfl ?_
        refine r_gs 0 rfl dX11_wanted_20 gsX11_287 ?_
        refine r_tl (j := 0) rfl dX11_wanted_23 ?_
        refine r_cge dX11_wanted_24 rfl (fun c24_12 => ?_) (fun c24_12 => ?_)
        · have kk := kk.1 c24_12
          show tR _ _ _ _ [some (.ref 0), some (.int p0), some (.int p1), some (.int p2), none] [.ref 0] _ _ _
          exact r_eI (r' := KJ1) (by simp only [jn]; rw [if_neg c5_9, if_neg c12_10, if_neg c16_11, if_pos c24_12]) ((hJ1  kk))
        · have kk := kk.2 c24_12
          refine r_ci (x := 1) dX11_wanted_27 rfl ?_
          refine r_go dX11_wanted_28 rfl ?_
          obtain ⟨q11, kk⟩ := kk
          refine r_cv (d1 := 2) dX11_wanted_32 cvX11_221 rfl rfl rfl rfl (Nat.le_of_ble_eq_true rfl) (Nat.le_of_ble_eq_true rfl) (Nat.le_of_ble_eq_true rfl) (c_x_refusal 1 q11) ?_
          refine r_p dX11_wanted_35 rfl rfl ?_
          refine r_p dX11_wanted_37 rfl rfl ?_
          refine r_ieq dX11_wanted_39 rfl (fun c39_13 => ?_) (fun c39_13 => ?_)
          · have kk := kk c39_13
            refine r_p dX11_wanted_45 rfl rfl ?_
            refine r_p dX11_wanted_46 rfl rfl ?_
            obtain ⟨q12, kk⟩ := kk
            refine r_cv (d1 := 11) dX11_wanted_47 cvX11_238 rfl rfl rfl rfl (Nat.le_of_ble_eq_true rfl) (Nat.le_of_ble_eq_true rfl) (Nat.le_of_ble_eq_true rfl) (c_x_findsPlan p0 q12) ?_
            refine r_ine dX11_wanted_50 rfl (fun c50_14 => ?_) (fun c50_14 => ?_)
            · have kk := kk c50_14
              refine r_p dX11_wanted_56 rfl rfl ?_
              refine r_get dX11_wanted_57 fkX11_57 rfl rfl ?_
              refine r_p dX11_wanted_60 rfl rfl ?_
              refine r_get dX11_wanted_61 fkX11_30 rfl rfl ?_
              refine r_p dX11_wanted_64 rfl rfl ?_
              refine r_get dX11_wanted_65 fkX11_40 rfl rfl ?_
              refine r_p dX11_wanted_68 rfl rfl ?_
              refine r_get dX11_wanted_69 fkX11_71 rfl rfl ?_
              obtain ⟨q13, kk⟩ := kk
              refine r_cv (d1 := 3) dX11_wanted_72 cvX11_290 rfl rfl rfl rfl (Nat.le_of_ble_eq_true rfl) (Nat.le_of_ble_eq_true rfl) (Nat.le_of_ble_eq_true rfl) (c_jd_lay (((x_x_findsPlan T p0).2).2.1 0) 76 557 q13) ?_
              refine r_p dX11_wanted_75 rfl rfl ?_
              refine r_get dX11_wanted_76 fkX11_57 rfl rfl ?_
              refine r_p dX11_wanted_79 rfl rfl ?_
              refine r_get dX11_wanted_80 fkX11_71 rfl rfl ?_
              refine r_p dX11_wanted_83 rfl rfl ?_
              refine r_gs 0 rfl dX11_wanted_84 gsX11_287 ?_
              refine r_p dX11_wanted_87 rfl rfl ?_
              obtain ⟨q14, kk⟩ := kk
              refine r_ta (j := 0) rfl dX11_wanted_88 q14 ?_
              obtain ⟨q15, kk⟩ := kk
              refine r_cv (d1 := 1) dX11_wanted_89 cvX11_293 rfl rfl rfl rfl (Nat.le_of_ble_eq_true rfl) (Nat.le_of_ble_eq_true rfl) (Nat.le_of_ble_eq_true rfl) (c_jd_wantedAt 557 p1 (([3, 0, 2, 4] : List Int32).getD (p2 : Int32).toNatClampNeg 0) q15) ?_
              exact r_eI (r' := (x_jd_wantedAt (x_jd_lay ((x_x_findsPlan T p0).2) (((x_x_findsPlan T p0).2).2.1 0) 76 557) 557 p1 (([3, 0, 2, 4] : List Int32).getD (p2 : Int32).toNatClampNeg 0), x_jd_lay ((x_x_findsPlan T p0).2) (((x_x_findsPlan T p0).2).2.1 0) 76 557)) (by simp only [jn]; rw [if_neg c5_9, if_neg c12_10, if_neg c16_11, if_neg c24_12, if_pos c39_13, if_neg c50_14]) (r_ri dX11_wanted_92 rfl rfl rfl rfl)
            · refine r_k dX11_wanted_53 kkX11_241 ?_
              exact r_eI (r' := ((-1000000), (x_x_findsPlan T p0).2)) (by simp only [jn]; rw [if_neg c5_9, if_neg c12_10, if_neg c16_11, if_neg c24_12, if_pos c39_13, if_pos c50_14]) (r_ri dX11_wanted_55 rfl rfl rfl rfl)
          · refine r_p dX11_wanted_42 rfl rfl ?_
            exact r_eI (r' := (x_x_refusal T 1, T)) (by simp only [jn]; rw [if_neg c5_9, if_neg c12_10, if_neg c16_11, if_neg c24_12, if_neg c39_13]) (r_ri dX11_wanted_44 rfl rfl rfl rfl)
def x_x_more_34 (l1 : Int32) (l2 : Int32) (K : Int32 → Int32 → St → Int32 × St) : Nat → Int32 → Int32 → St → Int32 × St
  | 0, _, _, T => (0, T)
  | f + 1, v3, v4, T => if (T.1 (T.2.1 0) 4) ≤ v4 then (K v3 v4 T) else (if ((T.1 (T.2.1 0) 17) &&& (1 <<< (v4 &&& 31))) = 0 then (if ((x_x_isPossible T 76 ((T.1 (T.2.1 0) 17) ||| (1 <<< (v4 &&& 31))) l1).1) = 0 then (x_x_more_34 l1 l2 K f v3 (v4 + 1) ((x_x_isPossible T 76 ((T.1 (T.2.1 0) 17) ||| (1 <<< (v4 &&& 31))) l1).2)) else (x_x_more_34 l1 l2 K f (v3 ||| (1 <<< (v4 &&& 31))) (v4 + 1) ((x_x_isPossible T 76 ((T.1 (T.2.1 0) 17) ||| (1 <<< (v4 &&& 31))) l1).2))) else (x_x_more_34 l1 l2 K f v3 (v4 + 1) T))
def ok_x_more_34 (l1 : Int32) (l2 : Int32) (Kk : Int32 → Int32 → St → Prop) : Nat → Int32 → Int32 → St → Prop
  | 0, _, _, _ => False
  | f + 1, v3, v4, T => (sh (T.2.1 0) = .inr 1) ∧ (((T.1 (T.2.1 0) 4) ≤ v4 → Kk v3 v4 T) ∧ (¬ (T.1 (T.2.1 0) 4) ≤ v4 → ((((T.1 (T.2.1 0) 17) &&& (1 <<< (v4 &&& 31))) = 0 → (ok_x_isPossible T 76 ((T.1 (T.2.1 0) 17) ||| (1 <<< (v4 &&& 31))) l1) ∧ ((((x_x_isPossible T 76 ((T.1 (T.2.1 0) 17) ||| (1 <<< (v4 &&& 31))) l1).1) = 0 → ok_x_more_34 l1 l2 Kk f v3 (v4 + 1) ((x_x_isPossible T 76 ((T.1 (T.2.1 0) 17) ||| (1 <<< (v4 &&& 31))) l1).2)) ∧ (¬ ((x_x_isPossible T 76 ((T.1 (T.2.1 0) 17) ||| (1 <<< (v4 &&& 31))) l1).1) = 0 → ok_x_more_34 l1 l2 Kk f (v3 ||| (1 <<< (v4 &&& 31))) (v4 + 1) ((x_x_isPossible T 76 ((T.1 (T.2.1 0) 17) ||| (1 <<< (v4 &&& 31))) l1).2)))) ∧ (¬ ((T.1 (T.2.1 0) 17) &&& (1 <<< (v4 &&& 31))) = 0 → ok_x_more_34 l1 l2 Kk f v3 (v4 + 1) T))))
theorem c_x_more_34 {X : Nat × (Nat → Int32)} (l1 : Int32) (l2 : Int32) {K : Int32 → Int32 → St → Int32 × St} {Kk : Int32 → Int32 → St → Prop} (hk : ∀ (v3 : Int32) (v4 : Int32) (T : St), Kk v3 v4 T → tR X 11 mX11_more 98 [some (.ref 0), some (.int l1), some (.int l2), some (.int v3), some (.int v4), none] [] T (some (.int (K v3 v4 T).1)) ((K v3 v4 T).2)) : ∀ (f : Nat) (v3 : Int32) (v4 : Int32) (T : St), ok_x_more_34 l1 l2 Kk f v3 v4 T → tR X 11 mX11_more 34 [some (.ref 0), some (.int l1), some (.int l2), some (.int v3), some (.int v4), none] [] T (some (.int (x_x_more_34 l1 l2 K f v3 v4 T).1)) ((x_x_more_34 l1 l2 K f v3 v4 T).2) := by
  intro f
  induction f with
  | zero => intro v3 v4 T kk; exact kk.elim
  | succ f ih =>
    intro v3 v4 T kk
    rw [ok_x_more_34] at kk
    refine r_p dX11_more_34 rfl rfl ?_
    refine r_p dX11_more_36 rfl rfl ?_
    refine r_get dX11_more_37 fkX11_30 rfl rfl ?_
    obtain ⟨q3, kk⟩ := kk
    refine r_get dX11_more_40 fkX11_149 q3 rfl ?_
    refine r_cge dX11_more_43 rfl (fun c43_3 => ?_) (fun c43_3 => ?_)
    · have kk := kk.1 c43_3
      show tR _ _ _ _ [some (.ref 0), some (.int l1), some (.int l2), some (.int v3), some (.int v4), none] _ _ _ _
      exact r_eI (r' := K v3 v4 T) (by rw [x_x_more_34]; rw [if_pos c43_3]) ((hk v3 v4 T kk))
    · have kk := kk.2 c43_3
      refine r_ci (x := 1) dX11_more_46 rfl ?_
      refine r_p dX11_more_47 rfl rfl ?_
      refine r_p dX11_more_49 rfl rfl ?_
      refine r_p dX11_more_50 rfl rfl ?_
      refine r_p dX11_more_52 rfl rfl ?_
      refine r_get dX11_more_53 fkX11_30 rfl rfl ?_
      refine r_get dX11_more_56 fkX11_209 q3 rfl ?_
      refine r_p dX11_more_59 rfl rfl ?_
      refine r_p dX11_more_61 rfl rfl ?_
      refine r_ine dX11_more_62 rfl (fun c62_4 => ?_) (fun c62_4 => ?_)
      · have kk := kk.2 c62_4
        refine r_inc (y := 1) dX11_more_92 rfl rfl rfl ?_
        refine r_go dX11_more_95 rfl ?_
        show tR _ _ _ _ [some (.ref 0), some (.int l1), some (.int l2), some (.int v3), some (.int (v4 + 1)), some (.int (1 <<< (v4 &&& 31)))] _ _ _ _
        exact r_eI (r' := x_x_more_34 l1 l2 K f v3 (v4 + 1) T) (by rw [x_x_more_34]; rw [if_neg c43_3, if_neg c62_4]) (r_le (le_s (le_s (le_s (le_s (le_s (le_n (le_0))))))) (ih v3 (v4 + 1) T kk))
      · have kk := kk.1 c62_4
        refine r_p dX11_more_65 rfl rfl ?_
        refine r_p dX11_more_66 rfl rfl ?_
        refine r_get dX11_more_67 fkX11_40 rfl rfl ?_
        refine r_p dX11_more_70 rfl rfl ?_
        refine r_get dX11_more_71 fkX11_30 rfl rfl ?_
        refine r_get dX11_more_74 fkX11_209 q3 rfl ?_
        refine r_p dX11_more_77 rfl rfl ?_
        refine r_p dX11_more_79 rfl rfl ?_
        refine r_p dX11_more_80 rfl rfl ?_
        obtain ⟨q4, kk⟩ := kk
        refine r_cv (d1 := 11) dX11_more_81 cvX11_267 rfl rfl rfl rfl (Nat.le_of_ble_eq_true rfl) (Nat.le_of_ble_eq_true rfl) (Nat.le_of_ble_eq_true rfl) (c_x_isPossible 76 ((T.1 (T.2.1 0) 17) ||| (1 <<< (v4 &&& 31))) l1 q4) ?_
        refine r_ieq dX11_more_84 rfl (fun c84_5 => ?_) (fun c84_5 => ?_)
        · have kk := kk.1 c84_5
          refine r_inc (y := 1) dX11_more_92 rfl rfl rfl ?_
          refine r_go dX11_more_95 rfl ?_
          show tR _ _ _ _ [some (.ref 0), some (.int l1), some (.int l2), some (.int v3), some (.int (v4 + 1)), some (.int (1 <<< (v4 &&& 31)))] _ _ _ _
          exact r_eI (r' := x_x_more_34 l1 l2 K f v3 (v4 + 1) ((x_x_isPossible T 76 ((T.1 (T.2.1 0) 17) ||| (1 <<< (v4 &&& 31))) l1).2)) (by rw [x_x_more_34]; rw [if_neg c43_3, if_pos c62_4, if_pos c84_5]) (r_le (le_s (le_s (le_s (le_s (le_s (le_n (le_0))))))) (ih v3 (v4 + 1) ((x_x_isPossible T 76 ((T.1 (T.2.1 0) 17) ||| (1 <<< (v4 &&& 31))) l1).2) kk))
        · have kk := kk.2 c84_5
          refine r_p dX11_more_87 rfl rfl ?_
          refine r_p dX11_more_88 rfl rfl ?_
          refine r_p dX11_more_90 rfl rfl ?_
          refine r_p dX11_more_91 rfl rfl ?_
          refine r_inc (y := 1) dX11_more_92 rfl rfl rfl ?_
          refine r_go dX11_more_95 rfl ?_
          show tR _ _ _ _ [some (.ref 0), some (.int l1), some (.int l2), some (.int (v3 ||| (1 <<< (v4 &&& 31)))), some (.int (v4 + 1)), some (.int (1 <<< (v4 &&& 31)))] _ _ _ _
          exact r_eI (r' := x_x_more_34 l1 l2 K f (v3 ||| (1 <<< (v4 &&& 31))) (v4 + 1) ((x_x_isPossible T 76 ((T.1 (T.2.1 0) 17) ||| (1 <<< (v4 &&& 31))) l1).2)) (by rw [x_x_more_34]; rw [if_neg c43_3, if_pos c62_4, if_neg c84_5]) (r_le (le_s (le_s (le_s (le_s (le_s (le_n (le_0))))))) (ih (v3 ||| (1 <<< (v4 &&& 31))) (v4 + 1) ((x_x_isPossible T 76 ((T.1 (T.2.1 0) 17) ||| (1 <<< (v4 &&& 31))) l1).2) kk))
def x_x_more (T : St) (p0 : Int32) : Int32 × St := if (x_x_refusal T (x_x_isTime T p0)) = 0 then (if 4 ≤ (x_J_bitCount T (T.1 (T.2.1 0) 17)) then (0, T) else (x_x_more_34 p0 (x_x_refusal T (x_x_isTime T p0)) (fun (w1_3 : Int32) (w1_4 : Int32) (T201 : St) => (w1_3, T201)) 1000 0 0 T)) else (x_x_refusal T (x_x_isTime T p0), T)
def ok_x_more (T : St) (p0 : Int32) : Prop := (ok_x_refusal T (x_x_isTime T p0)) ∧ ((x_x_refusal T (x_x_isTime T p0)) = 0 → (sh (T.2.1 0) = .inr 1) ∧ (¬ 4 ≤ (x_J_bitCount T (T.1 (T.2.1 0) 17)) → ok_x_more_34 p0 (x_x_refusal T (x_x_isTime T p0)) (fun (w1_3 : Int32) (w1_4 : Int32) (T201 : St) => True) 1000 0 0 T))
theorem c_x_more {X : Nat × (Nat → Int32)} {T : St} (p0 : Int32) (kk : ok_x_more T p0) : tC X 12 mX11_more [.ref 0, .int p0] T (some (.int (x_x_more T p0).1)) ((x_x_more T p0).2) := by
  unfold ok_x_more at kk
  refine tC_of ?_
  refine r_p dX11_more_0 rfl rfl ?_
  refine r_p dX11_more_1 rfl rfl ?_
  refine r_cs (d1 := 1) dX11_more_2 csX11_218 rfl rfl (Nat.le_of_ble_eq_true rfl) (Nat.le_of_ble_eq_true rfl) (Nat.le_of_ble_eq_true rfl) (c_x_isTime p0) ?_
  obtain ⟨q1, kk⟩ := kk
  refine r_cv (d1 := 2) dX11_more_5 cvX11_221 rfl rfl rfl rfl (Nat.le_of_ble_eq_true rfl) (Nat.le_of_ble_eq_true rfl) (Nat.le_of_ble_eq_true rfl) (c_x_refusal (x_x_isTime T p0) q1) ?_
  refine r_p dX11_more_8 rfl rfl ?_
  refine r_p dX11_more_9 rfl rfl ?_
  refine r_ieq dX11_more_10 rfl (fun c10_1 => ?_) (fun c10_1 => ?_)
  · have kk := kk c10_1
    refine r_ci (x := 0) dX11_more_15 rfl ?_
    refine r_p dX11_more_16 rfl rfl ?_
    refine r_p dX11_more_17 rfl rfl ?_
    refine r_get dX11_more_18 fkX11_30 rfl rfl ?_
    obtain ⟨q2, kk⟩ := kk
    refine r_get dX11_more_21 fkX11_209 q2 rfl ?_
    refine r_cs (d1 := 1) dX11_more_24 csX11_200 rfl rfl (Nat.le_of_ble_eq_true rfl) (Nat.le_of_ble_eq_true rfl) (Nat.le_of_ble_eq_true rfl) (c_J_bitCount (T.1 (T.2.1 0) 17)) ?_
    refine r_ci (x := 4) dX11_more_27 rfl ?_
    refine r_cge dX11_more_28 rfl (fun c28_2 => ?_) (fun c28_2 => ?_)
    · refine r_p dX11_more_98 rfl rfl ?_
      exact r_eI (r' := (0, T)) (by unfold x_x_more; rw [if_pos c10_1, if_pos c28_2]) (r_ri dX11_more_99 rfl rfl rfl rfl)
    · have kk := kk c28_2
      refine r_ci (x := 0) dX11_more_31 rfl ?_
      refine r_p dX11_more_32 rfl rfl ?_
      show tR _ _ _ _ [some (.ref 0), some (.int p0), some (.int (x_x_refusal T (x_x_isTime T p0))), some (.int 0), some (.int 0), none] _ _ _ _
      refine r_eI (r' := x_x_more_34 p0 (x_x_refusal T (x_x_isTime T p0)) (fun (w1_3 : Int32) (w1_4 : Int32) (T201 : St) => (w1_3, T201)) 1000 0 0 T) (by unfold x_x_more; rw [if_pos c10_1, if_neg c28_2]) ((c_x_more_34 p0 (x_x_refusal T (x_x_isTime T p0)) (fun w1_3 w1_4 T201 kk => ?_) 1000 0 0 T kk))
      · refine r_p dX11_more_98 rfl rfl ?_
        exact r_eI (r' := (w1_3, T201)) rfl (r_ri dX11_more_99 rfl rfl rfl rfl)
  · refine r_p dX11_more_13 rfl rfl ?_
    exact r_eI (r' := (x_x_refusal T (x_x_isTime T p0), T)) (by unfold x_x_more; rw [if_neg c10_1]) (r_ri dX11_more_14 rfl rfl rfl rfl)
def x_x_mend (T : St) (p0 : Int32) (p1 : Int32) : Int32 × St := jn (fun (KJ1 : Int32 × St) => if (x_x_isTime T p0) = 0 then (KJ1) else (if (x_x_isMinute T p1) = 0 then (KJ1) else (if (x_x_refusal T 1) = 0 then (if (T.2.2.1 ((T.2.1 0) + 1) (1 : Int32).toNatClampNeg) = 0 then ((-1000002), T) else (if 60 ≤ (T.1 (T.2.1 0) 18) then (if ((x_x_findsPlan T p0).1) = 0 then ((-1000000), (x_x_findsPlan T p0).2) else (fun (T5 : St) => (fun (T6 : St) => if ((x_pl_finds T6 (T6.1 (T6.2.1 0) 17) 0).1) = 0 then ((-1000000), (x_pl_finds T6 (T6.1 (T6.2.1 0) 17) 0).2) else (((x_pl_finds T6 (T6.1 (T6.2.1 0) 17) 0).2).1 80 17, (x_pl_finds T6 (T6.1 (T6.2.1 0) 17) 0).2)) (x_pl_settle (x_pl_strikeUnlike (x_pl_lay T5 (T5.2.1 0) 78 (T5.1 (T5.2.1 0) 17) p0) 557 p1) ((x_pl_strikeUnlike (x_pl_lay T5 (T5.2.1 0) 78 (T5.1 (T5.2.1 0) 17) p0) 557 p1).1 ((x_pl_strikeUnlike (x_pl_lay T5 (T5.2.1 0) 78 (T5.1 (T5.2.1 0) 17) p0) 557 p1).2.1 0) 17))) (x_ki_fit ((x_x_findsPlan T p0).2) 78 (((x_x_findsPlan T p0).2).2.1 0) (((x_x_findsPlan T p0).2).2.2.1 ((((x_x_findsPlan T p0).2).2.1 0) + 1) (5 : Int32).toNatClampNeg) p1)) else ((-1000002), T))) else (x_x_refusal T 1, T)))) (if (x_x_refusal T 0) = 0 then (if (T.2.2.1 ((T.2.1 0) + 1) (1 : Int32).toNatClampNeg) = 0 then ((-1000002), T) else (if 60 ≤ (T.1 (T.2.1 0) 18) then (if ((x_x_findsPlan T p0).1) = 0 then ((-1000000), (x_x_findsPlan T p0).2) else (fun (T3 : St) => (fun (T4 : St) => if ((x_pl_finds T4 (T4.1 (T4.2.1 0) 17) 0).1) = 0 then ((-1000000), (x_pl_finds T4 (T4.1 (T4.2.1 0) 17) 0).2) else (((x_pl_finds T4 (T4.1 (T4.2.1 0) 17) 0).2).1 80 17, (x_pl_finds T4 (T4.1 (T4.2.1 0) 17) 0).2)) (x_pl_settle (x_pl_strikeUnlike (x_pl_lay T3 (T3.2.1 0) 78 (T3.1 (T3.2.1 0) 17) p0) 557 p1) ((x_pl_strikeUnlike (x_pl_lay T3 (T3.2.1 0) 78 (T3.1 (T3.2.1 0) 17) p0) 557 p1).1 ((x_pl_strikeUnlike (x_pl_lay T3 (T3.2.1 0) 78 (T3.1 (T3.2.1 0) 17) p0) 557 p1).2.1 0) 17))) (x_ki_fit ((x_x_findsPlan T p0).2) 78 (((x_x_findsPlan T p0).2).2.1 0) (((x_x_findsPlan T p0).2).2.2.1 ((((x_x_findsPlan T p0).2).2.1 0) + 1) (5 : Int32).toNatClampNeg) p1)) else ((-1000002), T))) else (x_x_refusal T 0, T))
def ok_x_mend (T : St) (p0 : Int32) (p1 : Int32) : Prop := jn (fun (OJ1 : Prop) => (((x_x_isTime T p0) = 0 → OJ1) ∧ (¬ (x_x_isTime T p0) = 0 → (((x_x_isMinute T p1) = 0 → OJ1) ∧ (¬ (x_x_isMinute T p1) = 0 → (ok_x_refusal T 1) ∧ ((x_x_refusal T 1) = 0 → (sh (T.2.1 0) = .inr 1) ∧ (sh ((T.2.1 0) + 1) = .inl (0, 7)) ∧ (vp_in 1 7) ∧ (¬ (T.2.2.1 ((T.2.1 0) + 1) (1 : Int32).toNatClampNeg) = 0 → (60 ≤ (T.1 (T.2.1 0) 18) → (ok_x_findsPlan T p0) ∧ (¬ ((x_x_findsPlan T p0).1) = 0 → (sh (((x_x_findsPlan T p0).2).2.1 0) = .inr 1) ∧ (sh ((((x_x_findsPlan T p0).2).2.1 0) + 1) = .inl (0, 7)) ∧ (vp_in 5 7) ∧ (ok_ki_fit ((x_x_findsPlan T p0).2) 78 (((x_x_findsPlan T p0).2).2.1 0) (((x_x_findsPlan T p0).2).2.2.1 ((((x_x_findsPlan T p0).2).2.1 0) + 1) (5 : Int32).toNatClampNeg) p1) ∧ (fun (T5 : St) => (sh (T5.2.1 0) = .inr 1) ∧ (ok_pl_lay T5 (T5.2.1 0) 78 (T5.1 (T5.2.1 0) 17) p0) ∧ (ok_pl_strikeUnlike (x_pl_lay T5 (T5.2.1 0) 78 (T5.1 (T5.2.1 0) 17) p0) 557 p1) ∧ (sh ((x_pl_strikeUnlike (x_pl_lay T5 (T5.2.1 0) 78 (T5.1 (T5.2.1 0) 17) p0) 557 p1).2.1 0) = .inr 1) ∧ (ok_pl_settle (x_pl_strikeUnlike (x_pl_lay T5 (T5.2.1 0) 78 (T5.1 (T5.2.1 0) 17) p0) 557 p1) ((x_pl_strikeUnlike (x_pl_lay T5 (T5.2.1 0) 78 (T5.1 (T5.2.1 0) 17) p0) 557 p1).1 ((x_pl_strikeUnlike (x_pl_lay T5 (T5.2.1 0) 78 (T5.1 (T5.2.1 0) 17) p0) 557 p1).2.1 0) 17)) ∧ (fun (T6 : St) => (sh (T6.2.1 0) = .inr 1) ∧ (ok_pl_finds T6 (T6.1 (T6.2.1 0) 17) 0) ∧ True) (x_pl_settle (x_pl_strikeUnlike (x_pl_lay T5 (T5.2.1 0) 78 (T5.1 (T5.2.1 0) 17) p0) 557 p1) ((x_pl_strikeUnlike (x_pl_lay T5 (T5.2.1 0) 78 (T5.1 (T5.2.1 0) 17) p0) 557 p1).1 ((x_pl_strikeUnlike (x_pl_lay T5 (T5.2.1 0) 78 (T5.1 (T5.2.1 0) 17) p0) 557 p1).2.1 0) 17))) (x_ki_fit ((x_x_findsPlan T p0).2) 78 (((x_x_findsPlan T p0).2).2.1 0) (((x_x_findsPlan T p0).2).2.2.1 ((((x_x_findsPlan T p0).2).2.1 0) + 1) (5 : Int32).toNatClampNeg) p1)))))))))) ((ok_x_refusal T 0) ∧ ((x_x_refusal T 0) = 0 → (sh (T.2.1 0) = .inr 1) ∧ (sh ((T.2.1 0) + 1) = .inl (0, 7)) ∧ (vp_in 1 7) ∧ (¬ (T.2.2.1 ((T.2.1 0) + 1) (1 : Int32).toNatClampNeg) = 0 → (60 ≤ (T.1 (T.2.1 0) 18) → (ok_x_findsPlan T p0) ∧ (¬ ((x_x_findsPlan T p0).1) = 0 → (sh (((x_x_findsPlan T p0).2).2.1 0) = .inr 1) ∧ (sh ((((x_x_findsPlan T p0).2).2.1 0) + 1) = .inl (0, 7)) ∧ (vp_in 5 7) ∧ (ok_ki_fit ((x_x_findsPlan T p0).2) 78 (((x_x_findsPlan T p0).2).2.1 0) (((x_x_findsPlan T p0).2).2.2.1 ((((x_x_findsPlan T p0).2).2.1 0) + 1) (5 : Int32).toNatClampNeg) p1) ∧ (fun (T3 : St) => (sh (T3.2.1 0) = .inr 1) ∧ (ok_pl_lay T3 (T3.2.1 0) 78 (T3.1 (T3.2.1 0) 17) p0) ∧ (ok_pl_strikeUnlike (x_pl_lay T3 (T3.2.1 0) 78 (T3.1 (T3.2.1 0) 17) p0) 557 p1) ∧ (sh ((x_pl_strikeUnlike (x_pl_lay T3 (T3.2.1 0) 78 (T3.1 (T3.2.1 0) 17) p0) 557 p1).2.1 0) = .inr 1) ∧ (ok_pl_settle (x_pl_strikeUnlike (x_pl_lay T3 (T3.2.1 0) 78 (T3.1 (T3.2.1 0) 17) p0) 557 p1) ((x_pl_strikeUnlike (x_pl_lay T3 (T3.2.1 0) 78 (T3.1 (T3.2.1 0) 17) p0) 557 p1).1 ((x_pl_strikeUnlike (x_pl_lay T3 (T3.2.1 0) 78 (T3.1 (T3.2.1 0) 17) p0) 557 p1).2.1 0) 17)) ∧ (fun (T4 : St) => (sh (T4.2.1 0) = .inr 1) ∧ (ok_pl_finds T4 (T4.1 (T4.2.1 0) 17) 0) ∧ True) (x_pl_settle (x_pl_strikeUnlike (x_pl_lay T3 (T3.2.1 0) 78 (T3.1 (T3.2.1 0) 17) p0) 557 p1) ((x_pl_strikeUnlike (x_pl_lay T3 (T3.2.1 0) 78 (T3.1 (T3.2.1 0) 17) p0) 557 p1).1 ((x_pl_strikeUnlike (x_pl_lay T3 (T3.2.1 0) 78 (T3.1 (T3.2.1 0) 17) p0) 557 p1).2.1 0) 17))) (x_ki_fit ((x_x_findsPlan T p0).2) 78 (((x_x_findsPlan T p0).2).2.1 0) (((x_x_findsPlan T p0).2).2.2.1 ((((x_x_findsPlan T p0).2).2.1 0) + 1) (5 : Int32).toNatClampNeg) p1))))))
theorem c_x_mend {X : Nat × (Nat → Int32)} {T : St} (p0 : Int32) (p1 : Int32) (kk : ok_x_mend T p0 p1) : tC X 12 mX11_mend [.ref 0, .int p0, .int p1] T (some (.int (x_x_mend T p0 p1).1)) ((x_x_mend T p0 p1).2) := by
  unfold ok_x_mend at kk
  refine tC_of ?_
  refine r_p dX11_mend_0 rfl rfl ?_
  refine r_p dX11_mend_1 rfl rfl ?_
  refine r_cs (d1 := 1) dX11_mend_2 csX11_218 rfl rfl (Nat.le_of_ble_eq_true rfl) (Nat.le_of_ble_eq_true rfl) (Nat.le_of_ble_eq_true rfl) (c_x_isTime p0) ?_
  obtain ⟨KJ1, hKJ1⟩ : ∃ q : Int32 × St, q = (if (x_x_refusal T 0) = 0 then (if (T.2.2.1 ((T.2.1 0) + 1) (1 : Int32).toNatClampNeg) = 0 then ((-1000002), T) else (if 60 ≤ (T.1 (T.2.1 0) 18) then (if ((x_x_findsPlan T p0).1) = 0 then ((-1000000), (x_x_findsPlan T p0).2) else (fun (T3 : St) => (fun (T4 : St) => if ((x_pl_finds T4 (T4.1 (T4.2.1 0) 17) 0).1) = 0 then ((-1000000), (x_pl_finds T4 (T4.1 (T4.2.1 0) 17) 0).2) else (((x_pl_finds T4 (T4.1 (T4.2.1 0) 17) 0).2).1 80 17, (x_pl_finds T4 (T4.1 (T4.2.1 0) 17) 0).2)) (x_pl_settle (x_pl_strikeUnlike (x_pl_lay T3 (T3.2.1 0) 78 (T3.1 (T3.2.1 0) 17) p0) 557 p1) ((x_pl_strikeUnlike (x_pl_lay T3 (T3.2.1 0) 78 (T3.1 (T3.2.1 0) 17) p0) 557 p1).1 ((x_pl_strikeUnlike (x_pl_lay T3 (T3.2.1 0) 78 (T3.1 (T3.2.1 0) 17) p0) 557 p1).2.1 0) 17))) (x_ki_fit ((x_x_findsPlan T p0).2) 78 (((x_x_findsPlan T p0).2).2.1 0) (((x_x_findsPlan T p0).2).2.2.1 ((((x_x_findsPlan T p0).2).2.1 0) + 1) (5 : Int32).toNatClampNeg) p1)) else ((-1000002), T))) else (x_x_refusal T 0, T)) := ⟨_, rfl⟩
  obtain ⟨OJ1, hOJ1⟩ : ∃ q : Prop, q = ((ok_x_refusal T 0) ∧ ((x_x_refusal T 0) = 0 → (sh (T.2.1 0) = .inr 1) ∧ (sh ((T.2.1 0) + 1) = .inl (0, 7)) ∧ (vp_in 1 7) ∧ (¬ (T.2.2.1 ((T.2.1 0) + 1) (1 : Int32).toNatClampNeg) = 0 → (60 ≤ (T.1 (T.2.1 0) 18) → (ok_x_findsPlan T p0) ∧ (¬ ((x_x_findsPlan T p0).1) = 0 → (sh (((x_x_findsPlan T p0).2).2.1 0) = .inr 1) ∧ (sh ((((x_x_findsPlan T p0).2).2.1 0) + 1) = .inl (0, 7)) ∧ (vp_in 5 7) ∧ (ok_ki_fit ((x_x_findsPlan T p0).2) 78 (((x_x_findsPlan T p0).2).2.1 0) (((x_x_findsPlan T p0).2).2.2.1 ((((x_x_findsPlan T p0).2).2.1 0) + 1) (5 : Int32).toNatClampNeg) p1) ∧ (fun (T3 : St) => (sh (T3.2.1 0) = .inr 1) ∧ (ok_pl_lay T3 (T3.2.1 0) 78 (T3.1 (T3.2.1 0) 17) p0) ∧ (ok_pl_strikeUnlike (x_pl_lay T3 (T3.2.1 0) 78 (T3.1 (T3.2.1 0) 17) p0) 557 p1) ∧ (sh ((x_pl_strikeUnlike (x_pl_lay T3 (T3.2.1 0) 78 (T3.1 (T3.2.1 0) 17) p0) 557 p1).2.1 0) = .inr 1) ∧ (ok_pl_settle (x_pl_strikeUnlike (x_pl_lay T3 (T3.2.1 0) 78 (T3.1 (T3.2.1 0) 17) p0) 557 p1) ((x_pl_strikeUnlike (x_pl_lay T3 (T3.2.1 0) 78 (T3.1 (T3.2.1 0) 17) p0) 557 p1).1 ((x_pl_strikeUnlike (x_pl_lay T3 (T3.2.1 0) 78 (T3.1 (T3.2.1 0) 17) p0) 557 p1).2.1 0) 17)) ∧ (fun (T4 : St) => (sh (T4.2.1 0) = .inr 1) ∧ (ok_pl_finds T4 (T4.1 (T4.2.1 0) 17) 0) ∧ True) (x_pl_settle (x_pl_strikeUnlike (x_pl_lay T3 (T3.2.1 0) 78 (T3.1 (T3.2.1 0) 17) p0) 557 p1) ((x_pl_strikeUnlike (x_pl_lay T3 (T3.2.1 0) 78 (T3.1 (T3.2.1 0) 17) p0) 557 p1).1 ((x_pl_strikeUnlike (x_pl_lay T3 (T3.2.1 0) 78 (T3.1 (T3.2.1 0) 17) p0) 557 p1).2.1 0) 17))) (x_ki_fit ((x_x_findsPlan T p0).2) 78 (((x_x_findsPlan T p0).2).2.1 0) (((x_x_findsPlan T p0).2).2.2.1 ((((x_x_findsPlan T p0).2).2.1 0) + 1) (5 : Int32).toNatClampNeg) p1)))))) := ⟨_, rfl⟩
  rw [← hOJ1] at kk
  simp only [jn] at kk
  have hJ1 : OJ1 → tR X 11 mX11_mend 19 [some (.ref 0), some (.int p0), some (.int p1), none] [.ref 0] T (some (.int KJ1.1)) KJ1.2 := by
    intro  kk
    rw [hOJ1] at kk
    try dsimp only at kk
    rw [hKJ1]
    refine r_ci (x := 0) dX11_mend_19 rfl ?_
    obtain ⟨q17, kk⟩ := kk
    refine r_cv (d1 := 2) dX11_mend_20 cvX11_221 rfl rfl rfl rfl (Nat.le_of_ble_eq_true rfl) (Nat.le_of_ble_eq_true rfl) (Nat.le_of_ble_eq_true rfl) (c_x_refusal 0 q17) ?_
    refine r_p dX11_mend_23 rfl rfl ?_
    refine r_p dX11_mend_24 rfl rfl ?_
    refine r_ieq dX11_mend_25 rfl (fun c25_8 => ?_) (fun c25_8 => ?_)
    · have kk := kk c25_8
      refine r_p dX11_mend_30 rfl rfl ?_
      refine r_get dX11_mend_31 fkX11_30 rfl rfl ?_
      obtain ⟨q18, kk⟩ := kk
      refine r_get dX11_mend_34 fkX11_212 q18 rfl ?_
      refine r_ci (x := 1) dX11_mend_37 rfl ?_
      obtain ⟨q19, kk⟩ := kk
      obtain ⟨q20, kk⟩ := kk
      refine r_ia dX11_mend_38 q19 q20 ?_
      refine r_ieq dX11_mend_39 rfl (fun c39_9 => ?_) (fun c39_9 => ?_)
      · refine r_k dX11_mend_54 kkX11_193 ?_
        exact r_eI (r' := ((-1000002), T)) (by first | rw [if_pos c25_8, if_pos c39_9] | (dsimp only; rw [if_pos c25_8, if_pos c39_9])) (r_ri dX11_mend_56 rfl rfl rfl rfl)
      · have kk := kk c39_9
        refine r_p dX11_mend_42 rfl rfl ?_
        refine r_get dX11_mend_43 fkX11_30 rfl rfl ?_
        refine r_get dX11_mend_46 fkX11_215 q18 rfl ?_
        refine r_cb (x := 60) dX11_mend_49 rfl ?_
        refine r_cge dX11_mend_51 rfl (fun c51_10 => ?_) (fun c51_10 => ?_)
        · have kk := kk c51_10
          refine r_p dX11_mend_57 rfl rfl ?_
          refine r_p dX11_mend_58 rfl rfl ?_
          obtain ⟨q21, kk⟩ := kk
          refine r_cv (d1 := 11) dX11_mend_59 cvX11_238 rfl rfl rfl rfl (Nat.le_of_ble_eq_true rfl) (Nat.le_of_ble_eq_true rfl) (Nat.le_of_ble_eq_true rfl) (c_x_findsPlan p0 q21) ?_
          refine r_ine dX11_mend_62 rfl (fun c62_11 => ?_) (fun c62_11 => ?_)
          · have kk := kk c62_11
            refine r_p dX11_mend_68 rfl rfl ?_
            refine r_get dX11_mend_69 fkX11_44 rfl rfl ?_
            refine r_p dX11_mend_72 rfl rfl ?_
            refine r_get dX11_mend_73 fkX11_30 rfl rfl ?_
            refine r_p dX11_mend_76 rfl rfl ?_
            refine r_get dX11_mend_77 fkX11_30 rfl rfl ?_
            obtain ⟨q22, kk⟩ := kk
            refine r_get dX11_mend_80 fkX11_212 q22 rfl ?_
            refine r_ci (x := 5) dX11_mend_83 rfl ?_
            obtain ⟨q23, kk⟩ := kk
            obtain ⟨q24, kk⟩ := kk
            refine r_ia dX11_mend_84 q23 q24 ?_
            refine r_p dX11_mend_85 rfl rfl ?_
            obtain ⟨q25, kk⟩ := kk
            refine r_cv (d1 := 3) dX11_mend_86 cvX11_300 rfl rfl rfl rfl (Nat.le_of_ble_eq_true rfl) (Nat.le_of_ble_eq_true rfl) (Nat.le_of_ble_eq_true rfl) (c_ki_fit 78 (((x_x_findsPlan T p0).2).2.1 0) (((x_x_findsPlan T p0).2).2.2.1 ((((x_x_findsPlan T p0).2).2.1 0) + 1) (5 : Int32).toNatClampNeg) p1 q25) ?_
            refine r_eI (r' := (fun (T3 : St) => (fun (T4 : St) => if ((x_pl_finds T4 (T4.1 (T4.2.1 0) 17) 0).1) = 0 then ((-1000000), (x_pl_finds T4 (T4.1 (T4.2.1 0) 17) 0).2) else (((x_pl_finds T4 (T4.1 (T4.2.1 0) 17) 0).2).1 80 17, (x_pl_finds T4 (T4.1 (T4.2.1 0) 17) 0).2)) (x_pl_settle (x_pl_strikeUnlike (x_pl_lay T3 (T3.2.1 0) 78 (T3.1 (T3.2.1 0) 17) p0) 557 p1) ((x_pl_strikeUnlike (x_pl_lay T3 (T3.2.1 0) 78 (T3.1 (T3.2.1 0) 17) p0) 557 p1).1 ((x_pl_strikeUnlike (x_pl_lay T3 (T3.2.1 0) 78 (T3.1 (T3.2.1 0) 17) p0) 557 p1).2.1 0) 17))) (x_ki_fit ((x_x_findsPlan T p0).2) 78 (((x_x_findsPlan T p0).2).2.1 0) (((x_x_findsPlan T p0).2).2.2.1 ((((x_x_findsPlan T p0).2).2.1 0) + 1) (5 : Int32).toNatClampNeg) p1)) (by first | rw [if_pos c25_8, if_neg c39_9, if_pos c51_10, if_neg c62_11] | (dsimp only; rw [if_pos c25_8, if_neg c39_9, if_pos c51_10, if_neg c62_11])) ?_
            generalize x_ki_fit ((x_x_findsPlan T p0).2) 78 (((x_x_findsPlan T p0).2).2.1 0) (((x_x_findsPlan T p0).2).2.2.1 ((((x_x_findsPlan T p0).2).2.1 0) + 1) (5 : Int32).toNatClampNeg) p1 = T3 at kk ⊢
            try dsimp only at kk
            refine r_p dX11_mend_89 rfl rfl ?_
            refine r_get dX11_mend_90 fkX11_50 rfl rfl ?_
            refine r_p dX11_mend_93 rfl rfl ?_
            refine r_get dX11_mend_94 fkX11_30 rfl rfl ?_
            refine r_p dX11_mend_97 rfl rfl ?_
            refine r_get dX11_mend_98 fkX11_44 rfl rfl ?_
            refine r_p dX11_mend_101 rfl rfl ?_
            refine r_get dX11_mend_102 fkX11_30 rfl rfl ?_
            obtain ⟨q26, kk⟩ := kk
            refine r_get dX11_mend_105 fkX11_209 q26 rfl ?_
            refine r_p dX11_mend_108 rfl rfl ?_
            obtain ⟨q27, kk⟩ := kk
            refine r_cv (d1 := 5) dX11_mend_109 cvX11_249 rfl rfl rfl rfl (Nat.le_of_ble_eq_true rfl) (Nat.le_of_ble_eq_true rfl) (Nat.le_of_ble_eq_true rfl) (c_pl_lay (T3.2.1 0) 78 (T3.1 (T3.2.1 0) 17) p0 q27) ?_
            refine r_p dX11_mend_112 rfl rfl ?_
            refine r_get dX11_mend_113 fkX11_50 rfl rfl ?_
            refine r_p dX11_mend_116 rfl rfl ?_
            refine r_get dX11_mend_117 fkX11_71 rfl rfl ?_
            refine r_p dX11_mend_120 rfl rfl ?_
            obtain ⟨q28, kk⟩ := kk
            refine r_cv (d1 := 1) dX11_mend_121 cvX11_313 rfl rfl rfl rfl (Nat.le_of_ble_eq_true rfl) (Nat.le_of_ble_eq_true rfl) (Nat.le_of_ble_eq_true rfl) (c_pl_strikeUnlike 557 p1 q28) ?_
            refine r_p dX11_mend_124 rfl rfl ?_
            refine r_get dX11_mend_125 fkX11_50 rfl rfl ?_
            refine r_p dX11_mend_128 rfl rfl ?_
            refine r_get dX11_mend_129 fkX11_30 rfl rfl ?_
            obtain ⟨q29, kk⟩ := kk
            refine r_get dX11_mend_132 fkX11_209 q29 rfl ?_
            obtain ⟨q30, kk⟩ := kk
            refine r_cv (d1 := 3) dX11_mend_135 cvX11_255 rfl rfl rfl rfl (Nat.le_of_ble_eq_true rfl) (Nat.le_of_ble_eq_true rfl) (Nat.le_of_ble_eq_true rfl) (c_pl_settle ((x_pl_strikeUnlike (x_pl_lay T3 (T3.2.1 0) 78 (T3.1 (T3.2.1 0) 17) p0) 557 p1).1 ((x_pl_strikeUnlike (x_pl_lay T3 (T3.2.1 0) 78 (T3.1 (T3.2.1 0) 17) p0) 557 p1).2.1 0) 17) q30) ?_
            refine r_eI (r' := (fun (T4 : St) => if ((x_pl_finds T4 (T4.1 (T4.2.1 0) 17) 0).1) = 0 then ((-1000000), (x_pl_finds T4 (T4.1 (T4.2.1 0) 17) 0).2) else (((x_pl_finds T4 (T4.1 (T4.2.1 0) 17) 0).2).1 80 17, (x_pl_finds T4 (T4.1 (T4.2.1 0) 17) 0).2)) (x_pl_settle (x_pl_strikeUnlike (x_pl_lay T3 (T3.2.1 0) 78 (T3.1 (T3.2.1 0) 17) p0) 557 p1) ((x_pl_strikeUnlike (x_pl_lay T3 (T3.2.1 0) 78 (T3.1 (T3.2.1 0) 17) p0) 557 p1).1 ((x_pl_strikeUnlike (x_pl_lay T3 (T3.2.1 0) 78 (T3.1 (T3.2.1 0) 17) p0) 557 p1).2.1 0) 17))) rfl ?_
            generalize x_pl_settle (x_pl_strikeUnlike (x_pl_lay T3 (T3.2.1 0) 78 (T3.1 (T3.2.1 0) 17) p0) 557 p1) ((x_pl_strikeUnlike (x_pl_lay T3 (T3.2.1 0) 78 (T3.1 (T3.2.1 0) 17) p0) 557 p1).1 ((x_pl_strikeUnlike (x_pl_lay T3 (T3.2.1 0) 78 (T3.1 (T3.2.1 0) 17) p0) 557 p1).2.1 0) 17) = T4 at kk ⊢
            try dsimp only at kk
            refine r_p dX11_mend_138 rfl rfl ?_
            refine r_get dX11_mend_139 fkX11_50 rfl rfl ?_
            refine r_p dX11_mend_142 rfl rfl ?_
            refine r_get dX11_mend_143 fkX11_30 rfl rfl ?_
            obtain ⟨q31, kk⟩ := kk
            refine r_get dX11_mend_146 fkX11_209 q31 rfl ?_
            refine r_ci (x := 0) dX11_mend_149 rfl ?_
            obtain ⟨q32, kk⟩ := kk
            refine r_cv (d1 := 10) dX11_mend_150 cvX11_259 rfl rfl rfl rfl (Nat.le_of_ble_eq_true rfl) (Nat.le_of_ble_eq_true rfl) (Nat.le_of_ble_eq_true rfl) (c_pl_finds (T4.1 (T4.2.1 0) 17) 0 q32) ?_
            refine r_ieq dX11_mend_153 rfl (fun c153_12 => ?_) (fun c153_12 => ?_)
            · refine r_k dX11_mend_166 kkX11_241 ?_
              exact r_eI (r' := ((-1000000), (x_pl_finds T4 (T4.1 (T4.2.1 0) 17) 0).2)) (by first | rw [if_pos c153_12] | (dsimp only; rw [if_pos c153_12])) (r_ri dX11_mend_168 rfl rfl rfl rfl)
            · refine r_p dX11_mend_156 rfl rfl ?_
              refine r_get dX11_mend_157 fkX11_50 rfl rfl ?_
              refine r_get dX11_mend_160 fkX11_317 rfl rfl ?_
              refine r_go dX11_mend_163 rfl ?_
              exact r_eI (r' := (((x_pl_finds T4 (T4.1 (T4.2.1 0) 17) 0).2).1 80 17, (x_pl_finds T4 (T4.1 (T4.2.1 0) 17) 0).2)) (by first | rw [if_neg c153_12] | (dsimp only; rw [if_neg c153_12])) (r_ri dX11_mend_168 rfl rfl rfl rfl)
          · refine r_k dX11_mend_65 kkX11_241 ?_
            exact r_eI (r' := ((-1000000), (x_x_findsPlan T p0).2)) (by first | rw [if_pos c25_8, if_neg c39_9, if_pos c51_10, if_pos c62_11] | (dsimp only; rw [if_pos c25_8, if_neg c39_9, if_pos c51_10, if_pos c62_11])) (r_ri dX11_mend_67 rfl rfl rfl rfl)
        · refine r_k dX11_mend_54 kkX11_193 ?_
          exact r_eI (r' := ((-1000002), T)) (by first | rw [if_pos c25_8, if_neg c39_9, if_neg c51_10] | (dsimp only; rw [if_pos c25_8, if_neg c39_9, if_neg c51_10])) (r_ri dX11_mend_56 rfl rfl rfl rfl)
    · refine r_p dX11_mend_28 rfl rfl ?_
      exact r_eI (r' := (x_x_refusal T 0, T)) (by first | rw [if_neg c25_8] | (dsimp only; rw [if_neg c25_8])) (r_ri dX11_mend_29 rfl rfl rfl rfl)
  refine r_eI (r' := jn (fun (KJ1 : Int32 × St) => if (x_x_isTime T p0) = 0 then (KJ1) else (if (x_x_isMinute T p1) = 0 then (KJ1) else (if (x_x_refusal T 1) = 0 then (if (T.2.2.1 ((T.2.1 0) + 1) (1 : Int32).toNatClampNeg) = 0 then ((-1000002), T) else (if 60 ≤ (T.1 (T.2.1 0) 18) then (if ((x_x_findsPlan T p0).1) = 0 then ((-1000000), (x_x_findsPlan T p0).2) else (fun (T5 : St) => (fun (T6 : St) => if ((x_pl_finds T6 (T6.1 (T6.2.1 0) 17) 0).1) = 0 then ((-1000000), (x_pl_finds T6 (T6.1 (T6.2.1 0) 17) 0).2) else (((x_pl_finds T6 (T6.1 (T6.2.1 0) 17) 0).2).1 80 17, (x_pl_finds T6 (T6.1 (T6.2.1 0) 17) 0).2)) (x_pl_settle (x_pl_strikeUnlike (x_pl_lay T5 (T5.2.1 0) 78 (T5.1 (T5.2.1 0) 17) p0) 557 p1) ((x_pl_strikeUnlike (x_pl_lay T5 (T5.2.1 0) 78 (T5.1 (T5.2.1 0) 17) p0) 557 p1).1 ((x_pl_strikeUnlike (x_pl_lay T5 (T5.2.1 0) 78 (T5.1 (T5.2.1 0) 17) p0) 557 p1).2.1 0) 17))) (x_ki_fit ((x_x_findsPlan T p0).2) 78 (((x_x_findsPlan T p0).2).2.1 0) (((x_x_findsPlan T p0).2).2.2.1 ((((x_x_findsPlan T p0).2).2.1 0) + 1) (5 : Int32).toNatClampNeg) p1)) else ((-1000002), T))) else (x_x_refusal T 1, T)))) KJ1) (by rw [hKJ1]; unfold x_x_mend; rfl) ?_
  refine r_ieq dX11_mend_5 rfl (fun c5_13 => ?_) (fun c5_13 => ?_)
  · have kk := kk.1 c5_13
    show tR _ _ _ _ [some (.ref 0), some (.int p0), some (.int p1), none] [.ref 0] _ _ _
    exact r_eI (r' := KJ1) (by simp only [jn]; rw [if_pos c5_13]) ((hJ1  kk))
  · have kk := kk.2 c5_13
    refine r_p dX11_mend_8 rfl rfl ?_
    refine r_cs (d1 := 1) dX11_mend_9 csX11_194 rfl rfl (Nat.le_of_ble_eq_true rfl) (Nat.le_of_ble_eq_true rfl) (Nat.le_of_ble_eq_true rfl) (c_x_isMinute p1) ?_
    refine r_ieq dX11_mend_12 rfl (fun c12_14 => ?_) (fun c12_14 => ?_)
    · have kk := kk.1 c12_14
      show tR _ _ _ _ [some (.ref 0), some (.int p0), some (.int p1), none] [.ref 0] _ _ _
      exact r_eI (r' := KJ1) (by simp only [jn]; rw [if_neg c5_13, if_pos c12_14]) ((hJ1  kk))
    · have kk := kk.2 c12_14
      refine r_ci (x := 1) dX11_mend_15 rfl ?_
      refine r_go dX11_mend_16 rfl ?_
      obtain ⟨q33, kk⟩ := kk
      refine r_cv (d1 := 2) dX11_mend_20 cvX11_221 rfl rfl rfl rfl (Nat.le_of_ble_eq_true rfl) (Nat.le_of_ble_eq_true rfl) (Nat.le_of_ble_eq_true rfl) (c_x_refusal 1 q33) ?_
      refine r_p dX11_mend_23 rfl rfl ?_
      refine r_p dX11_mend_24 rfl rfl ?_
      refine r_ieq dX11_mend_25 rfl (fun c25_15 => ?_) (fun c25_15 => ?_)
      · have kk := kk c25_15
        refine r_p dX11_mend_30 rfl rfl ?_
        refine r_get dX11_mend_31 fkX11_30 rfl rfl ?_
        obtain ⟨q34, kk⟩ := kk
        refine r_get dX11_mend_34 fkX11_212 q34 rfl ?_
        refine r_ci (x := 1) dX11_mend_37 rfl ?_
        obtain ⟨q35, kk⟩ := kk
        obtain ⟨q36, kk⟩ := kk
        refine r_ia dX11_mend_38 q35 q36 ?_
        refine r_ieq dX11_mend_39 rfl (fun c39_16 => ?_) (fun c39_16 => ?_)
        · refine r_k dX11_mend_54 kkX11_193 ?_
          exact r_eI (r' := ((-1000002), T)) (by simp only [jn]; rw [if_neg c5_13, if_neg c12_14, if_pos c25_15, if_pos c39_16]) (r_ri dX11_mend_56 rfl rfl rfl rfl)
        · have kk := kk c39_16
          refine r_p dX11_mend_42 rfl rfl ?_
          refine r_get dX11_mend_43 fkX11_30 rfl rfl ?_
          refine r_get dX11_mend_46 fkX11_215 q34 rfl ?_
          refine r_cb (x := 60) dX11_mend_49 rfl ?_
          refine r_cge dX11_mend_51 rfl (fun c51_17 => ?_) (fun c51_17 => ?_)
          · have kk := kk c51_17
            refine r_p dX11_mend_57 rfl rfl ?_
            refine r_p dX11_mend_58 rfl rfl ?_
            obtain ⟨q37, kk⟩ := kk
            refine r_cv (d1 := 11) dX11_mend_59 cvX11_238 rfl rfl rfl rfl (Nat.le_of_ble_eq_true rfl) (Nat.le_of_ble_eq_true rfl) (Nat.le_of_ble_eq_true rfl) (c_x_findsPlan p0 q37) ?_
            refine r_ine dX11_mend_62 rfl (fun c62_18 => ?_) (fun c62_18 => ?_)
            · have kk := kk c62_18
              refine r_p dX11_mend_68 rfl rfl ?_
              refine r_get dX11_mend_69 fkX11_44 rfl rfl ?_
              refine r_p dX11_mend_72 rfl rfl ?_
              refine r_get dX11_mend_73 fkX11_30 rfl rfl ?_
              refine r_p dX11_mend_76 rfl rfl ?_
              refine r_get dX11_mend_77 fkX11_30 rfl rfl ?_
              obtain ⟨q38, kk⟩ := kk
              refine r_get dX11_mend_80 fkX11_212 q38 rfl ?_
              refine r_ci (x := 5) dX11_mend_83 rfl ?_
              obtain ⟨q39, kk⟩ := kk
              obtain ⟨q40, kk⟩ := kk
              refine r_ia dX11_mend_84 q39 q40 ?_
              refine r_p dX11_mend_85 rfl rfl ?_
              obtain ⟨q41, kk⟩ := kk
              refine r_cv (d1 := 3) dX11_mend_86 cvX11_300 rfl rfl rfl rfl (Nat.le_of_ble_eq_true rfl) (Nat.le_of_ble_eq_true rfl) (Nat.le_of_ble_eq_true rfl) (c_ki_fit 78 (((x_x_findsPlan T p0).2).2.1 0) (((x_x_findsPlan T p0).2).2.2.1 ((((x_x_findsPlan T p0).2).2.1 0) + 1) (5 : Int32).toNatClampNeg) p1 q41) ?_
              refine r_eI (r' := (fun (T5 : St) => (fun (T6 : St) => if ((x_pl_finds T6 (T6.1 (T6.2.1 0) 17) 0).1) = 0 then ((-1000000), (x_pl_finds T6 (T6.1 (T6.2.1 0) 17) 0).2) else (((x_pl_finds T6 (T6.1 (T6.2.1 0) 17) 0).2).1 80 17, (x_pl_finds T6 (T6.1 (T6.2.1 0) 17) 0).2)) (x_pl_settle (x_pl_strikeUnlike (x_pl_lay T5 (T5.2.1 0) 78 (T5.1 (T5.2.1 0) 17) p0) 557 p1) ((x_pl_strikeUnlike (x_pl_lay T5 (T5.2.1 0) 78 (T5.1 (T5.2.1 0) 17) p0) 557 p1).1 ((x_pl_strikeUnlike (x_pl_lay T5 (T5.2.1 0) 78 (T5.1 (T5.2.1 0) 17) p0) 557 p1).2.1 0) 17))) (x_ki_fit ((x_x_findsPlan T p0).2) 78 (((x_x_findsPlan T p0).2).2.1 0) (((x_x_findsPlan T p0).2).2.2.1 ((((x_x_findsPlan T p0).2).2.1 0) + 1) (5 : Int32).toNatClampNeg) p1)) (by simp only [jn]; rw [if_neg c5_13, if_neg c12_14, if_pos c25_15, if_neg c39_16, if_pos c51_17, if_neg c62_18]) ?_
              generalize x_ki_fit ((x_x_findsPlan T p0).2) 78 (((x_x_findsPlan T p0).2).2.1 0) (((x_x_findsPlan T p0).2).2.2.1 ((((x_x_findsPlan T p0).2).2.1 0) + 1) (5 : Int32).toNatClampNeg) p1 = T5 at kk ⊢
              try dsimp only at kk
              refine r_p dX11_mend_89 rfl rfl ?_
              refine r_get dX11_mend_90 fkX11_50 rfl rfl ?_
              refine r_p dX11_mend_93 rfl rfl ?_
              refine r_get dX11_mend_94 fkX11_30 rfl rfl ?_
              refine r_p dX11_mend_97 rfl rfl ?_
              refine r_get dX11_mend_98 fkX11_44 rfl rfl ?_
              refine r_p dX11_mend_101 rfl rfl ?_
              refine r_get dX11_mend_102 fkX11_30 rfl rfl ?_
              obtain ⟨q42, kk⟩ := kk
              refine r_get dX11_mend_105 fkX11_209 q42 rfl ?_
              refine r_p dX11_mend_108 rfl rfl ?_
              obtain ⟨q43, kk⟩ := kk
              refine r_cv (d1 := 5) dX11_mend_109 cvX11_249 rfl rfl rfl rfl (Nat.le_of_ble_eq_true rfl) (Nat.le_of_ble_eq_true rfl) (Nat.le_of_ble_eq_true rfl) (c_pl_lay (T5.2.1 0) 78 (T5.1 (T5.2.1 0) 17) p0 q43) ?_
              refine r_p dX11_mend_112 rfl rfl ?_
              refine r_get dX11_mend_113 fkX11_50 rfl rfl ?_
              refine r_p dX11_mend_116 rfl rfl ?_
              refine r_get dX11_mend_117 fkX11_71 rfl rfl ?_
              refine r_p dX11_mend_120 rfl rfl ?_
              obtain ⟨q44, kk⟩ := kk
              refine r_cv (d1 := 1) dX11_mend_121 cvX11_313 rfl rfl rfl rfl (Nat.le_of_ble_eq_true rfl) (Nat.le_of_ble_eq_true rfl) (Nat.le_of_ble_eq_true rfl) (c_pl_strikeUnlike 557 p1 q44) ?_
              refine r_p dX11_mend_124 rfl rfl ?_
              refine r_get dX11_mend_125 fkX11_50 rfl rfl ?_
              refine r_p dX11_mend_128 rfl rfl ?_
              refine r_get dX11_mend_129 fkX11_30 rfl rfl ?_
              obtain ⟨q45, kk⟩ := kk
              refine r_get dX11_mend_132 fkX11_209 q45 rfl ?_
              obtain ⟨q46, kk⟩ := kk
              refine r_cv (d1 := 3) dX11_mend_135 cvX11_255 rfl rfl rfl rfl (Nat.le_of_ble_eq_true rfl) (Nat.le_of_ble_eq_true rfl) (Nat.le_of_ble_eq_true rfl) (c_pl_settle ((x_pl_strikeUnlike (x_pl_lay T5 (T5.2.1 0) 78 (T5.1 (T5.2.1 0) 17) p0) 557 p1).1 ((x_pl_strikeUnlike (x_pl_lay T5 (T5.2.1 0) 78 (T5.1 (T5.2.1 0) 17) p0) 557 p1).2.1 0) 17) q46) ?_
              refine r_eI (r' := (fun (T6 : St) => if ((x_pl_finds T6 (T6.1 (T6.2.1 0) 17) 0).1) = 0 then ((-1000000), (x_pl_finds T6 (T6.1 (T6.2.1 0) 17) 0).2) else (((x_pl_finds T6 (T6.1 (T6.2.1 0) 17) 0).2).1 80 17, (x_pl_finds T6 (T6.1 (T6.2.1 0) 17) 0).2)) (x_pl_settle (x_pl_strikeUnlike (x_pl_lay T5 (T5.2.1 0) 78 (T5.1 (T5.2.1 0) 17) p0) 557 p1) ((x_pl_strikeUnlike (x_pl_lay T5 (T5.2.1 0) 78 (T5.1 (T5.2.1 0) 17) p0) 557 p1).1 ((x_pl_strikeUnlike (x_pl_lay T5 (T5.2.1 0) 78 (T5.1 (T5.2.1 0) 17) p0) 557 p1).2.1 0) 17))) rfl ?_
              generalize x_pl_settle (x_pl_strikeUnlike (x_pl_lay T5 (T5.2.1 0) 78 (T5.1 (T5.2.1 0) 17) p0) 557 p1) ((x_pl_strikeUnlike (x_pl_lay T5 (T5.2.1 0) 78 (T5.1 (T5.2.1 0) 17) p0) 557 p1).1 ((x_pl_strikeUnlike (x_pl_lay T5 (T5.2.1 0) 78 (T5.1 (T5.2.1 0) 17) p0) 557 p1).2.1 0) 17) = T6 at kk ⊢
              try dsimp only at kk
              refine r_p dX11_mend_138 rfl rfl ?_
              refine r_get dX11_mend_139 fkX11_50 rfl rfl ?_
              refine r_p dX11_mend_142 rfl rfl ?_
              refine r_get dX11_mend_143 fkX11_30 rfl rfl ?_
              obtain ⟨q47, kk⟩ := kk
              refine r_get dX11_mend_146 fkX11_209 q47 rfl ?_
              refine r_ci (x := 0) dX11_mend_149 rfl ?_
              obtain ⟨q48, kk⟩ := kk
              refine r_cv (d1 := 10) dX11_mend_150 cvX11_259 rfl rfl rfl rfl (Nat.le_of_ble_eq_true rfl) (Nat.le_of_ble_eq_true rfl) (Nat.le_of_ble_eq_true rfl) (c_pl_finds (T6.1 (T6.2.1 0) 17) 0 q48) ?_
              refine r_ieq dX11_mend_153 rfl (fun c153_19 => ?_) (fun c153_19 => ?_)
              · refine r_k dX11_mend_166 kkX11_241 ?_
                exact r_eI (r' := ((-1000000), (x_pl_finds T6 (T6.1 (T6.2.1 0) 17) 0).2)) (by first | rw [if_pos c153_19] | (dsimp only; rw [if_pos c153_19])) (r_ri dX11_mend_168 rfl rfl rfl rfl)
              · refine r_p dX11_mend_156 rfl rfl ?_
                refine r_get dX11_mend_157 fkX11_50 rfl rfl ?_
                refine r_get dX11_mend_160 fkX11_317 rfl rfl ?_
                refine r_go dX11_mend_163 rfl ?_
                exact r_eI (r' := (((x_pl_finds T6 (T6.1 (T6.2.1 0) 17) 0).2).1 80 17, (x_pl_finds T6 (T6.1 (T6.2.1 0) 17) 0).2)) (by first | rw [if_neg c153_19] | (dsimp only; rw [if_neg c153_19])) (r_ri dX11_mend_168 rfl rfl rfl rfl)
            · refine r_k dX11_mend_65 kkX11_241 ?_
              exact r_eI (r' := ((-1000000), (x_x_findsPlan T p0).2)) (by simp only [jn]; rw [if_neg c5_13, if_neg c12_14, if_pos c25_15, if_neg c39_16, if_pos c51_17, if_pos c62_18]) (r_ri dX11_mend_67 rfl rfl rfl rfl)
          · refine r_k dX11_mend_54 kkX11_193 ?_
            exact r_eI (r' := ((-1000002), T)) (by simp only [jn]; rw [if_neg c5_13, if_neg c12_14, if_pos c25_15, if_neg c39_16, if_neg c51_17]) (r_ri dX11_mend_56 rfl rfl rfl rfl)
      · refine r_p dX11_mend_28 rfl rfl ?_
        exact r_eI (r' := (x_x_refusal T 1, T)) (by simp only [jn]; rw [if_neg c5_13, if_neg c12_14, if_neg c25_15]) (r_ri dX11_mend_29 rfl rfl rfl rfl)
def x_x_slack_63 (l1 : Int32) (l2 : Int32) (l3 : Int32) (K : Int32 → St → Int32 × St) : Nat → Int32 → St → Int32 × St
  | 0, _, T => (0, T)
  | f + 1, v4, T => if 60 ≤ v4 then (K v4 T) else (fun (T1 : St) => if ((x_jd_judged (sA T 569 (l2 : Int32).toNatClampNeg ((T.2.2.1 569 (l2 : Int32).toNatClampNeg) + 1)) ((sA T 569 (l2 : Int32).toNatClampNeg ((T.2.2.1 569 (l2 : Int32).toNatClampNeg) + 1)).2.1 0) 76 564 l1).1) = 0 then (x_x_slack_63 l1 l2 l3 K f (v4 + 1) T1) else (v4, T1)) ((x_jd_judged (sA T 569 (l2 : Int32).toNatClampNeg ((T.2.2.1 569 (l2 : Int32).toNatClampNeg) + 1)) ((sA T 569 (l2 : Int32).toNatClampNeg ((T.2.2.1 569 (l2 : Int32).toNatClampNeg) + 1)).2.1 0) 76 564 l1).2)
def ok_x_slack_63 (l1 : Int32) (l2 : Int32) (l3 : Int32) (Kk : Int32 → St → Prop) : Nat → Int32 → St → Prop
  | 0, _, _ => False
  | f + 1, v4, T => ((60 ≤ v4 → Kk v4 T) ∧ (¬ 60 ≤ v4 → (vp_in l2 12) ∧ (ok_jd_judged (sA T 569 (l2 : Int32).toNatClampNeg ((T.2.2.1 569 (l2 : Int32).toNatClampNeg) + 1)) ((sA T 569 (l2 : Int32).toNatClampNeg ((T.2.2.1 569 (l2 : Int32).toNatClampNeg) + 1)).2.1 0) 76 564 l1) ∧ (fun (T1 : St) => (((x_jd_judged (sA T 569 (l2 : Int32).toNatClampNeg ((T.2.2.1 569 (l2 : Int32).toNatClampNeg) + 1)) ((sA T 569 (l2 : Int32).toNatClampNeg ((T.2.2.1 569 (l2 : Int32).toNatClampNeg) + 1)).2.1 0) 76 564 l1).1) = 0 → ok_x_slack_63 l1 l2 l3 Kk f (v4 + 1) T1)) ((x_jd_judged (sA T 569 (l2 : Int32).toNatClampNeg ((T.2.2.1 569 (l2 : Int32).toNatClampNeg) + 1)) ((sA T 569 (l2 : Int32).toNatClampNeg ((T.2.2.1 569 (l2 : Int32).toNatClampNeg) + 1)).2.1 0) 76 564 l1).2)))
theorem c_x_slack_63 {X : Nat × (Nat → Int32)} (l1 : Int32) (l2 : Int32) (l3 : Int32) {K : Int32 → St → Int32 × St} {Kk : Int32 → St → Prop} (hk : ∀ (v4 : Int32) (T : St), Kk v4 T → tR X 11 mX11_slack 115 [some (.ref 0), some (.int l1), some (.int l2), some (.int l3), some (.int v4)] [] T (some (.int (K v4 T).1)) ((K v4 T).2)) : ∀ (f : Nat) (v4 : Int32) (T : St), ok_x_slack_63 l1 l2 l3 Kk f v4 T → tR X 11 mX11_slack 63 [some (.ref 0), some (.int l1), some (.int l2), some (.int l3), some (.int v4)] [] T (some (.int (x_x_slack_63 l1 l2 l3 K f v4 T).1)) ((x_x_slack_63 l1 l2 l3 K f v4 T).2) := by
  intro f
  induction f with
  | zero => intro v4 T kk; exact kk.elim
  | succ f ih =>
    intro v4 T kk
    rw [ok_x_slack_63] at kk
    refine r_p dX11_slack_63 rfl rfl ?_
    refine r_cb (x := 60) dX11_slack_65 rfl ?_
    refine r_cge dX11_slack_67 rfl (fun c67_6 => ?_) (fun c67_6 => ?_)
    · have kk := kk.1 c67_6
      show tR _ _ _ _ [some (.ref 0), some (.int l1), some (.int l2), some (.int l3), some (.int v4)] _ _ _ _
      exact r_eI (r' := K v4 T) (by rw [x_x_slack_63]; rw [if_pos c67_6]) ((hk v4 T kk))
    · have kk := kk.2 c67_6
      refine r_p dX11_slack_70 rfl rfl ?_
      refine r_get dX11_slack_71 fkX11_75 rfl rfl ?_
      refine r_get dX11_slack_74 fkX11_231 rfl rfl ?_
      refine r_p dX11_slack_77 rfl rfl ?_
      refine r_p dX11_slack_78 rfl rfl ?_
      obtain ⟨q4, kk⟩ := kk
      refine r_ia dX11_slack_79 rfl q4 ?_
      refine r_ci (x := 1) dX11_slack_80 rfl ?_
      refine r_p dX11_slack_81 rfl rfl ?_
      refine r_ias dX11_slack_82 rfl q4 ?_
      refine r_p dX11_slack_83 rfl rfl ?_
      refine r_get dX11_slack_84 fkX11_57 rfl rfl ?_
      refine r_p dX11_slack_87 rfl rfl ?_
      refine r_get dX11_slack_88 fkX11_30 rfl rfl ?_
      refine r_p dX11_slack_91 rfl rfl ?_
      refine r_get dX11_slack_92 fkX11_40 rfl rfl ?_
      refine r_p dX11_slack_95 rfl rfl ?_
      refine r_get dX11_slack_96 fkX11_75 rfl rfl ?_
      refine r_p dX11_slack_99 rfl rfl ?_
      obtain ⟨q5, kk⟩ := kk
      refine r_cv (d1 := 5) dX11_slack_100 cvX11_234 rfl rfl rfl rfl (Nat.le_of_ble_eq_true rfl) (Nat.le_of_ble_eq_true rfl) (Nat.le_of_ble_eq_true rfl) (c_jd_judged ((sA T 569 (l2 : Int32).toNatClampNeg ((T.2.2.1 569 (l2 : Int32).toNatClampNeg) + 1)).2.1 0) 76 564 l1 q5) ?_
      refine r_eI (r' := (fun (T1 : St) => if ((x_jd_judged (sA T 569 (l2 : Int32).toNatClampNeg ((T.2.2.1 569 (l2 : Int32).toNatClampNeg) + 1)) ((sA T 569 (l2 : Int32).toNatClampNeg ((T.2.2.1 569 (l2 : Int32).toNatClampNeg) + 1)).2.1 0) 76 564 l1).1) = 0 then (x_x_slack_63 l1 l2 l3 K f (v4 + 1) T1) else (v4, T1)) ((x_jd_judged (sA T 569 (l2 : Int32).toNatClampNeg ((T.2.2.1 569 (l2 : Int32).toNatClampNeg) + 1)) ((sA T 569 (l2 : Int32).toNatClampNeg ((T.2.2.1 569 (l2 : Int32).toNatClampNeg) + 1)).2.1 0) 76 564 l1).2)) (by rw [x_x_slack_63]; rw [if_neg c67_6]) ?_
      generalize (x_jd_judged (sA T 569 (l2 : Int32).toNatClampNeg ((T.2.2.1 569 (l2 : Int32).toNatClampNeg) + 1)) ((sA T 569 (l2 : Int32).toNatClampNeg ((T.2.2.1 569 (l2 : Int32).toNatClampNeg) + 1)).2.1 0) 76 564 l1).2 = T1 at kk ⊢
      try dsimp only at kk
      refine r_ieq dX11_slack_103 rfl (fun c103_7 => ?_) (fun c103_7 => ?_)
      · have kk := kk c103_7
        refine r_inc (y := 1) dX11_slack_109 rfl rfl rfl ?_
        refine r_go dX11_slack_112 rfl ?_
        show tR _ _ _ _ [some (.ref 0), some (.int l1), some (.int l2), some (.int l3), some (.int (v4 + 1))] _ _ _ _
        exact r_eI (r' := x_x_slack_63 l1 l2 l3 K f (v4 + 1) T1) (by first | rw [if_pos c103_7] | (dsimp only; rw [if_pos c103_7])) ((ih (v4 + 1) T1 kk))
      · refine r_p dX11_slack_106 rfl rfl ?_
        exact r_eI (r' := (v4, T1)) (by first | rw [if_neg c103_7] | (dsimp only; rw [if_neg c103_7])) (r_ri dX11_slack_108 rfl rfl rfl rfl)
def x_x_slack (T : St) (p0 : Int32) (p1 : Int32) : Int32 × St := jn (fun (KJ1 : Int32 × St) => if (x_x_isTime T p0) = 0 then (KJ1) else (if p1 < 0 then (KJ1) else (if (x_x_refusal T 1) = 0 then (if ((x_x_findsPlan T p0).1) = 0 then ((-1000000), (x_x_findsPlan T p0).2) else (if p1 < (((x_x_findsPlan T p0).2).1 557 1) then (x_x_slack_63 p0 p1 (x_x_refusal T 1) (fun (w3_4 : Int32) (T203 : St) => (60, T203)) 1000 0 (x_ro_take ((x_x_findsPlan T p0).2) 564 557)) else ((-1000000), (x_x_findsPlan T p0).2))) else (x_x_refusal T 1, T)))) (if (x_x_refusal T 0) = 0 then (if ((x_x_findsPlan T p0).1) = 0 then ((-1000000), (x_x_findsPlan T p0).2) else (if p1 < (((x_x_findsPlan T p0).2).1 557 1) then (x_x_slack_63 p0 p1 (x_x_refusal T 0) (fun (w2_4 : Int32) (T202 : St) => (60, T202)) 1000 0 (x_ro_take ((x_x_findsPlan T p0).2) 564 557)) else ((-1000000), (x_x_findsPlan T p0).2))) else (x_x_refusal T 0, T))
def ok_x_slack (T : St) (p0 : Int32) (p1 : Int32) : Prop := jn (fun (OJ1 : Prop) => (((x_x_isTime T p0) = 0 → OJ1) ∧ (¬ (x_x_isTime T p0) = 0 → ((p1 < 0 → OJ1) ∧ (¬ p1 < 0 → (ok_x_refusal T 1) ∧ ((x_x_refusal T 1) = 0 → (ok_x_findsPlan T p0) ∧ (¬ ((x_x_findsPlan T p0).1) = 0 → (p1 < (((x_x_findsPlan T p0).2).1 557 1) → (ok_ro_take ((x_x_findsPlan T p0).2) 564 557) ∧ ok_x_slack_63 p0 p1 (x_x_refusal T 1) (fun (w3_4 : Int32) (T203 : St) => True) 1000 0 (x_ro_take ((x_x_findsPlan T p0).2) 564 557))))))))) ((ok_x_refusal T 0) ∧ ((x_x_refusal T 0) = 0 → (ok_x_findsPlan T p0) ∧ (¬ ((x_x_findsPlan T p0).1) = 0 → (p1 < (((x_x_findsPlan T p0).2).1 557 1) → (ok_ro_take ((x_x_findsPlan T p0).2) 564 557) ∧ ok_x_slack_63 p0 p1 (x_x_refusal T 0) (fun (w2_4 : Int32) (T202 : St) => True) 1000 0 (x_ro_take ((x_x_findsPlan T p0).2) 564 557)))))
theorem c_x_slack {X : Nat × (Nat → Int32)} {T : St} (p0 : Int32) (p1 : Int32) (kk : ok_x_slack T p0 p1) : tC X 12 mX11_slack [.ref 0, .int p0, .int p1] T (some (.int (x_x_slack T p0 p1).1)) ((x_x_slack T p0 p1).2) := by
  unfold ok_x_slack at kk
  refine tC_of ?_
  refine r_p dX11_slack_0 rfl rfl ?_
  refine r_p dX11_slack_1 rfl rfl ?_
  refine r_cs (d1 := 1) dX11_slack_2 csX11_218 rfl rfl (Nat.le_of_ble_eq_true rfl) (Nat.le_of_ble_eq_true rfl) (Nat.le_of_ble_eq_true rfl) (c_x_isTime p0) ?_
  obtain ⟨KJ1, hKJ1⟩ : ∃ q : Int32 × St, q = (if (x_x_refusal T 0) = 0 then (if ((x_x_findsPlan T p0).1) = 0 then ((-1000000), (x_x_findsPlan T p0).2) else (if p1 < (((x_x_findsPlan T p0).2).1 557 1) then (x_x_slack_63 p0 p1 (x_x_refusal T 0) (fun (w2_4 : Int32) (T202 : St) => (60, T202)) 1000 0 (x_ro_take ((x_x_findsPlan T p0).2) 564 557)) else ((-1000000), (x_x_findsPlan T p0).2))) else (x_x_refusal T 0, T)) := ⟨_, rfl⟩
  obtain ⟨OJ1, hOJ1⟩ : ∃ q : Prop, q = ((ok_x_refusal T 0) ∧ ((x_x_refusal T 0) = 0 → (ok_x_findsPlan T p0) ∧ (¬ ((x_x_findsPlan T p0).1) = 0 → (p1 < (((x_x_findsPlan T p0).2).1 557 1) → (ok_ro_take ((x_x_findsPlan T p0).2) 564 557) ∧ ok_x_slack_63 p0 p1 (x_x_refusal T 0) (fun (w2_4 : Int32) (T202 : St) => True) 1000 0 (x_ro_take ((x_x_findsPlan T p0).2) 564 557))))) := ⟨_, rfl⟩
  rw [← hOJ1] at kk
  simp only [jn] at kk
  have hJ1 : OJ1 → tR X 11 mX11_slack 16 [some (.ref 0), some (.int p0), some (.int p1), none, none] [.ref 0] T (some (.int KJ1.1)) KJ1.2 := by
    intro  kk
    rw [hOJ1] at kk
    try dsimp only at kk
    rw [hKJ1]
    refine r_ci (x := 0) dX11_slack_16 rfl ?_
    obtain ⟨q6, kk⟩ := kk
    refine r_cv (d1 := 2) dX11_slack_17 cvX11_221 rfl rfl rfl rfl (Nat.le_of_ble_eq_true rfl) (Nat.le_of_ble_eq_true rfl) (Nat.le_of_ble_eq_true rfl) (c_x_refusal 0 q6) ?_
    refine r_p dX11_slack_20 rfl rfl ?_
    refine r_p dX11_slack_21 rfl rfl ?_
    refine r_ieq dX11_slack_22 rfl (fun c22_8 => ?_) (fun c22_8 => ?_)
    · have kk := kk c22_8
      refine r_p dX11_slack_27 rfl rfl ?_
      refine r_p dX11_slack_28 rfl rfl ?_
      obtain ⟨q7, kk⟩ := kk
      refine r_cv (d1 := 11) dX11_slack_29 cvX11_238 rfl rfl rfl rfl (Nat.le_of_ble_eq_true rfl) (Nat.le_of_ble_eq_true rfl) (Nat.le_of_ble_eq_true rfl) (c_x_findsPlan p0 q7) ?_
      refine r_ieq dX11_slack_32 rfl (fun c32_9 => ?_) (fun c32_9 => ?_)
      · refine r_k dX11_slack_46 kkX11_241 ?_
        exact r_eI (r' := ((-1000000), (x_x_findsPlan T p0).2)) (by first | rw [if_pos c22_8, if_pos c32_9] | (dsimp only; rw [if_pos c22_8, if_pos c32_9])) (r_ri dX11_slack_48 rfl rfl rfl rfl)
      · have kk := kk c32_9
        refine r_p dX11_slack_35 rfl rfl ?_
        refine r_p dX11_slack_36 rfl rfl ?_
        refine r_get dX11_slack_37 fkX11_71 rfl rfl ?_
        refine r_get dX11_slack_40 fkX11_228 rfl rfl ?_
        refine r_clt dX11_slack_43 rfl (fun c43_10 => ?_) (fun c43_10 => ?_)
        · have kk := kk c43_10
          refine r_p dX11_slack_49 rfl rfl ?_
          refine r_get dX11_slack_50 fkX11_75 rfl rfl ?_
          refine r_p dX11_slack_53 rfl rfl ?_
          refine r_get dX11_slack_54 fkX11_71 rfl rfl ?_
          obtain ⟨q8, kk⟩ := kk
          refine r_cv (d1 := 1) dX11_slack_57 cvX11_320 rfl rfl rfl rfl (Nat.le_of_ble_eq_true rfl) (Nat.le_of_ble_eq_true rfl) (Nat.le_of_ble_eq_true rfl) (c_ro_take 564 557 q8) ?_
          refine r_ci (x := 0) dX11_slack_60 rfl ?_
          refine r_p dX11_slack_61 rfl rfl ?_
          show tR _ _ _ _ [some (.ref 0), some (.int p0), some (.int p1), some (.int (x_x_refusal T 0)), some (.int 0)] _ _ _ _
          refine r_eI (r' := x_x_slack_63 p0 p1 (x_x_refusal T 0) (fun (w2_4 : Int32) (T202 : St) => (60, T202)) 1000 0 (x_ro_take ((x_x_findsPlan T p0).2) 564 557)) (by first | rw [if_pos c22_8, if_neg c32_9, if_pos c43_10] | (dsimp only; rw [if_pos c22_8, if_neg c32_9, if_pos c43_10])) ((c_x_slack_63 p0 p1 (x_x_refusal T 0) (fun w2_4 T202 kk => ?_) 1000 0 (x_ro_take ((x_x_findsPlan T p0).2) 564 557) kk))
          · refine r_cb (x := 60) dX11_slack_115 rfl ?_
            exact r_eI (r' := (60, T202)) rfl (r_ri dX11_slack_117 rfl rfl rfl rfl)
        · refine r_k dX11_slack_46 kkX11_241 ?_
          exact r_eI (r' := ((-1000000), (x_x_findsPlan T p0).2)) (by first | rw [if_pos c22_8, if_neg c32_9, if_neg c43_10] | (dsimp only; rw [if_pos c22_8, if_neg c32_9, if_neg c43_10])) (r_ri dX11_slack_48 rfl rfl rfl rfl)
    · refine r_p dX11_slack_25 rfl rfl ?_
      exact r_eI (r' := (x_x_refusal T 0, T)) (by first | rw [if_neg c22_8] | (dsimp only; rw [if_neg c22_8])) (r_ri dX11_slack_26 rfl rfl rfl rfl)
  refine r_eI (r' := jn (fun (KJ1 : Int32 × St) => if (x_x_isTime T p0) = 0 then (KJ1) else (if p1 < 0 then (KJ1) else (if (x_x_refusal T 1) = 0 then (if ((x_x_findsPlan T p0).1) = 0 then ((-1000000), (x_x_findsPlan T p0).2) else (if p1 < (((x_x_findsPlan T p0).2).1 557 1) then (x_x_slack_63 p0 p1 (x_x_refusal T 1) (fun (w3_4 : Int32) (T203 : St) => (60, T203)) 1000 0 (x_ro_take ((x_x_findsPlan T p0).2) 564 557)) else ((-1000000), (x_x_findsPlan T p0).2))) else (x_x_refusal T 1, T)))) KJ1) (by rw [hKJ1]; unfold x_x_slack; rfl) ?_
  refine r_ieq dX11_slack_5 rfl (fun c5_11 => ?_) (fun c5_11 => ?_)
  · have kk := kk.1 c5_11
    show tR _ _ _ _ [some (.ref 0), some (.int p0), some (.int p1), none, none] [.ref 0] _ _ _
    exact r_eI (r' := KJ1) (by simp only [jn]; rw [if_pos c5_11]) ((hJ1  kk))
  · have kk := kk.2 c5_11
    refine r_p dX11_slack_8 rfl rfl ?_
    refine r_ilt dX11_slack_9 rfl (fun c9_12 => ?_) (fun c9_12 => ?_)
    · have kk := kk.1 c9_12
      show tR _ _ _ _ [some (.ref 0), some (.int p0), some (.int p1), none, none] [.ref 0] _ _ _
      exact r_eI (r' := KJ1) (by simp only [jn]; rw [if_neg c5_11, if_pos c9_12]) ((hJ1  kk))
    · have kk := kk.2 c9_12
      refine r_ci (x := 1) dX11_slack_12 rfl ?_
      refine r_go dX11_slack_13 rfl ?_
      obtain ⟨q9, kk⟩ := kk
      refine r_cv (d1 := 2) dX11_slack_17 cvX11_221 rfl rfl rfl rfl (Nat.le_of_ble_eq_true rfl) (Nat.le_of_ble_eq_true rfl) (Nat.le_of_ble_eq_true rfl) (c_x_refusal 1 q9) ?_
      refine r_p dX11_slack_20 rfl rfl ?_
      refine r_p dX11_slack_21 rfl rfl ?_
      refine r_ieq dX11_slack_22 rfl (fun c22_13 => ?_) (fun c22_13 => ?_)
      · have kk := kk c22_13
        refine r_p dX11_slack_27 rfl rfl ?_
        refine r_p dX11_slack_28 rfl rfl ?_
        obtain ⟨q10, kk⟩ := kk
        refine r_cv (d1 := 11) dX11_slack_29 cvX11_238 rfl rfl rfl rfl (Nat.le_of_ble_eq_true rfl) (Nat.le_of_ble_eq_true rfl) (Nat.le_of_ble_eq_true rfl) (c_x_findsPlan p0 q10) ?_
        refine r_ieq dX11_slack_32 rfl (fun c32_14 => ?_) (fun c32_14 => ?_)
        · refine r_k dX11_slack_46 kkX11_241 ?_
          exact r_eI (r' := ((-1000000), (x_x_findsPlan T p0).2)) (by simp only [jn]; rw [if_neg c5_11, if_neg c9_12, if_pos c22_13, if_pos c32_14]) (r_ri dX11_slack_48 rfl rfl rfl rfl)
        · have kk := kk c32_14
          refine r_p dX11_slack_35 rfl rfl ?_
          refine r_p dX11_slack_36 rfl rfl ?_
          refine r_get dX11_slack_37 fkX11_71 rfl rfl ?_
          refine r_get dX11_slack_40 fkX11_228 rfl rfl ?_
          refine r_clt dX11_slack_43 rfl (fun c43_15 => ?_) (fun c43_15 => ?_)
          · have kk := kk c43_15
            refine r_p dX11_slack_49 rfl rfl ?_
            refine r_get dX11_slack_50 fkX11_75 rfl rfl ?_
            refine r_p dX11_slack_53 rfl rfl ?_
            refine r_get dX11_slack_54 fkX11_71 rfl rfl ?_
            obtain ⟨q11, kk⟩ := kk
            refine r_cv (d1 := 1) dX11_slack_57 cvX11_320 rfl rfl rfl rfl (Nat.le_of_ble_eq_true rfl) (Nat.le_of_ble_eq_true rfl) (Nat.le_of_ble_eq_true rfl) (c_ro_take 564 557 q11) ?_
            refine r_ci (x := 0) dX11_slack_60 rfl ?_
            refine r_p dX11_slack_61 rfl rfl ?_
            show tR _ _ _ _ [some (.ref 0), some (.int p0), some (.int p1), some (.int (x_x_refusal T 1)), some (.int 0)] _ _ _ _
            refine r_eI (r' := x_x_slack_63 p0 p1 (x_x_refusal T 1) (fun (w3_4 : Int32) (T203 : St) => (60, T203)) 1000 0 (x_ro_take ((x_x_findsPlan T p0).2) 564 557)) (by simp only [jn]; rw [if_neg c5_11, if_neg c9_12, if_pos c22_13, if_neg c32_14, if_pos c43_15]) ((c_x_slack_63 p0 p1 (x_x_refusal T 1) (fun w3_4 T203 kk => ?_) 1000 0 (x_ro_take ((x_x_findsPlan T p0).2) 564 557) kk))
            · refine r_cb (x := 60) dX11_slack_115 rfl ?_
              exact r_eI (r' := (60, T203)) rfl (r_ri dX11_slack_117 rfl rfl rfl rfl)
          · refine r_k dX11_slack_46 kkX11_241 ?_
            exact r_eI (r' := ((-1000000), (x_x_findsPlan T p0).2)) (by simp only [jn]; rw [if_neg c5_11, if_neg c9_12, if_pos c22_13, if_neg c32_14, if_neg c43_15]) (r_ri dX11_slack_48 rfl rfl rfl rfl)
      · refine r_p dX11_slack_25 rfl rfl ?_
        exact r_eI (r' := (x_x_refusal T 1, T)) (by simp only [jn]; rw [if_neg c5_11, if_neg c9_12, if_neg c22_13]) (r_ri dX11_slack_26 rfl rfl rfl rfl)
