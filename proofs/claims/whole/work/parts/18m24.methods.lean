def x_x_seven (T : St) (p0 : Int32) : Int32 × St := if (x_x_refusal T (x_x_isTime T p0)) = 0 then (fun (T1 : St) => if ((x_pl_finds T1 (T1.1 (T1.2.1 0) 17) 1).1) = 0 then (0, (x_pl_finds T1 (T1.1 (T1.2.1 0) 17) 1).2) else (1, (x_pl_finds T1 (T1.1 (T1.2.1 0) 17) 1).2)) (x_pl_settle (x_pl_strikeEarly (x_pl_lay T (T.2.1 0) 76 (T.1 (T.2.1 0) 17) p0)) ((x_pl_strikeEarly (x_pl_lay T (T.2.1 0) 76 (T.1 (T.2.1 0) 17) p0)).1 ((x_pl_strikeEarly (x_pl_lay T (T.2.1 0) 76 (T.1 (T.2.1 0) 17) p0)).2.1 0) 17)) else (x_x_refusal T (x_x_isTime T p0), T)
def ok_x_seven (T : St) (p0 : Int32) : Prop := (ok_x_refusal T (x_x_isTime T p0)) ∧ ((x_x_refusal T (x_x_isTime T p0)) = 0 → (sh (T.2.1 0) = .inr 1) ∧ (ok_pl_lay T (T.2.1 0) 76 (T.1 (T.2.1 0) 17) p0) ∧ (ok_pl_strikeEarly (x_pl_lay T (T.2.1 0) 76 (T.1 (T.2.1 0) 17) p0)) ∧ (sh ((x_pl_strikeEarly (x_pl_lay T (T.2.1 0) 76 (T.1 (T.2.1 0) 17) p0)).2.1 0) = .inr 1) ∧ (ok_pl_settle (x_pl_strikeEarly (x_pl_lay T (T.2.1 0) 76 (T.1 (T.2.1 0) 17) p0)) ((x_pl_strikeEarly (x_pl_lay T (T.2.1 0) 76 (T.1 (T.2.1 0) 17) p0)).1 ((x_pl_strikeEarly (x_pl_lay T (T.2.1 0) 76 (T.1 (T.2.1 0) 17) p0)).2.1 0) 17)) ∧ (fun (T1 : St) => (sh (T1.2.1 0) = .inr 1) ∧ (ok_pl_finds T1 (T1.1 (T1.2.1 0) 17) 1) ∧ True) (x_pl_settle (x_pl_strikeEarly (x_pl_lay T (T.2.1 0) 76 (T.1 (T.2.1 0) 17) p0)) ((x_pl_strikeEarly (x_pl_lay T (T.2.1 0) 76 (T.1 (T.2.1 0) 17) p0)).1 ((x_pl_strikeEarly (x_pl_lay T (T.2.1 0) 76 (T.1 (T.2.1 0) 17) p0)).2.1 0) 17)))
theorem c_x_seven {X : Nat × (Nat → Int32)} {T : St} (p0 : Int32) (kk : ok_x_seven T p0) : tC X 11 mX11_seven [.ref 0, .int p0] T (some (.int (x_x_seven T p0).1)) ((x_x_seven T p0).2) := by
  unfold ok_x_seven at kk
  refine tC_of ?_
  refine r_p dX11_seven_0 rfl rfl ?_
  refine r_p dX11_seven_1 rfl rfl ?_
  refine r_cs (d1 := 1) dX11_seven_2 csX11_218 rfl rfl (Nat.le_of_ble_eq_true rfl) (Nat.le_of_ble_eq_true rfl) (Nat.le_of_ble_eq_true rfl) (c_x_isTime p0) ?_
  obtain ⟨q1, kk⟩ := kk
  refine r_cv (d1 := 2) dX11_seven_5 cvX11_221 rfl rfl rfl rfl (Nat.le_of_ble_eq_true rfl) (Nat.le_of_ble_eq_true rfl) (Nat.le_of_ble_eq_true rfl) (c_x_refusal (x_x_isTime T p0) q1) ?_
  refine r_p dX11_seven_8 rfl rfl ?_
  refine r_p dX11_seven_9 rfl rfl ?_
  refine r_ieq dX11_seven_10 rfl (fun c10_1 => ?_) (fun c10_1 => ?_)
  · have kk := kk c10_1
    refine r_p dX11_seven_15 rfl rfl ?_
    refine r_get dX11_seven_16 fkX11_50 rfl rfl ?_
    refine r_p dX11_seven_19 rfl rfl ?_
    refine r_get dX11_seven_20 fkX11_30 rfl rfl ?_
    refine r_p dX11_seven_23 rfl rfl ?_
    refine r_get dX11_seven_24 fkX11_40 rfl rfl ?_
    refine r_p dX11_seven_27 rfl rfl ?_
    refine r_get dX11_seven_28 fkX11_30 rfl rfl ?_
    obtain ⟨q2, kk⟩ := kk
    refine r_get dX11_seven_31 fkX11_209 q2 rfl ?_
    refine r_p dX11_seven_34 rfl rfl ?_
    obtain ⟨q3, kk⟩ := kk
    refine r_cv (d1 := 5) dX11_seven_35 cvX11_249 rfl rfl rfl rfl (Nat.le_of_ble_eq_true rfl) (Nat.le_of_ble_eq_true rfl) (Nat.le_of_ble_eq_true rfl) (c_pl_lay (T.2.1 0) 76 (T.1 (T.2.1 0) 17) p0 q3) ?_
    refine r_p dX11_seven_38 rfl rfl ?_
    refine r_get dX11_seven_39 fkX11_50 rfl rfl ?_
    obtain ⟨q4, kk⟩ := kk
    refine r_cv (d1 := 1) dX11_seven_42 cvX11_252 rfl rfl rfl rfl (Nat.le_of_ble_eq_true rfl) (Nat.le_of_ble_eq_true rfl) (Nat.le_of_ble_eq_true rfl) (c_pl_strikeEarly  q4) ?_
    refine r_p dX11_seven_45 rfl rfl ?_
    refine r_get dX11_seven_46 fkX11_50 rfl rfl ?_
    refine r_p dX11_seven_49 rfl rfl ?_
    refine r_get dX11_seven_50 fkX11_30 rfl rfl ?_
    obtain ⟨q5, kk⟩ := kk
    refine r_get dX11_seven_53 fkX11_209 q5 rfl ?_
    obtain ⟨q6, kk⟩ := kk
    refine r_cv (d1 := 3) dX11_seven_56 cvX11_255 rfl rfl rfl rfl (Nat.le_of_ble_eq_true rfl) (Nat.le_of_ble_eq_true rfl) (Nat.le_of_ble_eq_true rfl) (c_pl_settle ((x_pl_strikeEarly (x_pl_lay T (T.2.1 0) 76 (T.1 (T.2.1 0) 17) p0)).1 ((x_pl_strikeEarly (x_pl_lay T (T.2.1 0) 76 (T.1 (T.2.1 0) 17) p0)).2.1 0) 17) q6) ?_
    refine r_eI (r' := (fun (T1 : St) => if ((x_pl_finds T1 (T1.1 (T1.2.1 0) 17) 1).1) = 0 then (0, (x_pl_finds T1 (T1.1 (T1.2.1 0) 17) 1).2) else (1, (x_pl_finds T1 (T1.1 (T1.2.1 0) 17) 1).2)) (x_pl_settle (x_pl_strikeEarly (x_pl_lay T (T.2.1 0) 76 (T.1 (T.2.1 0) 17) p0)) ((x_pl_strikeEarly (x_pl_lay T (T.2.1 0) 76 (T.1 (T.2.1 0) 17) p0)).1 ((x_pl_strikeEarly (x_pl_lay T (T.2.1 0) 76 (T.1 (T.2.1 0) 17) p0)).2.1 0) 17))) (by unfold x_x_seven; rw [if_pos c10_1]) ?_
    generalize x_pl_settle (x_pl_strikeEarly (x_pl_lay T (T.2.1 0) 76 (T.1 (T.2.1 0) 17) p0)) ((x_pl_strikeEarly (x_pl_lay T (T.2.1 0) 76 (T.1 (T.2.1 0) 17) p0)).1 ((x_pl_strikeEarly (x_pl_lay T (T.2.1 0) 76 (T.1 (T.2.1 0) 17) p0)).2.1 0) 17) = T1 at kk ⊢
    try dsimp only at kk
    refine r_p dX11_seven_59 rfl rfl ?_
    refine r_get dX11_seven_60 fkX11_50 rfl rfl ?_
    refine r_p dX11_seven_63 rfl rfl ?_
    refine r_get dX11_seven_64 fkX11_30 rfl rfl ?_
    obtain ⟨q7, kk⟩ := kk
    refine r_get dX11_seven_67 fkX11_209 q7 rfl ?_
    refine r_ci (x := 1) dX11_seven_70 rfl ?_
    obtain ⟨q8, kk⟩ := kk
    refine r_cv (d1 := 10) dX11_seven_71 cvX11_259 rfl rfl rfl rfl (Nat.le_of_ble_eq_true rfl) (Nat.le_of_ble_eq_true rfl) (Nat.le_of_ble_eq_true rfl) (c_pl_finds (T1.1 (T1.2.1 0) 17) 1 q8) ?_
    refine r_ieq dX11_seven_74 rfl (fun c74_2 => ?_) (fun c74_2 => ?_)
    · refine r_ci (x := 0) dX11_seven_81 rfl ?_
      exact r_eI (r' := (0, (x_pl_finds T1 (T1.1 (T1.2.1 0) 17) 1).2)) (by first | rw [if_pos c74_2] | (dsimp only; rw [if_pos c74_2])) (r_ri dX11_seven_82 rfl rfl rfl rfl)
    · refine r_ci (x := 1) dX11_seven_77 rfl ?_
      refine r_go dX11_seven_78 rfl ?_
      exact r_eI (r' := (1, (x_pl_finds T1 (T1.1 (T1.2.1 0) 17) 1).2)) (by first | rw [if_neg c74_2] | (dsimp only; rw [if_neg c74_2])) (r_ri dX11_seven_82 rfl rfl rfl rfl)
  · refine r_p dX11_seven_13 rfl rfl ?_
    exact r_eI (r' := (x_x_refusal T (x_x_isTime T p0), T)) (by unfold x_x_seven; rw [if_neg c10_1]) (r_ri dX11_seven_14 rfl rfl rfl rfl)
def x_x_dinners (T : St) (p0 : Int32) (p1 : Int32) (p2 : Int32) : Int32 × St := jn (fun (KJ1 : Int32 × St) => if p0 < 1 then (KJ1) else (if 3 < p0 then (KJ1) else (if (x_x_isTime T p1) = 0 then (KJ1) else (if p2 < 0 then (KJ1) else (if 1 < p2 then (KJ1) else (if (x_x_refusal T 1) = 0 then (jn (fun (KJ3 : St → Int32 × St) => if (T.1 0 16) = ((p0 * 61) + p1) then (KJ3 T) else (fun (T9 : St) => (fun (T10 : St) => KJ3 T10) (sF (x_pl_countDinners (x_pl_settle T9 (x_bk_allDishes T9 (T9.2.1 0)))) 0 16 ((p0 * 61) + p1))) (x_pl_lay (x_ki_fit T 78 (T.2.1 0) p0 (T.1 (T.2.1 0) 18)) ((x_ki_fit T 78 (T.2.1 0) p0 (T.1 (T.2.1 0) 18)).2.1 0) 78 (x_bk_allDishes (x_ki_fit T 78 (T.2.1 0) p0 (T.1 (T.2.1 0) 18)) ((x_ki_fit T 78 (T.2.1 0) p0 (T.1 (T.2.1 0) 18)).2.1 0)) p1)) (fun (T303 : St) => if p2 = 0 then (T303.1 80 18, T303) else (T303.1 80 19, T303))) else (x_x_refusal T 1, T))))))) (if (x_x_refusal T 0) = 0 then (jn (fun (KJ2 : St → Int32 × St) => if (T.1 0 16) = ((p0 * 61) + p1) then (KJ2 T) else (fun (T5 : St) => (fun (T6 : St) => KJ2 T6) (sF (x_pl_countDinners (x_pl_settle T5 (x_bk_allDishes T5 (T5.2.1 0)))) 0 16 ((p0 * 61) + p1))) (x_pl_lay (x_ki_fit T 78 (T.2.1 0) p0 (T.1 (T.2.1 0) 18)) ((x_ki_fit T 78 (T.2.1 0) p0 (T.1 (T.2.1 0) 18)).2.1 0) 78 (x_bk_allDishes (x_ki_fit T 78 (T.2.1 0) p0 (T.1 (T.2.1 0) 18)) ((x_ki_fit T 78 (T.2.1 0) p0 (T.1 (T.2.1 0) 18)).2.1 0)) p1)) (fun (T302 : St) => if p2 = 0 then (T302.1 80 18, T302) else (T302.1 80 19, T302))) else (x_x_refusal T 0, T))
def ok_x_dinners (T : St) (p0 : Int32) (p1 : Int32) (p2 : Int32) : Prop := jn (fun (OJ1 : Prop) => ((p0 < 1 → OJ1) ∧ (¬ p0 < 1 → ((3 < p0 → OJ1) ∧ (¬ 3 < p0 → (((x_x_isTime T p1) = 0 → OJ1) ∧ (¬ (x_x_isTime T p1) = 0 → ((p2 < 0 → OJ1) ∧ (¬ p2 < 0 → ((1 < p2 → OJ1) ∧ (¬ 1 < p2 → (ok_x_refusal T 1) ∧ ((x_x_refusal T 1) = 0 → (¬ (T.1 0 16) = ((p0 * 61) + p1) → (sh (T.2.1 0) = .inr 1) ∧ (ok_ki_fit T 78 (T.2.1 0) p0 (T.1 (T.2.1 0) 18)) ∧ (ok_bk_allDishes (x_ki_fit T 78 (T.2.1 0) p0 (T.1 (T.2.1 0) 18)) ((x_ki_fit T 78 (T.2.1 0) p0 (T.1 (T.2.1 0) 18)).2.1 0)) ∧ (sh ((x_ki_fit T 78 (T.2.1 0) p0 (T.1 (T.2.1 0) 18)).2.1 0) = .inr 1) ∧ (ok_pl_lay (x_ki_fit T 78 (T.2.1 0) p0 (T.1 (T.2.1 0) 18)) ((x_ki_fit T 78 (T.2.1 0) p0 (T.1 (T.2.1 0) 18)).2.1 0) 78 (x_bk_allDishes (x_ki_fit T 78 (T.2.1 0) p0 (T.1 (T.2.1 0) 18)) ((x_ki_fit T 78 (T.2.1 0) p0 (T.1 (T.2.1 0) 18)).2.1 0)) p1) ∧ (fun (T9 : St) => (ok_bk_allDishes T9 (T9.2.1 0)) ∧ (sh (T9.2.1 0) = .inr 1) ∧ (ok_pl_settle T9 (x_bk_allDishes T9 (T9.2.1 0))) ∧ (ok_pl_countDinners (x_pl_settle T9 (x_bk_allDishes T9 (T9.2.1 0)))) ∧ True) (x_pl_lay (x_ki_fit T 78 (T.2.1 0) p0 (T.1 (T.2.1 0) 18)) ((x_ki_fit T 78 (T.2.1 0) p0 (T.1 (T.2.1 0) 18)).2.1 0) 78 (x_bk_allDishes (x_ki_fit T 78 (T.2.1 0) p0 (T.1 (T.2.1 0) 18)) ((x_ki_fit T 78 (T.2.1 0) p0 (T.1 (T.2.1 0) 18)).2.1 0)) p1)))))))))))))) ((ok_x_refusal T 0) ∧ ((x_x_refusal T 0) = 0 → (¬ (T.1 0 16) = ((p0 * 61) + p1) → (sh (T.2.1 0) = .inr 1) ∧ (ok_ki_fit T 78 (T.2.1 0) p0 (T.1 (T.2.1 0) 18)) ∧ (ok_bk_allDishes (x_ki_fit T 78 (T.2.1 0) p0 (T.1 (T.2.1 0) 18)) ((x_ki_fit T 78 (T.2.1 0) p0 (T.1 (T.2.1 0) 18)).2.1 0)) ∧ (sh ((x_ki_fit T 78 (T.2.1 0) p0 (T.1 (T.2.1 0) 18)).2.1 0) = .inr 1) ∧ (ok_pl_lay (x_ki_fit T 78 (T.2.1 0) p0 (T.1 (T.2.1 0) 18)) ((x_ki_fit T 78 (T.2.1 0) p0 (T.1 (T.2.1 0) 18)).2.1 0) 78 (x_bk_allDishes (x_ki_fit T 78 (T.2.1 0) p0 (T.1 (T.2.1 0) 18)) ((x_ki_fit T 78 (T.2.1 0) p0 (T.1 (T.2.1 0) 18)).2.1 0)) p1) ∧ (fun (T5 : St) => (ok_bk_allDishes T5 (T5.2.1 0)) ∧ (sh (T5.2.1 0) = .inr 1) ∧ (ok_pl_settle T5 (x_bk_allDishes T5 (T5.2.1 0))) ∧ (ok_pl_countDinners (x_pl_settle T5 (x_bk_allDishes T5 (T5.2.1 0)))) ∧ True) (x_pl_lay (x_ki_fit T 78 (T.2.1 0) p0 (T.1 (T.2.1 0) 18)) ((x_ki_fit T 78 (T.2.1 0) p0 (T.1 (T.2.1 0) 18)).2.1 0) 78 (x_bk_allDishes (x_ki_fit T 78 (T.2.1 0) p0 (T.1 (T.2.1 0) 18)) ((x_ki_fit T 78 (T.2.1 0) p0 (T.1 (T.2.1 0) 18)).2.1 0)) p1))))
theorem c_x_dinners {X : Nat × (Nat → Int32)} {T : St} (p0 : Int32) (p1 : Int32) (p2 : Int32) (kk : ok_x_dinners T p0 p1 p2) : tC X 12 mX11_dinners [.ref 0, .int p0, .int p1, .int p2] T (some (.int (x_x_dinners T p0 p1 p2).1)) ((x_x_dinners T p0 p1 p2).2) := by
  unfold ok_x_dinners at kk
  refine tC_of ?_
  refine r_p dX11_dinners_0 rfl rfl ?_
  refine r_p dX11_dinners_1 rfl rfl ?_
  refine r_ci (x := 1) dX11_dinners_2 rfl ?_
  obtain ⟨KJ1, hKJ1⟩ : ∃ q : Int32 × St, q = (if (x_x_refusal T 0) = 0 then (jn (fun (KJ2 : St → Int32 × St) => if (T.1 0 16) = ((p0 * 61) + p1) then (KJ2 T) else (fun (T5 : St) => (fun (T6 : St) => KJ2 T6) (sF (x_pl_countDinners (x_pl_settle T5 (x_bk_allDishes T5 (T5.2.1 0)))) 0 16 ((p0 * 61) + p1))) (x_pl_lay (x_ki_fit T 78 (T.2.1 0) p0 (T.1 (T.2.1 0) 18)) ((x_ki_fit T 78 (T.2.1 0) p0 (T.1 (T.2.1 0) 18)).2.1 0) 78 (x_bk_allDishes (x_ki_fit T 78 (T.2.1 0) p0 (T.1 (T.2.1 0) 18)) ((x_ki_fit T 78 (T.2.1 0) p0 (T.1 (T.2.1 0) 18)).2.1 0)) p1)) (fun (T302 : St) => if p2 = 0 then (T302.1 80 18, T302) else (T302.1 80 19, T302))) else (x_x_refusal T 0, T)) := ⟨_, rfl⟩
  obtain ⟨OJ1, hOJ1⟩ : ∃ q : Prop, q = ((ok_x_refusal T 0) ∧ ((x_x_refusal T 0) = 0 → (¬ (T.1 0 16) = ((p0 * 61) + p1) → (sh (T.2.1 0) = .inr 1) ∧ (ok_ki_fit T 78 (T.2.1 0) p0 (T.1 (T.2.1 0) 18)) ∧ (ok_bk_allDishes (x_ki_fit T 78 (T.2.1 0) p0 (T.1 (T.2.1 0) 18)) ((x_ki_fit T 78 (T.2.1 0) p0 (T.1 (T.2.1 0) 18)).2.1 0)) ∧ (sh ((x_ki_fit T 78 (T.2.1 0) p0 (T.1 (T.2.1 0) 18)).2.1 0) = .inr 1) ∧ (ok_pl_lay (x_ki_fit T 78 (T.2.1 0) p0 (T.1 (T.2.1 0) 18)) ((x_ki_fit T 78 (T.2.1 0) p0 (T.1 (T.2.1 0) 18)).2.1 0) 78 (x_bk_allDishes (x_ki_fit T 78 (T.2.1 0) p0 (T.1 (T.2.1 0) 18)) ((x_ki_fit T 78 (T.2.1 0) p0 (T.1 (T.2.1 0) 18)).2.1 0)) p1) ∧ (fun (T5 : St) => (ok_bk_allDishes T5 (T5.2.1 0)) ∧ (sh (T5.2.1 0) = .inr 1) ∧ (ok_pl_settle T5 (x_bk_allDishes T5 (T5.2.1 0))) ∧ (ok_pl_countDinners (x_pl_settle T5 (x_bk_allDishes T5 (T5.2.1 0)))) ∧ True) (x_pl_lay (x_ki_fit T 78 (T.2.1 0) p0 (T.1 (T.2.1 0) 18)) ((x_ki_fit T 78 (T.2.1 0) p0 (T.1 (T.2.1 0) 18)).2.1 0) 78 (x_bk_allDishes (x_ki_fit T 78 (T.2.1 0) p0 (T.1 (T.2.1 0) 18)) ((x_ki_fit T 78 (T.2.1 0) p0 (T.1 (T.2.1 0) 18)).2.1 0)) p1)))) := ⟨_, rfl⟩
  rw [← hOJ1] at kk
  simp only [jn] at kk
  have hJ1 : OJ1 → tR X 11 mX11_dinners 31 [some (.ref 0), some (.int p0), some (.int p1), some (.int p2), none, none] [.ref 0] T (some (.int KJ1.1)) KJ1.2 := by
    intro  kk
    rw [hOJ1] at kk
    try dsimp only at kk
    rw [hKJ1]
    refine r_ci (x := 0) dX11_dinners_31 rfl ?_
    obtain ⟨q11, kk⟩ := kk
    refine r_cv (d1 := 2) dX11_dinners_32 cvX11_221 rfl rfl rfl rfl (Nat.le_of_ble_eq_true rfl) (Nat.le_of_ble_eq_true rfl) (Nat.le_of_ble_eq_true rfl) (c_x_refusal 0 q11) ?_
    refine r_p dX11_dinners_35 rfl rfl ?_
    refine r_p dX11_dinners_37 rfl rfl ?_
    refine r_ieq dX11_dinners_39 rfl (fun c39_10 => ?_) (fun c39_10 => ?_)
    · have kk := kk c39_10
      refine r_p dX11_dinners_45 rfl rfl ?_
      refine r_cb (x := 61) dX11_dinners_46 rfl ?_
      refine r_p dX11_dinners_48 rfl rfl ?_
      refine r_p dX11_dinners_49 rfl rfl ?_
      refine r_p dX11_dinners_50 rfl rfl ?_
      refine r_p dX11_dinners_51 rfl rfl ?_
      refine r_p dX11_dinners_53 rfl rfl ?_
      refine r_get dX11_dinners_54 fkX11_297 rfl rfl ?_
      refine r_p dX11_dinners_57 rfl rfl ?_
      obtain ⟨KJ2, hKJ2⟩ : ∃ q : St → Int32 × St, q = (fun (T302 : St) => if p2 = 0 then (T302.1 80 18, T302) else (T302.1 80 19, T302)) := ⟨_, rfl⟩
      have hJ2 : ∀ (T302 : St), tR X 11 mX11_dinners 131 [some (.ref 0), some (.int p0), some (.int p1), some (.int p2), some (.int (x_x_refusal T 0)), some (.int ((p0 * 61) + p1))] [] T302 (some (.int (KJ2 T302).1)) ((KJ2 T302).2) := by
        intro T302
        rw [hKJ2]
        refine r_p dX11_dinners_131 rfl rfl ?_
        refine r_ine dX11_dinners_132 rfl (fun c132_12 => ?_) (fun c132_12 => ?_)
        · refine r_p dX11_dinners_145 rfl rfl ?_
          refine r_get dX11_dinners_146 fkX11_50 rfl rfl ?_
          refine r_get dX11_dinners_149 fkX11_310 rfl rfl ?_
          exact r_eI (r' := (T302.1 80 19, T302)) (by first | rw [if_neg c132_12] | (dsimp only; rw [if_neg c132_12])) (r_ri dX11_dinners_152 rfl rfl rfl rfl)
        · refine r_p dX11_dinners_135 rfl rfl ?_
          refine r_get dX11_dinners_136 fkX11_50 rfl rfl ?_
          refine r_get dX11_dinners_139 fkX11_307 rfl rfl ?_
          refine r_go dX11_dinners_142 rfl ?_
          exact r_eI (r' := (T302.1 80 18, T302)) (by first | rw [if_pos c132_12] | (dsimp only; rw [if_pos c132_12])) (r_ri dX11_dinners_152 rfl rfl rfl rfl)
      refine r_eI (r' := jn (fun (KJ2 : St → Int32 × St) => if (T.1 0 16) = ((p0 * 61) + p1) then (KJ2 T) else (fun (T5 : St) => (fun (T6 : St) => KJ2 T6) (sF (x_pl_countDinners (x_pl_settle T5 (x_bk_allDishes T5 (T5.2.1 0)))) 0 16 ((p0 * 61) + p1))) (x_pl_lay (x_ki_fit T 78 (T.2.1 0) p0 (T.1 (T.2.1 0) 18)) ((x_ki_fit T 78 (T.2.1 0) p0 (T.1 (T.2.1 0) 18)).2.1 0) 78 (x_bk_allDishes (x_ki_fit T 78 (T.2.1 0) p0 (T.1 (T.2.1 0) 18)) ((x_ki_fit T 78 (T.2.1 0) p0 (T.1 (T.2.1 0) 18)).2.1 0)) p1)) KJ2) (by rw [hKJ2]; first | rw [if_pos c39_10] | (dsimp only; rw [if_pos c39_10])) ?_
      refine r_ceq dX11_dinners_59 rfl (fun c59_13 => ?_) (fun c59_13 => ?_)
      · show tR _ _ _ _ [some (.ref 0), some (.int p0), some (.int p1), some (.int p2), some (.int (x_x_refusal T 0)), some (.int ((p0 * 61) + p1))] [] _ _ _
        exact r_eI (r' := KJ2 T) (by simp only [jn]; rw [if_pos c59_13]) ((hJ2 T))
      · have kk := kk c59_13
        refine r_p dX11_dinners_62 rfl rfl ?_
        refine r_get dX11_dinners_63 fkX11_44 rfl rfl ?_
        refine r_p dX11_dinners_66 rfl rfl ?_
        refine r_get dX11_dinners_67 fkX11_30 rfl rfl ?_
        refine r_p dX11_dinners_70 rfl rfl ?_
        refine r_p dX11_dinners_71 rfl rfl ?_
        refine r_get dX11_dinners_72 fkX11_30 rfl rfl ?_
        obtain ⟨q21, kk⟩ := kk
        refine r_get dX11_dinners_75 fkX11_215 q21 rfl ?_
        obtain ⟨q22, kk⟩ := kk
        refine r_cv (d1 := 3) dX11_dinners_78 cvX11_300 rfl rfl rfl rfl (Nat.le_of_ble_eq_true rfl) (Nat.le_of_ble_eq_true rfl) (Nat.le_of_ble_eq_true rfl) (c_ki_fit 78 (T.2.1 0) p0 (T.1 (T.2.1 0) 18) q22) ?_
        refine r_p dX11_dinners_81 rfl rfl ?_
        refine r_get dX11_dinners_82 fkX11_50 rfl rfl ?_
        refine r_p dX11_dinners_85 rfl rfl ?_
        refine r_get dX11_dinners_86 fkX11_30 rfl rfl ?_
        refine r_p dX11_dinners_89 rfl rfl ?_
        refine r_get dX11_dinners_90 fkX11_44 rfl rfl ?_
        refine r_p dX11_dinners_93 rfl rfl ?_
        refine r_get dX11_dinners_94 fkX11_30 rfl rfl ?_
        obtain ⟨q23, kk⟩ := kk
        obtain ⟨q24, kk⟩ := kk
        refine r_cv (d1 := 1) dX11_dinners_97 cvX11_205 rfl rfl q24 rfl (Nat.le_of_ble_eq_true rfl) (Nat.le_of_ble_eq_true rfl) (Nat.le_of_ble_eq_true rfl) (c_bk_allDishes ((x_ki_fit T 78 (T.2.1 0) p0 (T.1 (T.2.1 0) 18)).2.1 0) q23) ?_
        refine r_p dX11_dinners_100 rfl rfl ?_
        obtain ⟨q25, kk⟩ := kk
        refine r_cv (d1 := 5) dX11_dinners_101 cvX11_249 rfl rfl rfl rfl (Nat.le_of_ble_eq_true rfl) (Nat.le_of_ble_eq_true rfl) (Nat.le_of_ble_eq_true rfl) (c_pl_lay ((x_ki_fit T 78 (T.2.1 0) p0 (T.1 (T.2.1 0) 18)).2.1 0) 78 (x_bk_allDishes (x_ki_fit T 78 (T.2.1 0) p0 (T.1 (T.2.1 0) 18)) ((x_ki_fit T 78 (T.2.1 0) p0 (T.1 (T.2.1 0) 18)).2.1 0)) p1 q25) ?_
        refine r_eI (r' := (fun (T5 : St) => (fun (T6 : St) => KJ2 T6) (sF (x_pl_countDinners (x_pl_settle T5 (x_bk_allDishes T5 (T5.2.1 0)))) 0 16 ((p0 * 61) + p1))) (x_pl_lay (x_ki_fit T 78 (T.2.1 0) p0 (T.1 (T.2.1 0) 18)) ((x_ki_fit T 78 (T.2.1 0) p0 (T.1 (T.2.1 0) 18)).2.1 0) 78 (x_bk_allDishes (x_ki_fit T 78 (T.2.1 0) p0 (T.1 (T.2.1 0) 18)) ((x_ki_fit T 78 (T.2.1 0) p0 (T.1 (T.2.1 0) 18)).2.1 0)) p1)) (by simp only [jn]; rw [if_neg c59_13]) ?_
        generalize x_pl_lay (x_ki_fit T 78 (T.2.1 0) p0 (T.1 (T.2.1 0) 18)) ((x_ki_fit T 78 (T.2.1 0) p0 (T.1 (T.2.1 0) 18)).2.1 0) 78 (x_bk_allDishes (x_ki_fit T 78 (T.2.1 0) p0 (T.1 (T.2.1 0) 18)) ((x_ki_fit T 78 (T.2.1 0) p0 (T.1 (T.2.1 0) 18)).2.1 0)) p1 = T5 at kk ⊢
        try dsimp only at kk
        refine r_p dX11_dinners_104 rfl rfl ?_
        refine r_get dX11_dinners_105 fkX11_50 rfl rfl ?_
        refine r_p dX11_dinners_108 rfl rfl ?_
        refine r_get dX11_dinners_109 fkX11_30 rfl rfl ?_
        obtain ⟨q26, kk⟩ := kk
        obtain ⟨q27, kk⟩ := kk
        refine r_cv (d1 := 1) dX11_dinners_112 cvX11_205 rfl rfl q27 rfl (Nat.le_of_ble_eq_true rfl) (Nat.le_of_ble_eq_true rfl) (Nat.le_of_ble_eq_true rfl) (c_bk_allDishes (T5.2.1 0) q26) ?_
        obtain ⟨q28, kk⟩ := kk
        refine r_cv (d1 := 3) dX11_dinners_115 cvX11_255 rfl rfl rfl rfl (Nat.le_of_ble_eq_true rfl) (Nat.le_of_ble_eq_true rfl) (Nat.le_of_ble_eq_true rfl) (c_pl_settle (x_bk_allDishes T5 (T5.2.1 0)) q28) ?_
        refine r_p dX11_dinners_118 rfl rfl ?_
        refine r_get dX11_dinners_119 fkX11_50 rfl rfl ?_
        obtain ⟨q29, kk⟩ := kk
        refine r_cv (d1 := 11) dX11_dinners_122 cvX11_304 rfl rfl rfl rfl (Nat.le_of_ble_eq_true rfl) (Nat.le_of_ble_eq_true rfl) (Nat.le_of_ble_eq_true rfl) (c_pl_countDinners  q29) ?_
        refine r_p dX11_dinners_125 rfl rfl ?_
        refine r_p dX11_dinners_126 rfl rfl ?_
        refine r_put dX11_dinners_128 fkX11_297 rfl rfl rfl (Nat.le_of_ble_eq_true rfl) rfl rfl ?_
        refine r_eI (r' := (fun (T6 : St) => KJ2 T6) (sF (x_pl_countDinners (x_pl_settle T5 (x_bk_allDishes T5 (T5.2.1 0)))) 0 16 ((p0 * 61) + p1))) rfl ?_
        generalize sF (x_pl_countDinners (x_pl_settle T5 (x_bk_allDishes T5 (T5.2.1 0)))) 0 16 ((p0 * 61) + p1) = T6 at ⊢
        show tR _ _ _ _ [some (.ref 0), some (.int p0), some (.int p1), some (.int p2), some (.int (x_x_refusal T 0)), some (.int ((p0 * 61) + p1))] [] _ _ _
        exact r_eI (r' := KJ2 T6) rfl ((hJ2 T6))
    · refine r_p dX11_dinners_42 rfl rfl ?_
      exact r_eI (r' := (x_x_refusal T 0, T)) (by first | rw [if_neg c39_10] | (dsimp only; rw [if_neg c39_10])) (r_ri dX11_dinners_44 rfl rfl rfl rfl)
  refine r_eI (r' := jn (fun (KJ1 : Int32 × St) => if p0 < 1 then (KJ1) else (if 3 < p0 then (KJ1) else (if (x_x_isTime T p1) = 0 then (KJ1) else (if p2 < 0 then (KJ1) else (if 1 < p2 then (KJ1) else (if (x_x_refusal T 1) = 0 then (jn (fun (KJ3 : St → Int32 × St) => if (T.1 0 16) = ((p0 * 61) + p1) then (KJ3 T) else (fun (T9 : St) => (fun (T10 : St) => KJ3 T10) (sF (x_pl_countDinners (x_pl_settle T9 (x_bk_allDishes T9 (T9.2.1 0)))) 0 16 ((p0 * 61) + p1))) (x_pl_lay (x_ki_fit T 78 (T.2.1 0) p0 (T.1 (T.2.1 0) 18)) ((x_ki_fit T 78 (T.2.1 0) p0 (T.1 (T.2.1 0) 18)).2.1 0) 78 (x_bk_allDishes (x_ki_fit T 78 (T.2.1 0) p0 (T.1 (T.2.1 0) 18)) ((x_ki_fit T 78 (T.2.1 0) p0 (T.1 (T.2.1 0) 18)).2.1 0)) p1)) (fun (T303 : St) => if p2 = 0 then (T303.1 80 18, T303) else (T303.1 80 19, T303))) else (x_x_refusal T 1, T))))))) KJ1) (by rw [hKJ1]; unfold x_x_dinners; rfl) ?_
  refine r_clt dX11_dinners_3 rfl (fun c3_14 => ?_) (fun c3_14 => ?_)
  · have kk := kk.1 c3_14
    show tR _ _ _ _ [some (.ref 0), some (.int p0), some (.int p1), some (.int p2), none, none] [.ref 0] _ _ _
    exact r_eI (r' := KJ1) (by simp only [jn]; rw [if_pos c3_14]) ((hJ1  kk))
  · have kk := kk.2 c3_14
    refine r_p dX11_dinners_6 rfl rfl ?_
    refine r_ci (x := 3) dX11_dinners_7 rfl ?_
    refine r_cgt dX11_dinners_8 rfl (fun c8_15 => ?_) (fun c8_15 => ?_)
    · have kk := kk.1 c8_15
      show tR _ _ _ _ [some (.ref 0), some (.int p0), some (.int p1), some (.int p2), none, none] [.ref 0] _ _ _
      exact r_eI (r' := KJ1) (by simp only [jn]; rw [if_neg c3_14, if_pos c8_15]) ((hJ1  kk))
    · have kk := kk.2 c8_15
      refine r_p dX11_dinners_11 rfl rfl ?_
      refine r_cs (d1 := 1) dX11_dinners_12 csX11_218 rfl rfl (Nat.le_of_ble_eq_true rfl) (Nat.le_of_ble_eq_true rfl) (Nat.le_of_ble_eq_true rfl) (c_x_isTime p1) ?_
      refine r_ieq dX11_dinners_15 rfl (fun c15_16 => ?_) (fun c15_16 => ?_)
      · have kk := kk.1 c15_16
        show tR _ _ _ _ [some (.ref 0), some (.int p0), some (.int p1), some (.int p2), none, none] [.ref 0] _ _ _
        exact r_eI (r' := KJ1) (by simp only [jn]; rw [if_neg c3_14, if_neg c8_15, if_pos c15_16]) ((hJ1  kk))
      · have kk := kk.2 c15_16
        refine r_p dX11_dinners_18 rfl rfl ?_
        refine r_ilt dX11_dinners_19 rfl (fun c19_17 => ?_) (fun c19_17 => ?_)
        · have kk := kk.1 c19_17
          show tR _ _ _ _ [some (.ref 0), some (.int p0), some (.int p1), some (.int p2), none, none] [.ref 0] _ _ _
          exact r_eI (r' := KJ1) (by simp only [jn]; rw [if_neg c3_14, if_neg c8_15, if_neg c15_16, if_pos c19_17]) ((hJ1  kk))
        · have kk := kk.2 c19_17
          refine r_p dX11_dinners_22 rfl rfl ?_
          refine r_ci (x := 1) dX11_dinners_23 rfl ?_
          refine r_cgt dX11_dinners_24 rfl (fun c24_18 => ?_) (fun c24_18 => ?_)
          · have kk := kk.1 c24_18
            show tR _ _ _ _ [some (.ref 0), some (.int p0), some (.int p1), some (.int p2), none, none] [.ref 0] _ _ _
            exact r_eI (r' := KJ1) (by simp only [jn]; rw [if_neg c3_14, if_neg c8_15, if_neg c15_16, if_neg c19_17, if_pos c24_18]) ((hJ1  kk))
          · have kk := kk.2 c24_18
            refine r_ci (x := 1) dX11_dinners_27 rfl ?_
            refine r_go dX11_dinners_28 rfl ?_
            obtain ⟨q30, kk⟩ := kk
            refine r_cv (d1 := 2) dX11_dinners_32 cvX11_221 rfl rfl rfl rfl (Nat.le_of_ble_eq_true rfl) (Nat.le_of_ble_eq_true rfl) (Nat.le_of_ble_eq_true rfl) (c_x_refusal 1 q30) ?_
            refine r_p dX11_dinners_35 rfl rfl ?_
            refine r_p dX11_dinners_37 rfl rfl ?_
            refine r_ieq dX11_dinners_39 rfl (fun c39_19 => ?_) (fun c39_19 => ?_)
            · have kk := kk c39_19
              refine r_p dX11_dinners_45 rfl rfl ?_
              refine r_cb (x := 61) dX11_dinners_46 rfl ?_
              refine r_p dX11_dinners_48 rfl rfl ?_
              refine r_p dX11_dinners_49 rfl rfl ?_
              refine r_p dX11_dinners_50 rfl rfl ?_
              refine r_p dX11_dinners_51 rfl rfl ?_
              refine r_p dX11_dinners_53 rfl rfl ?_
              refine r_get dX11_dinners_54 fkX11_297 rfl rfl ?_
              refine r_p dX11_dinners_57 rfl rfl ?_
              obtain ⟨KJ3, hKJ3⟩ : ∃ q : St → Int32 × St, q = (fun (T303 : St) => if p2 = 0 then (T303.1 80 18, T303) else (T303.1 80 19, T303)) := ⟨_, rfl⟩
              have hJ3 : ∀ (T303 : St), tR X 11 mX11_dinners 131 [some (.ref 0), some (.int p0), some (.int p1), some (.int p2), some (.int (x_x_refusal T 1)), some (.int ((p0 * 61) + p1))] [] T303 (some (.int (KJ3 T303).1)) ((KJ3 T303).2) := by
                intro T303
                rw [hKJ3]
                refine r_p dX11_dinners_131 rfl rfl ?_
                refine r_ine dX11_dinners_132 rfl (fun c132_21 => ?_) (fun c132_21 => ?_)
                · refine r_p dX11_dinners_145 rfl rfl ?_
                  refine r_get dX11_dinners_146 fkX11_50 rfl rfl ?_
                  refine r_get dX11_dinners_149 fkX11_310 rfl rfl ?_
                  exact r_eI (r' := (T303.1 80 19, T303)) (by first | rw [if_neg c132_21] | (dsimp only; rw [if_neg c132_21])) (r_ri dX11_dinners_152 rfl rfl rfl rfl)
                · refine r_p dX11_dinners_135 rfl rfl ?_
                  refine r_get dX11_dinners_136 fkX11_50 rfl rfl ?_
                  refine r_get dX11_dinners_139 fkX11_307 rfl rfl ?_
                  refine r_go dX11_dinners_142 rfl ?_
                  exact r_eI (r' := (T303.1 80 18, T303)) (by first | rw [if_pos c132_21] | (dsimp only; rw [if_pos c132_21])) (r_ri dX11_dinners_152 rfl rfl rfl rfl)
              refine r_eI (r' := jn (fun (KJ3 : St → Int32 × St) => if (T.1 0 16) = ((p0 * 61) + p1) then (KJ3 T) else (fun (T9 : St) => (fun (T10 : St) => KJ3 T10) (sF (x_pl_countDinners (x_pl_settle T9 (x_bk_allDishes T9 (T9.2.1 0)))) 0 16 ((p0 * 61) + p1))) (x_pl_lay (x_ki_fit T 78 (T.2.1 0) p0 (T.1 (T.2.1 0) 18)) ((x_ki_fit T 78 (T.2.1 0) p0 (T.1 (T.2.1 0) 18)).2.1 0) 78 (x_bk_allDishes (x_ki_fit T 78 (T.2.1 0) p0 (T.1 (T.2.1 0) 18)) ((x_ki_fit T 78 (T.2.1 0) p0 (T.1 (T.2.1 0) 18)).2.1 0)) p1)) KJ3) (by rw [hKJ3]; simp only [jn]; rw [if_neg c3_14, if_neg c8_15, if_neg c15_16, if_neg c19_17, if_neg c24_18, if_pos c39_19]) ?_
              refine r_ceq dX11_dinners_59 rfl (fun c59_22 => ?_) (fun c59_22 => ?_)
              · show tR _ _ _ _ [some (.ref 0), some (.int p0), some (.int p1), some (.int p2), some (.int (x_x_refusal T 1)), some (.int ((p0 * 61) + p1))] [] _ _ _
                exact r_eI (r' := KJ3 T) (by simp only [jn]; rw [if_pos c59_22]) ((hJ3 T))
              · have kk := kk c59_22
                refine r_p dX11_dinners_62 rfl rfl ?_
                refine r_get dX11_dinners_63 fkX11_44 rfl rfl ?_
                refine r_p dX11_dinners_66 rfl rfl ?_
                refine r_get dX11_dinners_67 fkX11_30 rfl rfl ?_
                refine r_p dX11_dinners_70 rfl rfl ?_
                refine r_p dX11_dinners_71 rfl rfl ?_
                refine r_get dX11_dinners_72 fkX11_30 rfl rfl ?_
                obtain ⟨q40, kk⟩ := kk
                refine r_get dX11_dinners_75 fkX11_215 q40 rfl ?_
                obtain ⟨q41, kk⟩ := kk
                refine r_cv (d1 := 3) dX11_dinners_78 cvX11_300 rfl rfl rfl rfl (Nat.le_of_ble_eq_true rfl) (Nat.le_of_ble_eq_true rfl) (Nat.le_of_ble_eq_true rfl) (c_ki_fit 78 (T.2.1 0) p0 (T.1 (T.2.1 0) 18) q41) ?_
                refine r_p dX11_dinners_81 rfl rfl ?_
                refine r_get dX11_dinners_82 fkX11_50 rfl rfl ?_
                refine r_p dX11_dinners_85 rfl rfl ?_
                refine r_get dX11_dinners_86 fkX11_30 rfl rfl ?_
                refine r_p dX11_dinners_89 rfl rfl ?_
                refine r_get dX11_dinners_90 fkX11_44 rfl rfl ?_
                refine r_p dX11_dinners_93 rfl rfl ?_
                refine r_get dX11_dinners_94 fkX11_30 rfl rfl ?_
                obtain ⟨q42, kk⟩ := kk
                obtain ⟨q43, kk⟩ := kk
                refine r_cv (d1 := 1) dX11_dinners_97 cvX11_205 rfl rfl q43 rfl (Nat.le_of_ble_eq_true rfl) (Nat.le_of_ble_eq_true rfl) (Nat.le_of_ble_eq_true rfl) (c_bk_allDishes ((x_ki_fit T 78 (T.2.1 0) p0 (T.1 (T.2.1 0) 18)).2.1 0) q42) ?_
                refine r_p dX11_dinners_100 rfl rfl ?_
                obtain ⟨q44, kk⟩ := kk
                refine r_cv (d1 := 5) dX11_dinners_101 cvX11_249 rfl rfl rfl rfl (Nat.le_of_ble_eq_true rfl) (Nat.le_of_ble_eq_true rfl) (Nat.le_of_ble_eq_true rfl) (c_pl_lay ((x_ki_fit T 78 (T.2.1 0) p0 (T.1 (T.2.1 0) 18)).2.1 0) 78 (x_bk_allDishes (x_ki_fit T 78 (T.2.1 0) p0 (T.1 (T.2.1 0) 18)) ((x_ki_fit T 78 (T.2.1 0) p0 (T.1 (T.2.1 0) 18)).2.1 0)) p1 q44) ?_
                refine r_eI (r' := (fun (T9 : St) => (fun (T10 : St) => KJ3 T10) (sF (x_pl_countDinners (x_pl_settle T9 (x_bk_allDishes T9 (T9.2.1 0)))) 0 16 ((p0 * 61) + p1))) (x_pl_lay (x_ki_fit T 78 (T.2.1 0) p0 (T.1 (T.2.1 0) 18)) ((x_ki_fit T 78 (T.2.1 0) p0 (T.1 (T.2.1 0) 18)).2.1 0) 78 (x_bk_allDishes (x_ki_fit T 78 (T.2.1 0) p0 (T.1 (T.2.1 0) 18)) ((x_ki_fit T 78 (T.2.1 0) p0 (T.1 (T.2.1 0) 18)).2.1 0)) p1)) (by simp only [jn]; rw [if_neg c59_22]) ?_
                generalize x_pl_lay (x_ki_fit T 78 (T.2.1 0) p0 (T.1 (T.2.1 0) 18)) ((x_ki_fit T 78 (T.2.1 0) p0 (T.1 (T.2.1 0) 18)).2.1 0) 78 (x_bk_allDishes (x_ki_fit T 78 (T.2.1 0) p0 (T.1 (T.2.1 0) 18)) ((x_ki_fit T 78 (T.2.1 0) p0 (T.1 (T.2.1 0) 18)).2.1 0)) p1 = T9 at kk ⊢
                try dsimp only at kk
                refine r_p dX11_dinners_104 rfl rfl ?_
                refine r_get dX11_dinners_105 fkX11_50 rfl rfl ?_
                refine r_p dX11_dinners_108 rfl rfl ?_
                refine r_get dX11_dinners_109 fkX11_30 rfl rfl ?_
                obtain ⟨q45, kk⟩ := kk
                obtain ⟨q46, kk⟩ := kk
                refine r_cv (d1 := 1) dX11_dinners_112 cvX11_205 rfl rfl q46 rfl (Nat.le_of_ble_eq_true rfl) (Nat.le_of_ble_eq_true rfl) (Nat.le_of_ble_eq_true rfl) (c_bk_allDishes (T9.2.1 0) q45) ?_
                obtain ⟨q47, kk⟩ := kk
                refine r_cv (d1 := 3) dX11_dinners_115 cvX11_255 rfl rfl rfl rfl (Nat.le_of_ble_eq_true rfl) (Nat.le_of_ble_eq_true rfl) (Nat.le_of_ble_eq_true rfl) (c_pl_settle (x_bk_allDishes T9 (T9.2.1 0)) q47) ?_
                refine r_p dX11_dinners_118 rfl rfl ?_
                refine r_get dX11_dinners_119 fkX11_50 rfl rfl ?_
                obtain ⟨q48, kk⟩ := kk
                refine r_cv (d1 := 11) dX11_dinners_122 cvX11_304 rfl rfl rfl rfl (Nat.le_of_ble_eq_true rfl) (Nat.le_of_ble_eq_true rfl) (Nat.le_of_ble_eq_true rfl) (c_pl_countDinners  q48) ?_
                refine r_p dX11_dinners_125 rfl rfl ?_
                refine r_p dX11_dinners_126 rfl rfl ?_
                refine r_put dX11_dinners_128 fkX11_297 rfl rfl rfl (Nat.le_of_ble_eq_true rfl) rfl rfl ?_
                refine r_eI (r' := (fun (T10 : St) => KJ3 T10) (sF (x_pl_countDinners (x_pl_settle T9 (x_bk_allDishes T9 (T9.2.1 0)))) 0 16 ((p0 * 61) + p1))) rfl ?_
                generalize sF (x_pl_countDinners (x_pl_settle T9 (x_bk_allDishes T9 (T9.2.1 0)))) 0 16 ((p0 * 61) + p1) = T10 at ⊢
                show tR _ _ _ _ [some (.ref 0), some (.int p0), some (.int p1), some (.int p2), some (.int (x_x_refusal T 1)), some (.int ((p0 * 61) + p1))] [] _ _ _
                exact r_eI (r' := KJ3 T10) rfl ((hJ3 T10))
            · refine r_p dX11_dinners_42 rfl rfl ?_
              exact r_eI (r' := (x_x_refusal T 1, T)) (by simp only [jn]; rw [if_neg c3_14, if_neg c8_15, if_neg c15_16, if_neg c19_17, if_neg c24_18, if_neg c39_19]) (r_ri dX11_dinners_44 rfl rfl rfl rfl)
def x_x_ask (T : St) (p0 : Int32) (p1 : Int32) : Int32 × St := if (x_bk_hasStep T (T.2.1 0) p0) = 0 then ((-1000001), T) else (if p1 < 0 then ((-1000001), T) else (if p1 ≤ 1 then ((x_ask_answer T (T.2.1 0) p0 p1).1, (x_ask_answer T (T.2.1 0) p0 p1).2) else ((-1000001), T)))
def ok_x_ask (T : St) (p0 : Int32) (p1 : Int32) : Prop := (ok_bk_hasStep T (T.2.1 0) p0) ∧ (sh (T.2.1 0) = .inr 1) ∧ (¬ (x_bk_hasStep T (T.2.1 0) p0) = 0 → (¬ p1 < 0 → (p1 ≤ 1 → (ok_ask_answer T (T.2.1 0) p0 p1) ∧ True)))
theorem c_x_ask {X : Nat × (Nat → Int32)} {T : St} (p0 : Int32) (p1 : Int32) (kk : ok_x_ask T p0 p1) : tC X 8 mX11_ask [.ref 0, .int p0, .int p1] T (some (.int (x_x_ask T p0 p1).1)) ((x_x_ask T p0 p1).2) := by
  unfold ok_x_ask at kk
  refine tC_of ?_
  refine r_p dX11_ask_0 rfl rfl ?_
  refine r_get dX11_ask_1 fkX11_30 rfl rfl ?_
  refine r_p dX11_ask_4 rfl rfl ?_
  obtain ⟨q1, kk⟩ := kk
  obtain ⟨q2, kk⟩ := kk
  refine r_cv (d1 := 1) dX11_ask_5 cvX11_171 rfl rfl q2 rfl (Nat.le_of_ble_eq_true rfl) (Nat.le_of_ble_eq_true rfl) (Nat.le_of_ble_eq_true rfl) (c_bk_hasStep (T.2.1 0) p0 q1) ?_
  refine r_ieq dX11_ask_8 rfl (fun c8_1 => ?_) (fun c8_1 => ?_)
  · refine r_k dX11_ask_20 kkX11_82 ?_
    exact r_eI (r' := ((-1000001), T)) (by unfold x_x_ask; rw [if_pos c8_1]) (r_ri dX11_ask_22 rfl rfl rfl rfl)
  · have kk := kk c8_1
    refine r_p dX11_ask_11 rfl rfl ?_
    refine r_ilt dX11_ask_12 rfl (fun c12_2 => ?_) (fun c12_2 => ?_)
    · refine r_k dX11_ask_20 kkX11_82 ?_
      exact r_eI (r' := ((-1000001), T)) (by unfold x_x_ask; rw [if_neg c8_1, if_pos c12_2]) (r_ri dX11_ask_22 rfl rfl rfl rfl)
    · have kk := kk c12_2
      refine r_p dX11_ask_15 rfl rfl ?_
      refine r_ci (x := 1) dX11_ask_16 rfl ?_
      refine r_cle dX11_ask_17 rfl (fun c17_3 => ?_) (fun c17_3 => ?_)
      · have kk := kk c17_3
        refine r_p dX11_ask_23 rfl rfl ?_
        refine r_get dX11_ask_24 fkX11_64 rfl rfl ?_
        refine r_p dX11_ask_27 rfl rfl ?_
        refine r_get dX11_ask_28 fkX11_30 rfl rfl ?_
        refine r_p dX11_ask_31 rfl rfl ?_
        refine r_p dX11_ask_32 rfl rfl ?_
        obtain ⟨q3, kk⟩ := kk
        refine r_cv (d1 := 7) dX11_ask_33 cvX11_334 rfl rfl rfl rfl (Nat.le_of_ble_eq_true rfl) (Nat.le_of_ble_eq_true rfl) (Nat.le_of_ble_eq_true rfl) (c_ask_answer (T.2.1 0) p0 p1 q3) ?_
        exact r_eI (r' := ((x_ask_answer T (T.2.1 0) p0 p1).1, (x_ask_answer T (T.2.1 0) p0 p1).2)) (by unfold x_x_ask; rw [if_neg c8_1, if_neg c12_2, if_pos c17_3]) (r_ri dX11_ask_36 rfl rfl rfl rfl)
      · refine r_k dX11_ask_20 kkX11_82 ?_
        exact r_eI (r' := ((-1000001), T)) (by unfold x_x_ask; rw [if_neg c8_1, if_neg c12_2, if_neg c17_3]) (r_ri dX11_ask_22 rfl rfl rfl rfl)
def x_x_findsPlan (T : St) (p0 : Int32) : Int32 × St := jn (fun (KJ1 : St → Int32 × St) => if (T.1 0 14) = p0 then (KJ1 T) else (fun (T4 : St) => (fun (T5 : St) => if ((x_pl_finds (sF T4 0 15 (-1000000)) ((sF T4 0 15 (-1000000)).1 ((sF T4 0 15 (-1000000)).2.1 0) 17) 0).1) = 0 then (KJ1 (sF T5 0 14 p0)) else (fun (T6 : St) => KJ1 T6) (sF (x_pl_tell (x_ro_fill (sF T5 0 15 (T5.1 80 17)) 557 ((sF T5 0 15 (T5.1 80 17)).2.1 0)) 557) 0 14 p0)) ((x_pl_finds (sF T4 0 15 (-1000000)) ((sF T4 0 15 (-1000000)).1 ((sF T4 0 15 (-1000000)).2.1 0) 17) 0).2)) (x_pl_settle (x_pl_lay T (T.2.1 0) 76 (T.1 (T.2.1 0) 17) p0) ((x_pl_lay T (T.2.1 0) 76 (T.1 (T.2.1 0) 17) p0).1 ((x_pl_lay T (T.2.1 0) 76 (T.1 (T.2.1 0) 17) p0).2.1 0) 17))) (fun (T301 : St) => if (T301.1 0 15) = (-1000000) then (0, T301) else (1, T301))
def ok_x_findsPlan (T : St) (p0 : Int32) : Prop := (¬ (T.1 0 14) = p0 → (sh (T.2.1 0) = .inr 1) ∧ (ok_pl_lay T (T.2.1 0) 76 (T.1 (T.2.1 0) 17) p0) ∧ (sh ((x_pl_lay T (T.2.1 0) 76 (T.1 (T.2.1 0) 17) p0).2.1 0) = .inr 1) ∧ (ok_pl_settle (x_pl_lay T (T.2.1 0) 76 (T.1 (T.2.1 0) 17) p0) ((x_pl_lay T (T.2.1 0) 76 (T.1 (T.2.1 0) 17) p0).1 ((x_pl_lay T (T.2.1 0) 76 (T.1 (T.2.1 0) 17) p0).2.1 0) 17)) ∧ (fun (T4 : St) => (sh ((sF T4 0 15 (-1000000)).2.1 0) = .inr 1) ∧ (ok_pl_finds (sF T4 0 15 (-1000000)) ((sF T4 0 15 (-1000000)).1 ((sF T4 0 15 (-1000000)).2.1 0) 17) 0) ∧ (fun (T5 : St) => (¬ ((x_pl_finds (sF T4 0 15 (-1000000)) ((sF T4 0 15 (-1000000)).1 ((sF T4 0 15 (-1000000)).2.1 0) 17) 0).1) = 0 → (ok_ro_fill (sF T5 0 15 (T5.1 80 17)) 557 ((sF T5 0 15 (T5.1 80 17)).2.1 0)) ∧ (ok_pl_tell (x_ro_fill (sF T5 0 15 (T5.1 80 17)) 557 ((sF T5 0 15 (T5.1 80 17)).2.1 0)) 557) ∧ True)) ((x_pl_finds (sF T4 0 15 (-1000000)) ((sF T4 0 15 (-1000000)).1 ((sF T4 0 15 (-1000000)).2.1 0) 17) 0).2)) (x_pl_settle (x_pl_lay T (T.2.1 0) 76 (T.1 (T.2.1 0) 17) p0) ((x_pl_lay T (T.2.1 0) 76 (T.1 (T.2.1 0) 17) p0).1 ((x_pl_lay T (T.2.1 0) 76 (T.1 (T.2.1 0) 17) p0).2.1 0) 17)))
theorem c_x_findsPlan {X : Nat × (Nat → Int32)} {T : St} (p0 : Int32) (kk : ok_x_findsPlan T p0) : tC X 11 mX11_findsPlan [.ref 0, .int p0] T (some (.int (x_x_findsPlan T p0).1)) ((x_x_findsPlan T p0).2) := by
  unfold ok_x_findsPlan at kk
  refine tC_of ?_
  refine r_p dX11_findsPlan_0 rfl rfl ?_
  refine r_get dX11_findsPlan_1 fkX11_358 rfl rfl ?_
  refine r_p dX11_findsPlan_4 rfl rfl ?_
  obtain ⟨KJ1, hKJ1⟩ : ∃ q : St → Int32 × St, q = (fun (T301 : St) => if (T301.1 0 15) = (-1000000) then (0, T301) else (1, T301)) := ⟨_, rfl⟩
  have hJ1 : ∀ (T301 : St), tR X 10 mX11_findsPlan 107 [some (.ref 0), some (.int p0)] [] T301 (some (.int (KJ1 T301).1)) ((KJ1 T301).2) := by
    intro T301
    rw [hKJ1]
    refine r_p dX11_findsPlan_107 rfl rfl ?_
    refine r_get dX11_findsPlan_108 fkX11_242 rfl rfl ?_
    refine r_k dX11_findsPlan_111 kkX11_241 ?_
    refine r_ceq dX11_findsPlan_113 rfl (fun c113_3 => ?_) (fun c113_3 => ?_)
    · refine r_ci (x := 0) dX11_findsPlan_120 rfl ?_
      exact r_eI (r' := (0, T301)) (by first | rw [if_pos c113_3] | (dsimp only; rw [if_pos c113_3])) (r_ri dX11_findsPlan_121 rfl rfl rfl rfl)
    · refine r_ci (x := 1) dX11_findsPlan_116 rfl ?_
      refine r_go dX11_findsPlan_117 rfl ?_
      exact r_eI (r' := (1, T301)) (by first | rw [if_neg c113_3] | (dsimp only; rw [if_neg c113_3])) (r_ri dX11_findsPlan_121 rfl rfl rfl rfl)
  refine r_eI (r' := jn (fun (KJ1 : St → Int32 × St) => if (T.1 0 14) = p0 then (KJ1 T) else (fun (T4 : St) => (fun (T5 : St) => if ((x_pl_finds (sF T4 0 15 (-1000000)) ((sF T4 0 15 (-1000000)).1 ((sF T4 0 15 (-1000000)).2.1 0) 17) 0).1) = 0 then (KJ1 (sF T5 0 14 p0)) else (fun (T6 : St) => KJ1 T6) (sF (x_pl_tell (x_ro_fill (sF T5 0 15 (T5.1 80 17)) 557 ((sF T5 0 15 (T5.1 80 17)).2.1 0)) 557) 0 14 p0)) ((x_pl_finds (sF T4 0 15 (-1000000)) ((sF T4 0 15 (-1000000)).1 ((sF T4 0 15 (-1000000)).2.1 0) 17) 0).2)) (x_pl_settle (x_pl_lay T (T.2.1 0) 76 (T.1 (T.2.1 0) 17) p0) ((x_pl_lay T (T.2.1 0) 76 (T.1 (T.2.1 0) 17) p0).1 ((x_pl_lay T (T.2.1 0) 76 (T.1 (T.2.1 0) 17) p0).2.1 0) 17))) KJ1) (by rw [hKJ1]; unfold x_x_findsPlan; rfl) ?_
  refine r_ceq dX11_findsPlan_5 rfl (fun c5_4 => ?_) (fun c5_4 => ?_)
  · show tR _ _ _ _ [some (.ref 0), some (.int p0)] [] _ _ _
    exact r_eI (r' := KJ1 T) (by simp only [jn]; rw [if_pos c5_4]) ((hJ1 T))
  · have kk := kk c5_4
    refine r_p dX11_findsPlan_8 rfl rfl ?_
    refine r_get dX11_findsPlan_9 fkX11_50 rfl rfl ?_
    refine r_p dX11_findsPlan_12 rfl rfl ?_
    refine r_get dX11_findsPlan_13 fkX11_30 rfl rfl ?_
    refine r_p dX11_findsPlan_16 rfl rfl ?_
    refine r_get dX11_findsPlan_17 fkX11_40 rfl rfl ?_
    refine r_p dX11_findsPlan_20 rfl rfl ?_
    refine r_get dX11_findsPlan_21 fkX11_30 rfl rfl ?_
    obtain ⟨q9, kk⟩ := kk
    refine r_get dX11_findsPlan_24 fkX11_209 q9 rfl ?_
    refine r_p dX11_findsPlan_27 rfl rfl ?_
    obtain ⟨q10, kk⟩ := kk
    refine r_cv (d1 := 5) dX11_findsPlan_28 cvX11_249 rfl rfl rfl rfl (Nat.le_of_ble_eq_true rfl) (Nat.le_of_ble_eq_true rfl) (Nat.le_of_ble_eq_true rfl) (c_pl_lay (T.2.1 0) 76 (T.1 (T.2.1 0) 17) p0 q10) ?_
    refine r_p dX11_findsPlan_31 rfl rfl ?_
    refine r_get dX11_findsPlan_32 fkX11_50 rfl rfl ?_
    refine r_p dX11_findsPlan_35 rfl rfl ?_
    refine r_get dX11_findsPlan_36 fkX11_30 rfl rfl ?_
    obtain ⟨q11, kk⟩ := kk
    refine r_get dX11_findsPlan_39 fkX11_209 q11 rfl ?_
    obtain ⟨q12, kk⟩ := kk
    refine r_cv (d1 := 3) dX11_findsPlan_42 cvX11_255 rfl rfl rfl rfl (Nat.le_of_ble_eq_true rfl) (Nat.le_of_ble_eq_true rfl) (Nat.le_of_ble_eq_true rfl) (c_pl_settle ((x_pl_lay T (T.2.1 0) 76 (T.1 (T.2.1 0) 17) p0).1 ((x_pl_lay T (T.2.1 0) 76 (T.1 (T.2.1 0) 17) p0).2.1 0) 17) q12) ?_
    refine r_eI (r' := (fun (T4 : St) => (fun (T5 : St) => if ((x_pl_finds (sF T4 0 15 (-1000000)) ((sF T4 0 15 (-1000000)).1 ((sF T4 0 15 (-1000000)).2.1 0) 17) 0).1) = 0 then (KJ1 (sF T5 0 14 p0)) else (fun (T6 : St) => KJ1 T6) (sF (x_pl_tell (x_ro_fill (sF T5 0 15 (T5.1 80 17)) 557 ((sF T5 0 15 (T5.1 80 17)).2.1 0)) 557) 0 14 p0)) ((x_pl_finds (sF T4 0 15 (-1000000)) ((sF T4 0 15 (-1000000)).1 ((sF T4 0 15 (-1000000)).2.1 0) 17) 0).2)) (x_pl_settle (x_pl_lay T (T.2.1 0) 76 (T.1 (T.2.1 0) 17) p0) ((x_pl_lay T (T.2.1 0) 76 (T.1 (T.2.1 0) 17) p0).1 ((x_pl_lay T (T.2.1 0) 76 (T.1 (T.2.1 0) 17) p0).2.1 0) 17))) (by simp only [jn]; rw [if_neg c5_4]) ?_
    generalize x_pl_settle (x_pl_lay T (T.2.1 0) 76 (T.1 (T.2.1 0) 17) p0) ((x_pl_lay T (T.2.1 0) 76 (T.1 (T.2.1 0) 17) p0).1 ((x_pl_lay T (T.2.1 0) 76 (T.1 (T.2.1 0) 17) p0).2.1 0) 17) = T4 at kk ⊢
    try dsimp only at kk
    refine r_p dX11_findsPlan_45 rfl rfl ?_
    refine r_k dX11_findsPlan_46 kkX11_241 ?_
    refine r_put dX11_findsPlan_48 fkX11_242 rfl rfl rfl (Nat.le_of_ble_eq_true rfl) rfl rfl ?_
    refine r_p dX11_findsPlan_51 rfl rfl ?_
    refine r_get dX11_findsPlan_52 fkX11_50 rfl rfl ?_
    refine r_p dX11_findsPlan_55 rfl rfl ?_
    refine r_get dX11_findsPlan_56 fkX11_30 rfl rfl ?_
    obtain ⟨q13, kk⟩ := kk
    refine r_get dX11_findsPlan_59 fkX11_209 q13 rfl ?_
    refine r_ci (x := 0) dX11_findsPlan_62 rfl ?_
    obtain ⟨q14, kk⟩ := kk
    refine r_cv (d1 := 10) dX11_findsPlan_63 cvX11_259 rfl rfl rfl rfl (Nat.le_of_ble_eq_true rfl) (Nat.le_of_ble_eq_true rfl) (Nat.le_of_ble_eq_true rfl) (c_pl_finds ((sF T4 0 15 (-1000000)).1 ((sF T4 0 15 (-1000000)).2.1 0) 17) 0 q14) ?_
    refine r_eI (r' := (fun (T5 : St) => if ((x_pl_finds (sF T4 0 15 (-1000000)) ((sF T4 0 15 (-1000000)).1 ((sF T4 0 15 (-1000000)).2.1 0) 17) 0).1) = 0 then (KJ1 (sF T5 0 14 p0)) else (fun (T6 : St) => KJ1 T6) (sF (x_pl_tell (x_ro_fill (sF T5 0 15 (T5.1 80 17)) 557 ((sF T5 0 15 (T5.1 80 17)).2.1 0)) 557) 0 14 p0)) ((x_pl_finds (sF T4 0 15 (-1000000)) ((sF T4 0 15 (-1000000)).1 ((sF T4 0 15 (-1000000)).2.1 0) 17) 0).2)) rfl ?_
    generalize (x_pl_finds (sF T4 0 15 (-1000000)) ((sF T4 0 15 (-1000000)).1 ((sF T4 0 15 (-1000000)).2.1 0) 17) 0).2 = T5 at kk ⊢
    try dsimp only at kk
    refine r_ieq dX11_findsPlan_66 rfl (fun c66_5 => ?_) (fun c66_5 => ?_)
    · refine r_p dX11_findsPlan_102 rfl rfl ?_
      refine r_p dX11_findsPlan_103 rfl rfl ?_
      refine r_put dX11_findsPlan_104 fkX11_358 rfl rfl rfl (Nat.le_of_ble_eq_true rfl) rfl rfl ?_
      show tR _ _ _ _ [some (.ref 0), some (.int p0)] [] _ _ _
      exact r_eI (r' := KJ1 (sF T5 0 14 p0)) (by first | rw [if_pos c66_5] | (dsimp only; rw [if_pos c66_5])) ((hJ1 (sF T5 0 14 p0)))
    · have kk := kk c66_5
      refine r_p dX11_findsPlan_69 rfl rfl ?_
      refine r_p dX11_findsPlan_70 rfl rfl ?_
      refine r_get dX11_findsPlan_71 fkX11_50 rfl rfl ?_
      refine r_get dX11_findsPlan_74 fkX11_317 rfl rfl ?_
      refine r_put dX11_findsPlan_77 fkX11_242 rfl rfl rfl (Nat.le_of_ble_eq_true rfl) rfl rfl ?_
      refine r_p dX11_findsPlan_80 rfl rfl ?_
      refine r_get dX11_findsPlan_81 fkX11_71 rfl rfl ?_
      refine r_p dX11_findsPlan_84 rfl rfl ?_
      refine r_get dX11_findsPlan_85 fkX11_30 rfl rfl ?_
      obtain ⟨q15, kk⟩ := kk
      refine r_cv (d1 := 2) dX11_findsPlan_88 cvX11_225 rfl rfl rfl rfl (Nat.le_of_ble_eq_true rfl) (Nat.le_of_ble_eq_true rfl) (Nat.le_of_ble_eq_true rfl) (c_ro_fill 557 ((sF T5 0 15 (T5.1 80 17)).2.1 0) q15) ?_
      refine r_p dX11_findsPlan_91 rfl rfl ?_
      refine r_get dX11_findsPlan_92 fkX11_50 rfl rfl ?_
      refine r_p dX11_findsPlan_95 rfl rfl ?_
      refine r_get dX11_findsPlan_96 fkX11_71 rfl rfl ?_
      obtain ⟨q16, kk⟩ := kk
      refine r_cv (d1 := 1) dX11_findsPlan_99 cvX11_361 rfl rfl rfl rfl (Nat.le_of_ble_eq_true rfl) (Nat.le_of_ble_eq_true rfl) (Nat.le_of_ble_eq_true rfl) (c_pl_tell 557 q16) ?_
      refine r_p dX11_findsPlan_102 rfl rfl ?_
      refine r_p dX11_findsPlan_103 rfl rfl ?_
      refine r_put dX11_findsPlan_104 fkX11_358 rfl rfl rfl (Nat.le_of_ble_eq_true rfl) rfl rfl ?_
      refine r_eI (r' := (fun (T6 : St) => KJ1 T6) (sF (x_pl_tell (x_ro_fill (sF T5 0 15 (T5.1 80 17)) 557 ((sF T5 0 15 (T5.1 80 17)).2.1 0)) 557) 0 14 p0)) (by first | rw [if_neg c66_5] | (dsimp only; rw [if_neg c66_5])) ?_
      generalize sF (x_pl_tell (x_ro_fill (sF T5 0 15 (T5.1 80 17)) 557 ((sF T5 0 15 (T5.1 80 17)).2.1 0)) 557) 0 14 p0 = T6 at ⊢
      show tR _ _ _ _ [some (.ref 0), some (.int p0)] [] _ _ _
      exact r_eI (r' := KJ1 T6) rfl ((hJ1 T6))
def x_x_isPossible (T : St) (p0 : Nat) (p1 : Int32) (p2 : Int32) : Int32 × St := ((x_pl_finds (x_pl_settle (x_pl_lay T (T.2.1 0) p0 p1 p2) p1) p1 1).1, (x_pl_finds (x_pl_settle (x_pl_lay T (T.2.1 0) p0 p1 p2) p1) p1 1).2)
def ok_x_isPossible (T : St) (p0 : Nat) (p1 : Int32) (p2 : Int32) : Prop := (ok_pl_lay T (T.2.1 0) p0 p1 p2) ∧ (ok_pl_settle (x_pl_lay T (T.2.1 0) p0 p1 p2) p1) ∧ (ok_pl_finds (x_pl_settle (x_pl_lay T (T.2.1 0) p0 p1 p2) p1) p1 1) ∧ (((x_pl_finds (x_pl_settle (x_pl_lay T (T.2.1 0) p0 p1 p2) p1) p1 1).1 = 0 ∨ (x_pl_finds (x_pl_settle (x_pl_lay T (T.2.1 0) p0 p1 p2) p1) p1 1).1 = (1 : Int32))) ∧ True
theorem c_x_isPossible {X : Nat × (Nat → Int32)} {T : St} (p0 : Nat) (p1 : Int32) (p2 : Int32) (kk : ok_x_isPossible T p0 p1 p2) : tC X 11 mX11_isPossible [.ref 0, .ref p0, .int p1, .int p2] T (some (.int (x_x_isPossible T p0 p1 p2).1)) ((x_x_isPossible T p0 p1 p2).2) := by
  unfold ok_x_isPossible at kk
  refine tC_of ?_
  refine r_p dX11_isPossible_0 rfl rfl ?_
  refine r_get dX11_isPossible_1 fkX11_50 rfl rfl ?_
  refine r_p dX11_isPossible_4 rfl rfl ?_
  refine r_get dX11_isPossible_5 fkX11_30 rfl rfl ?_
  refine r_p dX11_isPossible_8 rfl rfl ?_
  refine r_p dX11_isPossible_9 rfl rfl ?_
  refine r_p dX11_isPossible_10 rfl rfl ?_
  obtain ⟨q1, kk⟩ := kk
  refine r_cv (d1 := 5) dX11_isPossible_11 cvX11_249 rfl rfl rfl rfl (Nat.le_of_ble_eq_true rfl) (Nat.le_of_ble_eq_true rfl) (Nat.le_of_ble_eq_true rfl) (c_pl_lay (T.2.1 0) p0 p1 p2 q1) ?_
  refine r_p dX11_isPossible_14 rfl rfl ?_
  refine r_get dX11_isPossible_15 fkX11_50 rfl rfl ?_
  refine r_p dX11_isPossible_18 rfl rfl ?_
  obtain ⟨q2, kk⟩ := kk
  refine r_cv (d1 := 3) dX11_isPossible_19 cvX11_255 rfl rfl rfl rfl (Nat.le_of_ble_eq_true rfl) (Nat.le_of_ble_eq_true rfl) (Nat.le_of_ble_eq_true rfl) (c_pl_settle p1 q2) ?_
  refine r_p dX11_isPossible_22 rfl rfl ?_
  refine r_get dX11_isPossible_23 fkX11_50 rfl rfl ?_
  refine r_p dX11_isPossible_26 rfl rfl ?_
  refine r_ci (x := 1) dX11_isPossible_27 rfl ?_
  obtain ⟨q3, kk⟩ := kk
  refine r_cv (d1 := 10) dX11_isPossible_28 cvX11_259 rfl rfl rfl rfl (Nat.le_of_ble_eq_true rfl) (Nat.le_of_ble_eq_true rfl) (Nat.le_of_ble_eq_true rfl) (c_pl_finds p1 1 q3) ?_
  obtain ⟨q4, kk⟩ := kk
  exact r_eI (r' := ((x_pl_finds (x_pl_settle (x_pl_lay T (T.2.1 0) p0 p1 p2) p1) p1 1).1, (x_pl_finds (x_pl_settle (x_pl_lay T (T.2.1 0) p0 p1 p2) p1) p1 1).2)) (by unfold x_x_isPossible; rfl) (r_ri dX11_isPossible_31 rfl (nar_b q4) rfl rfl)
def x_x_least (T : St) (p0 : Int32) (p1 : Int32) : Int32 × St := jn (fun (KJ1 : Int32 × St) => if (x_x_isTime T p0) = 0 then (KJ1) else (if p1 < (-1) then (KJ1) else (if (x_x_refusal T 1) = 0 then (if ((x_x_findsPlan T p0).1) = 0 then ((-1000000), (x_x_findsPlan T p0).2) else (if p1 = (-1) then (((x_x_findsPlan T p0).2).1 0 15, (x_x_findsPlan T p0).2) else (if (((x_x_findsPlan T p0).2).1 557 0) ≤ p1 then ((-1000000), (x_x_findsPlan T p0).2) else (((x_x_findsPlan T p0).2).2.2.1 559 (p1 : Int32).toNatClampNeg, (x_x_findsPlan T p0).2)))) else (x_x_refusal T 1, T)))) (if (x_x_refusal T 0) = 0 then (if ((x_x_findsPlan T p0).1) = 0 then ((-1000000), (x_x_findsPlan T p0).2) else (if p1 = (-1) then (((x_x_findsPlan T p0).2).1 0 15, (x_x_findsPlan T p0).2) else (if (((x_x_findsPlan T p0).2).1 557 0) ≤ p1 then ((-1000000), (x_x_findsPlan T p0).2) else (((x_x_findsPlan T p0).2).2.2.1 559 (p1 : Int32).toNatClampNeg, (x_x_findsPlan T p0).2)))) else (x_x_refusal T 0, T))
def ok_x_least (T : St) (p0 : Int32) (p1 : Int32) : Prop := jn (fun (OJ1 : Prop) => (((x_x_isTime T p0) = 0 → OJ1) ∧ (¬ (x_x_isTime T p0) = 0 → ((p1 < (-1) → OJ1) ∧ (¬ p1 < (-1) → (ok_x_refusal T 1) ∧ ((x_x_refusal T 1) = 0 → (ok_x_findsPlan T p0) ∧ (¬ ((x_x_findsPlan T p0).1) = 0 → (¬ p1 = (-1) → (¬ (((x_x_findsPlan T p0).2).1 557 0) ≤ p1 → (vp_in p1 4) ∧ True))))))))) ((ok_x_refusal T 0) ∧ ((x_x_refusal T 0) = 0 → (ok_x_findsPlan T p0) ∧ (¬ ((x_x_findsPlan T p0).1) = 0 → (¬ p1 = (-1) → (¬ (((x_x_findsPlan T p0).2).1 557 0) ≤ p1 → (vp_in p1 4) ∧ True)))))
theorem c_x_least {X : Nat × (Nat → Int32)} {T : St} (p0 : Int32) (p1 : Int32) (kk : ok_x_least T p0 p1) : tC X 12 mX11_least [.ref 0, .int p0, .int p1] T (some (.int (x_x_least T p0 p1).1)) ((x_x_least T p0 p1).2) := by
  unfold ok_x_least at kk
  refine tC_of ?_
  refine r_p dX11_least_0 rfl rfl ?_
  refine r_p dX11_least_1 rfl rfl ?_
  refine r_cs (d1 := 1) dX11_least_2 csX11_218 rfl rfl (Nat.le_of_ble_eq_true rfl) (Nat.le_of_ble_eq_true rfl) (Nat.le_of_ble_eq_true rfl) (c_x_isTime p0) ?_
  obtain ⟨KJ1, hKJ1⟩ : ∃ q : Int32 × St, q = (if (x_x_refusal T 0) = 0 then (if ((x_x_findsPlan T p0).1) = 0 then ((-1000000), (x_x_findsPlan T p0).2) else (if p1 = (-1) then (((x_x_findsPlan T p0).2).1 0 15, (x_x_findsPlan T p0).2) else (if (((x_x_findsPlan T p0).2).1 557 0) ≤ p1 then ((-1000000), (x_x_findsPlan T p0).2) else (((x_x_findsPlan T p0).2).2.2.1 559 (p1 : Int32).toNatClampNeg, (x_x_findsPlan T p0).2)))) else (x_x_refusal T 0, T)) := ⟨_, rfl⟩
  obtain ⟨OJ1, hOJ1⟩ : ∃ q : Prop, q = ((ok_x_refusal T 0) ∧ ((x_x_refusal T 0) = 0 → (ok_x_findsPlan T p0) ∧ (¬ ((x_x_findsPlan T p0).1) = 0 → (¬ p1 = (-1) → (¬ (((x_x_findsPlan T p0).2).1 557 0) ≤ p1 → (vp_in p1 4) ∧ True))))) := ⟨_, rfl⟩
  rw [← hOJ1] at kk
  simp only [jn] at kk
  have hJ1 : OJ1 → tR X 11 mX11_least 17 [some (.ref 0), some (.int p0), some (.int p1), none] [.ref 0] T (some (.int KJ1.1)) KJ1.2 := by
    intro  kk
    rw [hOJ1] at kk
    try dsimp only at kk
    rw [hKJ1]
    refine r_ci (x := 0) dX11_least_17 rfl ?_
    obtain ⟨q4, kk⟩ := kk
    refine r_cv (d1 := 2) dX11_least_18 cvX11_221 rfl rfl rfl rfl (Nat.le_of_ble_eq_true rfl) (Nat.le_of_ble_eq_true rfl) (Nat.le_of_ble_eq_true rfl) (c_x_refusal 0 q4) ?_
    refine r_p dX11_least_21 rfl rfl ?_
    refine r_p dX11_least_22 rfl rfl ?_
    refine r_ieq dX11_least_23 rfl (fun c23_7 => ?_) (fun c23_7 => ?_)
    · have kk := kk c23_7
      refine r_p dX11_least_28 rfl rfl ?_
      refine r_p dX11_least_29 rfl rfl ?_
      obtain ⟨q5, kk⟩ := kk
      refine r_cv (d1 := 11) dX11_least_30 cvX11_238 rfl rfl rfl rfl (Nat.le_of_ble_eq_true rfl) (Nat.le_of_ble_eq_true rfl) (Nat.le_of_ble_eq_true rfl) (c_x_findsPlan p0 q5) ?_
      refine r_ine dX11_least_33 rfl (fun c33_8 => ?_) (fun c33_8 => ?_)
      · have kk := kk c33_8
        refine r_p dX11_least_39 rfl rfl ?_
        refine r_ci (x := -1) dX11_least_40 rfl ?_
        refine r_cne dX11_least_41 rfl (fun c41_9 => ?_) (fun c41_9 => ?_)
        · have kk := kk c41_9
          refine r_p dX11_least_49 rfl rfl ?_
          refine r_p dX11_least_50 rfl rfl ?_
          refine r_get dX11_least_51 fkX11_71 rfl rfl ?_
          refine r_get dX11_least_54 fkX11_245 rfl rfl ?_
          refine r_cge dX11_least_57 rfl (fun c57_10 => ?_) (fun c57_10 => ?_)
          · refine r_k dX11_least_72 kkX11_241 ?_
            exact r_eI (r' := ((-1000000), (x_x_findsPlan T p0).2)) (by first | rw [if_pos c23_7, if_neg c33_8, if_neg c41_9, if_pos c57_10] | (dsimp only; rw [if_pos c23_7, if_neg c33_8, if_neg c41_9, if_pos c57_10])) (r_ri dX11_least_74 rfl rfl rfl rfl)
          · have kk := kk c57_10
            refine r_p dX11_least_60 rfl rfl ?_
            refine r_get dX11_least_61 fkX11_71 rfl rfl ?_
            refine r_get dX11_least_64 fkX11_246 rfl rfl ?_
            refine r_p dX11_least_67 rfl rfl ?_
            obtain ⟨q6, kk⟩ := kk
            refine r_ia dX11_least_68 rfl q6 ?_
            refine r_go dX11_least_69 rfl ?_
            exact r_eI (r' := (((x_x_findsPlan T p0).2).2.2.1 559 (p1 : Int32).toNatClampNeg, (x_x_findsPlan T p0).2)) (by first | rw [if_pos c23_7, if_neg c33_8, if_neg c41_9, if_neg c57_10] | (dsimp only; rw [if_pos c23_7, if_neg c33_8, if_neg c41_9, if_neg c57_10])) (r_ri dX11_least_74 rfl rfl rfl rfl)
        · refine r_p dX11_least_44 rfl rfl ?_
          refine r_get dX11_least_45 fkX11_242 rfl rfl ?_
          exact r_eI (r' := (((x_x_findsPlan T p0).2).1 0 15, (x_x_findsPlan T p0).2)) (by first | rw [if_pos c23_7, if_neg c33_8, if_pos c41_9] | (dsimp only; rw [if_pos c23_7, if_neg c33_8, if_pos c41_9])) (r_ri dX11_least_48 rfl rfl rfl rfl)
      · refine r_k dX11_least_36 kkX11_241 ?_
        exact r_eI (r' := ((-1000000), (x_x_findsPlan T p0).2)) (by first | rw [if_pos c23_7, if_pos c33_8] | (dsimp only; rw [if_pos c23_7, if_pos c33_8])) (r_ri dX11_least_38 rfl rfl rfl rfl)
    · refine r_p dX11_least_26 rfl rfl ?_
      exact r_eI (r' := (x_x_refusal T 0, T)) (by first | rw [if_neg c23_7] | (dsimp only; rw [if_neg c23_7])) (r_ri dX11_least_27 rfl rfl rfl rfl)
  refine r_eI (r' := jn (fun (KJ1 : Int32 × St) => if (x_x_isTime T p0) = 0 then (KJ1) else (if p1 < (-1) then (KJ1) else (if (x_x_refusal T 1) = 0 then (if ((x_x_findsPlan T p0).1) = 0 then ((-1000000), (x_x_findsPlan T p0).2) else (if p1 = (-1) then (((x_x_findsPlan T p0).2).1 0 15, (x_x_findsPlan T p0).2) else (if (((x_x_findsPlan T p0).2).1 557 0) ≤ p1 then ((-1000000), (x_x_findsPlan T p0).2) else (((x_x_findsPlan T p0).2).2.2.1 559 (p1 : Int32).toNatClampNeg, (x_x_findsPlan T p0).2)))) else (x_x_refusal T 1, T)))) KJ1) (by rw [hKJ1]; unfold x_x_least; rfl) ?_
  refine r_ieq dX11_least_5 rfl (fun c5_11 => ?_) (fun c5_11 => ?_)
  · have kk := kk.1 c5_11
    show tR _ _ _ _ [some (.ref 0), some (.int p0), some (.int p1), none] [.ref 0] _ _ _
    exact r_eI (r' := KJ1) (by simp only [jn]; rw [if_pos c5_11]) ((hJ1  kk))
  · have kk := kk.2 c5_11
    refine r_p dX11_least_8 rfl rfl ?_
    refine r_ci (x := -1) dX11_least_9 rfl ?_
    refine r_clt dX11_least_10 rfl (fun c10_12 => ?_) (fun c10_12 => ?_)
    · have kk := kk.1 c10_12
      show tR _ _ _ _ [some (.ref 0), some (.int p0), some (.int p1), none] [.ref 0] _ _ _
      exact r_eI (r' := KJ1) (by simp only [jn]; rw [if_neg c5_11, if_pos c10_12]) ((hJ1  kk))
    · have kk := kk.2 c10_12
      refine r_ci (x := 1) dX11_least_13 rfl ?_
      refine r_go dX11_least_14 rfl ?_
      obtain ⟨q7, kk⟩ := kk
      refine r_cv (d1 := 2) dX11_least_18 cvX11_221 rfl rfl rfl rfl (Nat.le_of_ble_eq_true rfl) (Nat.le_of_ble_eq_true rfl) (Nat.le_of_ble_eq_true rfl) (c_x_refusal 1 q7) ?_
      refine r_p dX11_least_21 rfl rfl ?_
      refine r_p dX11_least_22 rfl rfl ?_
      refine r_ieq dX11_least_23 rfl (fun c23_13 => ?_) (fun c23_13 => ?_)
      · have kk := kk c23_13
        refine r_p dX11_least_28 rfl rfl ?_
        refine r_p dX11_least_29 rfl rfl ?_
        obtain ⟨q8, kk⟩ := kk
        refine r_cv (d1 := 11) dX11_least_30 cvX11_238 rfl rfl rfl rfl (Nat.le_of_ble_eq_true rfl) (Nat.le_of_ble_eq_true rfl) (Nat.le_of_ble_eq_true rfl) (c_x_findsPlan p0 q8) ?_
        refine r_ine dX11_least_33 rfl (fun c33_14 => ?_) (fun c33_14 => ?_)
        · have kk := kk c33_14
          refine r_p dX11_least_39 rfl rfl ?_
          refine r_ci (x := -1) dX11_least_40 rfl ?_
          refine r_cne dX11_least_41 rfl (fun c41_15 => ?_) (fun c41_15 => ?_)
          · have kk := kk c41_15
            refine r_p dX11_least_49 rfl rfl ?_
            refine r_p dX11_least_50 rfl rfl ?_
            refine r_get dX11_least_51 fkX11_71 rfl rfl ?_
            refine r_get dX11_least_54 fkX11_245 rfl rfl ?_
            refine r_cge dX11_least_57 rfl (fun c57_16 => ?_) (fun c57_16 => ?_)
            · refine r_k dX11_least_72 kkX11_241 ?_
              exact r_eI (r' := ((-1000000), (x_x_findsPlan T p0).2)) (by simp only [jn]; rw [if_neg c5_11, if_neg c10_12, if_pos c23_13, if_neg c33_14, if_neg c41_15, if_pos c57_16]) (r_ri dX11_least_74 rfl rfl rfl rfl)
            · have kk := kk c57_16
              refine r_p dX11_least_60 rfl rfl ?_
              refine r_get dX11_least_61 fkX11_71 rfl rfl ?_
              refine r_get dX11_least_64 fkX11_246 rfl rfl ?_
              refine r_p dX11_least_67 rfl rfl ?_
              obtain ⟨q9, kk⟩ := kk
              refine r_ia dX11_least_68 rfl q9 ?_
              refine r_go dX11_least_69 rfl ?_
              exact r_eI (r' := (((x_x_findsPlan T p0).2).2.2.1 559 (p1 : Int32).toNatClampNeg, (x_x_findsPlan T p0).2)) (by simp only [jn]; rw [if_neg c5_11, if_neg c10_12, if_pos c23_13, if_neg c33_14, if_neg c41_15, if_neg c57_16]) (r_ri dX11_least_74 rfl rfl rfl rfl)
          · refine r_p dX11_least_44 rfl rfl ?_
            refine r_get dX11_least_45 fkX11_242 rfl rfl ?_
            exact r_eI (r' := (((x_x_findsPlan T p0).2).1 0 15, (x_x_findsPlan T p0).2)) (by simp only [jn]; rw [if_neg c5_11, if_neg c10_12, if_pos c23_13, if_neg c33_14, if_pos c41_15]) (r_ri dX11_least_48 rfl rfl rfl rfl)
        · refine r_k dX11_least_36 kkX11_241 ?_
          exact r_eI (r' := ((-1000000), (x_x_findsPlan T p0).2)) (by simp only [jn]; rw [if_neg c5_11, if_neg c10_12, if_pos c23_13, if_pos c33_14]) (r_ri dX11_least_38 rfl rfl rfl rfl)
      · refine r_p dX11_least_26 rfl rfl ?_
        exact r_eI (r' := (x_x_refusal T 1, T)) (by simp only [jn]; rw [if_neg c5_11, if_neg c10_12, if_neg c23_13]) (r_ri dX11_least_27 rfl rfl rfl rfl)
def x_x_begins (T : St) (p0 : Int32) (p1 : Int32) : Int32 × St := jn (fun (KJ1 : Int32 × St) => if (x_x_isTime T p0) = 0 then (KJ1) else (if p1 < 0 then (KJ1) else (if (x_x_refusal T 1) = 0 then (if ((x_x_findsPlan T p0).1) = 0 then ((-1000000), (x_x_findsPlan T p0).2) else (if (((x_x_findsPlan T p0).2).1 557 1) ≤ p1 then ((-1000000), (x_x_findsPlan T p0).2) else (((x_x_findsPlan T p0).2).2.2.1 562 (p1 : Int32).toNatClampNeg, (x_x_findsPlan T p0).2))) else (x_x_refusal T 1, T)))) (if (x_x_refusal T 0) = 0 then (if ((x_x_findsPlan T p0).1) = 0 then ((-1000000), (x_x_findsPlan T p0).2) else (if (((x_x_findsPlan T p0).2).1 557 1) ≤ p1 then ((-1000000), (x_x_findsPlan T p0).2) else (((x_x_findsPlan T p0).2).2.2.1 562 (p1 : Int32).toNatClampNeg, (x_x_findsPlan T p0).2))) else (x_x_refusal T 0, T))
def ok_x_begins (T : St) (p0 : Int32) (p1 : Int32) : Prop := jn (fun (OJ1 : Prop) => (((x_x_isTime T p0) = 0 → OJ1) ∧ (¬ (x_x_isTime T p0) = 0 → ((p1 < 0 → OJ1) ∧ (¬ p1 < 0 → (ok_x_refusal T 1) ∧ ((x_x_refusal T 1) = 0 → (ok_x_findsPlan T p0) ∧ (¬ ((x_x_findsPlan T p0).1) = 0 → (¬ (((x_x_findsPlan T p0).2).1 557 1) ≤ p1 → (vp_in p1 12) ∧ True)))))))) ((ok_x_refusal T 0) ∧ ((x_x_refusal T 0) = 0 → (ok_x_findsPlan T p0) ∧ (¬ ((x_x_findsPlan T p0).1) = 0 → (¬ (((x_x_findsPlan T p0).2).1 557 1) ≤ p1 → (vp_in p1 12) ∧ True))))
theorem c_x_begins {X : Nat × (Nat → Int32)} {T : St} (p0 : Int32) (p1 : Int32) (kk : ok_x_begins T p0 p1) : tC X 12 mX11_begins [.ref 0, .int p0, .int p1] T (some (.int (x_x_begins T p0 p1).1)) ((x_x_begins T p0 p1).2) := by
  unfold ok_x_begins at kk
  refine tC_of ?_
  refine r_p dX11_begins_0 rfl rfl ?_
  refine r_p dX11_begins_1 rfl rfl ?_
  refine r_cs (d1 := 1) dX11_begins_2 csX11_218 rfl rfl (Nat.le_of_ble_eq_true rfl) (Nat.le_of_ble_eq_true rfl) (Nat.le_of_ble_eq_true rfl) (c_x_isTime p0) ?_
  obtain ⟨KJ1, hKJ1⟩ : ∃ q : Int32 × St, q = (if (x_x_refusal T 0) = 0 then (if ((x_x_findsPlan T p0).1) = 0 then ((-1000000), (x_x_findsPlan T p0).2) else (if (((x_x_findsPlan T p0).2).1 557 1) ≤ p1 then ((-1000000), (x_x_findsPlan T p0).2) else (((x_x_findsPlan T p0).2).2.2.1 562 (p1 : Int32).toNatClampNeg, (x_x_findsPlan T p0).2))) else (x_x_refusal T 0, T)) := ⟨_, rfl⟩
  obtain ⟨OJ1, hOJ1⟩ : ∃ q : Prop, q = ((ok_x_refusal T 0) ∧ ((x_x_refusal T 0) = 0 → (ok_x_findsPlan T p0) ∧ (¬ ((x_x_findsPlan T p0).1) = 0 → (¬ (((x_x_findsPlan T p0).2).1 557 1) ≤ p1 → (vp_in p1 12) ∧ True)))) := ⟨_, rfl⟩
  rw [← hOJ1] at kk
  simp only [jn] at kk
  have hJ1 : OJ1 → tR X 11 mX11_begins 16 [some (.ref 0), some (.int p0), some (.int p1), none] [.ref 0] T (some (.int KJ1.1)) KJ1.2 := by
    intro  kk
    rw [hOJ1] at kk
    try dsimp only at kk
    rw [hKJ1]
    refine r_ci (x := 0) dX11_begins_16 rfl ?_
    obtain ⟨q4, kk⟩ := kk
    refine r_cv (d1 := 2) dX11_begins_17 cvX11_221 rfl rfl rfl rfl (Nat.le_of_ble_eq_true rfl) (Nat.le_of_ble_eq_true rfl) (Nat.le_of_ble_eq_true rfl) (c_x_refusal 0 q4) ?_
    refine r_p dX11_begins_20 rfl rfl ?_
    refine r_p dX11_begins_21 rfl rfl ?_
    refine r_ieq dX11_begins_22 rfl (fun c22_6 => ?_) (fun c22_6 => ?_)
    · have kk := kk c22_6
      refine r_p dX11_begins_27 rfl rfl ?_
      refine r_p dX11_begins_28 rfl rfl ?_
      obtain ⟨q5, kk⟩ := kk
      refine r_cv (d1 := 11) dX11_begins_29 cvX11_238 rfl rfl rfl rfl (Nat.le_of_ble_eq_true rfl) (Nat.le_of_ble_eq_true rfl) (Nat.le_of_ble_eq_true rfl) (c_x_findsPlan p0 q5) ?_
      refine r_ieq dX11_begins_32 rfl (fun c32_7 => ?_) (fun c32_7 => ?_)
      · refine r_k dX11_begins_58 kkX11_241 ?_
        exact r_eI (r' := ((-1000000), (x_x_findsPlan T p0).2)) (by first | rw [if_pos c22_6, if_pos c32_7] | (dsimp only; rw [if_pos c22_6, if_pos c32_7])) (r_ri dX11_begins_60 rfl rfl rfl rfl)
      · have kk := kk c32_7
        refine r_p dX11_begins_35 rfl rfl ?_
        refine r_p dX11_begins_36 rfl rfl ?_
        refine r_get dX11_begins_37 fkX11_71 rfl rfl ?_
        refine r_get dX11_begins_40 fkX11_228 rfl rfl ?_
        refine r_cge dX11_begins_43 rfl (fun c43_8 => ?_) (fun c43_8 => ?_)
        · refine r_k dX11_begins_58 kkX11_241 ?_
          exact r_eI (r' := ((-1000000), (x_x_findsPlan T p0).2)) (by first | rw [if_pos c22_6, if_neg c32_7, if_pos c43_8] | (dsimp only; rw [if_pos c22_6, if_neg c32_7, if_pos c43_8])) (r_ri dX11_begins_60 rfl rfl rfl rfl)
        · have kk := kk c43_8
          refine r_p dX11_begins_46 rfl rfl ?_
          refine r_get dX11_begins_47 fkX11_71 rfl rfl ?_
          refine r_get dX11_begins_50 fkX11_231 rfl rfl ?_
          refine r_p dX11_begins_53 rfl rfl ?_
          obtain ⟨q6, kk⟩ := kk
          refine r_ia dX11_begins_54 rfl q6 ?_
          refine r_go dX11_begins_55 rfl ?_
          exact r_eI (r' := (((x_x_findsPlan T p0).2).2.2.1 562 (p1 : Int32).toNatClampNeg, (x_x_findsPlan T p0).2)) (by first | rw [if_pos c22_6, if_neg c32_7, if_neg c43_8] | (dsimp only; rw [if_pos c22_6, if_neg c32_7, if_neg c43_8])) (r_ri dX11_begins_60 rfl rfl rfl rfl)
    · refine r_p dX11_begins_25 rfl rfl ?_
      exact r_eI (r' := (x_x_refusal T 0, T)) (by first | rw [if_neg c22_6] | (dsimp only; rw [if_neg c22_6])) (r_ri dX11_begins_26 rfl rfl rfl rfl)
  refine r_eI (r' := jn (fun (KJ1 : Int32 × St) => if (x_x_isTime T p0) = 0 then (KJ1) else (if p1 < 0 then (KJ1) else (if (x_x_refusal T 1) = 0 then (if ((x_x_findsPlan T p0).1) = 0 then ((-1000000), (x_x_findsPlan T p0).2) else (if (((x_x_findsPlan T p0).2).1 557 1) ≤ p1 then ((-1000000), (x_x_findsPlan T p0).2) else (((x_x_findsPlan T p0).2).2.2.1 562 (p1 : Int32).toNatClampNeg, (x_x_findsPlan T p0).2))) else (x_x_refusal T 1, T)))) KJ1) (by rw [hKJ1]; unfold x_x_begins; rfl) ?_
  refine r_ieq dX11_begins_5 rfl (fun c5_9 => ?_) (fun c5_9 => ?_)
  · have kk := kk.1 c5_9
    show tR _ _ _ _ [some (.ref 0), some (.int p0), some (.int p1), none] [.ref 0] _ _ _
    exact r_eI (r' := KJ1) (by simp only [jn]; rw [if_pos c5_9]) ((hJ1  kk))
  · have kk := kk.2 c5_9
    refine r_p dX11_begins_8 rfl rfl ?_
    refine r_ilt dX11_begins_9 rfl (fun c9_10 => ?_) (fun c9_10 => ?_)
    · have kk := kk.1 c9_10
      show tR _ _ _ _ [some (.ref 0), some (.int p0), some (.int p1), none] [.ref 0] _ _ _
      exact r_eI (r' := KJ1) (by simp only [jn]; rw [if_neg c5_9, if_pos c9_10]) ((hJ1  kk))
    · have kk := kk.2 c9_10
      refine r_ci (x := 1) dX11_begins_12 rfl ?_
      refine r_go dX11_begins_13 rfl ?_
      obtain ⟨q7, kk⟩ := kk
      refine r_cv (d1 := 2) dX11_begins_17 cvX11_221 rfl rfl rfl rfl (Nat.le_of_ble_eq_true rfl) (Nat.le_of_ble_eq_true rfl) (Nat.le_of_ble_eq_true rfl) (c_x_refusal 1 q7) ?_
      refine r_p dX11_begins_20 rfl rfl ?_
      refine r_p dX11_begins_21 rfl rfl ?_
      refine r_ieq dX11_begins_22 rfl (fun c22_11 => ?_) (fun c22_11 => ?_)
      · have kk := kk c22_11
        refine r_p dX11_begins_27 rfl rfl ?_
        refine r_p dX11_begins_28 rfl rfl ?_
        obtain ⟨q8, kk⟩ := kk
        refine r_cv (d1 := 11) dX11_begins_29 cvX11_238 rfl rfl rfl rfl (Nat.le_of_ble_eq_true rfl) (Nat.le_of_ble_eq_true rfl) (Nat.le_of_ble_eq_true rfl) (c_x_findsPlan p0 q8) ?_
        refine r_ieq dX11_begins_32 rfl (fun c32_12 => ?_) (fun c32_12 => ?_)
        · refine r_k dX11_begins_58 kkX11_241 ?_
          exact r_eI (r' := ((-1000000), (x_x_findsPlan T p0).2)) (by simp only [jn]; rw [if_neg c5_9, if_neg c9_10, if_pos c22_11, if_pos c32_12]) (r_ri dX11_begins_60 rfl rfl rfl rfl)
        · have kk := kk c32_12
          refine r_p dX11_begins_35 rfl rfl ?_
          refine r_p dX11_begins_36 rfl rfl ?_
          refine r_get dX11_begins_37 fkX11_71 rfl rfl ?_
          refine r_get dX11_begins_40 fkX11_228 rfl rfl ?_
          refine r_cge dX11_begins_43 rfl (fun c43_13 => ?_) (fun c43_13 => ?_)
          · refine r_k dX11_begins_58 kkX11_241 ?_
            exact r_eI (r' := ((-1000000), (x_x_findsPlan T p0).2)) (by simp only [jn]; rw [if_neg c5_9, if_neg c9_10, if_pos c22_11, if_neg c32_12, if_pos c43_13]) (r_ri dX11_begins_60 rfl rfl rfl rfl)
          · have kk := kk c43_13
            refine r_p dX11_begins_46 rfl rfl ?_
            refine r_get dX11_begins_47 fkX11_71 rfl rfl ?_
            refine r_get dX11_begins_50 fkX11_231 rfl rfl ?_
            refine r_p dX11_begins_53 rfl rfl ?_
            obtain ⟨q9, kk⟩ := kk
            refine r_ia dX11_begins_54 rfl q9 ?_
            refine r_go dX11_begins_55 rfl ?_
            exact r_eI (r' := (((x_x_findsPlan T p0).2).2.2.1 562 (p1 : Int32).toNatClampNeg, (x_x_findsPlan T p0).2)) (by simp only [jn]; rw [if_neg c5_9, if_neg c9_10, if_pos c22_11, if_neg c32_12, if_neg c43_13]) (r_ri dX11_begins_60 rfl rfl rfl rfl)
      · refine r_p dX11_begins_25 rfl rfl ?_
        exact r_eI (r' := (x_x_refusal T 1, T)) (by simp only [jn]; rw [if_neg c5_9, if_neg c9_10, if_neg c22_11]) (r_ri dX11_begins_26 rfl rfl rfl rfl)
def x_x_earliest_58  (K : Int32 → St → Int32 × St) : Nat → Int32 → St → Int32 × St
  | 0, _, T => (0, T)
  | f + 1, v1, T => if 60 < v1 then (K v1 T) else (if ((x_x_isPossible T 76 (T.1 (T.2.1 0) 17) v1).1) = 0 then (x_x_earliest_58 K f (v1 + 1) ((x_x_isPossible T 76 (T.1 (T.2.1 0) 17) v1).2)) else (v1, (x_x_isPossible T 76 (T.1 (T.2.1 0) 17) v1).2))
def ok_x_earliest_58  (Kk : Int32 → St → Prop) : Nat → Int32 → St → Prop
  | 0, _, _ => False
  | f + 1, v1, T => ((60 < v1 → Kk v1 T) ∧ (¬ 60 < v1 → (sh (T.2.1 0) = .inr 1) ∧ (ok_x_isPossible T 76 (T.1 (T.2.1 0) 17) v1) ∧ (((x_x_isPossible T 76 (T.1 (T.2.1 0) 17) v1).1) = 0 → ok_x_earliest_58 Kk f (v1 + 1) ((x_x_isPossible T 76 (T.1 (T.2.1 0) 17) v1).2))))
theorem c_x_earliest_58 {X : Nat × (Nat → Int32)}  {K : Int32 → St → Int32 × St} {Kk : Int32 → St → Prop} (hk : ∀ (v1 : Int32) (T : St), Kk v1 T → tR X 11 mX11_earliest 91 [some (.ref 0), some (.int v1)] [] T (some (.int (K v1 T).1)) ((K v1 T).2)) : ∀ (f : Nat) (v1 : Int32) (T : St), ok_x_earliest_58  Kk f v1 T → tR X 11 mX11_earliest 58 [some (.ref 0), some (.int v1)] [] T (some (.int (x_x_earliest_58 K f v1 T).1)) ((x_x_earliest_58 K f v1 T).2) := by
  intro f
  induction f with
  | zero => intro v1 T kk; exact kk.elim
  | succ f ih =>
    intro v1 T kk
    rw [ok_x_earliest_58] at kk
    refine r_p dX11_earliest_58 rfl rfl ?_
    refine r_cb (x := 60) dX11_earliest_59 rfl ?_
    refine r_cgt dX11_earliest_61 rfl (fun c61_3 => ?_) (fun c61_3 => ?_)
    · have kk := kk.1 c61_3
      show tR _ _ _ _ [some (.ref 0), some (.int v1)] _ _ _ _
      exact r_eI (r' := K v1 T) (by rw [x_x_earliest_58]; rw [if_pos c61_3]) ((hk v1 T kk))
    · have kk := kk.2 c61_3
      refine r_p dX11_earliest_64 rfl rfl ?_
      refine r_p dX11_earliest_65 rfl rfl ?_
      refine r_get dX11_earliest_66 fkX11_40 rfl rfl ?_
      refine r_p dX11_earliest_69 rfl rfl ?_
      refine r_get dX11_earliest_70 fkX11_30 rfl rfl ?_
      obtain ⟨q8, kk⟩ := kk
      refine r_get dX11_earliest_73 fkX11_209 q8 rfl ?_
      refine r_p dX11_earliest_76 rfl rfl ?_
      obtain ⟨q9, kk⟩ := kk
      refine r_cv (d1 := 11) dX11_earliest_77 cvX11_267 rfl rfl rfl rfl (Nat.le_of_ble_eq_true rfl) (Nat.le_of_ble_eq_true rfl) (Nat.le_of_ble_eq_true rfl) (c_x_isPossible 76 (T.1 (T.2.1 0) 17) v1 q9) ?_
      refine r_ieq dX11_earliest_80 rfl (fun c80_4 => ?_) (fun c80_4 => ?_)
      · have kk := kk c80_4
        refine r_inc (y := 1) dX11_earliest_85 rfl rfl rfl ?_
        refine r_go dX11_earliest_88 rfl ?_
        show tR _ _ _ _ [some (.ref 0), some (.int (v1 + 1))] _ _ _ _
        exact r_eI (r' := x_x_earliest_58 K f (v1 + 1) ((x_x_isPossible T 76 (T.1 (T.2.1 0) 17) v1).2)) (by rw [x_x_earliest_58]; rw [if_neg c61_3, if_pos c80_4]) ((ih (v1 + 1) ((x_x_isPossible T 76 (T.1 (T.2.1 0) 17) v1).2) kk))
      · refine r_p dX11_earliest_83 rfl rfl ?_
        exact r_eI (r' := (v1, (x_x_isPossible T 76 (T.1 (T.2.1 0) 17) v1).2)) (by rw [x_x_earliest_58]; rw [if_neg c61_3, if_neg c80_4]) (r_ri dX11_earliest_84 rfl rfl rfl rfl)
def x_x_earliest (T : St)  : Int32 × St := if (x_bk_isRead T (T.2.1 0)) = 0 then ((-1000002), T) else (fun (T1 : St) => if ((x_x_isPossible (x_ki_giveAll T 78 (T.2.1 0) (T.2.2.1 ((T.2.1 0) + 1) (5 : Int32).toNatClampNeg)) 78 ((x_ki_giveAll T 78 (T.2.1 0) (T.2.2.1 ((T.2.1 0) + 1) (5 : Int32).toNatClampNeg)).1 ((x_ki_giveAll T 78 (T.2.1 0) (T.2.2.1 ((T.2.1 0) + 1) (5 : Int32).toNatClampNeg)).2.1 0) 17) 60).1) = 0 then ((-1000000), T1) else (x_x_earliest_58  (fun (w1_1 : Int32) (T201 : St) => ((-1000000), T201)) 1000 1 T1)) ((x_x_isPossible (x_ki_giveAll T 78 (T.2.1 0) (T.2.2.1 ((T.2.1 0) + 1) (5 : Int32).toNatClampNeg)) 78 ((x_ki_giveAll T 78 (T.2.1 0) (T.2.2.1 ((T.2.1 0) + 1) (5 : Int32).toNatClampNeg)).1 ((x_ki_giveAll T 78 (T.2.1 0) (T.2.2.1 ((T.2.1 0) + 1) (5 : Int32).toNatClampNeg)).2.1 0) 17) 60).2)
def ok_x_earliest (T : St)  : Prop := (ok_bk_isRead T (T.2.1 0)) ∧ (sh (T.2.1 0) = .inr 1) ∧ (¬ (x_bk_isRead T (T.2.1 0)) = 0 → (sh ((T.2.1 0) + 1) = .inl (0, 7)) ∧ (vp_in 5 7) ∧ (ok_ki_giveAll T 78 (T.2.1 0) (T.2.2.1 ((T.2.1 0) + 1) (5 : Int32).toNatClampNeg)) ∧ (sh ((x_ki_giveAll T 78 (T.2.1 0) (T.2.2.1 ((T.2.1 0) + 1) (5 : Int32).toNatClampNeg)).2.1 0) = .inr 1) ∧ (ok_x_isPossible (x_ki_giveAll T 78 (T.2.1 0) (T.2.2.1 ((T.2.1 0) + 1) (5 : Int32).toNatClampNeg)) 78 ((x_ki_giveAll T 78 (T.2.1 0) (T.2.2.1 ((T.2.1 0) + 1) (5 : Int32).toNatClampNeg)).1 ((x_ki_giveAll T 78 (T.2.1 0) (T.2.2.1 ((T.2.1 0) + 1) (5 : Int32).toNatClampNeg)).2.1 0) 17) 60) ∧ (fun (T1 : St) => (¬ ((x_x_isPossible (x_ki_giveAll T 78 (T.2.1 0) (T.2.2.1 ((T.2.1 0) + 1) (5 : Int32).toNatClampNeg)) 78 ((x_ki_giveAll T 78 (T.2.1 0) (T.2.2.1 ((T.2.1 0) + 1) (5 : Int32).toNatClampNeg)).1 ((x_ki_giveAll T 78 (T.2.1 0) (T.2.2.1 ((T.2.1 0) + 1) (5 : Int32).toNatClampNeg)).2.1 0) 17) 60).1) = 0 → ok_x_earliest_58  (fun (w1_1 : Int32) (T201 : St) => True) 1000 1 T1)) ((x_x_isPossible (x_ki_giveAll T 78 (T.2.1 0) (T.2.2.1 ((T.2.1 0) + 1) (5 : Int32).toNatClampNeg)) 78 ((x_ki_giveAll T 78 (T.2.1 0) (T.2.2.1 ((T.2.1 0) + 1) (5 : Int32).toNatClampNeg)).1 ((x_ki_giveAll T 78 (T.2.1 0) (T.2.2.1 ((T.2.1 0) + 1) (5 : Int32).toNatClampNeg)).2.1 0) 17) 60).2))
theorem c_x_earliest {X : Nat × (Nat → Int32)} {T : St}  (kk : ok_x_earliest T ) : tC X 12 mX11_earliest [.ref 0] T (some (.int (x_x_earliest T).1)) ((x_x_earliest T).2) := by
  unfold ok_x_earliest at kk
  refine tC_of ?_
  refine r_p dX11_earliest_0 rfl rfl ?_
  refine r_get dX11_earliest_1 fkX11_30 rfl rfl ?_
  obtain ⟨q1, kk⟩ := kk
  obtain ⟨q2, kk⟩ := kk
  refine r_cv (d1 := 1) dX11_earliest_4 cvX11_189 rfl rfl q2 rfl (Nat.le_of_ble_eq_true rfl) (Nat.le_of_ble_eq_true rfl) (Nat.le_of_ble_eq_true rfl) (c_bk_isRead (T.2.1 0) q1) ?_
  refine r_ine dX11_earliest_7 rfl (fun c7_1 => ?_) (fun c7_1 => ?_)
  · have kk := kk c7_1
    refine r_p dX11_earliest_13 rfl rfl ?_
    refine r_get dX11_earliest_14 fkX11_44 rfl rfl ?_
    refine r_p dX11_earliest_17 rfl rfl ?_
    refine r_get dX11_earliest_18 fkX11_30 rfl rfl ?_
    refine r_p dX11_earliest_21 rfl rfl ?_
    refine r_get dX11_earliest_22 fkX11_30 rfl rfl ?_
    refine r_get dX11_earliest_25 fkX11_212 q2 rfl ?_
    refine r_ci (x := 5) dX11_earliest_28 rfl ?_
    obtain ⟨q3, kk⟩ := kk
    obtain ⟨q4, kk⟩ := kk
    refine r_ia dX11_earliest_29 q3 q4 ?_
    obtain ⟨q5, kk⟩ := kk
    refine r_cv (d1 := 2) dX11_earliest_30 cvX11_263 rfl rfl rfl rfl (Nat.le_of_ble_eq_true rfl) (Nat.le_of_ble_eq_true rfl) (Nat.le_of_ble_eq_true rfl) (c_ki_giveAll 78 (T.2.1 0) (T.2.2.1 ((T.2.1 0) + 1) (5 : Int32).toNatClampNeg) q5) ?_
    refine r_p dX11_earliest_33 rfl rfl ?_
    refine r_p dX11_earliest_34 rfl rfl ?_
    refine r_get dX11_earliest_35 fkX11_44 rfl rfl ?_
    refine r_p dX11_earliest_38 rfl rfl ?_
    refine r_get dX11_earliest_39 fkX11_30 rfl rfl ?_
    obtain ⟨q6, kk⟩ := kk
    refine r_get dX11_earliest_42 fkX11_209 q6 rfl ?_
    refine r_cb (x := 60) dX11_earliest_45 rfl ?_
    obtain ⟨q7, kk⟩ := kk
    refine r_cv (d1 := 11) dX11_earliest_47 cvX11_267 rfl rfl rfl rfl (Nat.le_of_ble_eq_true rfl) (Nat.le_of_ble_eq_true rfl) (Nat.le_of_ble_eq_true rfl) (c_x_isPossible 78 ((x_ki_giveAll T 78 (T.2.1 0) (T.2.2.1 ((T.2.1 0) + 1) (5 : Int32).toNatClampNeg)).1 ((x_ki_giveAll T 78 (T.2.1 0) (T.2.2.1 ((T.2.1 0) + 1) (5 : Int32).toNatClampNeg)).2.1 0) 17) 60 q7) ?_
    refine r_eI (r' := (fun (T1 : St) => if ((x_x_isPossible (x_ki_giveAll T 78 (T.2.1 0) (T.2.2.1 ((T.2.1 0) + 1) (5 : Int32).toNatClampNeg)) 78 ((x_ki_giveAll T 78 (T.2.1 0) (T.2.2.1 ((T.2.1 0) + 1) (5 : Int32).toNatClampNeg)).1 ((x_ki_giveAll T 78 (T.2.1 0) (T.2.2.1 ((T.2.1 0) + 1) (5 : Int32).toNatClampNeg)).2.1 0) 17) 60).1) = 0 then ((-1000000), T1) else (x_x_earliest_58  (fun (w1_1 : Int32) (T201 : St) => ((-1000000), T201)) 1000 1 T1)) ((x_x_isPossible (x_ki_giveAll T 78 (T.2.1 0) (T.2.2.1 ((T.2.1 0) + 1) (5 : Int32).toNatClampNeg)) 78 ((x_ki_giveAll T 78 (T.2.1 0) (T.2.2.1 ((T.2.1 0) + 1) (5 : Int32).toNatClampNeg)).1 ((x_ki_giveAll T 78 (T.2.1 0) (T.2.2.1 ((T.2.1 0) + 1) (5 : Int32).toNatClampNeg)).2.1 0) 17) 60).2)) (by unfold x_x_earliest; rw [if_neg c7_1]) ?_
    generalize (x_x_isPossible (x_ki_giveAll T 78 (T.2.1 0) (T.2.2.1 ((T.2.1 0) + 1) (5 : Int32).toNatClampNeg)) 78 ((x_ki_giveAll T 78 (T.2.1 0) (T.2.2.1 ((T.2.1 0) + 1) (5 : Int32).toNatClampNeg)).1 ((x_ki_giveAll T 78 (T.2.1 0) (T.2.2.1 ((T.2.1 0) + 1) (5 : Int32).toNatClampNeg)).2.1 0) 17) 60).2 = T1 at kk ⊢
    try dsimp only at kk
    refine r_ine dX11_earliest_50 rfl (fun c50_2 => ?_) (fun c50_2 => ?_)
    · have kk := kk c50_2
      refine r_ci (x := 1) dX11_earliest_56 rfl ?_
      refine r_p dX11_earliest_57 rfl rfl ?_
      show tR _ _ _ _ [some (.ref 0), some (.int 1)] _ _ _ _
      refine r_eI (r' := x_x_earliest_58  (fun (w1_1 : Int32) (T201 : St) => ((-1000000), T201)) 1000 1 T1) (by first | rw [if_neg c50_2] | (dsimp only; rw [if_neg c50_2])) ((c_x_earliest_58  (fun w1_1 T201 kk => ?_) 1000 1 T1 kk))
      · refine r_k dX11_earliest_91 kkX11_241 ?_
        exact r_eI (r' := ((-1000000), T201)) rfl (r_ri dX11_earliest_93 rfl rfl rfl rfl)
    · refine r_k dX11_earliest_53 kkX11_241 ?_
      exact r_eI (r' := ((-1000000), T1)) (by first | rw [if_pos c50_2] | (dsimp only; rw [if_pos c50_2])) (r_ri dX11_earliest_55 rfl rfl rfl rfl)
  · refine r_k dX11_earliest_10 kkX11_193 ?_
    exact r_eI (r' := ((-1000002), T)) (by unfold x_x_earliest; rw [if_pos c7_1]) (r_ri dX11_earliest_12 rfl rfl rfl rfl)
