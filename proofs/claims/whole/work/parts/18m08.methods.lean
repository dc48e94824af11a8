def x_m_readDish_115 (l1 : Int32) (l2 : Int32) (K : Int32 → St → St) : Nat → Int32 → St → St
  | 0, _, T => T
  | f + 1, v3, T => if (T.1 571 16) = 0 then (if v3 = (-1000000) then (K v3 T) else (x_m_readDish_115 l1 l2 K f (x_m_kindOfWord (x_m_readStep T v3 l1)) (x_m_readStep T v3 l1))) else (K v3 T)
def ok_m_readDish_115 (l1 : Int32) (l2 : Int32) (Kk : Int32 → St → Prop) : Nat → Int32 → St → Prop
  | 0, _, _ => False
  | f + 1, v3, T => (((T.1 571 16) = 0 → ((v3 = (-1000000) → Kk v3 T) ∧ (¬ v3 = (-1000000) → (ok_m_readStep T v3 l1) ∧ (ok_m_kindOfWord (x_m_readStep T v3 l1)) ∧ ok_m_readDish_115 l1 l2 Kk f (x_m_kindOfWord (x_m_readStep T v3 l1)) (x_m_readStep T v3 l1)))) ∧ (¬ (T.1 571 16) = 0 → Kk v3 T))
theorem c_m_readDish_115 {X : Nat × (Nat → Int32)} (l1 : Int32) (l2 : Int32) {K : Int32 → St → St} {Kk : Int32 → St → Prop} (hk : ∀ (v3 : Int32) (T : St), Kk v3 T → tR X 5 mX12_readDish 142 [some (.ref 571), some (.int l1), some (.int l2), some (.int v3)] [] T none (K v3 T)) : ∀ (f : Nat) (v3 : Int32) (T : St), ok_m_readDish_115 l1 l2 Kk f v3 T → tR X 5 mX12_readDish 115 [some (.ref 571), some (.int l1), some (.int l2), some (.int v3)] [] T none (x_m_readDish_115 l1 l2 K f v3 T) := by
  intro f
  induction f with
  | zero => intro v3 T kk; exact kk.elim
  | succ f ih =>
    intro v3 T kk
    rw [ok_m_readDish_115] at kk
    refine r_p dX12_readDish_115 rfl rfl ?_
    refine r_get dX12_readDish_116 fkX12_159 rfl rfl ?_
    refine r_ine dX12_readDish_119 rfl (fun c119_4 => ?_) (fun c119_4 => ?_)
    · have kk := kk.2 c119_4
      show tR _ _ _ _ [some (.ref 571), some (.int l1), some (.int l2), some (.int v3)] _ _ _ _
      exact r_eV (r' := K v3 T) (by rw [x_m_readDish_115]; rw [if_neg c119_4]) ((hk v3 T kk))
    · have kk := kk.1 c119_4
      refine r_p dX12_readDish_122 rfl rfl ?_
      refine r_k dX12_readDish_123 kkX12_137 ?_
      refine r_ceq dX12_readDish_125 rfl (fun c125_5 => ?_) (fun c125_5 => ?_)
      · have kk := kk.1 c125_5
        show tR _ _ _ _ [some (.ref 571), some (.int l1), some (.int l2), some (.int v3)] _ _ _ _
        exact r_eV (r' := K v3 T) (by rw [x_m_readDish_115]; rw [if_pos c119_4, if_pos c125_5]) ((hk v3 T kk))
      · have kk := kk.2 c125_5
        refine r_p dX12_readDish_128 rfl rfl ?_
        refine r_p dX12_readDish_129 rfl rfl ?_
        refine r_p dX12_readDish_130 rfl rfl ?_
        obtain ⟨q12, kk⟩ := kk
        refine r_cv (d1 := 5) dX12_readDish_131 cvX12_201 rfl rfl rfl rfl (Nat.le_of_ble_eq_true rfl) (Nat.le_of_ble_eq_true rfl) (Nat.le_of_ble_eq_true rfl) (c_m_readStep v3 l1 q12) ?_
        refine r_p dX12_readDish_134 rfl rfl ?_
        obtain ⟨q13, kk⟩ := kk
        refine r_cv (d1 := 2) dX12_readDish_135 cvX12_197 rfl rfl rfl rfl (Nat.le_of_ble_eq_true rfl) (Nat.le_of_ble_eq_true rfl) (Nat.le_of_ble_eq_true rfl) (c_m_kindOfWord  q13) ?_
        refine r_p dX12_readDish_138 rfl rfl ?_
        refine r_go dX12_readDish_139 rfl ?_
        show tR _ _ _ _ [some (.ref 571), some (.int l1), some (.int l2), some (.int (x_m_kindOfWord (x_m_readStep T v3 l1)))] _ _ _ _
        exact r_eV (r' := x_m_readDish_115 l1 l2 K f (x_m_kindOfWord (x_m_readStep T v3 l1)) (x_m_readStep T v3 l1)) (by rw [x_m_readDish_115]; rw [if_pos c119_4, if_neg c125_5]) ((ih (x_m_kindOfWord (x_m_readStep T v3 l1)) (x_m_readStep T v3 l1) kk))
def x_m_readDish (T : St)  : St := jn (fun (KJ1 : St → St) => if (T.2.2.1 576 (16 : Int32).toNatClampNeg) = 8 then (KJ1 (x_m_bad T 3)) else (KJ1 T)) (fun (T301 : St) => (fun (T1 : St) => (fun (T2 : St) => (fun (T3 : St) => if ((x_m_mustEnd T3).1 571 16) ≤ 0 then (fun (T4 : St) => (fun (T5 : St) => jn (fun (KJ2 : St → St) => if (x_m_kindOfWord T5) = (-1000000) then (KJ2 (x_m_bad T5 1)) else (KJ2 T5)) (fun (T302 : St) => x_m_readDish_115 ((x_m_must T301 1).2.2.1 576 (16 : Int32).toNatClampNeg) (18 + (5 * ((x_m_must T301 1).2.2.1 576 (16 : Int32).toNatClampNeg))) (fun (w1_3 : Int32) (T201 : St) => sA T201 576 (16 : Int32).toNatClampNeg ((T201.2.2.1 576 (16 : Int32).toNatClampNeg) + 1)) 1000 (x_m_kindOfWord T5) T302)) (sA T4 576 ((18 + (5 * ((x_m_must T301 1).2.2.1 576 (16 : Int32).toNatClampNeg))) + 3 : Int32).toNatClampNeg 0)) (sA (x_m_mustEnd T3) 576 ((18 + (5 * ((x_m_must T301 1).2.2.1 576 (16 : Int32).toNatClampNeg))) + 4 : Int32).toNatClampNeg ((x_m_mustEnd T3).2.2.1 576 (17 : Int32).toNatClampNeg)) else (x_m_mustEnd T3)) (x_m_number T2 ((18 + (5 * ((x_m_must T301 1).2.2.1 576 (16 : Int32).toNatClampNeg))) + 2) 0 1)) (x_m_number T1 ((18 + (5 * ((x_m_must T301 1).2.2.1 576 (16 : Int32).toNatClampNeg))) + 1) 0 9)) (x_m_number (x_m_must T301 1) (18 + (5 * ((x_m_must T301 1).2.2.1 576 (16 : Int32).toNatClampNeg))) 0 2))
def ok_m_readDish (T : St)  : Prop := (vp_in 16 204) ∧ jn (fun (OJ1 : St → Prop) => (((T.2.2.1 576 (16 : Int32).toNatClampNeg) = 8 → OJ1 (x_m_bad T 3)) ∧ (¬ (T.2.2.1 576 (16 : Int32).toNatClampNeg) = 8 → OJ1 T))) (fun (T301 : St) => (ok_m_must T301 1) ∧ (vp_in 16 204) ∧ (ok_m_number (x_m_must T301 1) (18 + (5 * ((x_m_must T301 1).2.2.1 576 (16 : Int32).toNatClampNeg))) 0 2) ∧ (fun (T1 : St) => (ok_m_number T1 ((18 + (5 * ((x_m_must T301 1).2.2.1 576 (16 : Int32).toNatClampNeg))) + 1) 0 9) ∧ (fun (T2 : St) => (ok_m_number T2 ((18 + (5 * ((x_m_must T301 1).2.2.1 576 (16 : Int32).toNatClampNeg))) + 2) 0 1) ∧ (fun (T3 : St) => (ok_m_mustEnd T3) ∧ (((x_m_mustEnd T3).1 571 16) ≤ 0 → (vp_in 17 204) ∧ (vp_in ((18 + (5 * ((x_m_must T301 1).2.2.1 576 (16 : Int32).toNatClampNeg))) + 4) 204) ∧ (fun (T4 : St) => (vp_in ((18 + (5 * ((x_m_must T301 1).2.2.1 576 (16 : Int32).toNatClampNeg))) + 3) 204) ∧ (fun (T5 : St) => (ok_m_kindOfWord T5) ∧ jn (fun (OJ2 : St → Prop) => (((x_m_kindOfWord T5) = (-1000000) → OJ2 (x_m_bad T5 1)) ∧ (¬ (x_m_kindOfWord T5) = (-1000000) → OJ2 T5))) (fun (T302 : St) => ok_m_readDish_115 ((x_m_must T301 1).2.2.1 576 (16 : Int32).toNatClampNeg) (18 + (5 * ((x_m_must T301 1).2.2.1 576 (16 : Int32).toNatClampNeg))) (fun (w1_3 : Int32) (T201 : St) => (vp_in 16 204) ∧ True) 1000 (x_m_kindOfWord T5) T302)) (sA T4 576 ((18 + (5 * ((x_m_must T301 1).2.2.1 576 (16 : Int32).toNatClampNeg))) + 3 : Int32).toNatClampNeg 0)) (sA (x_m_mustEnd T3) 576 ((18 + (5 * ((x_m_must T301 1).2.2.1 576 (16 : Int32).toNatClampNeg))) + 4 : Int32).toNatClampNeg ((x_m_mustEnd T3).2.2.1 576 (17 : Int32).toNatClampNeg)))) (x_m_number T2 ((18 + (5 * ((x_m_must T301 1).2.2.1 576 (16 : Int32).toNatClampNeg))) + 2) 0 1)) (x_m_number T1 ((18 + (5 * ((x_m_must T301 1).2.2.1 576 (16 : Int32).toNatClampNeg))) + 1) 0 9)) (x_m_number (x_m_must T301 1) (18 + (5 * ((x_m_must T301 1).2.2.1 576 (16 : Int32).toNatClampNeg))) 0 2))
theorem c_m_readDish {X : Nat × (Nat → Int32)} {T : St}  (kk : ok_m_readDish T ) : tC X 6 mX12_readDish [.ref 571] T none (x_m_readDish T) := by
  unfold ok_m_readDish at kk
  refine tC_of ?_
  refine r_p dX12_readDish_0 rfl rfl ?_
  refine r_get dX12_readDish_1 fkX12_22 rfl rfl ?_
  refine r_cb (x := 16) dX12_readDish_4 rfl ?_
  obtain ⟨q1, kk⟩ := kk
  refine r_ia dX12_readDish_6 rfl q1 ?_
  refine r_cb (x := 8) dX12_readDish_7 rfl ?_
  obtain ⟨KJ1, hKJ1⟩ : ∃ q : St → St, q = (fun (T301 : St) => (fun (T1 : St) => (fun (T2 : St) => (fun (T3 : St) => if ((x_m_mustEnd T3).1 571 16) ≤ 0 then (fun (T4 : St) => (fun (T5 : St) => jn (fun (KJ2 : St → St) => if (x_m_kindOfWord T5) = (-1000000) then (KJ2 (x_m_bad T5 1)) else (KJ2 T5)) (fun (T302 : St) => x_m_readDish_115 ((x_m_must T301 1).2.2.1 576 (16 : Int32).toNatClampNeg) (18 + (5 * ((x_m_must T301 1).2.2.1 576 (16 : Int32).toNatClampNeg))) (fun (w1_3 : Int32) (T201 : St) => sA T201 576 (16 : Int32).toNatClampNeg ((T201.2.2.1 576 (16 : Int32).toNatClampNeg) + 1)) 1000 (x_m_kindOfWord T5) T302)) (sA T4 576 ((18 + (5 * ((x_m_must T301 1).2.2.1 576 (16 : Int32).toNatClampNeg))) + 3 : Int32).toNatClampNeg 0)) (sA (x_m_mustEnd T3) 576 ((18 + (5 * ((x_m_must T301 1).2.2.1 576 (16 : Int32).toNatClampNeg))) + 4 : Int32).toNatClampNeg ((x_m_mustEnd T3).2.2.1 576 (17 : Int32).toNatClampNeg)) else (x_m_mustEnd T3)) (x_m_number T2 ((18 + (5 * ((x_m_must T301 1).2.2.1 576 (16 : Int32).toNatClampNeg))) + 2) 0 1)) (x_m_number T1 ((18 + (5 * ((x_m_must T301 1).2.2.1 576 (16 : Int32).toNatClampNeg))) + 1) 0 9)) (x_m_number (x_m_must T301 1) (18 + (5 * ((x_m_must T301 1).2.2.1 576 (16 : Int32).toNatClampNeg))) 0 2)) := ⟨_, rfl⟩
  obtain ⟨OJ1, hOJ1⟩ : ∃ q : St → Prop, q = (fun (T301 : St) => (ok_m_must T301 1) ∧ (vp_in 16 204) ∧ (ok_m_number (x_m_must T301 1) (18 + (5 * ((x_m_must T301 1).2.2.1 576 (16 : Int32).toNatClampNeg))) 0 2) ∧ (fun (T1 : St) => (ok_m_number T1 ((18 + (5 * ((x_m_must T301 1).2.2.1 576 (16 : Int32).toNatClampNeg))) + 1) 0 9) ∧ (fun (T2 : St) => (ok_m_number T2 ((18 + (5 * ((x_m_must T301 1).2.2.1 576 (16 : Int32).toNatClampNeg))) + 2) 0 1) ∧ (fun (T3 : St) => (ok_m_mustEnd T3) ∧ (((x_m_mustEnd T3).1 571 16) ≤ 0 → (vp_in 17 204) ∧ (vp_in ((18 + (5 * ((x_m_must T301 1).2.2.1 576 (16 : Int32).toNatClampNeg))) + 4) 204) ∧ (fun (T4 : St) => (vp_in ((18 + (5 * ((x_m_must T301 1).2.2.1 576 (16 : Int32).toNatClampNeg))) + 3) 204) ∧ (fun (T5 : St) => (ok_m_kindOfWord T5) ∧ jn (fun (OJ2 : St → Prop) => (((x_m_kindOfWord T5) = (-1000000) → OJ2 (x_m_bad T5 1)) ∧ (¬ (x_m_kindOfWord T5) = (-1000000) → OJ2 T5))) (fun (T302 : St) => ok_m_readDish_115 ((x_m_must T301 1).2.2.1 576 (16 : Int32).toNatClampNeg) (18 + (5 * ((x_m_must T301 1).2.2.1 576 (16 : Int32).toNatClampNeg))) (fun (w1_3 : Int32) (T201 : St) => (vp_in 16 204) ∧ True) 1000 (x_m_kindOfWord T5) T302)) (sA T4 576 ((18 + (5 * ((x_m_must T301 1).2.2.1 576 (16 : Int32).toNatClampNeg))) + 3 : Int32).toNatClampNeg 0)) (sA (x_m_mustEnd T3) 576 ((18 + (5 * ((x_m_must T301 1).2.2.1 576 (16 : Int32).toNatClampNeg))) + 4 : Int32).toNatClampNeg ((x_m_mustEnd T3).2.2.1 576 (17 : Int32).toNatClampNeg)))) (x_m_number T2 ((18 + (5 * ((x_m_must T301 1).2.2.1 576 (16 : Int32).toNatClampNeg))) + 2) 0 1)) (x_m_number T1 ((18 + (5 * ((x_m_must T301 1).2.2.1 576 (16 : Int32).toNatClampNeg))) + 1) 0 9)) (x_m_number (x_m_must T301 1) (18 + (5 * ((x_m_must T301 1).2.2.1 576 (16 : Int32).toNatClampNeg))) 0 2)) := ⟨_, rfl⟩
  rw [← hOJ1] at kk
  simp only [jn] at kk
  have hJ1 : ∀ (T301 : St), OJ1 T301 → tR X 5 mX12_readDish 17 [some (.ref 571), none, none, none] [] T301 none (KJ1 T301) := by
    intro T301 kk
    rw [hOJ1] at kk
    try dsimp only at kk
    rw [hKJ1]
    refine r_p dX12_readDish_17 rfl rfl ?_
    refine r_ci (x := 1) dX12_readDish_18 rfl ?_
    obtain ⟨q2, kk⟩ := kk
    refine r_cv (d1 := 3) dX12_readDish_19 cvX12_172 rfl rfl rfl rfl (Nat.le_of_ble_eq_true rfl) (Nat.le_of_ble_eq_true rfl) (Nat.le_of_ble_eq_true rfl) (c_m_must 1 q2) ?_
    refine r_p dX12_readDish_22 rfl rfl ?_
    refine r_get dX12_readDish_23 fkX12_22 rfl rfl ?_
    refine r_cb (x := 16) dX12_readDish_26 rfl ?_
    obtain ⟨q3, kk⟩ := kk
    refine r_ia dX12_readDish_28 rfl q3 ?_
    refine r_p dX12_readDish_29 rfl rfl ?_
    refine r_cb (x := 18) dX12_readDish_30 rfl ?_
    refine r_ci (x := 5) dX12_readDish_32 rfl ?_
    refine r_p dX12_readDish_33 rfl rfl ?_
    refine r_p dX12_readDish_34 rfl rfl ?_
    refine r_p dX12_readDish_35 rfl rfl ?_
    refine r_p dX12_readDish_36 rfl rfl ?_
    refine r_p dX12_readDish_37 rfl rfl ?_
    refine r_p dX12_readDish_38 rfl rfl ?_
    refine r_ci (x := 0) dX12_readDish_39 rfl ?_
    refine r_ci (x := 2) dX12_readDish_40 rfl ?_
    obtain ⟨q4, kk⟩ := kk
    refine r_cv (d1 := 4) dX12_readDish_41 cvX12_190 rfl rfl rfl rfl (Nat.le_of_ble_eq_true rfl) (Nat.le_of_ble_eq_true rfl) (Nat.le_of_ble_eq_true rfl) (c_m_number (18 + (5 * ((x_m_must T301 1).2.2.1 576 (16 : Int32).toNatClampNeg))) 0 2 q4) ?_
    refine r_eV (r' := (fun (T1 : St) => (fun (T2 : St) => (fun (T3 : St) => if ((x_m_mustEnd T3).1 571 16) ≤ 0 then (fun (T4 : St) => (fun (T5 : St) => jn (fun (KJ2 : St → St) => if (x_m_kindOfWord T5) = (-1000000) then (KJ2 (x_m_bad T5 1)) else (KJ2 T5)) (fun (T302 : St) => x_m_readDish_115 ((x_m_must T301 1).2.2.1 576 (16 : Int32).toNatClampNeg) (18 + (5 * ((x_m_must T301 1).2.2.1 576 (16 : Int32).toNatClampNeg))) (fun (w1_3 : Int32) (T201 : St) => sA T201 576 (16 : Int32).toNatClampNeg ((T201.2.2.1 576 (16 : Int32).toNatClampNeg) + 1)) 1000 (x_m_kindOfWord T5) T302)) (sA T4 576 ((18 + (5 * ((x_m_must T301 1).2.2.1 576 (16 : Int32).toNatClampNeg))) + 3 : Int32).toNatClampNeg 0)) (sA (x_m_mustEnd T3) 576 ((18 + (5 * ((x_m_must T301 1).2.2.1 576 (16 : Int32).toNatClampNeg))) + 4 : Int32).toNatClampNeg ((x_m_mustEnd T3).2.2.1 576 (17 : Int32).toNatClampNeg)) else (x_m_mustEnd T3)) (x_m_number T2 ((18 + (5 * ((x_m_must T301 1).2.2.1 576 (16 : Int32).toNatClampNeg))) + 2) 0 1)) (x_m_number T1 ((18 + (5 * ((x_m_must T301 1).2.2.1 576 (16 : Int32).toNatClampNeg))) + 1) 0 9)) (x_m_number (x_m_must T301 1) (18 + (5 * ((x_m_must T301 1).2.2.1 576 (16 : Int32).toNatClampNeg))) 0 2)) rfl ?_
    generalize x_m_number (x_m_must T301 1) (18 + (5 * ((x_m_must T301 1).2.2.1 576 (16 : Int32).toNatClampNeg))) 0 2 = T1 at kk ⊢
    try dsimp only at kk
    refine r_p dX12_readDish_44 rfl rfl ?_
    refine r_p dX12_readDish_45 rfl rfl ?_
    refine r_ci (x := 1) dX12_readDish_46 rfl ?_
    refine r_p dX12_readDish_47 rfl rfl ?_
    refine r_ci (x := 0) dX12_readDish_48 rfl ?_
    refine r_cb (x := 9) dX12_readDish_49 rfl ?_
    obtain ⟨q5, kk⟩ := kk
    refine r_cv (d1 := 4) dX12_readDish_51 cvX12_190 rfl rfl rfl rfl (Nat.le_of_ble_eq_true rfl) (Nat.le_of_ble_eq_true rfl) (Nat.le_of_ble_eq_true rfl) (c_m_number ((18 + (5 * ((x_m_must T301 1).2.2.1 576 (16 : Int32).toNatClampNeg))) + 1) 0 9 q5) ?_
    refine r_eV (r' := (fun (T2 : St) => (fun (T3 : St) => if ((x_m_mustEnd T3).1 571 16) ≤ 0 then (fun (T4 : St) => (fun (T5 : St) => jn (fun (KJ2 : St → St) => if (x_m_kindOfWord T5) = (-1000000) then (KJ2 (x_m_bad T5 1)) else (KJ2 T5)) (fun (T302 : St) => x_m_readDish_115 ((x_m_must T301 1).2.2.1 576 (16 : Int32).toNatClampNeg) (18 + (5 * ((x_m_must T301 1).2.2.1 576 (16 : Int32).toNatClampNeg))) (fun (w1_3 : Int32) (T201 : St) => sA T201 576 (16 : Int32).toNatClampNeg ((T201.2.2.1 576 (16 : Int32).toNatClampNeg) + 1)) 1000 (x_m_kindOfWord T5) T302)) (sA T4 576 ((18 + (5 * ((x_m_must T301 1).2.2.1 576 (16 : Int32).toNatClampNeg))) + 3 : Int32).toNatClampNeg 0)) (sA (x_m_mustEnd T3) 576 ((18 + (5 * ((x_m_must T301 1).2.2.1 576 (16 : Int32).toNatClampNeg))) + 4 : Int32).toNatClampNeg ((x_m_mustEnd T3).2.2.1 576 (17 : Int32).toNatClampNeg)) else (x_m_mustEnd T3)) (x_m_number T2 ((18 + (5 * ((x_m_must T301 1).2.2.1 576 (16 : Int32).toNatClampNeg))) + 2) 0 1)) (x_m_number T1 ((18 + (5 * ((x_m_must T301 1).2.2.1 576 (16 : Int32).toNatClampNeg))) + 1) 0 9)) rfl ?_
    generalize x_m_number T1 ((18 + (5 * ((x_m_must T301 1).2.2.1 576 (16 : Int32).toNatClampNeg))) + 1) 0 9 = T2 at kk ⊢
    try dsimp only at kk
    refine r_p dX12_readDish_54 rfl rfl ?_
    refine r_p dX12_readDish_55 rfl rfl ?_
    refine r_ci (x := 2) dX12_readDish_56 rfl ?_
    refine r_p dX12_readDish_57 rfl rfl ?_
    refine r_ci (x := 0) dX12_readDish_58 rfl ?_
    refine r_ci (x := 1) dX12_readDish_59 rfl ?_
    obtain ⟨q6, kk⟩ := kk
    refine r_cv (d1 := 4) dX12_readDish_60 cvX12_190 rfl rfl rfl rfl (Nat.le_of_ble_eq_true rfl) (Nat.le_of_ble_eq_true rfl) (Nat.le_of_ble_eq_true rfl) (c_m_number ((18 + (5 * ((x_m_must T301 1).2.2.1 576 (16 : Int32).toNatClampNeg))) + 2) 0 1 q6) ?_
    refine r_eV (r' := (fun (T3 : St) => if ((x_m_mustEnd T3).1 571 16) ≤ 0 then (fun (T4 : St) => (fun (T5 : St) => jn (fun (KJ2 : St → St) => if (x_m_kindOfWord T5) = (-1000000) then (KJ2 (x_m_bad T5 1)) else (KJ2 T5)) (fun (T302 : St) => x_m_readDish_115 ((x_m_must T301 1).2.2.1 576 (16 : Int32).toNatClampNeg) (18 + (5 * ((x_m_must T301 1).2.2.1 576 (16 : Int32).toNatClampNeg))) (fun (w1_3 : Int32) (T201 : St) => sA T201 576 (16 : Int32).toNatClampNeg ((T201.2.2.1 576 (16 : Int32).toNatClampNeg) + 1)) 1000 (x_m_kindOfWord T5) T302)) (sA T4 576 ((18 + (5 * ((x_m_must T301 1).2.2.1 576 (16 : Int32).toNatClampNeg))) + 3 : Int32).toNatClampNeg 0)) (sA (x_m_mustEnd T3) 576 ((18 + (5 * ((x_m_must T301 1).2.2.1 576 (16 : Int32).toNatClampNeg))) + 4 : Int32).toNatClampNeg ((x_m_mustEnd T3).2.2.1 576 (17 : Int32).toNatClampNeg)) else (x_m_mustEnd T3)) (x_m_number T2 ((18 + (5 * ((x_m_must T301 1).2.2.1 576 (16 : Int32).toNatClampNeg))) + 2) 0 1)) rfl ?_
    generalize x_m_number T2 ((18 + (5 * ((x_m_must T301 1).2.2.1 576 (16 : Int32).toNatClampNeg))) + 2) 0 1 = T3 at kk ⊢
    try dsimp only at kk
    refine r_p dX12_readDish_63 rfl rfl ?_
    obtain ⟨q7, kk⟩ := kk
    refine r_cv (d1 := 4) dX12_readDish_64 cvX12_194 rfl rfl rfl rfl (Nat.le_of_ble_eq_true rfl) (Nat.le_of_ble_eq_true rfl) (Nat.le_of_ble_eq_true rfl) (c_m_mustEnd  q7) ?_
    refine r_p dX12_readDish_67 rfl rfl ?_
    refine r_get dX12_readDish_68 fkX12_159 rfl rfl ?_
    refine r_ile dX12_readDish_71 rfl (fun c71_2 => ?_) (fun c71_2 => ?_)
    · have kk := kk c71_2
      refine r_p dX12_readDish_75 rfl rfl ?_
      refine r_get dX12_readDish_76 fkX12_22 rfl rfl ?_
      refine r_p dX12_readDish_79 rfl rfl ?_
      refine r_ci (x := 4) dX12_readDish_80 rfl ?_
      refine r_p dX12_readDish_81 rfl rfl ?_
      refine r_p dX12_readDish_82 rfl rfl ?_
      refine r_get dX12_readDish_83 fkX12_22 rfl rfl ?_
      refine r_cb (x := 17) dX12_readDish_86 rfl ?_
      obtain ⟨q8, kk⟩ := kk
      refine r_ia dX12_readDish_88 rfl q8 ?_
      obtain ⟨q9, kk⟩ := kk
      refine r_ias dX12_readDish_89 rfl q9 ?_
      refine r_eV (r' := (fun (T4 : St) => (fun (T5 : St) => jn (fun (KJ2 : St → St) => if (x_m_kindOfWord T5) = (-1000000) then (KJ2 (x_m_bad T5 1)) else (KJ2 T5)) (fun (T302 : St) => x_m_readDish_115 ((x_m_must T301 1).2.2.1 576 (16 : Int32).toNatClampNeg) (18 + (5 * ((x_m_must T301 1).2.2.1 576 (16 : Int32).toNatClampNeg))) (fun (w1_3 : Int32) (T201 : St) => sA T201 576 (16 : Int32).toNatClampNeg ((T201.2.2.1 576 (16 : Int32).toNatClampNeg) + 1)) 1000 (x_m_kindOfWord T5) T302)) (sA T4 576 ((18 + (5 * ((x_m_must T301 1).2.2.1 576 (16 : Int32).toNatClampNeg))) + 3 : Int32).toNatClampNeg 0)) (sA (x_m_mustEnd T3) 576 ((18 + (5 * ((x_m_must T301 1).2.2.1 576 (16 : Int32).toNatClampNeg))) + 4 : Int32).toNatClampNeg ((x_m_mustEnd T3).2.2.1 576 (17 : Int32).toNatClampNeg))) (by first | rw [if_pos c71_2] | (dsimp only; rw [if_pos c71_2])) ?_
      generalize sA (x_m_mustEnd T3) 576 ((18 + (5 * ((x_m_must T301 1).2.2.1 576 (16 : Int32).toNatClampNeg))) + 4 : Int32).toNatClampNeg ((x_m_mustEnd T3).2.2.1 576 (17 : Int32).toNatClampNeg) = T4 at kk ⊢
      try dsimp only at kk
      refine r_p dX12_readDish_90 rfl rfl ?_
      refine r_get dX12_readDish_91 fkX12_22 rfl rfl ?_
      refine r_p dX12_readDish_94 rfl rfl ?_
      refine r_ci (x := 3) dX12_readDish_95 rfl ?_
      refine r_p dX12_readDish_96 rfl rfl ?_
      refine r_ci (x := 0) dX12_readDish_97 rfl ?_
      obtain ⟨q10, kk⟩ := kk
      refine r_ias dX12_readDish_98 rfl q10 ?_
      refine r_eV (r' := (fun (T5 : St) => jn (fun (KJ2 : St → St) => if (x_m_kindOfWord T5) = (-1000000) then (KJ2 (x_m_bad T5 1)) else (KJ2 T5)) (fun (T302 : St) => x_m_readDish_115 ((x_m_must T301 1).2.2.1 576 (16 : Int32).toNatClampNeg) (18 + (5 * ((x_m_must T301 1).2.2.1 576 (16 : Int32).toNatClampNeg))) (fun (w1_3 : Int32) (T201 : St) => sA T201 576 (16 : Int32).toNatClampNeg ((T201.2.2.1 576 (16 : Int32).toNatClampNeg) + 1)) 1000 (x_m_kindOfWord T5) T302)) (sA T4 576 ((18 + (5 * ((x_m_must T301 1).2.2.1 576 (16 : Int32).toNatClampNeg))) + 3 : Int32).toNatClampNeg 0)) rfl ?_
      generalize sA T4 576 ((18 + (5 * ((x_m_must T301 1).2.2.1 576 (16 : Int32).toNatClampNeg))) + 3 : Int32).toNatClampNeg 0 = T5 at kk ⊢
      try dsimp only at kk
      refine r_p dX12_readDish_99 rfl rfl ?_
      obtain ⟨q11, kk⟩ := kk
      refine r_cv (d1 := 2) dX12_readDish_100 cvX12_197 rfl rfl rfl rfl (Nat.le_of_ble_eq_true rfl) (Nat.le_of_ble_eq_true rfl) (Nat.le_of_ble_eq_true rfl) (c_m_kindOfWord  q11) ?_
      refine r_p dX12_readDish_103 rfl rfl ?_
      refine r_p dX12_readDish_104 rfl rfl ?_
      refine r_k dX12_readDish_105 kkX12_137 ?_
      obtain ⟨KJ2, hKJ2⟩ : ∃ q : St → St, q = (fun (T302 : St) => x_m_readDish_115 ((x_m_must T301 1).2.2.1 576 (16 : Int32).toNatClampNeg) (18 + (5 * ((x_m_must T301 1).2.2.1 576 (16 : Int32).toNatClampNeg))) (fun (w1_3 : Int32) (T201 : St) => sA T201 576 (16 : Int32).toNatClampNeg ((T201.2.2.1 576 (16 : Int32).toNatClampNeg) + 1)) 1000 (x_m_kindOfWord T5) T302) := ⟨_, rfl⟩
      obtain ⟨OJ2, hOJ2⟩ : ∃ q : St → Prop, q = (fun (T302 : St) => ok_m_readDish_115 ((x_m_must T301 1).2.2.1 576 (16 : Int32).toNatClampNeg) (18 + (5 * ((x_m_must T301 1).2.2.1 576 (16 : Int32).toNatClampNeg))) (fun (w1_3 : Int32) (T201 : St) => (vp_in 16 204) ∧ True) 1000 (x_m_kindOfWord T5) T302) := ⟨_, rfl⟩
      rw [← hOJ2] at kk
      simp only [jn] at kk
      have hJ2 : ∀ (T302 : St), OJ2 T302 → tR X 5 mX12_readDish 115 [some (.ref 571), some (.int ((x_m_must T301 1).2.2.1 576 (16 : Int32).toNatClampNeg)), some (.int (18 + (5 * ((x_m_must T301 1).2.2.1 576 (16 : Int32).toNatClampNeg)))), some (.int (x_m_kindOfWord T5))] [] T302 none (KJ2 T302) := by
        intro T302 kk
        rw [hOJ2] at kk
        try dsimp only at kk
        rw [hKJ2]
        show tR _ _ _ _ [some (.ref 571), some (.int ((x_m_must T301 1).2.2.1 576 (16 : Int32).toNatClampNeg)), some (.int (18 + (5 * ((x_m_must T301 1).2.2.1 576 (16 : Int32).toNatClampNeg)))), some (.int (x_m_kindOfWord T5))] _ _ _ _
        refine r_eV (r' := x_m_readDish_115 ((x_m_must T301 1).2.2.1 576 (16 : Int32).toNatClampNeg) (18 + (5 * ((x_m_must T301 1).2.2.1 576 (16 : Int32).toNatClampNeg))) (fun (w1_3 : Int32) (T201 : St) => sA T201 576 (16 : Int32).toNatClampNeg ((T201.2.2.1 576 (16 : Int32).toNatClampNeg) + 1)) 1000 (x_m_kindOfWord T5) T302) rfl ((c_m_readDish_115 ((x_m_must T301 1).2.2.1 576 (16 : Int32).toNatClampNeg) (18 + (5 * ((x_m_must T301 1).2.2.1 576 (16 : Int32).toNatClampNeg))) (fun w1_3 T201 kk => ?_) 1000 (x_m_kindOfWord T5) T302 kk))
        · try dsimp only at kk
          refine r_p dX12_readDish_142 rfl rfl ?_
          refine r_get dX12_readDish_143 fkX12_22 rfl rfl ?_
          refine r_cb (x := 16) dX12_readDish_146 rfl ?_
          refine r_p dX12_readDish_148 rfl rfl ?_
          obtain ⟨q14, kk⟩ := kk
          refine r_ia dX12_readDish_149 rfl q14 ?_
          refine r_ci (x := 1) dX12_readDish_150 rfl ?_
          refine r_p dX12_readDish_151 rfl rfl ?_
          refine r_ias dX12_readDish_152 rfl q14 ?_
          exact r_eV (r' := (sA T201 576 (16 : Int32).toNatClampNeg ((T201.2.2.1 576 (16 : Int32).toNatClampNeg) + 1))) rfl (r_rv dX12_readDish_153 rfl rfl rfl)
      refine r_eV (r' := jn (fun (KJ2 : St → St) => if (x_m_kindOfWord T5) = (-1000000) then (KJ2 (x_m_bad T5 1)) else (KJ2 T5)) KJ2) (by rw [hKJ2]) ?_
      refine r_cne dX12_readDish_107 rfl (fun c107_6 => ?_) (fun c107_6 => ?_)
      · have kk := kk.2 c107_6
        show tR _ _ _ _ [some (.ref 571), some (.int ((x_m_must T301 1).2.2.1 576 (16 : Int32).toNatClampNeg)), some (.int (18 + (5 * ((x_m_must T301 1).2.2.1 576 (16 : Int32).toNatClampNeg)))), some (.int (x_m_kindOfWord T5))] [] _ _ _
        exact r_eV (r' := KJ2 T5) (by simp only [jn]; rw [if_neg c107_6]) ((hJ2 T5 kk))
      · have kk := kk.1 c107_6
        refine r_p dX12_readDish_110 rfl rfl ?_
        refine r_ci (x := 1) dX12_readDish_111 rfl ?_
        refine r_cv (d1 := 1) dX12_readDish_112 cvX12_165 rfl rfl rfl rfl (Nat.le_of_ble_eq_true rfl) (Nat.le_of_ble_eq_true rfl) (Nat.le_of_ble_eq_true rfl) (c_m_bad 1) ?_
        show tR _ _ _ _ [some (.ref 571), some (.int ((x_m_must T301 1).2.2.1 576 (16 : Int32).toNatClampNeg)), some (.int (18 + (5 * ((x_m_must T301 1).2.2.1 576 (16 : Int32).toNatClampNeg)))), some (.int (x_m_kindOfWord T5))] [] _ _ _
        exact r_eV (r' := KJ2 (x_m_bad T5 1)) (by simp only [jn]; rw [if_pos c107_6]) ((hJ2 (x_m_bad T5 1) kk))
    · exact r_eV (r' := (x_m_mustEnd T3)) (by first | rw [if_neg c71_2] | (dsimp only; rw [if_neg c71_2])) (r_rv dX12_readDish_74 rfl rfl rfl)
  refine r_eV (r' := jn (fun (KJ1 : St → St) => if (T.2.2.1 576 (16 : Int32).toNatClampNeg) = 8 then (KJ1 (x_m_bad T 3)) else (KJ1 T)) KJ1) (by rw [hKJ1]; unfold x_m_readDish; rfl) ?_
  refine r_cne dX12_readDish_9 rfl (fun c9_7 => ?_) (fun c9_7 => ?_)
  · have kk := kk.2 c9_7
    show tR _ _ _ _ [some (.ref 571), none, none, none] [] _ _ _
    exact r_eV (r' := KJ1 T) (by simp only [jn]; rw [if_neg c9_7]) ((hJ1 T kk))
  · have kk := kk.1 c9_7
    refine r_p dX12_readDish_12 rfl rfl ?_
    refine r_ci (x := 3) dX12_readDish_13 rfl ?_
    refine r_cv (d1 := 1) dX12_readDish_14 cvX12_165 rfl rfl rfl rfl (Nat.le_of_ble_eq_true rfl) (Nat.le_of_ble_eq_true rfl) (Nat.le_of_ble_eq_true rfl) (c_m_bad 3) ?_
    show tR _ _ _ _ [some (.ref 571), none, none, none] [] _ _ _
    exact r_eV (r' := KJ1 (x_m_bad T 3)) (by simp only [jn]; rw [if_pos c9_7]) ((hJ1 (x_m_bad T 3) kk))
def x_m_fault (T : St)  : Int32 × St := ((sF T 571 0 0).1 571 10, sF T 571 0 0)
theorem c_m_fault {X : Nat × (Nat → Int32)} {T : St}  : tC X 1 mX12_fault [.ref 571] T (some (.int (x_m_fault T).1)) ((x_m_fault T).2) := by
  refine tC_of ?_
  refine r_p dX12_fault_0 rfl rfl ?_
  refine r_ci (x := 0) dX12_fault_1 rfl ?_
  refine r_put dX12_fault_2 fkX12_101 rfl rfl rfl (Nat.le_of_ble_eq_true rfl) rfl rfl ?_
  refine r_p dX12_fault_5 rfl rfl ?_
  refine r_get dX12_fault_6 fkX12_217 rfl rfl ?_
  exact r_eI (r' := ((sF T 571 0 0).1 571 10, sF T 571 0 0)) (by unfold x_m_fault; rfl) (r_ri dX12_fault_9 rfl rfl rfl rfl)
def x_m_dishOf (T : St) (p0 : Int32) (p1 : Int32) : Int32 := T.2.2.1 575 ((18 + (5 * p0)) + p1 : Int32).toNatClampNeg
def ok_m_dishOf (T : St) (p0 : Int32) (p1 : Int32) : Prop := (vp_in ((18 + (5 * p0)) + p1) 204) ∧ True
theorem c_m_dishOf {X : Nat × (Nat → Int32)} {T : St} (p0 : Int32) (p1 : Int32) (kk : ok_m_dishOf T p0 p1) : tC X 1 mX12_dishOf [.ref 571, .int p0, .int p1] T (some (.int (x_m_dishOf T p0 p1))) T := by
  unfold ok_m_dishOf at kk
  refine tC_of ?_
  refine r_p dX12_dishOf_0 rfl rfl ?_
  refine r_get dX12_dishOf_1 fkX12_19 rfl rfl ?_
  refine r_cb (x := 18) dX12_dishOf_4 rfl ?_
  refine r_ci (x := 5) dX12_dishOf_6 rfl ?_
  refine r_p dX12_dishOf_7 rfl rfl ?_
  refine r_p dX12_dishOf_8 rfl rfl ?_
  refine r_p dX12_dishOf_9 rfl rfl ?_
  refine r_p dX12_dishOf_10 rfl rfl ?_
  refine r_p dX12_dishOf_11 rfl rfl ?_
  obtain ⟨q1, kk⟩ := kk
  refine r_ia dX12_dishOf_12 rfl q1 ?_
  exact r_eIp (r' := (T.2.2.1 575 ((18 + (5 * p0)) + p1 : Int32).toNatClampNeg)) (by unfold x_m_dishOf; rfl) (r_ri dX12_dishOf_13 rfl rfl rfl rfl)
def x_m_stepOf (T : St) (p0 : Int32) (p1 : Int32) : Int32 := T.2.2.1 575 ((58 + (6 * p0)) + p1 : Int32).toNatClampNeg
def ok_m_stepOf (T : St) (p0 : Int32) (p1 : Int32) : Prop := (vp_in ((58 + (6 * p0)) + p1) 204) ∧ True
theorem c_m_stepOf {X : Nat × (Nat → Int32)} {T : St} (p0 : Int32) (p1 : Int32) (kk : ok_m_stepOf T p0 p1) : tC X 1 mX12_stepOf [.ref 571, .int p0, .int p1] T (some (.int (x_m_stepOf T p0 p1))) T := by
  unfold ok_m_stepOf at kk
  refine tC_of ?_
  refine r_p dX12_stepOf_0 rfl rfl ?_
  refine r_get dX12_stepOf_1 fkX12_19 rfl rfl ?_
  refine r_cb (x := 58) dX12_stepOf_4 rfl ?_
  refine r_cb (x := 6) dX12_stepOf_6 rfl ?_
  refine r_p dX12_stepOf_8 rfl rfl ?_
  refine r_p dX12_stepOf_9 rfl rfl ?_
  refine r_p dX12_stepOf_10 rfl rfl ?_
  refine r_p dX12_stepOf_11 rfl rfl ?_
  refine r_p dX12_stepOf_12 rfl rfl ?_
  obtain ⟨q1, kk⟩ := kk
  refine r_ia dX12_stepOf_13 rfl q1 ?_
  exact r_eIp (r' := (T.2.2.1 575 ((58 + (6 * p0)) + p1 : Int32).toNatClampNeg)) (by unfold x_m_stepOf; rfl) (r_ri dX12_stepOf_14 rfl rfl rfl rfl)
def x_m_isDish (T : St) (p0 : Int32) : Int32 := x_m_in T ((p0 : Int32).toInt64) 0 (((T.2.2.1 575 (16 : Int32).toNatClampNeg) - 1 : Int32).toInt64)
def ok_m_isDish (T : St) (p0 : Int32) : Prop := (vp_in 16 204) ∧ True
theorem c_m_isDish {X : Nat × (Nat → Int32)} {T : St} (p0 : Int32) (kk : ok_m_isDish T p0) : tC X 2 mX12_isDish [.ref 571, .int p0] T (some (.int (x_m_isDish T p0))) T := by
  unfold ok_m_isDish at kk
  refine tC_of ?_
  refine r_p dX12_isDish_0 rfl rfl ?_
  refine r_p dX12_isDish_1 rfl rfl ?_
  refine r_cl (x := 0) dX12_isDish_2 rfl ?_
  refine r_p dX12_isDish_3 rfl rfl ?_
  refine r_get dX12_isDish_4 fkX12_19 rfl rfl ?_
  refine r_cb (x := 16) dX12_isDish_7 rfl ?_
  obtain ⟨q1, kk⟩ := kk
  refine r_ia dX12_isDish_9 rfl q1 ?_
  refine r_ci (x := 1) dX12_isDish_10 rfl ?_
  refine r_p dX12_isDish_11 rfl rfl ?_
  refine r_p dX12_isDish_12 rfl rfl ?_
  refine r_cs (d1 := 1) dX12_isDish_13 csX12_111 rfl rfl (Nat.le_of_ble_eq_true rfl) (Nat.le_of_ble_eq_true rfl) (Nat.le_of_ble_eq_true rfl) (c_m_in ((p0 : Int32).toInt64) 0 (((T.2.2.1 575 (16 : Int32).toNatClampNeg) - 1 : Int32).toInt64)) ?_
  exact r_eIp (r' := (x_m_in T ((p0 : Int32).toInt64) 0 (((T.2.2.1 575 (16 : Int32).toNatClampNeg) - 1 : Int32).toInt64))) (by unfold x_m_isDish; rfl) (r_ri dX12_isDish_16 rfl (nar_b (b_m_in T ((p0 : Int32).toInt64) 0 (((T.2.2.1 575 (16 : Int32).toNatClampNeg) - 1 : Int32).toInt64))) rfl rfl)
theorem b_m_isDish (T : St) (p0 : Int32) : x_m_isDish T p0 = 0 ∨ x_m_isDish T p0 = 1 := by
  unfold x_m_isDish
  repeat' split
  all_goals (first | exact Or.inl rfl | exact Or.inr rfl | apply b_m_in)
def x_m_isStep (T : St) (p0 : Int32) : Int32 := x_m_in T ((p0 : Int32).toInt64) 0 (((T.2.2.1 575 (17 : Int32).toNatClampNeg) - 1 : Int32).toInt64)
def ok_m_isStep (T : St) (p0 : Int32) : Prop := (vp_in 17 204) ∧ True
theorem c_m_isStep {X : Nat × (Nat → Int32)} {T : St} (p0 : Int32) (kk : ok_m_isStep T p0) : tC X 2 mX12_isStep [.ref 571, .int p0] T (some (.int (x_m_isStep T p0))) T := by
  unfold ok_m_isStep at kk
  refine tC_of ?_
  refine r_p dX12_isStep_0 rfl rfl ?_
  refine r_p dX12_isStep_1 rfl rfl ?_
  refine r_cl (x := 0) dX12_isStep_2 rfl ?_
  refine r_p dX12_isStep_3 rfl rfl ?_
  refine r_get dX12_isStep_4 fkX12_19 rfl rfl ?_
  refine r_cb (x := 17) dX12_isStep_7 rfl ?_
  obtain ⟨q1, kk⟩ := kk
  refine r_ia dX12_isStep_9 rfl q1 ?_
  refine r_ci (x := 1) dX12_isStep_10 rfl ?_
  refine r_p dX12_isStep_11 rfl rfl ?_
  refine r_p dX12_isStep_12 rfl rfl ?_
  refine r_cs (d1 := 1) dX12_isStep_13 csX12_111 rfl rfl (Nat.le_of_ble_eq_true rfl) (Nat.le_of_ble_eq_true rfl) (Nat.le_of_ble_eq_true rfl) (c_m_in ((p0 : Int32).toInt64) 0 (((T.2.2.1 575 (17 : Int32).toNatClampNeg) - 1 : Int32).toInt64)) ?_
  exact r_eIp (r' := (x_m_in T ((p0 : Int32).toInt64) 0 (((T.2.2.1 575 (17 : Int32).toNatClampNeg) - 1 : Int32).toInt64))) (by unfold x_m_isStep; rfl) (r_ri dX12_isStep_16 rfl (nar_b (b_m_in T ((p0 : Int32).toInt64) 0 (((T.2.2.1 575 (17 : Int32).toNatClampNeg) - 1 : Int32).toInt64))) rfl rfl)
theorem b_m_isStep (T : St) (p0 : Int32) : x_m_isStep T p0 = 0 ∨ x_m_isStep T p0 = 1 := by
  unfold x_m_isStep
  repeat' split
  all_goals (first | exact Or.inl rfl | exact Or.inr rfl | apply b_m_in)
def x_m_waitsOf (T : St) (p0 : Int32) (p1 : Int32) : Int32 := if ((x_m_dishOf T p0 3) - 1) ≤ p1 then (1) else (1 + (x_m_stepOf T ((x_m_dishOf T p0 4) + p1) 2))
def ok_m_waitsOf (T : St) (p0 : Int32) (p1 : Int32) : Prop := (ok_m_dishOf T p0 3) ∧ (¬ ((x_m_dishOf T p0 3) - 1) ≤ p1 → (ok_m_dishOf T p0 4) ∧ (ok_m_stepOf T ((x_m_dishOf T p0 4) + p1) 2) ∧ True)
theorem c_m_waitsOf {X : Nat × (Nat → Int32)} {T : St} (p0 : Int32) (p1 : Int32) (kk : ok_m_waitsOf T p0 p1) : tC X 2 mX12_waitsOf [.ref 571, .int p0, .int p1] T (some (.int (x_m_waitsOf T p0 p1))) T := by
  unfold ok_m_waitsOf at kk
  refine tC_of ?_
  refine r_p dX12_waitsOf_0 rfl rfl ?_
  refine r_p dX12_waitsOf_1 rfl rfl ?_
  refine r_p dX12_waitsOf_2 rfl rfl ?_
  refine r_ci (x := 3) dX12_waitsOf_3 rfl ?_
  obtain ⟨q1, kk⟩ := kk
  refine r_cv (d1 := 1) dX12_waitsOf_4 cvX12_228 rfl rfl rfl rfl (Nat.le_of_ble_eq_true rfl) (Nat.le_of_ble_eq_true rfl) (Nat.le_of_ble_eq_true rfl) (c_m_dishOf p0 3 q1) ?_
  refine r_ci (x := 1) dX12_waitsOf_7 rfl ?_
  refine r_p dX12_waitsOf_8 rfl rfl ?_
  refine r_cge dX12_waitsOf_9 rfl (fun c9_1 => ?_) (fun c9_1 => ?_)
  · refine r_ci (x := 1) dX12_waitsOf_30 rfl ?_
    exact r_eIp (r' := 1) (by unfold x_m_waitsOf; rw [if_pos c9_1]) (r_ri dX12_waitsOf_31 rfl rfl rfl rfl)
  · have kk := kk c9_1
    refine r_ci (x := 1) dX12_waitsOf_12 rfl ?_
    refine r_p dX12_waitsOf_13 rfl rfl ?_
    refine r_p dX12_waitsOf_14 rfl rfl ?_
    refine r_p dX12_waitsOf_15 rfl rfl ?_
    refine r_ci (x := 4) dX12_waitsOf_16 rfl ?_
    obtain ⟨q2, kk⟩ := kk
    refine r_cv (d1 := 1) dX12_waitsOf_17 cvX12_228 rfl rfl rfl rfl (Nat.le_of_ble_eq_true rfl) (Nat.le_of_ble_eq_true rfl) (Nat.le_of_ble_eq_true rfl) (c_m_dishOf p0 4 q2) ?_
    refine r_p dX12_waitsOf_20 rfl rfl ?_
    refine r_p dX12_waitsOf_21 rfl rfl ?_
    refine r_ci (x := 2) dX12_waitsOf_22 rfl ?_
    obtain ⟨q3, kk⟩ := kk
    refine r_cv (d1 := 1) dX12_waitsOf_23 cvX12_232 rfl rfl rfl rfl (Nat.le_of_ble_eq_true rfl) (Nat.le_of_ble_eq_true rfl) (Nat.le_of_ble_eq_true rfl) (c_m_stepOf ((x_m_dishOf T p0 4) + p1) 2 q3) ?_
    refine r_p dX12_waitsOf_26 rfl rfl ?_
    refine r_go dX12_waitsOf_27 rfl ?_
    exact r_eIp (r' := (1 + (x_m_stepOf T ((x_m_dishOf T p0 4) + p1) 2))) (by unfold x_m_waitsOf; rw [if_neg c9_1]) (r_ri dX12_waitsOf_31 rfl rfl rfl rfl)
def x_m_choicesOf (T : St) (p0 : Int32) : Int32 := ((1 + (x_m_dishOf T p0 0)) * (x_m_waitsOf T p0 0)) * (x_m_waitsOf T p0 1)
def ok_m_choicesOf (T : St) (p0 : Int32) : Prop := (ok_m_dishOf T p0 0) ∧ (ok_m_waitsOf T p0 0) ∧ (ok_m_waitsOf T p0 1) ∧ True
theorem c_m_choicesOf {X : Nat × (Nat → Int32)} {T : St} (p0 : Int32) (kk : ok_m_choicesOf T p0) : tC X 3 mX12_choicesOf [.ref 571, .int p0] T (some (.int (x_m_choicesOf T p0))) T := by
  unfold ok_m_choicesOf at kk
  refine tC_of ?_
  refine r_ci (x := 1) dX12_choicesOf_0 rfl ?_
  refine r_p dX12_choicesOf_1 rfl rfl ?_
  refine r_p dX12_choicesOf_2 rfl rfl ?_
  refine r_ci (x := 0) dX12_choicesOf_3 rfl ?_
  obtain ⟨q1, kk⟩ := kk
  refine r_cv (d1 := 1) dX12_choicesOf_4 cvX12_228 rfl rfl rfl rfl (Nat.le_of_ble_eq_true rfl) (Nat.le_of_ble_eq_true rfl) (Nat.le_of_ble_eq_true rfl) (c_m_dishOf p0 0 q1) ?_
  refine r_p dX12_choicesOf_7 rfl rfl ?_
  refine r_p dX12_choicesOf_8 rfl rfl ?_
  refine r_p dX12_choicesOf_9 rfl rfl ?_
  refine r_ci (x := 0) dX12_choicesOf_10 rfl ?_
  obtain ⟨q2, kk⟩ := kk
  refine r_cv (d1 := 2) dX12_choicesOf_11 cvX12_235 rfl rfl rfl rfl (Nat.le_of_ble_eq_true rfl) (Nat.le_of_ble_eq_true rfl) (Nat.le_of_ble_eq_true rfl) (c_m_waitsOf p0 0 q2) ?_
  refine r_p dX12_choicesOf_14 rfl rfl ?_
  refine r_p dX12_choicesOf_15 rfl rfl ?_
  refine r_p dX12_choicesOf_16 rfl rfl ?_
  refine r_ci (x := 1) dX12_choicesOf_17 rfl ?_
  obtain ⟨q3, kk⟩ := kk
  refine r_cv (d1 := 2) dX12_choicesOf_18 cvX12_235 rfl rfl rfl rfl (Nat.le_of_ble_eq_true rfl) (Nat.le_of_ble_eq_true rfl) (Nat.le_of_ble_eq_true rfl) (c_m_waitsOf p0 1 q3) ?_
  refine r_p dX12_choicesOf_21 rfl rfl ?_
  exact r_eIp (r' := (((1 + (x_m_dishOf T p0 0)) * (x_m_waitsOf T p0 0)) * (x_m_waitsOf T p0 1))) (by unfold x_m_choicesOf; rfl) (r_ri dX12_choicesOf_22 rfl rfl rfl rfl)
def x_m_dish (T : St) (p0 : Int32) (p1 : Int32) : Int32 × St := if (x_m_isDish (sF T 571 0 0) p0) = 0 then ((-1000001), sF T 571 0 0) else (if (x_m_in (sF T 571 0 0) ((p1 : Int32).toInt64) 0 5) = 0 then ((-1000001), sF T 571 0 0) else (if p1 = 5 then (x_m_choicesOf (sF T 571 0 0) p0, sF T 571 0 0) else (x_m_dishOf (sF T 571 0 0) p0 p1, sF T 571 0 0)))
def ok_m_dish (T : St) (p0 : Int32) (p1 : Int32) : Prop := (ok_m_isDish (sF T 571 0 0) p0) ∧ (¬ (x_m_isDish (sF T 571 0 0) p0) = 0 → (¬ (x_m_in (sF T 571 0 0) ((p1 : Int32).toInt64) 0 5) = 0 → ((p1 = 5 → (ok_m_choicesOf (sF T 571 0 0) p0) ∧ True) ∧ (¬ p1 = 5 → (ok_m_dishOf (sF T 571 0 0) p0 p1) ∧ True))))
theorem c_m_dish {X : Nat × (Nat → Int32)} {T : St} (p0 : Int32) (p1 : Int32) (kk : ok_m_dish T p0 p1) : tC X 4 mX12_dish [.ref 571, .int p0, .int p1] T (some (.int (x_m_dish T p0 p1).1)) ((x_m_dish T p0 p1).2) := by
  unfold ok_m_dish at kk
  refine tC_of ?_
  refine r_p dX12_dish_0 rfl rfl ?_
  refine r_ci (x := 0) dX12_dish_1 rfl ?_
  refine r_put dX12_dish_2 fkX12_101 rfl rfl rfl (Nat.le_of_ble_eq_true rfl) rfl rfl ?_
  refine r_p dX12_dish_5 rfl rfl ?_
  refine r_p dX12_dish_6 rfl rfl ?_
  obtain ⟨q1, kk⟩ := kk
  refine r_cv (d1 := 2) dX12_dish_7 cvX12_238 rfl rfl rfl rfl (Nat.le_of_ble_eq_true rfl) (Nat.le_of_ble_eq_true rfl) (Nat.le_of_ble_eq_true rfl) (c_m_isDish p0 q1) ?_
  refine r_ieq dX12_dish_10 rfl (fun c10_1 => ?_) (fun c10_1 => ?_)
  · refine r_k dX12_dish_25 kkX12_121 ?_
    refine r_go dX12_dish_27 rfl ?_
    exact r_eI (r' := ((-1000001), sF T 571 0 0)) (by unfold x_m_dish; rw [if_pos c10_1]) (r_ri dX12_dish_49 rfl rfl rfl rfl)
  · have kk := kk c10_1
    refine r_p dX12_dish_13 rfl rfl ?_
    refine r_p dX12_dish_14 rfl rfl ?_
    refine r_cl (x := 0) dX12_dish_15 rfl ?_
    refine r_kl dX12_dish_16 klX12_241 ?_
    refine r_cs (d1 := 1) dX12_dish_19 csX12_111 rfl rfl (Nat.le_of_ble_eq_true rfl) (Nat.le_of_ble_eq_true rfl) (Nat.le_of_ble_eq_true rfl) (c_m_in ((p1 : Int32).toInt64) 0 5) ?_
    refine r_ine dX12_dish_22 rfl (fun c22_2 => ?_) (fun c22_2 => ?_)
    · have kk := kk c22_2
      refine r_p dX12_dish_30 rfl rfl ?_
      refine r_ci (x := 5) dX12_dish_31 rfl ?_
      refine r_cne dX12_dish_32 rfl (fun c32_3 => ?_) (fun c32_3 => ?_)
      · have kk := kk.2 c32_3
        refine r_p dX12_dish_43 rfl rfl ?_
        refine r_p dX12_dish_44 rfl rfl ?_
        refine r_p dX12_dish_45 rfl rfl ?_
        obtain ⟨q2, kk⟩ := kk
        refine r_cv (d1 := 1) dX12_dish_46 cvX12_228 rfl rfl rfl rfl (Nat.le_of_ble_eq_true rfl) (Nat.le_of_ble_eq_true rfl) (Nat.le_of_ble_eq_true rfl) (c_m_dishOf p0 p1 q2) ?_
        exact r_eI (r' := (x_m_dishOf (sF T 571 0 0) p0 p1, sF T 571 0 0)) (by unfold x_m_dish; rw [if_neg c10_1, if_neg c22_2, if_neg c32_3]) (r_ri dX12_dish_49 rfl rfl rfl rfl)
      · have kk := kk.1 c32_3
        refine r_p dX12_dish_35 rfl rfl ?_
        refine r_p dX12_dish_36 rfl rfl ?_
        obtain ⟨q3, kk⟩ := kk
        refine r_cv (d1 := 3) dX12_dish_37 cvX12_243 rfl rfl rfl rfl (Nat.le_of_ble_eq_true rfl) (Nat.le_of_ble_eq_true rfl) (Nat.le_of_ble_eq_true rfl) (c_m_choicesOf p0 q3) ?_
        refine r_go dX12_dish_40 rfl ?_
        exact r_eI (r' := (x_m_choicesOf (sF T 571 0 0) p0, sF T 571 0 0)) (by unfold x_m_dish; rw [if_neg c10_1, if_neg c22_2, if_pos c32_3]) (r_ri dX12_dish_49 rfl rfl rfl rfl)
    · refine r_k dX12_dish_25 kkX12_121 ?_
      refine r_go dX12_dish_27 rfl ?_
      exact r_eI (r' := ((-1000001), sF T 571 0 0)) (by unfold x_m_dish; rw [if_neg c10_1, if_pos c22_2]) (r_ri dX12_dish_49 rfl rfl rfl rfl)
def x_m_step (T : St) (p0 : Int32) (p1 : Int32) : Int32 × St := if (x_m_isStep (sF T 571 0 0) p0) = 0 then ((-1000001), sF T 571 0 0) else (if (x_m_in (sF T 571 0 0) ((p1 : Int32).toInt64) 0 4) = 0 then ((-1000001), sF T 571 0 0) else (x_m_stepOf (sF T 571 0 0) p0 (p1 + 1), sF T 571 0 0))
def ok_m_step (T : St) (p0 : Int32) (p1 : Int32) : Prop := (ok_m_isStep (sF T 571 0 0) p0) ∧ (¬ (x_m_isStep (sF T 571 0 0) p0) = 0 → (¬ (x_m_in (sF T 571 0 0) ((p1 : Int32).toInt64) 0 4) = 0 → (ok_m_stepOf (sF T 571 0 0) p0 (p1 + 1)) ∧ True))
theorem c_m_step {X : Nat × (Nat → Int32)} {T : St} (p0 : Int32) (p1 : Int32) (kk : ok_m_step T p0 p1) : tC X 3 mX12_step [.ref 571, .int p0, .int p1] T (some (.int (x_m_step T p0 p1).1)) ((x_m_step T p0 p1).2) := by
  unfold ok_m_step at kk
  refine tC_of ?_
  refine r_p dX12_step_0 rfl rfl ?_
  refine r_ci (x := 0) dX12_step_1 rfl ?_
  refine r_put dX12_step_2 fkX12_101 rfl rfl rfl (Nat.le_of_ble_eq_true rfl) rfl rfl ?_
  refine r_p dX12_step_5 rfl rfl ?_
  refine r_p dX12_step_6 rfl rfl ?_
  obtain ⟨q1, kk⟩ := kk
  refine r_cv (d1 := 2) dX12_step_7 cvX12_246 rfl rfl rfl rfl (Nat.le_of_ble_eq_true rfl) (Nat.le_of_ble_eq_true rfl) (Nat.le_of_ble_eq_true rfl) (c_m_isStep p0 q1) ?_
  refine r_ieq dX12_step_10 rfl (fun c10_1 => ?_) (fun c10_1 => ?_)
  · refine r_k dX12_step_36 kkX12_121 ?_
    exact r_eI (r' := ((-1000001), sF T 571 0 0)) (by unfold x_m_step; rw [if_pos c10_1]) (r_ri dX12_step_38 rfl rfl rfl rfl)
  · have kk := kk c10_1
    refine r_p dX12_step_13 rfl rfl ?_
    refine r_p dX12_step_14 rfl rfl ?_
    refine r_cl (x := 0) dX12_step_15 rfl ?_
    refine r_kl dX12_step_16 klX12_249 ?_
    refine r_cs (d1 := 1) dX12_step_19 csX12_111 rfl rfl (Nat.le_of_ble_eq_true rfl) (Nat.le_of_ble_eq_true rfl) (Nat.le_of_ble_eq_true rfl) (c_m_in ((p1 : Int32).toInt64) 0 4) ?_
    refine r_ieq dX12_step_22 rfl (fun c22_2 => ?_) (fun c22_2 => ?_)
    · refine r_k dX12_step_36 kkX12_121 ?_
      exact r_eI (r' := ((-1000001), sF T 571 0 0)) (by unfold x_m_step; rw [if_neg c10_1, if_pos c22_2]) (r_ri dX12_step_38 rfl rfl rfl rfl)
    · have kk := kk c22_2
      refine r_p dX12_step_25 rfl rfl ?_
      refine r_p dX12_step_26 rfl rfl ?_
      refine r_p dX12_step_27 rfl rfl ?_
      refine r_ci (x := 1) dX12_step_28 rfl ?_
      refine r_p dX12_step_29 rfl rfl ?_
      obtain ⟨q2, kk⟩ := kk
      refine r_cv (d1 := 1) dX12_step_30 cvX12_232 rfl rfl rfl rfl (Nat.le_of_ble_eq_true rfl) (Nat.le_of_ble_eq_true rfl) (Nat.le_of_ble_eq_true rfl) (c_m_stepOf p0 (p1 + 1) q2) ?_
      refine r_go dX12_step_33 rfl ?_
      exact r_eI (r' := (x_m_stepOf (sF T 571 0 0) p0 (p1 + 1), sF T 571 0 0)) (by unfold x_m_step; rw [if_neg c10_1, if_neg c22_2]) (r_ri dX12_step_38 rfl rfl rfl rfl)
def x_m_bigOnes (T : St) (p0 : Int32) (p1 : Int32) : Int32 := if p0 < p1 then (T.2.2.1 575 (1 : Int32).toNatClampNeg) - 0 else (T.2.2.1 575 (1 : Int32).toNatClampNeg) - 1
def ok_m_bigOnes (T : St) (p0 : Int32) (p1 : Int32) : Prop := (vp_in 1 204) ∧ True
theorem c_m_bigOnes {X : Nat × (Nat → Int32)} {T : St} (p0 : Int32) (p1 : Int32) (kk : ok_m_bigOnes T p0 p1) : tC X 1 mX12_bigOnes [.ref 571, .int p0, .int p1] T (some (.int (x_m_bigOnes T p0 p1))) T := by
  unfold ok_m_bigOnes at kk
  refine tC_of ?_
  refine r_p dX12_bigOnes_0 rfl rfl ?_
  refine r_get dX12_bigOnes_1 fkX12_19 rfl rfl ?_
  refine r_ci (x := 1) dX12_bigOnes_4 rfl ?_
  obtain ⟨q1, kk⟩ := kk
  refine r_ia dX12_bigOnes_5 rfl q1 ?_
  refine r_p dX12_bigOnes_6 rfl rfl ?_
  refine r_p dX12_bigOnes_7 rfl rfl ?_
  refine r_clt dX12_bigOnes_8 rfl (fun c8_1 => ?_) (fun c8_1 => ?_)
  · refine r_ci (x := 0) dX12_bigOnes_15 rfl ?_
    refine r_p dX12_bigOnes_16 rfl rfl ?_
    exact r_eIp (r' := ((T.2.2.1 575 (1 : Int32).toNatClampNeg) - 0)) (by unfold x_m_bigOnes; rw [if_pos c8_1]) (r_ri dX12_bigOnes_17 rfl rfl rfl rfl)
  · refine r_ci (x := 1) dX12_bigOnes_11 rfl ?_
    refine r_go dX12_bigOnes_12 rfl ?_
    refine r_p dX12_bigOnes_16 rfl rfl ?_
    exact r_eIp (r' := ((T.2.2.1 575 (1 : Int32).toNatClampNeg) - 1)) (by unfold x_m_bigOnes; rw [if_neg c8_1]) (r_ri dX12_bigOnes_17 rfl rfl rfl rfl)
def x_m_handsAt_5 (T : St) (l1 : Int32) (l2 : Int32) (K : Int32 → Int32 → Int32) : Nat → Int32 → Int32 → Int32
  | 0, _, _ => 0
  | f + 1, v3, v4 => if (T.2.2.1 575 (7 : Int32).toNatClampNeg) ≤ v4 then (K v3 v4) else (if (x_m_in T ((l1 : Int32).toInt64) ((T.2.2.1 575 (8 + (2 * v4) : Int32).toNatClampNeg : Int32).toInt64) ((T.2.2.1 575 ((8 + (2 * v4)) + 1 : Int32).toNatClampNeg : Int32).toInt64)) = 0 then (x_m_handsAt_5 T l1 l2 K f (v3 - 0) (v4 + 1)) else (x_m_handsAt_5 T l1 l2 K f (v3 - 1) (v4 + 1)))
def ok_m_handsAt_5 (T : St) (l1 : Int32) (l2 : Int32) (Kk : Int32 → Int32 → Prop) : Nat → Int32 → Int32 → Prop
  | 0, _, _ => False
  | f + 1, v3, v4 => (vp_in 7 204) ∧ (((T.2.2.1 575 (7 : Int32).toNatClampNeg) ≤ v4 → Kk v3 v4) ∧ (¬ (T.2.2.1 575 (7 : Int32).toNatClampNeg) ≤ v4 → (vp_in (8 + (2 * v4)) 204) ∧ (vp_in ((8 + (2 * v4)) + 1) 204) ∧ (((x_m_in T ((l1 : Int32).toInt64) ((T.2.2.1 575 (8 + (2 * v4) : Int32).toNatClampNeg : Int32).toInt64) ((T.2.2.1 575 ((8 + (2 * v4)) + 1 : Int32).toNatClampNeg : Int32).toInt64)) = 0 → ok_m_handsAt_5 T l1 l2 Kk f (v3 - 0) (v4 + 1)) ∧ (¬ (x_m_in T ((l1 : Int32).toInt64) ((T.2.2.1 575 (8 + (2 * v4) : Int32).toNatClampNeg : Int32).toInt64) ((T.2.2.1 575 ((8 + (2 * v4)) + 1 : Int32).toNatClampNeg : Int32).toInt64)) = 0 → ok_m_handsAt_5 T l1 l2 Kk f (v3 - 1) (v4 + 1)))))
theorem c_m_handsAt_5 {X : Nat × (Nat → Int32)} (T : St) (l1 : Int32) (l2 : Int32) {K : Int32 → Int32 → Int32} {Kk : Int32 → Int32 → Prop} (hk : ∀ (v3 : Int32) (v4 : Int32), Kk v3 v4 → tR X 1 mX12_handsAt 67 [some (.ref 571), some (.int l1), some (.int l2), some (.int v3), some (.int v4)] [] T (some (.int (K v3 v4))) T) : ∀ (f : Nat) (v3 : Int32) (v4 : Int32), ok_m_handsAt_5 T l1 l2 Kk f v3 v4 → tR X 1 mX12_handsAt 5 [some (.ref 571), some (.int l1), some (.int l2), some (.int v3), some (.int v4)] [] T (some (.int (x_m_handsAt_5 T l1 l2 K f v3 v4))) T := by
  intro f
  induction f with
  | zero => intro v3 v4 kk; exact kk.elim
  | succ f ih =>
    intro v3 v4 kk
    rw [ok_m_handsAt_5] at kk
    refine r_p dX12_handsAt_5 rfl rfl ?_
    refine r_p dX12_handsAt_7 rfl rfl ?_
    refine r_get dX12_handsAt_8 fkX12_19 rfl rfl ?_
    refine r_cb (x := 7) dX12_handsAt_11 rfl ?_
    obtain ⟨q1, kk⟩ := kk
    refine r_ia dX12_handsAt_13 rfl q1 ?_
    refine r_cge dX12_handsAt_14 rfl (fun c14_1 => ?_) (fun c14_1 => ?_)
    · have kk := kk.1 c14_1
      show tR _ _ _ _ [some (.ref 571), some (.int l1), some (.int l2), some (.int v3), some (.int v4)] _ _ _ _
      exact r_eIp (r' := K v3 v4) (by rw [x_m_handsAt_5]; rw [if_pos c14_1]) ((hk v3 v4  kk))
    · have kk := kk.2 c14_1
      refine r_p dX12_handsAt_17 rfl rfl ?_
      refine r_p dX12_handsAt_18 rfl rfl ?_
      refine r_p dX12_handsAt_19 rfl rfl ?_
      refine r_p dX12_handsAt_20 rfl rfl ?_
      refine r_get dX12_handsAt_21 fkX12_19 rfl rfl ?_
      refine r_cb (x := 8) dX12_handsAt_24 rfl ?_
      refine r_ci (x := 2) dX12_handsAt_26 rfl ?_
      refine r_p dX12_handsAt_27 rfl rfl ?_
      refine r_p dX12_handsAt_29 rfl rfl ?_
      refine r_p dX12_handsAt_30 rfl rfl ?_
      obtain ⟨q2, kk⟩ := kk
      refine r_ia dX12_handsAt_31 rfl q2 ?_
      refine r_p dX12_handsAt_32 rfl rfl ?_
      refine r_p dX12_handsAt_33 rfl rfl ?_
      refine r_get dX12_handsAt_34 fkX12_19 rfl rfl ?_
      refine r_cb (x := 8) dX12_handsAt_37 rfl ?_
      refine r_ci (x := 2) dX12_handsAt_39 rfl ?_
      refine r_p dX12_handsAt_40 rfl rfl ?_
      refine r_p dX12_handsAt_42 rfl rfl ?_
      refine r_p dX12_handsAt_43 rfl rfl ?_
      refine r_ci (x := 1) dX12_handsAt_44 rfl ?_
      refine r_p dX12_handsAt_45 rfl rfl ?_
      obtain ⟨q3, kk⟩ := kk
      refine r_ia dX12_handsAt_46 rfl q3 ?_
      refine r_p dX12_handsAt_47 rfl rfl ?_
      refine r_cs (d1 := 1) dX12_handsAt_48 csX12_111 rfl rfl (Nat.le_of_ble_eq_true rfl) (Nat.le_of_ble_eq_true rfl) (Nat.le_of_ble_eq_true rfl) (c_m_in ((l1 : Int32).toInt64) ((T.2.2.1 575 (8 + (2 * v4) : Int32).toNatClampNeg : Int32).toInt64) ((T.2.2.1 575 ((8 + (2 * v4)) + 1 : Int32).toNatClampNeg : Int32).toInt64)) ?_
      refine r_ieq dX12_handsAt_51 rfl (fun c51_2 => ?_) (fun c51_2 => ?_)
      · have kk := kk.1 c51_2
        refine r_ci (x := 0) dX12_handsAt_58 rfl ?_
        refine r_p dX12_handsAt_59 rfl rfl ?_
        refine r_p dX12_handsAt_60 rfl rfl ?_
        refine r_inc (y := 1) dX12_handsAt_61 rfl rfl rfl ?_
        refine r_go dX12_handsAt_64 rfl ?_
        show tR _ _ _ _ [some (.ref 571), some (.int l1), some (.int l2), some (.int (v3 - 0)), some (.int (v4 + 1))] _ _ _ _
        exact r_eIp (r' := x_m_handsAt_5 T l1 l2 K f (v3 - 0) (v4 + 1)) (by rw [x_m_handsAt_5]; rw [if_neg c14_1, if_pos c51_2]) ((ih (v3 - 0) (v4 + 1)  kk))
      · have kk := kk.2 c51_2
        refine r_ci (x := 1) dX12_handsAt_54 rfl ?_
        refine r_go dX12_handsAt_55 rfl ?_
        refine r_p dX12_handsAt_59 rfl rfl ?_
        refine r_p dX12_handsAt_60 rfl rfl ?_
        refine r_inc (y := 1) dX12_handsAt_61 rfl rfl rfl ?_
        refine r_go dX12_handsAt_64 rfl ?_
        show tR _ _ _ _ [some (.ref 571), some (.int l1), some (.int l2), some (.int (v3 - 1)), some (.int (v4 + 1))] _ _ _ _
        exact r_eIp (r' := x_m_handsAt_5 T l1 l2 K f (v3 - 1) (v4 + 1)) (by rw [x_m_handsAt_5]; rw [if_neg c14_1, if_neg c51_2]) ((ih (v3 - 1) (v4 + 1)  kk))
def x_m_handsAt (T : St) (p0 : Int32) (p1 : Int32) : Int32 := x_m_handsAt_5 T p0 p1 (fun (w1_3 : Int32) (w1_4 : Int32) => if 0 ≤ w1_3 then (w1_3) else (0)) 1000 p1 0
def ok_m_handsAt (T : St) (p0 : Int32) (p1 : Int32) : Prop := ok_m_handsAt_5 T p0 p1 (fun (w1_3 : Int32) (w1_4 : Int32) => True) 1000 p1 0
theorem c_m_handsAt {X : Nat × (Nat → Int32)} {T : St} (p0 : Int32) (p1 : Int32) (kk : ok_m_handsAt T p0 p1) : tC X 2 mX12_handsAt [.ref 571, .int p0, .int p1] T (some (.int (x_m_handsAt T p0 p1))) T := by
  unfold ok_m_handsAt at kk
  refine tC_of ?_
  refine r_p dX12_handsAt_0 rfl rfl ?_
  refine r_p dX12_handsAt_1 rfl rfl ?_
  refine r_ci (x := 0) dX12_handsAt_2 rfl ?_
  refine r_p dX12_handsAt_3 rfl rfl ?_
  show tR _ _ _ _ [some (.ref 571), some (.int p0), some (.int p1), some (.int p1), some (.int 0)] _ _ _ _
  refine r_eIp (r' := x_m_handsAt_5 T p0 p1 (fun (w1_3 : Int32) (w1_4 : Int32) => if 0 ≤ w1_3 then (w1_3) else (0)) 1000 p1 0) (by unfold x_m_handsAt; rfl) ((c_m_handsAt_5 T p0 p1 (fun w1_3 w1_4 kk => ?_) 1000 p1 0  kk))
  · refine r_p dX12_handsAt_67 rfl rfl ?_
    refine r_ige dX12_handsAt_68 rfl (fun c68_3 => ?_) (fun c68_3 => ?_)
    · refine r_p dX12_handsAt_75 rfl rfl ?_
      exact r_eIp (r' := w1_3) (by first | rw [if_pos c68_3] | (dsimp only; rw [if_pos c68_3])) (r_ri dX12_handsAt_76 rfl rfl rfl rfl)
    · refine r_ci (x := 0) dX12_handsAt_71 rfl ?_
      refine r_go dX12_handsAt_72 rfl ?_
      exact r_eIp (r' := 0) (by first | rw [if_neg c68_3] | (dsimp only; rw [if_neg c68_3])) (r_ri dX12_handsAt_76 rfl rfl rfl rfl)
def x_m_isMinute (T : St) (p0 : Int32) : Int32 := x_m_in T ((p0 : Int32).toInt64) 0 59
theorem c_m_isMinute {X : Nat × (Nat → Int32)} {T : St} (p0 : Int32) : tC X 2 mX12_isMinute [.int p0] T (some (.int (x_m_isMinute T p0))) T := by
  refine tC_of ?_
  refine r_p dX12_isMinute_0 rfl rfl ?_
  refine r_p dX12_isMinute_1 rfl rfl ?_
  refine r_cl (x := 0) dX12_isMinute_2 rfl ?_
  refine r_kl dX12_isMinute_3 klX12_251 ?_
  refine r_cs (d1 := 1) dX12_isMinute_6 csX12_111 rfl rfl (Nat.le_of_ble_eq_true rfl) (Nat.le_of_ble_eq_true rfl) (Nat.le_of_ble_eq_true rfl) (c_m_in ((p0 : Int32).toInt64) 0 59) ?_
  exact r_eIp (r' := (x_m_in T ((p0 : Int32).toInt64) 0 59)) (by unfold x_m_isMinute; rfl) (r_ri dX12_isMinute_9 rfl (nar_b (b_m_in T ((p0 : Int32).toInt64) 0 59)) rfl rfl)
theorem b_m_isMinute (T : St) (p0 : Int32) : x_m_isMinute T p0 = 0 ∨ x_m_isMinute T p0 = 1 := by
  unfold x_m_isMinute
  repeat' split
  all_goals (first | exact Or.inl rfl | exact Or.inr rfl | apply b_m_in)
def x_m_gives (T : St) (p0 : Int32) (p1 : Int32) : Int32 × St := if ((sF T 571 0 0).1 571 7) = 0 then ((-1000002), sF T 571 0 0) else (if (x_m_isMinute (sF T 571 0 0) p0) = 0 then ((-1000001), sF T 571 0 0) else (if (x_m_in (sF T 571 0 0) ((p1 : Int32).toInt64) 0 4) = 0 then ((-1000001), sF T 571 0 0) else (if p1 = 0 then (((sF T 571 0 0).2.2.1 575 (0 : Int32).toNatClampNeg) + (x_m_bigOnes (sF T 571 0 0) p0 ((sF T 571 0 0).2.2.1 575 (203 : Int32).toNatClampNeg)), sF T 571 0 0) else (if p1 = 1 then (x_m_bigOnes (sF T 571 0 0) p0 ((sF T 571 0 0).2.2.1 575 (203 : Int32).toNatClampNeg), sF T 571 0 0) else (if p1 = 2 then ((sF T 571 0 0).2.2.1 575 (2 : Int32).toNatClampNeg, sF T 571 0 0) else (if p1 = 3 then (x_m_handsAt (sF T 571 0 0) p0 ((sF T 571 0 0).2.2.1 575 (5 : Int32).toNatClampNeg), sF T 571 0 0) else ((sF T 571 0 0).2.2.1 575 (6 : Int32).toNatClampNeg, sF T 571 0 0)))))))
def ok_m_gives (T : St) (p0 : Int32) (p1 : Int32) : Prop := (¬ ((sF T 571 0 0).1 571 7) = 0 → (¬ (x_m_isMinute (sF T 571 0 0) p0) = 0 → (¬ (x_m_in (sF T 571 0 0) ((p1 : Int32).toInt64) 0 4) = 0 → ((p1 = 0 → (vp_in 0 204) ∧ (vp_in 203 204) ∧ (ok_m_bigOnes (sF T 571 0 0) p0 ((sF T 571 0 0).2.2.1 575 (203 : Int32).toNatClampNeg)) ∧ True) ∧ (¬ p1 = 0 → ((p1 = 1 → (vp_in 203 204) ∧ (ok_m_bigOnes (sF T 571 0 0) p0 ((sF T 571 0 0).2.2.1 575 (203 : Int32).toNatClampNeg)) ∧ True) ∧ (¬ p1 = 1 → ((p1 = 2 → (vp_in 2 204) ∧ True) ∧ (¬ p1 = 2 → ((p1 = 3 → (vp_in 5 204) ∧ (ok_m_handsAt (sF T 571 0 0) p0 ((sF T 571 0 0).2.2.1 575 (5 : Int32).toNatClampNeg)) ∧ True) ∧ (¬ p1 = 3 → (vp_in 6 204) ∧ True)))))))))))
theorem c_m_gives {X : Nat × (Nat → Int32)} {T : St} (p0 : Int32) (p1 : Int32) (kk : ok_m_gives T p0 p1) : tC X 3 mX12_gives [.ref 571, .int p0, .int p1] T (some (.int (x_m_gives T p0 p1).1)) ((x_m_gives T p0 p1).2) := by
  unfold ok_m_gives at kk
  refine tC_of ?_
  refine r_p dX12_gives_0 rfl rfl ?_
  refine r_ci (x := 0) dX12_gives_1 rfl ?_
  refine r_put dX12_gives_2 fkX12_101 rfl rfl rfl (Nat.le_of_ble_eq_true rfl) rfl rfl ?_
  refine r_p dX12_gives_5 rfl rfl ?_
  refine r_get dX12_gives_6 fkX12_221 rfl rfl ?_
  refine r_ine dX12_gives_9 rfl (fun c9_1 => ?_) (fun c9_1 => ?_)
  · have kk := kk c9_1
    refine r_p dX12_gives_15 rfl rfl ?_
    refine r_cs (d1 := 2) dX12_gives_16 csX12_254 rfl rfl (Nat.le_of_ble_eq_true rfl) (Nat.le_of_ble_eq_true rfl) (Nat.le_of_ble_eq_true rfl) (c_m_isMinute p0) ?_
    refine r_ieq dX12_gives_19 rfl (fun c19_2 => ?_) (fun c19_2 => ?_)
    · refine r_k dX12_gives_34 kkX12_121 ?_
      exact r_eI (r' := ((-1000001), sF T 571 0 0)) (by unfold x_m_gives; rw [if_neg c9_1, if_pos c19_2]) (r_ri dX12_gives_36 rfl rfl rfl rfl)
    · have kk := kk c19_2
      refine r_p dX12_gives_22 rfl rfl ?_
      refine r_p dX12_gives_23 rfl rfl ?_
      refine r_cl (x := 0) dX12_gives_24 rfl ?_
      refine r_kl dX12_gives_25 klX12_249 ?_
      refine r_cs (d1 := 1) dX12_gives_28 csX12_111 rfl rfl (Nat.le_of_ble_eq_true rfl) (Nat.le_of_ble_eq_true rfl) (Nat.le_of_ble_eq_true rfl) (c_m_in ((p1 : Int32).toInt64) 0 4) ?_
      refine r_ine dX12_gives_31 rfl (fun c31_3 => ?_) (fun c31_3 => ?_)
      · have kk := kk c31_3
        refine r_p dX12_gives_37 rfl rfl ?_
        by_cases s38_4_0 : p1 = 0
        · have kk := kk.1 s38_4_0
          refine r_tin dX12_gives_38 (by rw [s38_4_0]; decide) (by rw [s38_4_0]; decide) (off := 30) (by rw [s38_4_0]; rfl) rfl ?_
          refine r_p dX12_gives_68 rfl rfl ?_
          refine r_get dX12_gives_69 fkX12_19 rfl rfl ?_
          refine r_ci (x := 0) dX12_gives_72 rfl ?_
          obtain ⟨q1, kk⟩ := kk
          refine r_ia dX12_gives_73 rfl q1 ?_
          refine r_p dX12_gives_74 rfl rfl ?_
          refine r_p dX12_gives_75 rfl rfl ?_
          refine r_p dX12_gives_76 rfl rfl ?_
          refine r_get dX12_gives_77 fkX12_19 rfl rfl ?_
          refine r_csi (x := 203) dX12_gives_80 rfl ?_
          obtain ⟨q2, kk⟩ := kk
          refine r_ia dX12_gives_83 rfl q2 ?_
          obtain ⟨q3, kk⟩ := kk
          refine r_cv (d1 := 1) dX12_gives_84 cvX12_257 rfl rfl rfl rfl (Nat.le_of_ble_eq_true rfl) (Nat.le_of_ble_eq_true rfl) (Nat.le_of_ble_eq_true rfl) (c_m_bigOnes p0 ((sF T 571 0 0).2.2.1 575 (203 : Int32).toNatClampNeg) q3) ?_
          refine r_p dX12_gives_87 rfl rfl ?_
          exact r_eI (r' := (((sF T 571 0 0).2.2.1 575 (0 : Int32).toNatClampNeg) + (x_m_bigOnes (sF T 571 0 0) p0 ((sF T 571 0 0).2.2.1 575 (203 : Int32).toNatClampNeg)), sF T 571 0 0)) (by unfold x_m_gives; rw [if_neg c9_1, if_neg c19_2, if_neg c31_3, if_pos s38_4_0]) (r_ri dX12_gives_88 rfl rfl rfl rfl)
        · have kk := kk.2 s38_4_0
          by_cases s38_4_1 : p1 = 1
          · have kk := kk.1 s38_4_1
            refine r_tin dX12_gives_38 (by rw [s38_4_1]; decide) (by rw [s38_4_1]; decide) (off := 51) (by rw [s38_4_1]; rfl) rfl ?_
            refine r_p dX12_gives_89 rfl rfl ?_
            refine r_p dX12_gives_90 rfl rfl ?_
            refine r_p dX12_gives_91 rfl rfl ?_
            refine r_get dX12_gives_92 fkX12_19 rfl rfl ?_
            refine r_csi (x := 203) dX12_gives_95 rfl ?_
            obtain ⟨q4, kk⟩ := kk
            refine r_ia dX12_gives_98 rfl q4 ?_
            obtain ⟨q5, kk⟩ := kk
            refine r_cv (d1 := 1) dX12_gives_99 cvX12_257 rfl rfl rfl rfl (Nat.le_of_ble_eq_true rfl) (Nat.le_of_ble_eq_true rfl) (Nat.le_of_ble_eq_true rfl) (c_m_bigOnes p0 ((sF T 571 0 0).2.2.1 575 (203 : Int32).toNatClampNeg) q5) ?_
            exact r_eI (r' := (x_m_bigOnes (sF T 571 0 0) p0 ((sF T 571 0 0).2.2.1 575 (203 : Int32).toNatClampNeg), sF T 571 0 0)) (by unfold x_m_gives; rw [if_neg c9_1, if_neg c19_2, if_neg c31_3, if_neg s38_4_0, if_pos s38_4_1]) (r_ri dX12_gives_102 rfl rfl rfl rfl)
          · have kk := kk.2 s38_4_1
            by_cases s38_4_2 : p1 = 2
            · have kk := kk.1 s38_4_2
              refine r_tin dX12_gives_38 (by rw [s38_4_2]; decide) (by rw [s38_4_2]; decide) (off := 65) (by rw [s38_4_2]; rfl) rfl ?_
              refine r_p dX12_gives_103 rfl rfl ?_
              refine r_get dX12_gives_104 fkX12_19 rfl rfl ?_
              refine r_ci (x := 2) dX12_gives_107 rfl ?_
              obtain ⟨q6, kk⟩ := kk
              refine r_ia dX12_gives_108 rfl q6 ?_
              exact r_eI (r' := ((sF T 571 0 0).2.2.1 575 (2 : Int32).toNatClampNeg, sF T 571 0 0)) (by unfold x_m_gives; rw [if_neg c9_1, if_neg c19_2, if_neg c31_3, if_neg s38_4_0, if_neg s38_4_1, if_pos s38_4_2]) (r_ri dX12_gives_109 rfl rfl rfl rfl)
            · have kk := kk.2 s38_4_2
              by_cases s38_4_3 : p1 = 3
              · have kk := kk.1 s38_4_3
                refine r_tin dX12_gives_38 (by rw [s38_4_3]; decide) (by rw [s38_4_3]; decide) (off := 72) (by rw [s38_4_3]; rfl) rfl ?_
                refine r_p dX12_gives_110 rfl rfl ?_
                refine r_p dX12_gives_111 rfl rfl ?_
                refine r_p dX12_gives_112 rfl rfl ?_
                refine r_get dX12_gives_113 fkX12_19 rfl rfl ?_
                refine r_ci (x := 5) dX12_gives_116 rfl ?_
                obtain ⟨q7, kk⟩ := kk
                refine r_ia dX12_gives_117 rfl q7 ?_
                obtain ⟨q8, kk⟩ := kk
                refine r_cv (d1 := 2) dX12_gives_118 cvX12_260 rfl rfl rfl rfl (Nat.le_of_ble_eq_true rfl) (Nat.le_of_ble_eq_true rfl) (Nat.le_of_ble_eq_true rfl) (c_m_handsAt p0 ((sF T 571 0 0).2.2.1 575 (5 : Int32).toNatClampNeg) q8) ?_
                exact r_eI (r' := (x_m_handsAt (sF T 571 0 0) p0 ((sF T 571 0 0).2.2.1 575 (5 : Int32).toNatClampNeg), sF T 571 0 0)) (by unfold x_m_gives; rw [if_neg c9_1, if_neg c19_2, if_neg c31_3, if_neg s38_4_0, if_neg s38_4_1, if_neg s38_4_2, if_pos s38_4_3]) (r_ri dX12_gives_121 rfl rfl rfl rfl)
              · have kk := kk.2 s38_4_3
                refine r_tout dX12_gives_38 (by have := i_rg (p1); simp only [i_eq, i_0, i_1, i_2, i_3] at s38_4_0 s38_4_1 s38_4_2 s38_4_3; omega) rfl ?_
                refine r_p dX12_gives_122 rfl rfl ?_
                refine r_get dX12_gives_123 fkX12_19 rfl rfl ?_
                refine r_cb (x := 6) dX12_gives_126 rfl ?_
                obtain ⟨q9, kk⟩ := kk
                refine r_ia dX12_gives_128 rfl q9 ?_
                exact r_eI (r' := ((sF T 571 0 0).2.2.1 575 (6 : Int32).toNatClampNeg, sF T 571 0 0)) (by unfold x_m_gives; rw [if_neg c9_1, if_neg c19_2, if_neg c31_3, if_neg s38_4_0, if_neg s38_4_1, if_neg s38_4_2, if_neg s38_4_3]) (r_ri dX12_gives_129 rfl rfl rfl rfl)
      · refine r_k dX12_gives_34 kkX12_121 ?_
        exact r_eI (r' := ((-1000001), sF T 571 0 0)) (by unfold x_m_gives; rw [if_neg c9_1, if_neg c19_2, if_pos c31_3]) (r_ri dX12_gives_36 rfl rfl rfl rfl)
  · refine r_k dX12_gives_12 kkX12_253 ?_
    exact r_eI (r' := ((-1000002), sF T 571 0 0)) (by unfold x_m_gives; rw [if_pos c9_1]) (r_ri dX12_gives_14 rfl rfl rfl rfl)
def x_m_bits_4 (T : St) (l0 : Int32) (K : Int32 → Int32 → Int32) : Nat → Int32 → Int32 → Int32
  | 0, _, _ => 0
  | f + 1, v1, v2 => if v2 = 0 then (K v1 v2) else (x_m_bits_4 T l0 K f (v1 + 1) (v2 &&& (v2 - 1)))
def ok_m_bits_4 (T : St) (l0 : Int32) (Kk : Int32 → Int32 → Prop) : Nat → Int32 → Int32 → Prop
  | 0, _, _ => False
  | f + 1, v1, v2 => ((v2 = 0 → Kk v1 v2) ∧ (¬ v2 = 0 → ok_m_bits_4 T l0 Kk f (v1 + 1) (v2 &&& (v2 - 1))))
theorem c_m_bits_4 {X : Nat × (Nat → Int32)} (T : St) (l0 : Int32) {K : Int32 → Int32 → Int32} {Kk : Int32 → Int32 → Prop} (hk : ∀ (v1 : Int32) (v2 : Int32), Kk v1 v2 → tR X 0 mX12_bits 20 [some (.int l0), some (.int v1), some (.int v2)] [] T (some (.int (K v1 v2))) T) : ∀ (f : Nat) (v1 : Int32) (v2 : Int32), ok_m_bits_4 T l0 Kk f v1 v2 → tR X 0 mX12_bits 4 [some (.int l0), some (.int v1), some (.int v2)] [] T (some (.int (x_m_bits_4 T l0 K f v1 v2))) T := by
  intro f
  induction f with
  | zero => intro v1 v2 kk; exact kk.elim
  | succ f ih =>
    intro v1 v2 kk
    rw [ok_m_bits_4] at kk
    refine r_p dX12_bits_4 rfl rfl ?_
    refine r_ieq dX12_bits_5 rfl (fun c5_1 => ?_) (fun c5_1 => ?_)
    · have kk := kk.1 c5_1
      show tR _ _ _ _ [some (.int l0), some (.int v1), some (.int v2)] _ _ _ _
      exact r_eIp (r' := K v1 v2) (by rw [x_m_bits_4]; rw [if_pos c5_1]) ((hk v1 v2  kk))
    · have kk := kk.2 c5_1
      refine r_inc (y := 1) dX12_bits_8 rfl rfl rfl ?_
      refine r_p dX12_bits_11 rfl rfl ?_
      refine r_p dX12_bits_12 rfl rfl ?_
      refine r_ci (x := 1) dX12_bits_13 rfl ?_
      refine r_p dX12_bits_14 rfl rfl ?_
      refine r_p dX12_bits_15 rfl rfl ?_
      refine r_p dX12_bits_16 rfl rfl ?_
      refine r_go dX12_bits_17 rfl ?_
      show tR _ _ _ _ [some (.int l0), some (.int (v1 + 1)), some (.int (v2 &&& (v2 - 1)))] _ _ _ _
      exact r_eIp (r' := x_m_bits_4 T l0 K f (v1 + 1) (v2 &&& (v2 - 1))) (by rw [x_m_bits_4]; rw [if_neg c5_1]) ((ih (v1 + 1) (v2 &&& (v2 - 1))  kk))
def x_m_bits (T : St) (p0 : Int32) : Int32 := x_m_bits_4 T p0 (fun (w1_1 : Int32) (w1_2 : Int32) => w1_1) 1000 0 p0
def ok_m_bits (T : St) (p0 : Int32) : Prop := ok_m_bits_4 T p0 (fun (w1_1 : Int32) (w1_2 : Int32) => True) 1000 0 p0
theorem c_m_bits {X : Nat × (Nat → Int32)} {T : St} (p0 : Int32) (kk : ok_m_bits T p0) : tC X 1 mX12_bits [.int p0] T (some (.int (x_m_bits T p0))) T := by
  unfold ok_m_bits at kk
  refine tC_of ?_
  refine r_ci (x := 0) dX12_bits_0 rfl ?_
  refine r_p dX12_bits_1 rfl rfl ?_
  refine r_p dX12_bits_2 rfl rfl ?_
  refine r_p dX12_bits_3 rfl rfl ?_
  show tR _ _ _ _ [some (.int p0), some (.int 0), some (.int p0)] _ _ _ _
  refine r_eIp (r' := x_m_bits_4 T p0 (fun (w1_1 : Int32) (w1_2 : Int32) => w1_1) 1000 0 p0) (by unfold x_m_bits; rfl) ((c_m_bits_4 T p0 (fun w1_1 w1_2 kk => ?_) 1000 0 p0  kk))
  · refine r_p dX12_bits_20 rfl rfl ?_
    exact r_eIp (r' := w1_1) rfl (r_ri dX12_bits_21 rfl rfl rfl rfl)
def x_m_clearLevel_2  (K : Int32 → St → St) : Nat → Int32 → St → St
  | 0, _, T => T
  | f + 1, v1, T => if 60 ≤ v1 then (K v1 T) else (fun (T1 : St) => (fun (T2 : St) => x_m_clearLevel_2 K f (v1 + 1) (sA T2 584 (v1 : Int32).toNatClampNeg 9)) (sA (sA (sA T1 581 (v1 : Int32).toNatClampNeg 0) 582 (v1 : Int32).toNatClampNeg 0) 583 (v1 : Int32).toNatClampNeg 0)) (sA (sA (sA T 578 (v1 : Int32).toNatClampNeg 0) 579 (v1 : Int32).toNatClampNeg 0) 580 (v1 : Int32).toNatClampNeg 0)
def ok_m_clearLevel_2  (Kk : Int32 → St → Prop) : Nat → Int32 → St → Prop
  | 0, _, _ => False
  | f + 1, v1, T => ((60 ≤ v1 → Kk v1 T) ∧ (¬ 60 ≤ v1 → (vp_in v1 300) ∧ (fun (T1 : St) => (vp_in v1 300) ∧ (fun (T2 : St) => (vp_in v1 300) ∧ ok_m_clearLevel_2 Kk f (v1 + 1) (sA T2 584 (v1 : Int32).toNatClampNeg 9)) (sA (sA (sA T1 581 (v1 : Int32).toNatClampNeg 0) 582 (v1 : Int32).toNatClampNeg 0) 583 (v1 : Int32).toNatClampNeg 0)) (sA (sA (sA T 578 (v1 : Int32).toNatClampNeg 0) 579 (v1 : Int32).toNatClampNeg 0) 580 (v1 : Int32).toNatClampNeg 0)))
theorem c_m_clearLevel_2 {X : Nat × (Nat → Int32)}  {K : Int32 → St → St} {Kk : Int32 → St → Prop} (hk : ∀ (v1 : Int32) (T : St), Kk v1 T → tR X 0 mX12_clearLevel 64 [some (.ref 571), some (.int v1)] [] T none (K v1 T)) : ∀ (f : Nat) (v1 : Int32) (T : St), ok_m_clearLevel_2  Kk f v1 T → tR X 0 mX12_clearLevel 2 [some (.ref 571), some (.int v1)] [] T none (x_m_clearLevel_2 K f v1 T) := by
  intro f
  induction f with
  | zero => intro v1 T kk; exact kk.elim
  | succ f ih =>
    intro v1 T kk
    rw [ok_m_clearLevel_2] at kk
    refine r_p dX12_clearLevel_2 rfl rfl ?_
    refine r_cb (x := 60) dX12_clearLevel_3 rfl ?_
    refine r_cge dX12_clearLevel_5 rfl (fun c5_1 => ?_) (fun c5_1 => ?_)
    · have kk := kk.1 c5_1
      show tR _ _ _ _ [some (.ref 571), some (.int v1)] _ _ _ _
      exact r_eV (r' := K v1 T) (by rw [x_m_clearLevel_2]; rw [if_pos c5_1]) ((hk v1 T kk))
    · have kk := kk.2 c5_1
      refine r_p dX12_clearLevel_8 rfl rfl ?_
      refine r_get dX12_clearLevel_9 fkX12_28 rfl rfl ?_
      refine r_p dX12_clearLevel_12 rfl rfl ?_
      refine r_ci (x := 0) dX12_clearLevel_13 rfl ?_
      obtain ⟨q1, kk⟩ := kk
      refine r_ias dX12_clearLevel_14 rfl q1 ?_
      refine r_p dX12_clearLevel_15 rfl rfl ?_
      refine r_get dX12_clearLevel_16 fkX12_31 rfl rfl ?_
      refine r_p dX12_clearLevel_19 rfl rfl ?_
      refine r_ci (x := 0) dX12_clearLevel_20 rfl ?_
      refine r_ias dX12_clearLevel_21 rfl q1 ?_
      refine r_p dX12_clearLevel_22 rfl rfl ?_
      refine r_get dX12_clearLevel_23 fkX12_34 rfl rfl ?_
      refine r_p dX12_clearLevel_26 rfl rfl ?_
      refine r_ci (x := 0) dX12_clearLevel_27 rfl ?_
      refine r_ias dX12_clearLevel_28 rfl q1 ?_
      refine r_eV (r' := (fun (T1 : St) => (fun (T2 : St) => x_m_clearLevel_2 K f (v1 + 1) (sA T2 584 (v1 : Int32).toNatClampNeg 9)) (sA (sA (sA T1 581 (v1 : Int32).toNatClampNeg 0) 582 (v1 : Int32).toNatClampNeg 0) 583 (v1 : Int32).toNatClampNeg 0)) (sA (sA (sA T 578 (v1 : Int32).toNatClampNeg 0) 579 (v1 : Int32).toNatClampNeg 0) 580 (v1 : Int32).toNatClampNeg 0)) (by rw [x_m_clearLevel_2]; rw [if_neg c5_1]) ?_
      generalize sA (sA (sA T 578 (v1 : Int32).toNatClampNeg 0) 579 (v1 : Int32).toNatClampNeg 0) 580 (v1 : Int32).toNatClampNeg 0 = T1 at kk ⊢
      try dsimp only at kk
      refine r_p dX12_clearLevel_29 rfl rfl ?_
      refine r_get dX12_clearLevel_30 fkX12_37 rfl rfl ?_
      refine r_p dX12_clearLevel_33 rfl rfl ?_
      refine r_ci (x := 0) dX12_clearLevel_34 rfl ?_
      obtain ⟨q2, kk⟩ := kk
      refine r_ias dX12_clearLevel_35 rfl q2 ?_
      refine r_p dX12_clearLevel_36 rfl rfl ?_
      refine r_get dX12_clearLevel_37 fkX12_40 rfl rfl ?_
      refine r_p dX12_clearLevel_40 rfl rfl ?_
      refine r_ci (x := 0) dX12_clearLevel_41 rfl ?_
      refine r_ias dX12_clearLevel_42 rfl q2 ?_
      refine r_p dX12_clearLevel_43 rfl rfl ?_
      refine r_get dX12_clearLevel_44 fkX12_43 rfl rfl ?_
      refine r_p dX12_clearLevel_47 rfl rfl ?_
      refine r_ci (x := 0) dX12_clearLevel_48 rfl ?_
      refine r_ias dX12_clearLevel_49 rfl q2 ?_
      refine r_eV (r' := (fun (T2 : St) => x_m_clearLevel_2 K f (v1 + 1) (sA T2 584 (v1 : Int32).toNatClampNeg 9)) (sA (sA (sA T1 581 (v1 : Int32).toNatClampNeg 0) 582 (v1 : Int32).toNatClampNeg 0) 583 (v1 : Int32).toNatClampNeg 0)) rfl ?_
      generalize sA (sA (sA T1 581 (v1 : Int32).toNatClampNeg 0) 582 (v1 : Int32).toNatClampNeg 0) 583 (v1 : Int32).toNatClampNeg 0 = T2 at kk ⊢
      try dsimp only at kk
      refine r_p dX12_clearLevel_50 rfl rfl ?_
      refine r_get dX12_clearLevel_51 fkX12_46 rfl rfl ?_
      refine r_p dX12_clearLevel_54 rfl rfl ?_
      refine r_cb (x := 9) dX12_clearLevel_55 rfl ?_
      obtain ⟨q3, kk⟩ := kk
      refine r_ias dX12_clearLevel_57 rfl q3 ?_
      refine r_inc (y := 1) dX12_clearLevel_58 rfl rfl rfl ?_
      refine r_go dX12_clearLevel_61 rfl ?_
      show tR _ _ _ _ [some (.ref 571), some (.int (v1 + 1))] _ _ _ _
      exact r_eV (r' := x_m_clearLevel_2 K f (v1 + 1) (sA T2 584 (v1 : Int32).toNatClampNeg 9)) rfl ((ih (v1 + 1) (sA T2 584 (v1 : Int32).toNatClampNeg 9) kk))
def x_m_clearLevel (T : St)  : St := x_m_clearLevel_2  (fun (w1_1 : Int32) (T201 : St) => T201) 1000 0 T
def ok_m_clearLevel (T : St)  : Prop := ok_m_clearLevel_2  (fun (w1_1 : Int32) (T201 : St) => True) 1000 0 T
theorem c_m_clearLevel {X : Nat × (Nat → Int32)} {T : St}  (kk : ok_m_clearLevel T ) : tC X 1 mX12_clearLevel [.ref 571] T none (x_m_clearLevel T) := by
  unfold ok_m_clearLevel at kk
  refine tC_of ?_
  refine r_ci (x := 0) dX12_clearLevel_0 rfl ?_
  refine r_p dX12_clearLevel_1 rfl rfl ?_
  show tR _ _ _ _ [some (.ref 571), some (.int 0)] _ _ _ _
  refine r_eV (r' := x_m_clearLevel_2  (fun (w1_1 : Int32) (T201 : St) => T201) 1000 0 T) (by unfold x_m_clearLevel; rfl) ((c_m_clearLevel_2  (fun w1_1 T201 kk => ?_) 1000 0 T kk))
  · exact r_eV (r' := T201) rfl (r_rv dX12_clearLevel_64 rfl rfl rfl)
def x_m_copyLevel_5 (l1 : Int32) (K : Int32 → St → St) : Nat → Int32 → St → St
  | 0, _, T => T
  | f + 1, v2, T => if ((60 * l1) + 60) ≤ v2 then (K v2 T) else (fun (T1 : St) => (fun (T2 : St) => (fun (T3 : St) => x_m_copyLevel_5 l1 K f (v2 + 1) (sA T3 584 (v2 : Int32).toNatClampNeg (T3.2.2.1 584 (v2 - 60 : Int32).toNatClampNeg))) (sA (sA T2 582 (v2 : Int32).toNatClampNeg (T2.2.2.1 582 (v2 - 60 : Int32).toNatClampNeg)) 583 (v2 : Int32).toNatClampNeg ((sA T2 582 (v2 : Int32).toNatClampNeg (T2.2.2.1 582 (v2 - 60 : Int32).toNatClampNeg)).2.2.1 583 (v2 - 60 : Int32).toNatClampNeg))) (sA (sA T1 580 (v2 : Int32).toNatClampNeg (T1.2.2.1 580 (v2 - 60 : Int32).toNatClampNeg)) 581 (v2 : Int32).toNatClampNeg ((sA T1 580 (v2 : Int32).toNatClampNeg (T1.2.2.1 580 (v2 - 60 : Int32).toNatClampNeg)).2.2.1 581 (v2 - 60 : Int32).toNatClampNeg))) (sA (sA T 578 (v2 : Int32).toNatClampNeg (T.2.2.1 578 (v2 - 60 : Int32).toNatClampNeg)) 579 (v2 : Int32).toNatClampNeg ((sA T 578 (v2 : Int32).toNatClampNeg (T.2.2.1 578 (v2 - 60 : Int32).toNatClampNeg)).2.2.1 579 (v2 - 60 : Int32).toNatClampNeg))
def ok_m_copyLevel_5 (l1 : Int32) (Kk : Int32 → St → Prop) : Nat → Int32 → St → Prop
  | 0, _, _ => False
  | f + 1, v2, T => ((((60 * l1) + 60) ≤ v2 → Kk v2 T) ∧ (¬ ((60 * l1) + 60) ≤ v2 → (vp_in (v2 - 60) 300) ∧ (vp_in v2 300) ∧ (fun (T1 : St) => (vp_in (v2 - 60) 300) ∧ (vp_in v2 300) ∧ (fun (T2 : St) => (vp_in (v2 - 60) 300) ∧ (vp_in v2 300) ∧ (fun (T3 : St) => (vp_in (v2 - 60) 300) ∧ (vp_in v2 300) ∧ ok_m_copyLevel_5 l1 Kk f (v2 + 1) (sA T3 584 (v2 : Int32).toNatClampNeg (T3.2.2.1 584 (v2 - 60 : Int32).toNatClampNeg))) (sA (sA T2 582 (v2 : Int32).toNatClampNeg (T2.2.2.1 582 (v2 - 60 : Int32).toNatClampNeg)) 583 (v2 : Int32).toNatClampNeg ((sA T2 582 (v2 : Int32).toNatClampNeg (T2.2.2.1 582 (v2 - 60 : Int32).toNatClampNeg)).2.2.1 583 (v2 - 60 : Int32).toNatClampNeg))) (sA (sA T1 580 (v2 : Int32).toNatClampNeg (T1.2.2.1 580 (v2 - 60 : Int32).toNatClampNeg)) 581 (v2 : Int32).toNatClampNeg ((sA T1 580 (v2 : Int32).toNatClampNeg (T1.2.2.1 580 (v2 - 60 : Int32).toNatClampNeg)).2.2.1 581 (v2 - 60 : Int32).toNatClampNeg))) (sA (sA T 578 (v2 : Int32).toNatClampNeg (T.2.2.1 578 (v2 - 60 : Int32).toNatClampNeg)) 579 (v2 : Int32).toNatClampNeg ((sA T 578 (v2 : Int32).toNatClampNeg (T.2.2.1 578 (v2 - 60 : Int32).toNatClampNeg)).2.2.1 579 (v2 - 60 : Int32).toNatClampNeg))))
theorem c_m_copyLevel_5 {X : Nat × (Nat → Int32)} (l1 : Int32) {K : Int32 → St → St} {Kk : Int32 → St → Prop} (hk : ∀ (v2 : Int32) (T : St), Kk v2 T → tR X 0 mX12_copyLevel 127 [some (.ref 571), some (.int l1), some (.int v2)] [] T none (K v2 T)) : ∀ (f : Nat) (v2 : Int32) (T : St), ok_m_copyLevel_5 l1 Kk f v2 T → tR X 0 mX12_copyLevel 5 [some (.ref 571), some (.int l1), some (.int v2)] [] T none (x_m_copyLevel_5 l1 K f v2 T) := by
  intro f
  induction f with
  | zero => intro v2 T kk; exact kk.elim
  | succ f ih =>
    intro v2 T kk
    rw [ok_m_copyLevel_5] at kk
    refine r_p dX12_copyLevel_5 rfl rfl ?_
    refine r_cb (x := 60) dX12_copyLevel_6 rfl ?_
    refine r_p dX12_copyLevel_8 rfl rfl ?_
    refine r_p dX12_copyLevel_9 rfl rfl ?_
    refine r_cb (x := 60) dX12_copyLevel_10 rfl ?_
    refine r_p dX12_copyLevel_12 rfl rfl ?_
    refine r_cge dX12_copyLevel_13 rfl (fun c13_1 => ?_) (fun c13_1 => ?_)
    · have kk := kk.1 c13_1
      show tR _ _ _ _ [some (.ref 571), some (.int l1), some (.int v2)] _ _ _ _
      exact r_eV (r' := K v2 T) (by rw [x_m_copyLevel_5]; rw [if_pos c13_1]) ((hk v2 T kk))
    · have kk := kk.2 c13_1
      refine r_p dX12_copyLevel_16 rfl rfl ?_
      refine r_get dX12_copyLevel_17 fkX12_28 rfl rfl ?_
      refine r_p dX12_copyLevel_20 rfl rfl ?_
      refine r_p dX12_copyLevel_21 rfl rfl ?_
      refine r_get dX12_copyLevel_22 fkX12_28 rfl rfl ?_
      refine r_p dX12_copyLevel_25 rfl rfl ?_
      refine r_cb (x := 60) dX12_copyLevel_26 rfl ?_
      refine r_p dX12_copyLevel_28 rfl rfl ?_
      obtain ⟨q1, kk⟩ := kk
      refine r_ia dX12_copyLevel_29 rfl q1 ?_
      obtain ⟨q2, kk⟩ := kk
      refine r_ias dX12_copyLevel_30 rfl q2 ?_
      refine r_p dX12_copyLevel_31 rfl rfl ?_
      refine r_get dX12_copyLevel_32 fkX12_31 rfl rfl ?_
      refine r_p dX12_copyLevel_35 rfl rfl ?_
      refine r_p dX12_copyLevel_36 rfl rfl ?_
      refine r_get dX12_copyLevel_37 fkX12_31 rfl rfl ?_
      refine r_p dX12_copyLevel_40 rfl rfl ?_
      refine r_cb (x := 60) dX12_copyLevel_41 rfl ?_
      refine r_p dX12_copyLevel_43 rfl rfl ?_
      refine r_ia dX12_copyLevel_44 rfl q1 ?_
      refine r_ias dX12_copyLevel_45 rfl q2 ?_
      refine r_eV (r' := (fun (T1 : St) => (fun (T2 : St) => (fun (T3 : St) => x_m_copyLevel_5 l1 K f (v2 + 1) (sA T3 584 (v2 : Int32).toNatClampNeg (T3.2.2.1 584 (v2 - 60 : Int32).toNatClampNeg))) (sA (sA T2 582 (v2 : Int32).toNatClampNeg (T2.2.2.1 582 (v2 - 60 : Int32).toNatClampNeg)) 583 (v2 : Int32).toNatClampNeg ((sA T2 582 (v2 : Int32).toNatClampNeg (T2.2.2.1 582 (v2 - 60 : Int32).toNatClampNeg)).2.2.1 583 (v2 - 60 : Int32).toNatClampNeg))) (sA (sA T1 580 (v2 : Int32).toNatClampNeg (T1.2.2.1 580 (v2 - 60 : Int32).toNatClampNeg)) 581 (v2 : Int32).toNatClampNeg ((sA T1 580 (v2 : Int32).toNatClampNeg (T1.2.2.1 580 (v2 - 60 : Int32).toNatClampNeg)).2.2.1 581 (v2 - 60 : Int32).toNatClampNeg))) (sA (sA T 578 (v2 : Int32).toNatClampNeg (T.2.2.1 578 (v2 - 60 : Int32).toNatClampNeg)) 579 (v2 : Int32).toNatClampNeg ((sA T 578 (v2 : Int32).toNatClampNeg (T.2.2.1 578 (v2 - 60 : Int32).toNatClampNeg)).2.2.1 579 (v2 - 60 : Int32).toNatClampNeg))) (by rw [x_m_copyLevel_5]; rw [if_neg c13_1]) ?_
      generalize sA (sA T 578 (v2 : Int32).toNatClampNeg (T.2.2.1 578 (v2 - 60 : Int32).toNatClampNeg)) 579 (v2 : Int32).toNatClampNeg ((sA T 578 (v2 : Int32).toNatClampNeg (T.2.2.1 578 (v2 - 60 : Int32).toNatClampNeg)).2.2.1 579 (v2 - 60 : Int32).toNatClampNeg) = T1 at kk ⊢
      try dsimp only at kk
      refine r_p dX12_copyLevel_46 rfl rfl ?_
      refine r_get dX12_copyLevel_47 fkX12_34 rfl rfl ?_
      refine r_p dX12_copyLevel_50 rfl rfl ?_
      refine r_p dX12_copyLevel_51 rfl rfl ?_
      refine r_get dX12_copyLevel_52 fkX12_34 rfl rfl ?_
      refine r_p dX12_copyLevel_55 rfl rfl ?_
      refine r_cb (x := 60) dX12_copyLevel_56 rfl ?_
      refine r_p dX12_copyLevel_58 rfl rfl ?_
      obtain ⟨q3, kk⟩ := kk
      refine r_ia dX12_copyLevel_59 rfl q3 ?_
      obtain ⟨q4, kk⟩ := kk
      refine r_ias dX12_copyLevel_60 rfl q4 ?_
      refine r_p dX12_copyLevel_61 rfl rfl ?_
      refine r_get dX12_copyLevel_62 fkX12_37 rfl rfl ?_
      refine r_p dX12_copyLevel_65 rfl rfl ?_
      refine r_p dX12_copyLevel_66 rfl rfl ?_
      refine r_get dX12_copyLevel_67 fkX12_37 rfl rfl ?_
      refine r_p dX12_copyLevel_70 rfl rfl ?_
      refine r_cb (x := 60) dX12_copyLevel_71 rfl ?_
      refine r_p dX12_copyLevel_73 rfl rfl ?_
      refine r_ia dX12_copyLevel_74 rfl q3 ?_
      refine r_ias dX12_copyLevel_75 rfl q4 ?_
      refine r_eV (r' := (fun (T2 : St) => (fun (T3 : St) => x_m_copyLevel_5 l1 K f (v2 + 1) (sA T3 584 (v2 : Int32).toNatClampNeg (T3.2.2.1 584 (v2 - 60 : Int32).toNatClampNeg))) (sA (sA T2 582 (v2 : Int32).toNatClampNeg (T2.2.2.1 582 (v2 - 60 : Int32).toNatClampNeg)) 583 (v2 : Int32).toNatClampNeg ((sA T2 582 (v2 : Int32).toNatClampNeg (T2.2.2.1 582 (v2 - 60 : Int32).toNatClampNeg)).2.2.1 583 (v2 - 60 : Int32).toNatClampNeg))) (sA (sA T1 580 (v2 : Int32).toNatClampNeg (T1.2.2.1 580 (v2 - 60 : Int32).toNatClampNeg)) 581 (v2 : Int32).toNatClampNeg ((sA T1 580 (v2 : Int32).toNatClampNeg (T1.2.2.1 580 (v2 - 60 : Int32).toNatClampNeg)).2.2.1 581 (v2 - 60 : Int32).toNatClampNeg))) rfl ?_
      generalize sA (sA T1 580 (v2 : Int32).toNatClampNeg (T1.2.2.1 580 (v2 - 60 : Int32).toNatClampNeg)) 581 (v2 : Int32).toNatClampNeg ((sA T1 580 (v2 : Int32).toNatClampNeg (T1.2.2.1 580 (v2 - 60 : Int32).toNatClampNeg)).2.2.1 581 (v2 - 60 : Int32).toNatClampNeg) = T2 at kk ⊢
      try dsimp only at kk
      refine r_p dX12_copyLevel_76 rfl rfl ?_
      refine r_get dX12_copyLevel_77 fkX12_40 rfl rfl ?_
      refine r_p dX12_copyLevel_80 rfl rfl ?_
      refine r_p dX12_copyLevel_81 rfl rfl ?_
      refine r_get dX12_copyLevel_82 fkX12_40 rfl rfl ?_
      refine r_p dX12_copyLevel_85 rfl rfl ?_
      refine r_cb (x := 60) dX12_copyLevel_86 rfl ?_
      refine r_p dX12_copyLevel_88 rfl rfl ?_
      obtain ⟨q5, kk⟩ := kk
      refine r_ia dX12_copyLevel_89 rfl q5 ?_
      obtain ⟨q6, kk⟩ := kk
      refine r_ias dX12_copyLevel_90 rfl q6 ?_
      refine r_p dX12_copyLevel_91 rfl rfl ?_
      refine r_get dX12_copyLevel_92 fkX12_43 rfl rfl ?_
      refine r_p dX12_copyLevel_95 rfl rfl ?_
      refine r_p dX12_copyLevel_96 rfl rfl ?_
      refine r_get dX12_copyLevel_97 fkX12_43 rfl rfl ?_
      refine r_p dX12_copyLevel_100 rfl rfl ?_
      refine r_cb (x := 60) dX12_copyLevel_101 rfl ?_
      refine r_p dX12_copyLevel_103 rfl rfl ?_
      refine r_ia dX12_copyLevel_104 rfl q5 ?_
      refine r_ias dX12_copyLevel_105 rfl q6 ?_
      refine r_eV (r' := (fun (T3 : St) => x_m_copyLevel_5 l1 K f (v2 + 1) (sA T3 584 (v2 : Int32).toNatClampNeg (T3.2.2.1 584 (v2 - 60 : Int32).toNatClampNeg))) (sA (sA T2 582 (v2 : Int32).toNatClampNeg (T2.2.2.1 582 (v2 - 60 : Int32).toNatClampNeg)) 583 (v2 : Int32).toNatClampNeg ((sA T2 582 (v2 : Int32).toNatClampNeg (T2.2.2.1 582 (v2 - 60 : Int32).toNatClampNeg)).2.2.1 583 (v2 - 60 : Int32).toNatClampNeg))) rfl ?_
      generalize sA (sA T2 582 (v2 : Int32).toNatClampNeg (T2.2.2.1 582 (v2 - 60 : Int32).toNatClampNeg)) 583 (v2 : Int32).toNatClampNeg ((sA T2 582 (v2 : Int32).toNatClampNeg (T2.2.2.1 582 (v2 - 60 : Int32).toNatClampNeg)).2.2.1 583 (v2 - 60 : Int32).toNatClampNeg) = T3 at kk ⊢
      try dsimp only at kk
      refine r_p dX12_copyLevel_106 rfl rfl ?_
      refine r_get dX12_copyLevel_107 fkX12_46 rfl rfl ?_
      refine r_p dX12_copyLevel_110 rfl rfl ?_
      refine r_p dX12_copyLevel_111 rfl rfl ?_
      refine r_get dX12_copyLevel_112 fkX12_46 rfl rfl ?_
      refine r_p dX12_copyLevel_115 rfl rfl ?_
      refine r_cb (x := 60) dX12_copyLevel_116 rfl ?_
      refine r_p dX12_copyLevel_118 rfl rfl ?_
      obtain ⟨q7, kk⟩ := kk
      refine r_ia dX12_copyLevel_119 rfl q7 ?_
      obtain ⟨q8, kk⟩ := kk
      refine r_ias dX12_copyLevel_120 rfl q8 ?_
      refine r_inc (y := 1) dX12_copyLevel_121 rfl rfl rfl ?_
      refine r_go dX12_copyLevel_124 rfl ?_
      show tR _ _ _ _ [some (.ref 571), some (.int l1), some (.int (v2 + 1))] _ _ _ _
      exact r_eV (r' := x_m_copyLevel_5 l1 K f (v2 + 1) (sA T3 584 (v2 : Int32).toNatClampNeg (T3.2.2.1 584 (v2 - 60 : Int32).toNatClampNeg))) rfl ((ih (v2 + 1) (sA T3 584 (v2 : Int32).toNatClampNeg (T3.2.2.1 584 (v2 - 60 : Int32).toNatClampNeg)) kk))
def x_m_copyLevel (T : St) (p0 : Int32) : St := x_m_copyLevel_5 p0 (fun (w1_2 : Int32) (T201 : St) => T201) 1000 (60 * p0) T
def ok_m_copyLevel (T : St) (p0 : Int32) : Prop := ok_m_copyLevel_5 p0 (fun (w1_2 : Int32) (T201 : St) => True) 1000 (60 * p0) T
theorem c_m_copyLevel {X : Nat × (Nat → Int32)} {T : St} (p0 : Int32) (kk : ok_m_copyLevel T p0) : tC X 1 mX12_copyLevel [.ref 571, .int p0] T none (x_m_copyLevel T p0) := by
  unfold ok_m_copyLevel at kk
  refine tC_of ?_
  refine r_cb (x := 60) dX12_copyLevel_0 rfl ?_
  refine r_p dX12_copyLevel_2 rfl rfl ?_
  refine r_p dX12_copyLevel_3 rfl rfl ?_
  refine r_p dX12_copyLevel_4 rfl rfl ?_
  show tR _ _ _ _ [some (.ref 571), some (.int p0), some (.int (60 * p0))] _ _ _ _
  refine r_eV (r' := x_m_copyLevel_5 p0 (fun (w1_2 : Int32) (T201 : St) => T201) 1000 (60 * p0) T) (by unfold x_m_copyLevel; rfl) ((c_m_copyLevel_5 p0 (fun w1_2 T201 kk => ?_) 1000 (60 * p0) T kk))
  · exact r_eV (r' := T201) rfl (r_rv dX12_copyLevel_127 rfl rfl rfl)
