def x_m_more_29 (l1 : Int32) (K : Int32 → Int32 → St → Int32 × St) : Nat → Int32 → Int32 → St → Int32 × St
  | 0, _, _, T => (0, T)
  | f + 1, v2, v3, T => if (T.2.2.1 575 (16 : Int32).toNatClampNeg) ≤ v3 then (K v2 v3 T) else (if 4 ≤ (x_m_bits T (T.2.2.1 575 (202 : Int32).toNatClampNeg)) then (K v2 v3 T) else (jn (fun (KJ1 : Int32 → Int32 × St) => if (((T.2.2.1 575 (202 : Int32).toNatClampNeg) >>> (v3 &&& 31)) &&& 1) = 0 then (KJ1 1) else (KJ1 0)) (fun (j1_s0 : Int32) => jn (fun (KJ2 : St → Int32 × St) => if j1_s0 = 0 then (KJ2 T) else (fun (T2 : St) => if ((x_m_canBe T ((T.2.2.1 575 (202 : Int32).toNatClampNeg) ||| (1 <<< (v3 &&& 31))) l1 (T.2.2.1 575 (5 : Int32).toNatClampNeg)).1) = 0 then (KJ2 T2) else (x_m_more_29 l1 K f (v2 ||| (1 <<< (v3 &&& 31))) (v3 + 1) T2)) ((x_m_canBe T ((T.2.2.1 575 (202 : Int32).toNatClampNeg) ||| (1 <<< (v3 &&& 31))) l1 (T.2.2.1 575 (5 : Int32).toNatClampNeg)).2)) (fun (T302 : St) => x_m_more_29 l1 K f (v2 ||| 0) (v3 + 1) T302))))
def ok_m_more_29 (l1 : Int32) (Kk : Int32 → Int32 → St → Prop) : Nat → Int32 → Int32 → St → Prop
  | 0, _, _, _ => False
  | f + 1, v2, v3, T => (vp_in 16 204) ∧ (((T.2.2.1 575 (16 : Int32).toNatClampNeg) ≤ v3 → Kk v2 v3 T) ∧ (¬ (T.2.2.1 575 (16 : Int32).toNatClampNeg) ≤ v3 → (vp_in 202 204) ∧ (ok_m_bits T (T.2.2.1 575 (202 : Int32).toNatClampNeg)) ∧ ((4 ≤ (x_m_bits T (T.2.2.1 575 (202 : Int32).toNatClampNeg)) → Kk v2 v3 T) ∧ (¬ 4 ≤ (x_m_bits T (T.2.2.1 575 (202 : Int32).toNatClampNeg)) → jn (fun (OJ1 : Int32 → Prop) => (((((T.2.2.1 575 (202 : Int32).toNatClampNeg) >>> (v3 &&& 31)) &&& 1) = 0 → OJ1 1) ∧ (¬ (((T.2.2.1 575 (202 : Int32).toNatClampNeg) >>> (v3 &&& 31)) &&& 1) = 0 → OJ1 0))) (fun (j1_s0 : Int32) => jn (fun (OJ2 : St → Prop) => ((j1_s0 = 0 → OJ2 T) ∧ (¬ j1_s0 = 0 → (vp_in 202 204) ∧ (vp_in 5 204) ∧ (ok_m_canBe T ((T.2.2.1 575 (202 : Int32).toNatClampNeg) ||| (1 <<< (v3 &&& 31))) l1 (T.2.2.1 575 (5 : Int32).toNatClampNeg)) ∧ (fun (T2 : St) => ((((x_m_canBe T ((T.2.2.1 575 (202 : Int32).toNatClampNeg) ||| (1 <<< (v3 &&& 31))) l1 (T.2.2.1 575 (5 : Int32).toNatClampNeg)).1) = 0 → OJ2 T2) ∧ (¬ ((x_m_canBe T ((T.2.2.1 575 (202 : Int32).toNatClampNeg) ||| (1 <<< (v3 &&& 31))) l1 (T.2.2.1 575 (5 : Int32).toNatClampNeg)).1) = 0 → ok_m_more_29 l1 Kk f (v2 ||| (1 <<< (v3 &&& 31))) (v3 + 1) T2))) ((x_m_canBe T ((T.2.2.1 575 (202 : Int32).toNatClampNeg) ||| (1 <<< (v3 &&& 31))) l1 (T.2.2.1 575 (5 : Int32).toNatClampNeg)).2)))) (fun (T302 : St) => ok_m_more_29 l1 Kk f (v2 ||| 0) (v3 + 1) T302))))))
theorem c_m_more_29 {X : Nat × (Nat → Int32)} (l1 : Int32) {K : Int32 → Int32 → St → Int32 × St} {Kk : Int32 → Int32 → St → Prop} (hk : ∀ (v2 : Int32) (v3 : Int32) (T : St), Kk v2 v3 T → tR X 6 mX12_more 124 [some (.ref 571), some (.int l1), some (.int v2), some (.int v3), none] [] T (some (.int (K v2 v3 T).1)) ((K v2 v3 T).2)) : ∀ (f : Nat) (v2 : Int32) (v3 : Int32) (T : St), ok_m_more_29 l1 Kk f v2 v3 T → tR X 6 mX12_more 29 [some (.ref 571), some (.int l1), some (.int v2), some (.int v3), none] [] T (some (.int (x_m_more_29 l1 K f v2 v3 T).1)) ((x_m_more_29 l1 K f v2 v3 T).2) := by
  intro f
  induction f with
  | zero => intro v2 v3 T kk; exact kk.elim
  | succ f ih =>
    intro v2 v3 T kk
    rw [ok_m_more_29] at kk
    refine r_p dX12_more_29 rfl rfl ?_
    refine r_p dX12_more_30 rfl rfl ?_
    refine r_get dX12_more_31 fkX12_19 rfl rfl ?_
    refine r_cb (x := 16) dX12_more_34 rfl ?_
    obtain ⟨q1, kk⟩ := kk
    refine r_ia dX12_more_36 rfl q1 ?_
    refine r_cge dX12_more_37 rfl (fun c37_3 => ?_) (fun c37_3 => ?_)
    · have kk := kk.1 c37_3
      show tR _ _ _ _ [some (.ref 571), some (.int l1), some (.int v2), some (.int v3), none] _ _ _ _
      exact r_eI (r' := K v2 v3 T) (by rw [x_m_more_29]; rw [if_pos c37_3]) ((hk v2 v3 T kk))
    · have kk := kk.2 c37_3
      refine r_p dX12_more_40 rfl rfl ?_
      refine r_get dX12_more_41 fkX12_19 rfl rfl ?_
      refine r_csi (x := 202) dX12_more_44 rfl ?_
      obtain ⟨q2, kk⟩ := kk
      refine r_ia dX12_more_47 rfl q2 ?_
      obtain ⟨q3, kk⟩ := kk
      refine r_cs (d1 := 1) dX12_more_48 csX12_263 rfl rfl (Nat.le_of_ble_eq_true rfl) (Nat.le_of_ble_eq_true rfl) (Nat.le_of_ble_eq_true rfl) (c_m_bits (T.2.2.1 575 (202 : Int32).toNatClampNeg) q3) ?_
      refine r_ci (x := 4) dX12_more_51 rfl ?_
      refine r_cge dX12_more_52 rfl (fun c52_4 => ?_) (fun c52_4 => ?_)
      · have kk := kk.1 c52_4
        show tR _ _ _ _ [some (.ref 571), some (.int l1), some (.int v2), some (.int v3), none] _ _ _ _
        exact r_eI (r' := K v2 v3 T) (by rw [x_m_more_29]; rw [if_neg c37_3, if_pos c52_4]) ((hk v2 v3 T kk))
      · have kk := kk.2 c52_4
        refine r_p dX12_more_55 rfl rfl ?_
        refine r_get dX12_more_56 fkX12_19 rfl rfl ?_
        refine r_csi (x := 202) dX12_more_59 rfl ?_
        refine r_ia dX12_more_62 rfl q2 ?_
        refine r_p dX12_more_63 rfl rfl ?_
        refine r_p dX12_more_64 rfl rfl ?_
        refine r_ci (x := 1) dX12_more_65 rfl ?_
        refine r_p dX12_more_66 rfl rfl ?_
        obtain ⟨KJ1, hKJ1⟩ : ∃ q : Int32 → Int32 × St, q = (fun (j1_s0 : Int32) => jn (fun (KJ2 : St → Int32 × St) => if j1_s0 = 0 then (KJ2 T) else (fun (T2 : St) => if ((x_m_canBe T ((T.2.2.1 575 (202 : Int32).toNatClampNeg) ||| (1 <<< (v3 &&& 31))) l1 (T.2.2.1 575 (5 : Int32).toNatClampNeg)).1) = 0 then (KJ2 T2) else (x_m_more_29 l1 K f (v2 ||| (1 <<< (v3 &&& 31))) (v3 + 1) T2)) ((x_m_canBe T ((T.2.2.1 575 (202 : Int32).toNatClampNeg) ||| (1 <<< (v3 &&& 31))) l1 (T.2.2.1 575 (5 : Int32).toNatClampNeg)).2)) (fun (T302 : St) => x_m_more_29 l1 K f (v2 ||| 0) (v3 + 1) T302)) := ⟨_, rfl⟩
        obtain ⟨OJ1, hOJ1⟩ : ∃ q : Int32 → Prop, q = (fun (j1_s0 : Int32) => jn (fun (OJ2 : St → Prop) => ((j1_s0 = 0 → OJ2 T) ∧ (¬ j1_s0 = 0 → (vp_in 202 204) ∧ (vp_in 5 204) ∧ (ok_m_canBe T ((T.2.2.1 575 (202 : Int32).toNatClampNeg) ||| (1 <<< (v3 &&& 31))) l1 (T.2.2.1 575 (5 : Int32).toNatClampNeg)) ∧ (fun (T2 : St) => ((((x_m_canBe T ((T.2.2.1 575 (202 : Int32).toNatClampNeg) ||| (1 <<< (v3 &&& 31))) l1 (T.2.2.1 575 (5 : Int32).toNatClampNeg)).1) = 0 → OJ2 T2) ∧ (¬ ((x_m_canBe T ((T.2.2.1 575 (202 : Int32).toNatClampNeg) ||| (1 <<< (v3 &&& 31))) l1 (T.2.2.1 575 (5 : Int32).toNatClampNeg)).1) = 0 → ok_m_more_29 l1 Kk f (v2 ||| (1 <<< (v3 &&& 31))) (v3 + 1) T2))) ((x_m_canBe T ((T.2.2.1 575 (202 : Int32).toNatClampNeg) ||| (1 <<< (v3 &&& 31))) l1 (T.2.2.1 575 (5 : Int32).toNatClampNeg)).2)))) (fun (T302 : St) => ok_m_more_29 l1 Kk f (v2 ||| 0) (v3 + 1) T302)) := ⟨_, rfl⟩
        rw [← hOJ1] at kk
        simp only [jn] at kk
        have hJ1 : ∀ (j1_s0 : Int32), OJ1 j1_s0 → tR X 6 mX12_more 75 [some (.ref 571), some (.int l1), some (.int v2), some (.int v3), none] [.int j1_s0] T (some (.int (KJ1 j1_s0).1)) ((KJ1 j1_s0).2) := by
          intro j1_s0 kk
          rw [hOJ1] at kk
          try dsimp only at kk
          rw [hKJ1]
          refine r_p dX12_more_75 rfl rfl ?_
          refine r_p dX12_more_77 rfl rfl ?_
          refine r_p dX12_more_78 rfl rfl ?_
          obtain ⟨KJ2, hKJ2⟩ : ∃ q : St → Int32 × St, q = (fun (T302 : St) => x_m_more_29 l1 K f (v2 ||| 0) (v3 + 1) T302) := ⟨_, rfl⟩
          obtain ⟨OJ2, hOJ2⟩ : ∃ q : St → Prop, q = (fun (T302 : St) => ok_m_more_29 l1 Kk f (v2 ||| 0) (v3 + 1) T302) := ⟨_, rfl⟩
          rw [← hOJ2] at kk
          simp only [jn] at kk
          have hJ2 : ∀ (T302 : St), OJ2 T302 → tR X 6 mX12_more 115 [some (.ref 571), some (.int l1), some (.int v2), some (.int v3), some (.int j1_s0)] [.int v2] T302 (some (.int (KJ2 T302).1)) ((KJ2 T302).2) := by
            intro T302 kk
            rw [hOJ2] at kk
            try dsimp only at kk
            rw [hKJ2]
            refine r_ci (x := 0) dX12_more_115 rfl ?_
            refine r_p dX12_more_116 rfl rfl ?_
            refine r_p dX12_more_117 rfl rfl ?_
            refine r_inc (y := 1) dX12_more_118 rfl rfl rfl ?_
            refine r_go dX12_more_121 rfl ?_
            show tR _ _ _ _ [some (.ref 571), some (.int l1), some (.int (v2 ||| 0)), some (.int (v3 + 1)), some (.int j1_s0)] _ _ _ _
            exact r_eI (r' := x_m_more_29 l1 K f (v2 ||| 0) (v3 + 1) T302) rfl (r_le (le_s (le_s (le_s (le_s (le_n (le_0)))))) (ih (v2 ||| 0) (v3 + 1) T302 kk))
          refine r_eI (r' := jn (fun (KJ2 : St → Int32 × St) => if j1_s0 = 0 then (KJ2 T) else (fun (T2 : St) => if ((x_m_canBe T ((T.2.2.1 575 (202 : Int32).toNatClampNeg) ||| (1 <<< (v3 &&& 31))) l1 (T.2.2.1 575 (5 : Int32).toNatClampNeg)).1) = 0 then (KJ2 T2) else (x_m_more_29 l1 K f (v2 ||| (1 <<< (v3 &&& 31))) (v3 + 1) T2)) ((x_m_canBe T ((T.2.2.1 575 (202 : Int32).toNatClampNeg) ||| (1 <<< (v3 &&& 31))) l1 (T.2.2.1 575 (5 : Int32).toNatClampNeg)).2)) KJ2) (by rw [hKJ2]) ?_
          refine r_ieq dX12_more_80 rfl (fun c80_8 => ?_) (fun c80_8 => ?_)
          · have kk := kk.1 c80_8
            show tR _ _ _ _ [some (.ref 571), some (.int l1), some (.int v2), some (.int v3), some (.int j1_s0)] [.int v2] _ _ _
            exact r_eI (r' := KJ2 T) (by simp only [jn]; rw [if_pos c80_8]) ((hJ2 T kk))
          · have kk := kk.2 c80_8
            refine r_p dX12_more_83 rfl rfl ?_
            refine r_p dX12_more_84 rfl rfl ?_
            refine r_get dX12_more_85 fkX12_19 rfl rfl ?_
            refine r_csi (x := 202) dX12_more_88 rfl ?_
            obtain ⟨q7, kk⟩ := kk
            refine r_ia dX12_more_91 rfl q7 ?_
            refine r_ci (x := 1) dX12_more_92 rfl ?_
            refine r_p dX12_more_93 rfl rfl ?_
            refine r_p dX12_more_94 rfl rfl ?_
            refine r_p dX12_more_95 rfl rfl ?_
            refine r_p dX12_more_96 rfl rfl ?_
            refine r_p dX12_more_97 rfl rfl ?_
            refine r_get dX12_more_98 fkX12_19 rfl rfl ?_
            refine r_ci (x := 5) dX12_more_101 rfl ?_
            obtain ⟨q8, kk⟩ := kk
            refine r_ia dX12_more_102 rfl q8 ?_
            obtain ⟨q9, kk⟩ := kk
            refine r_cv (d1 := 6) dX12_more_103 cvX12_324 rfl rfl rfl rfl (Nat.le_of_ble_eq_true rfl) (Nat.le_of_ble_eq_true rfl) (Nat.le_of_ble_eq_true rfl) (c_m_canBe ((T.2.2.1 575 (202 : Int32).toNatClampNeg) ||| (1 <<< (v3 &&& 31))) l1 (T.2.2.1 575 (5 : Int32).toNatClampNeg) q9) ?_
            refine r_eI (r' := (fun (T2 : St) => if ((x_m_canBe T ((T.2.2.1 575 (202 : Int32).toNatClampNeg) ||| (1 <<< (v3 &&& 31))) l1 (T.2.2.1 575 (5 : Int32).toNatClampNeg)).1) = 0 then (KJ2 T2) else (x_m_more_29 l1 K f (v2 ||| (1 <<< (v3 &&& 31))) (v3 + 1) T2)) ((x_m_canBe T ((T.2.2.1 575 (202 : Int32).toNatClampNeg) ||| (1 <<< (v3 &&& 31))) l1 (T.2.2.1 575 (5 : Int32).toNatClampNeg)).2)) (by simp only [jn]; rw [if_neg c80_8]) ?_
            generalize (x_m_canBe T ((T.2.2.1 575 (202 : Int32).toNatClampNeg) ||| (1 <<< (v3 &&& 31))) l1 (T.2.2.1 575 (5 : Int32).toNatClampNeg)).2 = T2 at kk ⊢
            try dsimp only at kk
            refine r_ieq dX12_more_106 rfl (fun c106_9 => ?_) (fun c106_9 => ?_)
            · have kk := kk.1 c106_9
              show tR _ _ _ _ [some (.ref 571), some (.int l1), some (.int v2), some (.int v3), some (.int j1_s0)] [.int v2] _ _ _
              exact r_eI (r' := KJ2 T2) (by first | rw [if_pos c106_9] | (dsimp only; rw [if_pos c106_9])) ((hJ2 T2 kk))
            · have kk := kk.2 c106_9
              refine r_ci (x := 1) dX12_more_109 rfl ?_
              refine r_p dX12_more_110 rfl rfl ?_
              refine r_p dX12_more_111 rfl rfl ?_
              refine r_go dX12_more_112 rfl ?_
              refine r_p dX12_more_116 rfl rfl ?_
              refine r_p dX12_more_117 rfl rfl ?_
              refine r_inc (y := 1) dX12_more_118 rfl rfl rfl ?_
              refine r_go dX12_more_121 rfl ?_
              show tR _ _ _ _ [some (.ref 571), some (.int l1), some (.int (v2 ||| (1 <<< (v3 &&& 31)))), some (.int (v3 + 1)), some (.int j1_s0)] _ _ _ _
              exact r_eI (r' := x_m_more_29 l1 K f (v2 ||| (1 <<< (v3 &&& 31))) (v3 + 1) T2) (by first | rw [if_neg c106_9] | (dsimp only; rw [if_neg c106_9])) (r_le (le_s (le_s (le_s (le_s (le_n (le_0)))))) (ih (v2 ||| (1 <<< (v3 &&& 31))) (v3 + 1) T2 kk))
        refine r_eI (r' := jn (fun (KJ1 : Int32 → Int32 × St) => if (((T.2.2.1 575 (202 : Int32).toNatClampNeg) >>> (v3 &&& 31)) &&& 1) = 0 then (KJ1 1) else (KJ1 0)) KJ1) (by rw [hKJ1]; rw [x_m_more_29]; rw [if_neg c37_3, if_neg c52_4]) ?_
        refine r_ine dX12_more_67 rfl (fun c67_10 => ?_) (fun c67_10 => ?_)
        · have kk := kk.2 c67_10
          refine r_ci (x := 0) dX12_more_74 rfl ?_
          show tR _ _ _ _ [some (.ref 571), some (.int l1), some (.int v2), some (.int v3), none] [.int 0] _ _ _
          exact r_eI (r' := KJ1 0) (by simp only [jn]; rw [if_neg c67_10]) ((hJ1 0 kk))
        · have kk := kk.1 c67_10
          refine r_ci (x := 1) dX12_more_70 rfl ?_
          refine r_go dX12_more_71 rfl ?_
          show tR _ _ _ _ [some (.ref 571), some (.int l1), some (.int v2), some (.int v3), none] [.int 1] _ _ _
          exact r_eI (r' := KJ1 1) (by simp only [jn]; rw [if_pos c67_10]) ((hJ1 1 kk))
def x_m_more (T : St) (p0 : Int32) : Int32 × St := if (x_m_isBy (sF T 571 0 0) p0) = 0 then ((-1000001), sF T 571 0 0) else (if ((sF T 571 0 0).1 571 7) = 0 then ((-1000002), sF T 571 0 0) else (x_m_more_29 p0 (fun (w1_2 : Int32) (w1_3 : Int32) (T201 : St) => (w1_2, T201)) 1000 0 0 (sF T 571 0 0)))
def ok_m_more (T : St) (p0 : Int32) : Prop := (¬ (x_m_isBy (sF T 571 0 0) p0) = 0 → (¬ ((sF T 571 0 0).1 571 7) = 0 → ok_m_more_29 p0 (fun (w1_2 : Int32) (w1_3 : Int32) (T201 : St) => True) 1000 0 0 (sF T 571 0 0)))
theorem c_m_more {X : Nat × (Nat → Int32)} {T : St} (p0 : Int32) (kk : ok_m_more T p0) : tC X 7 mX12_more [.ref 571, .int p0] T (some (.int (x_m_more T p0).1)) ((x_m_more T p0).2) := by
  unfold ok_m_more at kk
  refine tC_of ?_
  refine r_p dX12_more_0 rfl rfl ?_
  refine r_ci (x := 0) dX12_more_1 rfl ?_
  refine r_put dX12_more_2 fkX12_101 rfl rfl rfl (Nat.le_of_ble_eq_true rfl) rfl rfl ?_
  refine r_p dX12_more_5 rfl rfl ?_
  refine r_cs (d1 := 2) dX12_more_6 csX12_318 rfl rfl (Nat.le_of_ble_eq_true rfl) (Nat.le_of_ble_eq_true rfl) (Nat.le_of_ble_eq_true rfl) (c_m_isBy p0) ?_
  refine r_ine dX12_more_9 rfl (fun c9_1 => ?_) (fun c9_1 => ?_)
  · have kk := kk c9_1
    refine r_p dX12_more_15 rfl rfl ?_
    refine r_get dX12_more_16 fkX12_221 rfl rfl ?_
    refine r_ine dX12_more_19 rfl (fun c19_2 => ?_) (fun c19_2 => ?_)
    · have kk := kk c19_2
      refine r_ci (x := 0) dX12_more_25 rfl ?_
      refine r_p dX12_more_26 rfl rfl ?_
      refine r_ci (x := 0) dX12_more_27 rfl ?_
      refine r_p dX12_more_28 rfl rfl ?_
      show tR _ _ _ _ [some (.ref 571), some (.int p0), some (.int 0), some (.int 0), none] _ _ _ _
      refine r_eI (r' := x_m_more_29 p0 (fun (w1_2 : Int32) (w1_3 : Int32) (T201 : St) => (w1_2, T201)) 1000 0 0 (sF T 571 0 0)) (by unfold x_m_more; rw [if_neg c9_1, if_neg c19_2]) ((c_m_more_29 p0 (fun w1_2 w1_3 T201 kk => ?_) 1000 0 0 (sF T 571 0 0) kk))
      · refine r_p dX12_more_124 rfl rfl ?_
        exact r_eI (r' := (w1_2, T201)) rfl (r_ri dX12_more_125 rfl rfl rfl rfl)
    · refine r_k dX12_more_22 kkX12_253 ?_
      exact r_eI (r' := ((-1000002), sF T 571 0 0)) (by unfold x_m_more; rw [if_neg c9_1, if_pos c19_2]) (r_ri dX12_more_24 rfl rfl rfl rfl)
  · refine r_k dX12_more_12 kkX12_121 ?_
    exact r_eI (r' := ((-1000001), sF T 571 0 0)) (by unfold x_m_more; rw [if_pos c9_1]) (r_ri dX12_more_14 rfl rfl rfl rfl)
def x_m_mend_67 (l1 : Int32) (l2 : Int32) (K : Int32 → St → Int32 × St) : Nat → Int32 → St → Int32 × St
  | 0, _, T => (0, T)
  | f + 1, v3, T => if 12 ≤ v3 then (K v3 T) else (x_m_mend_67 l1 l2 K f (v3 + 1) (sA T 591 (v3 : Int32).toNatClampNeg (T.2.2.1 593 (v3 : Int32).toNatClampNeg)))
def ok_m_mend_67 (l1 : Int32) (l2 : Int32) (Kk : Int32 → St → Prop) : Nat → Int32 → St → Prop
  | 0, _, _ => False
  | f + 1, v3, T => ((12 ≤ v3 → Kk v3 T) ∧ (¬ 12 ≤ v3 → (vp_in v3 12) ∧ ok_m_mend_67 l1 l2 Kk f (v3 + 1) (sA T 591 (v3 : Int32).toNatClampNeg (T.2.2.1 593 (v3 : Int32).toNatClampNeg))))
theorem c_m_mend_67 {X : Nat × (Nat → Int32)} (l1 : Int32) (l2 : Int32) {K : Int32 → St → Int32 × St} {Kk : Int32 → St → Prop} (hk : ∀ (v3 : Int32) (T : St), Kk v3 T → tR X 6 mX12_mend 91 [some (.ref 571), some (.int l1), some (.int l2), some (.int v3)] [] T (some (.int (K v3 T).1)) ((K v3 T).2)) : ∀ (f : Nat) (v3 : Int32) (T : St), ok_m_mend_67 l1 l2 Kk f v3 T → tR X 6 mX12_mend 67 [some (.ref 571), some (.int l1), some (.int l2), some (.int v3)] [] T (some (.int (x_m_mend_67 l1 l2 K f v3 T).1)) ((x_m_mend_67 l1 l2 K f v3 T).2) := by
  intro f
  induction f with
  | zero => intro v3 T kk; exact kk.elim
  | succ f ih =>
    intro v3 T kk
    rw [ok_m_mend_67] at kk
    refine r_p dX12_mend_67 rfl rfl ?_
    refine r_cb (x := 12) dX12_mend_68 rfl ?_
    refine r_cge dX12_mend_70 rfl (fun c70_7 => ?_) (fun c70_7 => ?_)
    · have kk := kk.1 c70_7
      show tR _ _ _ _ [some (.ref 571), some (.int l1), some (.int l2), some (.int v3)] _ _ _ _
      exact r_eI (r' := K v3 T) (by rw [x_m_mend_67]; rw [if_pos c70_7]) ((hk v3 T kk))
    · have kk := kk.2 c70_7
      refine r_p dX12_mend_73 rfl rfl ?_
      refine r_get dX12_mend_74 fkX12_67 rfl rfl ?_
      refine r_p dX12_mend_77 rfl rfl ?_
      refine r_p dX12_mend_78 rfl rfl ?_
      refine r_get dX12_mend_79 fkX12_73 rfl rfl ?_
      refine r_p dX12_mend_82 rfl rfl ?_
      obtain ⟨q4, kk⟩ := kk
      refine r_ia dX12_mend_83 rfl q4 ?_
      refine r_ias dX12_mend_84 rfl q4 ?_
      refine r_inc (y := 1) dX12_mend_85 rfl rfl rfl ?_
      refine r_go dX12_mend_88 rfl ?_
      show tR _ _ _ _ [some (.ref 571), some (.int l1), some (.int l2), some (.int (v3 + 1))] _ _ _ _
      exact r_eI (r' := x_m_mend_67 l1 l2 K f (v3 + 1) (sA T 591 (v3 : Int32).toNatClampNeg (T.2.2.1 593 (v3 : Int32).toNatClampNeg))) (by rw [x_m_mend_67]; rw [if_neg c70_7]) ((ih (v3 + 1) (sA T 591 (v3 : Int32).toNatClampNeg (T.2.2.1 593 (v3 : Int32).toNatClampNeg)) kk))
def x_m_mend (T : St) (p0 : Int32) (p1 : Int32) : Int32 × St := if (x_m_isBy (sF T 571 0 0) p0) = 0 then ((-1000001), sF T 571 0 0) else (if (x_m_isMinute (sF T 571 0 0) p1) = 0 then ((-1000001), sF T 571 0 0) else (if ((sF T 571 0 0).1 571 7) = 0 then ((-1000002), sF T 571 0 0) else (if ((sF T 571 0 0).2.2.1 575 (1 : Int32).toNatClampNeg) = 0 then ((-1000002), sF T 571 0 0) else (if 60 ≤ ((sF T 571 0 0).2.2.1 575 (203 : Int32).toNatClampNeg) then (if ((x_m_know (sF T 571 0 0) p0).1) = 0 then ((-1000000), (x_m_know (sF T 571 0 0) p0).2) else (x_m_mend_67 p0 p1 (fun (w1_3 : Int32) (T201 : St) => (fun (T1 : St) => if ((x_m_seek (sF T201 571 32 p1) ((sF T201 571 32 p1).2.2.1 575 (202 : Int32).toNatClampNeg) p0 ((sF T201 571 32 p1).2.2.1 575 (5 : Int32).toNatClampNeg) p1 0 0).1) = 0 then ((-1000000), sF T1 571 32 0) else ((sF T1 571 32 0).1 571 31, sF T1 571 32 0)) ((x_m_seek (sF T201 571 32 p1) ((sF T201 571 32 p1).2.2.1 575 (202 : Int32).toNatClampNeg) p0 ((sF T201 571 32 p1).2.2.1 575 (5 : Int32).toNatClampNeg) p1 0 0).2)) 1000 0 ((x_m_know (sF T 571 0 0) p0).2))) else ((-1000002), sF T 571 0 0)))))
def ok_m_mend (T : St) (p0 : Int32) (p1 : Int32) : Prop := (¬ (x_m_isBy (sF T 571 0 0) p0) = 0 → (¬ (x_m_isMinute (sF T 571 0 0) p1) = 0 → (¬ ((sF T 571 0 0).1 571 7) = 0 → (vp_in 1 204) ∧ (¬ ((sF T 571 0 0).2.2.1 575 (1 : Int32).toNatClampNeg) = 0 → (vp_in 203 204) ∧ (60 ≤ ((sF T 571 0 0).2.2.1 575 (203 : Int32).toNatClampNeg) → (ok_m_know (sF T 571 0 0) p0) ∧ (¬ ((x_m_know (sF T 571 0 0) p0).1) = 0 → ok_m_mend_67 p0 p1 (fun (w1_3 : Int32) (T201 : St) => (vp_in 202 204) ∧ (vp_in 5 204) ∧ (ok_m_seek (sF T201 571 32 p1) ((sF T201 571 32 p1).2.2.1 575 (202 : Int32).toNatClampNeg) p0 ((sF T201 571 32 p1).2.2.1 575 (5 : Int32).toNatClampNeg) p1 0 0) ∧ True) 1000 0 ((x_m_know (sF T 571 0 0) p0).2)))))))
theorem c_m_mend {X : Nat × (Nat → Int32)} {T : St} (p0 : Int32) (p1 : Int32) (kk : ok_m_mend T p0 p1) : tC X 7 mX12_mend [.ref 571, .int p0, .int p1] T (some (.int (x_m_mend T p0 p1).1)) ((x_m_mend T p0 p1).2) := by
  unfold ok_m_mend at kk
  refine tC_of ?_
  refine r_p dX12_mend_0 rfl rfl ?_
  refine r_ci (x := 0) dX12_mend_1 rfl ?_
  refine r_put dX12_mend_2 fkX12_101 rfl rfl rfl (Nat.le_of_ble_eq_true rfl) rfl rfl ?_
  refine r_p dX12_mend_5 rfl rfl ?_
  refine r_cs (d1 := 2) dX12_mend_6 csX12_318 rfl rfl (Nat.le_of_ble_eq_true rfl) (Nat.le_of_ble_eq_true rfl) (Nat.le_of_ble_eq_true rfl) (c_m_isBy p0) ?_
  refine r_ieq dX12_mend_9 rfl (fun c9_1 => ?_) (fun c9_1 => ?_)
  · refine r_k dX12_mend_19 kkX12_121 ?_
    exact r_eI (r' := ((-1000001), sF T 571 0 0)) (by unfold x_m_mend; rw [if_pos c9_1]) (r_ri dX12_mend_21 rfl rfl rfl rfl)
  · have kk := kk c9_1
    refine r_p dX12_mend_12 rfl rfl ?_
    refine r_cs (d1 := 2) dX12_mend_13 csX12_254 rfl rfl (Nat.le_of_ble_eq_true rfl) (Nat.le_of_ble_eq_true rfl) (Nat.le_of_ble_eq_true rfl) (c_m_isMinute p1) ?_
    refine r_ine dX12_mend_16 rfl (fun c16_2 => ?_) (fun c16_2 => ?_)
    · have kk := kk c16_2
      refine r_p dX12_mend_22 rfl rfl ?_
      refine r_get dX12_mend_23 fkX12_221 rfl rfl ?_
      refine r_ieq dX12_mend_26 rfl (fun c26_3 => ?_) (fun c26_3 => ?_)
      · refine r_k dX12_mend_51 kkX12_253 ?_
        exact r_eI (r' := ((-1000002), sF T 571 0 0)) (by unfold x_m_mend; rw [if_neg c9_1, if_neg c16_2, if_pos c26_3]) (r_ri dX12_mend_53 rfl rfl rfl rfl)
      · have kk := kk c26_3
        refine r_p dX12_mend_29 rfl rfl ?_
        refine r_get dX12_mend_30 fkX12_19 rfl rfl ?_
        refine r_ci (x := 1) dX12_mend_33 rfl ?_
        obtain ⟨q1, kk⟩ := kk
        refine r_ia dX12_mend_34 rfl q1 ?_
        refine r_ieq dX12_mend_35 rfl (fun c35_4 => ?_) (fun c35_4 => ?_)
        · refine r_k dX12_mend_51 kkX12_253 ?_
          exact r_eI (r' := ((-1000002), sF T 571 0 0)) (by unfold x_m_mend; rw [if_neg c9_1, if_neg c16_2, if_neg c26_3, if_pos c35_4]) (r_ri dX12_mend_53 rfl rfl rfl rfl)
        · have kk := kk c35_4
          refine r_p dX12_mend_38 rfl rfl ?_
          refine r_get dX12_mend_39 fkX12_19 rfl rfl ?_
          refine r_csi (x := 203) dX12_mend_42 rfl ?_
          obtain ⟨q2, kk⟩ := kk
          refine r_ia dX12_mend_45 rfl q2 ?_
          refine r_cb (x := 60) dX12_mend_46 rfl ?_
          refine r_cge dX12_mend_48 rfl (fun c48_5 => ?_) (fun c48_5 => ?_)
          · have kk := kk c48_5
            refine r_p dX12_mend_54 rfl rfl ?_
            refine r_p dX12_mend_55 rfl rfl ?_
            obtain ⟨q3, kk⟩ := kk
            refine r_cv (d1 := 6) dX12_mend_56 cvX12_321 rfl rfl rfl rfl (Nat.le_of_ble_eq_true rfl) (Nat.le_of_ble_eq_true rfl) (Nat.le_of_ble_eq_true rfl) (c_m_know p0 q3) ?_
            refine r_ine dX12_mend_59 rfl (fun c59_6 => ?_) (fun c59_6 => ?_)
            · have kk := kk c59_6
              refine r_ci (x := 0) dX12_mend_65 rfl ?_
              refine r_p dX12_mend_66 rfl rfl ?_
              show tR _ _ _ _ [some (.ref 571), some (.int p0), some (.int p1), some (.int 0)] _ _ _ _
              refine r_eI (r' := x_m_mend_67 p0 p1 (fun (w1_3 : Int32) (T201 : St) => (fun (T1 : St) => if ((x_m_seek (sF T201 571 32 p1) ((sF T201 571 32 p1).2.2.1 575 (202 : Int32).toNatClampNeg) p0 ((sF T201 571 32 p1).2.2.1 575 (5 : Int32).toNatClampNeg) p1 0 0).1) = 0 then ((-1000000), sF T1 571 32 0) else ((sF T1 571 32 0).1 571 31, sF T1 571 32 0)) ((x_m_seek (sF T201 571 32 p1) ((sF T201 571 32 p1).2.2.1 575 (202 : Int32).toNatClampNeg) p0 ((sF T201 571 32 p1).2.2.1 575 (5 : Int32).toNatClampNeg) p1 0 0).2)) 1000 0 ((x_m_know (sF T 571 0 0) p0).2)) (by unfold x_m_mend; rw [if_neg c9_1, if_neg c16_2, if_neg c26_3, if_neg c35_4, if_pos c48_5, if_neg c59_6]) ((c_m_mend_67 p0 p1 (fun w1_3 T201 kk => ?_) 1000 0 ((x_m_know (sF T 571 0 0) p0).2) kk))
              · try dsimp only at kk
                refine r_p dX12_mend_91 rfl rfl ?_
                refine r_p dX12_mend_92 rfl rfl ?_
                refine r_put dX12_mend_93 fkX12_268 rfl rfl rfl (Nat.le_of_ble_eq_true rfl) rfl rfl ?_
                refine r_p dX12_mend_96 rfl rfl ?_
                refine r_p dX12_mend_97 rfl rfl ?_
                refine r_get dX12_mend_98 fkX12_19 rfl rfl ?_
                refine r_csi (x := 202) dX12_mend_101 rfl ?_
                obtain ⟨q5, kk⟩ := kk
                refine r_ia dX12_mend_104 rfl q5 ?_
                refine r_p dX12_mend_105 rfl rfl ?_
                refine r_p dX12_mend_106 rfl rfl ?_
                refine r_get dX12_mend_107 fkX12_19 rfl rfl ?_
                refine r_ci (x := 5) dX12_mend_110 rfl ?_
                obtain ⟨q6, kk⟩ := kk
                refine r_ia dX12_mend_111 rfl q6 ?_
                refine r_p dX12_mend_112 rfl rfl ?_
                refine r_ci (x := 0) dX12_mend_113 rfl ?_
                refine r_ci (x := 0) dX12_mend_114 rfl ?_
                obtain ⟨q7, kk⟩ := kk
                refine r_cv (d1 := 5) dX12_mend_115 cvX12_305 rfl rfl rfl rfl (Nat.le_of_ble_eq_true rfl) (Nat.le_of_ble_eq_true rfl) (Nat.le_of_ble_eq_true rfl) (c_m_seek ((sF T201 571 32 p1).2.2.1 575 (202 : Int32).toNatClampNeg) p0 ((sF T201 571 32 p1).2.2.1 575 (5 : Int32).toNatClampNeg) p1 0 0 q7) ?_
                refine r_eI (r' := (fun (T1 : St) => if ((x_m_seek (sF T201 571 32 p1) ((sF T201 571 32 p1).2.2.1 575 (202 : Int32).toNatClampNeg) p0 ((sF T201 571 32 p1).2.2.1 575 (5 : Int32).toNatClampNeg) p1 0 0).1) = 0 then ((-1000000), sF T1 571 32 0) else ((sF T1 571 32 0).1 571 31, sF T1 571 32 0)) ((x_m_seek (sF T201 571 32 p1) ((sF T201 571 32 p1).2.2.1 575 (202 : Int32).toNatClampNeg) p0 ((sF T201 571 32 p1).2.2.1 575 (5 : Int32).toNatClampNeg) p1 0 0).2)) rfl ?_
                generalize (x_m_seek (sF T201 571 32 p1) ((sF T201 571 32 p1).2.2.1 575 (202 : Int32).toNatClampNeg) p0 ((sF T201 571 32 p1).2.2.1 575 (5 : Int32).toNatClampNeg) p1 0 0).2 = T1 at ⊢
                refine r_p dX12_mend_118 rfl rfl ?_
                refine r_p dX12_mend_119 rfl rfl ?_
                refine r_ci (x := 0) dX12_mend_120 rfl ?_
                refine r_put dX12_mend_121 fkX12_268 rfl rfl rfl (Nat.le_of_ble_eq_true rfl) rfl rfl ?_
                refine r_p dX12_mend_124 rfl rfl ?_
                refine r_ieq dX12_mend_125 rfl (fun c125_8 => ?_) (fun c125_8 => ?_)
                · refine r_k dX12_mend_135 kkX12_137 ?_
                  exact r_eI (r' := ((-1000000), sF T1 571 32 0)) (by first | rw [if_pos c125_8] | (dsimp only; rw [if_pos c125_8])) (r_ri dX12_mend_137 rfl rfl rfl rfl)
                · refine r_p dX12_mend_128 rfl rfl ?_
                  refine r_get dX12_mend_129 fkX12_296 rfl rfl ?_
                  refine r_go dX12_mend_132 rfl ?_
                  exact r_eI (r' := ((sF T1 571 32 0).1 571 31, sF T1 571 32 0)) (by first | rw [if_neg c125_8] | (dsimp only; rw [if_neg c125_8])) (r_ri dX12_mend_137 rfl rfl rfl rfl)
            · refine r_k dX12_mend_62 kkX12_137 ?_
              exact r_eI (r' := ((-1000000), (x_m_know (sF T 571 0 0) p0).2)) (by unfold x_m_mend; rw [if_neg c9_1, if_neg c16_2, if_neg c26_3, if_neg c35_4, if_pos c48_5, if_pos c59_6]) (r_ri dX12_mend_64 rfl rfl rfl rfl)
          · refine r_k dX12_mend_51 kkX12_253 ?_
            exact r_eI (r' := ((-1000002), sF T 571 0 0)) (by unfold x_m_mend; rw [if_neg c9_1, if_neg c16_2, if_neg c26_3, if_neg c35_4, if_neg c48_5]) (r_ri dX12_mend_53 rfl rfl rfl rfl)
    · refine r_k dX12_mend_19 kkX12_121 ?_
      exact r_eI (r' := ((-1000001), sF T 571 0 0)) (by unfold x_m_mend; rw [if_neg c9_1, if_pos c16_2]) (r_ri dX12_mend_21 rfl rfl rfl rfl)
def x_m_mind_38 (l1 : Int32) (l2 : Int32) (K : Int32 → Int32 → St → Int32 × St) : Nat → Int32 → Int32 → St → Int32 × St
  | 0, _, _, T => (0, T)
  | f + 1, v3, v4, T => if ((x_m_know T l1).1) = 0 then (K v3 v4 ((x_m_know T l1).2)) else (if (((x_m_know T l1).2).1 571 39) ≤ v4 then (K v3 v4 ((x_m_know T l1).2)) else (if (((x_m_know T l1).2).2.2.1 595 (v4 : Int32).toNatClampNeg) < l2 then (x_m_mind_38 l1 l2 K f v3 (v4 + 1) ((x_m_know T l1).2)) else (jn (fun (KJ1 : Int32 × St) => if v3 = (-1000000) then (KJ1) else (if (((x_m_know T l1).2).2.2.1 595 (v3 : Int32).toNatClampNeg) ≤ (((x_m_know T l1).2).2.2.1 595 (v4 : Int32).toNatClampNeg) then (x_m_mind_38 l1 l2 K f v3 (v4 + 1) ((x_m_know T l1).2)) else (KJ1))) (x_m_mind_38 l1 l2 K f v4 (v4 + 1) ((x_m_know T l1).2)))))
def ok_m_mind_38 (l1 : Int32) (l2 : Int32) (Kk : Int32 → Int32 → St → Prop) : Nat → Int32 → Int32 → St → Prop
  | 0, _, _, _ => False
  | f + 1, v3, v4, T => (ok_m_know T l1) ∧ ((((x_m_know T l1).1) = 0 → Kk v3 v4 ((x_m_know T l1).2)) ∧ (¬ ((x_m_know T l1).1) = 0 → (((((x_m_know T l1).2).1 571 39) ≤ v4 → Kk v3 v4 ((x_m_know T l1).2)) ∧ (¬ (((x_m_know T l1).2).1 571 39) ≤ v4 → (vp_in v4 12) ∧ (((((x_m_know T l1).2).2.2.1 595 (v4 : Int32).toNatClampNeg) < l2 → ok_m_mind_38 l1 l2 Kk f v3 (v4 + 1) ((x_m_know T l1).2)) ∧ (¬ (((x_m_know T l1).2).2.2.1 595 (v4 : Int32).toNatClampNeg) < l2 → jn (fun (OJ1 : Prop) => ((v3 = (-1000000) → OJ1) ∧ (¬ v3 = (-1000000) → (vp_in v3 12) ∧ (((((x_m_know T l1).2).2.2.1 595 (v3 : Int32).toNatClampNeg) ≤ (((x_m_know T l1).2).2.2.1 595 (v4 : Int32).toNatClampNeg) → ok_m_mind_38 l1 l2 Kk f v3 (v4 + 1) ((x_m_know T l1).2)) ∧ (¬ (((x_m_know T l1).2).2.2.1 595 (v3 : Int32).toNatClampNeg) ≤ (((x_m_know T l1).2).2.2.1 595 (v4 : Int32).toNatClampNeg) → OJ1))))) (ok_m_mind_38 l1 l2 Kk f v4 (v4 + 1) ((x_m_know T l1).2))))))))
theorem c_m_mind_38 {X : Nat × (Nat → Int32)} (l1 : Int32) (l2 : Int32) {K : Int32 → Int32 → St → Int32 × St} {Kk : Int32 → Int32 → St → Prop} (hk : ∀ (v3 : Int32) (v4 : Int32) (T : St), Kk v3 v4 T → tR X 6 mX12_mind 101 [some (.ref 571), some (.int l1), some (.int l2), some (.int v3), some (.int v4)] [] T (some (.int (K v3 v4 T).1)) ((K v3 v4 T).2)) : ∀ (f : Nat) (v3 : Int32) (v4 : Int32) (T : St), ok_m_mind_38 l1 l2 Kk f v3 v4 T → tR X 6 mX12_mind 38 [some (.ref 571), some (.int l1), some (.int l2), some (.int v3), some (.int v4)] [] T (some (.int (x_m_mind_38 l1 l2 K f v3 v4 T).1)) ((x_m_mind_38 l1 l2 K f v3 v4 T).2) := by
  intro f
  induction f with
  | zero => intro v3 v4 T kk; exact kk.elim
  | succ f ih =>
    intro v3 v4 T kk
    rw [ok_m_mind_38] at kk
    refine r_p dX12_mind_38 rfl rfl ?_
    refine r_p dX12_mind_39 rfl rfl ?_
    obtain ⟨q1, kk⟩ := kk
    refine r_cv (d1 := 6) dX12_mind_40 cvX12_321 rfl rfl rfl rfl (Nat.le_of_ble_eq_true rfl) (Nat.le_of_ble_eq_true rfl) (Nat.le_of_ble_eq_true rfl) (c_m_know l1 q1) ?_
    refine r_ieq dX12_mind_43 rfl (fun c43_4 => ?_) (fun c43_4 => ?_)
    · have kk := kk.1 c43_4
      show tR _ _ _ _ [some (.ref 571), some (.int l1), some (.int l2), some (.int v3), some (.int v4)] _ _ _ _
      exact r_eI (r' := K v3 v4 ((x_m_know T l1).2)) (by rw [x_m_mind_38]; rw [if_pos c43_4]) ((hk v3 v4 ((x_m_know T l1).2) kk))
    · have kk := kk.2 c43_4
      refine r_p dX12_mind_46 rfl rfl ?_
      refine r_p dX12_mind_48 rfl rfl ?_
      refine r_get dX12_mind_49 fkX12_302 rfl rfl ?_
      refine r_cge dX12_mind_52 rfl (fun c52_5 => ?_) (fun c52_5 => ?_)
      · have kk := kk.1 c52_5
        show tR _ _ _ _ [some (.ref 571), some (.int l1), some (.int l2), some (.int v3), some (.int v4)] _ _ _ _
        exact r_eI (r' := K v3 v4 ((x_m_know T l1).2)) (by rw [x_m_mind_38]; rw [if_neg c43_4, if_pos c52_5]) ((hk v3 v4 ((x_m_know T l1).2) kk))
      · have kk := kk.2 c52_5
        refine r_p dX12_mind_55 rfl rfl ?_
        refine r_get dX12_mind_56 fkX12_79 rfl rfl ?_
        refine r_p dX12_mind_59 rfl rfl ?_
        obtain ⟨q2, kk⟩ := kk
        refine r_ia dX12_mind_61 rfl q2 ?_
        refine r_p dX12_mind_62 rfl rfl ?_
        refine r_clt dX12_mind_63 rfl (fun c63_6 => ?_) (fun c63_6 => ?_)
        · have kk := kk.1 c63_6
          refine r_p dX12_mind_93 rfl rfl ?_
          refine r_p dX12_mind_94 rfl rfl ?_
          refine r_inc (y := 1) dX12_mind_95 rfl rfl rfl ?_
          refine r_go dX12_mind_98 rfl ?_
          show tR _ _ _ _ [some (.ref 571), some (.int l1), some (.int l2), some (.int v3), some (.int (v4 + 1))] _ _ _ _
          exact r_eI (r' := x_m_mind_38 l1 l2 K f v3 (v4 + 1) ((x_m_know T l1).2)) (by rw [x_m_mind_38]; rw [if_neg c43_4, if_neg c52_5, if_pos c63_6]) ((ih v3 (v4 + 1) ((x_m_know T l1).2) kk))
        · have kk := kk.2 c63_6
          refine r_p dX12_mind_66 rfl rfl ?_
          refine r_k dX12_mind_67 kkX12_137 ?_
          obtain ⟨KJ1, hKJ1⟩ : ∃ q : Int32 × St, q = (x_m_mind_38 l1 l2 K f v4 (v4 + 1) ((x_m_know T l1).2)) := ⟨_, rfl⟩
          obtain ⟨OJ1, hOJ1⟩ : ∃ q : Prop, q = (ok_m_mind_38 l1 l2 Kk f v4 (v4 + 1) ((x_m_know T l1).2)) := ⟨_, rfl⟩
          rw [← hOJ1] at kk
          simp only [jn] at kk
          have hJ1 : OJ1 → tR X 6 mX12_mind 88 [some (.ref 571), some (.int l1), some (.int l2), some (.int v3), some (.int v4)] [] ((x_m_know T l1).2) (some (.int KJ1.1)) KJ1.2 := by
            intro  kk
            rw [hOJ1] at kk
            try dsimp only at kk
            rw [hKJ1]
            refine r_p dX12_mind_88 rfl rfl ?_
            refine r_go dX12_mind_90 rfl ?_
            refine r_p dX12_mind_94 rfl rfl ?_
            refine r_inc (y := 1) dX12_mind_95 rfl rfl rfl ?_
            refine r_go dX12_mind_98 rfl ?_
            show tR _ _ _ _ [some (.ref 571), some (.int l1), some (.int l2), some (.int v4), some (.int (v4 + 1))] _ _ _ _
            exact r_eI (r' := x_m_mind_38 l1 l2 K f v4 (v4 + 1) ((x_m_know T l1).2)) rfl ((ih v4 (v4 + 1) ((x_m_know T l1).2) kk))
          refine r_eI (r' := jn (fun (KJ1 : Int32 × St) => if v3 = (-1000000) then (KJ1) else (if (((x_m_know T l1).2).2.2.1 595 (v3 : Int32).toNatClampNeg) ≤ (((x_m_know T l1).2).2.2.1 595 (v4 : Int32).toNatClampNeg) then (x_m_mind_38 l1 l2 K f v3 (v4 + 1) ((x_m_know T l1).2)) else (KJ1))) KJ1) (by rw [hKJ1]; rw [x_m_mind_38]; rw [if_neg c43_4, if_neg c52_5, if_neg c63_6]) ?_
          refine r_ceq dX12_mind_69 rfl (fun c69_9 => ?_) (fun c69_9 => ?_)
          · have kk := kk.1 c69_9
            show tR _ _ _ _ [some (.ref 571), some (.int l1), some (.int l2), some (.int v3), some (.int v4)] [] _ _ _
            exact r_eI (r' := KJ1) (by simp only [jn]; rw [if_pos c69_9]) ((hJ1  kk))
          · have kk := kk.2 c69_9
            refine r_p dX12_mind_72 rfl rfl ?_
            refine r_get dX12_mind_73 fkX12_79 rfl rfl ?_
            refine r_p dX12_mind_76 rfl rfl ?_
            refine r_ia dX12_mind_78 rfl q2 ?_
            refine r_p dX12_mind_79 rfl rfl ?_
            refine r_get dX12_mind_80 fkX12_79 rfl rfl ?_
            refine r_p dX12_mind_83 rfl rfl ?_
            obtain ⟨q4, kk⟩ := kk
            refine r_ia dX12_mind_84 rfl q4 ?_
            refine r_cge dX12_mind_85 rfl (fun c85_10 => ?_) (fun c85_10 => ?_)
            · have kk := kk.1 c85_10
              refine r_p dX12_mind_93 rfl rfl ?_
              refine r_p dX12_mind_94 rfl rfl ?_
              refine r_inc (y := 1) dX12_mind_95 rfl rfl rfl ?_
              refine r_go dX12_mind_98 rfl ?_
              show tR _ _ _ _ [some (.ref 571), some (.int l1), some (.int l2), some (.int v3), some (.int (v4 + 1))] _ _ _ _
              exact r_eI (r' := x_m_mind_38 l1 l2 K f v3 (v4 + 1) ((x_m_know T l1).2)) (by simp only [jn]; rw [if_neg c69_9, if_pos c85_10]) ((ih v3 (v4 + 1) ((x_m_know T l1).2) kk))
            · have kk := kk.2 c85_10
              show tR _ _ _ _ [some (.ref 571), some (.int l1), some (.int l2), some (.int v3), some (.int v4)] [] _ _ _
              exact r_eI (r' := KJ1) (by simp only [jn]; rw [if_neg c69_9, if_neg c85_10]) ((hJ1  kk))
def x_m_mind (T : St) (p0 : Int32) (p1 : Int32) : Int32 × St := if (x_m_isBy (sF T 571 0 0) p0) = 0 then ((-1000001), sF T 571 0 0) else (if (x_m_isMinute (sF T 571 0 0) p1) = 0 then ((-1000001), sF T 571 0 0) else (if ((sF T 571 0 0).1 571 7) = 0 then ((-1000002), sF T 571 0 0) else (x_m_mind_38 p0 p1 (fun (w1_3 : Int32) (w1_4 : Int32) (T201 : St) => (w1_3, T201)) 1000 (-1000000) 0 (sF T 571 0 0))))
def ok_m_mind (T : St) (p0 : Int32) (p1 : Int32) : Prop := (¬ (x_m_isBy (sF T 571 0 0) p0) = 0 → (¬ (x_m_isMinute (sF T 571 0 0) p1) = 0 → (¬ ((sF T 571 0 0).1 571 7) = 0 → ok_m_mind_38 p0 p1 (fun (w1_3 : Int32) (w1_4 : Int32) (T201 : St) => True) 1000 (-1000000) 0 (sF T 571 0 0))))
theorem c_m_mind {X : Nat × (Nat → Int32)} {T : St} (p0 : Int32) (p1 : Int32) (kk : ok_m_mind T p0 p1) : tC X 7 mX12_mind [.ref 571, .int p0, .int p1] T (some (.int (x_m_mind T p0 p1).1)) ((x_m_mind T p0 p1).2) := by
  unfold ok_m_mind at kk
  refine tC_of ?_
  refine r_p dX12_mind_0 rfl rfl ?_
  refine r_ci (x := 0) dX12_mind_1 rfl ?_
  refine r_put dX12_mind_2 fkX12_101 rfl rfl rfl (Nat.le_of_ble_eq_true rfl) rfl rfl ?_
  refine r_p dX12_mind_5 rfl rfl ?_
  refine r_cs (d1 := 2) dX12_mind_6 csX12_318 rfl rfl (Nat.le_of_ble_eq_true rfl) (Nat.le_of_ble_eq_true rfl) (Nat.le_of_ble_eq_true rfl) (c_m_isBy p0) ?_
  refine r_ieq dX12_mind_9 rfl (fun c9_1 => ?_) (fun c9_1 => ?_)
  · refine r_k dX12_mind_19 kkX12_121 ?_
    exact r_eI (r' := ((-1000001), sF T 571 0 0)) (by unfold x_m_mind; rw [if_pos c9_1]) (r_ri dX12_mind_21 rfl rfl rfl rfl)
  · have kk := kk c9_1
    refine r_p dX12_mind_12 rfl rfl ?_
    refine r_cs (d1 := 2) dX12_mind_13 csX12_254 rfl rfl (Nat.le_of_ble_eq_true rfl) (Nat.le_of_ble_eq_true rfl) (Nat.le_of_ble_eq_true rfl) (c_m_isMinute p1) ?_
    refine r_ine dX12_mind_16 rfl (fun c16_2 => ?_) (fun c16_2 => ?_)
    · have kk := kk c16_2
      refine r_p dX12_mind_22 rfl rfl ?_
      refine r_get dX12_mind_23 fkX12_221 rfl rfl ?_
      refine r_ine dX12_mind_26 rfl (fun c26_3 => ?_) (fun c26_3 => ?_)
      · have kk := kk c26_3
        refine r_k dX12_mind_32 kkX12_137 ?_
        refine r_p dX12_mind_34 rfl rfl ?_
        refine r_ci (x := 0) dX12_mind_35 rfl ?_
        refine r_p dX12_mind_36 rfl rfl ?_
        show tR _ _ _ _ [some (.ref 571), some (.int p0), some (.int p1), some (.int (-1000000)), some (.int 0)] _ _ _ _
        refine r_eI (r' := x_m_mind_38 p0 p1 (fun (w1_3 : Int32) (w1_4 : Int32) (T201 : St) => (w1_3, T201)) 1000 (-1000000) 0 (sF T 571 0 0)) (by unfold x_m_mind; rw [if_neg c9_1, if_neg c16_2, if_neg c26_3]) ((c_m_mind_38 p0 p1 (fun w1_3 w1_4 T201 kk => ?_) 1000 (-1000000) 0 (sF T 571 0 0) kk))
        · refine r_p dX12_mind_101 rfl rfl ?_
          exact r_eI (r' := (w1_3, T201)) rfl (r_ri dX12_mind_102 rfl rfl rfl rfl)
      · refine r_k dX12_mind_29 kkX12_253 ?_
        exact r_eI (r' := ((-1000002), sF T 571 0 0)) (by unfold x_m_mind; rw [if_neg c9_1, if_neg c16_2, if_pos c26_3]) (r_ri dX12_mind_31 rfl rfl rfl rfl)
    · refine r_k dX12_mind_19 kkX12_121 ?_
      exact r_eI (r' := ((-1000001), sF T 571 0 0)) (by unfold x_m_mind; rw [if_neg c9_1, if_pos c16_2]) (r_ri dX12_mind_21 rfl rfl rfl rfl)
def x_m_image_30 (l1 : Int32) (K : Int32 → St → Int32 × St) : Nat → Int32 → St → Int32 × St
  | 0, _, T => (0, T)
  | f + 1, v2, T => if 204 ≤ v2 then (K v2 T) else (x_m_image_30 l1 K f (v2 + 1) (sA T 600 ((204 * l1) + v2 : Int32).toNatClampNeg (T.2.2.1 575 (v2 : Int32).toNatClampNeg)))
def ok_m_image_30 (l1 : Int32) (Kk : Int32 → St → Prop) : Nat → Int32 → St → Prop
  | 0, _, _ => False
  | f + 1, v2, T => ((204 ≤ v2 → Kk v2 T) ∧ (¬ 204 ≤ v2 → (vp_in v2 204) ∧ (vp_in ((204 * l1) + v2) 408) ∧ ok_m_image_30 l1 Kk f (v2 + 1) (sA T 600 ((204 * l1) + v2 : Int32).toNatClampNeg (T.2.2.1 575 (v2 : Int32).toNatClampNeg))))
theorem c_m_image_30 {X : Nat × (Nat → Int32)} (l1 : Int32) {K : Int32 → St → Int32 × St} {Kk : Int32 → St → Prop} (hk : ∀ (v2 : Int32) (T : St), Kk v2 T → tR X 1 mX12_image 61 [some (.ref 571), some (.int l1), some (.int v2)] [] T (some (.int (K v2 T).1)) ((K v2 T).2)) : ∀ (f : Nat) (v2 : Int32) (T : St), ok_m_image_30 l1 Kk f v2 T → tR X 1 mX12_image 30 [some (.ref 571), some (.int l1), some (.int v2)] [] T (some (.int (x_m_image_30 l1 K f v2 T).1)) ((x_m_image_30 l1 K f v2 T).2) := by
  intro f
  induction f with
  | zero => intro v2 T kk; exact kk.elim
  | succ f ih =>
    intro v2 T kk
    rw [ok_m_image_30] at kk
    refine r_p dX12_image_30 rfl rfl ?_
    refine r_csi (x := 204) dX12_image_31 rfl ?_
    refine r_cge dX12_image_34 rfl (fun c34_3 => ?_) (fun c34_3 => ?_)
    · have kk := kk.1 c34_3
      show tR _ _ _ _ [some (.ref 571), some (.int l1), some (.int v2)] _ _ _ _
      exact r_eI (r' := K v2 T) (by rw [x_m_image_30]; rw [if_pos c34_3]) ((hk v2 T kk))
    · have kk := kk.2 c34_3
      refine r_p dX12_image_37 rfl rfl ?_
      refine r_get dX12_image_38 fkX12_95 rfl rfl ?_
      refine r_csi (x := 204) dX12_image_41 rfl ?_
      refine r_p dX12_image_44 rfl rfl ?_
      refine r_p dX12_image_45 rfl rfl ?_
      refine r_p dX12_image_46 rfl rfl ?_
      refine r_p dX12_image_47 rfl rfl ?_
      refine r_p dX12_image_48 rfl rfl ?_
      refine r_get dX12_image_49 fkX12_19 rfl rfl ?_
      refine r_p dX12_image_52 rfl rfl ?_
      obtain ⟨q1, kk⟩ := kk
      refine r_ia dX12_image_53 rfl q1 ?_
      obtain ⟨q2, kk⟩ := kk
      refine r_ias dX12_image_54 rfl q2 ?_
      refine r_inc (y := 1) dX12_image_55 rfl rfl rfl ?_
      refine r_go dX12_image_58 rfl ?_
      show tR _ _ _ _ [some (.ref 571), some (.int l1), some (.int (v2 + 1))] _ _ _ _
      exact r_eI (r' := x_m_image_30 l1 K f (v2 + 1) (sA T 600 ((204 * l1) + v2 : Int32).toNatClampNeg (T.2.2.1 575 (v2 : Int32).toNatClampNeg))) (by rw [x_m_image_30]; rw [if_neg c34_3]) ((ih (v2 + 1) (sA T 600 ((204 * l1) + v2 : Int32).toNatClampNeg (T.2.2.1 575 (v2 : Int32).toNatClampNeg)) kk))
def x_m_image (T : St) (p0 : Int32) : Int32 × St := if (x_m_in (sF T 571 0 0) ((p0 : Int32).toInt64) 0 1) = 0 then ((-1000001), sF T 571 0 0) else (if ((sF T 571 0 0).1 571 7) = 0 then ((-1000002), sF T 571 0 0) else (x_m_image_30 p0 (fun (w1_2 : Int32) (T201 : St) => (1, sA T201 599 (p0 : Int32).toNatClampNeg (vp_nar .boolean 1))) 1000 0 (sF T 571 0 0)))
def ok_m_image (T : St) (p0 : Int32) : Prop := (¬ (x_m_in (sF T 571 0 0) ((p0 : Int32).toInt64) 0 1) = 0 → (¬ ((sF T 571 0 0).1 571 7) = 0 → ok_m_image_30 p0 (fun (w1_2 : Int32) (T201 : St) => (vp_in p0 2) ∧ True) 1000 0 (sF T 571 0 0)))
theorem c_m_image {X : Nat × (Nat → Int32)} {T : St} (p0 : Int32) (kk : ok_m_image T p0) : tC X 2 mX12_image [.ref 571, .int p0] T (some (.int (x_m_image T p0).1)) ((x_m_image T p0).2) := by
  unfold ok_m_image at kk
  refine tC_of ?_
  refine r_p dX12_image_0 rfl rfl ?_
  refine r_ci (x := 0) dX12_image_1 rfl ?_
  refine r_put dX12_image_2 fkX12_101 rfl rfl rfl (Nat.le_of_ble_eq_true rfl) rfl rfl ?_
  refine r_p dX12_image_5 rfl rfl ?_
  refine r_p dX12_image_6 rfl rfl ?_
  refine r_cl (x := 0) dX12_image_7 rfl ?_
  refine r_cl (x := 1) dX12_image_8 rfl ?_
  refine r_cs (d1 := 1) dX12_image_9 csX12_111 rfl rfl (Nat.le_of_ble_eq_true rfl) (Nat.le_of_ble_eq_true rfl) (Nat.le_of_ble_eq_true rfl) (c_m_in ((p0 : Int32).toInt64) 0 1) ?_
  refine r_ine dX12_image_12 rfl (fun c12_1 => ?_) (fun c12_1 => ?_)
  · have kk := kk c12_1
    refine r_p dX12_image_18 rfl rfl ?_
    refine r_get dX12_image_19 fkX12_221 rfl rfl ?_
    refine r_ine dX12_image_22 rfl (fun c22_2 => ?_) (fun c22_2 => ?_)
    · have kk := kk c22_2
      refine r_ci (x := 0) dX12_image_28 rfl ?_
      refine r_p dX12_image_29 rfl rfl ?_
      show tR _ _ _ _ [some (.ref 571), some (.int p0), some (.int 0)] _ _ _ _
      refine r_eI (r' := x_m_image_30 p0 (fun (w1_2 : Int32) (T201 : St) => (1, sA T201 599 (p0 : Int32).toNatClampNeg (vp_nar .boolean 1))) 1000 0 (sF T 571 0 0)) (by unfold x_m_image; rw [if_neg c12_1, if_neg c22_2]) ((c_m_image_30 p0 (fun w1_2 T201 kk => ?_) 1000 0 (sF T 571 0 0) kk))
      · try dsimp only at kk
        refine r_p dX12_image_61 rfl rfl ?_
        refine r_get dX12_image_62 fkX12_91 rfl rfl ?_
        refine r_p dX12_image_65 rfl rfl ?_
        refine r_ci (x := 1) dX12_image_66 rfl ?_
        obtain ⟨q3, kk⟩ := kk
        refine r_zas dX12_image_67 rfl q3 ?_
        refine r_ci (x := 1) dX12_image_68 rfl ?_
        exact r_eI (r' := (1, sA T201 599 (p0 : Int32).toNatClampNeg (vp_nar .boolean 1))) rfl (r_ri dX12_image_69 rfl rfl rfl rfl)
    · refine r_k dX12_image_25 kkX12_253 ?_
      exact r_eI (r' := ((-1000002), sF T 571 0 0)) (by unfold x_m_image; rw [if_neg c12_1, if_pos c22_2]) (r_ri dX12_image_27 rfl rfl rfl rfl)
  · refine r_k dX12_image_15 kkX12_121 ?_
    exact r_eI (r' := ((-1000001), sF T 571 0 0)) (by unfold x_m_image; rw [if_pos c12_1]) (r_ri dX12_image_17 rfl rfl rfl rfl)
def x_m_restore_32 (l1 : Int32) (K : Int32 → St → Int32 × St) : Nat → Int32 → St → Int32 × St
  | 0, _, T => (0, T)
  | f + 1, v2, T => if 204 ≤ v2 then (K v2 T) else (x_m_restore_32 l1 K f (v2 + 1) (sA T 575 (v2 : Int32).toNatClampNeg (T.2.2.1 600 ((204 * l1) + v2 : Int32).toNatClampNeg)))
def ok_m_restore_32 (l1 : Int32) (Kk : Int32 → St → Prop) : Nat → Int32 → St → Prop
  | 0, _, _ => False
  | f + 1, v2, T => ((204 ≤ v2 → Kk v2 T) ∧ (¬ 204 ≤ v2 → (vp_in ((204 * l1) + v2) 408) ∧ (vp_in v2 204) ∧ ok_m_restore_32 l1 Kk f (v2 + 1) (sA T 575 (v2 : Int32).toNatClampNeg (T.2.2.1 600 ((204 * l1) + v2 : Int32).toNatClampNeg))))
theorem c_m_restore_32 {X : Nat × (Nat → Int32)} (l1 : Int32) {K : Int32 → St → Int32 × St} {Kk : Int32 → St → Prop} (hk : ∀ (v2 : Int32) (T : St), Kk v2 T → tR X 1 mX12_restore 63 [some (.ref 571), some (.int l1), some (.int v2)] [] T (some (.int (K v2 T).1)) ((K v2 T).2)) : ∀ (f : Nat) (v2 : Int32) (T : St), ok_m_restore_32 l1 Kk f v2 T → tR X 1 mX12_restore 32 [some (.ref 571), some (.int l1), some (.int v2)] [] T (some (.int (x_m_restore_32 l1 K f v2 T).1)) ((x_m_restore_32 l1 K f v2 T).2) := by
  intro f
  induction f with
  | zero => intro v2 T kk; exact kk.elim
  | succ f ih =>
    intro v2 T kk
    rw [ok_m_restore_32] at kk
    refine r_p dX12_restore_32 rfl rfl ?_
    refine r_csi (x := 204) dX12_restore_33 rfl ?_
    refine r_cge dX12_restore_36 rfl (fun c36_3 => ?_) (fun c36_3 => ?_)
    · have kk := kk.1 c36_3
      show tR _ _ _ _ [some (.ref 571), some (.int l1), some (.int v2)] _ _ _ _
      exact r_eI (r' := K v2 T) (by rw [x_m_restore_32]; rw [if_pos c36_3]) ((hk v2 T kk))
    · have kk := kk.2 c36_3
      refine r_p dX12_restore_39 rfl rfl ?_
      refine r_get dX12_restore_40 fkX12_19 rfl rfl ?_
      refine r_p dX12_restore_43 rfl rfl ?_
      refine r_p dX12_restore_44 rfl rfl ?_
      refine r_get dX12_restore_45 fkX12_95 rfl rfl ?_
      refine r_csi (x := 204) dX12_restore_48 rfl ?_
      refine r_p dX12_restore_51 rfl rfl ?_
      refine r_p dX12_restore_52 rfl rfl ?_
      refine r_p dX12_restore_53 rfl rfl ?_
      refine r_p dX12_restore_54 rfl rfl ?_
      obtain ⟨q2, kk⟩ := kk
      refine r_ia dX12_restore_55 rfl q2 ?_
      obtain ⟨q3, kk⟩ := kk
      refine r_ias dX12_restore_56 rfl q3 ?_
      refine r_inc (y := 1) dX12_restore_57 rfl rfl rfl ?_
      refine r_go dX12_restore_60 rfl ?_
      show tR _ _ _ _ [some (.ref 571), some (.int l1), some (.int (v2 + 1))] _ _ _ _
      exact r_eI (r' := x_m_restore_32 l1 K f (v2 + 1) (sA T 575 (v2 : Int32).toNatClampNeg (T.2.2.1 600 ((204 * l1) + v2 : Int32).toNatClampNeg))) (by rw [x_m_restore_32]; rw [if_neg c36_3]) ((ih (v2 + 1) (sA T 575 (v2 : Int32).toNatClampNeg (T.2.2.1 600 ((204 * l1) + v2 : Int32).toNatClampNeg)) kk))
def x_m_restore (T : St) (p0 : Int32) : Int32 × St := if (x_m_in (sF T 571 0 0) ((p0 : Int32).toInt64) 0 1) = 0 then ((-1000001), sF T 571 0 0) else (if ((sF T 571 0 0).2.2.1 599 (p0 : Int32).toNatClampNeg) = 0 then ((-1000002), sF T 571 0 0) else (x_m_restore_32 p0 (fun (w1_2 : Int32) (T201 : St) => (1, x_m_forget T201)) 1000 0 (sF T 571 0 0)))
def ok_m_restore (T : St) (p0 : Int32) : Prop := (¬ (x_m_in (sF T 571 0 0) ((p0 : Int32).toInt64) 0 1) = 0 → (vp_in p0 2) ∧ (¬ ((sF T 571 0 0).2.2.1 599 (p0 : Int32).toNatClampNeg) = 0 → ok_m_restore_32 p0 (fun (w1_2 : Int32) (T201 : St) => True) 1000 0 (sF T 571 0 0)))
theorem c_m_restore {X : Nat × (Nat → Int32)} {T : St} (p0 : Int32) (kk : ok_m_restore T p0) : tC X 2 mX12_restore [.ref 571, .int p0] T (some (.int (x_m_restore T p0).1)) ((x_m_restore T p0).2) := by
  unfold ok_m_restore at kk
  refine tC_of ?_
  refine r_p dX12_restore_0 rfl rfl ?_
  refine r_ci (x := 0) dX12_restore_1 rfl ?_
  refine r_put dX12_restore_2 fkX12_101 rfl rfl rfl (Nat.le_of_ble_eq_true rfl) rfl rfl ?_
  refine r_p dX12_restore_5 rfl rfl ?_
  refine r_p dX12_restore_6 rfl rfl ?_
  refine r_cl (x := 0) dX12_restore_7 rfl ?_
  refine r_cl (x := 1) dX12_restore_8 rfl ?_
  refine r_cs (d1 := 1) dX12_restore_9 csX12_111 rfl rfl (Nat.le_of_ble_eq_true rfl) (Nat.le_of_ble_eq_true rfl) (Nat.le_of_ble_eq_true rfl) (c_m_in ((p0 : Int32).toInt64) 0 1) ?_
  refine r_ine dX12_restore_12 rfl (fun c12_1 => ?_) (fun c12_1 => ?_)
  · have kk := kk c12_1
    refine r_p dX12_restore_18 rfl rfl ?_
    refine r_get dX12_restore_19 fkX12_91 rfl rfl ?_
    refine r_p dX12_restore_22 rfl rfl ?_
    obtain ⟨q1, kk⟩ := kk
    refine r_za dX12_restore_23 rfl q1 ?_
    refine r_ine dX12_restore_24 rfl (fun c24_2 => ?_) (fun c24_2 => ?_)
    · have kk := kk c24_2
      refine r_ci (x := 0) dX12_restore_30 rfl ?_
      refine r_p dX12_restore_31 rfl rfl ?_
      show tR _ _ _ _ [some (.ref 571), some (.int p0), some (.int 0)] _ _ _ _
      refine r_eI (r' := x_m_restore_32 p0 (fun (w1_2 : Int32) (T201 : St) => (1, x_m_forget T201)) 1000 0 (sF T 571 0 0)) (by unfold x_m_restore; rw [if_neg c12_1, if_neg c24_2]) ((c_m_restore_32 p0 (fun w1_2 T201 kk => ?_) 1000 0 (sF T 571 0 0) kk))
      · refine r_p dX12_restore_63 rfl rfl ?_
        refine r_cv (d1 := 1) dX12_restore_64 cvX12_225 rfl rfl rfl rfl (Nat.le_of_ble_eq_true rfl) (Nat.le_of_ble_eq_true rfl) (Nat.le_of_ble_eq_true rfl) (c_m_forget ) ?_
        refine r_ci (x := 1) dX12_restore_67 rfl ?_
        exact r_eI (r' := (1, x_m_forget T201)) rfl (r_ri dX12_restore_68 rfl rfl rfl rfl)
    · refine r_k dX12_restore_27 kkX12_253 ?_
      exact r_eI (r' := ((-1000002), sF T 571 0 0)) (by unfold x_m_restore; rw [if_neg c12_1, if_pos c24_2]) (r_ri dX12_restore_29 rfl rfl rfl rfl)
  · refine r_k dX12_restore_15 kkX12_121 ?_
    exact r_eI (r' := ((-1000001), sF T 571 0 0)) (by unfold x_m_restore; rw [if_pos c12_1]) (r_ri dX12_restore_17 rfl rfl rfl rfl)
def x_m_kindOf (T : St) (p0 : Int32) : Int32 := if (x_m_stepOf T p0 0) = 1 then (if (x_m_stepOf T p0 3) = 2 then (6) else (x_m_stepOf T p0 0)) else (x_m_stepOf T p0 0)
def ok_m_kindOf (T : St) (p0 : Int32) : Prop := (ok_m_stepOf T p0 0) ∧ ((x_m_stepOf T p0 0) = 1 → (ok_m_stepOf T p0 3) ∧ True)
theorem c_m_kindOf {X : Nat × (Nat → Int32)} {T : St} (p0 : Int32) (kk : ok_m_kindOf T p0) : tC X 2 mX12_kindOf [.ref 571, .int p0] T (some (.int (x_m_kindOf T p0))) T := by
  unfold ok_m_kindOf at kk
  refine tC_of ?_
  refine r_p dX12_kindOf_0 rfl rfl ?_
  refine r_p dX12_kindOf_1 rfl rfl ?_
  refine r_ci (x := 0) dX12_kindOf_2 rfl ?_
  obtain ⟨q1, kk⟩ := kk
  refine r_cv (d1 := 1) dX12_kindOf_3 cvX12_232 rfl rfl rfl rfl (Nat.le_of_ble_eq_true rfl) (Nat.le_of_ble_eq_true rfl) (Nat.le_of_ble_eq_true rfl) (c_m_stepOf p0 0 q1) ?_
  refine r_p dX12_kindOf_6 rfl rfl ?_
  refine r_p dX12_kindOf_7 rfl rfl ?_
  refine r_ci (x := 1) dX12_kindOf_8 rfl ?_
  refine r_cne dX12_kindOf_9 rfl (fun c9_1 => ?_) (fun c9_1 => ?_)
  · refine r_p dX12_kindOf_27 rfl rfl ?_
    exact r_eIp (r' := (x_m_stepOf T p0 0)) (by unfold x_m_kindOf; rw [if_neg c9_1]) (r_ri dX12_kindOf_28 rfl rfl rfl rfl)
  · have kk := kk c9_1
    refine r_p dX12_kindOf_12 rfl rfl ?_
    refine r_p dX12_kindOf_13 rfl rfl ?_
    refine r_ci (x := 3) dX12_kindOf_14 rfl ?_
    obtain ⟨q2, kk⟩ := kk
    refine r_cv (d1 := 1) dX12_kindOf_15 cvX12_232 rfl rfl rfl rfl (Nat.le_of_ble_eq_true rfl) (Nat.le_of_ble_eq_true rfl) (Nat.le_of_ble_eq_true rfl) (c_m_stepOf p0 3 q2) ?_
    refine r_ci (x := 2) dX12_kindOf_18 rfl ?_
    refine r_cne dX12_kindOf_19 rfl (fun c19_2 => ?_) (fun c19_2 => ?_)
    · refine r_p dX12_kindOf_27 rfl rfl ?_
      exact r_eIp (r' := (x_m_stepOf T p0 0)) (by unfold x_m_kindOf; rw [if_pos c9_1, if_neg c19_2]) (r_ri dX12_kindOf_28 rfl rfl rfl rfl)
    · refine r_cb (x := 6) dX12_kindOf_22 rfl ?_
      refine r_go dX12_kindOf_24 rfl ?_
      exact r_eIp (r' := 6) (by unfold x_m_kindOf; rw [if_pos c9_1, if_pos c19_2]) (r_ri dX12_kindOf_28 rfl rfl rfl rfl)
def x_m_isOf (T : St) (p0 : Int32) (p1 : Int32) : Int32 := if p1 = 0 then (1) else (if p0 = p1 then (1) else (jn (fun (KJ1 : Int32) => if p1 = 1 then (if p0 = 6 then (1) else (KJ1)) else (KJ1)) (if p1 = 4 then (if p0 = 5 then (1) else (0)) else (0))))
theorem c_m_isOf {X : Nat × (Nat → Int32)} {T : St} (p0 : Int32) (p1 : Int32) : tC X 1 mX12_isOf [.int p0, .int p1] T (some (.int (x_m_isOf T p0 p1))) T := by
  refine tC_of ?_
  refine r_p dX12_isOf_0 rfl rfl ?_
  refine r_ieq dX12_isOf_1 rfl (fun c1_1 => ?_) (fun c1_1 => ?_)
  · refine r_ci (x := 1) dX12_isOf_30 rfl ?_
    refine r_go dX12_isOf_31 rfl ?_
    exact r_eIp (r' := 1) (by unfold x_m_isOf; rw [if_pos c1_1]) (r_ri dX12_isOf_35 rfl rfl rfl rfl)
  · refine r_p dX12_isOf_4 rfl rfl ?_
    refine r_p dX12_isOf_5 rfl rfl ?_
    refine r_ceq dX12_isOf_6 rfl (fun c6_2 => ?_) (fun c6_2 => ?_)
    · refine r_ci (x := 1) dX12_isOf_30 rfl ?_
      refine r_go dX12_isOf_31 rfl ?_
      exact r_eIp (r' := 1) (by unfold x_m_isOf; rw [if_neg c1_1, if_pos c6_2]) (r_ri dX12_isOf_35 rfl rfl rfl rfl)
    · refine r_p dX12_isOf_9 rfl rfl ?_
      refine r_ci (x := 1) dX12_isOf_10 rfl ?_
      obtain ⟨KJ1, hKJ1⟩ : ∃ q : Int32, q = (if p1 = 4 then (if p0 = 5 then (1) else (0)) else (0)) := ⟨_, rfl⟩
      have hJ1 : tR X 0 mX12_isOf 20 [some (.int p0), some (.int p1)] [] T (some (.int KJ1)) T := by
        rw [hKJ1]
        refine r_p dX12_isOf_20 rfl rfl ?_
        refine r_ci (x := 4) dX12_isOf_21 rfl ?_
        refine r_cne dX12_isOf_22 rfl (fun c22_5 => ?_) (fun c22_5 => ?_)
        · refine r_ci (x := 0) dX12_isOf_34 rfl ?_
          exact r_eIp (r' := 0) (by first | rw [if_neg c22_5] | (dsimp only; rw [if_neg c22_5])) (r_ri dX12_isOf_35 rfl rfl rfl rfl)
        · refine r_p dX12_isOf_25 rfl rfl ?_
          refine r_ci (x := 5) dX12_isOf_26 rfl ?_
          refine r_cne dX12_isOf_27 rfl (fun c27_6 => ?_) (fun c27_6 => ?_)
          · refine r_ci (x := 0) dX12_isOf_34 rfl ?_
            exact r_eIp (r' := 0) (by first | rw [if_pos c22_5, if_neg c27_6] | (dsimp only; rw [if_pos c22_5, if_neg c27_6])) (r_ri dX12_isOf_35 rfl rfl rfl rfl)
          · refine r_ci (x := 1) dX12_isOf_30 rfl ?_
            refine r_go dX12_isOf_31 rfl ?_
            exact r_eIp (r' := 1) (by first | rw [if_pos c22_5, if_pos c27_6] | (dsimp only; rw [if_pos c22_5, if_pos c27_6])) (r_ri dX12_isOf_35 rfl rfl rfl rfl)
      refine r_eIp (r' := jn (fun (KJ1 : Int32) => if p1 = 1 then (if p0 = 6 then (1) else (KJ1)) else (KJ1)) KJ1) (by rw [hKJ1]; unfold x_m_isOf; rw [if_neg c1_1, if_neg c6_2]) ?_
      refine r_cne dX12_isOf_11 rfl (fun c11_7 => ?_) (fun c11_7 => ?_)
      · show tR _ _ _ _ [some (.int p0), some (.int p1)] [] _ _ _
        exact r_eIp (r' := KJ1) (by simp only [jn]; rw [if_neg c11_7]) ((hJ1 ))
      · refine r_p dX12_isOf_14 rfl rfl ?_
        refine r_cb (x := 6) dX12_isOf_15 rfl ?_
        refine r_ceq dX12_isOf_17 rfl (fun c17_8 => ?_) (fun c17_8 => ?_)
        · refine r_ci (x := 1) dX12_isOf_30 rfl ?_
          refine r_go dX12_isOf_31 rfl ?_
          exact r_eIp (r' := 1) (by simp only [jn]; rw [if_pos c11_7, if_pos c17_8]) (r_ri dX12_isOf_35 rfl rfl rfl rfl)
        · show tR _ _ _ _ [some (.int p0), some (.int p1)] [] _ _ _
          exact r_eIp (r' := KJ1) (by simp only [jn]; rw [if_pos c11_7, if_neg c17_8]) ((hJ1 ))
theorem b_m_isOf (T : St) (p0 : Int32) (p1 : Int32) : x_m_isOf T p0 p1 = 0 ∨ x_m_isOf T p0 p1 = 1 := by
  unfold x_m_isOf
  repeat' split
  all_goals (first | exact Or.inl rfl | exact Or.inr rfl)
def x_m_kind (T : St) (p0 : Int32) : Int32 × St := if (x_m_isStep (sF T 571 0 0) p0) = 0 then ((-1000001), sF T 571 0 0) else (x_m_kindOf (sF T 571 0 0) p0, sF T 571 0 0)
def ok_m_kind (T : St) (p0 : Int32) : Prop := (ok_m_isStep (sF T 571 0 0) p0) ∧ (¬ (x_m_isStep (sF T 571 0 0) p0) = 0 → (ok_m_kindOf (sF T 571 0 0) p0) ∧ True)
theorem c_m_kind {X : Nat × (Nat → Int32)} {T : St} (p0 : Int32) (kk : ok_m_kind T p0) : tC X 3 mX12_kind [.ref 571, .int p0] T (some (.int (x_m_kind T p0).1)) ((x_m_kind T p0).2) := by
  unfold ok_m_kind at kk
  refine tC_of ?_
  refine r_p dX12_kind_0 rfl rfl ?_
  refine r_ci (x := 0) dX12_kind_1 rfl ?_
  refine r_put dX12_kind_2 fkX12_101 rfl rfl rfl (Nat.le_of_ble_eq_true rfl) rfl rfl ?_
  refine r_p dX12_kind_5 rfl rfl ?_
  refine r_p dX12_kind_6 rfl rfl ?_
  obtain ⟨q1, kk⟩ := kk
  refine r_cv (d1 := 2) dX12_kind_7 cvX12_246 rfl rfl rfl rfl (Nat.le_of_ble_eq_true rfl) (Nat.le_of_ble_eq_true rfl) (Nat.le_of_ble_eq_true rfl) (c_m_isStep p0 q1) ?_
  refine r_ieq dX12_kind_10 rfl (fun c10_1 => ?_) (fun c10_1 => ?_)
  · refine r_k dX12_kind_21 kkX12_121 ?_
    exact r_eI (r' := ((-1000001), sF T 571 0 0)) (by unfold x_m_kind; rw [if_pos c10_1]) (r_ri dX12_kind_23 rfl rfl rfl rfl)
  · have kk := kk c10_1
    refine r_p dX12_kind_13 rfl rfl ?_
    refine r_p dX12_kind_14 rfl rfl ?_
    obtain ⟨q2, kk⟩ := kk
    refine r_cv (d1 := 2) dX12_kind_15 cvX12_350 rfl rfl rfl rfl (Nat.le_of_ble_eq_true rfl) (Nat.le_of_ble_eq_true rfl) (Nat.le_of_ble_eq_true rfl) (c_m_kindOf p0 q2) ?_
    refine r_go dX12_kind_18 rfl ?_
    exact r_eI (r' := (x_m_kindOf (sF T 571 0 0) p0, sF T 571 0 0)) (by unfold x_m_kind; rw [if_neg c10_1]) (r_ri dX12_kind_23 rfl rfl rfl rfl)
def x_m_as (T : St) (p0 : Int32) (p1 : Int32) : Int32 × St := if (x_m_isStep (sF T 571 0 0) p0) = 0 then ((-1000001), sF T 571 0 0) else (if (x_m_in (sF T 571 0 0) ((p1 : Int32).toInt64) 0 6) = 0 then ((-1000001), sF T 571 0 0) else (if (x_m_isOf (sF (sF T 571 0 0) 571 1 0) (x_m_kindOf (sF (sF T 571 0 0) 571 1 0) p0) p1) = 0 then ((x_m_finding (sF (sF T 571 0 0) 571 1 0) 3).1, (x_m_finding (sF (sF T 571 0 0) 571 1 0) 3).2) else (p0, sF (sF T 571 0 0) 571 1 0)))
def ok_m_as (T : St) (p0 : Int32) (p1 : Int32) : Prop := (ok_m_isStep (sF T 571 0 0) p0) ∧ (¬ (x_m_isStep (sF T 571 0 0) p0) = 0 → (¬ (x_m_in (sF T 571 0 0) ((p1 : Int32).toInt64) 0 6) = 0 → (ok_m_kindOf (sF (sF T 571 0 0) 571 1 0) p0) ∧ True))
theorem c_m_as {X : Nat × (Nat → Int32)} {T : St} (p0 : Int32) (p1 : Int32) (kk : ok_m_as T p0 p1) : tC X 3 mX12_as [.ref 571, .int p0, .int p1] T (some (.int (x_m_as T p0 p1).1)) ((x_m_as T p0 p1).2) := by
  unfold ok_m_as at kk
  refine tC_of ?_
  refine r_p dX12_as_0 rfl rfl ?_
  refine r_ci (x := 0) dX12_as_1 rfl ?_
  refine r_put dX12_as_2 fkX12_101 rfl rfl rfl (Nat.le_of_ble_eq_true rfl) rfl rfl ?_
  refine r_p dX12_as_5 rfl rfl ?_
  refine r_p dX12_as_6 rfl rfl ?_
  obtain ⟨q1, kk⟩ := kk
  refine r_cv (d1 := 2) dX12_as_7 cvX12_246 rfl rfl rfl rfl (Nat.le_of_ble_eq_true rfl) (Nat.le_of_ble_eq_true rfl) (Nat.le_of_ble_eq_true rfl) (c_m_isStep p0 q1) ?_
  refine r_ieq dX12_as_10 rfl (fun c10_1 => ?_) (fun c10_1 => ?_)
  · refine r_k dX12_as_25 kkX12_121 ?_
    exact r_eI (r' := ((-1000001), sF T 571 0 0)) (by unfold x_m_as; rw [if_pos c10_1]) (r_ri dX12_as_27 rfl rfl rfl rfl)
  · have kk := kk c10_1
    refine r_p dX12_as_13 rfl rfl ?_
    refine r_p dX12_as_14 rfl rfl ?_
    refine r_cl (x := 0) dX12_as_15 rfl ?_
    refine r_kl dX12_as_16 klX12_353 ?_
    refine r_cs (d1 := 1) dX12_as_19 csX12_111 rfl rfl (Nat.le_of_ble_eq_true rfl) (Nat.le_of_ble_eq_true rfl) (Nat.le_of_ble_eq_true rfl) (c_m_in ((p1 : Int32).toInt64) 0 6) ?_
    refine r_ine dX12_as_22 rfl (fun c22_2 => ?_) (fun c22_2 => ?_)
    · have kk := kk c22_2
      refine r_p dX12_as_28 rfl rfl ?_
      refine r_ci (x := 0) dX12_as_29 rfl ?_
      refine r_put dX12_as_30 fkX12_105 rfl rfl rfl (Nat.le_of_ble_eq_true rfl) rfl rfl ?_
      refine r_p dX12_as_33 rfl rfl ?_
      refine r_p dX12_as_34 rfl rfl ?_
      obtain ⟨q2, kk⟩ := kk
      refine r_cv (d1 := 2) dX12_as_35 cvX12_350 rfl rfl rfl rfl (Nat.le_of_ble_eq_true rfl) (Nat.le_of_ble_eq_true rfl) (Nat.le_of_ble_eq_true rfl) (c_m_kindOf p0 q2) ?_
      refine r_p dX12_as_38 rfl rfl ?_
      refine r_cs (d1 := 1) dX12_as_39 csX12_355 rfl rfl (Nat.le_of_ble_eq_true rfl) (Nat.le_of_ble_eq_true rfl) (Nat.le_of_ble_eq_true rfl) (c_m_isOf (x_m_kindOf (sF (sF T 571 0 0) 571 1 0) p0) p1) ?_
      refine r_ieq dX12_as_42 rfl (fun c42_3 => ?_) (fun c42_3 => ?_)
      · refine r_p dX12_as_49 rfl rfl ?_
        refine r_ci (x := 3) dX12_as_50 rfl ?_
        refine r_cv (d1 := 1) dX12_as_51 cvX12_122 rfl rfl rfl rfl (Nat.le_of_ble_eq_true rfl) (Nat.le_of_ble_eq_true rfl) (Nat.le_of_ble_eq_true rfl) (c_m_finding 3) ?_
        exact r_eI (r' := ((x_m_finding (sF (sF T 571 0 0) 571 1 0) 3).1, (x_m_finding (sF (sF T 571 0 0) 571 1 0) 3).2)) (by unfold x_m_as; rw [if_neg c10_1, if_neg c22_2, if_pos c42_3]) (r_ri dX12_as_54 rfl rfl rfl rfl)
      · refine r_p dX12_as_45 rfl rfl ?_
        refine r_go dX12_as_46 rfl ?_
        exact r_eI (r' := (p0, sF (sF T 571 0 0) 571 1 0)) (by unfold x_m_as; rw [if_neg c10_1, if_neg c22_2, if_neg c42_3]) (r_ri dX12_as_54 rfl rfl rfl rfl)
    · refine r_k dX12_as_25 kkX12_121 ?_
      exact r_eI (r' := ((-1000001), sF T 571 0 0)) (by unfold x_m_as; rw [if_neg c10_1, if_pos c22_2]) (r_ri dX12_as_27 rfl rfl rfl rfl)
def x_m_began (T : St) (p0 : Int32) : St := if 16 ≤ (T.1 571 48) then (T) else (sF (sA T 601 (T.1 571 48 : Int32).toNatClampNeg p0) 571 48 (((sA T 601 (T.1 571 48 : Int32).toNatClampNeg p0).1 571 48) + 1))
def ok_m_began (T : St) (p0 : Int32) : Prop := (¬ 16 ≤ (T.1 571 48) → (vp_in (T.1 571 48) 16) ∧ True)
theorem c_m_began {X : Nat × (Nat → Int32)} {T : St} (p0 : Int32) (kk : ok_m_began T p0) : tC X 1 mX12_began [.ref 571, .int p0] T none (x_m_began T p0) := by
  unfold ok_m_began at kk
  refine tC_of ?_
  refine r_p dX12_began_0 rfl rfl ?_
  refine r_get dX12_began_1 fkX12_358 rfl rfl ?_
  refine r_cb (x := 16) dX12_began_4 rfl ?_
  refine r_cge dX12_began_6 rfl (fun c6_1 => ?_) (fun c6_1 => ?_)
  · exact r_eV (r' := T) (by unfold x_m_began; rw [if_pos c6_1]) (r_rv dX12_began_29 rfl rfl rfl)
  · have kk := kk c6_1
    refine r_p dX12_began_9 rfl rfl ?_
    refine r_get dX12_began_10 fkX12_98 rfl rfl ?_
    refine r_p dX12_began_13 rfl rfl ?_
    refine r_get dX12_began_14 fkX12_358 rfl rfl ?_
    refine r_p dX12_began_17 rfl rfl ?_
    obtain ⟨q1, kk⟩ := kk
    refine r_ias dX12_began_18 rfl q1 ?_
    refine r_p dX12_began_19 rfl rfl ?_
    refine r_p dX12_began_20 rfl rfl ?_
    refine r_get dX12_began_21 fkX12_358 rfl rfl ?_
    refine r_ci (x := 1) dX12_began_24 rfl ?_
    refine r_p dX12_began_25 rfl rfl ?_
    refine r_put dX12_began_26 fkX12_358 rfl rfl rfl (Nat.le_of_ble_eq_true rfl) rfl rfl ?_
    exact r_eV (r' := (sF (sA T 601 (T.1 571 48 : Int32).toNatClampNeg p0) 571 48 (((sA T 601 (T.1 571 48 : Int32).toNatClampNeg p0).1 571 48) + 1))) (by unfold x_m_began; rw [if_neg c6_1]) (r_rv dX12_began_29 rfl rfl rfl)
def x_m_markOf (T : St) (p0 : Int32) (p1 : Int32) : Int32 × St := jn (fun (KJ1 : Int32 × St) => if p1 = 5 then (KJ1) else (if p1 = 3 then (KJ1) else (if p1 = 6 then (KJ1) else (jn (fun (KJ5 : St → Int32 × St) => if (x_m_isOf T p1 4) = 0 then (KJ5 T) else (KJ5 (x_m_began T 21))) (fun (T305 : St) => if p1 = 3 then (p0 + (x_m_stepOf (x_m_began (x_m_began T305 20) 10) p0 1), x_m_began (x_m_began T305 20) 10) else (jn (fun (KJ6 : Int32 → Int32 × St) => if (x_m_isOf (x_m_began T305 20) p1 4) = 0 then (KJ6 p0) else (KJ6 (p0 + 50))) (fun (j6_s0 : Int32) => if p1 = 5 then (j6_s0 + (x_m_stepOf (x_m_began T305 20) p0 4), x_m_began T305 20) else (if p1 = 6 then (-j6_s0, x_m_began T305 20) else (j6_s0, x_m_began T305 20))))))))) (jn (fun (KJ2 : Int32 → Int32 × St) => if p1 = 5 then (KJ2 22) else (if p1 = 3 then (KJ2 23) else (KJ2 24))) (fun (j2_s1 : Int32) => jn (fun (KJ3 : St → Int32 × St) => if (x_m_isOf (x_m_began T j2_s1) p1 4) = 0 then (KJ3 (x_m_began T j2_s1)) else (KJ3 (x_m_began (x_m_began T j2_s1) 21))) (fun (T303 : St) => if p1 = 3 then (p0 + (x_m_stepOf (x_m_began (x_m_began T303 20) 10) p0 1), x_m_began (x_m_began T303 20) 10) else (jn (fun (KJ4 : Int32 → Int32 × St) => if (x_m_isOf (x_m_began T303 20) p1 4) = 0 then (KJ4 p0) else (KJ4 (p0 + 50))) (fun (j4_s0 : Int32) => if p1 = 5 then (j4_s0 + (x_m_stepOf (x_m_began T303 20) p0 4), x_m_began T303 20) else (if p1 = 6 then (-j4_s0, x_m_began T303 20) else (j4_s0, x_m_began T303 20)))))))
def ok_m_markOf (T : St) (p0 : Int32) (p1 : Int32) : Prop := jn (fun (OJ1 : Prop) => ((p1 = 5 → OJ1) ∧ (¬ p1 = 5 → ((p1 = 3 → OJ1) ∧ (¬ p1 = 3 → ((p1 = 6 → OJ1) ∧ (¬ p1 = 6 → jn (fun (OJ5 : St → Prop) => (((x_m_isOf T p1 4) = 0 → OJ5 T) ∧ (¬ (x_m_isOf T p1 4) = 0 → (ok_m_began T 21) ∧ OJ5 (x_m_began T 21)))) (fun (T305 : St) => (ok_m_began T305 20) ∧ ((p1 = 3 → (ok_m_began (x_m_began T305 20) 10) ∧ (ok_m_stepOf (x_m_began (x_m_began T305 20) 10) p0 1) ∧ True) ∧ (¬ p1 = 3 → jn (fun (OJ6 : Int32 → Prop) => (((x_m_isOf (x_m_began T305 20) p1 4) = 0 → OJ6 p0) ∧ (¬ (x_m_isOf (x_m_began T305 20) p1 4) = 0 → OJ6 (p0 + 50)))) (fun (j6_s0 : Int32) => (p1 = 5 → (ok_m_stepOf (x_m_began T305 20) p0 4) ∧ True)))))))))))) (jn (fun (OJ2 : Int32 → Prop) => ((p1 = 5 → OJ2 22) ∧ (¬ p1 = 5 → ((p1 = 3 → OJ2 23) ∧ (¬ p1 = 3 → OJ2 24))))) (fun (j2_s1 : Int32) => (ok_m_began T j2_s1) ∧ jn (fun (OJ3 : St → Prop) => (((x_m_isOf (x_m_began T j2_s1) p1 4) = 0 → OJ3 (x_m_began T j2_s1)) ∧ (¬ (x_m_isOf (x_m_began T j2_s1) p1 4) = 0 → (ok_m_began (x_m_began T j2_s1) 21) ∧ OJ3 (x_m_began (x_m_began T j2_s1) 21)))) (fun (T303 : St) => (ok_m_began T303 20) ∧ ((p1 = 3 → (ok_m_began (x_m_began T303 20) 10) ∧ (ok_m_stepOf (x_m_began (x_m_began T303 20) 10) p0 1) ∧ True) ∧ (¬ p1 = 3 → jn (fun (OJ4 : Int32 → Prop) => (((x_m_isOf (x_m_began T303 20) p1 4) = 0 → OJ4 p0) ∧ (¬ (x_m_isOf (x_m_began T303 20) p1 4) = 0 → OJ4 (p0 + 50)))) (fun (j4_s0 : Int32) => (p1 = 5 → (ok_m_stepOf (x_m_began T303 20) p0 4) ∧ True)))))))
theorem c_m_markOf {X : Nat × (Nat → Int32)} {T : St} (p0 : Int32) (p1 : Int32) (kk : ok_m_markOf T p0 p1) : tC X 2 mX12_markOf [.ref 571, .int p0, .int p1] T (some (.int (x_m_markOf T p0 p1).1)) ((x_m_markOf T p0 p1).2) := by
  unfold ok_m_markOf at kk
  refine tC_of ?_
  refine r_p dX12_markOf_0 rfl rfl ?_
  refine r_ci (x := 5) dX12_markOf_1 rfl ?_
  obtain ⟨KJ1, hKJ1⟩ : ∃ q : Int32 × St, q = (jn (fun (KJ2 : Int32 → Int32 × St) => if p1 = 5 then (KJ2 22) else (if p1 = 3 then (KJ2 23) else (KJ2 24))) (fun (j2_s1 : Int32) => jn (fun (KJ3 : St → Int32 × St) => if (x_m_isOf (x_m_began T j2_s1) p1 4) = 0 then (KJ3 (x_m_began T j2_s1)) else (KJ3 (x_m_began (x_m_began T j2_s1) 21))) (fun (T303 : St) => if p1 = 3 then (p0 + (x_m_stepOf (x_m_began (x_m_began T303 20) 10) p0 1), x_m_began (x_m_began T303 20) 10) else (jn (fun (KJ4 : Int32 → Int32 × St) => if (x_m_isOf (x_m_began T303 20) p1 4) = 0 then (KJ4 p0) else (KJ4 (p0 + 50))) (fun (j4_s0 : Int32) => if p1 = 5 then (j4_s0 + (x_m_stepOf (x_m_began T303 20) p0 4), x_m_began T303 20) else (if p1 = 6 then (-j4_s0, x_m_began T303 20) else (j4_s0, x_m_began T303 20))))))) := ⟨_, rfl⟩
  obtain ⟨OJ1, hOJ1⟩ : ∃ q : Prop, q = (jn (fun (OJ2 : Int32 → Prop) => ((p1 = 5 → OJ2 22) ∧ (¬ p1 = 5 → ((p1 = 3 → OJ2 23) ∧ (¬ p1 = 3 → OJ2 24))))) (fun (j2_s1 : Int32) => (ok_m_began T j2_s1) ∧ jn (fun (OJ3 : St → Prop) => (((x_m_isOf (x_m_began T j2_s1) p1 4) = 0 → OJ3 (x_m_began T j2_s1)) ∧ (¬ (x_m_isOf (x_m_began T j2_s1) p1 4) = 0 → (ok_m_began (x_m_began T j2_s1) 21) ∧ OJ3 (x_m_began (x_m_began T j2_s1) 21)))) (fun (T303 : St) => (ok_m_began T303 20) ∧ ((p1 = 3 → (ok_m_began (x_m_began T303 20) 10) ∧ (ok_m_stepOf (x_m_began (x_m_began T303 20) 10) p0 1) ∧ True) ∧ (¬ p1 = 3 → jn (fun (OJ4 : Int32 → Prop) => (((x_m_isOf (x_m_began T303 20) p1 4) = 0 → OJ4 p0) ∧ (¬ (x_m_isOf (x_m_began T303 20) p1 4) = 0 → OJ4 (p0 + 50)))) (fun (j4_s0 : Int32) => (p1 = 5 → (ok_m_stepOf (x_m_began T303 20) p0 4) ∧ True))))))) := ⟨_, rfl⟩
  rw [← hOJ1] at kk
  simp only [jn] at kk
  have hJ1 : OJ1 → tR X 1 mX12_markOf 16 [some (.ref 571), some (.int p0), some (.int p1), none] [] T (some (.int KJ1.1)) KJ1.2 := by
    intro  kk
    rw [hOJ1] at kk
    try dsimp only at kk
    rw [hKJ1]
    refine r_p dX12_markOf_16 rfl rfl ?_
    refine r_p dX12_markOf_17 rfl rfl ?_
    refine r_ci (x := 5) dX12_markOf_18 rfl ?_
    obtain ⟨KJ2, hKJ2⟩ : ∃ q : Int32 → Int32 × St, q = (fun (j2_s1 : Int32) => jn (fun (KJ3 : St → Int32 × St) => if (x_m_isOf (x_m_began T j2_s1) p1 4) = 0 then (KJ3 (x_m_began T j2_s1)) else (KJ3 (x_m_began (x_m_began T j2_s1) 21))) (fun (T303 : St) => if p1 = 3 then (p0 + (x_m_stepOf (x_m_began (x_m_began T303 20) 10) p0 1), x_m_began (x_m_began T303 20) 10) else (jn (fun (KJ4 : Int32 → Int32 × St) => if (x_m_isOf (x_m_began T303 20) p1 4) = 0 then (KJ4 p0) else (KJ4 (p0 + 50))) (fun (j4_s0 : Int32) => if p1 = 5 then (j4_s0 + (x_m_stepOf (x_m_began T303 20) p0 4), x_m_began T303 20) else (if p1 = 6 then (-j4_s0, x_m_began T303 20) else (j4_s0, x_m_began T303 20)))))) := ⟨_, rfl⟩
    obtain ⟨OJ2, hOJ2⟩ : ∃ q : Int32 → Prop, q = (fun (j2_s1 : Int32) => (ok_m_began T j2_s1) ∧ jn (fun (OJ3 : St → Prop) => (((x_m_isOf (x_m_began T j2_s1) p1 4) = 0 → OJ3 (x_m_began T j2_s1)) ∧ (¬ (x_m_isOf (x_m_began T j2_s1) p1 4) = 0 → (ok_m_began (x_m_began T j2_s1) 21) ∧ OJ3 (x_m_began (x_m_began T j2_s1) 21)))) (fun (T303 : St) => (ok_m_began T303 20) ∧ ((p1 = 3 → (ok_m_began (x_m_began T303 20) 10) ∧ (ok_m_stepOf (x_m_began (x_m_began T303 20) 10) p0 1) ∧ True) ∧ (¬ p1 = 3 → jn (fun (OJ4 : Int32 → Prop) => (((x_m_isOf (x_m_began T303 20) p1 4) = 0 → OJ4 p0) ∧ (¬ (x_m_isOf (x_m_began T303 20) p1 4) = 0 → OJ4 (p0 + 50)))) (fun (j4_s0 : Int32) => (p1 = 5 → (ok_m_stepOf (x_m_began T303 20) p0 4) ∧ True)))))) := ⟨_, rfl⟩
    rw [← hOJ2] at kk
    simp only [jn] at kk
    have hJ2 : ∀ (j2_s1 : Int32), OJ2 j2_s1 → tR X 1 mX12_markOf 39 [some (.ref 571), some (.int p0), some (.int p1), none] [.int j2_s1, .ref 571] T (some (.int (KJ2 j2_s1).1)) ((KJ2 j2_s1).2) := by
      intro j2_s1 kk
      rw [hOJ2] at kk
      try dsimp only at kk
      rw [hKJ2]
      obtain ⟨q12, kk⟩ := kk
      refine r_cv (d1 := 1) dX12_markOf_39 cvX12_361 rfl rfl rfl rfl (Nat.le_of_ble_eq_true rfl) (Nat.le_of_ble_eq_true rfl) (Nat.le_of_ble_eq_true rfl) (c_m_began j2_s1 q12) ?_
      refine r_p dX12_markOf_42 rfl rfl ?_
      refine r_ci (x := 4) dX12_markOf_43 rfl ?_
      refine r_cs (d1 := 1) dX12_markOf_44 csX12_355 rfl rfl (Nat.le_of_ble_eq_true rfl) (Nat.le_of_ble_eq_true rfl) (Nat.le_of_ble_eq_true rfl) (c_m_isOf p1 4) ?_
      obtain ⟨KJ3, hKJ3⟩ : ∃ q : St → Int32 × St, q = (fun (T303 : St) => if p1 = 3 then (p0 + (x_m_stepOf (x_m_began (x_m_began T303 20) 10) p0 1), x_m_began (x_m_began T303 20) 10) else (jn (fun (KJ4 : Int32 → Int32 × St) => if (x_m_isOf (x_m_began T303 20) p1 4) = 0 then (KJ4 p0) else (KJ4 (p0 + 50))) (fun (j4_s0 : Int32) => if p1 = 5 then (j4_s0 + (x_m_stepOf (x_m_began T303 20) p0 4), x_m_began T303 20) else (if p1 = 6 then (-j4_s0, x_m_began T303 20) else (j4_s0, x_m_began T303 20))))) := ⟨_, rfl⟩
      obtain ⟨OJ3, hOJ3⟩ : ∃ q : St → Prop, q = (fun (T303 : St) => (ok_m_began T303 20) ∧ ((p1 = 3 → (ok_m_began (x_m_began T303 20) 10) ∧ (ok_m_stepOf (x_m_began (x_m_began T303 20) 10) p0 1) ∧ True) ∧ (¬ p1 = 3 → jn (fun (OJ4 : Int32 → Prop) => (((x_m_isOf (x_m_began T303 20) p1 4) = 0 → OJ4 p0) ∧ (¬ (x_m_isOf (x_m_began T303 20) p1 4) = 0 → OJ4 (p0 + 50)))) (fun (j4_s0 : Int32) => (p1 = 5 → (ok_m_stepOf (x_m_began T303 20) p0 4) ∧ True))))) := ⟨_, rfl⟩
      rw [← hOJ3] at kk
      simp only [jn] at kk
      have hJ3 : ∀ (T303 : St), OJ3 T303 → tR X 1 mX12_markOf 56 [some (.ref 571), some (.int p0), some (.int p1), none] [] T303 (some (.int (KJ3 T303).1)) ((KJ3 T303).2) := by
        intro T303 kk
        rw [hOJ3] at kk
        try dsimp only at kk
        rw [hKJ3]
        refine r_p dX12_markOf_56 rfl rfl ?_
        refine r_cb (x := 20) dX12_markOf_57 rfl ?_
        obtain ⟨q14, kk⟩ := kk
        refine r_cv (d1 := 1) dX12_markOf_59 cvX12_361 rfl rfl rfl rfl (Nat.le_of_ble_eq_true rfl) (Nat.le_of_ble_eq_true rfl) (Nat.le_of_ble_eq_true rfl) (c_m_began 20 q14) ?_
        refine r_p dX12_markOf_62 rfl rfl ?_
        refine r_ci (x := 3) dX12_markOf_63 rfl ?_
        refine r_cne dX12_markOf_64 rfl (fun c64_20 => ?_) (fun c64_20 => ?_)
        · have kk := kk.2 c64_20
          refine r_p dX12_markOf_82 rfl rfl ?_
          refine r_ci (x := 4) dX12_markOf_83 rfl ?_
          refine r_cs (d1 := 1) dX12_markOf_84 csX12_355 rfl rfl (Nat.le_of_ble_eq_true rfl) (Nat.le_of_ble_eq_true rfl) (Nat.le_of_ble_eq_true rfl) (c_m_isOf p1 4) ?_
          obtain ⟨KJ4, hKJ4⟩ : ∃ q : Int32 → Int32 × St, q = (fun (j4_s0 : Int32) => if p1 = 5 then (j4_s0 + (x_m_stepOf (x_m_began T303 20) p0 4), x_m_began T303 20) else (if p1 = 6 then (-j4_s0, x_m_began T303 20) else (j4_s0, x_m_began T303 20))) := ⟨_, rfl⟩
          obtain ⟨OJ4, hOJ4⟩ : ∃ q : Int32 → Prop, q = (fun (j4_s0 : Int32) => (p1 = 5 → (ok_m_stepOf (x_m_began T303 20) p0 4) ∧ True)) := ⟨_, rfl⟩
          rw [← hOJ4] at kk
          simp only [jn] at kk
          have hJ4 : ∀ (j4_s0 : Int32), OJ4 j4_s0 → tR X 1 mX12_markOf 98 [some (.ref 571), some (.int p0), some (.int p1), none] [.int j4_s0] (x_m_began T303 20) (some (.int (KJ4 j4_s0).1)) ((KJ4 j4_s0).2) := by
            intro j4_s0 kk
            rw [hOJ4] at kk
            try dsimp only at kk
            rw [hKJ4]
            refine r_p dX12_markOf_98 rfl rfl ?_
            refine r_p dX12_markOf_99 rfl rfl ?_
            refine r_ci (x := 5) dX12_markOf_100 rfl ?_
            refine r_cne dX12_markOf_101 rfl (fun c101_22 => ?_) (fun c101_22 => ?_)
            · refine r_p dX12_markOf_115 rfl rfl ?_
              refine r_cb (x := 6) dX12_markOf_116 rfl ?_
              refine r_cne dX12_markOf_118 rfl (fun c118_23 => ?_) (fun c118_23 => ?_)
              · refine r_p dX12_markOf_126 rfl rfl ?_
                exact r_eI (r' := (j4_s0, x_m_began T303 20)) (by first | rw [if_neg c101_22, if_neg c118_23] | (dsimp only; rw [if_neg c101_22, if_neg c118_23])) (r_ri dX12_markOf_127 rfl rfl rfl rfl)
              · refine r_p dX12_markOf_121 rfl rfl ?_
                refine r_p dX12_markOf_122 rfl rfl ?_
                refine r_go dX12_markOf_123 rfl ?_
                exact r_eI (r' := (-j4_s0, x_m_began T303 20)) (by first | rw [if_neg c101_22, if_pos c118_23] | (dsimp only; rw [if_neg c101_22, if_pos c118_23])) (r_ri dX12_markOf_127 rfl rfl rfl rfl)
            · have kk := kk c101_22
              refine r_p dX12_markOf_104 rfl rfl ?_
              refine r_p dX12_markOf_105 rfl rfl ?_
              refine r_p dX12_markOf_106 rfl rfl ?_
              refine r_ci (x := 4) dX12_markOf_107 rfl ?_
              obtain ⟨q15, kk⟩ := kk
              refine r_cv (d1 := 1) dX12_markOf_108 cvX12_232 rfl rfl rfl rfl (Nat.le_of_ble_eq_true rfl) (Nat.le_of_ble_eq_true rfl) (Nat.le_of_ble_eq_true rfl) (c_m_stepOf p0 4 q15) ?_
              refine r_p dX12_markOf_111 rfl rfl ?_
              refine r_go dX12_markOf_112 rfl ?_
              exact r_eI (r' := (j4_s0 + (x_m_stepOf (x_m_began T303 20) p0 4), x_m_began T303 20)) (by first | rw [if_pos c101_22] | (dsimp only; rw [if_pos c101_22])) (r_ri dX12_markOf_127 rfl rfl rfl rfl)
          refine r_eI (r' := jn (fun (KJ4 : Int32 → Int32 × St) => if (x_m_isOf (x_m_began T303 20) p1 4) = 0 then (KJ4 p0) else (KJ4 (p0 + 50))) KJ4) (by rw [hKJ4]; first | rw [if_neg c64_20] | (dsimp only; rw [if_neg c64_20])) ?_
          refine r_ieq dX12_markOf_87 rfl (fun c87_24 => ?_) (fun c87_24 => ?_)
          · have kk := kk.1 c87_24
            refine r_p dX12_markOf_97 rfl rfl ?_
            show tR _ _ _ _ [some (.ref 571), some (.int p0), some (.int p1), none] [.int p0] _ _ _
            exact r_eI (r' := KJ4 p0) (by simp only [jn]; rw [if_pos c87_24]) ((hJ4 p0 kk))
          · have kk := kk.2 c87_24
            refine r_p dX12_markOf_90 rfl rfl ?_
            refine r_cb (x := 50) dX12_markOf_91 rfl ?_
            refine r_p dX12_markOf_93 rfl rfl ?_
            refine r_go dX12_markOf_94 rfl ?_
            show tR _ _ _ _ [some (.ref 571), some (.int p0), some (.int p1), none] [.int (p0 + 50)] _ _ _
            exact r_eI (r' := KJ4 (p0 + 50)) (by simp only [jn]; rw [if_neg c87_24]) ((hJ4 (p0 + 50) kk))
        · have kk := kk.1 c64_20
          refine r_p dX12_markOf_67 rfl rfl ?_
          refine r_cb (x := 10) dX12_markOf_68 rfl ?_
          obtain ⟨q16, kk⟩ := kk
          refine r_cv (d1 := 1) dX12_markOf_70 cvX12_361 rfl rfl rfl rfl (Nat.le_of_ble_eq_true rfl) (Nat.le_of_ble_eq_true rfl) (Nat.le_of_ble_eq_true rfl) (c_m_began 10 q16) ?_
          refine r_p dX12_markOf_73 rfl rfl ?_
          refine r_p dX12_markOf_74 rfl rfl ?_
          refine r_p dX12_markOf_75 rfl rfl ?_
          refine r_ci (x := 1) dX12_markOf_76 rfl ?_
          obtain ⟨q17, kk⟩ := kk
          refine r_cv (d1 := 1) dX12_markOf_77 cvX12_232 rfl rfl rfl rfl (Nat.le_of_ble_eq_true rfl) (Nat.le_of_ble_eq_true rfl) (Nat.le_of_ble_eq_true rfl) (c_m_stepOf p0 1 q17) ?_
          refine r_p dX12_markOf_80 rfl rfl ?_
          exact r_eI (r' := (p0 + (x_m_stepOf (x_m_began (x_m_began T303 20) 10) p0 1), x_m_began (x_m_began T303 20) 10)) (by first | rw [if_pos c64_20] | (dsimp only; rw [if_pos c64_20])) (r_ri dX12_markOf_81 rfl rfl rfl rfl)
      refine r_eI (r' := jn (fun (KJ3 : St → Int32 × St) => if (x_m_isOf (x_m_began T j2_s1) p1 4) = 0 then (KJ3 (x_m_began T j2_s1)) else (KJ3 (x_m_began (x_m_began T j2_s1) 21))) KJ3) (by rw [hKJ3]) ?_
      refine r_ieq dX12_markOf_47 rfl (fun c47_25 => ?_) (fun c47_25 => ?_)
      · have kk := kk.1 c47_25
        show tR _ _ _ _ [some (.ref 571), some (.int p0), some (.int p1), none] [] _ _ _
        exact r_eI (r' := KJ3 (x_m_began T j2_s1)) (by simp only [jn]; rw [if_pos c47_25]) ((hJ3 (x_m_began T j2_s1) kk))
      · have kk := kk.2 c47_25
        refine r_p dX12_markOf_50 rfl rfl ?_
        refine r_cb (x := 21) dX12_markOf_51 rfl ?_
        obtain ⟨q18, kk⟩ := kk
        refine r_cv (d1 := 1) dX12_markOf_53 cvX12_361 rfl rfl rfl rfl (Nat.le_of_ble_eq_true rfl) (Nat.le_of_ble_eq_true rfl) (Nat.le_of_ble_eq_true rfl) (c_m_began 21 q18) ?_
        show tR _ _ _ _ [some (.ref 571), some (.int p0), some (.int p1), none] [] _ _ _
        exact r_eI (r' := KJ3 (x_m_began (x_m_began T j2_s1) 21)) (by simp only [jn]; rw [if_neg c47_25]) ((hJ3 (x_m_began (x_m_began T j2_s1) 21) kk))
    refine r_eI (r' := jn (fun (KJ2 : Int32 → Int32 × St) => if p1 = 5 then (KJ2 22) else (if p1 = 3 then (KJ2 23) else (KJ2 24))) KJ2) (by rw [hKJ2]) ?_
    refine r_cne dX12_markOf_19 rfl (fun c19_26 => ?_) (fun c19_26 => ?_)
    · have kk := kk.2 c19_26
      refine r_p dX12_markOf_27 rfl rfl ?_
      refine r_ci (x := 3) dX12_markOf_28 rfl ?_
      refine r_cne dX12_markOf_29 rfl (fun c29_27 => ?_) (fun c29_27 => ?_)
      · have kk := kk.2 c29_27
        refine r_cb (x := 24) dX12_markOf_37 rfl ?_
        show tR _ _ _ _ [some (.ref 571), some (.int p0), some (.int p1), none] [.int 24, .ref 571] _ _ _
        exact r_eI (r' := KJ2 24) (by simp only [jn]; rw [if_neg c19_26, if_neg c29_27]) ((hJ2 24 kk))
      · have kk := kk.1 c29_27
        refine r_cb (x := 23) dX12_markOf_32 rfl ?_
        refine r_go dX12_markOf_34 rfl ?_
        show tR _ _ _ _ [some (.ref 571), some (.int p0), some (.int p1), none] [.int 23, .ref 571] _ _ _
        exact r_eI (r' := KJ2 23) (by simp only [jn]; rw [if_neg c19_26, if_pos c29_27]) ((hJ2 23 kk))
    · have kk := kk.1 c19_26
      refine r_cb (x := 22) dX12_markOf_22 rfl ?_
      refine r_go dX12_markOf_24 rfl ?_
      show tR _ _ _ _ [some (.ref 571), some (.int p0), some (.int p1), none] [.int 22, .ref 571] _ _ _
      exact r_eI (r' := KJ2 22) (by simp only [jn]; rw [if_pos c19_26]) ((hJ2 22 kk))
  refine r_eI (r' := jn (fun (KJ1 : Int32 × St) => if p1 = 5 then (KJ1) else (if p1 = 3 then (KJ1) else (if p1 = 6 then (KJ1) else (jn (fun (KJ5 : St → Int32 × St) => if (x_m_isOf T p1 4) = 0 then (KJ5 T) else (KJ5 (x_m_began T 21))) (fun (T305 : St) => if p1 = 3 then (p0 + (x_m_stepOf (x_m_began (x_m_began T305 20) 10) p0 1), x_m_began (x_m_began T305 20) 10) else (jn (fun (KJ6 : Int32 → Int32 × St) => if (x_m_isOf (x_m_began T305 20) p1 4) = 0 then (KJ6 p0) else (KJ6 (p0 + 50))) (fun (j6_s0 : Int32) => if p1 = 5 then (j6_s0 + (x_m_stepOf (x_m_began T305 20) p0 4), x_m_began T305 20) else (if p1 = 6 then (-j6_s0, x_m_began T305 20) else (j6_s0, x_m_began T305 20))))))))) KJ1) (by rw [hKJ1]; unfold x_m_markOf; rfl) ?_
  refine r_ceq dX12_markOf_2 rfl (fun c2_28 => ?_) (fun c2_28 => ?_)
  · have kk := kk.1 c2_28
    show tR _ _ _ _ [some (.ref 571), some (.int p0), some (.int p1), none] [] _ _ _
    exact r_eI (r' := KJ1) (by simp only [jn]; rw [if_pos c2_28]) ((hJ1  kk))
  · have kk := kk.2 c2_28
    refine r_p dX12_markOf_5 rfl rfl ?_
    refine r_ci (x := 3) dX12_markOf_6 rfl ?_
    refine r_ceq dX12_markOf_7 rfl (fun c7_29 => ?_) (fun c7_29 => ?_)
    · have kk := kk.1 c7_29
      show tR _ _ _ _ [some (.ref 571), some (.int p0), some (.int p1), none] [] _ _ _
      exact r_eI (r' := KJ1) (by simp only [jn]; rw [if_neg c2_28, if_pos c7_29]) ((hJ1  kk))
    · have kk := kk.2 c7_29
      refine r_p dX12_markOf_10 rfl rfl ?_
      refine r_cb (x := 6) dX12_markOf_11 rfl ?_
      refine r_cne dX12_markOf_13 rfl (fun c13_30 => ?_) (fun c13_30 => ?_)
      · have kk := kk.2 c13_30
        refine r_p dX12_markOf_42 rfl rfl ?_
        refine r_ci (x := 4) dX12_markOf_43 rfl ?_
        refine r_cs (d1 := 1) dX12_markOf_44 csX12_355 rfl rfl (Nat.le_of_ble_eq_true rfl) (Nat.le_of_ble_eq_true rfl) (Nat.le_of_ble_eq_true rfl) (c_m_isOf p1 4) ?_
        obtain ⟨KJ5, hKJ5⟩ : ∃ q : St → Int32 × St, q = (fun (T305 : St) => if p1 = 3 then (p0 + (x_m_stepOf (x_m_began (x_m_began T305 20) 10) p0 1), x_m_began (x_m_began T305 20) 10) else (jn (fun (KJ6 : Int32 → Int32 × St) => if (x_m_isOf (x_m_began T305 20) p1 4) = 0 then (KJ6 p0) else (KJ6 (p0 + 50))) (fun (j6_s0 : Int32) => if p1 = 5 then (j6_s0 + (x_m_stepOf (x_m_began T305 20) p0 4), x_m_began T305 20) else (if p1 = 6 then (-j6_s0, x_m_began T305 20) else (j6_s0, x_m_began T305 20))))) := ⟨_, rfl⟩
        obtain ⟨OJ5, hOJ5⟩ : ∃ q : St → Prop, q = (fun (T305 : St) => (ok_m_began T305 20) ∧ ((p1 = 3 → (ok_m_began (x_m_began T305 20) 10) ∧ (ok_m_stepOf (x_m_began (x_m_began T305 20) 10) p0 1) ∧ True) ∧ (¬ p1 = 3 → jn (fun (OJ6 : Int32 → Prop) => (((x_m_isOf (x_m_began T305 20) p1 4) = 0 → OJ6 p0) ∧ (¬ (x_m_isOf (x_m_began T305 20) p1 4) = 0 → OJ6 (p0 + 50)))) (fun (j6_s0 : Int32) => (p1 = 5 → (ok_m_stepOf (x_m_began T305 20) p0 4) ∧ True))))) := ⟨_, rfl⟩
        rw [← hOJ5] at kk
        simp only [jn] at kk
        have hJ5 : ∀ (T305 : St), OJ5 T305 → tR X 1 mX12_markOf 56 [some (.ref 571), some (.int p0), some (.int p1), none] [] T305 (some (.int (KJ5 T305).1)) ((KJ5 T305).2) := by
          intro T305 kk
          rw [hOJ5] at kk
          try dsimp only at kk
          rw [hKJ5]
          refine r_p dX12_markOf_56 rfl rfl ?_
          refine r_cb (x := 20) dX12_markOf_57 rfl ?_
          obtain ⟨q20, kk⟩ := kk
          refine r_cv (d1 := 1) dX12_markOf_59 cvX12_361 rfl rfl rfl rfl (Nat.le_of_ble_eq_true rfl) (Nat.le_of_ble_eq_true rfl) (Nat.le_of_ble_eq_true rfl) (c_m_began 20 q20) ?_
          refine r_p dX12_markOf_62 rfl rfl ?_
          refine r_ci (x := 3) dX12_markOf_63 rfl ?_
          refine r_cne dX12_markOf_64 rfl (fun c64_32 => ?_) (fun c64_32 => ?_)
          · have kk := kk.2 c64_32
            refine r_p dX12_markOf_82 rfl rfl ?_
            refine r_ci (x := 4) dX12_markOf_83 rfl ?_
            refine r_cs (d1 := 1) dX12_markOf_84 csX12_355 rfl rfl (Nat.le_of_ble_eq_true rfl) (Nat.le_of_ble_eq_true rfl) (Nat.le_of_ble_eq_true rfl) (c_m_isOf p1 4) ?_
            obtain ⟨KJ6, hKJ6⟩ : ∃ q : Int32 → Int32 × St, q = (fun (j6_s0 : Int32) => if p1 = 5 then (j6_s0 + (x_m_stepOf (x_m_began T305 20) p0 4), x_m_began T305 20) else (if p1 = 6 then (-j6_s0, x_m_began T305 20) else (j6_s0, x_m_began T305 20))) := ⟨_, rfl⟩
            obtain ⟨OJ6, hOJ6⟩ : ∃ q : Int32 → Prop, q = (fun (j6_s0 : Int32) => (p1 = 5 → (ok_m_stepOf (x_m_began T305 20) p0 4) ∧ True)) := ⟨_, rfl⟩
            rw [← hOJ6] at kk
            simp only [jn] at kk
            have hJ6 : ∀ (j6_s0 : Int32), OJ6 j6_s0 → tR X 1 mX12_markOf 98 [some (.ref 571), some (.int p0), some (.int p1), none] [.int j6_s0] (x_m_began T305 20) (some (.int (KJ6 j6_s0).1)) ((KJ6 j6_s0).2) := by
              intro j6_s0 kk
              rw [hOJ6] at kk
              try dsimp only at kk
              rw [hKJ6]
              refine r_p dX12_markOf_98 rfl rfl ?_
              refine r_p dX12_markOf_99 rfl rfl ?_
              refine r_ci (x := 5) dX12_markOf_100 rfl ?_
              refine r_cne dX12_markOf_101 rfl (fun c101_34 => ?_) (fun c101_34 => ?_)
              · refine r_p dX12_markOf_115 rfl rfl ?_
                refine r_cb (x := 6) dX12_markOf_116 rfl ?_
                refine r_cne dX12_markOf_118 rfl (fun c118_35 => ?_) (fun c118_35 => ?_)
                · refine r_p dX12_markOf_126 rfl rfl ?_
                  exact r_eI (r' := (j6_s0, x_m_began T305 20)) (by first | rw [if_neg c101_34, if_neg c118_35] | (dsimp only; rw [if_neg c101_34, if_neg c118_35])) (r_ri dX12_markOf_127 rfl rfl rfl rfl)
                · refine r_p dX12_markOf_121 rfl rfl ?_
                  refine r_p dX12_markOf_122 rfl rfl ?_
                  refine r_go dX12_markOf_123 rfl ?_
                  exact r_eI (r' := (-j6_s0, x_m_began T305 20)) (by first | rw [if_neg c101_34, if_pos c118_35] | (dsimp only; rw [if_neg c101_34, if_pos c118_35])) (r_ri dX12_markOf_127 rfl rfl rfl rfl)
              · have kk := kk c101_34
                refine r_p dX12_markOf_104 rfl rfl ?_
                refine r_p dX12_markOf_105 rfl rfl ?_
                refine r_p dX12_markOf_106 rfl rfl ?_
                refine r_ci (x := 4) dX12_markOf_107 rfl ?_
                obtain ⟨q21, kk⟩ := kk
                refine r_cv (d1 := 1) dX12_markOf_108 cvX12_232 rfl rfl rfl rfl (Nat.le_of_ble_eq_true rfl) (Nat.le_of_ble_eq_true rfl) (Nat.le_of_ble_eq_true rfl) (c_m_stepOf p0 4 q21) ?_
                refine r_p dX12_markOf_111 rfl rfl ?_
                refine r_go dX12_markOf_112 rfl ?_
                exact r_eI (r' := (j6_s0 + (x_m_stepOf (x_m_began T305 20) p0 4), x_m_began T305 20)) (by first | rw [if_pos c101_34] | (dsimp only; rw [if_pos c101_34])) (r_ri dX12_markOf_127 rfl rfl rfl rfl)
            refine r_eI (r' := jn (fun (KJ6 : Int32 → Int32 × St) => if (x_m_isOf (x_m_began T305 20) p1 4) = 0 then (KJ6 p0) else (KJ6 (p0 + 50))) KJ6) (by rw [hKJ6]; first | rw [if_neg c64_32] | (dsimp only; rw [if_neg c64_32])) ?_
            refine r_ieq dX12_markOf_87 rfl (fun c87_36 => ?_) (fun c87_36 => ?_)
            · have kk := kk.1 c87_36
              refine r_p dX12_markOf_97 rfl rfl ?_
              show tR _ _ _ _ [some (.ref 571), some (.int p0), some (.int p1), none] [.int p0] _ _ _
              exact r_eI (r' := KJ6 p0) (by simp only [jn]; rw [if_pos c87_36]) ((hJ6 p0 kk))
            · have kk := kk.2 c87_36
              refine r_p dX12_markOf_90 rfl rfl ?_
              refine r_cb (x := 50) dX12_markOf_91 rfl ?_
              refine r_p dX12_markOf_93 rfl rfl ?_
              refine r_go dX12_markOf_94 rfl ?_
              show tR _ _ _ _ [some (.ref 571), some (.int p0), some (.int p1), none] [.int (p0 + 50)] _ _ _
              exact r_eI (r' := KJ6 (p0 + 50)) (by simp only [jn]; rw [if_neg c87_36]) ((hJ6 (p0 + 50) kk))
          · have kk := kk.1 c64_32
            refine r_p dX12_markOf_67 rfl rfl ?_
            refine r_cb (x := 10) dX12_markOf_68 rfl ?_
            obtain ⟨q22, kk⟩ := kk
            refine r_cv (d1 := 1) dX12_markOf_70 cvX12_361 rfl rfl rfl rfl (Nat.le_of_ble_eq_true rfl) (Nat.le_of_ble_eq_true rfl) (Nat.le_of_ble_eq_true rfl) (c_m_began 10 q22) ?_
            refine r_p dX12_markOf_73 rfl rfl ?_
            refine r_p dX12_markOf_74 rfl rfl ?_
            refine r_p dX12_markOf_75 rfl rfl ?_
            refine r_ci (x := 1) dX12_markOf_76 rfl ?_
            obtain ⟨q23, kk⟩ := kk
            refine r_cv (d1 := 1) dX12_markOf_77 cvX12_232 rfl rfl rfl rfl (Nat.le_of_ble_eq_true rfl) (Nat.le_of_ble_eq_true rfl) (Nat.le_of_ble_eq_true rfl) (c_m_stepOf p0 1 q23) ?_
            refine r_p dX12_markOf_80 rfl rfl ?_
            exact r_eI (r' := (p0 + (x_m_stepOf (x_m_began (x_m_began T305 20) 10) p0 1), x_m_began (x_m_began T305 20) 10)) (by first | rw [if_pos c64_32] | (dsimp only; rw [if_pos c64_32])) (r_ri dX12_markOf_81 rfl rfl rfl rfl)
        refine r_eI (r' := jn (fun (KJ5 : St → Int32 × St) => if (x_m_isOf T p1 4) = 0 then (KJ5 T) else (KJ5 (x_m_began T 21))) KJ5) (by rw [hKJ5]; simp only [jn]; rw [if_neg c2_28, if_neg c7_29, if_neg c13_30]) ?_
        refine r_ieq dX12_markOf_47 rfl (fun c47_37 => ?_) (fun c47_37 => ?_)
        · have kk := kk.1 c47_37
          show tR _ _ _ _ [some (.ref 571), some (.int p0), some (.int p1), none] [] _ _ _
          exact r_eI (r' := KJ5 T) (by simp only [jn]; rw [if_pos c47_37]) ((hJ5 T kk))
        · have kk := kk.2 c47_37
          refine r_p dX12_markOf_50 rfl rfl ?_
          refine r_cb (x := 21) dX12_markOf_51 rfl ?_
          obtain ⟨q24, kk⟩ := kk
          refine r_cv (d1 := 1) dX12_markOf_53 cvX12_361 rfl rfl rfl rfl (Nat.le_of_ble_eq_true rfl) (Nat.le_of_ble_eq_true rfl) (Nat.le_of_ble_eq_true rfl) (c_m_began 21 q24) ?_
          show tR _ _ _ _ [some (.ref 571), some (.int p0), some (.int p1), none] [] _ _ _
          exact r_eI (r' := KJ5 (x_m_began T 21)) (by simp only [jn]; rw [if_neg c47_37]) ((hJ5 (x_m_began T 21) kk))
      · have kk := kk.1 c13_30
        show tR _ _ _ _ [some (.ref 571), some (.int p0), some (.int p1), none] [] _ _ _
        exact r_eI (r' := KJ1) (by simp only [jn]; rw [if_neg c2_28, if_neg c7_29, if_pos c13_30]) ((hJ1  kk))
