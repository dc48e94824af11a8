def x_m_sizeOf (T : St) (p0 : Int32) (p1 : Int32) : Int32 × St := jn (fun (KJ1 : Int32 × St) => if p1 = 6 then (KJ1) else (if p1 = 2 then (KJ1) else (if p1 = 5 then (KJ1) else (jn (fun (KJ5 : St → Int32 × St) => if (x_m_isOf T p1 1) = 0 then (KJ5 T) else (KJ5 (x_m_began T 11))) (fun (T305 : St) => jn (fun (KJ6 : Int32 → Int32 × St) => if (x_m_isOf T p1 1) = 0 then (KJ6 0) else (KJ6 (10 * (x_m_stepOf (x_m_began T305 10) p0 4)))) (fun (j6_s1 : Int32) => if p1 = 6 then (2 * ((x_m_stepOf (x_m_began T305 10) p0 1) + j6_s1), x_m_began T305 10) else (if p1 = 2 then ((((x_m_stepOf (x_m_began T305 10) p0 1) + j6_s1) + (x_m_stepOf (x_m_began T305 10) p0 5)) - (x_m_stepOf (x_m_began T305 10) p0 4), x_m_began T305 10) else (if p1 = 5 then (((x_m_stepOf (x_m_began T305 10) p0 1) + j6_s1) - ((x_m_markOf (x_m_began T305 10) p0 p1).1), (x_m_markOf (x_m_began T305 10) p0 p1).2) else ((x_m_stepOf (x_m_began T305 10) p0 1) + j6_s1, x_m_began T305 10))))))))) (jn (fun (KJ2 : Int32 → Int32 × St) => if p1 = 6 then (KJ2 12) else (if p1 = 2 then (KJ2 13) else (KJ2 14))) (fun (j2_s1 : Int32) => jn (fun (KJ3 : St → Int32 × St) => if (x_m_isOf (x_m_began T j2_s1) p1 1) = 0 then (KJ3 (x_m_began T j2_s1)) else (KJ3 (x_m_began (x_m_began T j2_s1) 11))) (fun (T303 : St) => jn (fun (KJ4 : Int32 → Int32 × St) => if (x_m_isOf (x_m_began T j2_s1) p1 1) = 0 then (KJ4 0) else (KJ4 (10 * (x_m_stepOf (x_m_began T303 10) p0 4)))) (fun (j4_s1 : Int32) => if p1 = 6 then (2 * ((x_m_stepOf (x_m_began T303 10) p0 1) + j4_s1), x_m_began T303 10) else (if p1 = 2 then ((((x_m_stepOf (x_m_began T303 10) p0 1) + j4_s1) + (x_m_stepOf (x_m_began T303 10) p0 5)) - (x_m_stepOf (x_m_began T303 10) p0 4), x_m_began T303 10) else (if p1 = 5 then (((x_m_stepOf (x_m_began T303 10) p0 1) + j4_s1) - ((x_m_markOf (x_m_began T303 10) p0 p1).1), (x_m_markOf (x_m_began T303 10) p0 p1).2) else ((x_m_stepOf (x_m_began T303 10) p0 1) + j4_s1, x_m_began T303 10)))))))
def ok_m_sizeOf (T : St) (p0 : Int32) (p1 : Int32) : Prop := jn (fun (OJ1 : Prop) => ((p1 = 6 → OJ1) ∧ (¬ p1 = 6 → ((p1 = 2 → OJ1) ∧ (¬ p1 = 2 → ((p1 = 5 → OJ1) ∧ (¬ p1 = 5 → jn (fun (OJ5 : St → Prop) => (((x_m_isOf T p1 1) = 0 → OJ5 T) ∧ (¬ (x_m_isOf T p1 1) = 0 → (ok_m_began T 11) ∧ OJ5 (x_m_began T 11)))) (fun (T305 : St) => (ok_m_began T305 10) ∧ (ok_m_stepOf (x_m_began T305 10) p0 1) ∧ jn (fun (OJ6 : Int32 → Prop) => (((x_m_isOf T p1 1) = 0 → OJ6 0) ∧ (¬ (x_m_isOf T p1 1) = 0 → (ok_m_stepOf (x_m_began T305 10) p0 4) ∧ OJ6 (10 * (x_m_stepOf (x_m_began T305 10) p0 4))))) (fun (j6_s1 : Int32) => (¬ p1 = 6 → ((p1 = 2 → (ok_m_stepOf (x_m_began T305 10) p0 5) ∧ (ok_m_stepOf (x_m_began T305 10) p0 4) ∧ True) ∧ (¬ p1 = 2 → (p1 = 5 → (ok_m_markOf (x_m_began T305 10) p0 p1) ∧ True))))))))))))) (jn (fun (OJ2 : Int32 → Prop) => ((p1 = 6 → OJ2 12) ∧ (¬ p1 = 6 → ((p1 = 2 → OJ2 13) ∧ (¬ p1 = 2 → OJ2 14))))) (fun (j2_s1 : Int32) => (ok_m_began T j2_s1) ∧ jn (fun (OJ3 : St → Prop) => (((x_m_isOf (x_m_began T j2_s1) p1 1) = 0 → OJ3 (x_m_began T j2_s1)) ∧ (¬ (x_m_isOf (x_m_began T j2_s1) p1 1) = 0 → (ok_m_began (x_m_began T j2_s1) 11) ∧ OJ3 (x_m_began (x_m_began T j2_s1) 11)))) (fun (T303 : St) => (ok_m_began T303 10) ∧ (ok_m_stepOf (x_m_began T303 10) p0 1) ∧ jn (fun (OJ4 : Int32 → Prop) => (((x_m_isOf (x_m_began T j2_s1) p1 1) = 0 → OJ4 0) ∧ (¬ (x_m_isOf (x_m_began T j2_s1) p1 1) = 0 → (ok_m_stepOf (x_m_began T303 10) p0 4) ∧ OJ4 (10 * (x_m_stepOf (x_m_began T303 10) p0 4))))) (fun (j4_s1 : Int32) => (¬ p1 = 6 → ((p1 = 2 → (ok_m_stepOf (x_m_began T303 10) p0 5) ∧ (ok_m_stepOf (x_m_began T303 10) p0 4) ∧ True) ∧ (¬ p1 = 2 → (p1 = 5 → (ok_m_markOf (x_m_began T303 10) p0 p1) ∧ True))))))))
theorem c_m_sizeOf {X : Nat × (Nat → Int32)} {T : St} (p0 : Int32) (p1 : Int32) (kk : ok_m_sizeOf T p0 p1) : tC X 3 mX12_sizeOf [.ref 571, .int p0, .int p1] T (some (.int (x_m_sizeOf T p0 p1).1)) ((x_m_sizeOf T p0 p1).2) := by
  unfold ok_m_sizeOf at kk
  refine tC_of ?_
  refine r_p dX12_sizeOf_0 rfl rfl ?_
  refine r_cb (x := 6) dX12_sizeOf_1 rfl ?_
  obtain ⟨KJ1, hKJ1⟩ : ∃ q : Int32 × St, q = (jn (fun (KJ2 : Int32 → Int32 × St) => if p1 = 6 then (KJ2 12) else (if p1 = 2 then (KJ2 13) else (KJ2 14))) (fun (j2_s1 : Int32) => jn (fun (KJ3 : St → Int32 × St) => if (x_m_isOf (x_m_began T j2_s1) p1 1) = 0 then (KJ3 (x_m_began T j2_s1)) else (KJ3 (x_m_began (x_m_began T j2_s1) 11))) (fun (T303 : St) => jn (fun (KJ4 : Int32 → Int32 × St) => if (x_m_isOf (x_m_began T j2_s1) p1 1) = 0 then (KJ4 0) else (KJ4 (10 * (x_m_stepOf (x_m_began T303 10) p0 4)))) (fun (j4_s1 : Int32) => if p1 = 6 then (2 * ((x_m_stepOf (x_m_began T303 10) p0 1) + j4_s1), x_m_began T303 10) else (if p1 = 2 then ((((x_m_stepOf (x_m_began T303 10) p0 1) + j4_s1) + (x_m_stepOf (x_m_began T303 10) p0 5)) - (x_m_stepOf (x_m_began T303 10) p0 4), x_m_began T303 10) else (if p1 = 5 then (((x_m_stepOf (x_m_began T303 10) p0 1) + j4_s1) - ((x_m_markOf (x_m_began T303 10) p0 p1).1), (x_m_markOf (x_m_began T303 10) p0 p1).2) else ((x_m_stepOf (x_m_began T303 10) p0 1) + j4_s1, x_m_began T303 10))))))) := ⟨_, rfl⟩
  obtain ⟨OJ1, hOJ1⟩ : ∃ q : Prop, q = (jn (fun (OJ2 : Int32 → Prop) => ((p1 = 6 → OJ2 12) ∧ (¬ p1 = 6 → ((p1 = 2 → OJ2 13) ∧ (¬ p1 = 2 → OJ2 14))))) (fun (j2_s1 : Int32) => (ok_m_began T j2_s1) ∧ jn (fun (OJ3 : St → Prop) => (((x_m_isOf (x_m_began T j2_s1) p1 1) = 0 → OJ3 (x_m_began T j2_s1)) ∧ (¬ (x_m_isOf (x_m_began T j2_s1) p1 1) = 0 → (ok_m_began (x_m_began T j2_s1) 11) ∧ OJ3 (x_m_began (x_m_began T j2_s1) 11)))) (fun (T303 : St) => (ok_m_began T303 10) ∧ (ok_m_stepOf (x_m_began T303 10) p0 1) ∧ jn (fun (OJ4 : Int32 → Prop) => (((x_m_isOf (x_m_began T j2_s1) p1 1) = 0 → OJ4 0) ∧ (¬ (x_m_isOf (x_m_began T j2_s1) p1 1) = 0 → (ok_m_stepOf (x_m_began T303 10) p0 4) ∧ OJ4 (10 * (x_m_stepOf (x_m_began T303 10) p0 4))))) (fun (j4_s1 : Int32) => (¬ p1 = 6 → ((p1 = 2 → (ok_m_stepOf (x_m_began T303 10) p0 5) ∧ (ok_m_stepOf (x_m_began T303 10) p0 4) ∧ True) ∧ (¬ p1 = 2 → (p1 = 5 → (ok_m_markOf (x_m_began T303 10) p0 p1) ∧ True)))))))) := ⟨_, rfl⟩
  rw [← hOJ1] at kk
  simp only [jn] at kk
  have hJ1 : OJ1 → tR X 2 mX12_sizeOf 16 [some (.ref 571), some (.int p0), some (.int p1), none, none] [] T (some (.int KJ1.1)) KJ1.2 := by
    intro  kk
    rw [hOJ1] at kk
    try dsimp only at kk
    rw [hKJ1]
    refine r_p dX12_sizeOf_16 rfl rfl ?_
    refine r_p dX12_sizeOf_17 rfl rfl ?_
    refine r_cb (x := 6) dX12_sizeOf_18 rfl ?_
    obtain ⟨KJ2, hKJ2⟩ : ∃ q : Int32 → Int32 × St, q = (fun (j2_s1 : Int32) => jn (fun (KJ3 : St → Int32 × St) => if (x_m_isOf (x_m_began T j2_s1) p1 1) = 0 then (KJ3 (x_m_began T j2_s1)) else (KJ3 (x_m_began (x_m_began T j2_s1) 11))) (fun (T303 : St) => jn (fun (KJ4 : Int32 → Int32 × St) => if (x_m_isOf (x_m_began T j2_s1) p1 1) = 0 then (KJ4 0) else (KJ4 (10 * (x_m_stepOf (x_m_began T303 10) p0 4)))) (fun (j4_s1 : Int32) => if p1 = 6 then (2 * ((x_m_stepOf (x_m_began T303 10) p0 1) + j4_s1), x_m_began T303 10) else (if p1 = 2 then ((((x_m_stepOf (x_m_began T303 10) p0 1) + j4_s1) + (x_m_stepOf (x_m_began T303 10) p0 5)) - (x_m_stepOf (x_m_began T303 10) p0 4), x_m_began T303 10) else (if p1 = 5 then (((x_m_stepOf (x_m_began T303 10) p0 1) + j4_s1) - ((x_m_markOf (x_m_began T303 10) p0 p1).1), (x_m_markOf (x_m_began T303 10) p0 p1).2) else ((x_m_stepOf (x_m_began T303 10) p0 1) + j4_s1, x_m_began T303 10)))))) := ⟨_, rfl⟩
    obtain ⟨OJ2, hOJ2⟩ : ∃ q : Int32 → Prop, q = (fun (j2_s1 : Int32) => (ok_m_began T j2_s1) ∧ jn (fun (OJ3 : St → Prop) => (((x_m_isOf (x_m_began T j2_s1) p1 1) = 0 → OJ3 (x_m_began T j2_s1)) ∧ (¬ (x_m_isOf (x_m_began T j2_s1) p1 1) = 0 → (ok_m_began (x_m_began T j2_s1) 11) ∧ OJ3 (x_m_began (x_m_began T j2_s1) 11)))) (fun (T303 : St) => (ok_m_began T303 10) ∧ (ok_m_stepOf (x_m_began T303 10) p0 1) ∧ jn (fun (OJ4 : Int32 → Prop) => (((x_m_isOf (x_m_began T j2_s1) p1 1) = 0 → OJ4 0) ∧ (¬ (x_m_isOf (x_m_began T j2_s1) p1 1) = 0 → (ok_m_stepOf (x_m_began T303 10) p0 4) ∧ OJ4 (10 * (x_m_stepOf (x_m_began T303 10) p0 4))))) (fun (j4_s1 : Int32) => (¬ p1 = 6 → ((p1 = 2 → (ok_m_stepOf (x_m_began T303 10) p0 5) ∧ (ok_m_stepOf (x_m_began T303 10) p0 4) ∧ True) ∧ (¬ p1 = 2 → (p1 = 5 → (ok_m_markOf (x_m_began T303 10) p0 p1) ∧ True))))))) := ⟨_, rfl⟩
    rw [← hOJ2] at kk
    simp only [jn] at kk
    have hJ2 : ∀ (j2_s1 : Int32), OJ2 j2_s1 → tR X 2 mX12_sizeOf 40 [some (.ref 571), some (.int p0), some (.int p1), none, none] [.int j2_s1, .ref 571] T (some (.int (KJ2 j2_s1).1)) ((KJ2 j2_s1).2) := by
      intro j2_s1 kk
      rw [hOJ2] at kk
      try dsimp only at kk
      rw [hKJ2]
      obtain ⟨q18, kk⟩ := kk
      refine r_cv (d1 := 1) dX12_sizeOf_40 cvX12_361 rfl rfl rfl rfl (Nat.le_of_ble_eq_true rfl) (Nat.le_of_ble_eq_true rfl) (Nat.le_of_ble_eq_true rfl) (c_m_began j2_s1 q18) ?_
      refine r_p dX12_sizeOf_43 rfl rfl ?_
      refine r_ci (x := 1) dX12_sizeOf_44 rfl ?_
      refine r_cs (d1 := 1) dX12_sizeOf_45 csX12_355 rfl rfl (Nat.le_of_ble_eq_true rfl) (Nat.le_of_ble_eq_true rfl) (Nat.le_of_ble_eq_true rfl) (c_m_isOf p1 1) ?_
      refine r_p dX12_sizeOf_48 rfl rfl ?_
      refine r_p dX12_sizeOf_49 rfl rfl ?_
      obtain ⟨KJ3, hKJ3⟩ : ∃ q : St → Int32 × St, q = (fun (T303 : St) => jn (fun (KJ4 : Int32 → Int32 × St) => if (x_m_isOf (x_m_began T j2_s1) p1 1) = 0 then (KJ4 0) else (KJ4 (10 * (x_m_stepOf (x_m_began T303 10) p0 4)))) (fun (j4_s1 : Int32) => if p1 = 6 then (2 * ((x_m_stepOf (x_m_began T303 10) p0 1) + j4_s1), x_m_began T303 10) else (if p1 = 2 then ((((x_m_stepOf (x_m_began T303 10) p0 1) + j4_s1) + (x_m_stepOf (x_m_began T303 10) p0 5)) - (x_m_stepOf (x_m_began T303 10) p0 4), x_m_began T303 10) else (if p1 = 5 then (((x_m_stepOf (x_m_began T303 10) p0 1) + j4_s1) - ((x_m_markOf (x_m_began T303 10) p0 p1).1), (x_m_markOf (x_m_began T303 10) p0 p1).2) else ((x_m_stepOf (x_m_began T303 10) p0 1) + j4_s1, x_m_began T303 10))))) := ⟨_, rfl⟩
      obtain ⟨OJ3, hOJ3⟩ : ∃ q : St → Prop, q = (fun (T303 : St) => (ok_m_began T303 10) ∧ (ok_m_stepOf (x_m_began T303 10) p0 1) ∧ jn (fun (OJ4 : Int32 → Prop) => (((x_m_isOf (x_m_began T j2_s1) p1 1) = 0 → OJ4 0) ∧ (¬ (x_m_isOf (x_m_began T j2_s1) p1 1) = 0 → (ok_m_stepOf (x_m_began T303 10) p0 4) ∧ OJ4 (10 * (x_m_stepOf (x_m_began T303 10) p0 4))))) (fun (j4_s1 : Int32) => (¬ p1 = 6 → ((p1 = 2 → (ok_m_stepOf (x_m_began T303 10) p0 5) ∧ (ok_m_stepOf (x_m_began T303 10) p0 4) ∧ True) ∧ (¬ p1 = 2 → (p1 = 5 → (ok_m_markOf (x_m_began T303 10) p0 p1) ∧ True)))))) := ⟨_, rfl⟩
      rw [← hOJ3] at kk
      simp only [jn] at kk
      have hJ3 : ∀ (T303 : St), OJ3 T303 → tR X 2 mX12_sizeOf 59 [some (.ref 571), some (.int p0), some (.int p1), some (.int (x_m_isOf (x_m_began T j2_s1) p1 1)), none] [] T303 (some (.int (KJ3 T303).1)) ((KJ3 T303).2) := by
        intro T303 kk
        rw [hOJ3] at kk
        try dsimp only at kk
        rw [hKJ3]
        refine r_p dX12_sizeOf_59 rfl rfl ?_
        refine r_cb (x := 10) dX12_sizeOf_60 rfl ?_
        obtain ⟨q20, kk⟩ := kk
        refine r_cv (d1 := 1) dX12_sizeOf_62 cvX12_361 rfl rfl rfl rfl (Nat.le_of_ble_eq_true rfl) (Nat.le_of_ble_eq_true rfl) (Nat.le_of_ble_eq_true rfl) (c_m_began 10 q20) ?_
        refine r_p dX12_sizeOf_65 rfl rfl ?_
        refine r_p dX12_sizeOf_66 rfl rfl ?_
        refine r_ci (x := 1) dX12_sizeOf_67 rfl ?_
        obtain ⟨q21, kk⟩ := kk
        refine r_cv (d1 := 1) dX12_sizeOf_68 cvX12_232 rfl rfl rfl rfl (Nat.le_of_ble_eq_true rfl) (Nat.le_of_ble_eq_true rfl) (Nat.le_of_ble_eq_true rfl) (c_m_stepOf p0 1 q21) ?_
        refine r_p dX12_sizeOf_71 rfl rfl ?_
        obtain ⟨KJ4, hKJ4⟩ : ∃ q : Int32 → Int32 × St, q = (fun (j4_s1 : Int32) => if p1 = 6 then (2 * ((x_m_stepOf (x_m_began T303 10) p0 1) + j4_s1), x_m_began T303 10) else (if p1 = 2 then ((((x_m_stepOf (x_m_began T303 10) p0 1) + j4_s1) + (x_m_stepOf (x_m_began T303 10) p0 5)) - (x_m_stepOf (x_m_began T303 10) p0 4), x_m_began T303 10) else (if p1 = 5 then (((x_m_stepOf (x_m_began T303 10) p0 1) + j4_s1) - ((x_m_markOf (x_m_began T303 10) p0 p1).1), (x_m_markOf (x_m_began T303 10) p0 p1).2) else ((x_m_stepOf (x_m_began T303 10) p0 1) + j4_s1, x_m_began T303 10)))) := ⟨_, rfl⟩
        obtain ⟨OJ4, hOJ4⟩ : ∃ q : Int32 → Prop, q = (fun (j4_s1 : Int32) => (¬ p1 = 6 → ((p1 = 2 → (ok_m_stepOf (x_m_began T303 10) p0 5) ∧ (ok_m_stepOf (x_m_began T303 10) p0 4) ∧ True) ∧ (¬ p1 = 2 → (p1 = 5 → (ok_m_markOf (x_m_began T303 10) p0 p1) ∧ True))))) := ⟨_, rfl⟩
        rw [← hOJ4] at kk
        simp only [jn] at kk
        have hJ4 : ∀ (j4_s1 : Int32), OJ4 j4_s1 → tR X 2 mX12_sizeOf 88 [some (.ref 571), some (.int p0), some (.int p1), some (.int (x_m_isOf (x_m_began T j2_s1) p1 1)), none] [.int j4_s1, .int (x_m_stepOf (x_m_began T303 10) p0 1)] (x_m_began T303 10) (some (.int (KJ4 j4_s1).1)) ((KJ4 j4_s1).2) := by
          intro j4_s1 kk
          rw [hOJ4] at kk
          try dsimp only at kk
          rw [hKJ4]
          refine r_p dX12_sizeOf_88 rfl rfl ?_
          refine r_p dX12_sizeOf_89 rfl rfl ?_
          refine r_p dX12_sizeOf_91 rfl rfl ?_
          refine r_cb (x := 6) dX12_sizeOf_92 rfl ?_
          refine r_cne dX12_sizeOf_94 rfl (fun c94_23 => ?_) (fun c94_23 => ?_)
          · have kk := kk c94_23
            refine r_p dX12_sizeOf_104 rfl rfl ?_
            refine r_ci (x := 2) dX12_sizeOf_105 rfl ?_
            refine r_cne dX12_sizeOf_106 rfl (fun c106_24 => ?_) (fun c106_24 => ?_)
            · have kk := kk.2 c106_24
              refine r_p dX12_sizeOf_128 rfl rfl ?_
              refine r_ci (x := 5) dX12_sizeOf_129 rfl ?_
              refine r_cne dX12_sizeOf_130 rfl (fun c130_25 => ?_) (fun c130_25 => ?_)
              · refine r_p dX12_sizeOf_145 rfl rfl ?_
                exact r_eI (r' := ((x_m_stepOf (x_m_began T303 10) p0 1) + j4_s1, x_m_began T303 10)) (by first | rw [if_neg c94_23, if_neg c106_24, if_neg c130_25] | (dsimp only; rw [if_neg c94_23, if_neg c106_24, if_neg c130_25])) (r_ri dX12_sizeOf_147 rfl rfl rfl rfl)
              · have kk := kk c130_25
                refine r_p dX12_sizeOf_133 rfl rfl ?_
                refine r_p dX12_sizeOf_135 rfl rfl ?_
                refine r_p dX12_sizeOf_136 rfl rfl ?_
                refine r_p dX12_sizeOf_137 rfl rfl ?_
                obtain ⟨q23, kk⟩ := kk
                refine r_cv (d1 := 2) dX12_sizeOf_138 cvX12_364 rfl rfl rfl rfl (Nat.le_of_ble_eq_true rfl) (Nat.le_of_ble_eq_true rfl) (Nat.le_of_ble_eq_true rfl) (c_m_markOf p0 p1 q23) ?_
                refine r_p dX12_sizeOf_141 rfl rfl ?_
                refine r_go dX12_sizeOf_142 rfl ?_
                exact r_eI (r' := (((x_m_stepOf (x_m_began T303 10) p0 1) + j4_s1) - ((x_m_markOf (x_m_began T303 10) p0 p1).1), (x_m_markOf (x_m_began T303 10) p0 p1).2)) (by first | rw [if_neg c94_23, if_neg c106_24, if_pos c130_25] | (dsimp only; rw [if_neg c94_23, if_neg c106_24, if_pos c130_25])) (r_ri dX12_sizeOf_147 rfl rfl rfl rfl)
            · have kk := kk.1 c106_24
              refine r_p dX12_sizeOf_109 rfl rfl ?_
              refine r_p dX12_sizeOf_111 rfl rfl ?_
              refine r_p dX12_sizeOf_112 rfl rfl ?_
              refine r_ci (x := 5) dX12_sizeOf_113 rfl ?_
              obtain ⟨q24, kk⟩ := kk
              refine r_cv (d1 := 1) dX12_sizeOf_114 cvX12_232 rfl rfl rfl rfl (Nat.le_of_ble_eq_true rfl) (Nat.le_of_ble_eq_true rfl) (Nat.le_of_ble_eq_true rfl) (c_m_stepOf p0 5 q24) ?_
              refine r_p dX12_sizeOf_117 rfl rfl ?_
              refine r_p dX12_sizeOf_118 rfl rfl ?_
              refine r_p dX12_sizeOf_119 rfl rfl ?_
              refine r_ci (x := 4) dX12_sizeOf_120 rfl ?_
              obtain ⟨q25, kk⟩ := kk
              refine r_cv (d1 := 1) dX12_sizeOf_121 cvX12_232 rfl rfl rfl rfl (Nat.le_of_ble_eq_true rfl) (Nat.le_of_ble_eq_true rfl) (Nat.le_of_ble_eq_true rfl) (c_m_stepOf p0 4 q25) ?_
              refine r_p dX12_sizeOf_124 rfl rfl ?_
              refine r_go dX12_sizeOf_125 rfl ?_
              exact r_eI (r' := ((((x_m_stepOf (x_m_began T303 10) p0 1) + j4_s1) + (x_m_stepOf (x_m_began T303 10) p0 5)) - (x_m_stepOf (x_m_began T303 10) p0 4), x_m_began T303 10)) (by first | rw [if_neg c94_23, if_pos c106_24] | (dsimp only; rw [if_neg c94_23, if_pos c106_24])) (r_ri dX12_sizeOf_147 rfl rfl rfl rfl)
          · refine r_ci (x := 2) dX12_sizeOf_97 rfl ?_
            refine r_p dX12_sizeOf_98 rfl rfl ?_
            refine r_p dX12_sizeOf_100 rfl rfl ?_
            refine r_go dX12_sizeOf_101 rfl ?_
            exact r_eI (r' := (2 * ((x_m_stepOf (x_m_began T303 10) p0 1) + j4_s1), x_m_began T303 10)) (by first | rw [if_pos c94_23] | (dsimp only; rw [if_pos c94_23])) (r_ri dX12_sizeOf_147 rfl rfl rfl rfl)
        refine r_eI (r' := jn (fun (KJ4 : Int32 → Int32 × St) => if (x_m_isOf (x_m_began T j2_s1) p1 1) = 0 then (KJ4 0) else (KJ4 (10 * (x_m_stepOf (x_m_began T303 10) p0 4)))) KJ4) (by rw [hKJ4]) ?_
        refine r_ieq dX12_sizeOf_72 rfl (fun c72_26 => ?_) (fun c72_26 => ?_)
        · have kk := kk.1 c72_26
          refine r_ci (x := 0) dX12_sizeOf_87 rfl ?_
          show tR _ _ _ _ [some (.ref 571), some (.int p0), some (.int p1), some (.int (x_m_isOf (x_m_began T j2_s1) p1 1)), none] [.int 0, .int (x_m_stepOf (x_m_began T303 10) p0 1)] _ _ _
          exact r_eI (r' := KJ4 0) (by simp only [jn]; rw [if_pos c72_26]) ((hJ4 0 kk))
        · have kk := kk.2 c72_26
          refine r_cb (x := 10) dX12_sizeOf_75 rfl ?_
          refine r_p dX12_sizeOf_77 rfl rfl ?_
          refine r_p dX12_sizeOf_78 rfl rfl ?_
          refine r_ci (x := 4) dX12_sizeOf_79 rfl ?_
          obtain ⟨q26, kk⟩ := kk
          refine r_cv (d1 := 1) dX12_sizeOf_80 cvX12_232 rfl rfl rfl rfl (Nat.le_of_ble_eq_true rfl) (Nat.le_of_ble_eq_true rfl) (Nat.le_of_ble_eq_true rfl) (c_m_stepOf p0 4 q26) ?_
          refine r_p dX12_sizeOf_83 rfl rfl ?_
          refine r_go dX12_sizeOf_84 rfl ?_
          show tR _ _ _ _ [some (.ref 571), some (.int p0), some (.int p1), some (.int (x_m_isOf (x_m_began T j2_s1) p1 1)), none] [.int (10 * (x_m_stepOf (x_m_began T303 10) p0 4)), .int (x_m_stepOf (x_m_began T303 10) p0 1)] _ _ _
          exact r_eI (r' := KJ4 (10 * (x_m_stepOf (x_m_began T303 10) p0 4))) (by simp only [jn]; rw [if_neg c72_26]) ((hJ4 (10 * (x_m_stepOf (x_m_began T303 10) p0 4)) kk))
      refine r_eI (r' := jn (fun (KJ3 : St → Int32 × St) => if (x_m_isOf (x_m_began T j2_s1) p1 1) = 0 then (KJ3 (x_m_began T j2_s1)) else (KJ3 (x_m_began (x_m_began T j2_s1) 11))) KJ3) (by rw [hKJ3]) ?_
      refine r_ieq dX12_sizeOf_50 rfl (fun c50_27 => ?_) (fun c50_27 => ?_)
      · have kk := kk.1 c50_27
        show tR _ _ _ _ [some (.ref 571), some (.int p0), some (.int p1), some (.int (x_m_isOf (x_m_began T j2_s1) p1 1)), none] [] _ _ _
        exact r_eI (r' := KJ3 (x_m_began T j2_s1)) (by simp only [jn]; rw [if_pos c50_27]) ((hJ3 (x_m_began T j2_s1) kk))
      · have kk := kk.2 c50_27
        refine r_p dX12_sizeOf_53 rfl rfl ?_
        refine r_cb (x := 11) dX12_sizeOf_54 rfl ?_
        obtain ⟨q27, kk⟩ := kk
        refine r_cv (d1 := 1) dX12_sizeOf_56 cvX12_361 rfl rfl rfl rfl (Nat.le_of_ble_eq_true rfl) (Nat.le_of_ble_eq_true rfl) (Nat.le_of_ble_eq_true rfl) (c_m_began 11 q27) ?_
        show tR _ _ _ _ [some (.ref 571), some (.int p0), some (.int p1), some (.int (x_m_isOf (x_m_began T j2_s1) p1 1)), none] [] _ _ _
        exact r_eI (r' := KJ3 (x_m_began (x_m_began T j2_s1) 11)) (by simp only [jn]; rw [if_neg c50_27]) ((hJ3 (x_m_began (x_m_began T j2_s1) 11) kk))
    refine r_eI (r' := jn (fun (KJ2 : Int32 → Int32 × St) => if p1 = 6 then (KJ2 12) else (if p1 = 2 then (KJ2 13) else (KJ2 14))) KJ2) (by rw [hKJ2]) ?_
    refine r_cne dX12_sizeOf_20 rfl (fun c20_28 => ?_) (fun c20_28 => ?_)
    · have kk := kk.2 c20_28
      refine r_p dX12_sizeOf_28 rfl rfl ?_
      refine r_ci (x := 2) dX12_sizeOf_29 rfl ?_
      refine r_cne dX12_sizeOf_30 rfl (fun c30_29 => ?_) (fun c30_29 => ?_)
      · have kk := kk.2 c30_29
        refine r_cb (x := 14) dX12_sizeOf_38 rfl ?_
        show tR _ _ _ _ [some (.ref 571), some (.int p0), some (.int p1), none, none] [.int 14, .ref 571] _ _ _
        exact r_eI (r' := KJ2 14) (by simp only [jn]; rw [if_neg c20_28, if_neg c30_29]) ((hJ2 14 kk))
      · have kk := kk.1 c30_29
        refine r_cb (x := 13) dX12_sizeOf_33 rfl ?_
        refine r_go dX12_sizeOf_35 rfl ?_
        show tR _ _ _ _ [some (.ref 571), some (.int p0), some (.int p1), none, none] [.int 13, .ref 571] _ _ _
        exact r_eI (r' := KJ2 13) (by simp only [jn]; rw [if_neg c20_28, if_pos c30_29]) ((hJ2 13 kk))
    · have kk := kk.1 c20_28
      refine r_cb (x := 12) dX12_sizeOf_23 rfl ?_
      refine r_go dX12_sizeOf_25 rfl ?_
      show tR _ _ _ _ [some (.ref 571), some (.int p0), some (.int p1), none, none] [.int 12, .ref 571] _ _ _
      exact r_eI (r' := KJ2 12) (by simp only [jn]; rw [if_pos c20_28]) ((hJ2 12 kk))
  refine r_eI (r' := jn (fun (KJ1 : Int32 × St) => if p1 = 6 then (KJ1) else (if p1 = 2 then (KJ1) else (if p1 = 5 then (KJ1) else (jn (fun (KJ5 : St → Int32 × St) => if (x_m_isOf T p1 1) = 0 then (KJ5 T) else (KJ5 (x_m_began T 11))) (fun (T305 : St) => jn (fun (KJ6 : Int32 → Int32 × St) => if (x_m_isOf T p1 1) = 0 then (KJ6 0) else (KJ6 (10 * (x_m_stepOf (x_m_began T305 10) p0 4)))) (fun (j6_s1 : Int32) => if p1 = 6 then (2 * ((x_m_stepOf (x_m_began T305 10) p0 1) + j6_s1), x_m_began T305 10) else (if p1 = 2 then ((((x_m_stepOf (x_m_began T305 10) p0 1) + j6_s1) + (x_m_stepOf (x_m_began T305 10) p0 5)) - (x_m_stepOf (x_m_began T305 10) p0 4), x_m_began T305 10) else (if p1 = 5 then (((x_m_stepOf (x_m_began T305 10) p0 1) + j6_s1) - ((x_m_markOf (x_m_began T305 10) p0 p1).1), (x_m_markOf (x_m_began T305 10) p0 p1).2) else ((x_m_stepOf (x_m_began T305 10) p0 1) + j6_s1, x_m_began T305 10))))))))) KJ1) (by rw [hKJ1]; unfold x_m_sizeOf; rfl) ?_
  refine r_ceq dX12_sizeOf_3 rfl (fun c3_30 => ?_) (fun c3_30 => ?_)
  · have kk := kk.1 c3_30
    show tR _ _ _ _ [some (.ref 571), some (.int p0), some (.int p1), none, none] [] _ _ _
    exact r_eI (r' := KJ1) (by simp only [jn]; rw [if_pos c3_30]) ((hJ1  kk))
  · have kk := kk.2 c3_30
    refine r_p dX12_sizeOf_6 rfl rfl ?_
    refine r_ci (x := 2) dX12_sizeOf_7 rfl ?_
    refine r_ceq dX12_sizeOf_8 rfl (fun c8_31 => ?_) (fun c8_31 => ?_)
    · have kk := kk.1 c8_31
      show tR _ _ _ _ [some (.ref 571), some (.int p0), some (.int p1), none, none] [] _ _ _
      exact r_eI (r' := KJ1) (by simp only [jn]; rw [if_neg c3_30, if_pos c8_31]) ((hJ1  kk))
    · have kk := kk.2 c8_31
      refine r_p dX12_sizeOf_11 rfl rfl ?_
      refine r_ci (x := 5) dX12_sizeOf_12 rfl ?_
      refine r_cne dX12_sizeOf_13 rfl (fun c13_32 => ?_) (fun c13_32 => ?_)
      · have kk := kk.2 c13_32
        refine r_p dX12_sizeOf_43 rfl rfl ?_
        refine r_ci (x := 1) dX12_sizeOf_44 rfl ?_
        refine r_cs (d1 := 1) dX12_sizeOf_45 csX12_355 rfl rfl (Nat.le_of_ble_eq_true rfl) (Nat.le_of_ble_eq_true rfl) (Nat.le_of_ble_eq_true rfl) (c_m_isOf p1 1) ?_
        refine r_p dX12_sizeOf_48 rfl rfl ?_
        refine r_p dX12_sizeOf_49 rfl rfl ?_
        obtain ⟨KJ5, hKJ5⟩ : ∃ q : St → Int32 × St, q = (fun (T305 : St) => jn (fun (KJ6 : Int32 → Int32 × St) => if (x_m_isOf T p1 1) = 0 then (KJ6 0) else (KJ6 (10 * (x_m_stepOf (x_m_began T305 10) p0 4)))) (fun (j6_s1 : Int32) => if p1 = 6 then (2 * ((x_m_stepOf (x_m_began T305 10) p0 1) + j6_s1), x_m_began T305 10) else (if p1 = 2 then ((((x_m_stepOf (x_m_began T305 10) p0 1) + j6_s1) + (x_m_stepOf (x_m_began T305 10) p0 5)) - (x_m_stepOf (x_m_began T305 10) p0 4), x_m_began T305 10) else (if p1 = 5 then (((x_m_stepOf (x_m_began T305 10) p0 1) + j6_s1) - ((x_m_markOf (x_m_began T305 10) p0 p1).1), (x_m_markOf (x_m_began T305 10) p0 p1).2) else ((x_m_stepOf (x_m_began T305 10) p0 1) + j6_s1, x_m_began T305 10))))) := ⟨_, rfl⟩
        obtain ⟨OJ5, hOJ5⟩ : ∃ q : St → Prop, q = (fun (T305 : St) => (ok_m_began T305 10) ∧ (ok_m_stepOf (x_m_began T305 10) p0 1) ∧ jn (fun (OJ6 : Int32 → Prop) => (((x_m_isOf T p1 1) = 0 → OJ6 0) ∧ (¬ (x_m_isOf T p1 1) = 0 → (ok_m_stepOf (x_m_began T305 10) p0 4) ∧ OJ6 (10 * (x_m_stepOf (x_m_began T305 10) p0 4))))) (fun (j6_s1 : Int32) => (¬ p1 = 6 → ((p1 = 2 → (ok_m_stepOf (x_m_began T305 10) p0 5) ∧ (ok_m_stepOf (x_m_began T305 10) p0 4) ∧ True) ∧ (¬ p1 = 2 → (p1 = 5 → (ok_m_markOf (x_m_began T305 10) p0 p1) ∧ True)))))) := ⟨_, rfl⟩
        rw [← hOJ5] at kk
        simp only [jn] at kk
        have hJ5 : ∀ (T305 : St), OJ5 T305 → tR X 2 mX12_sizeOf 59 [some (.ref 571), some (.int p0), some (.int p1), some (.int (x_m_isOf T p1 1)), none] [] T305 (some (.int (KJ5 T305).1)) ((KJ5 T305).2) := by
          intro T305 kk
          rw [hOJ5] at kk
          try dsimp only at kk
          rw [hKJ5]
          refine r_p dX12_sizeOf_59 rfl rfl ?_
          refine r_cb (x := 10) dX12_sizeOf_60 rfl ?_
          obtain ⟨q29, kk⟩ := kk
          refine r_cv (d1 := 1) dX12_sizeOf_62 cvX12_361 rfl rfl rfl rfl (Nat.le_of_ble_eq_true rfl) (Nat.le_of_ble_eq_true rfl) (Nat.le_of_ble_eq_true rfl) (c_m_began 10 q29) ?_
          refine r_p dX12_sizeOf_65 rfl rfl ?_
          refine r_p dX12_sizeOf_66 rfl rfl ?_
          refine r_ci (x := 1) dX12_sizeOf_67 rfl ?_
          obtain ⟨q30, kk⟩ := kk
          refine r_cv (d1 := 1) dX12_sizeOf_68 cvX12_232 rfl rfl rfl rfl (Nat.le_of_ble_eq_true rfl) (Nat.le_of_ble_eq_true rfl) (Nat.le_of_ble_eq_true rfl) (c_m_stepOf p0 1 q30) ?_
          refine r_p dX12_sizeOf_71 rfl rfl ?_
          obtain ⟨KJ6, hKJ6⟩ : ∃ q : Int32 → Int32 × St, q = (fun (j6_s1 : Int32) => if p1 = 6 then (2 * ((x_m_stepOf (x_m_began T305 10) p0 1) + j6_s1), x_m_began T305 10) else (if p1 = 2 then ((((x_m_stepOf (x_m_began T305 10) p0 1) + j6_s1) + (x_m_stepOf (x_m_began T305 10) p0 5)) - (x_m_stepOf (x_m_began T305 10) p0 4), x_m_began T305 10) else (if p1 = 5 then (((x_m_stepOf (x_m_began T305 10) p0 1) + j6_s1) - ((x_m_markOf (x_m_began T305 10) p0 p1).1), (x_m_markOf (x_m_began T305 10) p0 p1).2) else ((x_m_stepOf (x_m_began T305 10) p0 1) + j6_s1, x_m_began T305 10)))) := ⟨_, rfl⟩
          obtain ⟨OJ6, hOJ6⟩ : ∃ q : Int32 → Prop, q = (fun (j6_s1 : Int32) => (¬ p1 = 6 → ((p1 = 2 → (ok_m_stepOf (x_m_began T305 10) p0 5) ∧ (ok_m_stepOf (x_m_began T305 10) p0 4) ∧ True) ∧ (¬ p1 = 2 → (p1 = 5 → (ok_m_markOf (x_m_began T305 10) p0 p1) ∧ True))))) := ⟨_, rfl⟩
          rw [← hOJ6] at kk
          simp only [jn] at kk
          have hJ6 : ∀ (j6_s1 : Int32), OJ6 j6_s1 → tR X 2 mX12_sizeOf 88 [some (.ref 571), some (.int p0), some (.int p1), some (.int (x_m_isOf T p1 1)), none] [.int j6_s1, .int (x_m_stepOf (x_m_began T305 10) p0 1)] (x_m_began T305 10) (some (.int (KJ6 j6_s1).1)) ((KJ6 j6_s1).2) := by
            intro j6_s1 kk
            rw [hOJ6] at kk
            try dsimp only at kk
            rw [hKJ6]
            refine r_p dX12_sizeOf_88 rfl rfl ?_
            refine r_p dX12_sizeOf_89 rfl rfl ?_
            refine r_p dX12_sizeOf_91 rfl rfl ?_
            refine r_cb (x := 6) dX12_sizeOf_92 rfl ?_
            refine r_cne dX12_sizeOf_94 rfl (fun c94_35 => ?_) (fun c94_35 => ?_)
            · have kk := kk c94_35
              refine r_p dX12_sizeOf_104 rfl rfl ?_
              refine r_ci (x := 2) dX12_sizeOf_105 rfl ?_
              refine r_cne dX12_sizeOf_106 rfl (fun c106_36 => ?_) (fun c106_36 => ?_)
              · have kk := kk.2 c106_36
                refine r_p dX12_sizeOf_128 rfl rfl ?_
                refine r_ci (x := 5) dX12_sizeOf_129 rfl ?_
                refine r_cne dX12_sizeOf_130 rfl (fun c130_37 => ?_) (fun c130_37 => ?_)
                · refine r_p dX12_sizeOf_145 rfl rfl ?_
                  exact r_eI (r' := ((x_m_stepOf (x_m_began T305 10) p0 1) + j6_s1, x_m_began T305 10)) (by first | rw [if_neg c94_35, if_neg c106_36, if_neg c130_37] | (dsimp only; rw [if_neg c94_35, if_neg c106_36, if_neg c130_37])) (r_ri dX12_sizeOf_147 rfl rfl rfl rfl)
                · have kk := kk c130_37
                  refine r_p dX12_sizeOf_133 rfl rfl ?_
                  refine r_p dX12_sizeOf_135 rfl rfl ?_
                  refine r_p dX12_sizeOf_136 rfl rfl ?_
                  refine r_p dX12_sizeOf_137 rfl rfl ?_
                  obtain ⟨q32, kk⟩ := kk
                  refine r_cv (d1 := 2) dX12_sizeOf_138 cvX12_364 rfl rfl rfl rfl (Nat.le_of_ble_eq_true rfl) (Nat.le_of_ble_eq_true rfl) (Nat.le_of_ble_eq_true rfl) (c_m_markOf p0 p1 q32) ?_
                  refine r_p dX12_sizeOf_141 rfl rfl ?_
                  refine r_go dX12_sizeOf_142 rfl ?_
                  exact r_eI (r' := (((x_m_stepOf (x_m_began T305 10) p0 1) + j6_s1) - ((x_m_markOf (x_m_began T305 10) p0 p1).1), (x_m_markOf (x_m_began T305 10) p0 p1).2)) (by first | rw [if_neg c94_35, if_neg c106_36, if_pos c130_37] | (dsimp only; rw [if_neg c94_35, if_neg c106_36, if_pos c130_37])) (r_ri dX12_sizeOf_147 rfl rfl rfl rfl)
              · have kk := kk.1 c106_36
                refine r_p dX12_sizeOf_109 rfl rfl ?_
                refine r_p dX12_sizeOf_111 rfl rfl ?_
                refine r_p dX12_sizeOf_112 rfl rfl ?_
                refine r_ci (x := 5) dX12_sizeOf_113 rfl ?_
                obtain ⟨q33, kk⟩ := kk
                refine r_cv (d1 := 1) dX12_sizeOf_114 cvX12_232 rfl rfl rfl rfl (Nat.le_of_ble_eq_true rfl) (Nat.le_of_ble_eq_true rfl) (Nat.le_of_ble_eq_true rfl) (c_m_stepOf p0 5 q33) ?_
                refine r_p dX12_sizeOf_117 rfl rfl ?_
                refine r_p dX12_sizeOf_118 rfl rfl ?_
                refine r_p dX12_sizeOf_119 rfl rfl ?_
                refine r_ci (x := 4) dX12_sizeOf_120 rfl ?_
                obtain ⟨q34, kk⟩ := kk
                refine r_cv (d1 := 1) dX12_sizeOf_121 cvX12_232 rfl rfl rfl rfl (Nat.le_of_ble_eq_true rfl) (Nat.le_of_ble_eq_true rfl) (Nat.le_of_ble_eq_true rfl) (c_m_stepOf p0 4 q34) ?_
                refine r_p dX12_sizeOf_124 rfl rfl ?_
                refine r_go dX12_sizeOf_125 rfl ?_
                exact r_eI (r' := ((((x_m_stepOf (x_m_began T305 10) p0 1) + j6_s1) + (x_m_stepOf (x_m_began T305 10) p0 5)) - (x_m_stepOf (x_m_began T305 10) p0 4), x_m_began T305 10)) (by first | rw [if_neg c94_35, if_pos c106_36] | (dsimp only; rw [if_neg c94_35, if_pos c106_36])) (r_ri dX12_sizeOf_147 rfl rfl rfl rfl)
            · refine r_ci (x := 2) dX12_sizeOf_97 rfl ?_
              refine r_p dX12_sizeOf_98 rfl rfl ?_
              refine r_p dX12_sizeOf_100 rfl rfl ?_
              refine r_go dX12_sizeOf_101 rfl ?_
              exact r_eI (r' := (2 * ((x_m_stepOf (x_m_began T305 10) p0 1) + j6_s1), x_m_began T305 10)) (by first | rw [if_pos c94_35] | (dsimp only; rw [if_pos c94_35])) (r_ri dX12_sizeOf_147 rfl rfl rfl rfl)
          refine r_eI (r' := jn (fun (KJ6 : Int32 → Int32 × St) => if (x_m_isOf T p1 1) = 0 then (KJ6 0) else (KJ6 (10 * (x_m_stepOf (x_m_began T305 10) p0 4)))) KJ6) (by rw [hKJ6]) ?_
          refine r_ieq dX12_sizeOf_72 rfl (fun c72_38 => ?_) (fun c72_38 => ?_)
          · have kk := kk.1 c72_38
            refine r_ci (x := 0) dX12_sizeOf_87 rfl ?_
            show tR _ _ _ _ [some (.ref 571), some (.int p0), some (.int p1), some (.int (x_m_isOf T p1 1)), none] [.int 0, .int (x_m_stepOf (x_m_began T305 10) p0 1)] _ _ _
            exact r_eI (r' := KJ6 0) (by simp only [jn]; rw [if_pos c72_38]) ((hJ6 0 kk))
          · have kk := kk.2 c72_38
            refine r_cb (x := 10) dX12_sizeOf_75 rfl ?_
            refine r_p dX12_sizeOf_77 rfl rfl ?_
            refine r_p dX12_sizeOf_78 rfl rfl ?_
            refine r_ci (x := 4) dX12_sizeOf_79 rfl ?_
            obtain ⟨q35, kk⟩ := kk
            refine r_cv (d1 := 1) dX12_sizeOf_80 cvX12_232 rfl rfl rfl rfl (Nat.le_of_ble_eq_true rfl) (Nat.le_of_ble_eq_true rfl) (Nat.le_of_ble_eq_true rfl) (c_m_stepOf p0 4 q35) ?_
            refine r_p dX12_sizeOf_83 rfl rfl ?_
            refine r_go dX12_sizeOf_84 rfl ?_
            show tR _ _ _ _ [some (.ref 571), some (.int p0), some (.int p1), some (.int (x_m_isOf T p1 1)), none] [.int (10 * (x_m_stepOf (x_m_began T305 10) p0 4)), .int (x_m_stepOf (x_m_began T305 10) p0 1)] _ _ _
            exact r_eI (r' := KJ6 (10 * (x_m_stepOf (x_m_began T305 10) p0 4))) (by simp only [jn]; rw [if_neg c72_38]) ((hJ6 (10 * (x_m_stepOf (x_m_began T305 10) p0 4)) kk))
        refine r_eI (r' := jn (fun (KJ5 : St → Int32 × St) => if (x_m_isOf T p1 1) = 0 then (KJ5 T) else (KJ5 (x_m_began T 11))) KJ5) (by rw [hKJ5]; simp only [jn]; rw [if_neg c3_30, if_neg c8_31, if_neg c13_32]) ?_
        refine r_ieq dX12_sizeOf_50 rfl (fun c50_39 => ?_) (fun c50_39 => ?_)
        · have kk := kk.1 c50_39
          show tR _ _ _ _ [some (.ref 571), some (.int p0), some (.int p1), some (.int (x_m_isOf T p1 1)), none] [] _ _ _
          exact r_eI (r' := KJ5 T) (by simp only [jn]; rw [if_pos c50_39]) ((hJ5 T kk))
        · have kk := kk.2 c50_39
          refine r_p dX12_sizeOf_53 rfl rfl ?_
          refine r_cb (x := 11) dX12_sizeOf_54 rfl ?_
          obtain ⟨q36, kk⟩ := kk
          refine r_cv (d1 := 1) dX12_sizeOf_56 cvX12_361 rfl rfl rfl rfl (Nat.le_of_ble_eq_true rfl) (Nat.le_of_ble_eq_true rfl) (Nat.le_of_ble_eq_true rfl) (c_m_began 11 q36) ?_
          show tR _ _ _ _ [some (.ref 571), some (.int p0), some (.int p1), some (.int (x_m_isOf T p1 1)), none] [] _ _ _
          exact r_eI (r' := KJ5 (x_m_began T 11)) (by simp only [jn]; rw [if_neg c50_39]) ((hJ5 (x_m_began T 11) kk))
      · have kk := kk.1 c13_32
        show tR _ _ _ _ [some (.ref 571), some (.int p0), some (.int p1), none, none] [] _ _ _
        exact r_eI (r' := KJ1) (by simp only [jn]; rw [if_neg c3_30, if_neg c8_31, if_pos c13_32]) ((hJ1  kk))
def x_m_ask (T : St) (p0 : Int32) (p1 : Int32) : Int32 × St := if (x_m_isStep (sF T 571 0 0) p0) = 0 then ((-1000001), sF T 571 0 0) else (if (x_m_in (sF T 571 0 0) ((p1 : Int32).toInt64) 0 1) = 0 then ((-1000001), sF T 571 0 0) else (if p1 = 0 then (fun (T1 : St) => ((x_m_sizeOf (sF (sF T 571 0 0) 571 48 0) p0 (x_m_kindOf (sF (sF T 571 0 0) 571 48 0) p0)).1, T1)) ((x_m_sizeOf (sF (sF T 571 0 0) 571 48 0) p0 (x_m_kindOf (sF (sF T 571 0 0) 571 48 0) p0)).2) else ((x_m_markOf (sF (sF T 571 0 0) 571 48 0) p0 (x_m_kindOf (sF (sF T 571 0 0) 571 48 0) p0)).1, (x_m_markOf (sF (sF T 571 0 0) 571 48 0) p0 (x_m_kindOf (sF (sF T 571 0 0) 571 48 0) p0)).2)))
def ok_m_ask (T : St) (p0 : Int32) (p1 : Int32) : Prop := (ok_m_isStep (sF T 571 0 0) p0) ∧ (¬ (x_m_isStep (sF T 571 0 0) p0) = 0 → (¬ (x_m_in (sF T 571 0 0) ((p1 : Int32).toInt64) 0 1) = 0 → ((p1 = 0 → (ok_m_kindOf (sF (sF T 571 0 0) 571 48 0) p0) ∧ (ok_m_sizeOf (sF (sF T 571 0 0) 571 48 0) p0 (x_m_kindOf (sF (sF T 571 0 0) 571 48 0) p0)) ∧ True) ∧ (¬ p1 = 0 → (ok_m_kindOf (sF (sF T 571 0 0) 571 48 0) p0) ∧ (ok_m_markOf (sF (sF T 571 0 0) 571 48 0) p0 (x_m_kindOf (sF (sF T 571 0 0) 571 48 0) p0)) ∧ True))))
theorem c_m_ask {X : Nat × (Nat → Int32)} {T : St} (p0 : Int32) (p1 : Int32) (kk : ok_m_ask T p0 p1) : tC X 4 mX12_ask [.ref 571, .int p0, .int p1] T (some (.int (x_m_ask T p0 p1).1)) ((x_m_ask T p0 p1).2) := by
  unfold ok_m_ask at kk
  refine tC_of ?_
  refine r_p dX12_ask_0 rfl rfl ?_
  refine r_ci (x := 0) dX12_ask_1 rfl ?_
  refine r_put dX12_ask_2 fkX12_101 rfl rfl rfl (Nat.le_of_ble_eq_true rfl) rfl rfl ?_
  refine r_p dX12_ask_5 rfl rfl ?_
  refine r_p dX12_ask_6 rfl rfl ?_
  obtain ⟨q1, kk⟩ := kk
  refine r_cv (d1 := 2) dX12_ask_7 cvX12_246 rfl rfl rfl rfl (Nat.le_of_ble_eq_true rfl) (Nat.le_of_ble_eq_true rfl) (Nat.le_of_ble_eq_true rfl) (c_m_isStep p0 q1) ?_
  refine r_ieq dX12_ask_10 rfl (fun c10_1 => ?_) (fun c10_1 => ?_)
  · refine r_k dX12_ask_23 kkX12_121 ?_
    exact r_eI (r' := ((-1000001), sF T 571 0 0)) (by unfold x_m_ask; rw [if_pos c10_1]) (r_ri dX12_ask_25 rfl rfl rfl rfl)
  · have kk := kk c10_1
    refine r_p dX12_ask_13 rfl rfl ?_
    refine r_p dX12_ask_14 rfl rfl ?_
    refine r_cl (x := 0) dX12_ask_15 rfl ?_
    refine r_cl (x := 1) dX12_ask_16 rfl ?_
    refine r_cs (d1 := 1) dX12_ask_17 csX12_111 rfl rfl (Nat.le_of_ble_eq_true rfl) (Nat.le_of_ble_eq_true rfl) (Nat.le_of_ble_eq_true rfl) (c_m_in ((p1 : Int32).toInt64) 0 1) ?_
    refine r_ine dX12_ask_20 rfl (fun c20_2 => ?_) (fun c20_2 => ?_)
    · have kk := kk c20_2
      refine r_p dX12_ask_26 rfl rfl ?_
      refine r_ci (x := 0) dX12_ask_27 rfl ?_
      refine r_put dX12_ask_28 fkX12_358 rfl rfl rfl (Nat.le_of_ble_eq_true rfl) rfl rfl ?_
      refine r_p dX12_ask_31 rfl rfl ?_
      refine r_ine dX12_ask_32 rfl (fun c32_3 => ?_) (fun c32_3 => ?_)
      · have kk := kk.2 c32_3
        refine r_p dX12_ask_48 rfl rfl ?_
        refine r_p dX12_ask_49 rfl rfl ?_
        refine r_p dX12_ask_50 rfl rfl ?_
        refine r_p dX12_ask_51 rfl rfl ?_
        obtain ⟨q2, kk⟩ := kk
        refine r_cv (d1 := 2) dX12_ask_52 cvX12_350 rfl rfl rfl rfl (Nat.le_of_ble_eq_true rfl) (Nat.le_of_ble_eq_true rfl) (Nat.le_of_ble_eq_true rfl) (c_m_kindOf p0 q2) ?_
        obtain ⟨q3, kk⟩ := kk
        refine r_cv (d1 := 2) dX12_ask_55 cvX12_364 rfl rfl rfl rfl (Nat.le_of_ble_eq_true rfl) (Nat.le_of_ble_eq_true rfl) (Nat.le_of_ble_eq_true rfl) (c_m_markOf p0 (x_m_kindOf (sF (sF T 571 0 0) 571 48 0) p0) q3) ?_
        exact r_eI (r' := ((x_m_markOf (sF (sF T 571 0 0) 571 48 0) p0 (x_m_kindOf (sF (sF T 571 0 0) 571 48 0) p0)).1, (x_m_markOf (sF (sF T 571 0 0) 571 48 0) p0 (x_m_kindOf (sF (sF T 571 0 0) 571 48 0) p0)).2)) (by unfold x_m_ask; rw [if_neg c10_1, if_neg c20_2, if_neg c32_3]) (r_ri dX12_ask_58 rfl rfl rfl rfl)
      · have kk := kk.1 c32_3
        refine r_p dX12_ask_35 rfl rfl ?_
        refine r_p dX12_ask_36 rfl rfl ?_
        refine r_p dX12_ask_37 rfl rfl ?_
        refine r_p dX12_ask_38 rfl rfl ?_
        obtain ⟨q4, kk⟩ := kk
        refine r_cv (d1 := 2) dX12_ask_39 cvX12_350 rfl rfl rfl rfl (Nat.le_of_ble_eq_true rfl) (Nat.le_of_ble_eq_true rfl) (Nat.le_of_ble_eq_true rfl) (c_m_kindOf p0 q4) ?_
        obtain ⟨q5, kk⟩ := kk
        refine r_cv (d1 := 3) dX12_ask_42 cvX12_367 rfl rfl rfl rfl (Nat.le_of_ble_eq_true rfl) (Nat.le_of_ble_eq_true rfl) (Nat.le_of_ble_eq_true rfl) (c_m_sizeOf p0 (x_m_kindOf (sF (sF T 571 0 0) 571 48 0) p0) q5) ?_
        refine r_eI (r' := (fun (T1 : St) => ((x_m_sizeOf (sF (sF T 571 0 0) 571 48 0) p0 (x_m_kindOf (sF (sF T 571 0 0) 571 48 0) p0)).1, T1)) ((x_m_sizeOf (sF (sF T 571 0 0) 571 48 0) p0 (x_m_kindOf (sF (sF T 571 0 0) 571 48 0) p0)).2)) (by unfold x_m_ask; rw [if_neg c10_1, if_neg c20_2, if_pos c32_3]) ?_
        generalize (x_m_sizeOf (sF (sF T 571 0 0) 571 48 0) p0 (x_m_kindOf (sF (sF T 571 0 0) 571 48 0) p0)).2 = T1 at ⊢
        refine r_go dX12_ask_45 rfl ?_
        exact r_eI (r' := ((x_m_sizeOf (sF (sF T 571 0 0) 571 48 0) p0 (x_m_kindOf (sF (sF T 571 0 0) 571 48 0) p0)).1, T1)) rfl (r_ri dX12_ask_58 rfl rfl rfl rfl)
    · refine r_k dX12_ask_23 kkX12_121 ?_
      exact r_eI (r' := ((-1000001), sF T 571 0 0)) (by unfold x_m_ask; rw [if_neg c10_1, if_pos c20_2]) (r_ri dX12_ask_25 rfl rfl rfl rfl)
def x_m_trace (T : St) (p0 : Int32) : Int32 × St := if (x_m_in (sF T 571 0 0) ((p0 : Int32).toInt64) 0 ((((sF T 571 0 0).1 571 48) - 1 : Int32).toInt64)) = 0 then ((-1000000), sF T 571 0 0) else ((sF T 571 0 0).2.2.1 601 (p0 : Int32).toNatClampNeg, sF T 571 0 0)
def ok_m_trace (T : St) (p0 : Int32) : Prop := (¬ (x_m_in (sF T 571 0 0) ((p0 : Int32).toInt64) 0 ((((sF T 571 0 0).1 571 48) - 1 : Int32).toInt64)) = 0 → (vp_in p0 16) ∧ True)
theorem c_m_trace {X : Nat × (Nat → Int32)} {T : St} (p0 : Int32) (kk : ok_m_trace T p0) : tC X 2 mX12_trace [.ref 571, .int p0] T (some (.int (x_m_trace T p0).1)) ((x_m_trace T p0).2) := by
  unfold ok_m_trace at kk
  refine tC_of ?_
  refine r_p dX12_trace_0 rfl rfl ?_
  refine r_ci (x := 0) dX12_trace_1 rfl ?_
  refine r_put dX12_trace_2 fkX12_101 rfl rfl rfl (Nat.le_of_ble_eq_true rfl) rfl rfl ?_
  refine r_p dX12_trace_5 rfl rfl ?_
  refine r_p dX12_trace_6 rfl rfl ?_
  refine r_cl (x := 0) dX12_trace_7 rfl ?_
  refine r_p dX12_trace_8 rfl rfl ?_
  refine r_get dX12_trace_9 fkX12_358 rfl rfl ?_
  refine r_ci (x := 1) dX12_trace_12 rfl ?_
  refine r_p dX12_trace_13 rfl rfl ?_
  refine r_p dX12_trace_14 rfl rfl ?_
  refine r_cs (d1 := 1) dX12_trace_15 csX12_111 rfl rfl (Nat.le_of_ble_eq_true rfl) (Nat.le_of_ble_eq_true rfl) (Nat.le_of_ble_eq_true rfl) (c_m_in ((p0 : Int32).toInt64) 0 ((((sF T 571 0 0).1 571 48) - 1 : Int32).toInt64)) ?_
  refine r_ieq dX12_trace_18 rfl (fun c18_1 => ?_) (fun c18_1 => ?_)
  · refine r_k dX12_trace_30 kkX12_137 ?_
    exact r_eI (r' := ((-1000000), sF T 571 0 0)) (by unfold x_m_trace; rw [if_pos c18_1]) (r_ri dX12_trace_32 rfl rfl rfl rfl)
  · have kk := kk c18_1
    refine r_p dX12_trace_21 rfl rfl ?_
    refine r_get dX12_trace_22 fkX12_98 rfl rfl ?_
    refine r_p dX12_trace_25 rfl rfl ?_
    obtain ⟨q1, kk⟩ := kk
    refine r_ia dX12_trace_26 rfl q1 ?_
    refine r_go dX12_trace_27 rfl ?_
    exact r_eI (r' := ((sF T 571 0 0).2.2.1 601 (p0 : Int32).toNatClampNeg, sF T 571 0 0)) (by unfold x_m_trace; rw [if_neg c18_1]) (r_ri dX12_trace_32 rfl rfl rfl rfl)
def x_m_count_58 (l1 : Int32) (K : Int32 → Int32 → St → Int32 × St) : Nat → Int32 → Int32 → St → Int32 × St
  | 0, _, _, T => (0, T)
  | f + 1, v2, v3, T => if 8 ≤ v3 then (K v2 v3 T) else (if (T.2.2.1 572 (v3 : Int32).toNatClampNeg) < 0 then (x_m_count_58 l1 K f (v2 + 0) (v3 + 1) T) else (x_m_count_58 l1 K f (v2 + 1) (v3 + 1) T))
def ok_m_count_58 (l1 : Int32) (Kk : Int32 → Int32 → St → Prop) : Nat → Int32 → Int32 → St → Prop
  | 0, _, _, _ => False
  | f + 1, v2, v3, T => ((8 ≤ v3 → Kk v2 v3 T) ∧ (¬ 8 ≤ v3 → (vp_in v3 8) ∧ (((T.2.2.1 572 (v3 : Int32).toNatClampNeg) < 0 → ok_m_count_58 l1 Kk f (v2 + 0) (v3 + 1) T) ∧ (¬ (T.2.2.1 572 (v3 : Int32).toNatClampNeg) < 0 → ok_m_count_58 l1 Kk f (v2 + 1) (v3 + 1) T))))
theorem c_m_count_58 {X : Nat × (Nat → Int32)} (l1 : Int32) {K : Int32 → Int32 → St → Int32 × St} {Kk : Int32 → Int32 → St → Prop} (hk : ∀ (v2 : Int32) (v3 : Int32) (T : St), Kk v2 v3 T → tR X 1 mX12_count 87 [some (.ref 571), some (.int l1), some (.int v2), some (.int v3)] [] T (some (.int (K v2 v3 T).1)) ((K v2 v3 T).2)) : ∀ (f : Nat) (v2 : Int32) (v3 : Int32) (T : St), ok_m_count_58 l1 Kk f v2 v3 T → tR X 1 mX12_count 58 [some (.ref 571), some (.int l1), some (.int v2), some (.int v3)] [] T (some (.int (x_m_count_58 l1 K f v2 v3 T).1)) ((x_m_count_58 l1 K f v2 v3 T).2) := by
  intro f
  induction f with
  | zero => intro v2 v3 T kk; exact kk.elim
  | succ f ih =>
    intro v2 v3 T kk
    rw [ok_m_count_58] at kk
    refine r_p dX12_count_58 rfl rfl ?_
    refine r_cb (x := 8) dX12_count_59 rfl ?_
    refine r_cge dX12_count_61 rfl (fun c61_2 => ?_) (fun c61_2 => ?_)
    · have kk := kk.1 c61_2
      show tR _ _ _ _ [some (.ref 571), some (.int l1), some (.int v2), some (.int v3)] _ _ _ _
      exact r_eI (r' := K v2 v3 T) (by rw [x_m_count_58]; rw [if_pos c61_2]) ((hk v2 v3 T kk))
    · have kk := kk.2 c61_2
      refine r_p dX12_count_64 rfl rfl ?_
      refine r_p dX12_count_65 rfl rfl ?_
      refine r_get dX12_count_66 fkX12_7 rfl rfl ?_
      refine r_p dX12_count_69 rfl rfl ?_
      obtain ⟨q1, kk⟩ := kk
      refine r_ia dX12_count_70 rfl q1 ?_
      refine r_ilt dX12_count_71 rfl (fun c71_3 => ?_) (fun c71_3 => ?_)
      · have kk := kk.1 c71_3
        refine r_ci (x := 0) dX12_count_78 rfl ?_
        refine r_p dX12_count_79 rfl rfl ?_
        refine r_p dX12_count_80 rfl rfl ?_
        refine r_inc (y := 1) dX12_count_81 rfl rfl rfl ?_
        refine r_go dX12_count_84 rfl ?_
        show tR _ _ _ _ [some (.ref 571), some (.int l1), some (.int (v2 + 0)), some (.int (v3 + 1))] _ _ _ _
        exact r_eI (r' := x_m_count_58 l1 K f (v2 + 0) (v3 + 1) T) (by rw [x_m_count_58]; rw [if_neg c61_2, if_pos c71_3]) ((ih (v2 + 0) (v3 + 1) T kk))
      · have kk := kk.2 c71_3
        refine r_ci (x := 1) dX12_count_74 rfl ?_
        refine r_go dX12_count_75 rfl ?_
        refine r_p dX12_count_79 rfl rfl ?_
        refine r_p dX12_count_80 rfl rfl ?_
        refine r_inc (y := 1) dX12_count_81 rfl rfl rfl ?_
        refine r_go dX12_count_84 rfl ?_
        show tR _ _ _ _ [some (.ref 571), some (.int l1), some (.int (v2 + 1)), some (.int (v3 + 1))] _ _ _ _
        exact r_eI (r' := x_m_count_58 l1 K f (v2 + 1) (v3 + 1) T) (by rw [x_m_count_58]; rw [if_neg c61_2, if_neg c71_3]) ((ih (v2 + 1) (v3 + 1) T kk))
def x_m_count_119 (l1 : Int32) (K : Int32 → Int32 → St → Int32 × St) : Nat → Int32 → Int32 → St → Int32 × St
  | 0, _, _, T => (0, T)
  | f + 1, v2, v3, T => if (T.2.2.1 575 (16 : Int32).toNatClampNeg) ≤ v3 then (K v2 v3 T) else (if (((T.2.2.1 575 (202 : Int32).toNatClampNeg) >>> (v3 &&& 31)) &&& 1) = 1 then (x_m_count_119 l1 K f (v2 + (x_m_dishOf T v3 3)) (v3 + 1) T) else (x_m_count_119 l1 K f (v2 + 0) (v3 + 1) T))
def ok_m_count_119 (l1 : Int32) (Kk : Int32 → Int32 → St → Prop) : Nat → Int32 → Int32 → St → Prop
  | 0, _, _, _ => False
  | f + 1, v2, v3, T => (vp_in 16 204) ∧ (((T.2.2.1 575 (16 : Int32).toNatClampNeg) ≤ v3 → Kk v2 v3 T) ∧ (¬ (T.2.2.1 575 (16 : Int32).toNatClampNeg) ≤ v3 → (vp_in 202 204) ∧ (((((T.2.2.1 575 (202 : Int32).toNatClampNeg) >>> (v3 &&& 31)) &&& 1) = 1 → (ok_m_dishOf T v3 3) ∧ ok_m_count_119 l1 Kk f (v2 + (x_m_dishOf T v3 3)) (v3 + 1) T) ∧ (¬ (((T.2.2.1 575 (202 : Int32).toNatClampNeg) >>> (v3 &&& 31)) &&& 1) = 1 → ok_m_count_119 l1 Kk f (v2 + 0) (v3 + 1) T))))
theorem c_m_count_119 {X : Nat × (Nat → Int32)} (l1 : Int32) {K : Int32 → Int32 → St → Int32 × St} {Kk : Int32 → Int32 → St → Prop} (hk : ∀ (v2 : Int32) (v3 : Int32) (T : St), Kk v2 v3 T → tR X 1 mX12_count 165 [some (.ref 571), some (.int l1), some (.int v2), some (.int v3)] [] T (some (.int (K v2 v3 T).1)) ((K v2 v3 T).2)) : ∀ (f : Nat) (v2 : Int32) (v3 : Int32) (T : St), ok_m_count_119 l1 Kk f v2 v3 T → tR X 1 mX12_count 119 [some (.ref 571), some (.int l1), some (.int v2), some (.int v3)] [] T (some (.int (x_m_count_119 l1 K f v2 v3 T).1)) ((x_m_count_119 l1 K f v2 v3 T).2) := by
  intro f
  induction f with
  | zero => intro v2 v3 T kk; exact kk.elim
  | succ f ih =>
    intro v2 v3 T kk
    rw [ok_m_count_119] at kk
    refine r_p dX12_count_119 rfl rfl ?_
    refine r_p dX12_count_120 rfl rfl ?_
    refine r_get dX12_count_121 fkX12_19 rfl rfl ?_
    refine r_cb (x := 16) dX12_count_124 rfl ?_
    obtain ⟨q6, kk⟩ := kk
    refine r_ia dX12_count_126 rfl q6 ?_
    refine r_cge dX12_count_127 rfl (fun c127_4 => ?_) (fun c127_4 => ?_)
    · have kk := kk.1 c127_4
      show tR _ _ _ _ [some (.ref 571), some (.int l1), some (.int v2), some (.int v3)] _ _ _ _
      exact r_eI (r' := K v2 v3 T) (by rw [x_m_count_119]; rw [if_pos c127_4]) ((hk v2 v3 T kk))
    · have kk := kk.2 c127_4
      refine r_p dX12_count_130 rfl rfl ?_
      refine r_p dX12_count_131 rfl rfl ?_
      refine r_get dX12_count_132 fkX12_19 rfl rfl ?_
      refine r_csi (x := 202) dX12_count_135 rfl ?_
      obtain ⟨q7, kk⟩ := kk
      refine r_ia dX12_count_138 rfl q7 ?_
      refine r_p dX12_count_139 rfl rfl ?_
      refine r_p dX12_count_140 rfl rfl ?_
      refine r_ci (x := 1) dX12_count_141 rfl ?_
      refine r_p dX12_count_142 rfl rfl ?_
      refine r_ci (x := 1) dX12_count_143 rfl ?_
      refine r_cne dX12_count_144 rfl (fun c144_5 => ?_) (fun c144_5 => ?_)
      · have kk := kk.2 c144_5
        refine r_ci (x := 0) dX12_count_156 rfl ?_
        refine r_p dX12_count_157 rfl rfl ?_
        refine r_p dX12_count_158 rfl rfl ?_
        refine r_inc (y := 1) dX12_count_159 rfl rfl rfl ?_
        refine r_go dX12_count_162 rfl ?_
        show tR _ _ _ _ [some (.ref 571), some (.int l1), some (.int (v2 + 0)), some (.int (v3 + 1))] _ _ _ _
        exact r_eI (r' := x_m_count_119 l1 K f (v2 + 0) (v3 + 1) T) (by rw [x_m_count_119]; rw [if_neg c127_4, if_neg c144_5]) ((ih (v2 + 0) (v3 + 1) T kk))
      · have kk := kk.1 c144_5
        refine r_p dX12_count_147 rfl rfl ?_
        refine r_p dX12_count_148 rfl rfl ?_
        refine r_ci (x := 3) dX12_count_149 rfl ?_
        obtain ⟨q8, kk⟩ := kk
        refine r_cv (d1 := 1) dX12_count_150 cvX12_228 rfl rfl rfl rfl (Nat.le_of_ble_eq_true rfl) (Nat.le_of_ble_eq_true rfl) (Nat.le_of_ble_eq_true rfl) (c_m_dishOf v3 3 q8) ?_
        refine r_go dX12_count_153 rfl ?_
        refine r_p dX12_count_157 rfl rfl ?_
        refine r_p dX12_count_158 rfl rfl ?_
        refine r_inc (y := 1) dX12_count_159 rfl rfl rfl ?_
        refine r_go dX12_count_162 rfl ?_
        show tR _ _ _ _ [some (.ref 571), some (.int l1), some (.int (v2 + (x_m_dishOf T v3 3))), some (.int (v3 + 1))] _ _ _ _
        exact r_eI (r' := x_m_count_119 l1 K f (v2 + (x_m_dishOf T v3 3)) (v3 + 1) T) (by rw [x_m_count_119]; rw [if_neg c127_4, if_pos c144_5]) ((ih (v2 + (x_m_dishOf T v3 3)) (v3 + 1) T kk))
def x_m_count (T : St) (p0 : Int32) : Int32 × St := if p0 = 0 then (x_m_count_58 p0 (fun (w1_2 : Int32) (w1_3 : Int32) (T201 : St) => (w1_2, T201)) 1000 0 0 (sF T 571 0 0)) else (if p0 = 1 then ((sF T 571 0 0).2.2.1 575 (16 : Int32).toNatClampNeg, sF T 571 0 0) else (if p0 = 2 then ((sF T 571 0 0).2.2.1 575 (17 : Int32).toNatClampNeg, sF T 571 0 0) else (if p0 = 3 then (x_m_bits (sF T 571 0 0) ((sF T 571 0 0).2.2.1 575 (202 : Int32).toNatClampNeg), sF T 571 0 0) else (if p0 = 4 then (x_m_count_119 p0 (fun (w2_2 : Int32) (w2_3 : Int32) (T202 : St) => (w2_2, T202)) 1000 0 0 (sF T 571 0 0)) else (if p0 = 5 then ((sF T 571 0 0).2.2.1 575 (7 : Int32).toNatClampNeg, sF T 571 0 0) else (if p0 = 6 then ((sF T 571 0 0).1 571 9, sF T 571 0 0) else (if p0 = 7 then (if ((sF T 571 0 0).1 571 7) = 0 then (60, sF T 571 0 0) else ((sF T 571 0 0).2.2.1 575 (203 : Int32).toNatClampNeg, sF T 571 0 0)) else ((-1000001), sF T 571 0 0))))))))
def ok_m_count (T : St) (p0 : Int32) : Prop := ((p0 = 0 → ok_m_count_58 p0 (fun (w1_2 : Int32) (w1_3 : Int32) (T201 : St) => True) 1000 0 0 (sF T 571 0 0)) ∧ (¬ p0 = 0 → ((p0 = 1 → (vp_in 16 204) ∧ True) ∧ (¬ p0 = 1 → ((p0 = 2 → (vp_in 17 204) ∧ True) ∧ (¬ p0 = 2 → ((p0 = 3 → (vp_in 202 204) ∧ (ok_m_bits (sF T 571 0 0) ((sF T 571 0 0).2.2.1 575 (202 : Int32).toNatClampNeg)) ∧ True) ∧ (¬ p0 = 3 → ((p0 = 4 → ok_m_count_119 p0 (fun (w2_2 : Int32) (w2_3 : Int32) (T202 : St) => True) 1000 0 0 (sF T 571 0 0)) ∧ (¬ p0 = 4 → ((p0 = 5 → (vp_in 7 204) ∧ True) ∧ (¬ p0 = 5 → (¬ p0 = 6 → (p0 = 7 → (¬ ((sF T 571 0 0).1 571 7) = 0 → (vp_in 203 204) ∧ True)))))))))))))))
theorem c_m_count {X : Nat × (Nat → Int32)} {T : St} (p0 : Int32) (kk : ok_m_count T p0) : tC X 2 mX12_count [.ref 571, .int p0] T (some (.int (x_m_count T p0).1)) ((x_m_count T p0).2) := by
  unfold ok_m_count at kk
  refine tC_of ?_
  refine r_p dX12_count_0 rfl rfl ?_
  refine r_ci (x := 0) dX12_count_1 rfl ?_
  refine r_put dX12_count_2 fkX12_101 rfl rfl rfl (Nat.le_of_ble_eq_true rfl) rfl rfl ?_
  refine r_ci (x := 0) dX12_count_5 rfl ?_
  refine r_p dX12_count_6 rfl rfl ?_
  refine r_p dX12_count_7 rfl rfl ?_
  by_cases s8_1_0 : p0 = 0
  · have kk := kk.1 s8_1_0
    refine r_tin dX12_count_8 (by rw [s8_1_0]; decide) (by rw [s8_1_0]; decide) (off := 48) (by rw [s8_1_0]; rfl) rfl ?_
    refine r_ci (x := 0) dX12_count_56 rfl ?_
    refine r_p dX12_count_57 rfl rfl ?_
    show tR _ _ _ _ [some (.ref 571), some (.int p0), some (.int 0), some (.int 0)] _ _ _ _
    refine r_eI (r' := x_m_count_58 p0 (fun (w1_2 : Int32) (w1_3 : Int32) (T201 : St) => (w1_2, T201)) 1000 0 0 (sF T 571 0 0)) (by unfold x_m_count; rw [if_pos s8_1_0]) ((c_m_count_58 p0 (fun w1_2 w1_3 T201 kk => ?_) 1000 0 0 (sF T 571 0 0) kk))
    · refine r_p dX12_count_87 rfl rfl ?_
      exact r_eI (r' := (w1_2, T201)) rfl (r_ri dX12_count_88 rfl rfl rfl rfl)
  · have kk := kk.2 s8_1_0
    by_cases s8_1_1 : p0 = 1
    · have kk := kk.1 s8_1_1
      refine r_tin dX12_count_8 (by rw [s8_1_1]; decide) (by rw [s8_1_1]; decide) (off := 81) (by rw [s8_1_1]; rfl) rfl ?_
      refine r_p dX12_count_89 rfl rfl ?_
      refine r_get dX12_count_90 fkX12_19 rfl rfl ?_
      refine r_cb (x := 16) dX12_count_93 rfl ?_
      obtain ⟨q2, kk⟩ := kk
      refine r_ia dX12_count_95 rfl q2 ?_
      exact r_eI (r' := ((sF T 571 0 0).2.2.1 575 (16 : Int32).toNatClampNeg, sF T 571 0 0)) (by unfold x_m_count; rw [if_neg s8_1_0, if_pos s8_1_1]) (r_ri dX12_count_96 rfl rfl rfl rfl)
    · have kk := kk.2 s8_1_1
      by_cases s8_1_2 : p0 = 2
      · have kk := kk.1 s8_1_2
        refine r_tin dX12_count_8 (by rw [s8_1_2]; decide) (by rw [s8_1_2]; decide) (off := 89) (by rw [s8_1_2]; rfl) rfl ?_
        refine r_p dX12_count_97 rfl rfl ?_
        refine r_get dX12_count_98 fkX12_19 rfl rfl ?_
        refine r_cb (x := 17) dX12_count_101 rfl ?_
        obtain ⟨q3, kk⟩ := kk
        refine r_ia dX12_count_103 rfl q3 ?_
        exact r_eI (r' := ((sF T 571 0 0).2.2.1 575 (17 : Int32).toNatClampNeg, sF T 571 0 0)) (by unfold x_m_count; rw [if_neg s8_1_0, if_neg s8_1_1, if_pos s8_1_2]) (r_ri dX12_count_104 rfl rfl rfl rfl)
      · have kk := kk.2 s8_1_2
        by_cases s8_1_3 : p0 = 3
        · have kk := kk.1 s8_1_3
          refine r_tin dX12_count_8 (by rw [s8_1_3]; decide) (by rw [s8_1_3]; decide) (off := 97) (by rw [s8_1_3]; rfl) rfl ?_
          refine r_p dX12_count_105 rfl rfl ?_
          refine r_get dX12_count_106 fkX12_19 rfl rfl ?_
          refine r_csi (x := 202) dX12_count_109 rfl ?_
          obtain ⟨q4, kk⟩ := kk
          refine r_ia dX12_count_112 rfl q4 ?_
          obtain ⟨q5, kk⟩ := kk
          refine r_cs (d1 := 1) dX12_count_113 csX12_263 rfl rfl (Nat.le_of_ble_eq_true rfl) (Nat.le_of_ble_eq_true rfl) (Nat.le_of_ble_eq_true rfl) (c_m_bits ((sF T 571 0 0).2.2.1 575 (202 : Int32).toNatClampNeg) q5) ?_
          exact r_eI (r' := (x_m_bits (sF T 571 0 0) ((sF T 571 0 0).2.2.1 575 (202 : Int32).toNatClampNeg), sF T 571 0 0)) (by unfold x_m_count; rw [if_neg s8_1_0, if_neg s8_1_1, if_neg s8_1_2, if_pos s8_1_3]) (r_ri dX12_count_116 rfl rfl rfl rfl)
        · have kk := kk.2 s8_1_3
          by_cases s8_1_4 : p0 = 4
          · have kk := kk.1 s8_1_4
            refine r_tin dX12_count_8 (by rw [s8_1_4]; decide) (by rw [s8_1_4]; decide) (off := 109) (by rw [s8_1_4]; rfl) rfl ?_
            refine r_ci (x := 0) dX12_count_117 rfl ?_
            refine r_p dX12_count_118 rfl rfl ?_
            show tR _ _ _ _ [some (.ref 571), some (.int p0), some (.int 0), some (.int 0)] _ _ _ _
            refine r_eI (r' := x_m_count_119 p0 (fun (w2_2 : Int32) (w2_3 : Int32) (T202 : St) => (w2_2, T202)) 1000 0 0 (sF T 571 0 0)) (by unfold x_m_count; rw [if_neg s8_1_0, if_neg s8_1_1, if_neg s8_1_2, if_neg s8_1_3, if_pos s8_1_4]) ((c_m_count_119 p0 (fun w2_2 w2_3 T202 kk => ?_) 1000 0 0 (sF T 571 0 0) kk))
            · refine r_p dX12_count_165 rfl rfl ?_
              exact r_eI (r' := (w2_2, T202)) rfl (r_ri dX12_count_166 rfl rfl rfl rfl)
          · have kk := kk.2 s8_1_4
            by_cases s8_1_5 : p0 = 5
            · have kk := kk.1 s8_1_5
              refine r_tin dX12_count_8 (by rw [s8_1_5]; decide) (by rw [s8_1_5]; decide) (off := 159) (by rw [s8_1_5]; rfl) rfl ?_
              refine r_p dX12_count_167 rfl rfl ?_
              refine r_get dX12_count_168 fkX12_19 rfl rfl ?_
              refine r_cb (x := 7) dX12_count_171 rfl ?_
              obtain ⟨q9, kk⟩ := kk
              refine r_ia dX12_count_173 rfl q9 ?_
              exact r_eI (r' := ((sF T 571 0 0).2.2.1 575 (7 : Int32).toNatClampNeg, sF T 571 0 0)) (by unfold x_m_count; rw [if_neg s8_1_0, if_neg s8_1_1, if_neg s8_1_2, if_neg s8_1_3, if_neg s8_1_4, if_pos s8_1_5]) (r_ri dX12_count_174 rfl rfl rfl rfl)
            · have kk := kk.2 s8_1_5
              by_cases s8_1_6 : p0 = 6
              · refine r_tin dX12_count_8 (by rw [s8_1_6]; decide) (by rw [s8_1_6]; decide) (off := 167) (by rw [s8_1_6]; rfl) rfl ?_
                refine r_p dX12_count_175 rfl rfl ?_
                refine r_get dX12_count_176 fkX12_128 rfl rfl ?_
                exact r_eI (r' := ((sF T 571 0 0).1 571 9, sF T 571 0 0)) (by unfold x_m_count; rw [if_neg s8_1_0, if_neg s8_1_1, if_neg s8_1_2, if_neg s8_1_3, if_neg s8_1_4, if_neg s8_1_5, if_pos s8_1_6]) (r_ri dX12_count_179 rfl rfl rfl rfl)
              · have kk := kk s8_1_6
                by_cases s8_1_7 : p0 = 7
                · have kk := kk s8_1_7
                  refine r_tin dX12_count_8 (by rw [s8_1_7]; decide) (by rw [s8_1_7]; decide) (off := 172) (by rw [s8_1_7]; rfl) rfl ?_
                  refine r_p dX12_count_180 rfl rfl ?_
                  refine r_get dX12_count_181 fkX12_221 rfl rfl ?_
                  refine r_ieq dX12_count_184 rfl (fun c184_6 => ?_) (fun c184_6 => ?_)
                  · refine r_cb (x := 60) dX12_count_198 rfl ?_
                    exact r_eI (r' := (60, sF T 571 0 0)) (by unfold x_m_count; rw [if_neg s8_1_0, if_neg s8_1_1, if_neg s8_1_2, if_neg s8_1_3, if_neg s8_1_4, if_neg s8_1_5, if_neg s8_1_6, if_pos s8_1_7, if_pos c184_6]) (r_ri dX12_count_200 rfl rfl rfl rfl)
                  · have kk := kk c184_6
                    refine r_p dX12_count_187 rfl rfl ?_
                    refine r_get dX12_count_188 fkX12_19 rfl rfl ?_
                    refine r_csi (x := 203) dX12_count_191 rfl ?_
                    obtain ⟨q10, kk⟩ := kk
                    refine r_ia dX12_count_194 rfl q10 ?_
                    refine r_go dX12_count_195 rfl ?_
                    exact r_eI (r' := ((sF T 571 0 0).2.2.1 575 (203 : Int32).toNatClampNeg, sF T 571 0 0)) (by unfold x_m_count; rw [if_neg s8_1_0, if_neg s8_1_1, if_neg s8_1_2, if_neg s8_1_3, if_neg s8_1_4, if_neg s8_1_5, if_neg s8_1_6, if_pos s8_1_7, if_neg c184_6]) (r_ri dX12_count_200 rfl rfl rfl rfl)
                · refine r_tout dX12_count_8 (by have := i_rg (p0); simp only [i_eq, i_0, i_1, i_2, i_3, i_4, i_5, i_6, i_7] at s8_1_0 s8_1_1 s8_1_2 s8_1_3 s8_1_4 s8_1_5 s8_1_6 s8_1_7; omega) rfl ?_
                  refine r_k dX12_count_201 kkX12_121 ?_
                  exact r_eI (r' := ((-1000001), sF T 571 0 0)) (by unfold x_m_count; rw [if_neg s8_1_0, if_neg s8_1_1, if_neg s8_1_2, if_neg s8_1_3, if_neg s8_1_4, if_neg s8_1_5, if_neg s8_1_6, if_neg s8_1_7]) (r_ri dX12_count_203 rfl rfl rfl rfl)
def x_m_status (T : St)  : Int32 × St := ((sF T 571 0 0).1 571 1, sF T 571 0 0)
theorem c_m_status {X : Nat × (Nat → Int32)} {T : St}  : tC X 1 mX12_status [.ref 571] T (some (.int (x_m_status T).1)) ((x_m_status T).2) := by
  refine tC_of ?_
  refine r_p dX12_status_0 rfl rfl ?_
  refine r_ci (x := 0) dX12_status_1 rfl ?_
  refine r_put dX12_status_2 fkX12_101 rfl rfl rfl (Nat.le_of_ble_eq_true rfl) rfl rfl ?_
  refine r_p dX12_status_5 rfl rfl ?_
  refine r_get dX12_status_6 fkX12_105 rfl rfl ?_
  exact r_eI (r' := ((sF T 571 0 0).1 571 1, sF T 571 0 0)) (by unfold x_m_status; rfl) (r_ri dX12_status_9 rfl rfl rfl rfl)
def x_J_bitCount (T : St) (p0 : Int32) : Int32 := (((((((p0 - ((((p0 : Int32).toUInt32 >>> ((1 : Int32).toUInt32 &&& Int32.toUInt32 31)).toInt32) &&& 1431655765)) &&& 858993459) + ((((p0 - ((((p0 : Int32).toUInt32 >>> ((1 : Int32).toUInt32 &&& Int32.toUInt32 31)).toInt32) &&& 1431655765) : Int32).toUInt32 >>> ((2 : Int32).toUInt32 &&& Int32.toUInt32 31)).toInt32) &&& 858993459)) + (((((p0 - ((((p0 : Int32).toUInt32 >>> ((1 : Int32).toUInt32 &&& Int32.toUInt32 31)).toInt32) &&& 1431655765)) &&& 858993459) + ((((p0 - ((((p0 : Int32).toUInt32 >>> ((1 : Int32).toUInt32 &&& Int32.toUInt32 31)).toInt32) &&& 1431655765) : Int32).toUInt32 >>> ((2 : Int32).toUInt32 &&& Int32.toUInt32 31)).toInt32) &&& 858993459) : Int32).toUInt32 >>> ((4 : Int32).toUInt32 &&& Int32.toUInt32 31)).toInt32)) &&& 252645135) + (((((((p0 - ((((p0 : Int32).toUInt32 >>> ((1 : Int32).toUInt32 &&& Int32.toUInt32 31)).toInt32) &&& 1431655765)) &&& 858993459) + ((((p0 - ((((p0 : Int32).toUInt32 >>> ((1 : Int32).toUInt32 &&& Int32.toUInt32 31)).toInt32) &&& 1431655765) : Int32).toUInt32 >>> ((2 : Int32).toUInt32 &&& Int32.toUInt32 31)).toInt32) &&& 858993459)) + (((((p0 - ((((p0 : Int32).toUInt32 >>> ((1 : Int32).toUInt32 &&& Int32.toUInt32 31)).toInt32) &&& 1431655765)) &&& 858993459) + ((((p0 - ((((p0 : Int32).toUInt32 >>> ((1 : Int32).toUInt32 &&& Int32.toUInt32 31)).toInt32) &&& 1431655765) : Int32).toUInt32 >>> ((2 : Int32).toUInt32 &&& Int32.toUInt32 31)).toInt32) &&& 858993459) : Int32).toUInt32 >>> ((4 : Int32).toUInt32 &&& Int32.toUInt32 31)).toInt32)) &&& 252645135 : Int32).toUInt32 >>> ((8 : Int32).toUInt32 &&& Int32.toUInt32 31)).toInt32)) + ((((((((p0 - ((((p0 : Int32).toUInt32 >>> ((1 : Int32).toUInt32 &&& Int32.toUInt32 31)).toInt32) &&& 1431655765)) &&& 858993459) + ((((p0 - ((((p0 : Int32).toUInt32 >>> ((1 : Int32).toUInt32 &&& Int32.toUInt32 31)).toInt32) &&& 1431655765) : Int32).toUInt32 >>> ((2 : Int32).toUInt32 &&& Int32.toUInt32 31)).toInt32) &&& 858993459)) + (((((p0 - ((((p0 : Int32).toUInt32 >>> ((1 : Int32).toUInt32 &&& Int32.toUInt32 31)).toInt32) &&& 1431655765)) &&& 858993459) + ((((p0 - ((((p0 : Int32).toUInt32 >>> ((1 : Int32).toUInt32 &&& Int32.toUInt32 31)).toInt32) &&& 1431655765) : Int32).toUInt32 >>> ((2 : Int32).toUInt32 &&& Int32.toUInt32 31)).toInt32) &&& 858993459) : Int32).toUInt32 >>> ((4 : Int32).toUInt32 &&& Int32.toUInt32 31)).toInt32)) &&& 252645135) + (((((((p0 - ((((p0 : Int32).toUInt32 >>> ((1 : Int32).toUInt32 &&& Int32.toUInt32 31)).toInt32) &&& 1431655765)) &&& 858993459) + ((((p0 - ((((p0 : Int32).toUInt32 >>> ((1 : Int32).toUInt32 &&& Int32.toUInt32 31)).toInt32) &&& 1431655765) : Int32).toUInt32 >>> ((2 : Int32).toUInt32 &&& Int32.toUInt32 31)).toInt32) &&& 858993459)) + (((((p0 - ((((p0 : Int32).toUInt32 >>> ((1 : Int32).toUInt32 &&& Int32.toUInt32 31)).toInt32) &&& 1431655765)) &&& 858993459) + ((((p0 - ((((p0 : Int32).toUInt32 >>> ((1 : Int32).toUInt32 &&& Int32.toUInt32 31)).toInt32) &&& 1431655765) : Int32).toUInt32 >>> ((2 : Int32).toUInt32 &&& Int32.toUInt32 31)).toInt32) &&& 858993459) : Int32).toUInt32 >>> ((4 : Int32).toUInt32 &&& Int32.toUInt32 31)).toInt32)) &&& 252645135 : Int32).toUInt32 >>> ((8 : Int32).toUInt32 &&& Int32.toUInt32 31)).toInt32) : Int32).toUInt32 >>> ((16 : Int32).toUInt32 &&& Int32.toUInt32 31)).toInt32)) &&& 63
theorem c_J_bitCount {X : Nat × (Nat → Int32)} {T : St} (p0 : Int32) : tC X 1 mJ6_bitCount_0f7a4 [.int p0] T (some (.int (x_J_bitCount T p0))) T := by
  refine tC_of ?_
  refine r_p dJ6_bitCount_0f7a4_0 rfl rfl ?_
  refine r_p dJ6_bitCount_0f7a4_1 rfl rfl ?_
  refine r_ci (x := 1) dJ6_bitCount_0f7a4_2 rfl ?_
  refine r_p dJ6_bitCount_0f7a4_3 rfl rfl ?_
  refine r_kw dJ6_bitCount_0f7a4_4 kkJ6_265 ?_
  refine r_p dJ6_bitCount_0f7a4_7 rfl rfl ?_
  refine r_p dJ6_bitCount_0f7a4_8 rfl rfl ?_
  refine r_p dJ6_bitCount_0f7a4_9 rfl rfl ?_
  refine r_p dJ6_bitCount_0f7a4_10 rfl rfl ?_
  refine r_kw dJ6_bitCount_0f7a4_11 kkJ6_266 ?_
  refine r_p dJ6_bitCount_0f7a4_14 rfl rfl ?_
  refine r_p dJ6_bitCount_0f7a4_15 rfl rfl ?_
  refine r_ci (x := 2) dJ6_bitCount_0f7a4_16 rfl ?_
  refine r_p dJ6_bitCount_0f7a4_17 rfl rfl ?_
  refine r_kw dJ6_bitCount_0f7a4_18 kkJ6_266 ?_
  refine r_p dJ6_bitCount_0f7a4_21 rfl rfl ?_
  refine r_p dJ6_bitCount_0f7a4_22 rfl rfl ?_
  refine r_p dJ6_bitCount_0f7a4_23 rfl rfl ?_
  refine r_p dJ6_bitCount_0f7a4_24 rfl rfl ?_
  refine r_p dJ6_bitCount_0f7a4_25 rfl rfl ?_
  refine r_ci (x := 4) dJ6_bitCount_0f7a4_26 rfl ?_
  refine r_p dJ6_bitCount_0f7a4_27 rfl rfl ?_
  refine r_p dJ6_bitCount_0f7a4_28 rfl rfl ?_
  refine r_kw dJ6_bitCount_0f7a4_29 kkJ6_267 ?_
  refine r_p dJ6_bitCount_0f7a4_32 rfl rfl ?_
  refine r_p dJ6_bitCount_0f7a4_33 rfl rfl ?_
  refine r_p dJ6_bitCount_0f7a4_34 rfl rfl ?_
  refine r_p dJ6_bitCount_0f7a4_35 rfl rfl ?_
  refine r_cb (x := 8) dJ6_bitCount_0f7a4_36 rfl ?_
  refine r_p dJ6_bitCount_0f7a4_38 rfl rfl ?_
  refine r_p dJ6_bitCount_0f7a4_39 rfl rfl ?_
  refine r_p dJ6_bitCount_0f7a4_40 rfl rfl ?_
  refine r_p dJ6_bitCount_0f7a4_41 rfl rfl ?_
  refine r_p dJ6_bitCount_0f7a4_42 rfl rfl ?_
  refine r_cb (x := 16) dJ6_bitCount_0f7a4_43 rfl ?_
  refine r_p dJ6_bitCount_0f7a4_45 rfl rfl ?_
  refine r_p dJ6_bitCount_0f7a4_46 rfl rfl ?_
  refine r_p dJ6_bitCount_0f7a4_47 rfl rfl ?_
  refine r_p dJ6_bitCount_0f7a4_48 rfl rfl ?_
  refine r_cb (x := 63) dJ6_bitCount_0f7a4_49 rfl ?_
  refine r_p dJ6_bitCount_0f7a4_51 rfl rfl ?_
  exact r_eIp (r' := ((((((((p0 - ((((p0 : Int32).toUInt32 >>> ((1 : Int32).toUInt32 &&& Int32.toUInt32 31)).toInt32) &&& 1431655765)) &&& 858993459) + ((((p0 - ((((p0 : Int32).toUInt32 >>> ((1 : Int32).toUInt32 &&& Int32.toUInt32 31)).toInt32) &&& 1431655765) : Int32).toUInt32 >>> ((2 : Int32).toUInt32 &&& Int32.toUInt32 31)).toInt32) &&& 858993459)) + (((((p0 - ((((p0 : Int32).toUInt32 >>> ((1 : Int32).toUInt32 &&& Int32.toUInt32 31)).toInt32) &&& 1431655765)) &&& 858993459) + ((((p0 - ((((p0 : Int32).toUInt32 >>> ((1 : Int32).toUInt32 &&& Int32.toUInt32 31)).toInt32) &&& 1431655765) : Int32).toUInt32 >>> ((2 : Int32).toUInt32 &&& Int32.toUInt32 31)).toInt32) &&& 858993459) : Int32).toUInt32 >>> ((4 : Int32).toUInt32 &&& Int32.toUInt32 31)).toInt32)) &&& 252645135) + (((((((p0 - ((((p0 : Int32).toUInt32 >>> ((1 : Int32).toUInt32 &&& Int32.toUInt32 31)).toInt32) &&& 1431655765)) &&& 858993459) + ((((p0 - ((((p0 : Int32).toUInt32 >>> ((1 : Int32).toUInt32 &&& Int32.toUInt32 31)).toInt32) &&& 1431655765) : Int32).toUInt32 >>> ((2 : Int32).toUInt32 &&& Int32.toUInt32 31)).toInt32) &&& 858993459)) + (((((p0 - ((((p0 : Int32).toUInt32 >>> ((1 : Int32).toUInt32 &&& Int32.toUInt32 31)).toInt32) &&& 1431655765)) &&& 858993459) + ((((p0 - ((((p0 : Int32).toUInt32 >>> ((1 : Int32).toUInt32 &&& Int32.toUInt32 31)).toInt32) &&& 1431655765) : Int32).toUInt32 >>> ((2 : Int32).toUInt32 &&& Int32.toUInt32 31)).toInt32) &&& 858993459) : Int32).toUInt32 >>> ((4 : Int32).toUInt32 &&& Int32.toUInt32 31)).toInt32)) &&& 252645135 : Int32).toUInt32 >>> ((8 : Int32).toUInt32 &&& Int32.toUInt32 31)).toInt32)) + ((((((((p0 - ((((p0 : Int32).toUInt32 >>> ((1 : Int32).toUInt32 &&& Int32.toUInt32 31)).toInt32) &&& 1431655765)) &&& 858993459) + ((((p0 - ((((p0 : Int32).toUInt32 >>> ((1 : Int32).toUInt32 &&& Int32.toUInt32 31)).toInt32) &&& 1431655765) : Int32).toUInt32 >>> ((2 : Int32).toUInt32 &&& Int32.toUInt32 31)).toInt32) &&& 858993459)) + (((((p0 - ((((p0 : Int32).toUInt32 >>> ((1 : Int32).toUInt32 &&& Int32.toUInt32 31)).toInt32) &&& 1431655765)) &&& 858993459) + ((((p0 - ((((p0 : Int32).toUInt32 >>> ((1 : Int32).toUInt32 &&& Int32.toUInt32 31)).toInt32) &&& 1431655765) : Int32).toUInt32 >>> ((2 : Int32).toUInt32 &&& Int32.toUInt32 31)).toInt32) &&& 858993459) : Int32).toUInt32 >>> ((4 : Int32).toUInt32 &&& Int32.toUInt32 31)).toInt32)) &&& 252645135) + (((((((p0 - ((((p0 : Int32).toUInt32 >>> ((1 : Int32).toUInt32 &&& Int32.toUInt32 31)).toInt32) &&& 1431655765)) &&& 858993459) + ((((p0 - ((((p0 : Int32).toUInt32 >>> ((1 : Int32).toUInt32 &&& Int32.toUInt32 31)).toInt32) &&& 1431655765) : Int32).toUInt32 >>> ((2 : Int32).toUInt32 &&& Int32.toUInt32 31)).toInt32) &&& 858993459)) + (((((p0 - ((((p0 : Int32).toUInt32 >>> ((1 : Int32).toUInt32 &&& Int32.toUInt32 31)).toInt32) &&& 1431655765)) &&& 858993459) + ((((p0 - ((((p0 : Int32).toUInt32 >>> ((1 : Int32).toUInt32 &&& Int32.toUInt32 31)).toInt32) &&& 1431655765) : Int32).toUInt32 >>> ((2 : Int32).toUInt32 &&& Int32.toUInt32 31)).toInt32) &&& 858993459) : Int32).toUInt32 >>> ((4 : Int32).toUInt32 &&& Int32.toUInt32 31)).toInt32)) &&& 252645135 : Int32).toUInt32 >>> ((8 : Int32).toUInt32 &&& Int32.toUInt32 31)).toInt32) : Int32).toUInt32 >>> ((16 : Int32).toUInt32 &&& Int32.toUInt32 31)).toInt32)) &&& 63)) (by unfold x_J_bitCount; rfl) (r_ri dJ6_bitCount_0f7a4_52 rfl rfl rfl rfl)
def x_bk_given (T : St) (a : Nat) (p0 : Int32) (p1 : Int32) : Int32 := jn (fun (KJ1 : Int32 → Int32) => if p0 < (T.1 a 18) then (KJ1 0) else (KJ1 1)) (fun (j1_s0 : Int32) => if p1 = 0 then ((T.2.2.1 (a + 1) (0 : Int32).toNatClampNeg) + (T.2.2.1 (a + 1) (1 : Int32).toNatClampNeg)) - j1_s0 else (if p1 = 1 then (T.2.2.1 (a + 1) (1 : Int32).toNatClampNeg) - j1_s0 else (if p1 = 2 then (T.2.2.1 (a + 1) (2 : Int32).toNatClampNeg) else (if p1 = 3 then (if 0 < (T.2.2.1 (a + 1) (5 : Int32).toNatClampNeg) - (x_bk_awayAt T a p0) then (T.2.2.1 (a + 1) (5 : Int32).toNatClampNeg) - (x_bk_awayAt T a p0) else 0 : Int32) else (T.2.2.1 (a + 1) (6 : Int32).toNatClampNeg)))))
def ok_bk_given (T : St) (a : Nat) (p0 : Int32) (p1 : Int32) : Prop := (sh a = .inr 1) ∧ jn (fun (OJ1 : Int32 → Prop) => ((p0 < (T.1 a 18) → OJ1 0) ∧ (¬ p0 < (T.1 a 18) → OJ1 1))) (fun (j1_s0 : Int32) => ((p1 = 0 → (sh a = .inr 1) ∧ (sh (a + 1) = .inl (0, 7)) ∧ (vp_in 0 7) ∧ (vp_in 1 7) ∧ True) ∧ (¬ p1 = 0 → ((p1 = 1 → (sh a = .inr 1) ∧ (sh (a + 1) = .inl (0, 7)) ∧ (vp_in 1 7) ∧ True) ∧ (¬ p1 = 1 → ((p1 = 2 → (sh a = .inr 1) ∧ (sh (a + 1) = .inl (0, 7)) ∧ (vp_in 2 7) ∧ True) ∧ (¬ p1 = 2 → ((p1 = 3 → (sh a = .inr 1) ∧ (sh (a + 1) = .inl (0, 7)) ∧ (vp_in 5 7) ∧ (ok_bk_awayAt T a p0) ∧ True) ∧ (¬ p1 = 3 → (sh a = .inr 1) ∧ (sh (a + 1) = .inl (0, 7)) ∧ (vp_in 6 7) ∧ True)))))))))
theorem c_bk_given {X : Nat × (Nat → Int32)} {T : St} (a : Nat) (p0 : Int32) (p1 : Int32) (kk : ok_bk_given T a p0 p1) : tC X 2 mX1_given [.ref a, .int p0, .int p1] T (some (.int (x_bk_given T a p0 p1))) T := by
  unfold ok_bk_given at kk
  refine tC_of ?_
  refine r_p dX1_given_0 rfl rfl ?_
  refine r_p dX1_given_1 rfl rfl ?_
  obtain ⟨q1, kk⟩ := kk
  refine r_get dX1_given_2 fkX1_54 q1 rfl ?_
  obtain ⟨KJ1, hKJ1⟩ : ∃ q : Int32 → Int32, q = (fun (j1_s0 : Int32) => if p1 = 0 then ((T.2.2.1 (a + 1) (0 : Int32).toNatClampNeg) + (T.2.2.1 (a + 1) (1 : Int32).toNatClampNeg)) - j1_s0 else (if p1 = 1 then (T.2.2.1 (a + 1) (1 : Int32).toNatClampNeg) - j1_s0 else (if p1 = 2 then (T.2.2.1 (a + 1) (2 : Int32).toNatClampNeg) else (if p1 = 3 then (if 0 < (T.2.2.1 (a + 1) (5 : Int32).toNatClampNeg) - (x_bk_awayAt T a p0) then (T.2.2.1 (a + 1) (5 : Int32).toNatClampNeg) - (x_bk_awayAt T a p0) else 0 : Int32) else (T.2.2.1 (a + 1) (6 : Int32).toNatClampNeg))))) := ⟨_, rfl⟩
  obtain ⟨OJ1, hOJ1⟩ : ∃ q : Int32 → Prop, q = (fun (j1_s0 : Int32) => ((p1 = 0 → (sh a = .inr 1) ∧ (sh (a + 1) = .inl (0, 7)) ∧ (vp_in 0 7) ∧ (vp_in 1 7) ∧ True) ∧ (¬ p1 = 0 → ((p1 = 1 → (sh a = .inr 1) ∧ (sh (a + 1) = .inl (0, 7)) ∧ (vp_in 1 7) ∧ True) ∧ (¬ p1 = 1 → ((p1 = 2 → (sh a = .inr 1) ∧ (sh (a + 1) = .inl (0, 7)) ∧ (vp_in 2 7) ∧ True) ∧ (¬ p1 = 2 → ((p1 = 3 → (sh a = .inr 1) ∧ (sh (a + 1) = .inl (0, 7)) ∧ (vp_in 5 7) ∧ (ok_bk_awayAt T a p0) ∧ True) ∧ (¬ p1 = 3 → (sh a = .inr 1) ∧ (sh (a + 1) = .inl (0, 7)) ∧ (vp_in 6 7) ∧ True))))))))) := ⟨_, rfl⟩
  rw [← hOJ1] at kk
  simp only [jn] at kk
  have hJ1 : ∀ (j1_s0 : Int32), OJ1 j1_s0 → tR X 1 mX1_given 13 [some (.ref a), some (.int p0), some (.int p1), none] [.int j1_s0] T (some (.int (KJ1 j1_s0))) T := by
    intro j1_s0 kk
    rw [hOJ1] at kk
    try dsimp only at kk
    rw [hKJ1]
    refine r_p dX1_given_13 rfl rfl ?_
    refine r_p dX1_given_14 rfl rfl ?_
    by_cases s15_2_0 : p1 = 0
    · have kk := kk.1 s15_2_0
      refine r_tin dX1_given_15 (by rw [s15_2_0]; decide) (by rw [s15_2_0]; decide) (off := 29) (by rw [s15_2_0]; rfl) rfl ?_
      refine r_p dX1_given_44 rfl rfl ?_
      obtain ⟨q2, kk⟩ := kk
      refine r_get dX1_given_45 fkX1_9 q2 rfl ?_
      refine r_ci (x := 0) dX1_given_48 rfl ?_
      obtain ⟨q3, kk⟩ := kk
      obtain ⟨q4, kk⟩ := kk
      refine r_ia dX1_given_49 q3 q4 ?_
      refine r_p dX1_given_50 rfl rfl ?_
      refine r_get dX1_given_51 fkX1_9 q2 rfl ?_
      refine r_ci (x := 1) dX1_given_54 rfl ?_
      obtain ⟨q5, kk⟩ := kk
      refine r_ia dX1_given_55 q3 q5 ?_
      refine r_p dX1_given_56 rfl rfl ?_
      refine r_p dX1_given_57 rfl rfl ?_
      refine r_p dX1_given_58 rfl rfl ?_
      exact r_eIp (r' := (((T.2.2.1 (a + 1) (0 : Int32).toNatClampNeg) + (T.2.2.1 (a + 1) (1 : Int32).toNatClampNeg)) - j1_s0)) (by first | rw [if_pos s15_2_0] | (dsimp only; rw [if_pos s15_2_0])) (r_ri dX1_given_59 rfl rfl rfl rfl)
    · have kk := kk.2 s15_2_0
      by_cases s15_2_1 : p1 = 1
      · have kk := kk.1 s15_2_1
        refine r_tin dX1_given_15 (by rw [s15_2_1]; decide) (by rw [s15_2_1]; decide) (off := 45) (by rw [s15_2_1]; rfl) rfl ?_
        refine r_p dX1_given_60 rfl rfl ?_
        obtain ⟨q6, kk⟩ := kk
        refine r_get dX1_given_61 fkX1_9 q6 rfl ?_
        refine r_ci (x := 1) dX1_given_64 rfl ?_
        obtain ⟨q7, kk⟩ := kk
        obtain ⟨q8, kk⟩ := kk
        refine r_ia dX1_given_65 q7 q8 ?_
        refine r_p dX1_given_66 rfl rfl ?_
        refine r_p dX1_given_67 rfl rfl ?_
        exact r_eIp (r' := ((T.2.2.1 (a + 1) (1 : Int32).toNatClampNeg) - j1_s0)) (by first | rw [if_neg s15_2_0, if_pos s15_2_1] | (dsimp only; rw [if_neg s15_2_0, if_pos s15_2_1])) (r_ri dX1_given_68 rfl rfl rfl rfl)
      · have kk := kk.2 s15_2_1
        by_cases s15_2_2 : p1 = 2
        · have kk := kk.1 s15_2_2
          refine r_tin dX1_given_15 (by rw [s15_2_2]; decide) (by rw [s15_2_2]; decide) (off := 54) (by rw [s15_2_2]; rfl) rfl ?_
          refine r_p dX1_given_69 rfl rfl ?_
          obtain ⟨q9, kk⟩ := kk
          refine r_get dX1_given_70 fkX1_9 q9 rfl ?_
          refine r_ci (x := 2) dX1_given_73 rfl ?_
          obtain ⟨q10, kk⟩ := kk
          obtain ⟨q11, kk⟩ := kk
          refine r_ia dX1_given_74 q10 q11 ?_
          exact r_eIp (r' := (T.2.2.1 (a + 1) (2 : Int32).toNatClampNeg)) (by first | rw [if_neg s15_2_0, if_neg s15_2_1, if_pos s15_2_2] | (dsimp only; rw [if_neg s15_2_0, if_neg s15_2_1, if_pos s15_2_2])) (r_ri dX1_given_75 rfl rfl rfl rfl)
        · have kk := kk.2 s15_2_2
          by_cases s15_2_3 : p1 = 3
          · have kk := kk.1 s15_2_3
            refine r_tin dX1_given_15 (by rw [s15_2_3]; decide) (by rw [s15_2_3]; decide) (off := 61) (by rw [s15_2_3]; rfl) rfl ?_
            refine r_ci (x := 0) dX1_given_76 rfl ?_
            refine r_p dX1_given_77 rfl rfl ?_
            obtain ⟨q12, kk⟩ := kk
            refine r_get dX1_given_78 fkX1_9 q12 rfl ?_
            refine r_ci (x := 5) dX1_given_81 rfl ?_
            obtain ⟨q13, kk⟩ := kk
            obtain ⟨q14, kk⟩ := kk
            refine r_ia dX1_given_82 q13 q14 ?_
            refine r_p dX1_given_83 rfl rfl ?_
            refine r_p dX1_given_84 rfl rfl ?_
            obtain ⟨q15, kk⟩ := kk
            refine r_cv (d1 := 1) dX1_given_85 cvX1_76 rfl rfl q12 rfl (Nat.le_of_ble_eq_true rfl) (Nat.le_of_ble_eq_true rfl) (Nat.le_of_ble_eq_true rfl) (c_bk_awayAt a p0 q15) ?_
            refine r_p dX1_given_88 rfl rfl ?_
            refine r_max dX1_given_89 cmxX1_80 (Nat.le_of_ble_eq_true rfl) ?_
            exact r_eIp (r' := (if 0 < (T.2.2.1 (a + 1) (5 : Int32).toNatClampNeg) - (x_bk_awayAt T a p0) then (T.2.2.1 (a + 1) (5 : Int32).toNatClampNeg) - (x_bk_awayAt T a p0) else 0 : Int32)) (by first | rw [if_neg s15_2_0, if_neg s15_2_1, if_neg s15_2_2, if_pos s15_2_3] | (dsimp only; rw [if_neg s15_2_0, if_neg s15_2_1, if_neg s15_2_2, if_pos s15_2_3])) (r_ri dX1_given_92 rfl rfl rfl rfl)
          · have kk := kk.2 s15_2_3
            refine r_tout dX1_given_15 (by have := i_rg (p1); simp only [i_eq, i_0, i_1, i_2, i_3] at s15_2_0 s15_2_1 s15_2_2 s15_2_3; omega) rfl ?_
            refine r_p dX1_given_93 rfl rfl ?_
            obtain ⟨q16, kk⟩ := kk
            refine r_get dX1_given_94 fkX1_9 q16 rfl ?_
            refine r_cb (x := 6) dX1_given_97 rfl ?_
            obtain ⟨q17, kk⟩ := kk
            obtain ⟨q18, kk⟩ := kk
            refine r_ia dX1_given_99 q17 q18 ?_
            exact r_eIp (r' := (T.2.2.1 (a + 1) (6 : Int32).toNatClampNeg)) (by first | rw [if_neg s15_2_0, if_neg s15_2_1, if_neg s15_2_2, if_neg s15_2_3] | (dsimp only; rw [if_neg s15_2_0, if_neg s15_2_1, if_neg s15_2_2, if_neg s15_2_3])) (r_ri dX1_given_100 rfl rfl rfl rfl)
  refine r_eIp (r' := jn (fun (KJ1 : Int32 → Int32) => if p0 < (T.1 a 18) then (KJ1 0) else (KJ1 1)) KJ1) (by rw [hKJ1]; unfold x_bk_given; rfl) ?_
  refine r_clt dX1_given_5 rfl (fun c5_3 => ?_) (fun c5_3 => ?_)
  · have kk := kk.1 c5_3
    refine r_ci (x := 0) dX1_given_12 rfl ?_
    show tR _ _ _ _ [some (.ref a), some (.int p0), some (.int p1), none] [.int 0] _ _ _
    exact r_eIp (r' := KJ1 0) (by simp only [jn]; rw [if_pos c5_3]) ((hJ1 0 kk))
  · have kk := kk.2 c5_3
    refine r_ci (x := 1) dX1_given_8 rfl ?_
    refine r_go dX1_given_9 rfl ?_
    show tR _ _ _ _ [some (.ref a), some (.int p0), some (.int p1), none] [.int 1] _ _ _
    exact r_eIp (r' := KJ1 1) (by simp only [jn]; rw [if_neg c5_3]) ((hJ1 1 kk))
