def x_m_addStep_11 (l1 : Int32) (l2 : Int32) (l3 : Int32) (l4 : Int32) (l5 : Int32) (K : Int32 → St → St) : Nat → Int32 → St → St
  | 0, _, T => T
  | f + 1, v6, T => if l4 ≤ v6 then (K v6 T) else (jn (fun (KJ1 : Int32 → St) => if l5 = 1 then (KJ1 1) else (KJ1 0)) (fun (j1_s3 : Int32) => (fun (T1 : St) => jn (fun (KJ2 : St) => if l5 = 1 then (if (x_m_stepOf T1 l2 4) = 1 then (fun (T41 : St) => jn (fun (KJ7 : St → St) => if l5 = 2 then (fun (T51 : St) => jn (fun (KJ10 : Int32 → St) => if (x_m_stepOf T51 l2 4) ≤ (T51.2.2.1 583 (((60 * l1) + l3) + v6 : Int32).toNatClampNeg) then (KJ10 (T51.2.2.1 583 (((60 * l1) + l3) + v6 : Int32).toNatClampNeg)) else (KJ10 (x_m_stepOf T51 l2 4))) (fun (j10_s2 : Int32) => if ((sA T51 583 (((60 * l1) + l3) + v6 : Int32).toNatClampNeg j10_s2).2.2.1 584 (((60 * l1) + l3) + v6 : Int32).toNatClampNeg) ≤ (x_m_stepOf (sA T51 583 (((60 * l1) + l3) + v6 : Int32).toNatClampNeg j10_s2) l2 5) then (fun (T52 : St) => KJ7 T52) (sA (sA T51 583 (((60 * l1) + l3) + v6 : Int32).toNatClampNeg j10_s2) 584 (((60 * l1) + l3) + v6 : Int32).toNatClampNeg ((sA T51 583 (((60 * l1) + l3) + v6 : Int32).toNatClampNeg j10_s2).2.2.1 584 (((60 * l1) + l3) + v6 : Int32).toNatClampNeg)) else (fun (T53 : St) => KJ7 T53) (sA (sA T51 583 (((60 * l1) + l3) + v6 : Int32).toNatClampNeg j10_s2) 584 (((60 * l1) + l3) + v6 : Int32).toNatClampNeg (x_m_stepOf (sA T51 583 (((60 * l1) + l3) + v6 : Int32).toNatClampNeg j10_s2) l2 5)))) (sA T41 580 (((60 * l1) + l3) + v6 : Int32).toNatClampNeg ((T41.2.2.1 580 (((60 * l1) + l3) + v6 : Int32).toNatClampNeg) + 1)) else (KJ7 T41)) (fun (T307 : St) => jn (fun (KJ8 : St) => if (x_m_stepOf T307 l2 3) = 2 then (KJ8) else (jn (fun (KJ9 : St) => if (x_m_stepOf T307 l2 3) = 1 then (if v6 = 0 then (KJ8) else (KJ9)) else (KJ9)) ((fun (T50 : St) => x_m_addStep_11 l1 l2 l3 l4 l5 K f (v6 + 1) T50) (sA T307 581 (((60 * l1) + l3) + v6 : Int32).toNatClampNeg ((T307.2.2.1 581 (((60 * l1) + l3) + v6 : Int32).toNatClampNeg) + 0))))) ((fun (T49 : St) => x_m_addStep_11 l1 l2 l3 l4 l5 K f (v6 + 1) T49) (sA T307 581 (((60 * l1) + l3) + v6 : Int32).toNatClampNeg ((T307.2.2.1 581 (((60 * l1) + l3) + v6 : Int32).toNatClampNeg) + 1))))) (sA T1 578 (((60 * l1) + l3) + v6 : Int32).toNatClampNeg ((T1.2.2.1 578 (((60 * l1) + l3) + v6 : Int32).toNatClampNeg) + 1)) else (KJ2)) else (KJ2)) ((fun (T28 : St) => jn (fun (KJ3 : St → St) => if l5 = 2 then (fun (T38 : St) => jn (fun (KJ6 : Int32 → St) => if (x_m_stepOf T38 l2 4) ≤ (T38.2.2.1 583 (((60 * l1) + l3) + v6 : Int32).toNatClampNeg) then (KJ6 (T38.2.2.1 583 (((60 * l1) + l3) + v6 : Int32).toNatClampNeg)) else (KJ6 (x_m_stepOf T38 l2 4))) (fun (j6_s2 : Int32) => if ((sA T38 583 (((60 * l1) + l3) + v6 : Int32).toNatClampNeg j6_s2).2.2.1 584 (((60 * l1) + l3) + v6 : Int32).toNatClampNeg) ≤ (x_m_stepOf (sA T38 583 (((60 * l1) + l3) + v6 : Int32).toNatClampNeg j6_s2) l2 5) then (fun (T39 : St) => KJ3 T39) (sA (sA T38 583 (((60 * l1) + l3) + v6 : Int32).toNatClampNeg j6_s2) 584 (((60 * l1) + l3) + v6 : Int32).toNatClampNeg ((sA T38 583 (((60 * l1) + l3) + v6 : Int32).toNatClampNeg j6_s2).2.2.1 584 (((60 * l1) + l3) + v6 : Int32).toNatClampNeg)) else (fun (T40 : St) => KJ3 T40) (sA (sA T38 583 (((60 * l1) + l3) + v6 : Int32).toNatClampNeg j6_s2) 584 (((60 * l1) + l3) + v6 : Int32).toNatClampNeg (x_m_stepOf (sA T38 583 (((60 * l1) + l3) + v6 : Int32).toNatClampNeg j6_s2) l2 5)))) (sA T28 580 (((60 * l1) + l3) + v6 : Int32).toNatClampNeg ((T28.2.2.1 580 (((60 * l1) + l3) + v6 : Int32).toNatClampNeg) + 1)) else (KJ3 T28)) (fun (T303 : St) => jn (fun (KJ4 : St) => if (x_m_stepOf T303 l2 3) = 2 then (KJ4) else (jn (fun (KJ5 : St) => if (x_m_stepOf T303 l2 3) = 1 then (if v6 = 0 then (KJ4) else (KJ5)) else (KJ5)) ((fun (T37 : St) => x_m_addStep_11 l1 l2 l3 l4 l5 K f (v6 + 1) T37) (sA T303 581 (((60 * l1) + l3) + v6 : Int32).toNatClampNeg ((T303.2.2.1 581 (((60 * l1) + l3) + v6 : Int32).toNatClampNeg) + 0))))) ((fun (T36 : St) => x_m_addStep_11 l1 l2 l3 l4 l5 K f (v6 + 1) T36) (sA T303 581 (((60 * l1) + l3) + v6 : Int32).toNatClampNeg ((T303.2.2.1 581 (((60 * l1) + l3) + v6 : Int32).toNatClampNeg) + 1))))) (sA T1 578 (((60 * l1) + l3) + v6 : Int32).toNatClampNeg ((T1.2.2.1 578 (((60 * l1) + l3) + v6 : Int32).toNatClampNeg) + 0)))) (sA T 579 (((60 * l1) + l3) + v6 : Int32).toNatClampNeg ((T.2.2.1 579 (((60 * l1) + l3) + v6 : Int32).toNatClampNeg) + j1_s3))))
def ok_m_addStep_11 (l1 : Int32) (l2 : Int32) (l3 : Int32) (l4 : Int32) (l5 : Int32) (Kk : Int32 → St → Prop) : Nat → Int32 → St → Prop
  | 0, _, _ => False
  | f + 1, v6, T => ((l4 ≤ v6 → Kk v6 T) ∧ (¬ l4 ≤ v6 → (vp_in (((60 * l1) + l3) + v6) 300) ∧ jn (fun (OJ1 : Int32 → Prop) => ((l5 = 1 → OJ1 1) ∧ (¬ l5 = 1 → OJ1 0))) (fun (j1_s3 : Int32) => (vp_in (((60 * l1) + l3) + v6) 300) ∧ (fun (T1 : St) => (vp_in (((60 * l1) + l3) + v6) 300) ∧ jn (fun (OJ2 : Prop) => ((l5 = 1 → (ok_m_stepOf T1 l2 4) ∧ (((x_m_stepOf T1 l2 4) = 1 → (fun (T41 : St) => jn (fun (OJ7 : St → Prop) => ((l5 = 2 → (vp_in (((60 * l1) + l3) + v6) 300) ∧ (fun (T51 : St) => (ok_m_stepOf T51 l2 4) ∧ (vp_in (((60 * l1) + l3) + v6) 300) ∧ jn (fun (OJ10 : Int32 → Prop) => (((x_m_stepOf T51 l2 4) ≤ (T51.2.2.1 583 (((60 * l1) + l3) + v6 : Int32).toNatClampNeg) → OJ10 (T51.2.2.1 583 (((60 * l1) + l3) + v6 : Int32).toNatClampNeg)) ∧ (¬ (x_m_stepOf T51 l2 4) ≤ (T51.2.2.1 583 (((60 * l1) + l3) + v6 : Int32).toNatClampNeg) → OJ10 (x_m_stepOf T51 l2 4)))) (fun (j10_s2 : Int32) => (vp_in (((60 * l1) + l3) + v6) 300) ∧ (ok_m_stepOf (sA T51 583 (((60 * l1) + l3) + v6 : Int32).toNatClampNeg j10_s2) l2 5) ∧ ((((sA T51 583 (((60 * l1) + l3) + v6 : Int32).toNatClampNeg j10_s2).2.2.1 584 (((60 * l1) + l3) + v6 : Int32).toNatClampNeg) ≤ (x_m_stepOf (sA T51 583 (((60 * l1) + l3) + v6 : Int32).toNatClampNeg j10_s2) l2 5) → (fun (T52 : St) => OJ7 T52) (sA (sA T51 583 (((60 * l1) + l3) + v6 : Int32).toNatClampNeg j10_s2) 584 (((60 * l1) + l3) + v6 : Int32).toNatClampNeg ((sA T51 583 (((60 * l1) + l3) + v6 : Int32).toNatClampNeg j10_s2).2.2.1 584 (((60 * l1) + l3) + v6 : Int32).toNatClampNeg))) ∧ (¬ ((sA T51 583 (((60 * l1) + l3) + v6 : Int32).toNatClampNeg j10_s2).2.2.1 584 (((60 * l1) + l3) + v6 : Int32).toNatClampNeg) ≤ (x_m_stepOf (sA T51 583 (((60 * l1) + l3) + v6 : Int32).toNatClampNeg j10_s2) l2 5) → (fun (T53 : St) => OJ7 T53) (sA (sA T51 583 (((60 * l1) + l3) + v6 : Int32).toNatClampNeg j10_s2) 584 (((60 * l1) + l3) + v6 : Int32).toNatClampNeg (x_m_stepOf (sA T51 583 (((60 * l1) + l3) + v6 : Int32).toNatClampNeg j10_s2) l2 5)))))) (sA T41 580 (((60 * l1) + l3) + v6 : Int32).toNatClampNeg ((T41.2.2.1 580 (((60 * l1) + l3) + v6 : Int32).toNatClampNeg) + 1))) ∧ (¬ l5 = 2 → OJ7 T41))) (fun (T307 : St) => (vp_in (((60 * l1) + l3) + v6) 300) ∧ (ok_m_stepOf T307 l2 3) ∧ jn (fun (OJ8 : Prop) => (((x_m_stepOf T307 l2 3) = 2 → OJ8) ∧ (¬ (x_m_stepOf T307 l2 3) = 2 → jn (fun (OJ9 : Prop) => (((x_m_stepOf T307 l2 3) = 1 → ((v6 = 0 → OJ8) ∧ (¬ v6 = 0 → OJ9))) ∧ (¬ (x_m_stepOf T307 l2 3) = 1 → OJ9))) ((vp_in (((60 * l1) + l3) + v6) 300) ∧ (fun (T50 : St) => ok_m_addStep_11 l1 l2 l3 l4 l5 Kk f (v6 + 1) T50) (sA T307 581 (((60 * l1) + l3) + v6 : Int32).toNatClampNeg ((T307.2.2.1 581 (((60 * l1) + l3) + v6 : Int32).toNatClampNeg) + 0)))))) ((vp_in (((60 * l1) + l3) + v6) 300) ∧ (fun (T49 : St) => ok_m_addStep_11 l1 l2 l3 l4 l5 Kk f (v6 + 1) T49) (sA T307 581 (((60 * l1) + l3) + v6 : Int32).toNatClampNeg ((T307.2.2.1 581 (((60 * l1) + l3) + v6 : Int32).toNatClampNeg) + 1))))) (sA T1 578 (((60 * l1) + l3) + v6 : Int32).toNatClampNeg ((T1.2.2.1 578 (((60 * l1) + l3) + v6 : Int32).toNatClampNeg) + 1))) ∧ (¬ (x_m_stepOf T1 l2 4) = 1 → OJ2))) ∧ (¬ l5 = 1 → OJ2))) ((vp_in (((60 * l1) + l3) + v6) 300) ∧ (fun (T28 : St) => jn (fun (OJ3 : St → Prop) => ((l5 = 2 → (vp_in (((60 * l1) + l3) + v6) 300) ∧ (fun (T38 : St) => (ok_m_stepOf T38 l2 4) ∧ (vp_in (((60 * l1) + l3) + v6) 300) ∧ jn (fun (OJ6 : Int32 → Prop) => (((x_m_stepOf T38 l2 4) ≤ (T38.2.2.1 583 (((60 * l1) + l3) + v6 : Int32).toNatClampNeg) → OJ6 (T38.2.2.1 583 (((60 * l1) + l3) + v6 : Int32).toNatClampNeg)) ∧ (¬ (x_m_stepOf T38 l2 4) ≤ (T38.2.2.1 583 (((60 * l1) + l3) + v6 : Int32).toNatClampNeg) → OJ6 (x_m_stepOf T38 l2 4)))) (fun (j6_s2 : Int32) => (vp_in (((60 * l1) + l3) + v6) 300) ∧ (ok_m_stepOf (sA T38 583 (((60 * l1) + l3) + v6 : Int32).toNatClampNeg j6_s2) l2 5) ∧ ((((sA T38 583 (((60 * l1) + l3) + v6 : Int32).toNatClampNeg j6_s2).2.2.1 584 (((60 * l1) + l3) + v6 : Int32).toNatClampNeg) ≤ (x_m_stepOf (sA T38 583 (((60 * l1) + l3) + v6 : Int32).toNatClampNeg j6_s2) l2 5) → (fun (T39 : St) => OJ3 T39) (sA (sA T38 583 (((60 * l1) + l3) + v6 : Int32).toNatClampNeg j6_s2) 584 (((60 * l1) + l3) + v6 : Int32).toNatClampNeg ((sA T38 583 (((60 * l1) + l3) + v6 : Int32).toNatClampNeg j6_s2).2.2.1 584 (((60 * l1) + l3) + v6 : Int32).toNatClampNeg))) ∧ (¬ ((sA T38 583 (((60 * l1) + l3) + v6 : Int32).toNatClampNeg j6_s2).2.2.1 584 (((60 * l1) + l3) + v6 : Int32).toNatClampNeg) ≤ (x_m_stepOf (sA T38 583 (((60 * l1) + l3) + v6 : Int32).toNatClampNeg j6_s2) l2 5) → (fun (T40 : St) => OJ3 T40) (sA (sA T38 583 (((60 * l1) + l3) + v6 : Int32).toNatClampNeg j6_s2) 584 (((60 * l1) + l3) + v6 : Int32).toNatClampNeg (x_m_stepOf (sA T38 583 (((60 * l1) + l3) + v6 : Int32).toNatClampNeg j6_s2) l2 5)))))) (sA T28 580 (((60 * l1) + l3) + v6 : Int32).toNatClampNeg ((T28.2.2.1 580 (((60 * l1) + l3) + v6 : Int32).toNatClampNeg) + 1))) ∧ (¬ l5 = 2 → OJ3 T28))) (fun (T303 : St) => (vp_in (((60 * l1) + l3) + v6) 300) ∧ (ok_m_stepOf T303 l2 3) ∧ jn (fun (OJ4 : Prop) => (((x_m_stepOf T303 l2 3) = 2 → OJ4) ∧ (¬ (x_m_stepOf T303 l2 3) = 2 → jn (fun (OJ5 : Prop) => (((x_m_stepOf T303 l2 3) = 1 → ((v6 = 0 → OJ4) ∧ (¬ v6 = 0 → OJ5))) ∧ (¬ (x_m_stepOf T303 l2 3) = 1 → OJ5))) ((vp_in (((60 * l1) + l3) + v6) 300) ∧ (fun (T37 : St) => ok_m_addStep_11 l1 l2 l3 l4 l5 Kk f (v6 + 1) T37) (sA T303 581 (((60 * l1) + l3) + v6 : Int32).toNatClampNeg ((T303.2.2.1 581 (((60 * l1) + l3) + v6 : Int32).toNatClampNeg) + 0)))))) ((vp_in (((60 * l1) + l3) + v6) 300) ∧ (fun (T36 : St) => ok_m_addStep_11 l1 l2 l3 l4 l5 Kk f (v6 + 1) T36) (sA T303 581 (((60 * l1) + l3) + v6 : Int32).toNatClampNeg ((T303.2.2.1 581 (((60 * l1) + l3) + v6 : Int32).toNatClampNeg) + 1))))) (sA T1 578 (((60 * l1) + l3) + v6 : Int32).toNatClampNeg ((T1.2.2.1 578 (((60 * l1) + l3) + v6 : Int32).toNatClampNeg) + 0)))) (sA T 579 (((60 * l1) + l3) + v6 : Int32).toNatClampNeg ((T.2.2.1 579 (((60 * l1) + l3) + v6 : Int32).toNatClampNeg) + j1_s3)))))
theorem c_m_addStep_11 {X : Nat × (Nat → Int32)} (l1 : Int32) (l2 : Int32) (l3 : Int32) (l4 : Int32) (l5 : Int32) {K : Int32 → St → St} {Kk : Int32 → St → Prop} (hk : ∀ (v6 : Int32) (T : St), Kk v6 T → tR X 1 mX12_addStep 222 [some (.ref 571), some (.int l1), some (.int l2), some (.int l3), some (.int l4), some (.int l5), some (.int v6), none] [] T none (K v6 T)) : ∀ (f : Nat) (v6 : Int32) (T : St), ok_m_addStep_11 l1 l2 l3 l4 l5 Kk f v6 T → tR X 1 mX12_addStep 11 [some (.ref 571), some (.int l1), some (.int l2), some (.int l3), some (.int l4), some (.int l5), some (.int v6), none] [] T none (x_m_addStep_11 l1 l2 l3 l4 l5 K f v6 T) := by
  intro f
  induction f with
  | zero => intro v6 T kk; exact kk.elim
  | succ f ih =>
    intro v6 T kk
    rw [ok_m_addStep_11] at kk
    refine r_p dX12_addStep_11 rfl rfl ?_
    refine r_p dX12_addStep_13 rfl rfl ?_
    refine r_cge dX12_addStep_15 rfl (fun c15_1 => ?_) (fun c15_1 => ?_)
    · have kk := kk.1 c15_1
      show tR _ _ _ _ [some (.ref 571), some (.int l1), some (.int l2), some (.int l3), some (.int l4), some (.int l5), some (.int v6), none] _ _ _ _
      exact r_eV (r' := K v6 T) (by rw [x_m_addStep_11]; rw [if_pos c15_1]) ((hk v6 T kk))
    · have kk := kk.2 c15_1
      refine r_cb (x := 60) dX12_addStep_18 rfl ?_
      refine r_p dX12_addStep_20 rfl rfl ?_
      refine r_p dX12_addStep_21 rfl rfl ?_
      refine r_p dX12_addStep_22 rfl rfl ?_
      refine r_p dX12_addStep_23 rfl rfl ?_
      refine r_p dX12_addStep_24 rfl rfl ?_
      refine r_p dX12_addStep_26 rfl rfl ?_
      refine r_p dX12_addStep_27 rfl rfl ?_
      refine r_p dX12_addStep_29 rfl rfl ?_
      refine r_get dX12_addStep_30 fkX12_31 rfl rfl ?_
      refine r_p dX12_addStep_33 rfl rfl ?_
      refine r_p dX12_addStep_35 rfl rfl ?_
      obtain ⟨q2, kk⟩ := kk
      refine r_ia dX12_addStep_36 rfl q2 ?_
      refine r_p dX12_addStep_37 rfl rfl ?_
      refine r_ci (x := 1) dX12_addStep_39 rfl ?_
      obtain ⟨KJ1, hKJ1⟩ : ∃ q : Int32 → St, q = (fun (j1_s3 : Int32) => (fun (T1 : St) => jn (fun (KJ2 : St) => if l5 = 1 then (if (x_m_stepOf T1 l2 4) = 1 then (fun (T41 : St) => jn (fun (KJ7 : St → St) => if l5 = 2 then (fun (T51 : St) => jn (fun (KJ10 : Int32 → St) => if (x_m_stepOf T51 l2 4) ≤ (T51.2.2.1 583 (((60 * l1) + l3) + v6 : Int32).toNatClampNeg) then (KJ10 (T51.2.2.1 583 (((60 * l1) + l3) + v6 : Int32).toNatClampNeg)) else (KJ10 (x_m_stepOf T51 l2 4))) (fun (j10_s2 : Int32) => if ((sA T51 583 (((60 * l1) + l3) + v6 : Int32).toNatClampNeg j10_s2).2.2.1 584 (((60 * l1) + l3) + v6 : Int32).toNatClampNeg) ≤ (x_m_stepOf (sA T51 583 (((60 * l1) + l3) + v6 : Int32).toNatClampNeg j10_s2) l2 5) then (fun (T52 : St) => KJ7 T52) (sA (sA T51 583 (((60 * l1) + l3) + v6 : Int32).toNatClampNeg j10_s2) 584 (((60 * l1) + l3) + v6 : Int32).toNatClampNeg ((sA T51 583 (((60 * l1) + l3) + v6 : Int32).toNatClampNeg j10_s2).2.2.1 584 (((60 * l1) + l3) + v6 : Int32).toNatClampNeg)) else (fun (T53 : St) => KJ7 T53) (sA (sA T51 583 (((60 * l1) + l3) + v6 : Int32).toNatClampNeg j10_s2) 584 (((60 * l1) + l3) + v6 : Int32).toNatClampNeg (x_m_stepOf (sA T51 583 (((60 * l1) + l3) + v6 : Int32).toNatClampNeg j10_s2) l2 5)))) (sA T41 580 (((60 * l1) + l3) + v6 : Int32).toNatClampNeg ((T41.2.2.1 580 (((60 * l1) + l3) + v6 : Int32).toNatClampNeg) + 1)) else (KJ7 T41)) (fun (T307 : St) => jn (fun (KJ8 : St) => if (x_m_stepOf T307 l2 3) = 2 then (KJ8) else (jn (fun (KJ9 : St) => if (x_m_stepOf T307 l2 3) = 1 then (if v6 = 0 then (KJ8) else (KJ9)) else (KJ9)) ((fun (T50 : St) => x_m_addStep_11 l1 l2 l3 l4 l5 K f (v6 + 1) T50) (sA T307 581 (((60 * l1) + l3) + v6 : Int32).toNatClampNeg ((T307.2.2.1 581 (((60 * l1) + l3) + v6 : Int32).toNatClampNeg) + 0))))) ((fun (T49 : St) => x_m_addStep_11 l1 l2 l3 l4 l5 K f (v6 + 1) T49) (sA T307 581 (((60 * l1) + l3) + v6 : Int32).toNatClampNeg ((T307.2.2.1 581 (((60 * l1) + l3) + v6 : Int32).toNatClampNeg) + 1))))) (sA T1 578 (((60 * l1) + l3) + v6 : Int32).toNatClampNeg ((T1.2.2.1 578 (((60 * l1) + l3) + v6 : Int32).toNatClampNeg) + 1)) else (KJ2)) else (KJ2)) ((fun (T28 : St) => jn (fun (KJ3 : St → St) => if l5 = 2 then (fun (T38 : St) => jn (fun (KJ6 : Int32 → St) => if (x_m_stepOf T38 l2 4) ≤ (T38.2.2.1 583 (((60 * l1) + l3) + v6 : Int32).toNatClampNeg) then (KJ6 (T38.2.2.1 583 (((60 * l1) + l3) + v6 : Int32).toNatClampNeg)) else (KJ6 (x_m_stepOf T38 l2 4))) (fun (j6_s2 : Int32) => if ((sA T38 583 (((60 * l1) + l3) + v6 : Int32).toNatClampNeg j6_s2).2.2.1 584 (((60 * l1) + l3) + v6 : Int32).toNatClampNeg) ≤ (x_m_stepOf (sA T38 583 (((60 * l1) + l3) + v6 : Int32).toNatClampNeg j6_s2) l2 5) then (fun (T39 : St) => KJ3 T39) (sA (sA T38 583 (((60 * l1) + l3) + v6 : Int32).toNatClampNeg j6_s2) 584 (((60 * l1) + l3) + v6 : Int32).toNatClampNeg ((sA T38 583 (((60 * l1) + l3) + v6 : Int32).toNatClampNeg j6_s2).2.2.1 584 (((60 * l1) + l3) + v6 : Int32).toNatClampNeg)) else (fun (T40 : St) => KJ3 T40) (sA (sA T38 583 (((60 * l1) + l3) + v6 : Int32).toNatClampNeg j6_s2) 584 (((60 * l1) + l3) + v6 : Int32).toNatClampNeg (x_m_stepOf (sA T38 583 (((60 * l1) + l3) + v6 : Int32).toNatClampNeg j6_s2) l2 5)))) (sA T28 580 (((60 * l1) + l3) + v6 : Int32).toNatClampNeg ((T28.2.2.1 580 (((60 * l1) + l3) + v6 : Int32).toNatClampNeg) + 1)) else (KJ3 T28)) (fun (T303 : St) => jn (fun (KJ4 : St) => if (x_m_stepOf T303 l2 3) = 2 then (KJ4) else (jn (fun (KJ5 : St) => if (x_m_stepOf T303 l2 3) = 1 then (if v6 = 0 then (KJ4) else (KJ5)) else (KJ5)) ((fun (T37 : St) => x_m_addStep_11 l1 l2 l3 l4 l5 K f (v6 + 1) T37) (sA T303 581 (((60 * l1) + l3) + v6 : Int32).toNatClampNeg ((T303.2.2.1 581 (((60 * l1) + l3) + v6 : Int32).toNatClampNeg) + 0))))) ((fun (T36 : St) => x_m_addStep_11 l1 l2 l3 l4 l5 K f (v6 + 1) T36) (sA T303 581 (((60 * l1) + l3) + v6 : Int32).toNatClampNeg ((T303.2.2.1 581 (((60 * l1) + l3) + v6 : Int32).toNatClampNeg) + 1))))) (sA T1 578 (((60 * l1) + l3) + v6 : Int32).toNatClampNeg ((T1.2.2.1 578 (((60 * l1) + l3) + v6 : Int32).toNatClampNeg) + 0)))) (sA T 579 (((60 * l1) + l3) + v6 : Int32).toNatClampNeg ((T.2.2.1 579 (((60 * l1) + l3) + v6 : Int32).toNatClampNeg) + j1_s3))) := ⟨_, rfl⟩
      obtain ⟨OJ1, hOJ1⟩ : ∃ q : Int32 → Prop, q = (fun (j1_s3 : Int32) => (vp_in (((60 * l1) + l3) + v6) 300) ∧ (fun (T1 : St) => (vp_in (((60 * l1) + l3) + v6) 300) ∧ jn (fun (OJ2 : Prop) => ((l5 = 1 → (ok_m_stepOf T1 l2 4) ∧ (((x_m_stepOf T1 l2 4) = 1 → (fun (T41 : St) => jn (fun (OJ7 : St → Prop) => ((l5 = 2 → (vp_in (((60 * l1) + l3) + v6) 300) ∧ (fun (T51 : St) => (ok_m_stepOf T51 l2 4) ∧ (vp_in (((60 * l1) + l3) + v6) 300) ∧ jn (fun (OJ10 : Int32 → Prop) => (((x_m_stepOf T51 l2 4) ≤ (T51.2.2.1 583 (((60 * l1) + l3) + v6 : Int32).toNatClampNeg) → OJ10 (T51.2.2.1 583 (((60 * l1) + l3) + v6 : Int32).toNatClampNeg)) ∧ (¬ (x_m_stepOf T51 l2 4) ≤ (T51.2.2.1 583 (((60 * l1) + l3) + v6 : Int32).toNatClampNeg) → OJ10 (x_m_stepOf T51 l2 4)))) (fun (j10_s2 : Int32) => (vp_in (((60 * l1) + l3) + v6) 300) ∧ (ok_m_stepOf (sA T51 583 (((60 * l1) + l3) + v6 : Int32).toNatClampNeg j10_s2) l2 5) ∧ ((((sA T51 583 (((60 * l1) + l3) + v6 : Int32).toNatClampNeg j10_s2).2.2.1 584 (((60 * l1) + l3) + v6 : Int32).toNatClampNeg) ≤ (x_m_stepOf (sA T51 583 (((60 * l1) + l3) + v6 : Int32).toNatClampNeg j10_s2) l2 5) → (fun (T52 : St) => OJ7 T52) (sA (sA T51 583 (((60 * l1) + l3) + v6 : Int32).toNatClampNeg j10_s2) 584 (((60 * l1) + l3) + v6 : Int32).toNatClampNeg ((sA T51 583 (((60 * l1) + l3) + v6 : Int32).toNatClampNeg j10_s2).2.2.1 584 (((60 * l1) + l3) + v6 : Int32).toNatClampNeg))) ∧ (¬ ((sA T51 583 (((60 * l1) + l3) + v6 : Int32).toNatClampNeg j10_s2).2.2.1 584 (((60 * l1) + l3) + v6 : Int32).toNatClampNeg) ≤ (x_m_stepOf (sA T51 583 (((60 * l1) + l3) + v6 : Int32).toNatClampNeg j10_s2) l2 5) → (fun (T53 : St) => OJ7 T53) (sA (sA T51 583 (((60 * l1) + l3) + v6 : Int32).toNatClampNeg j10_s2) 584 (((60 * l1) + l3) + v6 : Int32).toNatClampNeg (x_m_stepOf (sA T51 583 (((60 * l1) + l3) + v6 : Int32).toNatClampNeg j10_s2) l2 5)))))) (sA T41 580 (((60 * l1) + l3) + v6 : Int32).toNatClampNeg ((T41.2.2.1 580 (((60 * l1) + l3) + v6 : Int32).toNatClampNeg) + 1))) ∧ (¬ l5 = 2 → OJ7 T41))) (fun (T307 : St) => (vp_in (((60 * l1) + l3) + v6) 300) ∧ (ok_m_stepOf T307 l2 3) ∧ jn (fun (OJ8 : Prop) => (((x_m_stepOf T307 l2 3) = 2 → OJ8) ∧ (¬ (x_m_stepOf T307 l2 3) = 2 → jn (fun (OJ9 : Prop) => (((x_m_stepOf T307 l2 3) = 1 → ((v6 = 0 → OJ8) ∧ (¬ v6 = 0 → OJ9))) ∧ (¬ (x_m_stepOf T307 l2 3) = 1 → OJ9))) ((vp_in (((60 * l1) + l3) + v6) 300) ∧ (fun (T50 : St) => ok_m_addStep_11 l1 l2 l3 l4 l5 Kk f (v6 + 1) T50) (sA T307 581 (((60 * l1) + l3) + v6 : Int32).toNatClampNeg ((T307.2.2.1 581 (((60 * l1) + l3) + v6 : Int32).toNatClampNeg) + 0)))))) ((vp_in (((60 * l1) + l3) + v6) 300) ∧ (fun (T49 : St) => ok_m_addStep_11 l1 l2 l3 l4 l5 Kk f (v6 + 1) T49) (sA T307 581 (((60 * l1) + l3) + v6 : Int32).toNatClampNeg ((T307.2.2.1 581 (((60 * l1) + l3) + v6 : Int32).toNatClampNeg) + 1))))) (sA T1 578 (((60 * l1) + l3) + v6 : Int32).toNatClampNeg ((T1.2.2.1 578 (((60 * l1) + l3) + v6 : Int32).toNatClampNeg) + 1))) ∧ (¬ (x_m_stepOf T1 l2 4) = 1 → OJ2))) ∧ (¬ l5 = 1 → OJ2))) ((vp_in (((60 * l1) + l3) + v6) 300) ∧ (fun (T28 : St) => jn (fun (OJ3 : St → Prop) => ((l5 = 2 → (vp_in (((60 * l1) + l3) + v6) 300) ∧ (fun (T38 : St) => (ok_m_stepOf T38 l2 4) ∧ (vp_in (((60 * l1) + l3) + v6) 300) ∧ jn (fun (OJ6 : Int32 → Prop) => (((x_m_stepOf T38 l2 4) ≤ (T38.2.2.1 583 (((60 * l1) + l3) + v6 : Int32).toNatClampNeg) → OJ6 (T38.2.2.1 583 (((60 * l1) + l3) + v6 : Int32).toNatClampNeg)) ∧ (¬ (x_m_stepOf T38 l2 4) ≤ (T38.2.2.1 583 (((60 * l1) + l3) + v6 : Int32).toNatClampNeg) → OJ6 (x_m_stepOf T38 l2 4)))) (fun (j6_s2 : Int32) => (vp_in (((60 * l1) + l3) + v6) 300) ∧ (ok_m_stepOf (sA T38 583 (((60 * l1) + l3) + v6 : Int32).toNatClampNeg j6_s2) l2 5) ∧ ((((sA T38 583 (((60 * l1) + l3) + v6 : Int32).toNatClampNeg j6_s2).2.2.1 584 (((60 * l1) + l3) + v6 : Int32).toNatClampNeg) ≤ (x_m_stepOf (sA T38 583 (((60 * l1) + l3) + v6 : Int32).toNatClampNeg j6_s2) l2 5) → (fun (T39 : St) => OJ3 T39) (sA (sA T38 583 (((60 * l1) + l3) + v6 : Int32).toNatClampNeg j6_s2) 584 (((60 * l1) + l3) + v6 : Int32).toNatClampNeg ((sA T38 583 (((60 * l1) + l3) + v6 : Int32).toNatClampNeg j6_s2).2.2.1 584 (((60 * l1) + l3) + v6 : Int32).toNatClampNeg))) ∧ (¬ ((sA T38 583 (((60 * l1) + l3) + v6 : Int32).toNatClampNeg j6_s2).2.2.1 584 (((60 * l1) + l3) + v6 : Int32).toNatClampNeg) ≤ (x_m_stepOf (sA T38 583 (((60 * l1) + l3) + v6 : Int32).toNatClampNeg j6_s2) l2 5) → (fun (T40 : St) => OJ3 T40) (sA (sA T38 583 (((60 * l1) + l3) + v6 : Int32).toNatClampNeg j6_s2) 584 (((60 * l1) + l3) + v6 : Int32).toNatClampNeg (x_m_stepOf (sA T38 583 (((60 * l1) + l3) + v6 : Int32).toNatClampNeg j6_s2) l2 5)))))) (sA T28 580 (((60 * l1) + l3) + v6 : Int32).toNatClampNeg ((T28.2.2.1 580 (((60 * l1) + l3) + v6 : Int32).toNatClampNeg) + 1))) ∧ (¬ l5 = 2 → OJ3 T28))) (fun (T303 : St) => (vp_in (((60 * l1) + l3) + v6) 300) ∧ (ok_m_stepOf T303 l2 3) ∧ jn (fun (OJ4 : Prop) => (((x_m_stepOf T303 l2 3) = 2 → OJ4) ∧ (¬ (x_m_stepOf T303 l2 3) = 2 → jn (fun (OJ5 : Prop) => (((x_m_stepOf T303 l2 3) = 1 → ((v6 = 0 → OJ4) ∧ (¬ v6 = 0 → OJ5))) ∧ (¬ (x_m_stepOf T303 l2 3) = 1 → OJ5))) ((vp_in (((60 * l1) + l3) + v6) 300) ∧ (fun (T37 : St) => ok_m_addStep_11 l1 l2 l3 l4 l5 Kk f (v6 + 1) T37) (sA T303 581 (((60 * l1) + l3) + v6 : Int32).toNatClampNeg ((T303.2.2.1 581 (((60 * l1) + l3) + v6 : Int32).toNatClampNeg) + 0)))))) ((vp_in (((60 * l1) + l3) + v6) 300) ∧ (fun (T36 : St) => ok_m_addStep_11 l1 l2 l3 l4 l5 Kk f (v6 + 1) T36) (sA T303 581 (((60 * l1) + l3) + v6 : Int32).toNatClampNeg ((T303.2.2.1 581 (((60 * l1) + l3) + v6 : Int32).toNatClampNeg) + 1))))) (sA T1 578 (((60 * l1) + l3) + v6 : Int32).toNatClampNeg ((T1.2.2.1 578 (((60 * l1) + l3) + v6 : Int32).toNatClampNeg) + 0)))) (sA T 579 (((60 * l1) + l3) + v6 : Int32).toNatClampNeg ((T.2.2.1 579 (((60 * l1) + l3) + v6 : Int32).toNatClampNeg) + j1_s3))) := ⟨_, rfl⟩
      rw [← hOJ1] at kk
      simp only [jn] at kk
      have hJ1 : ∀ (j1_s3 : Int32), OJ1 j1_s3 → tR X 1 mX12_addStep 48 [some (.ref 571), some (.int l1), some (.int l2), some (.int l3), some (.int l4), some (.int l5), some (.int v6), some (.int (((60 * l1) + l3) + v6))] [.int j1_s3, .int (T.2.2.1 579 (((60 * l1) + l3) + v6 : Int32).toNatClampNeg), .int (((60 * l1) + l3) + v6), .ref 579] T none (KJ1 j1_s3) := by
        intro j1_s3 kk
        rw [hOJ1] at kk
        try dsimp only at kk
        rw [hKJ1]
        refine r_p dX12_addStep_48 rfl rfl ?_
        obtain ⟨q3, kk⟩ := kk
        refine r_ias dX12_addStep_49 rfl q3 ?_
        refine r_eV (r' := (fun (T1 : St) => jn (fun (KJ2 : St) => if l5 = 1 then (if (x_m_stepOf T1 l2 4) = 1 then (fun (T41 : St) => jn (fun (KJ7 : St → St) => if l5 = 2 then (fun (T51 : St) => jn (fun (KJ10 : Int32 → St) => if (x_m_stepOf T51 l2 4) ≤ (T51.2.2.1 583 (((60 * l1) + l3) + v6 : Int32).toNatClampNeg) then (KJ10 (T51.2.2.1 583 (((60 * l1) + l3) + v6 : Int32).toNatClampNeg)) else (KJ10 (x_m_stepOf T51 l2 4))) (fun (j10_s2 : Int32) => if ((sA T51 583 (((60 * l1) + l3) + v6 : Int32).toNatClampNeg j10_s2).2.2.1 584 (((60 * l1) + l3) + v6 : Int32).toNatClampNeg) ≤ (x_m_stepOf (sA T51 583 (((60 * l1) + l3) + v6 : Int32).toNatClampNeg j10_s2) l2 5) then (fun (T52 : St) => KJ7 T52) (sA (sA T51 583 (((60 * l1) + l3) + v6 : Int32).toNatClampNeg j10_s2) 584 (((60 * l1) + l3) + v6 : Int32).toNatClampNeg ((sA T51 583 (((60 * l1) + l3) + v6 : Int32).toNatClampNeg j10_s2).2.2.1 584 (((60 * l1) + l3) + v6 : Int32).toNatClampNeg)) else (fun (T53 : St) => KJ7 T53) (sA (sA T51 583 (((60 * l1) + l3) + v6 : Int32).toNatClampNeg j10_s2) 584 (((60 * l1) + l3) + v6 : Int32).toNatClampNeg (x_m_stepOf (sA T51 583 (((60 * l1) + l3) + v6 : Int32).toNatClampNeg j10_s2) l2 5)))) (sA T41 580 (((60 * l1) + l3) + v6 : Int32).toNatClampNeg ((T41.2.2.1 580 (((60 * l1) + l3) + v6 : Int32).toNatClampNeg) + 1)) else (KJ7 T41)) (fun (T307 : St) => jn (fun (KJ8 : St) => if (x_m_stepOf T307 l2 3) = 2 then (KJ8) else (jn (fun (KJ9 : St) => if (x_m_stepOf T307 l2 3) = 1 then (if v6 = 0 then (KJ8) else (KJ9)) else (KJ9)) ((fun (T50 : St) => x_m_addStep_11 l1 l2 l3 l4 l5 K f (v6 + 1) T50) (sA T307 581 (((60 * l1) + l3) + v6 : Int32).toNatClampNeg ((T307.2.2.1 581 (((60 * l1) + l3) + v6 : Int32).toNatClampNeg) + 0))))) ((fun (T49 : St) => x_m_addStep_11 l1 l2 l3 l4 l5 K f (v6 + 1) T49) (sA T307 581 (((60 * l1) + l3) + v6 : Int32).toNatClampNeg ((T307.2.2.1 581 (((60 * l1) + l3) + v6 : Int32).toNatClampNeg) + 1))))) (sA T1 578 (((60 * l1) + l3) + v6 : Int32).toNatClampNeg ((T1.2.2.1 578 (((60 * l1) + l3) + v6 : Int32).toNatClampNeg) + 1)) else (KJ2)) else (KJ2)) ((fun (T28 : St) => jn (fun (KJ3 : St → St) => if l5 = 2 then (fun (T38 : St) => jn (fun (KJ6 : Int32 → St) => if (x_m_stepOf T38 l2 4) ≤ (T38.2.2.1 583 (((60 * l1) + l3) + v6 : Int32).toNatClampNeg) then (KJ6 (T38.2.2.1 583 (((60 * l1) + l3) + v6 : Int32).toNatClampNeg)) else (KJ6 (x_m_stepOf T38 l2 4))) (fun (j6_s2 : Int32) => if ((sA T38 583 (((60 * l1) + l3) + v6 : Int32).toNatClampNeg j6_s2).2.2.1 584 (((60 * l1) + l3) + v6 : Int32).toNatClampNeg) ≤ (x_m_stepOf (sA T38 583 (((60 * l1) + l3) + v6 : Int32).toNatClampNeg j6_s2) l2 5) then (fun (T39 : St) => KJ3 T39) (sA (sA T38 583 (((60 * l1) + l3) + v6 : Int32).toNatClampNeg j6_s2) 584 (((60 * l1) + l3) + v6 : Int32).toNatClampNeg ((sA T38 583 (((60 * l1) + l3) + v6 : Int32).toNatClampNeg j6_s2).2.2.1 584 (((60 * l1) + l3) + v6 : Int32).toNatClampNeg)) else (fun (T40 : St) => KJ3 T40) (sA (sA T38 583 (((60 * l1) + l3) + v6 : Int32).toNatClampNeg j6_s2) 584 (((60 * l1) + l3) + v6 : Int32).toNatClampNeg (x_m_stepOf (sA T38 583 (((60 * l1) + l3) + v6 : Int32).toNatClampNeg j6_s2) l2 5)))) (sA T28 580 (((60 * l1) + l3) + v6 : Int32).toNatClampNeg ((T28.2.2.1 580 (((60 * l1) + l3) + v6 : Int32).toNatClampNeg) + 1)) else (KJ3 T28)) (fun (T303 : St) => jn (fun (KJ4 : St) => if (x_m_stepOf T303 l2 3) = 2 then (KJ4) else (jn (fun (KJ5 : St) => if (x_m_stepOf T303 l2 3) = 1 then (if v6 = 0 then (KJ4) else (KJ5)) else (KJ5)) ((fun (T37 : St) => x_m_addStep_11 l1 l2 l3 l4 l5 K f (v6 + 1) T37) (sA T303 581 (((60 * l1) + l3) + v6 : Int32).toNatClampNeg ((T303.2.2.1 581 (((60 * l1) + l3) + v6 : Int32).toNatClampNeg) + 0))))) ((fun (T36 : St) => x_m_addStep_11 l1 l2 l3 l4 l5 K f (v6 + 1) T36) (sA T303 581 (((60 * l1) + l3) + v6 : Int32).toNatClampNeg ((T303.2.2.1 581 (((60 * l1) + l3) + v6 : Int32).toNatClampNeg) + 1))))) (sA T1 578 (((60 * l1) + l3) + v6 : Int32).toNatClampNeg ((T1.2.2.1 578 (((60 * l1) + l3) + v6 : Int32).toNatClampNeg) + 0)))) (sA T 579 (((60 * l1) + l3) + v6 : Int32).toNatClampNeg ((T.2.2.1 579 (((60 * l1) + l3) + v6 : Int32).toNatClampNeg) + j1_s3))) rfl ?_
        generalize sA T 579 (((60 * l1) + l3) + v6 : Int32).toNatClampNeg ((T.2.2.1 579 (((60 * l1) + l3) + v6 : Int32).toNatClampNeg) + j1_s3) = T1 at kk ⊢
        try dsimp only at kk
        refine r_p dX12_addStep_50 rfl rfl ?_
        refine r_get dX12_addStep_51 fkX12_28 rfl rfl ?_
        refine r_p dX12_addStep_54 rfl rfl ?_
        refine r_p dX12_addStep_56 rfl rfl ?_
        obtain ⟨q4, kk⟩ := kk
        refine r_ia dX12_addStep_57 rfl q4 ?_
        refine r_p dX12_addStep_58 rfl rfl ?_
        refine r_ci (x := 1) dX12_addStep_60 rfl ?_
        obtain ⟨KJ2, hKJ2⟩ : ∃ q : St, q = ((fun (T28 : St) => jn (fun (KJ3 : St → St) => if l5 = 2 then (fun (T38 : St) => jn (fun (KJ6 : Int32 → St) => if (x_m_stepOf T38 l2 4) ≤ (T38.2.2.1 583 (((60 * l1) + l3) + v6 : Int32).toNatClampNeg) then (KJ6 (T38.2.2.1 583 (((60 * l1) + l3) + v6 : Int32).toNatClampNeg)) else (KJ6 (x_m_stepOf T38 l2 4))) (fun (j6_s2 : Int32) => if ((sA T38 583 (((60 * l1) + l3) + v6 : Int32).toNatClampNeg j6_s2).2.2.1 584 (((60 * l1) + l3) + v6 : Int32).toNatClampNeg) ≤ (x_m_stepOf (sA T38 583 (((60 * l1) + l3) + v6 : Int32).toNatClampNeg j6_s2) l2 5) then (fun (T39 : St) => KJ3 T39) (sA (sA T38 583 (((60 * l1) + l3) + v6 : Int32).toNatClampNeg j6_s2) 584 (((60 * l1) + l3) + v6 : Int32).toNatClampNeg ((sA T38 583 (((60 * l1) + l3) + v6 : Int32).toNatClampNeg j6_s2).2.2.1 584 (((60 * l1) + l3) + v6 : Int32).toNatClampNeg)) else (fun (T40 : St) => KJ3 T40) (sA (sA T38 583 (((60 * l1) + l3) + v6 : Int32).toNatClampNeg j6_s2) 584 (((60 * l1) + l3) + v6 : Int32).toNatClampNeg (x_m_stepOf (sA T38 583 (((60 * l1) + l3) + v6 : Int32).toNatClampNeg j6_s2) l2 5)))) (sA T28 580 (((60 * l1) + l3) + v6 : Int32).toNatClampNeg ((T28.2.2.1 580 (((60 * l1) + l3) + v6 : Int32).toNatClampNeg) + 1)) else (KJ3 T28)) (fun (T303 : St) => jn (fun (KJ4 : St) => if (x_m_stepOf T303 l2 3) = 2 then (KJ4) else (jn (fun (KJ5 : St) => if (x_m_stepOf T303 l2 3) = 1 then (if v6 = 0 then (KJ4) else (KJ5)) else (KJ5)) ((fun (T37 : St) => x_m_addStep_11 l1 l2 l3 l4 l5 K f (v6 + 1) T37) (sA T303 581 (((60 * l1) + l3) + v6 : Int32).toNatClampNeg ((T303.2.2.1 581 (((60 * l1) + l3) + v6 : Int32).toNatClampNeg) + 0))))) ((fun (T36 : St) => x_m_addStep_11 l1 l2 l3 l4 l5 K f (v6 + 1) T36) (sA T303 581 (((60 * l1) + l3) + v6 : Int32).toNatClampNeg ((T303.2.2.1 581 (((60 * l1) + l3) + v6 : Int32).toNatClampNeg) + 1))))) (sA T1 578 (((60 * l1) + l3) + v6 : Int32).toNatClampNeg ((T1.2.2.1 578 (((60 * l1) + l3) + v6 : Int32).toNatClampNeg) + 0))) := ⟨_, rfl⟩
        obtain ⟨OJ2, hOJ2⟩ : ∃ q : Prop, q = ((vp_in (((60 * l1) + l3) + v6) 300) ∧ (fun (T28 : St) => jn (fun (OJ3 : St → Prop) => ((l5 = 2 → (vp_in (((60 * l1) + l3) + v6) 300) ∧ (fun (T38 : St) => (ok_m_stepOf T38 l2 4) ∧ (vp_in (((60 * l1) + l3) + v6) 300) ∧ jn (fun (OJ6 : Int32 → Prop) => (((x_m_stepOf T38 l2 4) ≤ (T38.2.2.1 583 (((60 * l1) + l3) + v6 : Int32).toNatClampNeg) → OJ6 (T38.2.2.1 583 (((60 * l1) + l3) + v6 : Int32).toNatClampNeg)) ∧ (¬ (x_m_stepOf T38 l2 4) ≤ (T38.2.2.1 583 (((60 * l1) + l3) + v6 : Int32).toNatClampNeg) → OJ6 (x_m_stepOf T38 l2 4)))) (fun (j6_s2 : Int32) => (vp_in (((60 * l1) + l3) + v6) 300) ∧ (ok_m_stepOf (sA T38 583 (((60 * l1) + l3) + v6 : Int32).toNatClampNeg j6_s2) l2 5) ∧ ((((sA T38 583 (((60 * l1) + l3) + v6 : Int32).toNatClampNeg j6_s2).2.2.1 584 (((60 * l1) + l3) + v6 : Int32).toNatClampNeg) ≤ (x_m_stepOf (sA T38 583 (((60 * l1) + l3) + v6 : Int32).toNatClampNeg j6_s2) l2 5) → (fun (T39 : St) => OJ3 T39) (sA (sA T38 583 (((60 * l1) + l3) + v6 : Int32).toNatClampNeg j6_s2) 584 (((60 * l1) + l3) + v6 : Int32).toNatClampNeg ((sA T38 583 (((60 * l1) + l3) + v6 : Int32).toNatClampNeg j6_s2).2.2.1 584 (((60 * l1) + l3) + v6 : Int32).toNatClampNeg))) ∧ (¬ ((sA T38 583 (((60 * l1) + l3) + v6 : Int32).toNatClampNeg j6_s2).2.2.1 584 (((60 * l1) + l3) + v6 : Int32).toNatClampNeg) ≤ (x_m_stepOf (sA T38 583 (((60 * l1) + l3) + v6 : Int32).toNatClampNeg j6_s2) l2 5) → (fun (T40 : St) => OJ3 T40) (sA (sA T38 583 (((60 * l1) + l3) + v6 : Int32).toNatClampNeg j6_s2) 584 (((60 * l1) + l3) + v6 : Int32).toNatClampNeg (x_m_stepOf (sA T38 583 (((60 * l1) + l3) + v6 : Int32).toNatClampNeg j6_s2) l2 5)))))) (sA T28 580 (((60 * l1) + l3) + v6 : Int32).toNatClampNeg ((T28.2.2.1 580 (((60 * l1) + l3) + v6 : Int32).toNatClampNeg) + 1))) ∧ (¬ l5 = 2 → OJ3 T28))) (fun (T303 : St) => (vp_in (((60 * l1) + l3) + v6) 300) ∧ (ok_m_stepOf T303 l2 3) ∧ jn (fun (OJ4 : Prop) => (((x_m_stepOf T303 l2 3) = 2 → OJ4) ∧ (¬ (x_m_stepOf T303 l2 3) = 2 → jn (fun (OJ5 : Prop) => (((x_m_stepOf T303 l2 3) = 1 → ((v6 = 0 → OJ4) ∧ (¬ v6 = 0 → OJ5))) ∧ (¬ (x_m_stepOf T303 l2 3) = 1 → OJ5))) ((vp_in (((60 * l1) + l3) + v6) 300) ∧ (fun (T37 : St) => ok_m_addStep_11 l1 l2 l3 l4 l5 Kk f (v6 + 1) T37) (sA T303 581 (((60 * l1) + l3) + v6 : Int32).toNatClampNeg ((T303.2.2.1 581 (((60 * l1) + l3) + v6 : Int32).toNatClampNeg) + 0)))))) ((vp_in (((60 * l1) + l3) + v6) 300) ∧ (fun (T36 : St) => ok_m_addStep_11 l1 l2 l3 l4 l5 Kk f (v6 + 1) T36) (sA T303 581 (((60 * l1) + l3) + v6 : Int32).toNatClampNeg ((T303.2.2.1 581 (((60 * l1) + l3) + v6 : Int32).toNatClampNeg) + 1))))) (sA T1 578 (((60 * l1) + l3) + v6 : Int32).toNatClampNeg ((T1.2.2.1 578 (((60 * l1) + l3) + v6 : Int32).toNatClampNeg) + 0))) := ⟨_, rfl⟩
        rw [← hOJ2] at kk
        simp only [jn] at kk
        have hJ2 : OJ2 → tR X 1 mX12_addStep 78 [some (.ref 571), some (.int l1), some (.int l2), some (.int l3), some (.int l4), some (.int l5), some (.int v6), some (.int (((60 * l1) + l3) + v6))] [.int (T1.2.2.1 578 (((60 * l1) + l3) + v6 : Int32).toNatClampNeg), .int (((60 * l1) + l3) + v6), .ref 578] T1 none KJ2 := by
          intro  kk
          rw [hOJ2] at kk
          try dsimp only at kk
          rw [hKJ2]
          refine r_ci (x := 0) dX12_addStep_78 rfl ?_
          refine r_p dX12_addStep_79 rfl rfl ?_
          obtain ⟨q21, kk⟩ := kk
          refine r_ias dX12_addStep_80 rfl q21 ?_
          refine r_eV (r' := (fun (T28 : St) => jn (fun (KJ3 : St → St) => if l5 = 2 then (fun (T38 : St) => jn (fun (KJ6 : Int32 → St) => if (x_m_stepOf T38 l2 4) ≤ (T38.2.2.1 583 (((60 * l1) + l3) + v6 : Int32).toNatClampNeg) then (KJ6 (T38.2.2.1 583 (((60 * l1) + l3) + v6 : Int32).toNatClampNeg)) else (KJ6 (x_m_stepOf T38 l2 4))) (fun (j6_s2 : Int32) => if ((sA T38 583 (((60 * l1) + l3) + v6 : Int32).toNatClampNeg j6_s2).2.2.1 584 (((60 * l1) + l3) + v6 : Int32).toNatClampNeg) ≤ (x_m_stepOf (sA T38 583 (((60 * l1) + l3) + v6 : Int32).toNatClampNeg j6_s2) l2 5) then (fun (T39 : St) => KJ3 T39) (sA (sA T38 583 (((60 * l1) + l3) + v6 : Int32).toNatClampNeg j6_s2) 584 (((60 * l1) + l3) + v6 : Int32).toNatClampNeg ((sA T38 583 (((60 * l1) + l3) + v6 : Int32).toNatClampNeg j6_s2).2.2.1 584 (((60 * l1) + l3) + v6 : Int32).toNatClampNeg)) else (fun (T40 : St) => KJ3 T40) (sA (sA T38 583 (((60 * l1) + l3) + v6 : Int32).toNatClampNeg j6_s2) 584 (((60 * l1) + l3) + v6 : Int32).toNatClampNeg (x_m_stepOf (sA T38 583 (((60 * l1) + l3) + v6 : Int32).toNatClampNeg j6_s2) l2 5)))) (sA T28 580 (((60 * l1) + l3) + v6 : Int32).toNatClampNeg ((T28.2.2.1 580 (((60 * l1) + l3) + v6 : Int32).toNatClampNeg) + 1)) else (KJ3 T28)) (fun (T303 : St) => jn (fun (KJ4 : St) => if (x_m_stepOf T303 l2 3) = 2 then (KJ4) else (jn (fun (KJ5 : St) => if (x_m_stepOf T303 l2 3) = 1 then (if v6 = 0 then (KJ4) else (KJ5)) else (KJ5)) ((fun (T37 : St) => x_m_addStep_11 l1 l2 l3 l4 l5 K f (v6 + 1) T37) (sA T303 581 (((60 * l1) + l3) + v6 : Int32).toNatClampNeg ((T303.2.2.1 581 (((60 * l1) + l3) + v6 : Int32).toNatClampNeg) + 0))))) ((fun (T36 : St) => x_m_addStep_11 l1 l2 l3 l4 l5 K f (v6 + 1) T36) (sA T303 581 (((60 * l1) + l3) + v6 : Int32).toNatClampNeg ((T303.2.2.1 581 (((60 * l1) + l3) + v6 : Int32).toNatClampNeg) + 1))))) (sA T1 578 (((60 * l1) + l3) + v6 : Int32).toNatClampNeg ((T1.2.2.1 578 (((60 * l1) + l3) + v6 : Int32).toNatClampNeg) + 0))) rfl ?_
          generalize sA T1 578 (((60 * l1) + l3) + v6 : Int32).toNatClampNeg ((T1.2.2.1 578 (((60 * l1) + l3) + v6 : Int32).toNatClampNeg) + 0) = T28 at kk ⊢
          try dsimp only at kk
          refine r_p dX12_addStep_81 rfl rfl ?_
          refine r_ci (x := 2) dX12_addStep_83 rfl ?_
          obtain ⟨KJ3, hKJ3⟩ : ∃ q : St → St, q = (fun (T303 : St) => jn (fun (KJ4 : St) => if (x_m_stepOf T303 l2 3) = 2 then (KJ4) else (jn (fun (KJ5 : St) => if (x_m_stepOf T303 l2 3) = 1 then (if v6 = 0 then (KJ4) else (KJ5)) else (KJ5)) ((fun (T37 : St) => x_m_addStep_11 l1 l2 l3 l4 l5 K f (v6 + 1) T37) (sA T303 581 (((60 * l1) + l3) + v6 : Int32).toNatClampNeg ((T303.2.2.1 581 (((60 * l1) + l3) + v6 : Int32).toNatClampNeg) + 0))))) ((fun (T36 : St) => x_m_addStep_11 l1 l2 l3 l4 l5 K f (v6 + 1) T36) (sA T303 581 (((60 * l1) + l3) + v6 : Int32).toNatClampNeg ((T303.2.2.1 581 (((60 * l1) + l3) + v6 : Int32).toNatClampNeg) + 1)))) := ⟨_, rfl⟩
          obtain ⟨OJ3, hOJ3⟩ : ∃ q : St → Prop, q = (fun (T303 : St) => (vp_in (((60 * l1) + l3) + v6) 300) ∧ (ok_m_stepOf T303 l2 3) ∧ jn (fun (OJ4 : Prop) => (((x_m_stepOf T303 l2 3) = 2 → OJ4) ∧ (¬ (x_m_stepOf T303 l2 3) = 2 → jn (fun (OJ5 : Prop) => (((x_m_stepOf T303 l2 3) = 1 → ((v6 = 0 → OJ4) ∧ (¬ v6 = 0 → OJ5))) ∧ (¬ (x_m_stepOf T303 l2 3) = 1 → OJ5))) ((vp_in (((60 * l1) + l3) + v6) 300) ∧ (fun (T37 : St) => ok_m_addStep_11 l1 l2 l3 l4 l5 Kk f (v6 + 1) T37) (sA T303 581 (((60 * l1) + l3) + v6 : Int32).toNatClampNeg ((T303.2.2.1 581 (((60 * l1) + l3) + v6 : Int32).toNatClampNeg) + 0)))))) ((vp_in (((60 * l1) + l3) + v6) 300) ∧ (fun (T36 : St) => ok_m_addStep_11 l1 l2 l3 l4 l5 Kk f (v6 + 1) T36) (sA T303 581 (((60 * l1) + l3) + v6 : Int32).toNatClampNeg ((T303.2.2.1 581 (((60 * l1) + l3) + v6 : Int32).toNatClampNeg) + 1)))) := ⟨_, rfl⟩
          rw [← hOJ3] at kk
          simp only [jn] at kk
          have hJ3 : ∀ (T303 : St), OJ3 T303 → tR X 1 mX12_addStep 176 [some (.ref 571), some (.int l1), some (.int l2), some (.int l3), some (.int l4), some (.int l5), some (.int v6), some (.int (((60 * l1) + l3) + v6))] [] T303 none (KJ3 T303) := by
            intro T303 kk
            rw [hOJ3] at kk
            try dsimp only at kk
            rw [hKJ3]
            refine r_p dX12_addStep_176 rfl rfl ?_
            refine r_get dX12_addStep_177 fkX12_37 rfl rfl ?_
            refine r_p dX12_addStep_180 rfl rfl ?_
            refine r_p dX12_addStep_182 rfl rfl ?_
            obtain ⟨q28, kk⟩ := kk
            refine r_ia dX12_addStep_183 rfl q28 ?_
            refine r_p dX12_addStep_184 rfl rfl ?_
            refine r_p dX12_addStep_185 rfl rfl ?_
            refine r_ci (x := 3) dX12_addStep_186 rfl ?_
            obtain ⟨q29, kk⟩ := kk
            refine r_cv (d1 := 1) dX12_addStep_187 cvX12_232 rfl rfl rfl rfl (Nat.le_of_ble_eq_true rfl) (Nat.le_of_ble_eq_true rfl) (Nat.le_of_ble_eq_true rfl) (c_m_stepOf l2 3 q29) ?_
            refine r_ci (x := 2) dX12_addStep_190 rfl ?_
            obtain ⟨KJ4, hKJ4⟩ : ∃ q : St, q = ((fun (T36 : St) => x_m_addStep_11 l1 l2 l3 l4 l5 K f (v6 + 1) T36) (sA T303 581 (((60 * l1) + l3) + v6 : Int32).toNatClampNeg ((T303.2.2.1 581 (((60 * l1) + l3) + v6 : Int32).toNatClampNeg) + 1))) := ⟨_, rfl⟩
            obtain ⟨OJ4, hOJ4⟩ : ∃ q : Prop, q = ((vp_in (((60 * l1) + l3) + v6) 300) ∧ (fun (T36 : St) => ok_m_addStep_11 l1 l2 l3 l4 l5 Kk f (v6 + 1) T36) (sA T303 581 (((60 * l1) + l3) + v6 : Int32).toNatClampNeg ((T303.2.2.1 581 (((60 * l1) + l3) + v6 : Int32).toNatClampNeg) + 1))) := ⟨_, rfl⟩
            rw [← hOJ4] at kk
            simp only [jn] at kk
            have hJ4 : OJ4 → tR X 1 mX12_addStep 209 [some (.ref 571), some (.int l1), some (.int l2), some (.int l3), some (.int l4), some (.int l5), some (.int v6), some (.int (((60 * l1) + l3) + v6))] [.int (T303.2.2.1 581 (((60 * l1) + l3) + v6 : Int32).toNatClampNeg), .int (((60 * l1) + l3) + v6), .ref 581] T303 none KJ4 := by
              intro  kk
              rw [hOJ4] at kk
              try dsimp only at kk
              rw [hKJ4]
              refine r_ci (x := 1) dX12_addStep_209 rfl ?_
              refine r_go dX12_addStep_210 rfl ?_
              refine r_p dX12_addStep_214 rfl rfl ?_
              obtain ⟨q30, kk⟩ := kk
              refine r_ias dX12_addStep_215 rfl q30 ?_
              refine r_eV (r' := (fun (T36 : St) => x_m_addStep_11 l1 l2 l3 l4 l5 K f (v6 + 1) T36) (sA T303 581 (((60 * l1) + l3) + v6 : Int32).toNatClampNeg ((T303.2.2.1 581 (((60 * l1) + l3) + v6 : Int32).toNatClampNeg) + 1))) rfl ?_
              generalize sA T303 581 (((60 * l1) + l3) + v6 : Int32).toNatClampNeg ((T303.2.2.1 581 (((60 * l1) + l3) + v6 : Int32).toNatClampNeg) + 1) = T36 at kk ⊢
              try dsimp only at kk
              refine r_inc (y := 1) dX12_addStep_216 rfl rfl rfl ?_
              refine r_go dX12_addStep_219 rfl ?_
              show tR _ _ _ _ [some (.ref 571), some (.int l1), some (.int l2), some (.int l3), some (.int l4), some (.int l5), some (.int (v6 + 1)), some (.int (((60 * l1) + l3) + v6))] _ _ _ _
              exact r_eV (r' := x_m_addStep_11 l1 l2 l3 l4 l5 K f (v6 + 1) T36) rfl (r_le (le_s (le_s (le_s (le_s (le_s (le_s (le_s (le_n (le_0))))))))) (ih (v6 + 1) T36 kk))
            refine r_eV (r' := jn (fun (KJ4 : St) => if (x_m_stepOf T303 l2 3) = 2 then (KJ4) else (jn (fun (KJ5 : St) => if (x_m_stepOf T303 l2 3) = 1 then (if v6 = 0 then (KJ4) else (KJ5)) else (KJ5)) ((fun (T37 : St) => x_m_addStep_11 l1 l2 l3 l4 l5 K f (v6 + 1) T37) (sA T303 581 (((60 * l1) + l3) + v6 : Int32).toNatClampNeg ((T303.2.2.1 581 (((60 * l1) + l3) + v6 : Int32).toNatClampNeg) + 0))))) KJ4) (by rw [hKJ4]) ?_
            refine r_ceq dX12_addStep_191 rfl (fun c191_31 => ?_) (fun c191_31 => ?_)
            · have kk := kk.1 c191_31
              show tR _ _ _ _ [some (.ref 571), some (.int l1), some (.int l2), some (.int l3), some (.int l4), some (.int l5), some (.int v6), some (.int (((60 * l1) + l3) + v6))] [.int (T303.2.2.1 581 (((60 * l1) + l3) + v6 : Int32).toNatClampNeg), .int (((60 * l1) + l3) + v6), .ref 581] _ _ _
              exact r_eV (r' := KJ4) (by simp only [jn]; rw [if_pos c191_31]) ((hJ4  kk))
            · have kk := kk.2 c191_31
              refine r_p dX12_addStep_194 rfl rfl ?_
              refine r_p dX12_addStep_195 rfl rfl ?_
              refine r_ci (x := 3) dX12_addStep_196 rfl ?_
              refine r_cv (d1 := 1) dX12_addStep_197 cvX12_232 rfl rfl rfl rfl (Nat.le_of_ble_eq_true rfl) (Nat.le_of_ble_eq_true rfl) (Nat.le_of_ble_eq_true rfl) (c_m_stepOf l2 3 q29) ?_
              refine r_ci (x := 1) dX12_addStep_200 rfl ?_
              obtain ⟨KJ5, hKJ5⟩ : ∃ q : St, q = ((fun (T37 : St) => x_m_addStep_11 l1 l2 l3 l4 l5 K f (v6 + 1) T37) (sA T303 581 (((60 * l1) + l3) + v6 : Int32).toNatClampNeg ((T303.2.2.1 581 (((60 * l1) + l3) + v6 : Int32).toNatClampNeg) + 0))) := ⟨_, rfl⟩
              obtain ⟨OJ5, hOJ5⟩ : ∃ q : Prop, q = ((vp_in (((60 * l1) + l3) + v6) 300) ∧ (fun (T37 : St) => ok_m_addStep_11 l1 l2 l3 l4 l5 Kk f (v6 + 1) T37) (sA T303 581 (((60 * l1) + l3) + v6 : Int32).toNatClampNeg ((T303.2.2.1 581 (((60 * l1) + l3) + v6 : Int32).toNatClampNeg) + 0))) := ⟨_, rfl⟩
              rw [← hOJ5] at kk
              simp only [jn] at kk
              have hJ5 : OJ5 → tR X 1 mX12_addStep 213 [some (.ref 571), some (.int l1), some (.int l2), some (.int l3), some (.int l4), some (.int l5), some (.int v6), some (.int (((60 * l1) + l3) + v6))] [.int (T303.2.2.1 581 (((60 * l1) + l3) + v6 : Int32).toNatClampNeg), .int (((60 * l1) + l3) + v6), .ref 581] T303 none KJ5 := by
                intro  kk
                rw [hOJ5] at kk
                try dsimp only at kk
                rw [hKJ5]
                refine r_ci (x := 0) dX12_addStep_213 rfl ?_
                refine r_p dX12_addStep_214 rfl rfl ?_
                obtain ⟨q31, kk⟩ := kk
                refine r_ias dX12_addStep_215 rfl q31 ?_
                refine r_eV (r' := (fun (T37 : St) => x_m_addStep_11 l1 l2 l3 l4 l5 K f (v6 + 1) T37) (sA T303 581 (((60 * l1) + l3) + v6 : Int32).toNatClampNeg ((T303.2.2.1 581 (((60 * l1) + l3) + v6 : Int32).toNatClampNeg) + 0))) rfl ?_
                generalize sA T303 581 (((60 * l1) + l3) + v6 : Int32).toNatClampNeg ((T303.2.2.1 581 (((60 * l1) + l3) + v6 : Int32).toNatClampNeg) + 0) = T37 at kk ⊢
                try dsimp only at kk
                refine r_inc (y := 1) dX12_addStep_216 rfl rfl rfl ?_
                refine r_go dX12_addStep_219 rfl ?_
                show tR _ _ _ _ [some (.ref 571), some (.int l1), some (.int l2), some (.int l3), some (.int l4), some (.int l5), some (.int (v6 + 1)), some (.int (((60 * l1) + l3) + v6))] _ _ _ _
                exact r_eV (r' := x_m_addStep_11 l1 l2 l3 l4 l5 K f (v6 + 1) T37) rfl (r_le (le_s (le_s (le_s (le_s (le_s (le_s (le_s (le_n (le_0))))))))) (ih (v6 + 1) T37 kk))
              refine r_eV (r' := jn (fun (KJ5 : St) => if (x_m_stepOf T303 l2 3) = 1 then (if v6 = 0 then (KJ4) else (KJ5)) else (KJ5)) KJ5) (by rw [hKJ5]; simp only [jn]; rw [if_neg c191_31]) ?_
              refine r_cne dX12_addStep_201 rfl (fun c201_34 => ?_) (fun c201_34 => ?_)
              · have kk := kk.2 c201_34
                show tR _ _ _ _ [some (.ref 571), some (.int l1), some (.int l2), some (.int l3), some (.int l4), some (.int l5), some (.int v6), some (.int (((60 * l1) + l3) + v6))] [.int (T303.2.2.1 581 (((60 * l1) + l3) + v6 : Int32).toNatClampNeg), .int (((60 * l1) + l3) + v6), .ref 581] _ _ _
                exact r_eV (r' := KJ5) (by simp only [jn]; rw [if_neg c201_34]) ((hJ5  kk))
              · have kk := kk.1 c201_34
                refine r_p dX12_addStep_204 rfl rfl ?_
                refine r_ine dX12_addStep_206 rfl (fun c206_35 => ?_) (fun c206_35 => ?_)
                · have kk := kk.2 c206_35
                  show tR _ _ _ _ [some (.ref 571), some (.int l1), some (.int l2), some (.int l3), some (.int l4), some (.int l5), some (.int v6), some (.int (((60 * l1) + l3) + v6))] [.int (T303.2.2.1 581 (((60 * l1) + l3) + v6 : Int32).toNatClampNeg), .int (((60 * l1) + l3) + v6), .ref 581] _ _ _
                  exact r_eV (r' := KJ5) (by simp only [jn]; rw [if_pos c201_34, if_neg c206_35]) ((hJ5  kk))
                · have kk := kk.1 c206_35
                  show tR _ _ _ _ [some (.ref 571), some (.int l1), some (.int l2), some (.int l3), some (.int l4), some (.int l5), some (.int v6), some (.int (((60 * l1) + l3) + v6))] [.int (T303.2.2.1 581 (((60 * l1) + l3) + v6 : Int32).toNatClampNeg), .int (((60 * l1) + l3) + v6), .ref 581] _ _ _
                  exact r_eV (r' := KJ4) (by simp only [jn]; rw [if_pos c201_34, if_pos c206_35]) ((hJ4  kk))
          refine r_eV (r' := jn (fun (KJ3 : St → St) => if l5 = 2 then (fun (T38 : St) => jn (fun (KJ6 : Int32 → St) => if (x_m_stepOf T38 l2 4) ≤ (T38.2.2.1 583 (((60 * l1) + l3) + v6 : Int32).toNatClampNeg) then (KJ6 (T38.2.2.1 583 (((60 * l1) + l3) + v6 : Int32).toNatClampNeg)) else (KJ6 (x_m_stepOf T38 l2 4))) (fun (j6_s2 : Int32) => if ((sA T38 583 (((60 * l1) + l3) + v6 : Int32).toNatClampNeg j6_s2).2.2.1 584 (((60 * l1) + l3) + v6 : Int32).toNatClampNeg) ≤ (x_m_stepOf (sA T38 583 (((60 * l1) + l3) + v6 : Int32).toNatClampNeg j6_s2) l2 5) then (fun (T39 : St) => KJ3 T39) (sA (sA T38 583 (((60 * l1) + l3) + v6 : Int32).toNatClampNeg j6_s2) 584 (((60 * l1) + l3) + v6 : Int32).toNatClampNeg ((sA T38 583 (((60 * l1) + l3) + v6 : Int32).toNatClampNeg j6_s2).2.2.1 584 (((60 * l1) + l3) + v6 : Int32).toNatClampNeg)) else (fun (T40 : St) => KJ3 T40) (sA (sA T38 583 (((60 * l1) + l3) + v6 : Int32).toNatClampNeg j6_s2) 584 (((60 * l1) + l3) + v6 : Int32).toNatClampNeg (x_m_stepOf (sA T38 583 (((60 * l1) + l3) + v6 : Int32).toNatClampNeg j6_s2) l2 5)))) (sA T28 580 (((60 * l1) + l3) + v6 : Int32).toNatClampNeg ((T28.2.2.1 580 (((60 * l1) + l3) + v6 : Int32).toNatClampNeg) + 1)) else (KJ3 T28)) KJ3) (by rw [hKJ3]) ?_
          refine r_cne dX12_addStep_84 rfl (fun c84_36 => ?_) (fun c84_36 => ?_)
          · have kk := kk.2 c84_36
            show tR _ _ _ _ [some (.ref 571), some (.int l1), some (.int l2), some (.int l3), some (.int l4), some (.int l5), some (.int v6), some (.int (((60 * l1) + l3) + v6))] [] _ _ _
            exact r_eV (r' := KJ3 T28) (by simp only [jn]; rw [if_neg c84_36]) ((hJ3 T28 kk))
          · have kk := kk.1 c84_36
            refine r_p dX12_addStep_87 rfl rfl ?_
            refine r_get dX12_addStep_88 fkX12_34 rfl rfl ?_
            refine r_p dX12_addStep_91 rfl rfl ?_
            refine r_p dX12_addStep_93 rfl rfl ?_
            obtain ⟨q32, kk⟩ := kk
            refine r_ia dX12_addStep_94 rfl q32 ?_
            refine r_ci (x := 1) dX12_addStep_95 rfl ?_
            refine r_p dX12_addStep_96 rfl rfl ?_
            refine r_ias dX12_addStep_97 rfl q32 ?_
            refine r_eV (r' := (fun (T38 : St) => jn (fun (KJ6 : Int32 → St) => if (x_m_stepOf T38 l2 4) ≤ (T38.2.2.1 583 (((60 * l1) + l3) + v6 : Int32).toNatClampNeg) then (KJ6 (T38.2.2.1 583 (((60 * l1) + l3) + v6 : Int32).toNatClampNeg)) else (KJ6 (x_m_stepOf T38 l2 4))) (fun (j6_s2 : Int32) => if ((sA T38 583 (((60 * l1) + l3) + v6 : Int32).toNatClampNeg j6_s2).2.2.1 584 (((60 * l1) + l3) + v6 : Int32).toNatClampNeg) ≤ (x_m_stepOf (sA T38 583 (((60 * l1) + l3) + v6 : Int32).toNatClampNeg j6_s2) l2 5) then (fun (T39 : St) => KJ3 T39) (sA (sA T38 583 (((60 * l1) + l3) + v6 : Int32).toNatClampNeg j6_s2) 584 (((60 * l1) + l3) + v6 : Int32).toNatClampNeg ((sA T38 583 (((60 * l1) + l3) + v6 : Int32).toNatClampNeg j6_s2).2.2.1 584 (((60 * l1) + l3) + v6 : Int32).toNatClampNeg)) else (fun (T40 : St) => KJ3 T40) (sA (sA T38 583 (((60 * l1) + l3) + v6 : Int32).toNatClampNeg j6_s2) 584 (((60 * l1) + l3) + v6 : Int32).toNatClampNeg (x_m_stepOf (sA T38 583 (((60 * l1) + l3) + v6 : Int32).toNatClampNeg j6_s2) l2 5)))) (sA T28 580 (((60 * l1) + l3) + v6 : Int32).toNatClampNeg ((T28.2.2.1 580 (((60 * l1) + l3) + v6 : Int32).toNatClampNeg) + 1))) (by simp only [jn]; rw [if_pos c84_36]) ?_
            generalize sA T28 580 (((60 * l1) + l3) + v6 : Int32).toNatClampNeg ((T28.2.2.1 580 (((60 * l1) + l3) + v6 : Int32).toNatClampNeg) + 1) = T38 at kk ⊢
            try dsimp only at kk
            refine r_p dX12_addStep_98 rfl rfl ?_
            refine r_get dX12_addStep_99 fkX12_43 rfl rfl ?_
            refine r_p dX12_addStep_102 rfl rfl ?_
            refine r_p dX12_addStep_104 rfl rfl ?_
            refine r_p dX12_addStep_105 rfl rfl ?_
            refine r_ci (x := 4) dX12_addStep_106 rfl ?_
            obtain ⟨q33, kk⟩ := kk
            refine r_cv (d1 := 1) dX12_addStep_107 cvX12_232 rfl rfl rfl rfl (Nat.le_of_ble_eq_true rfl) (Nat.le_of_ble_eq_true rfl) (Nat.le_of_ble_eq_true rfl) (c_m_stepOf l2 4 q33) ?_
            refine r_p dX12_addStep_110 rfl rfl ?_
            refine r_get dX12_addStep_111 fkX12_43 rfl rfl ?_
            refine r_p dX12_addStep_114 rfl rfl ?_
            obtain ⟨q34, kk⟩ := kk
            refine r_ia dX12_addStep_116 rfl q34 ?_
            obtain ⟨KJ6, hKJ6⟩ : ∃ q : Int32 → St, q = (fun (j6_s2 : Int32) => if ((sA T38 583 (((60 * l1) + l3) + v6 : Int32).toNatClampNeg j6_s2).2.2.1 584 (((60 * l1) + l3) + v6 : Int32).toNatClampNeg) ≤ (x_m_stepOf (sA T38 583 (((60 * l1) + l3) + v6 : Int32).toNatClampNeg j6_s2) l2 5) then (fun (T39 : St) => KJ3 T39) (sA (sA T38 583 (((60 * l1) + l3) + v6 : Int32).toNatClampNeg j6_s2) 584 (((60 * l1) + l3) + v6 : Int32).toNatClampNeg ((sA T38 583 (((60 * l1) + l3) + v6 : Int32).toNatClampNeg j6_s2).2.2.1 584 (((60 * l1) + l3) + v6 : Int32).toNatClampNeg)) else (fun (T40 : St) => KJ3 T40) (sA (sA T38 583 (((60 * l1) + l3) + v6 : Int32).toNatClampNeg j6_s2) 584 (((60 * l1) + l3) + v6 : Int32).toNatClampNeg (x_m_stepOf (sA T38 583 (((60 * l1) + l3) + v6 : Int32).toNatClampNeg j6_s2) l2 5))) := ⟨_, rfl⟩
            obtain ⟨OJ6, hOJ6⟩ : ∃ q : Int32 → Prop, q = (fun (j6_s2 : Int32) => (vp_in (((60 * l1) + l3) + v6) 300) ∧ (ok_m_stepOf (sA T38 583 (((60 * l1) + l3) + v6 : Int32).toNatClampNeg j6_s2) l2 5) ∧ ((((sA T38 583 (((60 * l1) + l3) + v6 : Int32).toNatClampNeg j6_s2).2.2.1 584 (((60 * l1) + l3) + v6 : Int32).toNatClampNeg) ≤ (x_m_stepOf (sA T38 583 (((60 * l1) + l3) + v6 : Int32).toNatClampNeg j6_s2) l2 5) → (fun (T39 : St) => OJ3 T39) (sA (sA T38 583 (((60 * l1) + l3) + v6 : Int32).toNatClampNeg j6_s2) 584 (((60 * l1) + l3) + v6 : Int32).toNatClampNeg ((sA T38 583 (((60 * l1) + l3) + v6 : Int32).toNatClampNeg j6_s2).2.2.1 584 (((60 * l1) + l3) + v6 : Int32).toNatClampNeg))) ∧ (¬ ((sA T38 583 (((60 * l1) + l3) + v6 : Int32).toNatClampNeg j6_s2).2.2.1 584 (((60 * l1) + l3) + v6 : Int32).toNatClampNeg) ≤ (x_m_stepOf (sA T38 583 (((60 * l1) + l3) + v6 : Int32).toNatClampNeg j6_s2) l2 5) → (fun (T40 : St) => OJ3 T40) (sA (sA T38 583 (((60 * l1) + l3) + v6 : Int32).toNatClampNeg j6_s2) 584 (((60 * l1) + l3) + v6 : Int32).toNatClampNeg (x_m_stepOf (sA T38 583 (((60 * l1) + l3) + v6 : Int32).toNatClampNeg j6_s2) l2 5))))) := ⟨_, rfl⟩
            rw [← hOJ6] at kk
            simp only [jn] at kk
            have hJ6 : ∀ (j6_s2 : Int32), OJ6 j6_s2 → tR X 1 mX12_addStep 136 [some (.ref 571), some (.int l1), some (.int l2), some (.int l3), some (.int l4), some (.int l5), some (.int v6), some (.int (((60 * l1) + l3) + v6))] [.int j6_s2, .int (((60 * l1) + l3) + v6), .ref 583] T38 none (KJ6 j6_s2) := by
              intro j6_s2 kk
              rw [hOJ6] at kk
              try dsimp only at kk
              rw [hKJ6]
              obtain ⟨q35, kk⟩ := kk
              refine r_ias dX12_addStep_136 rfl q35 ?_
              refine r_p dX12_addStep_137 rfl rfl ?_
              refine r_get dX12_addStep_138 fkX12_46 rfl rfl ?_
              refine r_p dX12_addStep_141 rfl rfl ?_
              refine r_p dX12_addStep_143 rfl rfl ?_
              refine r_p dX12_addStep_144 rfl rfl ?_
              refine r_ci (x := 5) dX12_addStep_145 rfl ?_
              obtain ⟨q36, kk⟩ := kk
              refine r_cv (d1 := 1) dX12_addStep_146 cvX12_232 rfl rfl rfl rfl (Nat.le_of_ble_eq_true rfl) (Nat.le_of_ble_eq_true rfl) (Nat.le_of_ble_eq_true rfl) (c_m_stepOf l2 5 q36) ?_
              refine r_p dX12_addStep_149 rfl rfl ?_
              refine r_get dX12_addStep_150 fkX12_46 rfl rfl ?_
              refine r_p dX12_addStep_153 rfl rfl ?_
              refine r_ia dX12_addStep_155 rfl q35 ?_
              refine r_cge dX12_addStep_156 rfl (fun c156_38 => ?_) (fun c156_38 => ?_)
              · have kk := kk.1 c156_38
                refine r_p dX12_addStep_168 rfl rfl ?_
                refine r_get dX12_addStep_169 fkX12_46 rfl rfl ?_
                refine r_p dX12_addStep_172 rfl rfl ?_
                refine r_ia dX12_addStep_174 rfl q35 ?_
                refine r_ias dX12_addStep_175 rfl q35 ?_
                refine r_eV (r' := (fun (T39 : St) => KJ3 T39) (sA (sA T38 583 (((60 * l1) + l3) + v6 : Int32).toNatClampNeg j6_s2) 584 (((60 * l1) + l3) + v6 : Int32).toNatClampNeg ((sA T38 583 (((60 * l1) + l3) + v6 : Int32).toNatClampNeg j6_s2).2.2.1 584 (((60 * l1) + l3) + v6 : Int32).toNatClampNeg))) (by first | rw [if_pos c156_38] | (dsimp only; rw [if_pos c156_38])) ?_
                generalize sA (sA T38 583 (((60 * l1) + l3) + v6 : Int32).toNatClampNeg j6_s2) 584 (((60 * l1) + l3) + v6 : Int32).toNatClampNeg ((sA T38 583 (((60 * l1) + l3) + v6 : Int32).toNatClampNeg j6_s2).2.2.1 584 (((60 * l1) + l3) + v6 : Int32).toNatClampNeg) = T39 at kk ⊢
                try dsimp only at kk
                show tR _ _ _ _ [some (.ref 571), some (.int l1), some (.int l2), some (.int l3), some (.int l4), some (.int l5), some (.int v6), some (.int (((60 * l1) + l3) + v6))] [] _ _ _
                exact r_eV (r' := KJ3 T39) rfl ((hJ3 T39 kk))
              · have kk := kk.2 c156_38
                refine r_p dX12_addStep_159 rfl rfl ?_
                refine r_p dX12_addStep_160 rfl rfl ?_
                refine r_ci (x := 5) dX12_addStep_161 rfl ?_
                refine r_cv (d1 := 1) dX12_addStep_162 cvX12_232 rfl rfl rfl rfl (Nat.le_of_ble_eq_true rfl) (Nat.le_of_ble_eq_true rfl) (Nat.le_of_ble_eq_true rfl) (c_m_stepOf l2 5 q36) ?_
                refine r_go dX12_addStep_165 rfl ?_
                refine r_ias dX12_addStep_175 rfl q35 ?_
                refine r_eV (r' := (fun (T40 : St) => KJ3 T40) (sA (sA T38 583 (((60 * l1) + l3) + v6 : Int32).toNatClampNeg j6_s2) 584 (((60 * l1) + l3) + v6 : Int32).toNatClampNeg (x_m_stepOf (sA T38 583 (((60 * l1) + l3) + v6 : Int32).toNatClampNeg j6_s2) l2 5))) (by first | rw [if_neg c156_38] | (dsimp only; rw [if_neg c156_38])) ?_
                generalize sA (sA T38 583 (((60 * l1) + l3) + v6 : Int32).toNatClampNeg j6_s2) 584 (((60 * l1) + l3) + v6 : Int32).toNatClampNeg (x_m_stepOf (sA T38 583 (((60 * l1) + l3) + v6 : Int32).toNatClampNeg j6_s2) l2 5) = T40 at kk ⊢
                try dsimp only at kk
                show tR _ _ _ _ [some (.ref 571), some (.int l1), some (.int l2), some (.int l3), some (.int l4), some (.int l5), some (.int v6), some (.int (((60 * l1) + l3) + v6))] [] _ _ _
                exact r_eV (r' := KJ3 T40) rfl ((hJ3 T40 kk))
            refine r_eV (r' := jn (fun (KJ6 : Int32 → St) => if (x_m_stepOf T38 l2 4) ≤ (T38.2.2.1 583 (((60 * l1) + l3) + v6 : Int32).toNatClampNeg) then (KJ6 (T38.2.2.1 583 (((60 * l1) + l3) + v6 : Int32).toNatClampNeg)) else (KJ6 (x_m_stepOf T38 l2 4))) KJ6) (by rw [hKJ6]) ?_
            refine r_cle dX12_addStep_117 rfl (fun c117_39 => ?_) (fun c117_39 => ?_)
            · have kk := kk.1 c117_39
              refine r_p dX12_addStep_129 rfl rfl ?_
              refine r_get dX12_addStep_130 fkX12_43 rfl rfl ?_
              refine r_p dX12_addStep_133 rfl rfl ?_
              refine r_ia dX12_addStep_135 rfl q34 ?_
              show tR _ _ _ _ [some (.ref 571), some (.int l1), some (.int l2), some (.int l3), some (.int l4), some (.int l5), some (.int v6), some (.int (((60 * l1) + l3) + v6))] [.int (T38.2.2.1 583 (((60 * l1) + l3) + v6 : Int32).toNatClampNeg), .int (((60 * l1) + l3) + v6), .ref 583] _ _ _
              exact r_eV (r' := KJ6 (T38.2.2.1 583 (((60 * l1) + l3) + v6 : Int32).toNatClampNeg)) (by simp only [jn]; rw [if_pos c117_39]) ((hJ6 (T38.2.2.1 583 (((60 * l1) + l3) + v6 : Int32).toNatClampNeg) kk))
            · have kk := kk.2 c117_39
              refine r_p dX12_addStep_120 rfl rfl ?_
              refine r_p dX12_addStep_121 rfl rfl ?_
              refine r_ci (x := 4) dX12_addStep_122 rfl ?_
              refine r_cv (d1 := 1) dX12_addStep_123 cvX12_232 rfl rfl rfl rfl (Nat.le_of_ble_eq_true rfl) (Nat.le_of_ble_eq_true rfl) (Nat.le_of_ble_eq_true rfl) (c_m_stepOf l2 4 q33) ?_
              refine r_go dX12_addStep_126 rfl ?_
              show tR _ _ _ _ [some (.ref 571), some (.int l1), some (.int l2), some (.int l3), some (.int l4), some (.int l5), some (.int v6), some (.int (((60 * l1) + l3) + v6))] [.int (x_m_stepOf T38 l2 4), .int (((60 * l1) + l3) + v6), .ref 583] _ _ _
              exact r_eV (r' := KJ6 (x_m_stepOf T38 l2 4)) (by simp only [jn]; rw [if_neg c117_39]) ((hJ6 (x_m_stepOf T38 l2 4) kk))
        refine r_eV (r' := jn (fun (KJ2 : St) => if l5 = 1 then (if (x_m_stepOf T1 l2 4) = 1 then (fun (T41 : St) => jn (fun (KJ7 : St → St) => if l5 = 2 then (fun (T51 : St) => jn (fun (KJ10 : Int32 → St) => if (x_m_stepOf T51 l2 4) ≤ (T51.2.2.1 583 (((60 * l1) + l3) + v6 : Int32).toNatClampNeg) then (KJ10 (T51.2.2.1 583 (((60 * l1) + l3) + v6 : Int32).toNatClampNeg)) else (KJ10 (x_m_stepOf T51 l2 4))) (fun (j10_s2 : Int32) => if ((sA T51 583 (((60 * l1) + l3) + v6 : Int32).toNatClampNeg j10_s2).2.2.1 584 (((60 * l1) + l3) + v6 : Int32).toNatClampNeg) ≤ (x_m_stepOf (sA T51 583 (((60 * l1) + l3) + v6 : Int32).toNatClampNeg j10_s2) l2 5) then (fun (T52 : St) => KJ7 T52) (sA (sA T51 583 (((60 * l1) + l3) + v6 : Int32).toNatClampNeg j10_s2) 584 (((60 * l1) + l3) + v6 : Int32).toNatClampNeg ((sA T51 583 (((60 * l1) + l3) + v6 : Int32).toNatClampNeg j10_s2).2.2.1 584 (((60 * l1) + l3) + v6 : Int32).toNatClampNeg)) else (fun (T53 : St) => KJ7 T53) (sA (sA T51 583 (((60 * l1) + l3) + v6 : Int32).toNatClampNeg j10_s2) 584 (((60 * l1) + l3) + v6 : Int32).toNatClampNeg (x_m_stepOf (sA T51 583 (((60 * l1) + l3) + v6 : Int32).toNatClampNeg j10_s2) l2 5)))) (sA T41 580 (((60 * l1) + l3) + v6 : Int32).toNatClampNeg ((T41.2.2.1 580 (((60 * l1) + l3) + v6 : Int32).toNatClampNeg) + 1)) else (KJ7 T41)) (fun (T307 : St) => jn (fun (KJ8 : St) => if (x_m_stepOf T307 l2 3) = 2 then (KJ8) else (jn (fun (KJ9 : St) => if (x_m_stepOf T307 l2 3) = 1 then (if v6 = 0 then (KJ8) else (KJ9)) else (KJ9)) ((fun (T50 : St) => x_m_addStep_11 l1 l2 l3 l4 l5 K f (v6 + 1) T50) (sA T307 581 (((60 * l1) + l3) + v6 : Int32).toNatClampNeg ((T307.2.2.1 581 (((60 * l1) + l3) + v6 : Int32).toNatClampNeg) + 0))))) ((fun (T49 : St) => x_m_addStep_11 l1 l2 l3 l4 l5 K f (v6 + 1) T49) (sA T307 581 (((60 * l1) + l3) + v6 : Int32).toNatClampNeg ((T307.2.2.1 581 (((60 * l1) + l3) + v6 : Int32).toNatClampNeg) + 1))))) (sA T1 578 (((60 * l1) + l3) + v6 : Int32).toNatClampNeg ((T1.2.2.1 578 (((60 * l1) + l3) + v6 : Int32).toNatClampNeg) + 1)) else (KJ2)) else (KJ2)) KJ2) (by rw [hKJ2]) ?_
        refine r_cne dX12_addStep_61 rfl (fun c61_40 => ?_) (fun c61_40 => ?_)
        · have kk := kk.2 c61_40
          show tR _ _ _ _ [some (.ref 571), some (.int l1), some (.int l2), some (.int l3), some (.int l4), some (.int l5), some (.int v6), some (.int (((60 * l1) + l3) + v6))] [.int (T1.2.2.1 578 (((60 * l1) + l3) + v6 : Int32).toNatClampNeg), .int (((60 * l1) + l3) + v6), .ref 578] _ _ _
          exact r_eV (r' := KJ2) (by simp only [jn]; rw [if_neg c61_40]) ((hJ2  kk))
        · have kk := kk.1 c61_40
          refine r_p dX12_addStep_64 rfl rfl ?_
          refine r_p dX12_addStep_65 rfl rfl ?_
          refine r_ci (x := 4) dX12_addStep_66 rfl ?_
          obtain ⟨q37, kk⟩ := kk
          refine r_cv (d1 := 1) dX12_addStep_67 cvX12_232 rfl rfl rfl rfl (Nat.le_of_ble_eq_true rfl) (Nat.le_of_ble_eq_true rfl) (Nat.le_of_ble_eq_true rfl) (c_m_stepOf l2 4 q37) ?_
          refine r_ci (x := 1) dX12_addStep_70 rfl ?_
          refine r_cne dX12_addStep_71 rfl (fun c71_41 => ?_) (fun c71_41 => ?_)
          · have kk := kk.2 c71_41
            show tR _ _ _ _ [some (.ref 571), some (.int l1), some (.int l2), some (.int l3), some (.int l4), some (.int l5), some (.int v6), some (.int (((60 * l1) + l3) + v6))] [.int (T1.2.2.1 578 (((60 * l1) + l3) + v6 : Int32).toNatClampNeg), .int (((60 * l1) + l3) + v6), .ref 578] _ _ _
            exact r_eV (r' := KJ2) (by simp only [jn]; rw [if_pos c61_40, if_neg c71_41]) ((hJ2  kk))
          · have kk := kk.1 c71_41
            refine r_ci (x := 1) dX12_addStep_74 rfl ?_
            refine r_go dX12_addStep_75 rfl ?_
            refine r_p dX12_addStep_79 rfl rfl ?_
            refine r_ias dX12_addStep_80 rfl q4 ?_
            refine r_eV (r' := (fun (T41 : St) => jn (fun (KJ7 : St → St) => if l5 = 2 then (fun (T51 : St) => jn (fun (KJ10 : Int32 → St) => if (x_m_stepOf T51 l2 4) ≤ (T51.2.2.1 583 (((60 * l1) + l3) + v6 : Int32).toNatClampNeg) then (KJ10 (T51.2.2.1 583 (((60 * l1) + l3) + v6 : Int32).toNatClampNeg)) else (KJ10 (x_m_stepOf T51 l2 4))) (fun (j10_s2 : Int32) => if ((sA T51 583 (((60 * l1) + l3) + v6 : Int32).toNatClampNeg j10_s2).2.2.1 584 (((60 * l1) + l3) + v6 : Int32).toNatClampNeg) ≤ (x_m_stepOf (sA T51 583 (((60 * l1) + l3) + v6 : Int32).toNatClampNeg j10_s2) l2 5) then (fun (T52 : St) => KJ7 T52) (sA (sA T51 583 (((60 * l1) + l3) + v6 : Int32).toNatClampNeg j10_s2) 584 (((60 * l1) + l3) + v6 : Int32).toNatClampNeg ((sA T51 583 (((60 * l1) + l3) + v6 : Int32).toNatClampNeg j10_s2).2.2.1 584 (((60 * l1) + l3) + v6 : Int32).toNatClampNeg)) else (fun (T53 : St) => KJ7 T53) (sA (sA T51 583 (((60 * l1) + l3) + v6 : Int32).toNatClampNeg j10_s2) 584 (((60 * l1) + l3) + v6 : Int32).toNatClampNeg (x_m_stepOf (sA T51 583 (((60 * l1) + l3) + v6 : Int32).toNatClampNeg j10_s2) l2 5)))) (sA T41 580 (((60 * l1) + l3) + v6 : Int32).toNatClampNeg ((T41.2.2.1 580 (((60 * l1) + l3) + v6 : Int32).toNatClampNeg) + 1)) else (KJ7 T41)) (fun (T307 : St) => jn (fun (KJ8 : St) => if (x_m_stepOf T307 l2 3) = 2 then (KJ8) else (jn (fun (KJ9 : St) => if (x_m_stepOf T307 l2 3) = 1 then (if v6 = 0 then (KJ8) else (KJ9)) else (KJ9)) ((fun (T50 : St) => x_m_addStep_11 l1 l2 l3 l4 l5 K f (v6 + 1) T50) (sA T307 581 (((60 * l1) + l3) + v6 : Int32).toNatClampNeg ((T307.2.2.1 581 (((60 * l1) + l3) + v6 : Int32).toNatClampNeg) + 0))))) ((fun (T49 : St) => x_m_addStep_11 l1 l2 l3 l4 l5 K f (v6 + 1) T49) (sA T307 581 (((60 * l1) + l3) + v6 : Int32).toNatClampNeg ((T307.2.2.1 581 (((60 * l1) + l3) + v6 : Int32).toNatClampNeg) + 1))))) (sA T1 578 (((60 * l1) + l3) + v6 : Int32).toNatClampNeg ((T1.2.2.1 578 (((60 * l1) + l3) + v6 : Int32).toNatClampNeg) + 1))) (by simp only [jn]; rw [if_pos c61_40, if_pos c71_41]) ?_
            generalize sA T1 578 (((60 * l1) + l3) + v6 : Int32).toNatClampNeg ((T1.2.2.1 578 (((60 * l1) + l3) + v6 : Int32).toNatClampNeg) + 1) = T41 at kk ⊢
            try dsimp only at kk
            refine r_p dX12_addStep_81 rfl rfl ?_
            refine r_ci (x := 2) dX12_addStep_83 rfl ?_
            obtain ⟨KJ7, hKJ7⟩ : ∃ q : St → St, q = (fun (T307 : St) => jn (fun (KJ8 : St) => if (x_m_stepOf T307 l2 3) = 2 then (KJ8) else (jn (fun (KJ9 : St) => if (x_m_stepOf T307 l2 3) = 1 then (if v6 = 0 then (KJ8) else (KJ9)) else (KJ9)) ((fun (T50 : St) => x_m_addStep_11 l1 l2 l3 l4 l5 K f (v6 + 1) T50) (sA T307 581 (((60 * l1) + l3) + v6 : Int32).toNatClampNeg ((T307.2.2.1 581 (((60 * l1) + l3) + v6 : Int32).toNatClampNeg) + 0))))) ((fun (T49 : St) => x_m_addStep_11 l1 l2 l3 l4 l5 K f (v6 + 1) T49) (sA T307 581 (((60 * l1) + l3) + v6 : Int32).toNatClampNeg ((T307.2.2.1 581 (((60 * l1) + l3) + v6 : Int32).toNatClampNeg) + 1)))) := ⟨_, rfl⟩
            obtain ⟨OJ7, hOJ7⟩ : ∃ q : St → Prop, q = (fun (T307 : St) => (vp_in (((60 * l1) + l3) + v6) 300) ∧ (ok_m_stepOf T307 l2 3) ∧ jn (fun (OJ8 : Prop) => (((x_m_stepOf T307 l2 3) = 2 → OJ8) ∧ (¬ (x_m_stepOf T307 l2 3) = 2 → jn (fun (OJ9 : Prop) => (((x_m_stepOf T307 l2 3) = 1 → ((v6 = 0 → OJ8) ∧ (¬ v6 = 0 → OJ9))) ∧ (¬ (x_m_stepOf T307 l2 3) = 1 → OJ9))) ((vp_in (((60 * l1) + l3) + v6) 300) ∧ (fun (T50 : St) => ok_m_addStep_11 l1 l2 l3 l4 l5 Kk f (v6 + 1) T50) (sA T307 581 (((60 * l1) + l3) + v6 : Int32).toNatClampNeg ((T307.2.2.1 581 (((60 * l1) + l3) + v6 : Int32).toNatClampNeg) + 0)))))) ((vp_in (((60 * l1) + l3) + v6) 300) ∧ (fun (T49 : St) => ok_m_addStep_11 l1 l2 l3 l4 l5 Kk f (v6 + 1) T49) (sA T307 581 (((60 * l1) + l3) + v6 : Int32).toNatClampNeg ((T307.2.2.1 581 (((60 * l1) + l3) + v6 : Int32).toNatClampNeg) + 1)))) := ⟨_, rfl⟩
            rw [← hOJ7] at kk
            simp only [jn] at kk
            have hJ7 : ∀ (T307 : St), OJ7 T307 → tR X 1 mX12_addStep 176 [some (.ref 571), some (.int l1), some (.int l2), some (.int l3), some (.int l4), some (.int l5), some (.int v6), some (.int (((60 * l1) + l3) + v6))] [] T307 none (KJ7 T307) := by
              intro T307 kk
              rw [hOJ7] at kk
              try dsimp only at kk
              rw [hKJ7]
              refine r_p dX12_addStep_176 rfl rfl ?_
              refine r_get dX12_addStep_177 fkX12_37 rfl rfl ?_
              refine r_p dX12_addStep_180 rfl rfl ?_
              refine r_p dX12_addStep_182 rfl rfl ?_
              obtain ⟨q44, kk⟩ := kk
              refine r_ia dX12_addStep_183 rfl q44 ?_
              refine r_p dX12_addStep_184 rfl rfl ?_
              refine r_p dX12_addStep_185 rfl rfl ?_
              refine r_ci (x := 3) dX12_addStep_186 rfl ?_
              obtain ⟨q45, kk⟩ := kk
              refine r_cv (d1 := 1) dX12_addStep_187 cvX12_232 rfl rfl rfl rfl (Nat.le_of_ble_eq_true rfl) (Nat.le_of_ble_eq_true rfl) (Nat.le_of_ble_eq_true rfl) (c_m_stepOf l2 3 q45) ?_
              refine r_ci (x := 2) dX12_addStep_190 rfl ?_
              obtain ⟨KJ8, hKJ8⟩ : ∃ q : St, q = ((fun (T49 : St) => x_m_addStep_11 l1 l2 l3 l4 l5 K f (v6 + 1) T49) (sA T307 581 (((60 * l1) + l3) + v6 : Int32).toNatClampNeg ((T307.2.2.1 581 (((60 * l1) + l3) + v6 : Int32).toNatClampNeg) + 1))) := ⟨_, rfl⟩
              obtain ⟨OJ8, hOJ8⟩ : ∃ q : Prop, q = ((vp_in (((60 * l1) + l3) + v6) 300) ∧ (fun (T49 : St) => ok_m_addStep_11 l1 l2 l3 l4 l5 Kk f (v6 + 1) T49) (sA T307 581 (((60 * l1) + l3) + v6 : Int32).toNatClampNeg ((T307.2.2.1 581 (((60 * l1) + l3) + v6 : Int32).toNatClampNeg) + 1))) := ⟨_, rfl⟩
              rw [← hOJ8] at kk
              simp only [jn] at kk
              have hJ8 : OJ8 → tR X 1 mX12_addStep 209 [some (.ref 571), some (.int l1), some (.int l2), some (.int l3), some (.int l4), some (.int l5), some (.int v6), some (.int (((60 * l1) + l3) + v6))] [.int (T307.2.2.1 581 (((60 * l1) + l3) + v6 : Int32).toNatClampNeg), .int (((60 * l1) + l3) + v6), .ref 581] T307 none KJ8 := by
                intro  kk
                rw [hOJ8] at kk
                try dsimp only at kk
                rw [hKJ8]
                refine r_ci (x := 1) dX12_addStep_209 rfl ?_
                refine r_go dX12_addStep_210 rfl ?_
                refine r_p dX12_addStep_214 rfl rfl ?_
                obtain ⟨q46, kk⟩ := kk
                refine r_ias dX12_addStep_215 rfl q46 ?_
                refine r_eV (r' := (fun (T49 : St) => x_m_addStep_11 l1 l2 l3 l4 l5 K f (v6 + 1) T49) (sA T307 581 (((60 * l1) + l3) + v6 : Int32).toNatClampNeg ((T307.2.2.1 581 (((60 * l1) + l3) + v6 : Int32).toNatClampNeg) + 1))) rfl ?_
                generalize sA T307 581 (((60 * l1) + l3) + v6 : Int32).toNatClampNeg ((T307.2.2.1 581 (((60 * l1) + l3) + v6 : Int32).toNatClampNeg) + 1) = T49 at kk ⊢
                try dsimp only at kk
                refine r_inc (y := 1) dX12_addStep_216 rfl rfl rfl ?_
                refine r_go dX12_addStep_219 rfl ?_
                show tR _ _ _ _ [some (.ref 571), some (.int l1), some (.int l2), some (.int l3), some (.int l4), some (.int l5), some (.int (v6 + 1)), some (.int (((60 * l1) + l3) + v6))] _ _ _ _
                exact r_eV (r' := x_m_addStep_11 l1 l2 l3 l4 l5 K f (v6 + 1) T49) rfl (r_le (le_s (le_s (le_s (le_s (le_s (le_s (le_s (le_n (le_0))))))))) (ih (v6 + 1) T49 kk))
              refine r_eV (r' := jn (fun (KJ8 : St) => if (x_m_stepOf T307 l2 3) = 2 then (KJ8) else (jn (fun (KJ9 : St) => if (x_m_stepOf T307 l2 3) = 1 then (if v6 = 0 then (KJ8) else (KJ9)) else (KJ9)) ((fun (T50 : St) => x_m_addStep_11 l1 l2 l3 l4 l5 K f (v6 + 1) T50) (sA T307 581 (((60 * l1) + l3) + v6 : Int32).toNatClampNeg ((T307.2.2.1 581 (((60 * l1) + l3) + v6 : Int32).toNatClampNeg) + 0))))) KJ8) (by rw [hKJ8]) ?_
              refine r_ceq dX12_addStep_191 rfl (fun c191_49 => ?_) (fun c191_49 => ?_)
              · have kk := kk.1 c191_49
                show tR _ _ _ _ [some (.ref 571), some (.int l1), some (.int l2), some (.int l3), some (.int l4), some (.int l5), some (.int v6), some (.int (((60 * l1) + l3) + v6))] [.int (T307.2.2.1 581 (((60 * l1) + l3) + v6 : Int32).toNatClampNeg), .int (((60 * l1) + l3) + v6), .ref 581] _ _ _
                exact r_eV (r' := KJ8) (by simp only [jn]; rw [if_pos c191_49]) ((hJ8  kk))
              · have kk := kk.2 c191_49
                refine r_p dX12_addStep_194 rfl rfl ?_
                refine r_p dX12_addStep_195 rfl rfl ?_
                refine r_ci (x := 3) dX12_addStep_196 rfl ?_
                refine r_cv (d1 := 1) dX12_addStep_197 cvX12_232 rfl rfl rfl rfl (Nat.le_of_ble_eq_true rfl) (Nat.le_of_ble_eq_true rfl) (Nat.le_of_ble_eq_true rfl) (c_m_stepOf l2 3 q45) ?_
                refine r_ci (x := 1) dX12_addStep_200 rfl ?_
                obtain ⟨KJ9, hKJ9⟩ : ∃ q : St, q = ((fun (T50 : St) => x_m_addStep_11 l1 l2 l3 l4 l5 K f (v6 + 1) T50) (sA T307 581 (((60 * l1) + l3) + v6 : Int32).toNatClampNeg ((T307.2.2.1 581 (((60 * l1) + l3) + v6 : Int32).toNatClampNeg) + 0))) := ⟨_, rfl⟩
                obtain ⟨OJ9, hOJ9⟩ : ∃ q : Prop, q = ((vp_in (((60 * l1) + l3) + v6) 300) ∧ (fun (T50 : St) => ok_m_addStep_11 l1 l2 l3 l4 l5 Kk f (v6 + 1) T50) (sA T307 581 (((60 * l1) + l3) + v6 : Int32).toNatClampNeg ((T307.2.2.1 581 (((60 * l1) + l3) + v6 : Int32).toNatClampNeg) + 0))) := ⟨_, rfl⟩
                rw [← hOJ9] at kk
                simp only [jn] at kk
                have hJ9 : OJ9 → tR X 1 mX12_addStep 213 [some (.ref 571), some (.int l1), some (.int l2), some (.int l3), some (.int l4), some (.int l5), some (.int v6), some (.int (((60 * l1) + l3) + v6))] [.int (T307.2.2.1 581 (((60 * l1) + l3) + v6 : Int32).toNatClampNeg), .int (((60 * l1) + l3) + v6), .ref 581] T307 none KJ9 := by
                  intro  kk
                  rw [hOJ9] at kk
                  try dsimp only at kk
                  rw [hKJ9]
                  refine r_ci (x := 0) dX12_addStep_213 rfl ?_
                  refine r_p dX12_addStep_214 rfl rfl ?_
                  obtain ⟨q47, kk⟩ := kk
                  refine r_ias dX12_addStep_215 rfl q47 ?_
                  refine r_eV (r' := (fun (T50 : St) => x_m_addStep_11 l1 l2 l3 l4 l5 K f (v6 + 1) T50) (sA T307 581 (((60 * l1) + l3) + v6 : Int32).toNatClampNeg ((T307.2.2.1 581 (((60 * l1) + l3) + v6 : Int32).toNatClampNeg) + 0))) rfl ?_
                  generalize sA T307 581 (((60 * l1) + l3) + v6 : Int32).toNatClampNeg ((T307.2.2.1 581 (((60 * l1) + l3) + v6 : Int32).toNatClampNeg) + 0) = T50 at kk ⊢
                  try dsimp only at kk
                  refine r_inc (y := 1) dX12_addStep_216 rfl rfl rfl ?_
                  refine r_go dX12_addStep_219 rfl ?_
                  show tR _ _ _ _ [some (.ref 571), some (.int l1), some (.int l2), some (.int l3), some (.int l4), some (.int l5), some (.int (v6 + 1)), some (.int (((60 * l1) + l3) + v6))] _ _ _ _
                  exact r_eV (r' := x_m_addStep_11 l1 l2 l3 l4 l5 K f (v6 + 1) T50) rfl (r_le (le_s (le_s (le_s (le_s (le_s (le_s (le_s (le_n (le_0))))))))) (ih (v6 + 1) T50 kk))
                refine r_eV (r' := jn (fun (KJ9 : St) => if (x_m_stepOf T307 l2 3) = 1 then (if v6 = 0 then (KJ8) else (KJ9)) else (KJ9)) KJ9) (by rw [hKJ9]; simp only [jn]; rw [if_neg c191_49]) ?_
                refine r_cne dX12_addStep_201 rfl (fun c201_52 => ?_) (fun c201_52 => ?_)
                · have kk := kk.2 c201_52
                  show tR _ _ _ _ [some (.ref 571), some (.int l1), some (.int l2), some (.int l3), some (.int l4), some (.int l5), some (.int v6), some (.int (((60 * l1) + l3) + v6))] [.int (T307.2.2.1 581 (((60 * l1) + l3) + v6 : Int32).toNatClampNeg), .int (((60 * l1) + l3) + v6), .ref 581] _ _ _
                  exact r_eV (r' := KJ9) (by simp only [jn]; rw [if_neg c201_52]) ((hJ9  kk))
                · have kk := kk.1 c201_52
                  refine r_p dX12_addStep_204 rfl rfl ?_
                  refine r_ine dX12_addStep_206 rfl (fun c206_53 => ?_) (fun c206_53 => ?_)
                  · have kk := kk.2 c206_53
                    show tR _ _ _ _ [some (.ref 571), some (.int l1), some (.int l2), some (.int l3), some (.int l4), some (.int l5), some (.int v6), some (.int (((60 * l1) + l3) + v6))] [.int (T307.2.2.1 581 (((60 * l1) + l3) + v6 : Int32).toNatClampNeg), .int (((60 * l1) + l3) + v6), .ref 581] _ _ _
                    exact r_eV (r' := KJ9) (by simp only [jn]; rw [if_pos c201_52, if_neg c206_53]) ((hJ9  kk))
                  · have kk := kk.1 c206_53
                    show tR _ _ _ _ [some (.ref 571), some (.int l1), some (.int l2), some (.int l3), some (.int l4), some (.int l5), some (.int v6), some (.int (((60 * l1) + l3) + v6))] [.int (T307.2.2.1 581 (((60 * l1) + l3) + v6 : Int32).toNatClampNeg), .int (((60 * l1) + l3) + v6), .ref 581] _ _ _
                    exact r_eV (r' := KJ8) (by simp only [jn]; rw [if_pos c201_52, if_pos c206_53]) ((hJ8  kk))
            refine r_eV (r' := jn (fun (KJ7 : St → St) => if l5 = 2 then (fun (T51 : St) => jn (fun (KJ10 : Int32 → St) => if (x_m_stepOf T51 l2 4) ≤ (T51.2.2.1 583 (((60 * l1) + l3) + v6 : Int32).toNatClampNeg) then (KJ10 (T51.2.2.1 583 (((60 * l1) + l3) + v6 : Int32).toNatClampNeg)) else (KJ10 (x_m_stepOf T51 l2 4))) (fun (j10_s2 : Int32) => if ((sA T51 583 (((60 * l1) + l3) + v6 : Int32).toNatClampNeg j10_s2).2.2.1 584 (((60 * l1) + l3) + v6 : Int32).toNatClampNeg) ≤ (x_m_stepOf (sA T51 583 (((60 * l1) + l3) + v6 : Int32).toNatClampNeg j10_s2) l2 5) then (fun (T52 : St) => KJ7 T52) (sA (sA T51 583 (((60 * l1) + l3) + v6 : Int32).toNatClampNeg j10_s2) 584 (((60 * l1) + l3) + v6 : Int32).toNatClampNeg ((sA T51 583 (((60 * l1) + l3) + v6 : Int32).toNatClampNeg j10_s2).2.2.1 584 (((60 * l1) + l3) + v6 : Int32).toNatClampNeg)) else (fun (T53 : St) => KJ7 T53) (sA (sA T51 583 (((60 * l1) + l3) + v6 : Int32).toNatClampNeg j10_s2) 584 (((60 * l1) + l3) + v6 : Int32).toNatClampNeg (x_m_stepOf (sA T51 583 (((60 * l1) + l3) + v6 : Int32).toNatClampNeg j10_s2) l2 5)))) (sA T41 580 (((60 * l1) + l3) + v6 : Int32).toNatClampNeg ((T41.2.2.1 580 (((60 * l1) + l3) + v6 : Int32).toNatClampNeg) + 1)) else (KJ7 T41)) KJ7) (by rw [hKJ7]) ?_
            refine r_cne dX12_addStep_84 rfl (fun c84_54 => ?_) (fun c84_54 => ?_)
            · have kk := kk.2 c84_54
              show tR _ _ _ _ [some (.ref 571), some (.int l1), some (.int l2), some (.int l3), some (.int l4), some (.int l5), some (.int v6), some (.int (((60 * l1) + l3) + v6))] [] _ _ _
              exact r_eV (r' := KJ7 T41) (by simp only [jn]; rw [if_neg c84_54]) ((hJ7 T41 kk))
            · have kk := kk.1 c84_54
              refine r_p dX12_addStep_87 rfl rfl ?_
              refine r_get dX12_addStep_88 fkX12_34 rfl rfl ?_
              refine r_p dX12_addStep_91 rfl rfl ?_
              refine r_p dX12_addStep_93 rfl rfl ?_
              obtain ⟨q48, kk⟩ := kk
              refine r_ia dX12_addStep_94 rfl q48 ?_
              refine r_ci (x := 1) dX12_addStep_95 rfl ?_
              refine r_p dX12_addStep_96 rfl rfl ?_
              refine r_ias dX12_addStep_97 rfl q48 ?_
              refine r_eV (r' := (fun (T51 : St) => jn (fun (KJ10 : Int32 → St) => if (x_m_stepOf T51 l2 4) ≤ (T51.2.2.1 583 (((60 * l1) + l3) + v6 : Int32).toNatClampNeg) then (KJ10 (T51.2.2.1 583 (((60 * l1) + l3) + v6 : Int32).toNatClampNeg)) else (KJ10 (x_m_stepOf T51 l2 4))) (fun (j10_s2 : Int32) => if ((sA T51 583 (((60 * l1) + l3) + v6 : Int32).toNatClampNeg j10_s2).2.2.1 584 (((60 * l1) + l3) + v6 : Int32).toNatClampNeg) ≤ (x_m_stepOf (sA T51 583 (((60 * l1) + l3) + v6 : Int32).toNatClampNeg j10_s2) l2 5) then (fun (T52 : St) => KJ7 T52) (sA (sA T51 583 (((60 * l1) + l3) + v6 : Int32).toNatClampNeg j10_s2) 584 (((60 * l1) + l3) + v6 : Int32).toNatClampNeg ((sA T51 583 (((60 * l1) + l3) + v6 : Int32).toNatClampNeg j10_s2).2.2.1 584 (((60 * l1) + l3) + v6 : Int32).toNatClampNeg)) else (fun (T53 : St) => KJ7 T53) (sA (sA T51 583 (((60 * l1) + l3) + v6 : Int32).toNatClampNeg j10_s2) 584 (((60 * l1) + l3) + v6 : Int32).toNatClampNeg (x_m_stepOf (sA T51 583 (((60 * l1) + l3) + v6 : Int32).toNatClampNeg j10_s2) l2 5)))) (sA T41 580 (((60 * l1) + l3) + v6 : Int32).toNatClampNeg ((T41.2.2.1 580 (((60 * l1) + l3) + v6 : Int32).toNatClampNeg) + 1))) (by simp only [jn]; rw [if_pos c84_54]) ?_
              generalize sA T41 580 (((60 * l1) + l3) + v6 : Int32).toNatClampNeg ((T41.2.2.1 580 (((60 * l1) + l3) + v6 : Int32).toNatClampNeg) + 1) = T51 at kk ⊢
              try dsimp only at kk
              refine r_p dX12_addStep_98 rfl rfl ?_
              refine r_get dX12_addStep_99 fkX12_43 rfl rfl ?_
              refine r_p dX12_addStep_102 rfl rfl ?_
              refine r_p dX12_addStep_104 rfl rfl ?_
              refine r_p dX12_addStep_105 rfl rfl ?_
              refine r_ci (x := 4) dX12_addStep_106 rfl ?_
              obtain ⟨q49, kk⟩ := kk
              refine r_cv (d1 := 1) dX12_addStep_107 cvX12_232 rfl rfl rfl rfl (Nat.le_of_ble_eq_true rfl) (Nat.le_of_ble_eq_true rfl) (Nat.le_of_ble_eq_true rfl) (c_m_stepOf l2 4 q49) ?_
              refine r_p dX12_addStep_110 rfl rfl ?_
              refine r_get dX12_addStep_111 fkX12_43 rfl rfl ?_
              refine r_p dX12_addStep_114 rfl rfl ?_
              obtain ⟨q50, kk⟩ := kk
              refine r_ia dX12_addStep_116 rfl q50 ?_
              obtain ⟨KJ10, hKJ10⟩ : ∃ q : Int32 → St, q = (fun (j10_s2 : Int32) => if ((sA T51 583 (((60 * l1) + l3) + v6 : Int32).toNatClampNeg j10_s2).2.2.1 584 (((60 * l1) + l3) + v6 : Int32).toNatClampNeg) ≤ (x_m_stepOf (sA T51 583 (((60 * l1) + l3) + v6 : Int32).toNatClampNeg j10_s2) l2 5) then (fun (T52 : St) => KJ7 T52) (sA (sA T51 583 (((60 * l1) + l3) + v6 : Int32).toNatClampNeg j10_s2) 584 (((60 * l1) + l3) + v6 : Int32).toNatClampNeg ((sA T51 583 (((60 * l1) + l3) + v6 : Int32).toNatClampNeg j10_s2).2.2.1 584 (((60 * l1) + l3) + v6 : Int32).toNatClampNeg)) else (fun (T53 : St) => KJ7 T53) (sA (sA T51 583 (((60 * l1) + l3) + v6 : Int32).toNatClampNeg j10_s2) 584 (((60 * l1) + l3) + v6 : Int32).toNatClampNeg (x_m_stepOf (sA T51 583 (((60 * l1) + l3) + v6 : Int32).toNatClampNeg j10_s2) l2 5))) := ⟨_, rfl⟩
              obtain ⟨OJ10, hOJ10⟩ : ∃ q : Int32 → Prop, q = (fun (j10_s2 : Int32) => (vp_in (((60 * l1) + l3) + v6) 300) ∧ (ok_m_stepOf (sA T51 583 (((60 * l1) + l3) + v6 : Int32).toNatClampNeg j10_s2) l2 5) ∧ ((((sA T51 583 (((60 * l1) + l3) + v6 : Int32).toNatClampNeg j10_s2).2.2.1 584 (((60 * l1) + l3) + v6 : Int32).toNatClampNeg) ≤ (x_m_stepOf (sA T51 583 (((60 * l1) + l3) + v6 : Int32).toNatClampNeg j10_s2) l2 5) → (fun (T52 : St) => OJ7 T52) (sA (sA T51 583 (((60 * l1) + l3) + v6 : Int32).toNatClampNeg j10_s2) 584 (((60 * l1) + l3) + v6 : Int32).toNatClampNeg ((sA T51 583 (((60 * l1) + l3) + v6 : Int32).toNatClampNeg j10_s2).2.2.1 584 (((60 * l1) + l3) + v6 : Int32).toNatClampNeg))) ∧ (¬ ((sA T51 583 (((60 * l1) + l3) + v6 : Int32).toNatClampNeg j10_s2).2.2.1 584 (((60 * l1) + l3) + v6 : Int32).toNatClampNeg) ≤ (x_m_stepOf (sA T51 583 (((60 * l1) + l3) + v6 : Int32).toNatClampNeg j10_s2) l2 5) → (fun (T53 : St) => OJ7 T53) (sA (sA T51 583 (((60 * l1) + l3) + v6 : Int32).toNatClampNeg j10_s2) 584 (((60 * l1) + l3) + v6 : Int32).toNatClampNeg (x_m_stepOf (sA T51 583 (((60 * l1) + l3) + v6 : Int32).toNatClampNeg j10_s2) l2 5))))) := ⟨_, rfl⟩
              rw [← hOJ10] at kk
              simp only [jn] at kk
              have hJ10 : ∀ (j10_s2 : Int32), OJ10 j10_s2 → tR X 1 mX12_addStep 136 [some (.ref 571), some (.int l1), some (.int l2), some (.int l3), some (.int l4), some (.int l5), some (.int v6), some (.int (((60 * l1) + l3) + v6))] [.int j10_s2, .int (((60 * l1) + l3) + v6), .ref 583] T51 none (KJ10 j10_s2) := by
                intro j10_s2 kk
                rw [hOJ10] at kk
                try dsimp only at kk
                rw [hKJ10]
                obtain ⟨q51, kk⟩ := kk
                refine r_ias dX12_addStep_136 rfl q51 ?_
                refine r_p dX12_addStep_137 rfl rfl ?_
                refine r_get dX12_addStep_138 fkX12_46 rfl rfl ?_
                refine r_p dX12_addStep_141 rfl rfl ?_
                refine r_p dX12_addStep_143 rfl rfl ?_
                refine r_p dX12_addStep_144 rfl rfl ?_
                refine r_ci (x := 5) dX12_addStep_145 rfl ?_
                obtain ⟨q52, kk⟩ := kk
                refine r_cv (d1 := 1) dX12_addStep_146 cvX12_232 rfl rfl rfl rfl (Nat.le_of_ble_eq_true rfl) (Nat.le_of_ble_eq_true rfl) (Nat.le_of_ble_eq_true rfl) (c_m_stepOf l2 5 q52) ?_
                refine r_p dX12_addStep_149 rfl rfl ?_
                refine r_get dX12_addStep_150 fkX12_46 rfl rfl ?_
                refine r_p dX12_addStep_153 rfl rfl ?_
                refine r_ia dX12_addStep_155 rfl q51 ?_
                refine r_cge dX12_addStep_156 rfl (fun c156_56 => ?_) (fun c156_56 => ?_)
                · have kk := kk.1 c156_56
                  refine r_p dX12_addStep_168 rfl rfl ?_
                  refine r_get dX12_addStep_169 fkX12_46 rfl rfl ?_
                  refine r_p dX12_addStep_172 rfl rfl ?_
                  refine r_ia dX12_addStep_174 rfl q51 ?_
                  refine r_ias dX12_addStep_175 rfl q51 ?_
                  refine r_eV (r' := (fun (T52 : St) => KJ7 T52) (sA (sA T51 583 (((60 * l1) + l3) + v6 : Int32).toNatClampNeg j10_s2) 584 (((60 * l1) + l3) + v6 : Int32).toNatClampNeg ((sA T51 583 (((60 * l1) + l3) + v6 : Int32).toNatClampNeg j10_s2).2.2.1 584 (((60 * l1) + l3) + v6 : Int32).toNatClampNeg))) (by first | rw [if_pos c156_56] | (dsimp only; rw [if_pos c156_56])) ?_
                  generalize sA (sA T51 583 (((60 * l1) + l3) + v6 : Int32).toNatClampNeg j10_s2) 584 (((60 * l1) + l3) + v6 : Int32).toNatClampNeg ((sA T51 583 (((60 * l1) + l3) + v6 : Int32).toNatClampNeg j10_s2).2.2.1 584 (((60 * l1) + l3) + v6 : Int32).toNatClampNeg) = T52 at kk ⊢
                  try dsimp only at kk
                  show tR _ _ _ _ [some (.ref 571), some (.int l1), some (.int l2), some (.int l3), some (.int l4), some (.int l5), some (.int v6), some (.int (((60 * l1) + l3) + v6))] [] _ _ _
                  exact r_eV (r' := KJ7 T52) rfl ((hJ7 T52 kk))
                · have kk := kk.2 c156_56
                  refine r_p dX12_addStep_159 rfl rfl ?_
                  refine r_p dX12_addStep_160 rfl rfl ?_
                  refine r_ci (x := 5) dX12_addStep_161 rfl ?_
                  refine r_cv (d1 := 1) dX12_addStep_162 cvX12_232 rfl rfl rfl rfl (Nat.le_of_ble_eq_true rfl) (Nat.le_of_ble_eq_true rfl) (Nat.le_of_ble_eq_true rfl) (c_m_stepOf l2 5 q52) ?_
                  refine r_go dX12_addStep_165 rfl ?_
                  refine r_ias dX12_addStep_175 rfl q51 ?_
                  refine r_eV (r' := (fun (T53 : St) => KJ7 T53) (sA (sA T51 583 (((60 * l1) + l3) + v6 : Int32).toNatClampNeg j10_s2) 584 (((60 * l1) + l3) + v6 : Int32).toNatClampNeg (x_m_stepOf (sA T51 583 (((60 * l1) + l3) + v6 : Int32).toNatClampNeg j10_s2) l2 5))) (by first | rw [if_neg c156_56] | (dsimp only; rw [if_neg c156_56])) ?_
                  generalize sA (sA T51 583 (((60 * l1) + l3) + v6 : Int32).toNatClampNeg j10_s2) 584 (((60 * l1) + l3) + v6 : Int32).toNatClampNeg (x_m_stepOf (sA T51 583 (((60 * l1) + l3) + v6 : Int32).toNatClampNeg j10_s2) l2 5) = T53 at kk ⊢
                  try dsimp only at kk
                  show tR _ _ _ _ [some (.ref 571), some (.int l1), some (.int l2), some (.int l3), some (.int l4), some (.int l5), some (.int v6), some (.int (((60 * l1) + l3) + v6))] [] _ _ _
                  exact r_eV (r' := KJ7 T53) rfl ((hJ7 T53 kk))
              refine r_eV (r' := jn (fun (KJ10 : Int32 → St) => if (x_m_stepOf T51 l2 4) ≤ (T51.2.2.1 583 (((60 * l1) + l3) + v6 : Int32).toNatClampNeg) then (KJ10 (T51.2.2.1 583 (((60 * l1) + l3) + v6 : Int32).toNatClampNeg)) else (KJ10 (x_m_stepOf T51 l2 4))) KJ10) (by rw [hKJ10]) ?_
              refine r_cle dX12_addStep_117 rfl (fun c117_57 => ?_) (fun c117_57 => ?_)
              · have kk := kk.1 c117_57
                refine r_p dX12_addStep_129 rfl rfl ?_
                refine r_get dX12_addStep_130 fkX12_43 rfl rfl ?_
                refine r_p dX12_addStep_133 rfl rfl ?_
                refine r_ia dX12_addStep_135 rfl q50 ?_
                show tR _ _ _ _ [some (.ref 571), some (.int l1), some (.int l2), some (.int l3), some (.int l4), some (.int l5), some (.int v6), some (.int (((60 * l1) + l3) + v6))] [.int (T51.2.2.1 583 (((60 * l1) + l3) + v6 : Int32).toNatClampNeg), .int (((60 * l1) + l3) + v6), .ref 583] _ _ _
                exact r_eV (r' := KJ10 (T51.2.2.1 583 (((60 * l1) + l3) + v6 : Int32).toNatClampNeg)) (by simp only [jn]; rw [if_pos c117_57]) ((hJ10 (T51.2.2.1 583 (((60 * l1) + l3) + v6 : Int32).toNatClampNeg) kk))
              · have kk := kk.2 c117_57
                refine r_p dX12_addStep_120 rfl rfl ?_
                refine r_p dX12_addStep_121 rfl rfl ?_
                refine r_ci (x := 4) dX12_addStep_122 rfl ?_
                refine r_cv (d1 := 1) dX12_addStep_123 cvX12_232 rfl rfl rfl rfl (Nat.le_of_ble_eq_true rfl) (Nat.le_of_ble_eq_true rfl) (Nat.le_of_ble_eq_true rfl) (c_m_stepOf l2 4 q49) ?_
                refine r_go dX12_addStep_126 rfl ?_
                show tR _ _ _ _ [some (.ref 571), some (.int l1), some (.int l2), some (.int l3), some (.int l4), some (.int l5), some (.int v6), some (.int (((60 * l1) + l3) + v6))] [.int (x_m_stepOf T51 l2 4), .int (((60 * l1) + l3) + v6), .ref 583] _ _ _
                exact r_eV (r' := KJ10 (x_m_stepOf T51 l2 4)) (by simp only [jn]; rw [if_neg c117_57]) ((hJ10 (x_m_stepOf T51 l2 4) kk))
      refine r_eV (r' := jn (fun (KJ1 : Int32 → St) => if l5 = 1 then (KJ1 1) else (KJ1 0)) KJ1) (by rw [hKJ1]; rw [x_m_addStep_11]; rw [if_neg c15_1]) ?_
      refine r_cne dX12_addStep_40 rfl (fun c40_58 => ?_) (fun c40_58 => ?_)
      · have kk := kk.2 c40_58
        refine r_ci (x := 0) dX12_addStep_47 rfl ?_
        show tR _ _ _ _ [some (.ref 571), some (.int l1), some (.int l2), some (.int l3), some (.int l4), some (.int l5), some (.int v6), some (.int (((60 * l1) + l3) + v6))] [.int 0, .int (T.2.2.1 579 (((60 * l1) + l3) + v6 : Int32).toNatClampNeg), .int (((60 * l1) + l3) + v6), .ref 579] _ _ _
        exact r_eV (r' := KJ1 0) (by simp only [jn]; rw [if_neg c40_58]) ((hJ1 0 kk))
      · have kk := kk.1 c40_58
        refine r_ci (x := 1) dX12_addStep_43 rfl ?_
        refine r_go dX12_addStep_44 rfl ?_
        show tR _ _ _ _ [some (.ref 571), some (.int l1), some (.int l2), some (.int l3), some (.int l4), some (.int l5), some (.int v6), some (.int (((60 * l1) + l3) + v6))] [.int 1, .int (T.2.2.1 579 (((60 * l1) + l3) + v6 : Int32).toNatClampNeg), .int (((60 * l1) + l3) + v6), .ref 579] _ _ _
        exact r_eV (r' := KJ1 1) (by simp only [jn]; rw [if_pos c40_58]) ((hJ1 1 kk))
def x_m_addStep (T : St) (p0 : Int32) (p1 : Int32) (p2 : Int32) (p3 : Int32) : St := x_m_addStep_11 p0 p1 p2 p3 (x_m_stepOf T p1 0) (fun (w1_6 : Int32) (T201 : St) => T201) 1000 0 T
def ok_m_addStep (T : St) (p0 : Int32) (p1 : Int32) (p2 : Int32) (p3 : Int32) : Prop := (ok_m_stepOf T p1 0) ∧ ok_m_addStep_11 p0 p1 p2 p3 (x_m_stepOf T p1 0) (fun (w1_6 : Int32) (T201 : St) => True) 1000 0 T
theorem c_m_addStep {X : Nat × (Nat → Int32)} {T : St} (p0 : Int32) (p1 : Int32) (p2 : Int32) (p3 : Int32) (kk : ok_m_addStep T p0 p1 p2 p3) : tC X 2 mX12_addStep [.ref 571, .int p0, .int p1, .int p2, .int p3] T none (x_m_addStep T p0 p1 p2 p3) := by
  unfold ok_m_addStep at kk
  refine tC_of ?_
  refine r_p dX12_addStep_0 rfl rfl ?_
  refine r_p dX12_addStep_1 rfl rfl ?_
  refine r_ci (x := 0) dX12_addStep_2 rfl ?_
  obtain ⟨q1, kk⟩ := kk
  refine r_cv (d1 := 1) dX12_addStep_3 cvX12_232 rfl rfl rfl rfl (Nat.le_of_ble_eq_true rfl) (Nat.le_of_ble_eq_true rfl) (Nat.le_of_ble_eq_true rfl) (c_m_stepOf p1 0 q1) ?_
  refine r_p dX12_addStep_6 rfl rfl ?_
  refine r_ci (x := 0) dX12_addStep_8 rfl ?_
  refine r_p dX12_addStep_9 rfl rfl ?_
  show tR _ _ _ _ [some (.ref 571), some (.int p0), some (.int p1), some (.int p2), some (.int p3), some (.int (x_m_stepOf T p1 0)), some (.int 0), none] _ _ _ _
  refine r_eV (r' := x_m_addStep_11 p0 p1 p2 p3 (x_m_stepOf T p1 0) (fun (w1_6 : Int32) (T201 : St) => T201) 1000 0 T) (by unfold x_m_addStep; rfl) ((c_m_addStep_11 p0 p1 p2 p3 (x_m_stepOf T p1 0) (fun w1_6 T201 kk => ?_) 1000 0 T kk))
  · exact r_eV (r' := T201) rfl (r_rv dX12_addStep_222 rfl rfl rfl)
