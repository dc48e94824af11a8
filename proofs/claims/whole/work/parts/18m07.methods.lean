def x_m_word_7 (T : St)  (K : Int64 → Int32 → Int64) : Nat → Int64 → Int32 → Int64
  | 0, _, _ => 0
  | f + 1, v1, v3 => if (T.1 571 15) ≤ v3 then (K v1 v3) else (if (T.1 571 13) = 2 then (if 8 ≤ ((T.1 571 15) - (T.1 571 14)) then (K v1 v3) else (x_m_word_7 T K f ((v1 <<< ((8 : Int32).toInt64 &&& 63)) ||| ((T.2.2.1 577 (v3 : Int32).toNatClampNeg : Int32).toInt64)) (v3 + 1))) else (K v1 v3))
def ok_m_word_7 (T : St)  (Kk : Int64 → Int32 → Prop) : Nat → Int64 → Int32 → Prop
  | 0, _, _ => False
  | f + 1, v1, v3 => (((T.1 571 15) ≤ v3 → Kk v1 v3) ∧ (¬ (T.1 571 15) ≤ v3 → (((T.1 571 13) = 2 → ((8 ≤ ((T.1 571 15) - (T.1 571 14)) → Kk v1 v3) ∧ (¬ 8 ≤ ((T.1 571 15) - (T.1 571 14)) → (vp_in v3 600) ∧ ok_m_word_7 T Kk f ((v1 <<< ((8 : Int32).toInt64 &&& 63)) ||| ((T.2.2.1 577 (v3 : Int32).toNatClampNeg : Int32).toInt64)) (v3 + 1)))) ∧ (¬ (T.1 571 13) = 2 → Kk v1 v3))))
theorem c_m_word_7 {X : Nat × (Nat → Int32)} (T : St)  {K : Int64 → Int32 → Int64} {Kk : Int64 → Int32 → Prop} (hk : ∀ (v1 : Int64) (v3 : Int32), Kk v1 v3 → tR X 0 mX12_word 56 [some (.ref 571), some (.long v1), none, some (.int v3)] [] T (some (.long (K v1 v3))) T) : ∀ (f : Nat) (v1 : Int64) (v3 : Int32), ok_m_word_7 T  Kk f v1 v3 → tR X 0 mX12_word 7 [some (.ref 571), some (.long v1), none, some (.int v3)] [] T (some (.long (x_m_word_7 T K f v1 v3))) T := by
  intro f
  induction f with
  | zero => intro v1 v3 kk; exact kk.elim
  | succ f ih =>
    intro v1 v3 kk
    rw [ok_m_word_7] at kk
    refine r_p dX12_word_7 rfl rfl ?_
    refine r_p dX12_word_8 rfl rfl ?_
    refine r_get dX12_word_9 fkX12_156 rfl rfl ?_
    refine r_cge dX12_word_12 rfl (fun c12_1 => ?_) (fun c12_1 => ?_)
    · have kk := kk.1 c12_1
      show tR _ _ _ _ [some (.ref 571), some (.long v1), none, some (.int v3)] _ _ _ _
      exact r_eJp (r' := K v1 v3) (by rw [x_m_word_7]; rw [if_pos c12_1]) ((hk v1 v3  kk))
    · have kk := kk.2 c12_1
      refine r_p dX12_word_15 rfl rfl ?_
      refine r_get dX12_word_16 fkX12_147 rfl rfl ?_
      refine r_ci (x := 2) dX12_word_19 rfl ?_
      refine r_cne dX12_word_20 rfl (fun c20_2 => ?_) (fun c20_2 => ?_)
      · have kk := kk.2 c20_2
        show tR _ _ _ _ [some (.ref 571), some (.long v1), none, some (.int v3)] _ _ _ _
        exact r_eJp (r' := K v1 v3) (by rw [x_m_word_7]; rw [if_neg c12_1, if_neg c20_2]) ((hk v1 v3  kk))
      · have kk := kk.1 c20_2
        refine r_p dX12_word_23 rfl rfl ?_
        refine r_get dX12_word_24 fkX12_156 rfl rfl ?_
        refine r_p dX12_word_27 rfl rfl ?_
        refine r_get dX12_word_28 fkX12_144 rfl rfl ?_
        refine r_p dX12_word_31 rfl rfl ?_
        refine r_cb (x := 8) dX12_word_32 rfl ?_
        refine r_cge dX12_word_34 rfl (fun c34_3 => ?_) (fun c34_3 => ?_)
        · have kk := kk.1 c34_3
          show tR _ _ _ _ [some (.ref 571), some (.long v1), none, some (.int v3)] _ _ _ _
          exact r_eJp (r' := K v1 v3) (by rw [x_m_word_7]; rw [if_neg c12_1, if_pos c20_2, if_pos c34_3]) ((hk v1 v3  kk))
        · have kk := kk.2 c34_3
          refine r_p dX12_word_37 rfl rfl ?_
          refine r_cb (x := 8) dX12_word_38 rfl ?_
          refine r_p dX12_word_40 rfl rfl ?_
          refine r_p dX12_word_41 rfl rfl ?_
          refine r_get dX12_word_42 fkX12_25 rfl rfl ?_
          refine r_p dX12_word_45 rfl rfl ?_
          obtain ⟨q1, kk⟩ := kk
          refine r_ia dX12_word_46 rfl q1 ?_
          refine r_p dX12_word_47 rfl rfl ?_
          refine r_p dX12_word_48 rfl rfl ?_
          refine r_p dX12_word_49 rfl rfl ?_
          refine r_inc (y := 1) dX12_word_50 rfl rfl rfl ?_
          refine r_go dX12_word_53 rfl ?_
          show tR _ _ _ _ [some (.ref 571), some (.long ((v1 <<< ((8 : Int32).toInt64 &&& 63)) ||| ((T.2.2.1 577 (v3 : Int32).toNatClampNeg : Int32).toInt64))), none, some (.int (v3 + 1))] _ _ _ _
          exact r_eJp (r' := x_m_word_7 T K f ((v1 <<< ((8 : Int32).toInt64 &&& 63)) ||| ((T.2.2.1 577 (v3 : Int32).toNatClampNeg : Int32).toInt64)) (v3 + 1)) (by rw [x_m_word_7]; rw [if_neg c12_1, if_pos c20_2, if_neg c34_3]) ((ih ((v1 <<< ((8 : Int32).toInt64 &&& 63)) ||| ((T.2.2.1 577 (v3 : Int32).toNatClampNeg : Int32).toInt64)) (v3 + 1)  kk))
def x_m_word (T : St)  : Int64 := x_m_word_7 T  (fun (w1_1 : Int64) (w1_3 : Int32) => if (T.1 571 16) = 0 then (w1_1) else (0)) 1000 0 (T.1 571 14)
def ok_m_word (T : St)  : Prop := ok_m_word_7 T  (fun (w1_1 : Int64) (w1_3 : Int32) => True) 1000 0 (T.1 571 14)
theorem c_m_word {X : Nat × (Nat → Int32)} {T : St}  (kk : ok_m_word T ) : tC X 1 mX12_word [.ref 571] T (some (.long (x_m_word T))) T := by
  unfold ok_m_word at kk
  refine tC_of ?_
  refine r_cl (x := 0) dX12_word_0 rfl ?_
  refine r_p dX12_word_1 rfl rfl ?_
  refine r_p dX12_word_2 rfl rfl ?_
  refine r_get dX12_word_3 fkX12_144 rfl rfl ?_
  refine r_p dX12_word_6 rfl rfl ?_
  show tR _ _ _ _ [some (.ref 571), some (.long 0), none, some (.int (T.1 571 14))] _ _ _ _
  refine r_eJp (r' := x_m_word_7 T  (fun (w1_1 : Int64) (w1_3 : Int32) => if (T.1 571 16) = 0 then (w1_1) else (0)) 1000 0 (T.1 571 14)) (by unfold x_m_word; rfl) ((c_m_word_7 T  (fun w1_1 w1_3 kk => ?_) 1000 0 (T.1 571 14)  kk))
  · refine r_p dX12_word_56 rfl rfl ?_
    refine r_get dX12_word_57 fkX12_159 rfl rfl ?_
    refine r_ine dX12_word_60 rfl (fun c60_4 => ?_) (fun c60_4 => ?_)
    · refine r_cl (x := 0) dX12_word_67 rfl ?_
      exact r_eJp (r' := 0) (by first | rw [if_neg c60_4] | (dsimp only; rw [if_neg c60_4])) (r_rl dX12_word_68 rfl rfl rfl)
    · refine r_p dX12_word_63 rfl rfl ?_
      refine r_go dX12_word_64 rfl ?_
      exact r_eJp (r' := w1_1) (by first | rw [if_pos c60_4] | (dsimp only; rw [if_pos c60_4])) (r_rl dX12_word_68 rfl rfl rfl)
def x_m_number_17 (l1 : Int32) (l2 : Int32) (l3 : Int32) (K : Int32 → Int32 → St → St) : Nat → Int32 → Int32 → St → St
  | 0, _, _, T => T
  | f + 1, v4, v5, T => if (T.1 571 15) ≤ v5 then (K v4 v5 T) else (if (T.1 571 13) = 3 then (x_m_number_17 l1 l2 l3 K f (((10 * v4) + (T.2.2.1 577 (v5 : Int32).toNatClampNeg)) - 48) (v5 + 1) T) else (K v4 v5 T))
def ok_m_number_17 (l1 : Int32) (l2 : Int32) (l3 : Int32) (Kk : Int32 → Int32 → St → Prop) : Nat → Int32 → Int32 → St → Prop
  | 0, _, _, _ => False
  | f + 1, v4, v5, T => (((T.1 571 15) ≤ v5 → Kk v4 v5 T) ∧ (¬ (T.1 571 15) ≤ v5 → (((T.1 571 13) = 3 → (vp_in v5 600) ∧ ok_m_number_17 l1 l2 l3 Kk f (((10 * v4) + (T.2.2.1 577 (v5 : Int32).toNatClampNeg)) - 48) (v5 + 1) T) ∧ (¬ (T.1 571 13) = 3 → Kk v4 v5 T))))
theorem c_m_number_17 {X : Nat × (Nat → Int32)} (l1 : Int32) (l2 : Int32) (l3 : Int32) {K : Int32 → Int32 → St → St} {Kk : Int32 → Int32 → St → Prop} (hk : ∀ (v4 : Int32) (v5 : Int32) (T : St), Kk v4 v5 T → tR X 3 mX12_number 58 [some (.ref 571), some (.int l1), some (.int l2), some (.int l3), some (.int v4), some (.int v5)] [] T none (K v4 v5 T)) : ∀ (f : Nat) (v4 : Int32) (v5 : Int32) (T : St), ok_m_number_17 l1 l2 l3 Kk f v4 v5 T → tR X 3 mX12_number 17 [some (.ref 571), some (.int l1), some (.int l2), some (.int l3), some (.int v4), some (.int v5)] [] T none (x_m_number_17 l1 l2 l3 K f v4 v5 T) := by
  intro f
  induction f with
  | zero => intro v4 v5 T kk; exact kk.elim
  | succ f ih =>
    intro v4 v5 T kk
    rw [ok_m_number_17] at kk
    refine r_p dX12_number_17 rfl rfl ?_
    refine r_p dX12_number_19 rfl rfl ?_
    refine r_get dX12_number_20 fkX12_156 rfl rfl ?_
    refine r_cge dX12_number_23 rfl (fun c23_2 => ?_) (fun c23_2 => ?_)
    · have kk := kk.1 c23_2
      show tR _ _ _ _ [some (.ref 571), some (.int l1), some (.int l2), some (.int l3), some (.int v4), some (.int v5)] _ _ _ _
      exact r_eV (r' := K v4 v5 T) (by rw [x_m_number_17]; rw [if_pos c23_2]) ((hk v4 v5 T kk))
    · have kk := kk.2 c23_2
      refine r_p dX12_number_26 rfl rfl ?_
      refine r_get dX12_number_27 fkX12_147 rfl rfl ?_
      refine r_ci (x := 3) dX12_number_30 rfl ?_
      refine r_cne dX12_number_31 rfl (fun c31_3 => ?_) (fun c31_3 => ?_)
      · have kk := kk.2 c31_3
        show tR _ _ _ _ [some (.ref 571), some (.int l1), some (.int l2), some (.int l3), some (.int v4), some (.int v5)] _ _ _ _
        exact r_eV (r' := K v4 v5 T) (by rw [x_m_number_17]; rw [if_neg c23_2, if_neg c31_3]) ((hk v4 v5 T kk))
      · have kk := kk.1 c31_3
        refine r_cb (x := 10) dX12_number_34 rfl ?_
        refine r_p dX12_number_36 rfl rfl ?_
        refine r_p dX12_number_38 rfl rfl ?_
        refine r_p dX12_number_39 rfl rfl ?_
        refine r_get dX12_number_40 fkX12_25 rfl rfl ?_
        refine r_p dX12_number_43 rfl rfl ?_
        obtain ⟨q1, kk⟩ := kk
        refine r_ia dX12_number_45 rfl q1 ?_
        refine r_p dX12_number_46 rfl rfl ?_
        refine r_cb (x := 48) dX12_number_47 rfl ?_
        refine r_p dX12_number_49 rfl rfl ?_
        refine r_p dX12_number_50 rfl rfl ?_
        refine r_inc (y := 1) dX12_number_52 rfl rfl rfl ?_
        refine r_go dX12_number_55 rfl ?_
        show tR _ _ _ _ [some (.ref 571), some (.int l1), some (.int l2), some (.int l3), some (.int (((10 * v4) + (T.2.2.1 577 (v5 : Int32).toNatClampNeg)) - 48)), some (.int (v5 + 1))] _ _ _ _
        exact r_eV (r' := x_m_number_17 l1 l2 l3 K f (((10 * v4) + (T.2.2.1 577 (v5 : Int32).toNatClampNeg)) - 48) (v5 + 1) T) (by rw [x_m_number_17]; rw [if_neg c23_2, if_pos c31_3]) ((ih (((10 * v4) + (T.2.2.1 577 (v5 : Int32).toNatClampNeg)) - 48) (v5 + 1) T kk))
def x_m_number (T : St) (p0 : Int32) (p1 : Int32) (p2 : Int32) : St := if (T.1 571 16) ≤ 0 then (x_m_number_17 p0 p1 p2 (fun (w1_4 : Int32) (w1_5 : Int32) (T201 : St) => jn (fun (KJ1 : St → St) => if (T201.1 571 13) = 3 then (if (x_m_in T201 ((w1_4 : Int32).toInt64) ((p1 : Int32).toInt64) ((p2 : Int32).toInt64)) = 0 then (KJ1 (x_m_bad T201 2)) else (KJ1 T201)) else (KJ1 T201)) (fun (T301 : St) => jn (fun (KJ2 : Int32 → St) => if (T301.1 571 13) = 3 then (KJ2 1) else (KJ2 0)) (fun (j2_s1 : Int32) => if ((x_m_must T301 j2_s1).1 571 16) = 0 then (sA (x_m_must T301 j2_s1) 576 (p0 : Int32).toNatClampNeg w1_4) else (x_m_must T301 j2_s1)))) 1000 0 (T.1 571 14) T) else (T)
def ok_m_number (T : St) (p0 : Int32) (p1 : Int32) (p2 : Int32) : Prop := ((T.1 571 16) ≤ 0 → ok_m_number_17 p0 p1 p2 (fun (w1_4 : Int32) (w1_5 : Int32) (T201 : St) => jn (fun (OJ1 : St → Prop) => (((T201.1 571 13) = 3 → (((x_m_in T201 ((w1_4 : Int32).toInt64) ((p1 : Int32).toInt64) ((p2 : Int32).toInt64)) = 0 → OJ1 (x_m_bad T201 2)) ∧ (¬ (x_m_in T201 ((w1_4 : Int32).toInt64) ((p1 : Int32).toInt64) ((p2 : Int32).toInt64)) = 0 → OJ1 T201))) ∧ (¬ (T201.1 571 13) = 3 → OJ1 T201))) (fun (T301 : St) => jn (fun (OJ2 : Int32 → Prop) => (((T301.1 571 13) = 3 → OJ2 1) ∧ (¬ (T301.1 571 13) = 3 → OJ2 0))) (fun (j2_s1 : Int32) => (ok_m_must T301 j2_s1) ∧ (((x_m_must T301 j2_s1).1 571 16) = 0 → (vp_in p0 204) ∧ True)))) 1000 0 (T.1 571 14) T)
theorem c_m_number {X : Nat × (Nat → Int32)} {T : St} (p0 : Int32) (p1 : Int32) (p2 : Int32) (kk : ok_m_number T p0 p1 p2) : tC X 4 mX12_number [.ref 571, .int p0, .int p1, .int p2] T none (x_m_number T p0 p1 p2) := by
  unfold ok_m_number at kk
  refine tC_of ?_
  refine r_p dX12_number_0 rfl rfl ?_
  refine r_get dX12_number_1 fkX12_159 rfl rfl ?_
  refine r_ile dX12_number_4 rfl (fun c4_1 => ?_) (fun c4_1 => ?_)
  · have kk := kk c4_1
    refine r_ci (x := 0) dX12_number_8 rfl ?_
    refine r_p dX12_number_9 rfl rfl ?_
    refine r_p dX12_number_11 rfl rfl ?_
    refine r_get dX12_number_12 fkX12_144 rfl rfl ?_
    refine r_p dX12_number_15 rfl rfl ?_
    show tR _ _ _ _ [some (.ref 571), some (.int p0), some (.int p1), some (.int p2), some (.int 0), some (.int (T.1 571 14))] _ _ _ _
    refine r_eV (r' := x_m_number_17 p0 p1 p2 (fun (w1_4 : Int32) (w1_5 : Int32) (T201 : St) => jn (fun (KJ1 : St → St) => if (T201.1 571 13) = 3 then (if (x_m_in T201 ((w1_4 : Int32).toInt64) ((p1 : Int32).toInt64) ((p2 : Int32).toInt64)) = 0 then (KJ1 (x_m_bad T201 2)) else (KJ1 T201)) else (KJ1 T201)) (fun (T301 : St) => jn (fun (KJ2 : Int32 → St) => if (T301.1 571 13) = 3 then (KJ2 1) else (KJ2 0)) (fun (j2_s1 : Int32) => if ((x_m_must T301 j2_s1).1 571 16) = 0 then (sA (x_m_must T301 j2_s1) 576 (p0 : Int32).toNatClampNeg w1_4) else (x_m_must T301 j2_s1)))) 1000 0 (T.1 571 14) T) (by unfold x_m_number; rw [if_pos c4_1]) ((c_m_number_17 p0 p1 p2 (fun w1_4 w1_5 T201 kk => ?_) 1000 0 (T.1 571 14) T kk))
    · try dsimp only at kk
      refine r_p dX12_number_58 rfl rfl ?_
      refine r_get dX12_number_59 fkX12_147 rfl rfl ?_
      refine r_ci (x := 3) dX12_number_62 rfl ?_
      obtain ⟨KJ1, hKJ1⟩ : ∃ q : St → St, q = (fun (T301 : St) => jn (fun (KJ2 : Int32 → St) => if (T301.1 571 13) = 3 then (KJ2 1) else (KJ2 0)) (fun (j2_s1 : Int32) => if ((x_m_must T301 j2_s1).1 571 16) = 0 then (sA (x_m_must T301 j2_s1) 576 (p0 : Int32).toNatClampNeg w1_4) else (x_m_must T301 j2_s1))) := ⟨_, rfl⟩
      obtain ⟨OJ1, hOJ1⟩ : ∃ q : St → Prop, q = (fun (T301 : St) => jn (fun (OJ2 : Int32 → Prop) => (((T301.1 571 13) = 3 → OJ2 1) ∧ (¬ (T301.1 571 13) = 3 → OJ2 0))) (fun (j2_s1 : Int32) => (ok_m_must T301 j2_s1) ∧ (((x_m_must T301 j2_s1).1 571 16) = 0 → (vp_in p0 204) ∧ True))) := ⟨_, rfl⟩
      rw [← hOJ1] at kk
      simp only [jn] at kk
      have hJ1 : ∀ (T301 : St), OJ1 T301 → tR X 3 mX12_number 84 [some (.ref 571), some (.int p0), some (.int p1), some (.int p2), some (.int w1_4), some (.int w1_5)] [] T301 none (KJ1 T301) := by
        intro T301 kk
        rw [hOJ1] at kk
        try dsimp only at kk
        rw [hKJ1]
        refine r_p dX12_number_84 rfl rfl ?_
        refine r_p dX12_number_85 rfl rfl ?_
        refine r_get dX12_number_86 fkX12_147 rfl rfl ?_
        refine r_ci (x := 3) dX12_number_89 rfl ?_
        obtain ⟨KJ2, hKJ2⟩ : ∃ q : Int32 → St, q = (fun (j2_s1 : Int32) => if ((x_m_must T301 j2_s1).1 571 16) = 0 then (sA (x_m_must T301 j2_s1) 576 (p0 : Int32).toNatClampNeg w1_4) else (x_m_must T301 j2_s1)) := ⟨_, rfl⟩
        obtain ⟨OJ2, hOJ2⟩ : ∃ q : Int32 → Prop, q = (fun (j2_s1 : Int32) => (ok_m_must T301 j2_s1) ∧ (((x_m_must T301 j2_s1).1 571 16) = 0 → (vp_in p0 204) ∧ True)) := ⟨_, rfl⟩
        rw [← hOJ2] at kk
        simp only [jn] at kk
        have hJ2 : ∀ (j2_s1 : Int32), OJ2 j2_s1 → tR X 3 mX12_number 98 [some (.ref 571), some (.int p0), some (.int p1), some (.int p2), some (.int w1_4), some (.int w1_5)] [.int j2_s1, .ref 571] T301 none (KJ2 j2_s1) := by
          intro j2_s1 kk
          rw [hOJ2] at kk
          try dsimp only at kk
          rw [hKJ2]
          obtain ⟨q2, kk⟩ := kk
          refine r_cv (d1 := 3) dX12_number_98 cvX12_172 rfl rfl rfl rfl (Nat.le_of_ble_eq_true rfl) (Nat.le_of_ble_eq_true rfl) (Nat.le_of_ble_eq_true rfl) (c_m_must j2_s1 q2) ?_
          refine r_p dX12_number_101 rfl rfl ?_
          refine r_get dX12_number_102 fkX12_159 rfl rfl ?_
          refine r_ine dX12_number_105 rfl (fun c105_7 => ?_) (fun c105_7 => ?_)
          · exact r_eV (r' := (x_m_must T301 j2_s1)) (by first | rw [if_neg c105_7] | (dsimp only; rw [if_neg c105_7])) (r_rv dX12_number_116 rfl rfl rfl)
          · have kk := kk c105_7
            refine r_p dX12_number_108 rfl rfl ?_
            refine r_get dX12_number_109 fkX12_22 rfl rfl ?_
            refine r_p dX12_number_112 rfl rfl ?_
            refine r_p dX12_number_113 rfl rfl ?_
            obtain ⟨q3, kk⟩ := kk
            refine r_ias dX12_number_115 rfl q3 ?_
            exact r_eV (r' := (sA (x_m_must T301 j2_s1) 576 (p0 : Int32).toNatClampNeg w1_4)) (by first | rw [if_pos c105_7] | (dsimp only; rw [if_pos c105_7])) (r_rv dX12_number_116 rfl rfl rfl)
        refine r_eV (r' := jn (fun (KJ2 : Int32 → St) => if (T301.1 571 13) = 3 then (KJ2 1) else (KJ2 0)) KJ2) (by rw [hKJ2]) ?_
        refine r_cne dX12_number_90 rfl (fun c90_8 => ?_) (fun c90_8 => ?_)
        · have kk := kk.2 c90_8
          refine r_ci (x := 0) dX12_number_97 rfl ?_
          show tR _ _ _ _ [some (.ref 571), some (.int p0), some (.int p1), some (.int p2), some (.int w1_4), some (.int w1_5)] [.int 0, .ref 571] _ _ _
          exact r_eV (r' := KJ2 0) (by simp only [jn]; rw [if_neg c90_8]) ((hJ2 0 kk))
        · have kk := kk.1 c90_8
          refine r_ci (x := 1) dX12_number_93 rfl ?_
          refine r_go dX12_number_94 rfl ?_
          show tR _ _ _ _ [some (.ref 571), some (.int p0), some (.int p1), some (.int p2), some (.int w1_4), some (.int w1_5)] [.int 1, .ref 571] _ _ _
          exact r_eV (r' := KJ2 1) (by simp only [jn]; rw [if_pos c90_8]) ((hJ2 1 kk))
      refine r_eV (r' := jn (fun (KJ1 : St → St) => if (T201.1 571 13) = 3 then (if (x_m_in T201 ((w1_4 : Int32).toInt64) ((p1 : Int32).toInt64) ((p2 : Int32).toInt64)) = 0 then (KJ1 (x_m_bad T201 2)) else (KJ1 T201)) else (KJ1 T201)) KJ1) (by rw [hKJ1]) ?_
      refine r_cne dX12_number_63 rfl (fun c63_9 => ?_) (fun c63_9 => ?_)
      · have kk := kk.2 c63_9
        show tR _ _ _ _ [some (.ref 571), some (.int p0), some (.int p1), some (.int p2), some (.int w1_4), some (.int w1_5)] [] _ _ _
        exact r_eV (r' := KJ1 T201) (by simp only [jn]; rw [if_neg c63_9]) ((hJ1 T201 kk))
      · have kk := kk.1 c63_9
        refine r_p dX12_number_66 rfl rfl ?_
        refine r_p dX12_number_68 rfl rfl ?_
        refine r_p dX12_number_69 rfl rfl ?_
        refine r_p dX12_number_70 rfl rfl ?_
        refine r_p dX12_number_71 rfl rfl ?_
        refine r_p dX12_number_72 rfl rfl ?_
        refine r_cs (d1 := 1) dX12_number_73 csX12_111 rfl rfl (Nat.le_of_ble_eq_true rfl) (Nat.le_of_ble_eq_true rfl) (Nat.le_of_ble_eq_true rfl) (c_m_in ((w1_4 : Int32).toInt64) ((p1 : Int32).toInt64) ((p2 : Int32).toInt64)) ?_
        refine r_ine dX12_number_76 rfl (fun c76_10 => ?_) (fun c76_10 => ?_)
        · have kk := kk.2 c76_10
          show tR _ _ _ _ [some (.ref 571), some (.int p0), some (.int p1), some (.int p2), some (.int w1_4), some (.int w1_5)] [] _ _ _
          exact r_eV (r' := KJ1 T201) (by simp only [jn]; rw [if_pos c63_9, if_neg c76_10]) ((hJ1 T201 kk))
        · have kk := kk.1 c76_10
          refine r_p dX12_number_79 rfl rfl ?_
          refine r_ci (x := 2) dX12_number_80 rfl ?_
          refine r_cv (d1 := 1) dX12_number_81 cvX12_165 rfl rfl rfl rfl (Nat.le_of_ble_eq_true rfl) (Nat.le_of_ble_eq_true rfl) (Nat.le_of_ble_eq_true rfl) (c_m_bad 2) ?_
          show tR _ _ _ _ [some (.ref 571), some (.int p0), some (.int p1), some (.int p2), some (.int w1_4), some (.int w1_5)] [] _ _ _
          exact r_eV (r' := KJ1 (x_m_bad T201 2)) (by simp only [jn]; rw [if_pos c63_9, if_pos c76_10]) ((hJ1 (x_m_bad T201 2) kk))
  · exact r_eV (r' := T) (by unfold x_m_number; rw [if_neg c4_1]) (r_rv dX12_number_7 rfl rfl rfl)
def x_m_mustEnd (T : St)  : St := if (T.1 571 16) = 0 then (if (T.1 571 13) = 4 then (x_m_must T 1) else (x_m_must T 0)) else (T)
def ok_m_mustEnd (T : St)  : Prop := ((T.1 571 16) = 0 → (((T.1 571 13) = 4 → (ok_m_must T 1) ∧ True) ∧ (¬ (T.1 571 13) = 4 → (ok_m_must T 0) ∧ True)))
theorem c_m_mustEnd {X : Nat × (Nat → Int32)} {T : St}  (kk : ok_m_mustEnd T ) : tC X 4 mX12_mustEnd [.ref 571] T none (x_m_mustEnd T) := by
  unfold ok_m_mustEnd at kk
  refine tC_of ?_
  refine r_p dX12_mustEnd_0 rfl rfl ?_
  refine r_get dX12_mustEnd_1 fkX12_159 rfl rfl ?_
  refine r_ine dX12_mustEnd_4 rfl (fun c4_1 => ?_) (fun c4_1 => ?_)
  · exact r_eV (r' := T) (by unfold x_m_mustEnd; rw [if_neg c4_1]) (r_rv dX12_mustEnd_24 rfl rfl rfl)
  · have kk := kk c4_1
    refine r_p dX12_mustEnd_7 rfl rfl ?_
    refine r_p dX12_mustEnd_8 rfl rfl ?_
    refine r_get dX12_mustEnd_9 fkX12_147 rfl rfl ?_
    refine r_ci (x := 4) dX12_mustEnd_12 rfl ?_
    refine r_cne dX12_mustEnd_13 rfl (fun c13_2 => ?_) (fun c13_2 => ?_)
    · have kk := kk.2 c13_2
      refine r_ci (x := 0) dX12_mustEnd_20 rfl ?_
      obtain ⟨q1, kk⟩ := kk
      refine r_cv (d1 := 3) dX12_mustEnd_21 cvX12_172 rfl rfl rfl rfl (Nat.le_of_ble_eq_true rfl) (Nat.le_of_ble_eq_true rfl) (Nat.le_of_ble_eq_true rfl) (c_m_must 0 q1) ?_
      exact r_eV (r' := (x_m_must T 0)) (by unfold x_m_mustEnd; rw [if_pos c4_1, if_neg c13_2]) (r_rv dX12_mustEnd_24 rfl rfl rfl)
    · have kk := kk.1 c13_2
      refine r_ci (x := 1) dX12_mustEnd_16 rfl ?_
      refine r_go dX12_mustEnd_17 rfl ?_
      obtain ⟨q2, kk⟩ := kk
      refine r_cv (d1 := 3) dX12_mustEnd_21 cvX12_172 rfl rfl rfl rfl (Nat.le_of_ble_eq_true rfl) (Nat.le_of_ble_eq_true rfl) (Nat.le_of_ble_eq_true rfl) (c_m_must 1 q2) ?_
      exact r_eV (r' := (x_m_must T 1)) (by unfold x_m_mustEnd; rw [if_pos c4_1, if_pos c13_2]) (r_rv dX12_mustEnd_24 rfl rfl rfl)
def x_m_kindOfWord (T : St)  : Int32 := if (lg_cmp (x_m_word T) 1919512167) = 0 then (1) else (if (lg_cmp (x_m_word T) 1870030190) = 0 then (2) else (if (lg_cmp (x_m_word T) 1751215716) = 0 then (3) else (if (lg_cmp (x_m_word T) 1919251316) = 0 then (4) else (if (lg_cmp (x_m_word T) 1801807216) = 0 then (5) else (-1000000)))))
def ok_m_kindOfWord (T : St)  : Prop := (ok_m_word T) ∧ True
theorem c_m_kindOfWord {X : Nat × (Nat → Int32)} {T : St}  (kk : ok_m_kindOfWord T ) : tC X 2 mX12_kindOfWord [.ref 571] T (some (.int (x_m_kindOfWord T))) T := by
  unfold ok_m_kindOfWord at kk
  refine tC_of ?_
  refine r_p dX12_kindOfWord_0 rfl rfl ?_
  obtain ⟨q1, kk⟩ := kk
  refine r_cv (d1 := 1) dX12_kindOfWord_1 cvX12_176 rfl rfl rfl rfl (Nat.le_of_ble_eq_true rfl) (Nat.le_of_ble_eq_true rfl) (Nat.le_of_ble_eq_true rfl) (c_m_word  q1) ?_
  refine r_p dX12_kindOfWord_4 rfl rfl ?_
  refine r_p dX12_kindOfWord_5 rfl rfl ?_
  refine r_kl dX12_kindOfWord_6 klX12_180 ?_
  refine r_p dX12_kindOfWord_9 rfl rfl ?_
  refine r_ine dX12_kindOfWord_10 rfl (fun c10_1 => ?_) (fun c10_1 => ?_)
  · refine r_p dX12_kindOfWord_17 rfl rfl ?_
    refine r_kl dX12_kindOfWord_18 klX12_182 ?_
    refine r_p dX12_kindOfWord_21 rfl rfl ?_
    refine r_ine dX12_kindOfWord_22 rfl (fun c22_2 => ?_) (fun c22_2 => ?_)
    · refine r_p dX12_kindOfWord_29 rfl rfl ?_
      refine r_kl dX12_kindOfWord_30 klX12_184 ?_
      refine r_p dX12_kindOfWord_33 rfl rfl ?_
      refine r_ine dX12_kindOfWord_34 rfl (fun c34_3 => ?_) (fun c34_3 => ?_)
      · refine r_p dX12_kindOfWord_41 rfl rfl ?_
        refine r_kl dX12_kindOfWord_42 klX12_186 ?_
        refine r_p dX12_kindOfWord_45 rfl rfl ?_
        refine r_ine dX12_kindOfWord_46 rfl (fun c46_4 => ?_) (fun c46_4 => ?_)
        · refine r_p dX12_kindOfWord_53 rfl rfl ?_
          refine r_kl dX12_kindOfWord_54 klX12_188 ?_
          refine r_p dX12_kindOfWord_57 rfl rfl ?_
          refine r_ine dX12_kindOfWord_58 rfl (fun c58_5 => ?_) (fun c58_5 => ?_)
          · refine r_k dX12_kindOfWord_65 kkX12_137 ?_
            exact r_eIp (r' := (-1000000)) (by unfold x_m_kindOfWord; rw [if_neg c10_1, if_neg c22_2, if_neg c34_3, if_neg c46_4, if_neg c58_5]) (r_ri dX12_kindOfWord_67 rfl rfl rfl rfl)
          · refine r_ci (x := 5) dX12_kindOfWord_61 rfl ?_
            refine r_go dX12_kindOfWord_62 rfl ?_
            exact r_eIp (r' := 5) (by unfold x_m_kindOfWord; rw [if_neg c10_1, if_neg c22_2, if_neg c34_3, if_neg c46_4, if_pos c58_5]) (r_ri dX12_kindOfWord_67 rfl rfl rfl rfl)
        · refine r_ci (x := 4) dX12_kindOfWord_49 rfl ?_
          refine r_go dX12_kindOfWord_50 rfl ?_
          exact r_eIp (r' := 4) (by unfold x_m_kindOfWord; rw [if_neg c10_1, if_neg c22_2, if_neg c34_3, if_pos c46_4]) (r_ri dX12_kindOfWord_67 rfl rfl rfl rfl)
      · refine r_ci (x := 3) dX12_kindOfWord_37 rfl ?_
        refine r_go dX12_kindOfWord_38 rfl ?_
        exact r_eIp (r' := 3) (by unfold x_m_kindOfWord; rw [if_neg c10_1, if_neg c22_2, if_pos c34_3]) (r_ri dX12_kindOfWord_67 rfl rfl rfl rfl)
    · refine r_ci (x := 2) dX12_kindOfWord_25 rfl ?_
      refine r_go dX12_kindOfWord_26 rfl ?_
      exact r_eIp (r' := 2) (by unfold x_m_kindOfWord; rw [if_neg c10_1, if_pos c22_2]) (r_ri dX12_kindOfWord_67 rfl rfl rfl rfl)
  · refine r_ci (x := 1) dX12_kindOfWord_13 rfl ?_
    refine r_go dX12_kindOfWord_14 rfl ?_
    exact r_eIp (r' := 1) (by unfold x_m_kindOfWord; rw [if_pos c10_1]) (r_ri dX12_kindOfWord_67 rfl rfl rfl rfl)
def x_m_readAway (T : St)  : St := jn (fun (KJ1 : St → St) => if (T.2.2.1 576 (7 : Int32).toNatClampNeg) = 4 then (KJ1 (x_m_bad T 3)) else (KJ1 T)) (fun (T301 : St) => (fun (T1 : St) => jn (fun (KJ2 : Int32 → St) => if (T1.1 571 16) = 0 then (KJ2 (T1.2.2.1 576 (8 + (2 * ((x_m_must T301 1).2.2.1 576 (7 : Int32).toNatClampNeg)) : Int32).toNatClampNeg)) else (KJ2 0)) (fun (j2_s2 : Int32) => (fun (T2 : St) => if ((x_m_mustEnd T2).1 571 16) = 0 then (sA (x_m_mustEnd T2) 576 (7 : Int32).toNatClampNeg (((x_m_mustEnd T2).2.2.1 576 (7 : Int32).toNatClampNeg) + 1)) else (sA (x_m_mustEnd T2) 576 (7 : Int32).toNatClampNeg (((x_m_mustEnd T2).2.2.1 576 (7 : Int32).toNatClampNeg) + 0))) (x_m_number T1 ((8 + (2 * ((x_m_must T301 1).2.2.1 576 (7 : Int32).toNatClampNeg))) + 1) j2_s2 59))) (x_m_number (x_m_must T301 1) (8 + (2 * ((x_m_must T301 1).2.2.1 576 (7 : Int32).toNatClampNeg))) 0 59))
def ok_m_readAway (T : St)  : Prop := (vp_in 7 204) ∧ jn (fun (OJ1 : St → Prop) => (((T.2.2.1 576 (7 : Int32).toNatClampNeg) = 4 → OJ1 (x_m_bad T 3)) ∧ (¬ (T.2.2.1 576 (7 : Int32).toNatClampNeg) = 4 → OJ1 T))) (fun (T301 : St) => (ok_m_must T301 1) ∧ (vp_in 7 204) ∧ (ok_m_number (x_m_must T301 1) (8 + (2 * ((x_m_must T301 1).2.2.1 576 (7 : Int32).toNatClampNeg))) 0 59) ∧ (fun (T1 : St) => jn (fun (OJ2 : Int32 → Prop) => (((T1.1 571 16) = 0 → (vp_in (8 + (2 * ((x_m_must T301 1).2.2.1 576 (7 : Int32).toNatClampNeg))) 204) ∧ OJ2 (T1.2.2.1 576 (8 + (2 * ((x_m_must T301 1).2.2.1 576 (7 : Int32).toNatClampNeg)) : Int32).toNatClampNeg)) ∧ (¬ (T1.1 571 16) = 0 → OJ2 0))) (fun (j2_s2 : Int32) => (ok_m_number T1 ((8 + (2 * ((x_m_must T301 1).2.2.1 576 (7 : Int32).toNatClampNeg))) + 1) j2_s2 59) ∧ (fun (T2 : St) => (ok_m_mustEnd T2) ∧ (vp_in 7 204) ∧ True) (x_m_number T1 ((8 + (2 * ((x_m_must T301 1).2.2.1 576 (7 : Int32).toNatClampNeg))) + 1) j2_s2 59))) (x_m_number (x_m_must T301 1) (8 + (2 * ((x_m_must T301 1).2.2.1 576 (7 : Int32).toNatClampNeg))) 0 59))
theorem c_m_readAway {X : Nat × (Nat → Int32)} {T : St}  (kk : ok_m_readAway T ) : tC X 5 mX12_readAway [.ref 571] T none (x_m_readAway T) := by
  unfold ok_m_readAway at kk
  refine tC_of ?_
  refine r_p dX12_readAway_0 rfl rfl ?_
  refine r_get dX12_readAway_1 fkX12_22 rfl rfl ?_
  refine r_cb (x := 7) dX12_readAway_4 rfl ?_
  obtain ⟨q1, kk⟩ := kk
  refine r_ia dX12_readAway_6 rfl q1 ?_
  refine r_ci (x := 4) dX12_readAway_7 rfl ?_
  obtain ⟨KJ1, hKJ1⟩ : ∃ q : St → St, q = (fun (T301 : St) => (fun (T1 : St) => jn (fun (KJ2 : Int32 → St) => if (T1.1 571 16) = 0 then (KJ2 (T1.2.2.1 576 (8 + (2 * ((x_m_must T301 1).2.2.1 576 (7 : Int32).toNatClampNeg)) : Int32).toNatClampNeg)) else (KJ2 0)) (fun (j2_s2 : Int32) => (fun (T2 : St) => if ((x_m_mustEnd T2).1 571 16) = 0 then (sA (x_m_mustEnd T2) 576 (7 : Int32).toNatClampNeg (((x_m_mustEnd T2).2.2.1 576 (7 : Int32).toNatClampNeg) + 1)) else (sA (x_m_mustEnd T2) 576 (7 : Int32).toNatClampNeg (((x_m_mustEnd T2).2.2.1 576 (7 : Int32).toNatClampNeg) + 0))) (x_m_number T1 ((8 + (2 * ((x_m_must T301 1).2.2.1 576 (7 : Int32).toNatClampNeg))) + 1) j2_s2 59))) (x_m_number (x_m_must T301 1) (8 + (2 * ((x_m_must T301 1).2.2.1 576 (7 : Int32).toNatClampNeg))) 0 59)) := ⟨_, rfl⟩
  obtain ⟨OJ1, hOJ1⟩ : ∃ q : St → Prop, q = (fun (T301 : St) => (ok_m_must T301 1) ∧ (vp_in 7 204) ∧ (ok_m_number (x_m_must T301 1) (8 + (2 * ((x_m_must T301 1).2.2.1 576 (7 : Int32).toNatClampNeg))) 0 59) ∧ (fun (T1 : St) => jn (fun (OJ2 : Int32 → Prop) => (((T1.1 571 16) = 0 → (vp_in (8 + (2 * ((x_m_must T301 1).2.2.1 576 (7 : Int32).toNatClampNeg))) 204) ∧ OJ2 (T1.2.2.1 576 (8 + (2 * ((x_m_must T301 1).2.2.1 576 (7 : Int32).toNatClampNeg)) : Int32).toNatClampNeg)) ∧ (¬ (T1.1 571 16) = 0 → OJ2 0))) (fun (j2_s2 : Int32) => (ok_m_number T1 ((8 + (2 * ((x_m_must T301 1).2.2.1 576 (7 : Int32).toNatClampNeg))) + 1) j2_s2 59) ∧ (fun (T2 : St) => (ok_m_mustEnd T2) ∧ (vp_in 7 204) ∧ True) (x_m_number T1 ((8 + (2 * ((x_m_must T301 1).2.2.1 576 (7 : Int32).toNatClampNeg))) + 1) j2_s2 59))) (x_m_number (x_m_must T301 1) (8 + (2 * ((x_m_must T301 1).2.2.1 576 (7 : Int32).toNatClampNeg))) 0 59)) := ⟨_, rfl⟩
  rw [← hOJ1] at kk
  simp only [jn] at kk
  have hJ1 : ∀ (T301 : St), OJ1 T301 → tR X 4 mX12_readAway 16 [some (.ref 571), none] [] T301 none (KJ1 T301) := by
    intro T301 kk
    rw [hOJ1] at kk
    try dsimp only at kk
    rw [hKJ1]
    refine r_p dX12_readAway_16 rfl rfl ?_
    refine r_ci (x := 1) dX12_readAway_17 rfl ?_
    obtain ⟨q2, kk⟩ := kk
    refine r_cv (d1 := 3) dX12_readAway_18 cvX12_172 rfl rfl rfl rfl (Nat.le_of_ble_eq_true rfl) (Nat.le_of_ble_eq_true rfl) (Nat.le_of_ble_eq_true rfl) (c_m_must 1 q2) ?_
    refine r_cb (x := 8) dX12_readAway_21 rfl ?_
    refine r_ci (x := 2) dX12_readAway_23 rfl ?_
    refine r_p dX12_readAway_24 rfl rfl ?_
    refine r_get dX12_readAway_25 fkX12_22 rfl rfl ?_
    refine r_cb (x := 7) dX12_readAway_28 rfl ?_
    obtain ⟨q3, kk⟩ := kk
    refine r_ia dX12_readAway_30 rfl q3 ?_
    refine r_p dX12_readAway_31 rfl rfl ?_
    refine r_p dX12_readAway_32 rfl rfl ?_
    refine r_p dX12_readAway_33 rfl rfl ?_
    refine r_p dX12_readAway_34 rfl rfl ?_
    refine r_p dX12_readAway_35 rfl rfl ?_
    refine r_ci (x := 0) dX12_readAway_36 rfl ?_
    refine r_cb (x := 59) dX12_readAway_37 rfl ?_
    obtain ⟨q4, kk⟩ := kk
    refine r_cv (d1 := 4) dX12_readAway_39 cvX12_190 rfl rfl rfl rfl (Nat.le_of_ble_eq_true rfl) (Nat.le_of_ble_eq_true rfl) (Nat.le_of_ble_eq_true rfl) (c_m_number (8 + (2 * ((x_m_must T301 1).2.2.1 576 (7 : Int32).toNatClampNeg))) 0 59 q4) ?_
    refine r_eV (r' := (fun (T1 : St) => jn (fun (KJ2 : Int32 → St) => if (T1.1 571 16) = 0 then (KJ2 (T1.2.2.1 576 (8 + (2 * ((x_m_must T301 1).2.2.1 576 (7 : Int32).toNatClampNeg)) : Int32).toNatClampNeg)) else (KJ2 0)) (fun (j2_s2 : Int32) => (fun (T2 : St) => if ((x_m_mustEnd T2).1 571 16) = 0 then (sA (x_m_mustEnd T2) 576 (7 : Int32).toNatClampNeg (((x_m_mustEnd T2).2.2.1 576 (7 : Int32).toNatClampNeg) + 1)) else (sA (x_m_mustEnd T2) 576 (7 : Int32).toNatClampNeg (((x_m_mustEnd T2).2.2.1 576 (7 : Int32).toNatClampNeg) + 0))) (x_m_number T1 ((8 + (2 * ((x_m_must T301 1).2.2.1 576 (7 : Int32).toNatClampNeg))) + 1) j2_s2 59))) (x_m_number (x_m_must T301 1) (8 + (2 * ((x_m_must T301 1).2.2.1 576 (7 : Int32).toNatClampNeg))) 0 59)) rfl ?_
    generalize x_m_number (x_m_must T301 1) (8 + (2 * ((x_m_must T301 1).2.2.1 576 (7 : Int32).toNatClampNeg))) 0 59 = T1 at kk ⊢
    try dsimp only at kk
    refine r_p dX12_readAway_42 rfl rfl ?_
    refine r_p dX12_readAway_43 rfl rfl ?_
    refine r_ci (x := 1) dX12_readAway_44 rfl ?_
    refine r_p dX12_readAway_45 rfl rfl ?_
    refine r_p dX12_readAway_46 rfl rfl ?_
    refine r_get dX12_readAway_47 fkX12_159 rfl rfl ?_
    obtain ⟨KJ2, hKJ2⟩ : ∃ q : Int32 → St, q = (fun (j2_s2 : Int32) => (fun (T2 : St) => if ((x_m_mustEnd T2).1 571 16) = 0 then (sA (x_m_mustEnd T2) 576 (7 : Int32).toNatClampNeg (((x_m_mustEnd T2).2.2.1 576 (7 : Int32).toNatClampNeg) + 1)) else (sA (x_m_mustEnd T2) 576 (7 : Int32).toNatClampNeg (((x_m_mustEnd T2).2.2.1 576 (7 : Int32).toNatClampNeg) + 0))) (x_m_number T1 ((8 + (2 * ((x_m_must T301 1).2.2.1 576 (7 : Int32).toNatClampNeg))) + 1) j2_s2 59)) := ⟨_, rfl⟩
    obtain ⟨OJ2, hOJ2⟩ : ∃ q : Int32 → Prop, q = (fun (j2_s2 : Int32) => (ok_m_number T1 ((8 + (2 * ((x_m_must T301 1).2.2.1 576 (7 : Int32).toNatClampNeg))) + 1) j2_s2 59) ∧ (fun (T2 : St) => (ok_m_mustEnd T2) ∧ (vp_in 7 204) ∧ True) (x_m_number T1 ((8 + (2 * ((x_m_must T301 1).2.2.1 576 (7 : Int32).toNatClampNeg))) + 1) j2_s2 59)) := ⟨_, rfl⟩
    rw [← hOJ2] at kk
    simp only [jn] at kk
    have hJ2 : ∀ (j2_s2 : Int32), OJ2 j2_s2 → tR X 4 mX12_readAway 63 [some (.ref 571), some (.int (8 + (2 * ((x_m_must T301 1).2.2.1 576 (7 : Int32).toNatClampNeg))))] [.int j2_s2, .int ((8 + (2 * ((x_m_must T301 1).2.2.1 576 (7 : Int32).toNatClampNeg))) + 1), .ref 571] T1 none (KJ2 j2_s2) := by
      intro j2_s2 kk
      rw [hOJ2] at kk
      try dsimp only at kk
      rw [hKJ2]
      refine r_cb (x := 59) dX12_readAway_63 rfl ?_
      obtain ⟨q6, kk⟩ := kk
      refine r_cv (d1 := 4) dX12_readAway_65 cvX12_190 rfl rfl rfl rfl (Nat.le_of_ble_eq_true rfl) (Nat.le_of_ble_eq_true rfl) (Nat.le_of_ble_eq_true rfl) (c_m_number ((8 + (2 * ((x_m_must T301 1).2.2.1 576 (7 : Int32).toNatClampNeg))) + 1) j2_s2 59 q6) ?_
      refine r_eV (r' := (fun (T2 : St) => if ((x_m_mustEnd T2).1 571 16) = 0 then (sA (x_m_mustEnd T2) 576 (7 : Int32).toNatClampNeg (((x_m_mustEnd T2).2.2.1 576 (7 : Int32).toNatClampNeg) + 1)) else (sA (x_m_mustEnd T2) 576 (7 : Int32).toNatClampNeg (((x_m_mustEnd T2).2.2.1 576 (7 : Int32).toNatClampNeg) + 0))) (x_m_number T1 ((8 + (2 * ((x_m_must T301 1).2.2.1 576 (7 : Int32).toNatClampNeg))) + 1) j2_s2 59)) rfl ?_
      generalize x_m_number T1 ((8 + (2 * ((x_m_must T301 1).2.2.1 576 (7 : Int32).toNatClampNeg))) + 1) j2_s2 59 = T2 at kk ⊢
      try dsimp only at kk
      refine r_p dX12_readAway_68 rfl rfl ?_
      obtain ⟨q7, kk⟩ := kk
      refine r_cv (d1 := 4) dX12_readAway_69 cvX12_194 rfl rfl rfl rfl (Nat.le_of_ble_eq_true rfl) (Nat.le_of_ble_eq_true rfl) (Nat.le_of_ble_eq_true rfl) (c_m_mustEnd  q7) ?_
      refine r_p dX12_readAway_72 rfl rfl ?_
      refine r_get dX12_readAway_73 fkX12_22 rfl rfl ?_
      refine r_cb (x := 7) dX12_readAway_76 rfl ?_
      refine r_p dX12_readAway_78 rfl rfl ?_
      obtain ⟨q8, kk⟩ := kk
      refine r_ia dX12_readAway_79 rfl q8 ?_
      refine r_p dX12_readAway_80 rfl rfl ?_
      refine r_get dX12_readAway_81 fkX12_159 rfl rfl ?_
      refine r_ine dX12_readAway_84 rfl (fun c84_3 => ?_) (fun c84_3 => ?_)
      · refine r_ci (x := 0) dX12_readAway_91 rfl ?_
        refine r_p dX12_readAway_92 rfl rfl ?_
        refine r_ias dX12_readAway_93 rfl q8 ?_
        exact r_eV (r' := (sA (x_m_mustEnd T2) 576 (7 : Int32).toNatClampNeg (((x_m_mustEnd T2).2.2.1 576 (7 : Int32).toNatClampNeg) + 0))) (by first | rw [if_neg c84_3] | (dsimp only; rw [if_neg c84_3])) (r_rv dX12_readAway_94 rfl rfl rfl)
      · refine r_ci (x := 1) dX12_readAway_87 rfl ?_
        refine r_go dX12_readAway_88 rfl ?_
        refine r_p dX12_readAway_92 rfl rfl ?_
        refine r_ias dX12_readAway_93 rfl q8 ?_
        exact r_eV (r' := (sA (x_m_mustEnd T2) 576 (7 : Int32).toNatClampNeg (((x_m_mustEnd T2).2.2.1 576 (7 : Int32).toNatClampNeg) + 1))) (by first | rw [if_pos c84_3] | (dsimp only; rw [if_pos c84_3])) (r_rv dX12_readAway_94 rfl rfl rfl)
    refine r_eV (r' := jn (fun (KJ2 : Int32 → St) => if (T1.1 571 16) = 0 then (KJ2 (T1.2.2.1 576 (8 + (2 * ((x_m_must T301 1).2.2.1 576 (7 : Int32).toNatClampNeg)) : Int32).toNatClampNeg)) else (KJ2 0)) KJ2) (by rw [hKJ2]) ?_
    refine r_ine dX12_readAway_50 rfl (fun c50_4 => ?_) (fun c50_4 => ?_)
    · have kk := kk.2 c50_4
      refine r_ci (x := 0) dX12_readAway_62 rfl ?_
      show tR _ _ _ _ [some (.ref 571), some (.int (8 + (2 * ((x_m_must T301 1).2.2.1 576 (7 : Int32).toNatClampNeg))))] [.int 0, .int ((8 + (2 * ((x_m_must T301 1).2.2.1 576 (7 : Int32).toNatClampNeg))) + 1), .ref 571] _ _ _
      exact r_eV (r' := KJ2 0) (by simp only [jn]; rw [if_neg c50_4]) ((hJ2 0 kk))
    · have kk := kk.1 c50_4
      refine r_p dX12_readAway_53 rfl rfl ?_
      refine r_get dX12_readAway_54 fkX12_22 rfl rfl ?_
      refine r_p dX12_readAway_57 rfl rfl ?_
      obtain ⟨q9, kk⟩ := kk
      refine r_ia dX12_readAway_58 rfl q9 ?_
      refine r_go dX12_readAway_59 rfl ?_
      show tR _ _ _ _ [some (.ref 571), some (.int (8 + (2 * ((x_m_must T301 1).2.2.1 576 (7 : Int32).toNatClampNeg))))] [.int (T1.2.2.1 576 (8 + (2 * ((x_m_must T301 1).2.2.1 576 (7 : Int32).toNatClampNeg)) : Int32).toNatClampNeg), .int ((8 + (2 * ((x_m_must T301 1).2.2.1 576 (7 : Int32).toNatClampNeg))) + 1), .ref 571] _ _ _
      exact r_eV (r' := KJ2 (T1.2.2.1 576 (8 + (2 * ((x_m_must T301 1).2.2.1 576 (7 : Int32).toNatClampNeg)) : Int32).toNatClampNeg)) (by simp only [jn]; rw [if_pos c50_4]) ((hJ2 (T1.2.2.1 576 (8 + (2 * ((x_m_must T301 1).2.2.1 576 (7 : Int32).toNatClampNeg)) : Int32).toNatClampNeg) kk))
  refine r_eV (r' := jn (fun (KJ1 : St → St) => if (T.2.2.1 576 (7 : Int32).toNatClampNeg) = 4 then (KJ1 (x_m_bad T 3)) else (KJ1 T)) KJ1) (by rw [hKJ1]; unfold x_m_readAway; rfl) ?_
  refine r_cne dX12_readAway_8 rfl (fun c8_5 => ?_) (fun c8_5 => ?_)
  · have kk := kk.2 c8_5
    show tR _ _ _ _ [some (.ref 571), none] [] _ _ _
    exact r_eV (r' := KJ1 T) (by simp only [jn]; rw [if_neg c8_5]) ((hJ1 T kk))
  · have kk := kk.1 c8_5
    refine r_p dX12_readAway_11 rfl rfl ?_
    refine r_ci (x := 3) dX12_readAway_12 rfl ?_
    refine r_cv (d1 := 1) dX12_readAway_13 cvX12_165 rfl rfl rfl rfl (Nat.le_of_ble_eq_true rfl) (Nat.le_of_ble_eq_true rfl) (Nat.le_of_ble_eq_true rfl) (c_m_bad 3) ?_
    show tR _ _ _ _ [some (.ref 571), none] [] _ _ _
    exact r_eV (r' := KJ1 (x_m_bad T 3)) (by simp only [jn]; rw [if_pos c8_5]) ((hJ1 (x_m_bad T 3) kk))
def x_m_readStep (T : St) (p0 : Int32) (p1 : Int32) : St := jn (fun (KJ1 : St → St) => if (T.2.2.1 576 ((18 + (5 * p1)) + 3 : Int32).toNatClampNeg) = 3 then (KJ1 (x_m_bad T 3)) else (KJ1 T)) (fun (T301 : St) => if ((x_m_must T301 1).1 571 16) ≤ 0 then (fun (T1 : St) => jn (fun (KJ2 : Int32 → St) => if p0 = 3 then (KJ2 2) else (KJ2 0)) (fun (j2_s2 : Int32) => (fun (T2 : St) => (fun (T3 : St) => (fun (T4 : St) => (fun (T5 : St) => (fun (T6 : St) => jn (fun (KJ3 : St) => if p0 = 1 then (KJ3) else (if p0 = 2 then (KJ3) else (jn (fun (KJ7 : St → St) => if p0 = 2 then (if (T6.1 571 16) = 0 then (fun (T33 : St) => KJ7 T33) (x_m_number T6 ((58 + (6 * ((x_m_must T301 1).2.2.1 576 (17 : Int32).toNatClampNeg))) + 5) (T6.2.2.1 576 ((58 + (6 * ((x_m_must T301 1).2.2.1 576 (17 : Int32).toNatClampNeg))) + 4 : Int32).toNatClampNeg) 9) else (fun (T32 : St) => KJ7 T32) (x_m_number T6 ((58 + (6 * ((x_m_must T301 1).2.2.1 576 (17 : Int32).toNatClampNeg))) + 5) 0 9)) else (KJ7 T6)) (fun (T307 : St) => jn (fun (KJ8 : St → St) => if p0 = 5 then (fun (T31 : St) => KJ8 T31) (x_m_number T307 ((58 + (6 * ((x_m_must T301 1).2.2.1 576 (17 : Int32).toNatClampNeg))) + 4) 0 9) else (KJ8 T307)) (fun (T308 : St) => (fun (T30 : St) => sA T30 576 (17 : Int32).toNatClampNeg ((T30.2.2.1 576 (17 : Int32).toNatClampNeg) + 1)) (sA (x_m_mustEnd T308) 576 ((18 + (5 * p1)) + 3 : Int32).toNatClampNeg (((x_m_mustEnd T308).2.2.1 576 ((18 + (5 * p1)) + 3 : Int32).toNatClampNeg) + 1))))))) ((fun (T18 : St) => jn (fun (KJ4 : Int32 → St) => if p0 = 1 then (KJ4 1) else (KJ4 9)) (fun (j4_s3 : Int32) => (fun (T19 : St) => jn (fun (KJ5 : St → St) => if p0 = 2 then (if (T19.1 571 16) = 0 then (fun (T26 : St) => KJ5 T26) (x_m_number T19 ((58 + (6 * ((x_m_must T301 1).2.2.1 576 (17 : Int32).toNatClampNeg))) + 5) (T19.2.2.1 576 ((58 + (6 * ((x_m_must T301 1).2.2.1 576 (17 : Int32).toNatClampNeg))) + 4 : Int32).toNatClampNeg) 9) else (fun (T25 : St) => KJ5 T25) (x_m_number T19 ((58 + (6 * ((x_m_must T301 1).2.2.1 576 (17 : Int32).toNatClampNeg))) + 5) 0 9)) else (KJ5 T19)) (fun (T305 : St) => jn (fun (KJ6 : St → St) => if p0 = 5 then (fun (T24 : St) => KJ6 T24) (x_m_number T305 ((58 + (6 * ((x_m_must T301 1).2.2.1 576 (17 : Int32).toNatClampNeg))) + 4) 0 9) else (KJ6 T305)) (fun (T306 : St) => (fun (T23 : St) => sA T23 576 (17 : Int32).toNatClampNeg ((T23.2.2.1 576 (17 : Int32).toNatClampNeg) + 1)) (sA (x_m_mustEnd T306) 576 ((18 + (5 * p1)) + 3 : Int32).toNatClampNeg (((x_m_mustEnd T306).2.2.1 576 ((18 + (5 * p1)) + 3 : Int32).toNatClampNeg) + 1))))) (x_m_number T18 ((58 + (6 * ((x_m_must T301 1).2.2.1 576 (17 : Int32).toNatClampNeg))) + 4) 0 j4_s3))) (x_m_number T6 ((58 + (6 * ((x_m_must T301 1).2.2.1 576 (17 : Int32).toNatClampNeg))) + 3) 0 2))) (x_m_number T5 ((58 + (6 * ((x_m_must T301 1).2.2.1 576 (17 : Int32).toNatClampNeg))) + 2) 0 1)) (x_m_number T4 ((58 + (6 * ((x_m_must T301 1).2.2.1 576 (17 : Int32).toNatClampNeg))) + 1) 1 30)) (sA T3 576 ((58 + (6 * ((x_m_must T301 1).2.2.1 576 (17 : Int32).toNatClampNeg))) + 5 : Int32).toNatClampNeg (-1000000))) (sA T2 576 ((58 + (6 * ((x_m_must T301 1).2.2.1 576 (17 : Int32).toNatClampNeg))) + 4 : Int32).toNatClampNeg (-1000000))) (sA T1 576 ((58 + (6 * ((x_m_must T301 1).2.2.1 576 (17 : Int32).toNatClampNeg))) + 3 : Int32).toNatClampNeg j2_s2))) (sA (x_m_must T301 1) 576 (58 + (6 * ((x_m_must T301 1).2.2.1 576 (17 : Int32).toNatClampNeg)) : Int32).toNatClampNeg p0) else (x_m_must T301 1))
def ok_m_readStep (T : St) (p0 : Int32) (p1 : Int32) : Prop := (vp_in ((18 + (5 * p1)) + 3) 204) ∧ jn (fun (OJ1 : St → Prop) => (((T.2.2.1 576 ((18 + (5 * p1)) + 3 : Int32).toNatClampNeg) = 3 → OJ1 (x_m_bad T 3)) ∧ (¬ (T.2.2.1 576 ((18 + (5 * p1)) + 3 : Int32).toNatClampNeg) = 3 → OJ1 T))) (fun (T301 : St) => (ok_m_must T301 1) ∧ (((x_m_must T301 1).1 571 16) ≤ 0 → (vp_in 17 204) ∧ (vp_in (58 + (6 * ((x_m_must T301 1).2.2.1 576 (17 : Int32).toNatClampNeg))) 204) ∧ (fun (T1 : St) => jn (fun (OJ2 : Int32 → Prop) => ((p0 = 3 → OJ2 2) ∧ (¬ p0 = 3 → OJ2 0))) (fun (j2_s2 : Int32) => (vp_in ((58 + (6 * ((x_m_must T301 1).2.2.1 576 (17 : Int32).toNatClampNeg))) + 3) 204) ∧ (fun (T2 : St) => (vp_in ((58 + (6 * ((x_m_must T301 1).2.2.1 576 (17 : Int32).toNatClampNeg))) + 4) 204) ∧ (fun (T3 : St) => (vp_in ((58 + (6 * ((x_m_must T301 1).2.2.1 576 (17 : Int32).toNatClampNeg))) + 5) 204) ∧ (fun (T4 : St) => (ok_m_number T4 ((58 + (6 * ((x_m_must T301 1).2.2.1 576 (17 : Int32).toNatClampNeg))) + 1) 1 30) ∧ (fun (T5 : St) => (ok_m_number T5 ((58 + (6 * ((x_m_must T301 1).2.2.1 576 (17 : Int32).toNatClampNeg))) + 2) 0 1) ∧ (fun (T6 : St) => jn (fun (OJ3 : Prop) => ((p0 = 1 → OJ3) ∧ (¬ p0 = 1 → ((p0 = 2 → OJ3) ∧ (¬ p0 = 2 → jn (fun (OJ7 : St → Prop) => ((p0 = 2 → (((T6.1 571 16) = 0 → (vp_in ((58 + (6 * ((x_m_must T301 1).2.2.1 576 (17 : Int32).toNatClampNeg))) + 4) 204) ∧ (ok_m_number T6 ((58 + (6 * ((x_m_must T301 1).2.2.1 576 (17 : Int32).toNatClampNeg))) + 5) (T6.2.2.1 576 ((58 + (6 * ((x_m_must T301 1).2.2.1 576 (17 : Int32).toNatClampNeg))) + 4 : Int32).toNatClampNeg) 9) ∧ (fun (T33 : St) => OJ7 T33) (x_m_number T6 ((58 + (6 * ((x_m_must T301 1).2.2.1 576 (17 : Int32).toNatClampNeg))) + 5) (T6.2.2.1 576 ((58 + (6 * ((x_m_must T301 1).2.2.1 576 (17 : Int32).toNatClampNeg))) + 4 : Int32).toNatClampNeg) 9)) ∧ (¬ (T6.1 571 16) = 0 → (ok_m_number T6 ((58 + (6 * ((x_m_must T301 1).2.2.1 576 (17 : Int32).toNatClampNeg))) + 5) 0 9) ∧ (fun (T32 : St) => OJ7 T32) (x_m_number T6 ((58 + (6 * ((x_m_must T301 1).2.2.1 576 (17 : Int32).toNatClampNeg))) + 5) 0 9)))) ∧ (¬ p0 = 2 → OJ7 T6))) (fun (T307 : St) => jn (fun (OJ8 : St → Prop) => ((p0 = 5 → (ok_m_number T307 ((58 + (6 * ((x_m_must T301 1).2.2.1 576 (17 : Int32).toNatClampNeg))) + 4) 0 9) ∧ (fun (T31 : St) => OJ8 T31) (x_m_number T307 ((58 + (6 * ((x_m_must T301 1).2.2.1 576 (17 : Int32).toNatClampNeg))) + 4) 0 9)) ∧ (¬ p0 = 5 → OJ8 T307))) (fun (T308 : St) => (ok_m_mustEnd T308) ∧ (vp_in ((18 + (5 * p1)) + 3) 204) ∧ (fun (T30 : St) => (vp_in 17 204) ∧ True) (sA (x_m_mustEnd T308) 576 ((18 + (5 * p1)) + 3 : Int32).toNatClampNeg (((x_m_mustEnd T308).2.2.1 576 ((18 + (5 * p1)) + 3 : Int32).toNatClampNeg) + 1))))))))) ((ok_m_number T6 ((58 + (6 * ((x_m_must T301 1).2.2.1 576 (17 : Int32).toNatClampNeg))) + 3) 0 2) ∧ (fun (T18 : St) => jn (fun (OJ4 : Int32 → Prop) => ((p0 = 1 → OJ4 1) ∧ (¬ p0 = 1 → OJ4 9))) (fun (j4_s3 : Int32) => (ok_m_number T18 ((58 + (6 * ((x_m_must T301 1).2.2.1 576 (17 : Int32).toNatClampNeg))) + 4) 0 j4_s3) ∧ (fun (T19 : St) => jn (fun (OJ5 : St → Prop) => ((p0 = 2 → (((T19.1 571 16) = 0 → (vp_in ((58 + (6 * ((x_m_must T301 1).2.2.1 576 (17 : Int32).toNatClampNeg))) + 4) 204) ∧ (ok_m_number T19 ((58 + (6 * ((x_m_must T301 1).2.2.1 576 (17 : Int32).toNatClampNeg))) + 5) (T19.2.2.1 576 ((58 + (6 * ((x_m_must T301 1).2.2.1 576 (17 : Int32).toNatClampNeg))) + 4 : Int32).toNatClampNeg) 9) ∧ (fun (T26 : St) => OJ5 T26) (x_m_number T19 ((58 + (6 * ((x_m_must T301 1).2.2.1 576 (17 : Int32).toNatClampNeg))) + 5) (T19.2.2.1 576 ((58 + (6 * ((x_m_must T301 1).2.2.1 576 (17 : Int32).toNatClampNeg))) + 4 : Int32).toNatClampNeg) 9)) ∧ (¬ (T19.1 571 16) = 0 → (ok_m_number T19 ((58 + (6 * ((x_m_must T301 1).2.2.1 576 (17 : Int32).toNatClampNeg))) + 5) 0 9) ∧ (fun (T25 : St) => OJ5 T25) (x_m_number T19 ((58 + (6 * ((x_m_must T301 1).2.2.1 576 (17 : Int32).toNatClampNeg))) + 5) 0 9)))) ∧ (¬ p0 = 2 → OJ5 T19))) (fun (T305 : St) => jn (fun (OJ6 : St → Prop) => ((p0 = 5 → (ok_m_number T305 ((58 + (6 * ((x_m_must T301 1).2.2.1 576 (17 : Int32).toNatClampNeg))) + 4) 0 9) ∧ (fun (T24 : St) => OJ6 T24) (x_m_number T305 ((58 + (6 * ((x_m_must T301 1).2.2.1 576 (17 : Int32).toNatClampNeg))) + 4) 0 9)) ∧ (¬ p0 = 5 → OJ6 T305))) (fun (T306 : St) => (ok_m_mustEnd T306) ∧ (vp_in ((18 + (5 * p1)) + 3) 204) ∧ (fun (T23 : St) => (vp_in 17 204) ∧ True) (sA (x_m_mustEnd T306) 576 ((18 + (5 * p1)) + 3 : Int32).toNatClampNeg (((x_m_mustEnd T306).2.2.1 576 ((18 + (5 * p1)) + 3 : Int32).toNatClampNeg) + 1))))) (x_m_number T18 ((58 + (6 * ((x_m_must T301 1).2.2.1 576 (17 : Int32).toNatClampNeg))) + 4) 0 j4_s3))) (x_m_number T6 ((58 + (6 * ((x_m_must T301 1).2.2.1 576 (17 : Int32).toNatClampNeg))) + 3) 0 2))) (x_m_number T5 ((58 + (6 * ((x_m_must T301 1).2.2.1 576 (17 : Int32).toNatClampNeg))) + 2) 0 1)) (x_m_number T4 ((58 + (6 * ((x_m_must T301 1).2.2.1 576 (17 : Int32).toNatClampNeg))) + 1) 1 30)) (sA T3 576 ((58 + (6 * ((x_m_must T301 1).2.2.1 576 (17 : Int32).toNatClampNeg))) + 5 : Int32).toNatClampNeg (-1000000))) (sA T2 576 ((58 + (6 * ((x_m_must T301 1).2.2.1 576 (17 : Int32).toNatClampNeg))) + 4 : Int32).toNatClampNeg (-1000000))) (sA T1 576 ((58 + (6 * ((x_m_must T301 1).2.2.1 576 (17 : Int32).toNatClampNeg))) + 3 : Int32).toNatClampNeg j2_s2))) (sA (x_m_must T301 1) 576 (58 + (6 * ((x_m_must T301 1).2.2.1 576 (17 : Int32).toNatClampNeg)) : Int32).toNatClampNeg p0)))
theorem c_m_readStep {X : Nat × (Nat → Int32)} {T : St} (p0 : Int32) (p1 : Int32) (kk : ok_m_readStep T p0 p1) : tC X 5 mX12_readStep [.ref 571, .int p0, .int p1] T none (x_m_readStep T p0 p1) := by
  unfold ok_m_readStep at kk
  refine tC_of ?_
  refine r_cb (x := 18) dX12_readStep_0 rfl ?_
  refine r_ci (x := 5) dX12_readStep_2 rfl ?_
  refine r_p dX12_readStep_3 rfl rfl ?_
  refine r_p dX12_readStep_4 rfl rfl ?_
  refine r_p dX12_readStep_5 rfl rfl ?_
  refine r_ci (x := 3) dX12_readStep_6 rfl ?_
  refine r_p dX12_readStep_7 rfl rfl ?_
  refine r_p dX12_readStep_8 rfl rfl ?_
  refine r_p dX12_readStep_9 rfl rfl ?_
  refine r_get dX12_readStep_10 fkX12_22 rfl rfl ?_
  refine r_p dX12_readStep_13 rfl rfl ?_
  obtain ⟨q1, kk⟩ := kk
  refine r_ia dX12_readStep_14 rfl q1 ?_
  refine r_ci (x := 3) dX12_readStep_15 rfl ?_
  obtain ⟨KJ1, hKJ1⟩ : ∃ q : St → St, q = (fun (T301 : St) => if ((x_m_must T301 1).1 571 16) ≤ 0 then (fun (T1 : St) => jn (fun (KJ2 : Int32 → St) => if p0 = 3 then (KJ2 2) else (KJ2 0)) (fun (j2_s2 : Int32) => (fun (T2 : St) => (fun (T3 : St) => (fun (T4 : St) => (fun (T5 : St) => (fun (T6 : St) => jn (fun (KJ3 : St) => if p0 = 1 then (KJ3) else (if p0 = 2 then (KJ3) else (jn (fun (KJ7 : St → St) => if p0 = 2 then (if (T6.1 571 16) = 0 then (fun (T33 : St) => KJ7 T33) (x_m_number T6 ((58 + (6 * ((x_m_must T301 1).2.2.1 576 (17 : Int32).toNatClampNeg))) + 5) (T6.2.2.1 576 ((58 + (6 * ((x_m_must T301 1).2.2.1 576 (17 : Int32).toNatClampNeg))) + 4 : Int32).toNatClampNeg) 9) else (fun (T32 : St) => KJ7 T32) (x_m_number T6 ((58 + (6 * ((x_m_must T301 1).2.2.1 576 (17 : Int32).toNatClampNeg))) + 5) 0 9)) else (KJ7 T6)) (fun (T307 : St) => jn (fun (KJ8 : St → St) => if p0 = 5 then (fun (T31 : St) => KJ8 T31) (x_m_number T307 ((58 + (6 * ((x_m_must T301 1).2.2.1 576 (17 : Int32).toNatClampNeg))) + 4) 0 9) else (KJ8 T307)) (fun (T308 : St) => (fun (T30 : St) => sA T30 576 (17 : Int32).toNatClampNeg ((T30.2.2.1 576 (17 : Int32).toNatClampNeg) + 1)) (sA (x_m_mustEnd T308) 576 ((18 + (5 * p1)) + 3 : Int32).toNatClampNeg (((x_m_mustEnd T308).2.2.1 576 ((18 + (5 * p1)) + 3 : Int32).toNatClampNeg) + 1))))))) ((fun (T18 : St) => jn (fun (KJ4 : Int32 → St) => if p0 = 1 then (KJ4 1) else (KJ4 9)) (fun (j4_s3 : Int32) => (fun (T19 : St) => jn (fun (KJ5 : St → St) => if p0 = 2 then (if (T19.1 571 16) = 0 then (fun (T26 : St) => KJ5 T26) (x_m_number T19 ((58 + (6 * ((x_m_must T301 1).2.2.1 576 (17 : Int32).toNatClampNeg))) + 5) (T19.2.2.1 576 ((58 + (6 * ((x_m_must T301 1).2.2.1 576 (17 : Int32).toNatClampNeg))) + 4 : Int32).toNatClampNeg) 9) else (fun (T25 : St) => KJ5 T25) (x_m_number T19 ((58 + (6 * ((x_m_must T301 1).2.2.1 576 (17 : Int32).toNatClampNeg))) + 5) 0 9)) else (KJ5 T19)) (fun (T305 : St) => jn (fun (KJ6 : St → St) => if p0 = 5 then (fun (T24 : St) => KJ6 T24) (x_m_number T305 ((58 + (6 * ((x_m_must T301 1).2.2.1 576 (17 : Int32).toNatClampNeg))) + 4) 0 9) else (KJ6 T305)) (fun (T306 : St) => (fun (T23 : St) => sA T23 576 (17 : Int32).toNatClampNeg ((T23.2.2.1 576 (17 : Int32).toNatClampNeg) + 1)) (sA (x_m_mustEnd T306) 576 ((18 + (5 * p1)) + 3 : Int32).toNatClampNeg (((x_m_mustEnd T306).2.2.1 576 ((18 + (5 * p1)) + 3 : Int32).toNatClampNeg) + 1))))) (x_m_number T18 ((58 + (6 * ((x_m_must T301 1).2.2.1 576 (17 : Int32).toNatClampNeg))) + 4) 0 j4_s3))) (x_m_number T6 ((58 + (6 * ((x_m_must T301 1).2.2.1 576 (17 : Int32).toNatClampNeg))) + 3) 0 2))) (x_m_number T5 ((58 + (6 * ((x_m_must T301 1).2.2.1 576 (17 : Int32).toNatClampNeg))) + 2) 0 1)) (x_m_number T4 ((58 + (6 * ((x_m_must T301 1).2.2.1 576 (17 : Int32).toNatClampNeg))) + 1) 1 30)) (sA T3 576 ((58 + (6 * ((x_m_must T301 1).2.2.1 576 (17 : Int32).toNatClampNeg))) + 5 : Int32).toNatClampNeg (-1000000))) (sA T2 576 ((58 + (6 * ((x_m_must T301 1).2.2.1 576 (17 : Int32).toNatClampNeg))) + 4 : Int32).toNatClampNeg (-1000000))) (sA T1 576 ((58 + (6 * ((x_m_must T301 1).2.2.1 576 (17 : Int32).toNatClampNeg))) + 3 : Int32).toNatClampNeg j2_s2))) (sA (x_m_must T301 1) 576 (58 + (6 * ((x_m_must T301 1).2.2.1 576 (17 : Int32).toNatClampNeg)) : Int32).toNatClampNeg p0) else (x_m_must T301 1)) := ⟨_, rfl⟩
  obtain ⟨OJ1, hOJ1⟩ : ∃ q : St → Prop, q = (fun (T301 : St) => (ok_m_must T301 1) ∧ (((x_m_must T301 1).1 571 16) ≤ 0 → (vp_in 17 204) ∧ (vp_in (58 + (6 * ((x_m_must T301 1).2.2.1 576 (17 : Int32).toNatClampNeg))) 204) ∧ (fun (T1 : St) => jn (fun (OJ2 : Int32 → Prop) => ((p0 = 3 → OJ2 2) ∧ (¬ p0 = 3 → OJ2 0))) (fun (j2_s2 : Int32) => (vp_in ((58 + (6 * ((x_m_must T301 1).2.2.1 576 (17 : Int32).toNatClampNeg))) + 3) 204) ∧ (fun (T2 : St) => (vp_in ((58 + (6 * ((x_m_must T301 1).2.2.1 576 (17 : Int32).toNatClampNeg))) + 4) 204) ∧ (fun (T3 : St) => (vp_in ((58 + (6 * ((x_m_must T301 1).2.2.1 576 (17 : Int32).toNatClampNeg))) + 5) 204) ∧ (fun (T4 : St) => (ok_m_number T4 ((58 + (6 * ((x_m_must T301 1).2.2.1 576 (17 : Int32).toNatClampNeg))) + 1) 1 30) ∧ (fun (T5 : St) => (ok_m_number T5 ((58 + (6 * ((x_m_must T301 1).2.2.1 576 (17 : Int32).toNatClampNeg))) + 2) 0 1) ∧ (fun (T6 : St) => jn (fun (OJ3 : Prop) => ((p0 = 1 → OJ3) ∧ (¬ p0 = 1 → ((p0 = 2 → OJ3) ∧ (¬ p0 = 2 → jn (fun (OJ7 : St → Prop) => ((p0 = 2 → (((T6.1 571 16) = 0 → (vp_in ((58 + (6 * ((x_m_must T301 1).2.2.1 576 (17 : Int32).toNatClampNeg))) + 4) 204) ∧ (ok_m_number T6 ((58 + (6 * ((x_m_must T301 1).2.2.1 576 (17 : Int32).toNatClampNeg))) + 5) (T6.2.2.1 576 ((58 + (6 * ((x_m_must T301 1).2.2.1 576 (17 : Int32).toNatClampNeg))) + 4 : Int32).toNatClampNeg) 9) ∧ (fun (T33 : St) => OJ7 T33) (x_m_number T6 ((58 + (6 * ((x_m_must T301 1).2.2.1 576 (17 : Int32).toNatClampNeg))) + 5) (T6.2.2.1 576 ((58 + (6 * ((x_m_must T301 1).2.2.1 576 (17 : Int32).toNatClampNeg))) + 4 : Int32).toNatClampNeg) 9)) ∧ (¬ (T6.1 571 16) = 0 → (ok_m_number T6 ((58 + (6 * ((x_m_must T301 1).2.2.1 576 (17 : Int32).toNatClampNeg))) + 5) 0 9) ∧ (fun (T32 : St) => OJ7 T32) (x_m_number T6 ((58 + (6 * ((x_m_must T301 1).2.2.1 576 (17 : Int32).toNatClampNeg))) + 5) 0 9)))) ∧ (¬ p0 = 2 → OJ7 T6))) (fun (T307 : St) => jn (fun (OJ8 : St → Prop) => ((p0 = 5 → (ok_m_number T307 ((58 + (6 * ((x_m_must T301 1).2.2.1 576 (17 : Int32).toNatClampNeg))) + 4) 0 9) ∧ (fun (T31 : St) => OJ8 T31) (x_m_number T307 ((58 + (6 * ((x_m_must T301 1).2.2.1 576 (17 : Int32).toNatClampNeg))) + 4) 0 9)) ∧ (¬ p0 = 5 → OJ8 T307))) (fun (T308 : St) => (ok_m_mustEnd T308) ∧ (vp_in ((18 + (5 * p1)) + 3) 204) ∧ (fun (T30 : St) => (vp_in 17 204) ∧ True) (sA (x_m_mustEnd T308) 576 ((18 + (5 * p1)) + 3 : Int32).toNatClampNeg (((x_m_mustEnd T308).2.2.1 576 ((18 + (5 * p1)) + 3 : Int32).toNatClampNeg) + 1))))))))) ((ok_m_number T6 ((58 + (6 * ((x_m_must T301 1).2.2.1 576 (17 : Int32).toNatClampNeg))) + 3) 0 2) ∧ (fun (T18 : St) => jn (fun (OJ4 : Int32 → Prop) => ((p0 = 1 → OJ4 1) ∧ (¬ p0 = 1 → OJ4 9))) (fun (j4_s3 : Int32) => (ok_m_number T18 ((58 + (6 * ((x_m_must T301 1).2.2.1 576 (17 : Int32).toNatClampNeg))) + 4) 0 j4_s3) ∧ (fun (T19 : St) => jn (fun (OJ5 : St → Prop) => ((p0 = 2 → (((T19.1 571 16) = 0 → (vp_in ((58 + (6 * ((x_m_must T301 1).2.2.1 576 (17 : Int32).toNatClampNeg))) + 4) 204) ∧ (ok_m_number T19 ((58 + (6 * ((x_m_must T301 1).2.2.1 576 (17 : Int32).toNatClampNeg))) + 5) (T19.2.2.1 576 ((58 + (6 * ((x_m_must T301 1).2.2.1 576 (17 : Int32).toNatClampNeg))) + 4 : Int32).toNatClampNeg) 9) ∧ (fun (T26 : St) => OJ5 T26) (x_m_number T19 ((58 + (6 * ((x_m_must T301 1).2.2.1 576 (17 : Int32).toNatClampNeg))) + 5) (T19.2.2.1 576 ((58 + (6 * ((x_m_must T301 1).2.2.1 576 (17 : Int32).toNatClampNeg))) + 4 : Int32).toNatClampNeg) 9)) ∧ (¬ (T19.1 571 16) = 0 → (ok_m_number T19 ((58 + (6 * ((x_m_must T301 1).2.2.1 576 (17 : Int32).toNatClampNeg))) + 5) 0 9) ∧ (fun (T25 : St) => OJ5 T25) (x_m_number T19 ((58 + (6 * ((x_m_must T301 1).2.2.1 576 (17 : Int32).toNatClampNeg))) + 5) 0 9)))) ∧ (¬ p0 = 2 → OJ5 T19))) (fun (T305 : St) => jn (fun (OJ6 : St → Prop) => ((p0 = 5 → (ok_m_number T305 ((58 + (6 * ((x_m_must T301 1).2.2.1 576 (17 : Int32).toNatClampNeg))) + 4) 0 9) ∧ (fun (T24 : St) => OJ6 T24) (x_m_number T305 ((58 + (6 * ((x_m_must T301 1).2.2.1 576 (17 : Int32).toNatClampNeg))) + 4) 0 9)) ∧ (¬ p0 = 5 → OJ6 T305))) (fun (T306 : St) => (ok_m_mustEnd T306) ∧ (vp_in ((18 + (5 * p1)) + 3) 204) ∧ (fun (T23 : St) => (vp_in 17 204) ∧ True) (sA (x_m_mustEnd T306) 576 ((18 + (5 * p1)) + 3 : Int32).toNatClampNeg (((x_m_mustEnd T306).2.2.1 576 ((18 + (5 * p1)) + 3 : Int32).toNatClampNeg) + 1))))) (x_m_number T18 ((58 + (6 * ((x_m_must T301 1).2.2.1 576 (17 : Int32).toNatClampNeg))) + 4) 0 j4_s3))) (x_m_number T6 ((58 + (6 * ((x_m_must T301 1).2.2.1 576 (17 : Int32).toNatClampNeg))) + 3) 0 2))) (x_m_number T5 ((58 + (6 * ((x_m_must T301 1).2.2.1 576 (17 : Int32).toNatClampNeg))) + 2) 0 1)) (x_m_number T4 ((58 + (6 * ((x_m_must T301 1).2.2.1 576 (17 : Int32).toNatClampNeg))) + 1) 1 30)) (sA T3 576 ((58 + (6 * ((x_m_must T301 1).2.2.1 576 (17 : Int32).toNatClampNeg))) + 5 : Int32).toNatClampNeg (-1000000))) (sA T2 576 ((58 + (6 * ((x_m_must T301 1).2.2.1 576 (17 : Int32).toNatClampNeg))) + 4 : Int32).toNatClampNeg (-1000000))) (sA T1 576 ((58 + (6 * ((x_m_must T301 1).2.2.1 576 (17 : Int32).toNatClampNeg))) + 3 : Int32).toNatClampNeg j2_s2))) (sA (x_m_must T301 1) 576 (58 + (6 * ((x_m_must T301 1).2.2.1 576 (17 : Int32).toNatClampNeg)) : Int32).toNatClampNeg p0))) := ⟨_, rfl⟩
  rw [← hOJ1] at kk
  simp only [jn] at kk
  have hJ1 : ∀ (T301 : St), OJ1 T301 → tR X 4 mX12_readStep 24 [some (.ref 571), some (.int p0), some (.int p1), some (.int ((18 + (5 * p1)) + 3)), none] [] T301 none (KJ1 T301) := by
    intro T301 kk
    rw [hOJ1] at kk
    try dsimp only at kk
    rw [hKJ1]
    refine r_p dX12_readStep_24 rfl rfl ?_
    refine r_ci (x := 1) dX12_readStep_25 rfl ?_
    obtain ⟨q2, kk⟩ := kk
    refine r_cv (d1 := 3) dX12_readStep_26 cvX12_172 rfl rfl rfl rfl (Nat.le_of_ble_eq_true rfl) (Nat.le_of_ble_eq_true rfl) (Nat.le_of_ble_eq_true rfl) (c_m_must 1 q2) ?_
    refine r_p dX12_readStep_29 rfl rfl ?_
    refine r_get dX12_readStep_30 fkX12_159 rfl rfl ?_
    refine r_ile dX12_readStep_33 rfl (fun c33_2 => ?_) (fun c33_2 => ?_)
    · have kk := kk c33_2
      refine r_cb (x := 58) dX12_readStep_37 rfl ?_
      refine r_cb (x := 6) dX12_readStep_39 rfl ?_
      refine r_p dX12_readStep_41 rfl rfl ?_
      refine r_get dX12_readStep_42 fkX12_22 rfl rfl ?_
      refine r_cb (x := 17) dX12_readStep_45 rfl ?_
      obtain ⟨q3, kk⟩ := kk
      refine r_ia dX12_readStep_47 rfl q3 ?_
      refine r_p dX12_readStep_48 rfl rfl ?_
      refine r_p dX12_readStep_49 rfl rfl ?_
      refine r_p dX12_readStep_50 rfl rfl ?_
      refine r_p dX12_readStep_52 rfl rfl ?_
      refine r_get dX12_readStep_53 fkX12_22 rfl rfl ?_
      refine r_p dX12_readStep_56 rfl rfl ?_
      refine r_p dX12_readStep_58 rfl rfl ?_
      obtain ⟨q4, kk⟩ := kk
      refine r_ias dX12_readStep_59 rfl q4 ?_
      refine r_eV (r' := (fun (T1 : St) => jn (fun (KJ2 : Int32 → St) => if p0 = 3 then (KJ2 2) else (KJ2 0)) (fun (j2_s2 : Int32) => (fun (T2 : St) => (fun (T3 : St) => (fun (T4 : St) => (fun (T5 : St) => (fun (T6 : St) => jn (fun (KJ3 : St) => if p0 = 1 then (KJ3) else (if p0 = 2 then (KJ3) else (jn (fun (KJ7 : St → St) => if p0 = 2 then (if (T6.1 571 16) = 0 then (fun (T33 : St) => KJ7 T33) (x_m_number T6 ((58 + (6 * ((x_m_must T301 1).2.2.1 576 (17 : Int32).toNatClampNeg))) + 5) (T6.2.2.1 576 ((58 + (6 * ((x_m_must T301 1).2.2.1 576 (17 : Int32).toNatClampNeg))) + 4 : Int32).toNatClampNeg) 9) else (fun (T32 : St) => KJ7 T32) (x_m_number T6 ((58 + (6 * ((x_m_must T301 1).2.2.1 576 (17 : Int32).toNatClampNeg))) + 5) 0 9)) else (KJ7 T6)) (fun (T307 : St) => jn (fun (KJ8 : St → St) => if p0 = 5 then (fun (T31 : St) => KJ8 T31) (x_m_number T307 ((58 + (6 * ((x_m_must T301 1).2.2.1 576 (17 : Int32).toNatClampNeg))) + 4) 0 9) else (KJ8 T307)) (fun (T308 : St) => (fun (T30 : St) => sA T30 576 (17 : Int32).toNatClampNeg ((T30.2.2.1 576 (17 : Int32).toNatClampNeg) + 1)) (sA (x_m_mustEnd T308) 576 ((18 + (5 * p1)) + 3 : Int32).toNatClampNeg (((x_m_mustEnd T308).2.2.1 576 ((18 + (5 * p1)) + 3 : Int32).toNatClampNeg) + 1))))))) ((fun (T18 : St) => jn (fun (KJ4 : Int32 → St) => if p0 = 1 then (KJ4 1) else (KJ4 9)) (fun (j4_s3 : Int32) => (fun (T19 : St) => jn (fun (KJ5 : St → St) => if p0 = 2 then (if (T19.1 571 16) = 0 then (fun (T26 : St) => KJ5 T26) (x_m_number T19 ((58 + (6 * ((x_m_must T301 1).2.2.1 576 (17 : Int32).toNatClampNeg))) + 5) (T19.2.2.1 576 ((58 + (6 * ((x_m_must T301 1).2.2.1 576 (17 : Int32).toNatClampNeg))) + 4 : Int32).toNatClampNeg) 9) else (fun (T25 : St) => KJ5 T25) (x_m_number T19 ((58 + (6 * ((x_m_must T301 1).2.2.1 576 (17 : Int32).toNatClampNeg))) + 5) 0 9)) else (KJ5 T19)) (fun (T305 : St) => jn (fun (KJ6 : St → St) => if p0 = 5 then (fun (T24 : St) => KJ6 T24) (x_m_number T305 ((58 + (6 * ((x_m_must T301 1).2.2.1 576 (17 : Int32).toNatClampNeg))) + 4) 0 9) else (KJ6 T305)) (fun (T306 : St) => (fun (T23 : St) => sA T23 576 (17 : Int32).toNatClampNeg ((T23.2.2.1 576 (17 : Int32).toNatClampNeg) + 1)) (sA (x_m_mustEnd T306) 576 ((18 + (5 * p1)) + 3 : Int32).toNatClampNeg (((x_m_mustEnd T306).2.2.1 576 ((18 + (5 * p1)) + 3 : Int32).toNatClampNeg) + 1))))) (x_m_number T18 ((58 + (6 * ((x_m_must T301 1).2.2.1 576 (17 : Int32).toNatClampNeg))) + 4) 0 j4_s3))) (x_m_number T6 ((58 + (6 * ((x_m_must T301 1).2.2.1 576 (17 : Int32).toNatClampNeg))) + 3) 0 2))) (x_m_number T5 ((58 + (6 * ((x_m_must T301 1).2.2.1 576 (17 : Int32).toNatClampNeg))) + 2) 0 1)) (x_m_number T4 ((58 + (6 * ((x_m_must T301 1).2.2.1 576 (17 : Int32).toNatClampNeg))) + 1) 1 30)) (sA T3 576 ((58 + (6 * ((x_m_must T301 1).2.2.1 576 (17 : Int32).toNatClampNeg))) + 5 : Int32).toNatClampNeg (-1000000))) (sA T2 576 ((58 + (6 * ((x_m_must T301 1).2.2.1 576 (17 : Int32).toNatClampNeg))) + 4 : Int32).toNatClampNeg (-1000000))) (sA T1 576 ((58 + (6 * ((x_m_must T301 1).2.2.1 576 (17 : Int32).toNatClampNeg))) + 3 : Int32).toNatClampNeg j2_s2))) (sA (x_m_must T301 1) 576 (58 + (6 * ((x_m_must T301 1).2.2.1 576 (17 : Int32).toNatClampNeg)) : Int32).toNatClampNeg p0)) (by first | rw [if_pos c33_2] | (dsimp only; rw [if_pos c33_2])) ?_
      generalize sA (x_m_must T301 1) 576 (58 + (6 * ((x_m_must T301 1).2.2.1 576 (17 : Int32).toNatClampNeg)) : Int32).toNatClampNeg p0 = T1 at kk ⊢
      try dsimp only at kk
      refine r_p dX12_readStep_60 rfl rfl ?_
      refine r_get dX12_readStep_61 fkX12_22 rfl rfl ?_
      refine r_p dX12_readStep_64 rfl rfl ?_
      refine r_ci (x := 3) dX12_readStep_66 rfl ?_
      refine r_p dX12_readStep_67 rfl rfl ?_
      refine r_p dX12_readStep_68 rfl rfl ?_
      refine r_ci (x := 3) dX12_readStep_69 rfl ?_
      obtain ⟨KJ2, hKJ2⟩ : ∃ q : Int32 → St, q = (fun (j2_s2 : Int32) => (fun (T2 : St) => (fun (T3 : St) => (fun (T4 : St) => (fun (T5 : St) => (fun (T6 : St) => jn (fun (KJ3 : St) => if p0 = 1 then (KJ3) else (if p0 = 2 then (KJ3) else (jn (fun (KJ7 : St → St) => if p0 = 2 then (if (T6.1 571 16) = 0 then (fun (T33 : St) => KJ7 T33) (x_m_number T6 ((58 + (6 * ((x_m_must T301 1).2.2.1 576 (17 : Int32).toNatClampNeg))) + 5) (T6.2.2.1 576 ((58 + (6 * ((x_m_must T301 1).2.2.1 576 (17 : Int32).toNatClampNeg))) + 4 : Int32).toNatClampNeg) 9) else (fun (T32 : St) => KJ7 T32) (x_m_number T6 ((58 + (6 * ((x_m_must T301 1).2.2.1 576 (17 : Int32).toNatClampNeg))) + 5) 0 9)) else (KJ7 T6)) (fun (T307 : St) => jn (fun (KJ8 : St → St) => if p0 = 5 then (fun (T31 : St) => KJ8 T31) (x_m_number T307 ((58 + (6 * ((x_m_must T301 1).2.2.1 576 (17 : Int32).toNatClampNeg))) + 4) 0 9) else (KJ8 T307)) (fun (T308 : St) => (fun (T30 : St) => sA T30 576 (17 : Int32).toNatClampNeg ((T30.2.2.1 576 (17 : Int32).toNatClampNeg) + 1)) (sA (x_m_mustEnd T308) 576 ((18 + (5 * p1)) + 3 : Int32).toNatClampNeg (((x_m_mustEnd T308).2.2.1 576 ((18 + (5 * p1)) + 3 : Int32).toNatClampNeg) + 1))))))) ((fun (T18 : St) => jn (fun (KJ4 : Int32 → St) => if p0 = 1 then (KJ4 1) else (KJ4 9)) (fun (j4_s3 : Int32) => (fun (T19 : St) => jn (fun (KJ5 : St → St) => if p0 = 2 then (if (T19.1 571 16) = 0 then (fun (T26 : St) => KJ5 T26) (x_m_number T19 ((58 + (6 * ((x_m_must T301 1).2.2.1 576 (17 : Int32).toNatClampNeg))) + 5) (T19.2.2.1 576 ((58 + (6 * ((x_m_must T301 1).2.2.1 576 (17 : Int32).toNatClampNeg))) + 4 : Int32).toNatClampNeg) 9) else (fun (T25 : St) => KJ5 T25) (x_m_number T19 ((58 + (6 * ((x_m_must T301 1).2.2.1 576 (17 : Int32).toNatClampNeg))) + 5) 0 9)) else (KJ5 T19)) (fun (T305 : St) => jn (fun (KJ6 : St → St) => if p0 = 5 then (fun (T24 : St) => KJ6 T24) (x_m_number T305 ((58 + (6 * ((x_m_must T301 1).2.2.1 576 (17 : Int32).toNatClampNeg))) + 4) 0 9) else (KJ6 T305)) (fun (T306 : St) => (fun (T23 : St) => sA T23 576 (17 : Int32).toNatClampNeg ((T23.2.2.1 576 (17 : Int32).toNatClampNeg) + 1)) (sA (x_m_mustEnd T306) 576 ((18 + (5 * p1)) + 3 : Int32).toNatClampNeg (((x_m_mustEnd T306).2.2.1 576 ((18 + (5 * p1)) + 3 : Int32).toNatClampNeg) + 1))))) (x_m_number T18 ((58 + (6 * ((x_m_must T301 1).2.2.1 576 (17 : Int32).toNatClampNeg))) + 4) 0 j4_s3))) (x_m_number T6 ((58 + (6 * ((x_m_must T301 1).2.2.1 576 (17 : Int32).toNatClampNeg))) + 3) 0 2))) (x_m_number T5 ((58 + (6 * ((x_m_must T301 1).2.2.1 576 (17 : Int32).toNatClampNeg))) + 2) 0 1)) (x_m_number T4 ((58 + (6 * ((x_m_must T301 1).2.2.1 576 (17 : Int32).toNatClampNeg))) + 1) 1 30)) (sA T3 576 ((58 + (6 * ((x_m_must T301 1).2.2.1 576 (17 : Int32).toNatClampNeg))) + 5 : Int32).toNatClampNeg (-1000000))) (sA T2 576 ((58 + (6 * ((x_m_must T301 1).2.2.1 576 (17 : Int32).toNatClampNeg))) + 4 : Int32).toNatClampNeg (-1000000))) (sA T1 576 ((58 + (6 * ((x_m_must T301 1).2.2.1 576 (17 : Int32).toNatClampNeg))) + 3 : Int32).toNatClampNeg j2_s2)) := ⟨_, rfl⟩
      obtain ⟨OJ2, hOJ2⟩ : ∃ q : Int32 → Prop, q = (fun (j2_s2 : Int32) => (vp_in ((58 + (6 * ((x_m_must T301 1).2.2.1 576 (17 : Int32).toNatClampNeg))) + 3) 204) ∧ (fun (T2 : St) => (vp_in ((58 + (6 * ((x_m_must T301 1).2.2.1 576 (17 : Int32).toNatClampNeg))) + 4) 204) ∧ (fun (T3 : St) => (vp_in ((58 + (6 * ((x_m_must T301 1).2.2.1 576 (17 : Int32).toNatClampNeg))) + 5) 204) ∧ (fun (T4 : St) => (ok_m_number T4 ((58 + (6 * ((x_m_must T301 1).2.2.1 576 (17 : Int32).toNatClampNeg))) + 1) 1 30) ∧ (fun (T5 : St) => (ok_m_number T5 ((58 + (6 * ((x_m_must T301 1).2.2.1 576 (17 : Int32).toNatClampNeg))) + 2) 0 1) ∧ (fun (T6 : St) => jn (fun (OJ3 : Prop) => ((p0 = 1 → OJ3) ∧ (¬ p0 = 1 → ((p0 = 2 → OJ3) ∧ (¬ p0 = 2 → jn (fun (OJ7 : St → Prop) => ((p0 = 2 → (((T6.1 571 16) = 0 → (vp_in ((58 + (6 * ((x_m_must T301 1).2.2.1 576 (17 : Int32).toNatClampNeg))) + 4) 204) ∧ (ok_m_number T6 ((58 + (6 * ((x_m_must T301 1).2.2.1 576 (17 : Int32).toNatClampNeg))) + 5) (T6.2.2.1 576 ((58 + (6 * ((x_m_must T301 1).2.2.1 576 (17 : Int32).toNatClampNeg))) + 4 : Int32).toNatClampNeg) 9) ∧ (fun (T33 : St) => OJ7 T33) (x_m_number T6 ((58 + (6 * ((x_m_must T301 1).2.2.1 576 (17 : Int32).toNatClampNeg))) + 5) (T6.2.2.1 576 ((58 + (6 * ((x_m_must T301 1).2.2.1 576 (17 : Int32).toNatClampNeg))) + 4 : Int32).toNatClampNeg) 9)) ∧ (¬ (T6.1 571 16) = 0 → (ok_m_number T6 ((58 + (6 * ((x_m_must T301 1).2.2.1 576 (17 : Int32).toNatClampNeg))) + 5) 0 9) ∧ (fun (T32 : St) => OJ7 T32) (x_m_number T6 ((58 + (6 * ((x_m_must T301 1).2.2.1 576 (17 : Int32).toNatClampNeg))) + 5) 0 9)))) ∧ (¬ p0 = 2 → OJ7 T6))) (fun (T307 : St) => jn (fun (OJ8 : St → Prop) => ((p0 = 5 → (ok_m_number T307 ((58 + (6 * ((x_m_must T301 1).2.2.1 576 (17 : Int32).toNatClampNeg))) + 4) 0 9) ∧ (fun (T31 : St) => OJ8 T31) (x_m_number T307 ((58 + (6 * ((x_m_must T301 1).2.2.1 576 (17 : Int32).toNatClampNeg))) + 4) 0 9)) ∧ (¬ p0 = 5 → OJ8 T307))) (fun (T308 : St) => (ok_m_mustEnd T308) ∧ (vp_in ((18 + (5 * p1)) + 3) 204) ∧ (fun (T30 : St) => (vp_in 17 204) ∧ True) (sA (x_m_mustEnd T308) 576 ((18 + (5 * p1)) + 3 : Int32).toNatClampNeg (((x_m_mustEnd T308).2.2.1 576 ((18 + (5 * p1)) + 3 : Int32).toNatClampNeg) + 1))))))))) ((ok_m_number T6 ((58 + (6 * ((x_m_must T301 1).2.2.1 576 (17 : Int32).toNatClampNeg))) + 3) 0 2) ∧ (fun (T18 : St) => jn (fun (OJ4 : Int32 → Prop) => ((p0 = 1 → OJ4 1) ∧ (¬ p0 = 1 → OJ4 9))) (fun (j4_s3 : Int32) => (ok_m_number T18 ((58 + (6 * ((x_m_must T301 1).2.2.1 576 (17 : Int32).toNatClampNeg))) + 4) 0 j4_s3) ∧ (fun (T19 : St) => jn (fun (OJ5 : St → Prop) => ((p0 = 2 → (((T19.1 571 16) = 0 → (vp_in ((58 + (6 * ((x_m_must T301 1).2.2.1 576 (17 : Int32).toNatClampNeg))) + 4) 204) ∧ (ok_m_number T19 ((58 + (6 * ((x_m_must T301 1).2.2.1 576 (17 : Int32).toNatClampNeg))) + 5) (T19.2.2.1 576 ((58 + (6 * ((x_m_must T301 1).2.2.1 576 (17 : Int32).toNatClampNeg))) + 4 : Int32).toNatClampNeg) 9) ∧ (fun (T26 : St) => OJ5 T26) (x_m_number T19 ((58 + (6 * ((x_m_must T301 1).2.2.1 576 (17 : Int32).toNatClampNeg))) + 5) (T19.2.2.1 576 ((58 + (6 * ((x_m_must T301 1).2.2.1 576 (17 : Int32).toNatClampNeg))) + 4 : Int32).toNatClampNeg) 9)) ∧ (¬ (T19.1 571 16) = 0 → (ok_m_number T19 ((58 + (6 * ((x_m_must T301 1).2.2.1 576 (17 : Int32).toNatClampNeg))) + 5) 0 9) ∧ (fun (T25 : St) => OJ5 T25) (x_m_number T19 ((58 + (6 * ((x_m_must T301 1).2.2.1 576 (17 : Int32).toNatClampNeg))) + 5) 0 9)))) ∧ (¬ p0 = 2 → OJ5 T19))) (fun (T305 : St) => jn (fun (OJ6 : St → Prop) => ((p0 = 5 → (ok_m_number T305 ((58 + (6 * ((x_m_must T301 1).2.2.1 576 (17 : Int32).toNatClampNeg))) + 4) 0 9) ∧ (fun (T24 : St) => OJ6 T24) (x_m_number T305 ((58 + (6 * ((x_m_must T301 1).2.2.1 576 (17 : Int32).toNatClampNeg))) + 4) 0 9)) ∧ (¬ p0 = 5 → OJ6 T305))) (fun (T306 : St) => (ok_m_mustEnd T306) ∧ (vp_in ((18 + (5 * p1)) + 3) 204) ∧ (fun (T23 : St) => (vp_in 17 204) ∧ True) (sA (x_m_mustEnd T306) 576 ((18 + (5 * p1)) + 3 : Int32).toNatClampNeg (((x_m_mustEnd T306).2.2.1 576 ((18 + (5 * p1)) + 3 : Int32).toNatClampNeg) + 1))))) (x_m_number T18 ((58 + (6 * ((x_m_must T301 1).2.2.1 576 (17 : Int32).toNatClampNeg))) + 4) 0 j4_s3))) (x_m_number T6 ((58 + (6 * ((x_m_must T301 1).2.2.1 576 (17 : Int32).toNatClampNeg))) + 3) 0 2))) (x_m_number T5 ((58 + (6 * ((x_m_must T301 1).2.2.1 576 (17 : Int32).toNatClampNeg))) + 2) 0 1)) (x_m_number T4 ((58 + (6 * ((x_m_must T301 1).2.2.1 576 (17 : Int32).toNatClampNeg))) + 1) 1 30)) (sA T3 576 ((58 + (6 * ((x_m_must T301 1).2.2.1 576 (17 : Int32).toNatClampNeg))) + 5 : Int32).toNatClampNeg (-1000000))) (sA T2 576 ((58 + (6 * ((x_m_must T301 1).2.2.1 576 (17 : Int32).toNatClampNeg))) + 4 : Int32).toNatClampNeg (-1000000))) (sA T1 576 ((58 + (6 * ((x_m_must T301 1).2.2.1 576 (17 : Int32).toNatClampNeg))) + 3 : Int32).toNatClampNeg j2_s2)) := ⟨_, rfl⟩
      rw [← hOJ2] at kk
      simp only [jn] at kk
      have hJ2 : ∀ (j2_s2 : Int32), OJ2 j2_s2 → tR X 4 mX12_readStep 78 [some (.ref 571), some (.int p0), some (.int p1), some (.int ((18 + (5 * p1)) + 3)), some (.int (58 + (6 * ((x_m_must T301 1).2.2.1 576 (17 : Int32).toNatClampNeg))))] [.int j2_s2, .int ((58 + (6 * ((x_m_must T301 1).2.2.1 576 (17 : Int32).toNatClampNeg))) + 3), .ref 576] T1 none (KJ2 j2_s2) := by
        intro j2_s2 kk
        rw [hOJ2] at kk
        try dsimp only at kk
        rw [hKJ2]
        obtain ⟨q5, kk⟩ := kk
        refine r_ias dX12_readStep_78 rfl q5 ?_
        refine r_eV (r' := (fun (T2 : St) => (fun (T3 : St) => (fun (T4 : St) => (fun (T5 : St) => (fun (T6 : St) => jn (fun (KJ3 : St) => if p0 = 1 then (KJ3) else (if p0 = 2 then (KJ3) else (jn (fun (KJ7 : St → St) => if p0 = 2 then (if (T6.1 571 16) = 0 then (fun (T33 : St) => KJ7 T33) (x_m_number T6 ((58 + (6 * ((x_m_must T301 1).2.2.1 576 (17 : Int32).toNatClampNeg))) + 5) (T6.2.2.1 576 ((58 + (6 * ((x_m_must T301 1).2.2.1 576 (17 : Int32).toNatClampNeg))) + 4 : Int32).toNatClampNeg) 9) else (fun (T32 : St) => KJ7 T32) (x_m_number T6 ((58 + (6 * ((x_m_must T301 1).2.2.1 576 (17 : Int32).toNatClampNeg))) + 5) 0 9)) else (KJ7 T6)) (fun (T307 : St) => jn (fun (KJ8 : St → St) => if p0 = 5 then (fun (T31 : St) => KJ8 T31) (x_m_number T307 ((58 + (6 * ((x_m_must T301 1).2.2.1 576 (17 : Int32).toNatClampNeg))) + 4) 0 9) else (KJ8 T307)) (fun (T308 : St) => (fun (T30 : St) => sA T30 576 (17 : Int32).toNatClampNeg ((T30.2.2.1 576 (17 : Int32).toNatClampNeg) + 1)) (sA (x_m_mustEnd T308) 576 ((18 + (5 * p1)) + 3 : Int32).toNatClampNeg (((x_m_mustEnd T308).2.2.1 576 ((18 + (5 * p1)) + 3 : Int32).toNatClampNeg) + 1))))))) ((fun (T18 : St) => jn (fun (KJ4 : Int32 → St) => if p0 = 1 then (KJ4 1) else (KJ4 9)) (fun (j4_s3 : Int32) => (fun (T19 : St) => jn (fun (KJ5 : St → St) => if p0 = 2 then (if (T19.1 571 16) = 0 then (fun (T26 : St) => KJ5 T26) (x_m_number T19 ((58 + (6 * ((x_m_must T301 1).2.2.1 576 (17 : Int32).toNatClampNeg))) + 5) (T19.2.2.1 576 ((58 + (6 * ((x_m_must T301 1).2.2.1 576 (17 : Int32).toNatClampNeg))) + 4 : Int32).toNatClampNeg) 9) else (fun (T25 : St) => KJ5 T25) (x_m_number T19 ((58 + (6 * ((x_m_must T301 1).2.2.1 576 (17 : Int32).toNatClampNeg))) + 5) 0 9)) else (KJ5 T19)) (fun (T305 : St) => jn (fun (KJ6 : St → St) => if p0 = 5 then (fun (T24 : St) => KJ6 T24) (x_m_number T305 ((58 + (6 * ((x_m_must T301 1).2.2.1 576 (17 : Int32).toNatClampNeg))) + 4) 0 9) else (KJ6 T305)) (fun (T306 : St) => (fun (T23 : St) => sA T23 576 (17 : Int32).toNatClampNeg ((T23.2.2.1 576 (17 : Int32).toNatClampNeg) + 1)) (sA (x_m_mustEnd T306) 576 ((18 + (5 * p1)) + 3 : Int32).toNatClampNeg (((x_m_mustEnd T306).2.2.1 576 ((18 + (5 * p1)) + 3 : Int32).toNatClampNeg) + 1))))) (x_m_number T18 ((58 + (6 * ((x_m_must T301 1).2.2.1 576 (17 : Int32).toNatClampNeg))) + 4) 0 j4_s3))) (x_m_number T6 ((58 + (6 * ((x_m_must T301 1).2.2.1 576 (17 : Int32).toNatClampNeg))) + 3) 0 2))) (x_m_number T5 ((58 + (6 * ((x_m_must T301 1).2.2.1 576 (17 : Int32).toNatClampNeg))) + 2) 0 1)) (x_m_number T4 ((58 + (6 * ((x_m_must T301 1).2.2.1 576 (17 : Int32).toNatClampNeg))) + 1) 1 30)) (sA T3 576 ((58 + (6 * ((x_m_must T301 1).2.2.1 576 (17 : Int32).toNatClampNeg))) + 5 : Int32).toNatClampNeg (-1000000))) (sA T2 576 ((58 + (6 * ((x_m_must T301 1).2.2.1 576 (17 : Int32).toNatClampNeg))) + 4 : Int32).toNatClampNeg (-1000000))) (sA T1 576 ((58 + (6 * ((x_m_must T301 1).2.2.1 576 (17 : Int32).toNatClampNeg))) + 3 : Int32).toNatClampNeg j2_s2)) rfl ?_
        generalize sA T1 576 ((58 + (6 * ((x_m_must T301 1).2.2.1 576 (17 : Int32).toNatClampNeg))) + 3 : Int32).toNatClampNeg j2_s2 = T2 at kk ⊢
        try dsimp only at kk
        refine r_p dX12_readStep_79 rfl rfl ?_
        refine r_get dX12_readStep_80 fkX12_22 rfl rfl ?_
        refine r_p dX12_readStep_83 rfl rfl ?_
        refine r_ci (x := 4) dX12_readStep_85 rfl ?_
        refine r_p dX12_readStep_86 rfl rfl ?_
        refine r_k dX12_readStep_87 kkX12_137 ?_
        obtain ⟨q6, kk⟩ := kk
        refine r_ias dX12_readStep_89 rfl q6 ?_
        refine r_eV (r' := (fun (T3 : St) => (fun (T4 : St) => (fun (T5 : St) => (fun (T6 : St) => jn (fun (KJ3 : St) => if p0 = 1 then (KJ3) else (if p0 = 2 then (KJ3) else (jn (fun (KJ7 : St → St) => if p0 = 2 then (if (T6.1 571 16) = 0 then (fun (T33 : St) => KJ7 T33) (x_m_number T6 ((58 + (6 * ((x_m_must T301 1).2.2.1 576 (17 : Int32).toNatClampNeg))) + 5) (T6.2.2.1 576 ((58 + (6 * ((x_m_must T301 1).2.2.1 576 (17 : Int32).toNatClampNeg))) + 4 : Int32).toNatClampNeg) 9) else (fun (T32 : St) => KJ7 T32) (x_m_number T6 ((58 + (6 * ((x_m_must T301 1).2.2.1 576 (17 : Int32).toNatClampNeg))) + 5) 0 9)) else (KJ7 T6)) (fun (T307 : St) => jn (fun (KJ8 : St → St) => if p0 = 5 then (fun (T31 : St) => KJ8 T31) (x_m_number T307 ((58 + (6 * ((x_m_must T301 1).2.2.1 576 (17 : Int32).toNatClampNeg))) + 4) 0 9) else (KJ8 T307)) (fun (T308 : St) => (fun (T30 : St) => sA T30 576 (17 : Int32).toNatClampNeg ((T30.2.2.1 576 (17 : Int32).toNatClampNeg) + 1)) (sA (x_m_mustEnd T308) 576 ((18 + (5 * p1)) + 3 : Int32).toNatClampNeg (((x_m_mustEnd T308).2.2.1 576 ((18 + (5 * p1)) + 3 : Int32).toNatClampNeg) + 1))))))) ((fun (T18 : St) => jn (fun (KJ4 : Int32 → St) => if p0 = 1 then (KJ4 1) else (KJ4 9)) (fun (j4_s3 : Int32) => (fun (T19 : St) => jn (fun (KJ5 : St → St) => if p0 = 2 then (if (T19.1 571 16) = 0 then (fun (T26 : St) => KJ5 T26) (x_m_number T19 ((58 + (6 * ((x_m_must T301 1).2.2.1 576 (17 : Int32).toNatClampNeg))) + 5) (T19.2.2.1 576 ((58 + (6 * ((x_m_must T301 1).2.2.1 576 (17 : Int32).toNatClampNeg))) + 4 : Int32).toNatClampNeg) 9) else (fun (T25 : St) => KJ5 T25) (x_m_number T19 ((58 + (6 * ((x_m_must T301 1).2.2.1 576 (17 : Int32).toNatClampNeg))) + 5) 0 9)) else (KJ5 T19)) (fun (T305 : St) => jn (fun (KJ6 : St → St) => if p0 = 5 then (fun (T24 : St) => KJ6 T24) (x_m_number T305 ((58 + (6 * ((x_m_must T301 1).2.2.1 576 (17 : Int32).toNatClampNeg))) + 4) 0 9) else (KJ6 T305)) (fun (T306 : St) => (fun (T23 : St) => sA T23 576 (17 : Int32).toNatClampNeg ((T23.2.2.1 576 (17 : Int32).toNatClampNeg) + 1)) (sA (x_m_mustEnd T306) 576 ((18 + (5 * p1)) + 3 : Int32).toNatClampNeg (((x_m_mustEnd T306).2.2.1 576 ((18 + (5 * p1)) + 3 : Int32).toNatClampNeg) + 1))))) (x_m_number T18 ((58 + (6 * ((x_m_must T301 1).2.2.1 576 (17 : Int32).toNatClampNeg))) + 4) 0 j4_s3))) (x_m_number T6 ((58 + (6 * ((x_m_must T301 1).2.2.1 576 (17 : Int32).toNatClampNeg))) + 3) 0 2))) (x_m_number T5 ((58 + (6 * ((x_m_must T301 1).2.2.1 576 (17 : Int32).toNatClampNeg))) + 2) 0 1)) (x_m_number T4 ((58 + (6 * ((x_m_must T301 1).2.2.1 576 (17 : Int32).toNatClampNeg))) + 1) 1 30)) (sA T3 576 ((58 + (6 * ((x_m_must T301 1).2.2.1 576 (17 : Int32).toNatClampNeg))) + 5 : Int32).toNatClampNeg (-1000000))) (sA T2 576 ((58 + (6 * ((x_m_must T301 1).2.2.1 576 (17 : Int32).toNatClampNeg))) + 4 : Int32).toNatClampNeg (-1000000))) rfl ?_
        generalize sA T2 576 ((58 + (6 * ((x_m_must T301 1).2.2.1 576 (17 : Int32).toNatClampNeg))) + 4 : Int32).toNatClampNeg (-1000000) = T3 at kk ⊢
        try dsimp only at kk
        refine r_p dX12_readStep_90 rfl rfl ?_
        refine r_get dX12_readStep_91 fkX12_22 rfl rfl ?_
        refine r_p dX12_readStep_94 rfl rfl ?_
        refine r_ci (x := 5) dX12_readStep_96 rfl ?_
        refine r_p dX12_readStep_97 rfl rfl ?_
        refine r_k dX12_readStep_98 kkX12_137 ?_
        obtain ⟨q7, kk⟩ := kk
        refine r_ias dX12_readStep_100 rfl q7 ?_
        refine r_eV (r' := (fun (T4 : St) => (fun (T5 : St) => (fun (T6 : St) => jn (fun (KJ3 : St) => if p0 = 1 then (KJ3) else (if p0 = 2 then (KJ3) else (jn (fun (KJ7 : St → St) => if p0 = 2 then (if (T6.1 571 16) = 0 then (fun (T33 : St) => KJ7 T33) (x_m_number T6 ((58 + (6 * ((x_m_must T301 1).2.2.1 576 (17 : Int32).toNatClampNeg))) + 5) (T6.2.2.1 576 ((58 + (6 * ((x_m_must T301 1).2.2.1 576 (17 : Int32).toNatClampNeg))) + 4 : Int32).toNatClampNeg) 9) else (fun (T32 : St) => KJ7 T32) (x_m_number T6 ((58 + (6 * ((x_m_must T301 1).2.2.1 576 (17 : Int32).toNatClampNeg))) + 5) 0 9)) else (KJ7 T6)) (fun (T307 : St) => jn (fun (KJ8 : St → St) => if p0 = 5 then (fun (T31 : St) => KJ8 T31) (x_m_number T307 ((58 + (6 * ((x_m_must T301 1).2.2.1 576 (17 : Int32).toNatClampNeg))) + 4) 0 9) else (KJ8 T307)) (fun (T308 : St) => (fun (T30 : St) => sA T30 576 (17 : Int32).toNatClampNeg ((T30.2.2.1 576 (17 : Int32).toNatClampNeg) + 1)) (sA (x_m_mustEnd T308) 576 ((18 + (5 * p1)) + 3 : Int32).toNatClampNeg (((x_m_mustEnd T308).2.2.1 576 ((18 + (5 * p1)) + 3 : Int32).toNatClampNeg) + 1))))))) ((fun (T18 : St) => jn (fun (KJ4 : Int32 → St) => if p0 = 1 then (KJ4 1) else (KJ4 9)) (fun (j4_s3 : Int32) => (fun (T19 : St) => jn (fun (KJ5 : St → St) => if p0 = 2 then (if (T19.1 571 16) = 0 then (fun (T26 : St) => KJ5 T26) (x_m_number T19 ((58 + (6 * ((x_m_must T301 1).2.2.1 576 (17 : Int32).toNatClampNeg))) + 5) (T19.2.2.1 576 ((58 + (6 * ((x_m_must T301 1).2.2.1 576 (17 : Int32).toNatClampNeg))) + 4 : Int32).toNatClampNeg) 9) else (fun (T25 : St) => KJ5 T25) (x_m_number T19 ((58 + (6 * ((x_m_must T301 1).2.2.1 576 (17 : Int32).toNatClampNeg))) + 5) 0 9)) else (KJ5 T19)) (fun (T305 : St) => jn (fun (KJ6 : St → St) => if p0 = 5 then (fun (T24 : St) => KJ6 T24) (x_m_number T305 ((58 + (6 * ((x_m_must T301 1).2.2.1 576 (17 : Int32).toNatClampNeg))) + 4) 0 9) else (KJ6 T305)) (fun (T306 : St) => (fun (T23 : St) => sA T23 576 (17 : Int32).toNatClampNeg ((T23.2.2.1 576 (17 : Int32).toNatClampNeg) + 1)) (sA (x_m_mustEnd T306) 576 ((18 + (5 * p1)) + 3 : Int32).toNatClampNeg (((x_m_mustEnd T306).2.2.1 576 ((18 + (5 * p1)) + 3 : Int32).toNatClampNeg) + 1))))) (x_m_number T18 ((58 + (6 * ((x_m_must T301 1).2.2.1 576 (17 : Int32).toNatClampNeg))) + 4) 0 j4_s3))) (x_m_number T6 ((58 + (6 * ((x_m_must T301 1).2.2.1 576 (17 : Int32).toNatClampNeg))) + 3) 0 2))) (x_m_number T5 ((58 + (6 * ((x_m_must T301 1).2.2.1 576 (17 : Int32).toNatClampNeg))) + 2) 0 1)) (x_m_number T4 ((58 + (6 * ((x_m_must T301 1).2.2.1 576 (17 : Int32).toNatClampNeg))) + 1) 1 30)) (sA T3 576 ((58 + (6 * ((x_m_must T301 1).2.2.1 576 (17 : Int32).toNatClampNeg))) + 5 : Int32).toNatClampNeg (-1000000))) rfl ?_
        generalize sA T3 576 ((58 + (6 * ((x_m_must T301 1).2.2.1 576 (17 : Int32).toNatClampNeg))) + 5 : Int32).toNatClampNeg (-1000000) = T4 at kk ⊢
        try dsimp only at kk
        refine r_p dX12_readStep_101 rfl rfl ?_
        refine r_p dX12_readStep_102 rfl rfl ?_
        refine r_ci (x := 1) dX12_readStep_104 rfl ?_
        refine r_p dX12_readStep_105 rfl rfl ?_
        refine r_ci (x := 1) dX12_readStep_106 rfl ?_
        refine r_cb (x := 30) dX12_readStep_107 rfl ?_
        obtain ⟨q8, kk⟩ := kk
        refine r_cv (d1 := 4) dX12_readStep_109 cvX12_190 rfl rfl rfl rfl (Nat.le_of_ble_eq_true rfl) (Nat.le_of_ble_eq_true rfl) (Nat.le_of_ble_eq_true rfl) (c_m_number ((58 + (6 * ((x_m_must T301 1).2.2.1 576 (17 : Int32).toNatClampNeg))) + 1) 1 30 q8) ?_
        refine r_eV (r' := (fun (T5 : St) => (fun (T6 : St) => jn (fun (KJ3 : St) => if p0 = 1 then (KJ3) else (if p0 = 2 then (KJ3) else (jn (fun (KJ7 : St → St) => if p0 = 2 then (if (T6.1 571 16) = 0 then (fun (T33 : St) => KJ7 T33) (x_m_number T6 ((58 + (6 * ((x_m_must T301 1).2.2.1 576 (17 : Int32).toNatClampNeg))) + 5) (T6.2.2.1 576 ((58 + (6 * ((x_m_must T301 1).2.2.1 576 (17 : Int32).toNatClampNeg))) + 4 : Int32).toNatClampNeg) 9) else (fun (T32 : St) => KJ7 T32) (x_m_number T6 ((58 + (6 * ((x_m_must T301 1).2.2.1 576 (17 : Int32).toNatClampNeg))) + 5) 0 9)) else (KJ7 T6)) (fun (T307 : St) => jn (fun (KJ8 : St → St) => if p0 = 5 then (fun (T31 : St) => KJ8 T31) (x_m_number T307 ((58 + (6 * ((x_m_must T301 1).2.2.1 576 (17 : Int32).toNatClampNeg))) + 4) 0 9) else (KJ8 T307)) (fun (T308 : St) => (fun (T30 : St) => sA T30 576 (17 : Int32).toNatClampNeg ((T30.2.2.1 576 (17 : Int32).toNatClampNeg) + 1)) (sA (x_m_mustEnd T308) 576 ((18 + (5 * p1)) + 3 : Int32).toNatClampNeg (((x_m_mustEnd T308).2.2.1 576 ((18 + (5 * p1)) + 3 : Int32).toNatClampNeg) + 1))))))) ((fun (T18 : St) => jn (fun (KJ4 : Int32 → St) => if p0 = 1 then (KJ4 1) else (KJ4 9)) (fun (j4_s3 : Int32) => (fun (T19 : St) => jn (fun (KJ5 : St → St) => if p0 = 2 then (if (T19.1 571 16) = 0 then (fun (T26 : St) => KJ5 T26) (x_m_number T19 ((58 + (6 * ((x_m_must T301 1).2.2.1 576 (17 : Int32).toNatClampNeg))) + 5) (T19.2.2.1 576 ((58 + (6 * ((x_m_must T301 1).2.2.1 576 (17 : Int32).toNatClampNeg))) + 4 : Int32).toNatClampNeg) 9) else (fun (T25 : St) => KJ5 T25) (x_m_number T19 ((58 + (6 * ((x_m_must T301 1).2.2.1 576 (17 : Int32).toNatClampNeg))) + 5) 0 9)) else (KJ5 T19)) (fun (T305 : St) => jn (fun (KJ6 : St → St) => if p0 = 5 then (fun (T24 : St) => KJ6 T24) (x_m_number T305 ((58 + (6 * ((x_m_must T301 1).2.2.1 576 (17 : Int32).toNatClampNeg))) + 4) 0 9) else (KJ6 T305)) (fun (T306 : St) => (fun (T23 : St) => sA T23 576 (17 : Int32).toNatClampNeg ((T23.2.2.1 576 (17 : Int32).toNatClampNeg) + 1)) (sA (x_m_mustEnd T306) 576 ((18 + (5 * p1)) + 3 : Int32).toNatClampNeg (((x_m_mustEnd T306).2.2.1 576 ((18 + (5 * p1)) + 3 : Int32).toNatClampNeg) + 1))))) (x_m_number T18 ((58 + (6 * ((x_m_must T301 1).2.2.1 576 (17 : Int32).toNatClampNeg))) + 4) 0 j4_s3))) (x_m_number T6 ((58 + (6 * ((x_m_must T301 1).2.2.1 576 (17 : Int32).toNatClampNeg))) + 3) 0 2))) (x_m_number T5 ((58 + (6 * ((x_m_must T301 1).2.2.1 576 (17 : Int32).toNatClampNeg))) + 2) 0 1)) (x_m_number T4 ((58 + (6 * ((x_m_must T301 1).2.2.1 576 (17 : Int32).toNatClampNeg))) + 1) 1 30)) rfl ?_
        generalize x_m_number T4 ((58 + (6 * ((x_m_must T301 1).2.2.1 576 (17 : Int32).toNatClampNeg))) + 1) 1 30 = T5 at kk ⊢
        try dsimp only at kk
        refine r_p dX12_readStep_112 rfl rfl ?_
        refine r_p dX12_readStep_113 rfl rfl ?_
        refine r_ci (x := 2) dX12_readStep_115 rfl ?_
        refine r_p dX12_readStep_116 rfl rfl ?_
        refine r_ci (x := 0) dX12_readStep_117 rfl ?_
        refine r_ci (x := 1) dX12_readStep_118 rfl ?_
        obtain ⟨q9, kk⟩ := kk
        refine r_cv (d1 := 4) dX12_readStep_119 cvX12_190 rfl rfl rfl rfl (Nat.le_of_ble_eq_true rfl) (Nat.le_of_ble_eq_true rfl) (Nat.le_of_ble_eq_true rfl) (c_m_number ((58 + (6 * ((x_m_must T301 1).2.2.1 576 (17 : Int32).toNatClampNeg))) + 2) 0 1 q9) ?_
        refine r_eV (r' := (fun (T6 : St) => jn (fun (KJ3 : St) => if p0 = 1 then (KJ3) else (if p0 = 2 then (KJ3) else (jn (fun (KJ7 : St → St) => if p0 = 2 then (if (T6.1 571 16) = 0 then (fun (T33 : St) => KJ7 T33) (x_m_number T6 ((58 + (6 * ((x_m_must T301 1).2.2.1 576 (17 : Int32).toNatClampNeg))) + 5) (T6.2.2.1 576 ((58 + (6 * ((x_m_must T301 1).2.2.1 576 (17 : Int32).toNatClampNeg))) + 4 : Int32).toNatClampNeg) 9) else (fun (T32 : St) => KJ7 T32) (x_m_number T6 ((58 + (6 * ((x_m_must T301 1).2.2.1 576 (17 : Int32).toNatClampNeg))) + 5) 0 9)) else (KJ7 T6)) (fun (T307 : St) => jn (fun (KJ8 : St → St) => if p0 = 5 then (fun (T31 : St) => KJ8 T31) (x_m_number T307 ((58 + (6 * ((x_m_must T301 1).2.2.1 576 (17 : Int32).toNatClampNeg))) + 4) 0 9) else (KJ8 T307)) (fun (T308 : St) => (fun (T30 : St) => sA T30 576 (17 : Int32).toNatClampNeg ((T30.2.2.1 576 (17 : Int32).toNatClampNeg) + 1)) (sA (x_m_mustEnd T308) 576 ((18 + (5 * p1)) + 3 : Int32).toNatClampNeg (((x_m_mustEnd T308).2.2.1 576 ((18 + (5 * p1)) + 3 : Int32).toNatClampNeg) + 1))))))) ((fun (T18 : St) => jn (fun (KJ4 : Int32 → St) => if p0 = 1 then (KJ4 1) else (KJ4 9)) (fun (j4_s3 : Int32) => (fun (T19 : St) => jn (fun (KJ5 : St → St) => if p0 = 2 then (if (T19.1 571 16) = 0 then (fun (T26 : St) => KJ5 T26) (x_m_number T19 ((58 + (6 * ((x_m_must T301 1).2.2.1 576 (17 : Int32).toNatClampNeg))) + 5) (T19.2.2.1 576 ((58 + (6 * ((x_m_must T301 1).2.2.1 576 (17 : Int32).toNatClampNeg))) + 4 : Int32).toNatClampNeg) 9) else (fun (T25 : St) => KJ5 T25) (x_m_number T19 ((58 + (6 * ((x_m_must T301 1).2.2.1 576 (17 : Int32).toNatClampNeg))) + 5) 0 9)) else (KJ5 T19)) (fun (T305 : St) => jn (fun (KJ6 : St → St) => if p0 = 5 then (fun (T24 : St) => KJ6 T24) (x_m_number T305 ((58 + (6 * ((x_m_must T301 1).2.2.1 576 (17 : Int32).toNatClampNeg))) + 4) 0 9) else (KJ6 T305)) (fun (T306 : St) => (fun (T23 : St) => sA T23 576 (17 : Int32).toNatClampNeg ((T23.2.2.1 576 (17 : Int32).toNatClampNeg) + 1)) (sA (x_m_mustEnd T306) 576 ((18 + (5 * p1)) + 3 : Int32).toNatClampNeg (((x_m_mustEnd T306).2.2.1 576 ((18 + (5 * p1)) + 3 : Int32).toNatClampNeg) + 1))))) (x_m_number T18 ((58 + (6 * ((x_m_must T301 1).2.2.1 576 (17 : Int32).toNatClampNeg))) + 4) 0 j4_s3))) (x_m_number T6 ((58 + (6 * ((x_m_must T301 1).2.2.1 576 (17 : Int32).toNatClampNeg))) + 3) 0 2))) (x_m_number T5 ((58 + (6 * ((x_m_must T301 1).2.2.1 576 (17 : Int32).toNatClampNeg))) + 2) 0 1)) rfl ?_
        generalize x_m_number T5 ((58 + (6 * ((x_m_must T301 1).2.2.1 576 (17 : Int32).toNatClampNeg))) + 2) 0 1 = T6 at kk ⊢
        try dsimp only at kk
        refine r_p dX12_readStep_122 rfl rfl ?_
        refine r_ci (x := 1) dX12_readStep_123 rfl ?_
        obtain ⟨KJ3, hKJ3⟩ : ∃ q : St, q = ((fun (T18 : St) => jn (fun (KJ4 : Int32 → St) => if p0 = 1 then (KJ4 1) else (KJ4 9)) (fun (j4_s3 : Int32) => (fun (T19 : St) => jn (fun (KJ5 : St → St) => if p0 = 2 then (if (T19.1 571 16) = 0 then (fun (T26 : St) => KJ5 T26) (x_m_number T19 ((58 + (6 * ((x_m_must T301 1).2.2.1 576 (17 : Int32).toNatClampNeg))) + 5) (T19.2.2.1 576 ((58 + (6 * ((x_m_must T301 1).2.2.1 576 (17 : Int32).toNatClampNeg))) + 4 : Int32).toNatClampNeg) 9) else (fun (T25 : St) => KJ5 T25) (x_m_number T19 ((58 + (6 * ((x_m_must T301 1).2.2.1 576 (17 : Int32).toNatClampNeg))) + 5) 0 9)) else (KJ5 T19)) (fun (T305 : St) => jn (fun (KJ6 : St → St) => if p0 = 5 then (fun (T24 : St) => KJ6 T24) (x_m_number T305 ((58 + (6 * ((x_m_must T301 1).2.2.1 576 (17 : Int32).toNatClampNeg))) + 4) 0 9) else (KJ6 T305)) (fun (T306 : St) => (fun (T23 : St) => sA T23 576 (17 : Int32).toNatClampNeg ((T23.2.2.1 576 (17 : Int32).toNatClampNeg) + 1)) (sA (x_m_mustEnd T306) 576 ((18 + (5 * p1)) + 3 : Int32).toNatClampNeg (((x_m_mustEnd T306).2.2.1 576 ((18 + (5 * p1)) + 3 : Int32).toNatClampNeg) + 1))))) (x_m_number T18 ((58 + (6 * ((x_m_must T301 1).2.2.1 576 (17 : Int32).toNatClampNeg))) + 4) 0 j4_s3))) (x_m_number T6 ((58 + (6 * ((x_m_must T301 1).2.2.1 576 (17 : Int32).toNatClampNeg))) + 3) 0 2)) := ⟨_, rfl⟩
        obtain ⟨OJ3, hOJ3⟩ : ∃ q : Prop, q = ((ok_m_number T6 ((58 + (6 * ((x_m_must T301 1).2.2.1 576 (17 : Int32).toNatClampNeg))) + 3) 0 2) ∧ (fun (T18 : St) => jn (fun (OJ4 : Int32 → Prop) => ((p0 = 1 → OJ4 1) ∧ (¬ p0 = 1 → OJ4 9))) (fun (j4_s3 : Int32) => (ok_m_number T18 ((58 + (6 * ((x_m_must T301 1).2.2.1 576 (17 : Int32).toNatClampNeg))) + 4) 0 j4_s3) ∧ (fun (T19 : St) => jn (fun (OJ5 : St → Prop) => ((p0 = 2 → (((T19.1 571 16) = 0 → (vp_in ((58 + (6 * ((x_m_must T301 1).2.2.1 576 (17 : Int32).toNatClampNeg))) + 4) 204) ∧ (ok_m_number T19 ((58 + (6 * ((x_m_must T301 1).2.2.1 576 (17 : Int32).toNatClampNeg))) + 5) (T19.2.2.1 576 ((58 + (6 * ((x_m_must T301 1).2.2.1 576 (17 : Int32).toNatClampNeg))) + 4 : Int32).toNatClampNeg) 9) ∧ (fun (T26 : St) => OJ5 T26) (x_m_number T19 ((58 + (6 * ((x_m_must T301 1).2.2.1 576 (17 : Int32).toNatClampNeg))) + 5) (T19.2.2.1 576 ((58 + (6 * ((x_m_must T301 1).2.2.1 576 (17 : Int32).toNatClampNeg))) + 4 : Int32).toNatClampNeg) 9)) ∧ (¬ (T19.1 571 16) = 0 → (ok_m_number T19 ((58 + (6 * ((x_m_must T301 1).2.2.1 576 (17 : Int32).toNatClampNeg))) + 5) 0 9) ∧ (fun (T25 : St) => OJ5 T25) (x_m_number T19 ((58 + (6 * ((x_m_must T301 1).2.2.1 576 (17 : Int32).toNatClampNeg))) + 5) 0 9)))) ∧ (¬ p0 = 2 → OJ5 T19))) (fun (T305 : St) => jn (fun (OJ6 : St → Prop) => ((p0 = 5 → (ok_m_number T305 ((58 + (6 * ((x_m_must T301 1).2.2.1 576 (17 : Int32).toNatClampNeg))) + 4) 0 9) ∧ (fun (T24 : St) => OJ6 T24) (x_m_number T305 ((58 + (6 * ((x_m_must T301 1).2.2.1 576 (17 : Int32).toNatClampNeg))) + 4) 0 9)) ∧ (¬ p0 = 5 → OJ6 T305))) (fun (T306 : St) => (ok_m_mustEnd T306) ∧ (vp_in ((18 + (5 * p1)) + 3) 204) ∧ (fun (T23 : St) => (vp_in 17 204) ∧ True) (sA (x_m_mustEnd T306) 576 ((18 + (5 * p1)) + 3 : Int32).toNatClampNeg (((x_m_mustEnd T306).2.2.1 576 ((18 + (5 * p1)) + 3 : Int32).toNatClampNeg) + 1))))) (x_m_number T18 ((58 + (6 * ((x_m_must T301 1).2.2.1 576 (17 : Int32).toNatClampNeg))) + 4) 0 j4_s3))) (x_m_number T6 ((58 + (6 * ((x_m_must T301 1).2.2.1 576 (17 : Int32).toNatClampNeg))) + 3) 0 2)) := ⟨_, rfl⟩
        rw [← hOJ3] at kk
        simp only [jn] at kk
        have hJ3 : OJ3 → tR X 4 mX12_readStep 132 [some (.ref 571), some (.int p0), some (.int p1), some (.int ((18 + (5 * p1)) + 3)), some (.int (58 + (6 * ((x_m_must T301 1).2.2.1 576 (17 : Int32).toNatClampNeg))))] [] T6 none KJ3 := by
          intro  kk
          rw [hOJ3] at kk
          try dsimp only at kk
          rw [hKJ3]
          refine r_p dX12_readStep_132 rfl rfl ?_
          refine r_p dX12_readStep_133 rfl rfl ?_
          refine r_ci (x := 3) dX12_readStep_135 rfl ?_
          refine r_p dX12_readStep_136 rfl rfl ?_
          refine r_ci (x := 0) dX12_readStep_137 rfl ?_
          refine r_ci (x := 2) dX12_readStep_138 rfl ?_
          obtain ⟨q34, kk⟩ := kk
          refine r_cv (d1 := 4) dX12_readStep_139 cvX12_190 rfl rfl rfl rfl (Nat.le_of_ble_eq_true rfl) (Nat.le_of_ble_eq_true rfl) (Nat.le_of_ble_eq_true rfl) (c_m_number ((58 + (6 * ((x_m_must T301 1).2.2.1 576 (17 : Int32).toNatClampNeg))) + 3) 0 2 q34) ?_
          refine r_eV (r' := (fun (T18 : St) => jn (fun (KJ4 : Int32 → St) => if p0 = 1 then (KJ4 1) else (KJ4 9)) (fun (j4_s3 : Int32) => (fun (T19 : St) => jn (fun (KJ5 : St → St) => if p0 = 2 then (if (T19.1 571 16) = 0 then (fun (T26 : St) => KJ5 T26) (x_m_number T19 ((58 + (6 * ((x_m_must T301 1).2.2.1 576 (17 : Int32).toNatClampNeg))) + 5) (T19.2.2.1 576 ((58 + (6 * ((x_m_must T301 1).2.2.1 576 (17 : Int32).toNatClampNeg))) + 4 : Int32).toNatClampNeg) 9) else (fun (T25 : St) => KJ5 T25) (x_m_number T19 ((58 + (6 * ((x_m_must T301 1).2.2.1 576 (17 : Int32).toNatClampNeg))) + 5) 0 9)) else (KJ5 T19)) (fun (T305 : St) => jn (fun (KJ6 : St → St) => if p0 = 5 then (fun (T24 : St) => KJ6 T24) (x_m_number T305 ((58 + (6 * ((x_m_must T301 1).2.2.1 576 (17 : Int32).toNatClampNeg))) + 4) 0 9) else (KJ6 T305)) (fun (T306 : St) => (fun (T23 : St) => sA T23 576 (17 : Int32).toNatClampNeg ((T23.2.2.1 576 (17 : Int32).toNatClampNeg) + 1)) (sA (x_m_mustEnd T306) 576 ((18 + (5 * p1)) + 3 : Int32).toNatClampNeg (((x_m_mustEnd T306).2.2.1 576 ((18 + (5 * p1)) + 3 : Int32).toNatClampNeg) + 1))))) (x_m_number T18 ((58 + (6 * ((x_m_must T301 1).2.2.1 576 (17 : Int32).toNatClampNeg))) + 4) 0 j4_s3))) (x_m_number T6 ((58 + (6 * ((x_m_must T301 1).2.2.1 576 (17 : Int32).toNatClampNeg))) + 3) 0 2)) rfl ?_
          generalize x_m_number T6 ((58 + (6 * ((x_m_must T301 1).2.2.1 576 (17 : Int32).toNatClampNeg))) + 3) 0 2 = T18 at kk ⊢
          try dsimp only at kk
          refine r_p dX12_readStep_142 rfl rfl ?_
          refine r_p dX12_readStep_143 rfl rfl ?_
          refine r_ci (x := 4) dX12_readStep_145 rfl ?_
          refine r_p dX12_readStep_146 rfl rfl ?_
          refine r_ci (x := 0) dX12_readStep_147 rfl ?_
          refine r_p dX12_readStep_148 rfl rfl ?_
          refine r_ci (x := 1) dX12_readStep_149 rfl ?_
          obtain ⟨KJ4, hKJ4⟩ : ∃ q : Int32 → St, q = (fun (j4_s3 : Int32) => (fun (T19 : St) => jn (fun (KJ5 : St → St) => if p0 = 2 then (if (T19.1 571 16) = 0 then (fun (T26 : St) => KJ5 T26) (x_m_number T19 ((58 + (6 * ((x_m_must T301 1).2.2.1 576 (17 : Int32).toNatClampNeg))) + 5) (T19.2.2.1 576 ((58 + (6 * ((x_m_must T301 1).2.2.1 576 (17 : Int32).toNatClampNeg))) + 4 : Int32).toNatClampNeg) 9) else (fun (T25 : St) => KJ5 T25) (x_m_number T19 ((58 + (6 * ((x_m_must T301 1).2.2.1 576 (17 : Int32).toNatClampNeg))) + 5) 0 9)) else (KJ5 T19)) (fun (T305 : St) => jn (fun (KJ6 : St → St) => if p0 = 5 then (fun (T24 : St) => KJ6 T24) (x_m_number T305 ((58 + (6 * ((x_m_must T301 1).2.2.1 576 (17 : Int32).toNatClampNeg))) + 4) 0 9) else (KJ6 T305)) (fun (T306 : St) => (fun (T23 : St) => sA T23 576 (17 : Int32).toNatClampNeg ((T23.2.2.1 576 (17 : Int32).toNatClampNeg) + 1)) (sA (x_m_mustEnd T306) 576 ((18 + (5 * p1)) + 3 : Int32).toNatClampNeg (((x_m_mustEnd T306).2.2.1 576 ((18 + (5 * p1)) + 3 : Int32).toNatClampNeg) + 1))))) (x_m_number T18 ((58 + (6 * ((x_m_must T301 1).2.2.1 576 (17 : Int32).toNatClampNeg))) + 4) 0 j4_s3)) := ⟨_, rfl⟩
          obtain ⟨OJ4, hOJ4⟩ : ∃ q : Int32 → Prop, q = (fun (j4_s3 : Int32) => (ok_m_number T18 ((58 + (6 * ((x_m_must T301 1).2.2.1 576 (17 : Int32).toNatClampNeg))) + 4) 0 j4_s3) ∧ (fun (T19 : St) => jn (fun (OJ5 : St → Prop) => ((p0 = 2 → (((T19.1 571 16) = 0 → (vp_in ((58 + (6 * ((x_m_must T301 1).2.2.1 576 (17 : Int32).toNatClampNeg))) + 4) 204) ∧ (ok_m_number T19 ((58 + (6 * ((x_m_must T301 1).2.2.1 576 (17 : Int32).toNatClampNeg))) + 5) (T19.2.2.1 576 ((58 + (6 * ((x_m_must T301 1).2.2.1 576 (17 : Int32).toNatClampNeg))) + 4 : Int32).toNatClampNeg) 9) ∧ (fun (T26 : St) => OJ5 T26) (x_m_number T19 ((58 + (6 * ((x_m_must T301 1).2.2.1 576 (17 : Int32).toNatClampNeg))) + 5) (T19.2.2.1 576 ((58 + (6 * ((x_m_must T301 1).2.2.1 576 (17 : Int32).toNatClampNeg))) + 4 : Int32).toNatClampNeg) 9)) ∧ (¬ (T19.1 571 16) = 0 → (ok_m_number T19 ((58 + (6 * ((x_m_must T301 1).2.2.1 576 (17 : Int32).toNatClampNeg))) + 5) 0 9) ∧ (fun (T25 : St) => OJ5 T25) (x_m_number T19 ((58 + (6 * ((x_m_must T301 1).2.2.1 576 (17 : Int32).toNatClampNeg))) + 5) 0 9)))) ∧ (¬ p0 = 2 → OJ5 T19))) (fun (T305 : St) => jn (fun (OJ6 : St → Prop) => ((p0 = 5 → (ok_m_number T305 ((58 + (6 * ((x_m_must T301 1).2.2.1 576 (17 : Int32).toNatClampNeg))) + 4) 0 9) ∧ (fun (T24 : St) => OJ6 T24) (x_m_number T305 ((58 + (6 * ((x_m_must T301 1).2.2.1 576 (17 : Int32).toNatClampNeg))) + 4) 0 9)) ∧ (¬ p0 = 5 → OJ6 T305))) (fun (T306 : St) => (ok_m_mustEnd T306) ∧ (vp_in ((18 + (5 * p1)) + 3) 204) ∧ (fun (T23 : St) => (vp_in 17 204) ∧ True) (sA (x_m_mustEnd T306) 576 ((18 + (5 * p1)) + 3 : Int32).toNatClampNeg (((x_m_mustEnd T306).2.2.1 576 ((18 + (5 * p1)) + 3 : Int32).toNatClampNeg) + 1))))) (x_m_number T18 ((58 + (6 * ((x_m_must T301 1).2.2.1 576 (17 : Int32).toNatClampNeg))) + 4) 0 j4_s3)) := ⟨_, rfl⟩
          rw [← hOJ4] at kk
          simp only [jn] at kk
          have hJ4 : ∀ (j4_s3 : Int32), OJ4 j4_s3 → tR X 4 mX12_readStep 159 [some (.ref 571), some (.int p0), some (.int p1), some (.int ((18 + (5 * p1)) + 3)), some (.int (58 + (6 * ((x_m_must T301 1).2.2.1 576 (17 : Int32).toNatClampNeg))))] [.int j4_s3, .int 0, .int ((58 + (6 * ((x_m_must T301 1).2.2.1 576 (17 : Int32).toNatClampNeg))) + 4), .ref 571] T18 none (KJ4 j4_s3) := by
            intro j4_s3 kk
            rw [hOJ4] at kk
            try dsimp only at kk
            rw [hKJ4]
            obtain ⟨q35, kk⟩ := kk
            refine r_cv (d1 := 4) dX12_readStep_159 cvX12_190 rfl rfl rfl rfl (Nat.le_of_ble_eq_true rfl) (Nat.le_of_ble_eq_true rfl) (Nat.le_of_ble_eq_true rfl) (c_m_number ((58 + (6 * ((x_m_must T301 1).2.2.1 576 (17 : Int32).toNatClampNeg))) + 4) 0 j4_s3 q35) ?_
            refine r_eV (r' := (fun (T19 : St) => jn (fun (KJ5 : St → St) => if p0 = 2 then (if (T19.1 571 16) = 0 then (fun (T26 : St) => KJ5 T26) (x_m_number T19 ((58 + (6 * ((x_m_must T301 1).2.2.1 576 (17 : Int32).toNatClampNeg))) + 5) (T19.2.2.1 576 ((58 + (6 * ((x_m_must T301 1).2.2.1 576 (17 : Int32).toNatClampNeg))) + 4 : Int32).toNatClampNeg) 9) else (fun (T25 : St) => KJ5 T25) (x_m_number T19 ((58 + (6 * ((x_m_must T301 1).2.2.1 576 (17 : Int32).toNatClampNeg))) + 5) 0 9)) else (KJ5 T19)) (fun (T305 : St) => jn (fun (KJ6 : St → St) => if p0 = 5 then (fun (T24 : St) => KJ6 T24) (x_m_number T305 ((58 + (6 * ((x_m_must T301 1).2.2.1 576 (17 : Int32).toNatClampNeg))) + 4) 0 9) else (KJ6 T305)) (fun (T306 : St) => (fun (T23 : St) => sA T23 576 (17 : Int32).toNatClampNeg ((T23.2.2.1 576 (17 : Int32).toNatClampNeg) + 1)) (sA (x_m_mustEnd T306) 576 ((18 + (5 * p1)) + 3 : Int32).toNatClampNeg (((x_m_mustEnd T306).2.2.1 576 ((18 + (5 * p1)) + 3 : Int32).toNatClampNeg) + 1))))) (x_m_number T18 ((58 + (6 * ((x_m_must T301 1).2.2.1 576 (17 : Int32).toNatClampNeg))) + 4) 0 j4_s3)) rfl ?_
            generalize x_m_number T18 ((58 + (6 * ((x_m_must T301 1).2.2.1 576 (17 : Int32).toNatClampNeg))) + 4) 0 j4_s3 = T19 at kk ⊢
            try dsimp only at kk
            refine r_p dX12_readStep_162 rfl rfl ?_
            refine r_ci (x := 2) dX12_readStep_163 rfl ?_
            obtain ⟨KJ5, hKJ5⟩ : ∃ q : St → St, q = (fun (T305 : St) => jn (fun (KJ6 : St → St) => if p0 = 5 then (fun (T24 : St) => KJ6 T24) (x_m_number T305 ((58 + (6 * ((x_m_must T301 1).2.2.1 576 (17 : Int32).toNatClampNeg))) + 4) 0 9) else (KJ6 T305)) (fun (T306 : St) => (fun (T23 : St) => sA T23 576 (17 : Int32).toNatClampNeg ((T23.2.2.1 576 (17 : Int32).toNatClampNeg) + 1)) (sA (x_m_mustEnd T306) 576 ((18 + (5 * p1)) + 3 : Int32).toNatClampNeg (((x_m_mustEnd T306).2.2.1 576 ((18 + (5 * p1)) + 3 : Int32).toNatClampNeg) + 1)))) := ⟨_, rfl⟩
            obtain ⟨OJ5, hOJ5⟩ : ∃ q : St → Prop, q = (fun (T305 : St) => jn (fun (OJ6 : St → Prop) => ((p0 = 5 → (ok_m_number T305 ((58 + (6 * ((x_m_must T301 1).2.2.1 576 (17 : Int32).toNatClampNeg))) + 4) 0 9) ∧ (fun (T24 : St) => OJ6 T24) (x_m_number T305 ((58 + (6 * ((x_m_must T301 1).2.2.1 576 (17 : Int32).toNatClampNeg))) + 4) 0 9)) ∧ (¬ p0 = 5 → OJ6 T305))) (fun (T306 : St) => (ok_m_mustEnd T306) ∧ (vp_in ((18 + (5 * p1)) + 3) 204) ∧ (fun (T23 : St) => (vp_in 17 204) ∧ True) (sA (x_m_mustEnd T306) 576 ((18 + (5 * p1)) + 3 : Int32).toNatClampNeg (((x_m_mustEnd T306).2.2.1 576 ((18 + (5 * p1)) + 3 : Int32).toNatClampNeg) + 1)))) := ⟨_, rfl⟩
            rw [← hOJ5] at kk
            simp only [jn] at kk
            have hJ5 : ∀ (T305 : St), OJ5 T305 → tR X 4 mX12_readStep 197 [some (.ref 571), some (.int p0), some (.int p1), some (.int ((18 + (5 * p1)) + 3)), some (.int (58 + (6 * ((x_m_must T301 1).2.2.1 576 (17 : Int32).toNatClampNeg))))] [] T305 none (KJ5 T305) := by
              intro T305 kk
              rw [hOJ5] at kk
              try dsimp only at kk
              rw [hKJ5]
              refine r_p dX12_readStep_197 rfl rfl ?_
              refine r_ci (x := 5) dX12_readStep_198 rfl ?_
              obtain ⟨KJ6, hKJ6⟩ : ∃ q : St → St, q = (fun (T306 : St) => (fun (T23 : St) => sA T23 576 (17 : Int32).toNatClampNeg ((T23.2.2.1 576 (17 : Int32).toNatClampNeg) + 1)) (sA (x_m_mustEnd T306) 576 ((18 + (5 * p1)) + 3 : Int32).toNatClampNeg (((x_m_mustEnd T306).2.2.1 576 ((18 + (5 * p1)) + 3 : Int32).toNatClampNeg) + 1))) := ⟨_, rfl⟩
              obtain ⟨OJ6, hOJ6⟩ : ∃ q : St → Prop, q = (fun (T306 : St) => (ok_m_mustEnd T306) ∧ (vp_in ((18 + (5 * p1)) + 3) 204) ∧ (fun (T23 : St) => (vp_in 17 204) ∧ True) (sA (x_m_mustEnd T306) 576 ((18 + (5 * p1)) + 3 : Int32).toNatClampNeg (((x_m_mustEnd T306).2.2.1 576 ((18 + (5 * p1)) + 3 : Int32).toNatClampNeg) + 1))) := ⟨_, rfl⟩
              rw [← hOJ6] at kk
              simp only [jn] at kk
              have hJ6 : ∀ (T306 : St), OJ6 T306 → tR X 4 mX12_readStep 213 [some (.ref 571), some (.int p0), some (.int p1), some (.int ((18 + (5 * p1)) + 3)), some (.int (58 + (6 * ((x_m_must T301 1).2.2.1 576 (17 : Int32).toNatClampNeg))))] [] T306 none (KJ6 T306) := by
                intro T306 kk
                rw [hOJ6] at kk
                try dsimp only at kk
                rw [hKJ6]
                refine r_p dX12_readStep_213 rfl rfl ?_
                obtain ⟨q40, kk⟩ := kk
                refine r_cv (d1 := 4) dX12_readStep_214 cvX12_194 rfl rfl rfl rfl (Nat.le_of_ble_eq_true rfl) (Nat.le_of_ble_eq_true rfl) (Nat.le_of_ble_eq_true rfl) (c_m_mustEnd  q40) ?_
                refine r_p dX12_readStep_217 rfl rfl ?_
                refine r_get dX12_readStep_218 fkX12_22 rfl rfl ?_
                refine r_p dX12_readStep_221 rfl rfl ?_
                refine r_p dX12_readStep_222 rfl rfl ?_
                obtain ⟨q41, kk⟩ := kk
                refine r_ia dX12_readStep_223 rfl q41 ?_
                refine r_ci (x := 1) dX12_readStep_224 rfl ?_
                refine r_p dX12_readStep_225 rfl rfl ?_
                refine r_ias dX12_readStep_226 rfl q41 ?_
                refine r_eV (r' := (fun (T23 : St) => sA T23 576 (17 : Int32).toNatClampNeg ((T23.2.2.1 576 (17 : Int32).toNatClampNeg) + 1)) (sA (x_m_mustEnd T306) 576 ((18 + (5 * p1)) + 3 : Int32).toNatClampNeg (((x_m_mustEnd T306).2.2.1 576 ((18 + (5 * p1)) + 3 : Int32).toNatClampNeg) + 1))) rfl ?_
                generalize sA (x_m_mustEnd T306) 576 ((18 + (5 * p1)) + 3 : Int32).toNatClampNeg (((x_m_mustEnd T306).2.2.1 576 ((18 + (5 * p1)) + 3 : Int32).toNatClampNeg) + 1) = T23 at kk ⊢
                try dsimp only at kk
                refine r_p dX12_readStep_227 rfl rfl ?_
                refine r_get dX12_readStep_228 fkX12_22 rfl rfl ?_
                refine r_cb (x := 17) dX12_readStep_231 rfl ?_
                refine r_p dX12_readStep_233 rfl rfl ?_
                obtain ⟨q42, kk⟩ := kk
                refine r_ia dX12_readStep_234 rfl q42 ?_
                refine r_ci (x := 1) dX12_readStep_235 rfl ?_
                refine r_p dX12_readStep_236 rfl rfl ?_
                refine r_ias dX12_readStep_237 rfl q42 ?_
                exact r_eV (r' := (sA T23 576 (17 : Int32).toNatClampNeg ((T23.2.2.1 576 (17 : Int32).toNatClampNeg) + 1))) rfl (r_rv dX12_readStep_238 rfl rfl rfl)
              refine r_eV (r' := jn (fun (KJ6 : St → St) => if p0 = 5 then (fun (T24 : St) => KJ6 T24) (x_m_number T305 ((58 + (6 * ((x_m_must T301 1).2.2.1 576 (17 : Int32).toNatClampNeg))) + 4) 0 9) else (KJ6 T305)) KJ6) (by rw [hKJ6]) ?_
              refine r_cne dX12_readStep_199 rfl (fun c199_15 => ?_) (fun c199_15 => ?_)
              · have kk := kk.2 c199_15
                show tR _ _ _ _ [some (.ref 571), some (.int p0), some (.int p1), some (.int ((18 + (5 * p1)) + 3)), some (.int (58 + (6 * ((x_m_must T301 1).2.2.1 576 (17 : Int32).toNatClampNeg))))] [] _ _ _
                exact r_eV (r' := KJ6 T305) (by simp only [jn]; rw [if_neg c199_15]) ((hJ6 T305 kk))
              · have kk := kk.1 c199_15
                refine r_p dX12_readStep_202 rfl rfl ?_
                refine r_p dX12_readStep_203 rfl rfl ?_
                refine r_ci (x := 4) dX12_readStep_205 rfl ?_
                refine r_p dX12_readStep_206 rfl rfl ?_
                refine r_ci (x := 0) dX12_readStep_207 rfl ?_
                refine r_cb (x := 9) dX12_readStep_208 rfl ?_
                obtain ⟨q43, kk⟩ := kk
                refine r_cv (d1 := 4) dX12_readStep_210 cvX12_190 rfl rfl rfl rfl (Nat.le_of_ble_eq_true rfl) (Nat.le_of_ble_eq_true rfl) (Nat.le_of_ble_eq_true rfl) (c_m_number ((58 + (6 * ((x_m_must T301 1).2.2.1 576 (17 : Int32).toNatClampNeg))) + 4) 0 9 q43) ?_
                refine r_eV (r' := (fun (T24 : St) => KJ6 T24) (x_m_number T305 ((58 + (6 * ((x_m_must T301 1).2.2.1 576 (17 : Int32).toNatClampNeg))) + 4) 0 9)) (by simp only [jn]; rw [if_pos c199_15]) ?_
                generalize x_m_number T305 ((58 + (6 * ((x_m_must T301 1).2.2.1 576 (17 : Int32).toNatClampNeg))) + 4) 0 9 = T24 at kk ⊢
                try dsimp only at kk
                show tR _ _ _ _ [some (.ref 571), some (.int p0), some (.int p1), some (.int ((18 + (5 * p1)) + 3)), some (.int (58 + (6 * ((x_m_must T301 1).2.2.1 576 (17 : Int32).toNatClampNeg))))] [] _ _ _
                exact r_eV (r' := KJ6 T24) rfl ((hJ6 T24 kk))
            refine r_eV (r' := jn (fun (KJ5 : St → St) => if p0 = 2 then (if (T19.1 571 16) = 0 then (fun (T26 : St) => KJ5 T26) (x_m_number T19 ((58 + (6 * ((x_m_must T301 1).2.2.1 576 (17 : Int32).toNatClampNeg))) + 5) (T19.2.2.1 576 ((58 + (6 * ((x_m_must T301 1).2.2.1 576 (17 : Int32).toNatClampNeg))) + 4 : Int32).toNatClampNeg) 9) else (fun (T25 : St) => KJ5 T25) (x_m_number T19 ((58 + (6 * ((x_m_must T301 1).2.2.1 576 (17 : Int32).toNatClampNeg))) + 5) 0 9)) else (KJ5 T19)) KJ5) (by rw [hKJ5]) ?_
            refine r_cne dX12_readStep_164 rfl (fun c164_16 => ?_) (fun c164_16 => ?_)
            · have kk := kk.2 c164_16
              show tR _ _ _ _ [some (.ref 571), some (.int p0), some (.int p1), some (.int ((18 + (5 * p1)) + 3)), some (.int (58 + (6 * ((x_m_must T301 1).2.2.1 576 (17 : Int32).toNatClampNeg))))] [] _ _ _
              exact r_eV (r' := KJ5 T19) (by simp only [jn]; rw [if_neg c164_16]) ((hJ5 T19 kk))
            · have kk := kk.1 c164_16
              refine r_p dX12_readStep_167 rfl rfl ?_
              refine r_p dX12_readStep_168 rfl rfl ?_
              refine r_ci (x := 5) dX12_readStep_170 rfl ?_
              refine r_p dX12_readStep_171 rfl rfl ?_
              refine r_p dX12_readStep_172 rfl rfl ?_
              refine r_get dX12_readStep_173 fkX12_159 rfl rfl ?_
              refine r_ine dX12_readStep_176 rfl (fun c176_17 => ?_) (fun c176_17 => ?_)
              · have kk := kk.2 c176_17
                refine r_ci (x := 0) dX12_readStep_191 rfl ?_
                refine r_cb (x := 9) dX12_readStep_192 rfl ?_
                obtain ⟨q44, kk⟩ := kk
                refine r_cv (d1 := 4) dX12_readStep_194 cvX12_190 rfl rfl rfl rfl (Nat.le_of_ble_eq_true rfl) (Nat.le_of_ble_eq_true rfl) (Nat.le_of_ble_eq_true rfl) (c_m_number ((58 + (6 * ((x_m_must T301 1).2.2.1 576 (17 : Int32).toNatClampNeg))) + 5) 0 9 q44) ?_
                refine r_eV (r' := (fun (T25 : St) => KJ5 T25) (x_m_number T19 ((58 + (6 * ((x_m_must T301 1).2.2.1 576 (17 : Int32).toNatClampNeg))) + 5) 0 9)) (by simp only [jn]; rw [if_pos c164_16, if_neg c176_17]) ?_
                generalize x_m_number T19 ((58 + (6 * ((x_m_must T301 1).2.2.1 576 (17 : Int32).toNatClampNeg))) + 5) 0 9 = T25 at kk ⊢
                try dsimp only at kk
                show tR _ _ _ _ [some (.ref 571), some (.int p0), some (.int p1), some (.int ((18 + (5 * p1)) + 3)), some (.int (58 + (6 * ((x_m_must T301 1).2.2.1 576 (17 : Int32).toNatClampNeg))))] [] _ _ _
                exact r_eV (r' := KJ5 T25) rfl ((hJ5 T25 kk))
              · have kk := kk.1 c176_17
                refine r_p dX12_readStep_179 rfl rfl ?_
                refine r_get dX12_readStep_180 fkX12_22 rfl rfl ?_
                refine r_p dX12_readStep_183 rfl rfl ?_
                refine r_ci (x := 4) dX12_readStep_185 rfl ?_
                refine r_p dX12_readStep_186 rfl rfl ?_
                obtain ⟨q45, kk⟩ := kk
                refine r_ia dX12_readStep_187 rfl q45 ?_
                refine r_go dX12_readStep_188 rfl ?_
                refine r_cb (x := 9) dX12_readStep_192 rfl ?_
                obtain ⟨q46, kk⟩ := kk
                refine r_cv (d1 := 4) dX12_readStep_194 cvX12_190 rfl rfl rfl rfl (Nat.le_of_ble_eq_true rfl) (Nat.le_of_ble_eq_true rfl) (Nat.le_of_ble_eq_true rfl) (c_m_number ((58 + (6 * ((x_m_must T301 1).2.2.1 576 (17 : Int32).toNatClampNeg))) + 5) (T19.2.2.1 576 ((58 + (6 * ((x_m_must T301 1).2.2.1 576 (17 : Int32).toNatClampNeg))) + 4 : Int32).toNatClampNeg) 9 q46) ?_
                refine r_eV (r' := (fun (T26 : St) => KJ5 T26) (x_m_number T19 ((58 + (6 * ((x_m_must T301 1).2.2.1 576 (17 : Int32).toNatClampNeg))) + 5) (T19.2.2.1 576 ((58 + (6 * ((x_m_must T301 1).2.2.1 576 (17 : Int32).toNatClampNeg))) + 4 : Int32).toNatClampNeg) 9)) (by simp only [jn]; rw [if_pos c164_16, if_pos c176_17]) ?_
                generalize x_m_number T19 ((58 + (6 * ((x_m_must T301 1).2.2.1 576 (17 : Int32).toNatClampNeg))) + 5) (T19.2.2.1 576 ((58 + (6 * ((x_m_must T301 1).2.2.1 576 (17 : Int32).toNatClampNeg))) + 4 : Int32).toNatClampNeg) 9 = T26 at kk ⊢
                try dsimp only at kk
                show tR _ _ _ _ [some (.ref 571), some (.int p0), some (.int p1), some (.int ((18 + (5 * p1)) + 3)), some (.int (58 + (6 * ((x_m_must T301 1).2.2.1 576 (17 : Int32).toNatClampNeg))))] [] _ _ _
                exact r_eV (r' := KJ5 T26) rfl ((hJ5 T26 kk))
          refine r_eV (r' := jn (fun (KJ4 : Int32 → St) => if p0 = 1 then (KJ4 1) else (KJ4 9)) KJ4) (by rw [hKJ4]) ?_
          refine r_cne dX12_readStep_150 rfl (fun c150_18 => ?_) (fun c150_18 => ?_)
          · have kk := kk.2 c150_18
            refine r_cb (x := 9) dX12_readStep_157 rfl ?_
            show tR _ _ _ _ [some (.ref 571), some (.int p0), some (.int p1), some (.int ((18 + (5 * p1)) + 3)), some (.int (58 + (6 * ((x_m_must T301 1).2.2.1 576 (17 : Int32).toNatClampNeg))))] [.int 9, .int 0, .int ((58 + (6 * ((x_m_must T301 1).2.2.1 576 (17 : Int32).toNatClampNeg))) + 4), .ref 571] _ _ _
            exact r_eV (r' := KJ4 9) (by simp only [jn]; rw [if_neg c150_18]) ((hJ4 9 kk))
          · have kk := kk.1 c150_18
            refine r_ci (x := 1) dX12_readStep_153 rfl ?_
            refine r_go dX12_readStep_154 rfl ?_
            show tR _ _ _ _ [some (.ref 571), some (.int p0), some (.int p1), some (.int ((18 + (5 * p1)) + 3)), some (.int (58 + (6 * ((x_m_must T301 1).2.2.1 576 (17 : Int32).toNatClampNeg))))] [.int 1, .int 0, .int ((58 + (6 * ((x_m_must T301 1).2.2.1 576 (17 : Int32).toNatClampNeg))) + 4), .ref 571] _ _ _
            exact r_eV (r' := KJ4 1) (by simp only [jn]; rw [if_pos c150_18]) ((hJ4 1 kk))
        refine r_eV (r' := jn (fun (KJ3 : St) => if p0 = 1 then (KJ3) else (if p0 = 2 then (KJ3) else (jn (fun (KJ7 : St → St) => if p0 = 2 then (if (T6.1 571 16) = 0 then (fun (T33 : St) => KJ7 T33) (x_m_number T6 ((58 + (6 * ((x_m_must T301 1).2.2.1 576 (17 : Int32).toNatClampNeg))) + 5) (T6.2.2.1 576 ((58 + (6 * ((x_m_must T301 1).2.2.1 576 (17 : Int32).toNatClampNeg))) + 4 : Int32).toNatClampNeg) 9) else (fun (T32 : St) => KJ7 T32) (x_m_number T6 ((58 + (6 * ((x_m_must T301 1).2.2.1 576 (17 : Int32).toNatClampNeg))) + 5) 0 9)) else (KJ7 T6)) (fun (T307 : St) => jn (fun (KJ8 : St → St) => if p0 = 5 then (fun (T31 : St) => KJ8 T31) (x_m_number T307 ((58 + (6 * ((x_m_must T301 1).2.2.1 576 (17 : Int32).toNatClampNeg))) + 4) 0 9) else (KJ8 T307)) (fun (T308 : St) => (fun (T30 : St) => sA T30 576 (17 : Int32).toNatClampNeg ((T30.2.2.1 576 (17 : Int32).toNatClampNeg) + 1)) (sA (x_m_mustEnd T308) 576 ((18 + (5 * p1)) + 3 : Int32).toNatClampNeg (((x_m_mustEnd T308).2.2.1 576 ((18 + (5 * p1)) + 3 : Int32).toNatClampNeg) + 1))))))) KJ3) (by rw [hKJ3]) ?_
        refine r_ceq dX12_readStep_124 rfl (fun c124_19 => ?_) (fun c124_19 => ?_)
        · have kk := kk.1 c124_19
          show tR _ _ _ _ [some (.ref 571), some (.int p0), some (.int p1), some (.int ((18 + (5 * p1)) + 3)), some (.int (58 + (6 * ((x_m_must T301 1).2.2.1 576 (17 : Int32).toNatClampNeg))))] [] _ _ _
          exact r_eV (r' := KJ3) (by simp only [jn]; rw [if_pos c124_19]) ((hJ3  kk))
        · have kk := kk.2 c124_19
          refine r_p dX12_readStep_127 rfl rfl ?_
          refine r_ci (x := 2) dX12_readStep_128 rfl ?_
          refine r_cne dX12_readStep_129 rfl (fun c129_20 => ?_) (fun c129_20 => ?_)
          · have kk := kk.2 c129_20
            refine r_p dX12_readStep_162 rfl rfl ?_
            refine r_ci (x := 2) dX12_readStep_163 rfl ?_
            obtain ⟨KJ7, hKJ7⟩ : ∃ q : St → St, q = (fun (T307 : St) => jn (fun (KJ8 : St → St) => if p0 = 5 then (fun (T31 : St) => KJ8 T31) (x_m_number T307 ((58 + (6 * ((x_m_must T301 1).2.2.1 576 (17 : Int32).toNatClampNeg))) + 4) 0 9) else (KJ8 T307)) (fun (T308 : St) => (fun (T30 : St) => sA T30 576 (17 : Int32).toNatClampNeg ((T30.2.2.1 576 (17 : Int32).toNatClampNeg) + 1)) (sA (x_m_mustEnd T308) 576 ((18 + (5 * p1)) + 3 : Int32).toNatClampNeg (((x_m_mustEnd T308).2.2.1 576 ((18 + (5 * p1)) + 3 : Int32).toNatClampNeg) + 1)))) := ⟨_, rfl⟩
            obtain ⟨OJ7, hOJ7⟩ : ∃ q : St → Prop, q = (fun (T307 : St) => jn (fun (OJ8 : St → Prop) => ((p0 = 5 → (ok_m_number T307 ((58 + (6 * ((x_m_must T301 1).2.2.1 576 (17 : Int32).toNatClampNeg))) + 4) 0 9) ∧ (fun (T31 : St) => OJ8 T31) (x_m_number T307 ((58 + (6 * ((x_m_must T301 1).2.2.1 576 (17 : Int32).toNatClampNeg))) + 4) 0 9)) ∧ (¬ p0 = 5 → OJ8 T307))) (fun (T308 : St) => (ok_m_mustEnd T308) ∧ (vp_in ((18 + (5 * p1)) + 3) 204) ∧ (fun (T30 : St) => (vp_in 17 204) ∧ True) (sA (x_m_mustEnd T308) 576 ((18 + (5 * p1)) + 3 : Int32).toNatClampNeg (((x_m_mustEnd T308).2.2.1 576 ((18 + (5 * p1)) + 3 : Int32).toNatClampNeg) + 1)))) := ⟨_, rfl⟩
            rw [← hOJ7] at kk
            simp only [jn] at kk
            have hJ7 : ∀ (T307 : St), OJ7 T307 → tR X 4 mX12_readStep 197 [some (.ref 571), some (.int p0), some (.int p1), some (.int ((18 + (5 * p1)) + 3)), some (.int (58 + (6 * ((x_m_must T301 1).2.2.1 576 (17 : Int32).toNatClampNeg))))] [] T307 none (KJ7 T307) := by
              intro T307 kk
              rw [hOJ7] at kk
              try dsimp only at kk
              rw [hKJ7]
              refine r_p dX12_readStep_197 rfl rfl ?_
              refine r_ci (x := 5) dX12_readStep_198 rfl ?_
              obtain ⟨KJ8, hKJ8⟩ : ∃ q : St → St, q = (fun (T308 : St) => (fun (T30 : St) => sA T30 576 (17 : Int32).toNatClampNeg ((T30.2.2.1 576 (17 : Int32).toNatClampNeg) + 1)) (sA (x_m_mustEnd T308) 576 ((18 + (5 * p1)) + 3 : Int32).toNatClampNeg (((x_m_mustEnd T308).2.2.1 576 ((18 + (5 * p1)) + 3 : Int32).toNatClampNeg) + 1))) := ⟨_, rfl⟩
              obtain ⟨OJ8, hOJ8⟩ : ∃ q : St → Prop, q = (fun (T308 : St) => (ok_m_mustEnd T308) ∧ (vp_in ((18 + (5 * p1)) + 3) 204) ∧ (fun (T30 : St) => (vp_in 17 204) ∧ True) (sA (x_m_mustEnd T308) 576 ((18 + (5 * p1)) + 3 : Int32).toNatClampNeg (((x_m_mustEnd T308).2.2.1 576 ((18 + (5 * p1)) + 3 : Int32).toNatClampNeg) + 1))) := ⟨_, rfl⟩
              rw [← hOJ8] at kk
              simp only [jn] at kk
              have hJ8 : ∀ (T308 : St), OJ8 T308 → tR X 4 mX12_readStep 213 [some (.ref 571), some (.int p0), some (.int p1), some (.int ((18 + (5 * p1)) + 3)), some (.int (58 + (6 * ((x_m_must T301 1).2.2.1 576 (17 : Int32).toNatClampNeg))))] [] T308 none (KJ8 T308) := by
                intro T308 kk
                rw [hOJ8] at kk
                try dsimp only at kk
                rw [hKJ8]
                refine r_p dX12_readStep_213 rfl rfl ?_
                obtain ⟨q51, kk⟩ := kk
                refine r_cv (d1 := 4) dX12_readStep_214 cvX12_194 rfl rfl rfl rfl (Nat.le_of_ble_eq_true rfl) (Nat.le_of_ble_eq_true rfl) (Nat.le_of_ble_eq_true rfl) (c_m_mustEnd  q51) ?_
                refine r_p dX12_readStep_217 rfl rfl ?_
                refine r_get dX12_readStep_218 fkX12_22 rfl rfl ?_
                refine r_p dX12_readStep_221 rfl rfl ?_
                refine r_p dX12_readStep_222 rfl rfl ?_
                obtain ⟨q52, kk⟩ := kk
                refine r_ia dX12_readStep_223 rfl q52 ?_
                refine r_ci (x := 1) dX12_readStep_224 rfl ?_
                refine r_p dX12_readStep_225 rfl rfl ?_
                refine r_ias dX12_readStep_226 rfl q52 ?_
                refine r_eV (r' := (fun (T30 : St) => sA T30 576 (17 : Int32).toNatClampNeg ((T30.2.2.1 576 (17 : Int32).toNatClampNeg) + 1)) (sA (x_m_mustEnd T308) 576 ((18 + (5 * p1)) + 3 : Int32).toNatClampNeg (((x_m_mustEnd T308).2.2.1 576 ((18 + (5 * p1)) + 3 : Int32).toNatClampNeg) + 1))) rfl ?_
                generalize sA (x_m_mustEnd T308) 576 ((18 + (5 * p1)) + 3 : Int32).toNatClampNeg (((x_m_mustEnd T308).2.2.1 576 ((18 + (5 * p1)) + 3 : Int32).toNatClampNeg) + 1) = T30 at kk ⊢
                try dsimp only at kk
                refine r_p dX12_readStep_227 rfl rfl ?_
                refine r_get dX12_readStep_228 fkX12_22 rfl rfl ?_
                refine r_cb (x := 17) dX12_readStep_231 rfl ?_
                refine r_p dX12_readStep_233 rfl rfl ?_
                obtain ⟨q53, kk⟩ := kk
                refine r_ia dX12_readStep_234 rfl q53 ?_
                refine r_ci (x := 1) dX12_readStep_235 rfl ?_
                refine r_p dX12_readStep_236 rfl rfl ?_
                refine r_ias dX12_readStep_237 rfl q53 ?_
                exact r_eV (r' := (sA T30 576 (17 : Int32).toNatClampNeg ((T30.2.2.1 576 (17 : Int32).toNatClampNeg) + 1))) rfl (r_rv dX12_readStep_238 rfl rfl rfl)
              refine r_eV (r' := jn (fun (KJ8 : St → St) => if p0 = 5 then (fun (T31 : St) => KJ8 T31) (x_m_number T307 ((58 + (6 * ((x_m_must T301 1).2.2.1 576 (17 : Int32).toNatClampNeg))) + 4) 0 9) else (KJ8 T307)) KJ8) (by rw [hKJ8]) ?_
              refine r_cne dX12_readStep_199 rfl (fun c199_24 => ?_) (fun c199_24 => ?_)
              · have kk := kk.2 c199_24
                show tR _ _ _ _ [some (.ref 571), some (.int p0), some (.int p1), some (.int ((18 + (5 * p1)) + 3)), some (.int (58 + (6 * ((x_m_must T301 1).2.2.1 576 (17 : Int32).toNatClampNeg))))] [] _ _ _
                exact r_eV (r' := KJ8 T307) (by simp only [jn]; rw [if_neg c199_24]) ((hJ8 T307 kk))
              · have kk := kk.1 c199_24
                refine r_p dX12_readStep_202 rfl rfl ?_
                refine r_p dX12_readStep_203 rfl rfl ?_
                refine r_ci (x := 4) dX12_readStep_205 rfl ?_
                refine r_p dX12_readStep_206 rfl rfl ?_
                refine r_ci (x := 0) dX12_readStep_207 rfl ?_
                refine r_cb (x := 9) dX12_readStep_208 rfl ?_
                obtain ⟨q54, kk⟩ := kk
                refine r_cv (d1 := 4) dX12_readStep_210 cvX12_190 rfl rfl rfl rfl (Nat.le_of_ble_eq_true rfl) (Nat.le_of_ble_eq_true rfl) (Nat.le_of_ble_eq_true rfl) (c_m_number ((58 + (6 * ((x_m_must T301 1).2.2.1 576 (17 : Int32).toNatClampNeg))) + 4) 0 9 q54) ?_
                refine r_eV (r' := (fun (T31 : St) => KJ8 T31) (x_m_number T307 ((58 + (6 * ((x_m_must T301 1).2.2.1 576 (17 : Int32).toNatClampNeg))) + 4) 0 9)) (by simp only [jn]; rw [if_pos c199_24]) ?_
                generalize x_m_number T307 ((58 + (6 * ((x_m_must T301 1).2.2.1 576 (17 : Int32).toNatClampNeg))) + 4) 0 9 = T31 at kk ⊢
                try dsimp only at kk
                show tR _ _ _ _ [some (.ref 571), some (.int p0), some (.int p1), some (.int ((18 + (5 * p1)) + 3)), some (.int (58 + (6 * ((x_m_must T301 1).2.2.1 576 (17 : Int32).toNatClampNeg))))] [] _ _ _
                exact r_eV (r' := KJ8 T31) rfl ((hJ8 T31 kk))
            refine r_eV (r' := jn (fun (KJ7 : St → St) => if p0 = 2 then (if (T6.1 571 16) = 0 then (fun (T33 : St) => KJ7 T33) (x_m_number T6 ((58 + (6 * ((x_m_must T301 1).2.2.1 576 (17 : Int32).toNatClampNeg))) + 5) (T6.2.2.1 576 ((58 + (6 * ((x_m_must T301 1).2.2.1 576 (17 : Int32).toNatClampNeg))) + 4 : Int32).toNatClampNeg) 9) else (fun (T32 : St) => KJ7 T32) (x_m_number T6 ((58 + (6 * ((x_m_must T301 1).2.2.1 576 (17 : Int32).toNatClampNeg))) + 5) 0 9)) else (KJ7 T6)) KJ7) (by rw [hKJ7]; simp only [jn]; rw [if_neg c124_19, if_neg c129_20]) ?_
            refine r_cne dX12_readStep_164 rfl (fun c164_25 => ?_) (fun c164_25 => ?_)
            · have kk := kk.2 c164_25
              show tR _ _ _ _ [some (.ref 571), some (.int p0), some (.int p1), some (.int ((18 + (5 * p1)) + 3)), some (.int (58 + (6 * ((x_m_must T301 1).2.2.1 576 (17 : Int32).toNatClampNeg))))] [] _ _ _
              exact r_eV (r' := KJ7 T6) (by simp only [jn]; rw [if_neg c164_25]) ((hJ7 T6 kk))
            · have kk := kk.1 c164_25
              refine r_p dX12_readStep_167 rfl rfl ?_
              refine r_p dX12_readStep_168 rfl rfl ?_
              refine r_ci (x := 5) dX12_readStep_170 rfl ?_
              refine r_p dX12_readStep_171 rfl rfl ?_
              refine r_p dX12_readStep_172 rfl rfl ?_
              refine r_get dX12_readStep_173 fkX12_159 rfl rfl ?_
              refine r_ine dX12_readStep_176 rfl (fun c176_26 => ?_) (fun c176_26 => ?_)
              · have kk := kk.2 c176_26
                refine r_ci (x := 0) dX12_readStep_191 rfl ?_
                refine r_cb (x := 9) dX12_readStep_192 rfl ?_
                obtain ⟨q55, kk⟩ := kk
                refine r_cv (d1 := 4) dX12_readStep_194 cvX12_190 rfl rfl rfl rfl (Nat.le_of_ble_eq_true rfl) (Nat.le_of_ble_eq_true rfl) (Nat.le_of_ble_eq_true rfl) (c_m_number ((58 + (6 * ((x_m_must T301 1).2.2.1 576 (17 : Int32).toNatClampNeg))) + 5) 0 9 q55) ?_
                refine r_eV (r' := (fun (T32 : St) => KJ7 T32) (x_m_number T6 ((58 + (6 * ((x_m_must T301 1).2.2.1 576 (17 : Int32).toNatClampNeg))) + 5) 0 9)) (by simp only [jn]; rw [if_pos c164_25, if_neg c176_26]) ?_
                generalize x_m_number T6 ((58 + (6 * ((x_m_must T301 1).2.2.1 576 (17 : Int32).toNatClampNeg))) + 5) 0 9 = T32 at kk ⊢
                try dsimp only at kk
                show tR _ _ _ _ [some (.ref 571), some (.int p0), some (.int p1), some (.int ((18 + (5 * p1)) + 3)), some (.int (58 + (6 * ((x_m_must T301 1).2.2.1 576 (17 : Int32).toNatClampNeg))))] [] _ _ _
                exact r_eV (r' := KJ7 T32) rfl ((hJ7 T32 kk))
              · have kk := kk.1 c176_26
                refine r_p dX12_readStep_179 rfl rfl ?_
                refine r_get dX12_readStep_180 fkX12_22 rfl rfl ?_
                refine r_p dX12_readStep_183 rfl rfl ?_
                refine r_ci (x := 4) dX12_readStep_185 rfl ?_
                refine r_p dX12_readStep_186 rfl rfl ?_
                obtain ⟨q56, kk⟩ := kk
                refine r_ia dX12_readStep_187 rfl q56 ?_
                refine r_go dX12_readStep_188 rfl ?_
                refine r_cb (x := 9) dX12_readStep_192 rfl ?_
                obtain ⟨q57, kk⟩ := kk
                refine r_cv (d1 := 4) dX12_readStep_194 cvX12_190 rfl rfl rfl rfl (Nat.le_of_ble_eq_true rfl) (Nat.le_of_ble_eq_true rfl) (Nat.le_of_ble_eq_true rfl) (c_m_number ((58 + (6 * ((x_m_must T301 1).2.2.1 576 (17 : Int32).toNatClampNeg))) + 5) (T6.2.2.1 576 ((58 + (6 * ((x_m_must T301 1).2.2.1 576 (17 : Int32).toNatClampNeg))) + 4 : Int32).toNatClampNeg) 9 q57) ?_
                refine r_eV (r' := (fun (T33 : St) => KJ7 T33) (x_m_number T6 ((58 + (6 * ((x_m_must T301 1).2.2.1 576 (17 : Int32).toNatClampNeg))) + 5) (T6.2.2.1 576 ((58 + (6 * ((x_m_must T301 1).2.2.1 576 (17 : Int32).toNatClampNeg))) + 4 : Int32).toNatClampNeg) 9)) (by simp only [jn]; rw [if_pos c164_25, if_pos c176_26]) ?_
                generalize x_m_number T6 ((58 + (6 * ((x_m_must T301 1).2.2.1 576 (17 : Int32).toNatClampNeg))) + 5) (T6.2.2.1 576 ((58 + (6 * ((x_m_must T301 1).2.2.1 576 (17 : Int32).toNatClampNeg))) + 4 : Int32).toNatClampNeg) 9 = T33 at kk ⊢
                try dsimp only at kk
                show tR _ _ _ _ [some (.ref 571), some (.int p0), some (.int p1), some (.int ((18 + (5 * p1)) + 3)), some (.int (58 + (6 * ((x_m_must T301 1).2.2.1 576 (17 : Int32).toNatClampNeg))))] [] _ _ _
                exact r_eV (r' := KJ7 T33) rfl ((hJ7 T33 kk))
          · have kk := kk.1 c129_20
            show tR _ _ _ _ [some (.ref 571), some (.int p0), some (.int p1), some (.int ((18 + (5 * p1)) + 3)), some (.int (58 + (6 * ((x_m_must T301 1).2.2.1 576 (17 : Int32).toNatClampNeg))))] [] _ _ _
            exact r_eV (r' := KJ3) (by simp only [jn]; rw [if_neg c124_19, if_pos c129_20]) ((hJ3  kk))
      refine r_eV (r' := jn (fun (KJ2 : Int32 → St) => if p0 = 3 then (KJ2 2) else (KJ2 0)) KJ2) (by rw [hKJ2]) ?_
      refine r_cne dX12_readStep_70 rfl (fun c70_27 => ?_) (fun c70_27 => ?_)
      · have kk := kk.2 c70_27
        refine r_ci (x := 0) dX12_readStep_77 rfl ?_
        show tR _ _ _ _ [some (.ref 571), some (.int p0), some (.int p1), some (.int ((18 + (5 * p1)) + 3)), some (.int (58 + (6 * ((x_m_must T301 1).2.2.1 576 (17 : Int32).toNatClampNeg))))] [.int 0, .int ((58 + (6 * ((x_m_must T301 1).2.2.1 576 (17 : Int32).toNatClampNeg))) + 3), .ref 576] _ _ _
        exact r_eV (r' := KJ2 0) (by simp only [jn]; rw [if_neg c70_27]) ((hJ2 0 kk))
      · have kk := kk.1 c70_27
        refine r_ci (x := 2) dX12_readStep_73 rfl ?_
        refine r_go dX12_readStep_74 rfl ?_
        show tR _ _ _ _ [some (.ref 571), some (.int p0), some (.int p1), some (.int ((18 + (5 * p1)) + 3)), some (.int (58 + (6 * ((x_m_must T301 1).2.2.1 576 (17 : Int32).toNatClampNeg))))] [.int 2, .int ((58 + (6 * ((x_m_must T301 1).2.2.1 576 (17 : Int32).toNatClampNeg))) + 3), .ref 576] _ _ _
        exact r_eV (r' := KJ2 2) (by simp only [jn]; rw [if_pos c70_27]) ((hJ2 2 kk))
    · exact r_eV (r' := (x_m_must T301 1)) (by first | rw [if_neg c33_2] | (dsimp only; rw [if_neg c33_2])) (r_rv dX12_readStep_36 rfl rfl rfl)
  refine r_eV (r' := jn (fun (KJ1 : St → St) => if (T.2.2.1 576 ((18 + (5 * p1)) + 3 : Int32).toNatClampNeg) = 3 then (KJ1 (x_m_bad T 3)) else (KJ1 T)) KJ1) (by rw [hKJ1]; unfold x_m_readStep; rfl) ?_
  refine r_cne dX12_readStep_16 rfl (fun c16_28 => ?_) (fun c16_28 => ?_)
  · have kk := kk.2 c16_28
    show tR _ _ _ _ [some (.ref 571), some (.int p0), some (.int p1), some (.int ((18 + (5 * p1)) + 3)), none] [] _ _ _
    exact r_eV (r' := KJ1 T) (by simp only [jn]; rw [if_neg c16_28]) ((hJ1 T kk))
  · have kk := kk.1 c16_28
    refine r_p dX12_readStep_19 rfl rfl ?_
    refine r_ci (x := 3) dX12_readStep_20 rfl ?_
    refine r_cv (d1 := 1) dX12_readStep_21 cvX12_165 rfl rfl rfl rfl (Nat.le_of_ble_eq_true rfl) (Nat.le_of_ble_eq_true rfl) (Nat.le_of_ble_eq_true rfl) (c_m_bad 3) ?_
    show tR _ _ _ _ [some (.ref 571), some (.int p0), some (.int p1), some (.int ((18 + (5 * p1)) + 3)), none] [] _ _ _
    exact r_eV (r' := KJ1 (x_m_bad T 3)) (by simp only [jn]; rw [if_pos c16_28]) ((hJ1 (x_m_bad T 3) kk))
