def x_m_bad (T : St) (p0 : Int32) : St := if (T.1 571 16) = 0 then (sF (sF T 571 16 p0) 571 17 ((sF T 571 16 p0).1 571 14)) else (T)
theorem c_m_bad {X : Nat × (Nat → Int32)} {T : St} (p0 : Int32) : tC X 1 mX12_bad [.ref (571 : Nat), .int p0] T none (x_m_bad T p0) := by
  refine tC_orV (L := [some (.ref (571 : Nat)), some (.int p0)]) (x_m_bad T p0) rfl ?_
  unfold x_m_bad
  refine r_p (pc2 := 1) dX12_bad_0 rfl rfl ?_
  refine r_get dX12_bad_1 fkX12_159 rfl rfl ?_
  refine r_ine dX12_bad_4 rfl (fun c4_1 => ?_) (fun c4_1 => ?_)
  · refine r_in (R := rV) c4_1 ?_
    exact r_qV dX12_bad_20 rfl rfl
  · refine r_ip (R := rV) c4_1 ?_
    refine r_p (pc2 := 8) dX12_bad_7 rfl rfl ?_
    refine r_p (pc2 := 9) dX12_bad_8 rfl rfl ?_
    refine r_put dX12_bad_9 fkX12_159 rfl rfl rfl (Nat.le_of_ble_eq_true rfl) rfl rfl ?_
    refine r_p (pc2 := 13) dX12_bad_12 rfl rfl ?_
    refine r_p (pc2 := 14) dX12_bad_13 rfl rfl ?_
    refine r_get dX12_bad_14 fkX12_144 rfl rfl ?_
    refine r_put dX12_bad_17 fkX12_162 rfl rfl rfl (Nat.le_of_ble_eq_true rfl) rfl rfl ?_
    exact r_qV dX12_bad_20 rfl rfl
def x_m_must (T : St) (p0 : Int32) : St := jn (fun (KJ1 : St → St) => if p0 = 0 then (KJ1 (x_m_bad T 1)) else (KJ1 T)) (fun (T301 : St) => if (T301.1 571 16) = 0 then (x_m_next T301) else (T301))
def ok_m_must (T : St) (p0 : Int32) : Prop := jn (fun (OJ1 : St → Prop) => ((p0 = 0 → OJ1 (x_m_bad T 1)) ∧ (¬ p0 = 0 → OJ1 T))) (fun (T301 : St) => ((T301.1 571 16) = 0 → (ok_m_next T301) ∧ True))
theorem c_m_must {X : Nat × (Nat → Int32)} {T : St} (p0 : Int32) (kk : ok_m_must T p0) : tC X 3 mX12_must [.ref (571 : Nat), .int p0] T none (x_m_must T p0) := by
  unfold ok_m_must at kk
  refine tC_orV (L := [some (.ref (571 : Nat)), some (.int p0)]) (x_m_must T p0) rfl ?_
  unfold x_m_must
  refine r_p (pc2 := 1) dX12_must_0 rfl rfl ?_
  refine r_jn (R := rV) (J := fun (KJ1 : St → St) (OJ1 : St → Prop) => ∀ (T301 : St), OJ1 T301 → tR X 2 mX12_must 9 [some (.ref (571 : Nat)), some (.int p0)] [] T301 (rV (KJ1 T301)).1 (rV (KJ1 T301)).2) kk (fun T301 kk => ?_) (fun KJ1 OJ1 hJ1 kk => ?_)
  · skip
    refine r_p (pc2 := 10) dX12_must_9 rfl rfl ?_
    refine r_get dX12_must_10 fkX12_159 rfl rfl ?_
    refine r_ine dX12_must_13 rfl (fun c13_2 => ?_) (fun c13_2 => ?_)
    · refine r_in (R := rV) c13_2 ?_
      exact r_qV dX12_must_20 rfl rfl
    · refine r_ip (R := rV) c13_2 ?_
      have kk := kk c13_2
      refine r_p (pc2 := 17) dX12_must_16 rfl rfl ?_
      obtain ⟨q1, kk⟩ := kk
      refine r_cv (d1 := 2) dX12_must_17 cvX12_169 rfl rfl rfl rfl (Nat.le_of_ble_eq_true rfl) (Nat.le_of_ble_eq_true rfl) (Nat.le_of_ble_eq_true rfl) (c_m_next  q1) ?_
      exact r_qV dX12_must_20 rfl rfl
  refine r_ine dX12_must_1 rfl (fun c1_3 => ?_) (fun c1_3 => ?_)
  · refine r_in (R := rV) c1_3 ?_
    have kk := kk.2 c1_3
    show tR _ _ _ _ [some (.ref (571 : Nat)), some (.int p0)] [] _ _ _
    exact (hJ1 T kk)
  · refine r_ip (R := rV) c1_3 ?_
    have kk := kk.1 c1_3
    refine r_p (pc2 := 5) dX12_must_4 rfl rfl ?_
    refine r_ci (x := 1) dX12_must_5 rfl ?_
    refine r_cv (d1 := 1) dX12_must_6 cvX12_165 rfl rfl rfl rfl (Nat.le_of_ble_eq_true rfl) (Nat.le_of_ble_eq_true rfl) (Nat.le_of_ble_eq_true rfl) (c_m_bad 1) ?_
    show tR _ _ _ _ [some (.ref (571 : Nat)), some (.int p0)] [] _ _ _
    exact (hJ1 (x_m_bad T 1) kk)
def x_m_word_7 (T : St)  (K : Int64 → Int32 → Int64) : Nat → Int64 → Int32 → Int64
  | 0, _, _ => 0
  | f + 1, v1, v3 => if (T.1 571 15) ≤ v3 then (K v1 v3) else (if (T.1 571 13) = 2 then (if 8 ≤ ((T.1 571 15) - (T.1 571 14)) then (K v1 v3) else (jn (fun (k1 : Int64) => x_m_word_7 T K f k1 (v3 + 1)) ((v1 <<< ((8 : Int32).toInt64 &&& 63)) ||| ((T.2.2.1 577 (v3 : Int32).toNatClampNeg : Int32).toInt64)))) else (K v1 v3))
def ok_m_word_7 (T : St)  (Kk : Int64 → Int32 → Prop) : Nat → Int64 → Int32 → Prop
  | 0, _, _ => False
  | f + 1, v1, v3 => (((T.1 571 15) ≤ v3 → Kk v1 v3) ∧ (¬ (T.1 571 15) ≤ v3 → (((T.1 571 13) = 2 → ((8 ≤ ((T.1 571 15) - (T.1 571 14)) → Kk v1 v3) ∧ (¬ 8 ≤ ((T.1 571 15) - (T.1 571 14)) → (vp_in v3 600) ∧ jn (fun (k1 : Int64) => ok_m_word_7 T Kk f k1 (v3 + 1)) ((v1 <<< ((8 : Int32).toInt64 &&& 63)) ||| ((T.2.2.1 577 (v3 : Int32).toNatClampNeg : Int32).toInt64))))) ∧ (¬ (T.1 571 13) = 2 → Kk v1 v3))))
theorem c_m_word_7 {X : Nat × (Nat → Int32)} (T : St)  {K : Int64 → Int32 → Int64} {Kk : Int64 → Int32 → Prop} (hk : ∀ (v1 : Int64) (v3 : Int32), Kk v1 v3 → tR X 0 mX12_word 56 [some (.ref (571 : Nat)), some (.long v1), none, some (.int v3)] [] T ((rJp T) (K v1 v3)).1 (((rJp T) (K v1 v3)).2)) : ∀ (f : Nat) (v1 : Int64) (v3 : Int32), ok_m_word_7 T  Kk f v1 v3 → tR X 0 mX12_word 7 [some (.ref (571 : Nat)), some (.long v1), none, some (.int v3)] [] T ((rJp T) (x_m_word_7 T K f v1 v3)).1 (((rJp T) (x_m_word_7 T K f v1 v3)).2) := by
  intro f
  induction f with
  | zero => intro v1 v3 kk; exact kk.elim
  | succ f ih =>
    intro v1 v3 kk
    rw [ok_m_word_7] at kk
    rw [x_m_word_7]
    refine r_p (pc2 := 8) dX12_word_7 rfl rfl ?_
    refine r_p (pc2 := 9) dX12_word_8 rfl rfl ?_
    refine r_get dX12_word_9 fkX12_156 rfl rfl ?_
    refine r_cge dX12_word_12 rfl (fun c12_1 => ?_) (fun c12_1 => ?_)
    · refine r_ip (R := (rJp T)) c12_1 ?_
      have kk := kk.1 c12_1
      show tR _ _ _ _ [some (.ref (571 : Nat)), some (.long v1), none, some (.int v3)] _ _ _ _
      exact (hk v1 v3  kk)
    · refine r_in (R := (rJp T)) c12_1 ?_
      have kk := kk.2 c12_1
      refine r_p (pc2 := 16) dX12_word_15 rfl rfl ?_
      refine r_get dX12_word_16 fkX12_147 rfl rfl ?_
      refine r_ci (x := 2) dX12_word_19 rfl ?_
      refine r_cne dX12_word_20 rfl (fun c20_2 => ?_) (fun c20_2 => ?_)
      · refine r_in (R := (rJp T)) c20_2 ?_
        have kk := kk.2 c20_2
        show tR _ _ _ _ [some (.ref (571 : Nat)), some (.long v1), none, some (.int v3)] _ _ _ _
        exact (hk v1 v3  kk)
      · refine r_ip (R := (rJp T)) c20_2 ?_
        have kk := kk.1 c20_2
        refine r_p (pc2 := 24) dX12_word_23 rfl rfl ?_
        refine r_get dX12_word_24 fkX12_156 rfl rfl ?_
        refine r_p (pc2 := 28) dX12_word_27 rfl rfl ?_
        refine r_get dX12_word_28 fkX12_144 rfl rfl ?_
        refine r_p (pc2 := 32) dX12_word_31 rfl rfl ?_
        refine r_cb (x := 8) dX12_word_32 rfl ?_
        refine r_cge dX12_word_34 rfl (fun c34_3 => ?_) (fun c34_3 => ?_)
        · refine r_ip (R := (rJp T)) c34_3 ?_
          have kk := kk.1 c34_3
          show tR _ _ _ _ [some (.ref (571 : Nat)), some (.long v1), none, some (.int v3)] _ _ _ _
          exact (hk v1 v3  kk)
        · refine r_in (R := (rJp T)) c34_3 ?_
          have kk := kk.2 c34_3
          refine r_p (pc2 := 38) dX12_word_37 rfl rfl ?_
          refine r_cb (x := 8) dX12_word_38 rfl ?_
          refine r_p (pc2 := 41) dX12_word_40 rfl rfl ?_
          refine r_p (pc2 := 42) dX12_word_41 rfl rfl ?_
          refine r_get dX12_word_42 fkX12_25 rfl rfl ?_
          refine r_p (pc2 := 46) dX12_word_45 rfl rfl ?_
          obtain ⟨q1, kk⟩ := kk
          refine r_ia dX12_word_46 rfl q1 ?_
          refine r_p (pc2 := 48) dX12_word_47 rfl rfl ?_
          refine r_p (pc2 := 49) dX12_word_48 rfl rfl ?_
          refine r_nJ (R := (rJp T)) rfl kk (fun k1 kk => ?_)
          refine r_p (pc2 := 50) (L2 := [some (.ref (571 : Nat)), some (.long k1), none, some (.int v3)]) dX12_word_49 rfl rfl ?_
          refine r_inc (L2 := [some (.ref (571 : Nat)), some (.long k1), none, some (.int (v3 + 1))]) (y := 1) dX12_word_50 rfl rfl rfl ?_
          refine r_go dX12_word_53 rfl ?_
          show tR _ _ _ _ [some (.ref (571 : Nat)), some (.long k1), none, some (.int (v3 + 1))] _ _ _ _
          exact (ih k1 (v3 + 1)  kk)
def x_m_word (T : St)  : Int64 := x_m_word_7 T  (fun (w1_1 : Int64) (w1_3 : Int32) => if (T.1 571 16) = 0 then (w1_1) else (0)) 1000 0 (T.1 571 14)
def ok_m_word (T : St)  : Prop := ok_m_word_7 T  (fun (w1_1 : Int64) (w1_3 : Int32) => True) 1000 0 (T.1 571 14)
theorem c_m_word {X : Nat × (Nat → Int32)} {T : St}  (kk : ok_m_word T ) : tC X 1 mX12_word [.ref (571 : Nat)] T (some (.long (x_m_word T))) T := by
  unfold ok_m_word at kk
  refine tC_orJp (L := [some (.ref (571 : Nat)), none, none, none]) (x_m_word T ) rfl ?_
  unfold x_m_word
  refine r_cl (x := 0) dX12_word_0 rfl ?_
  refine r_p (pc2 := 2) (L2 := [some (.ref (571 : Nat)), some (.long 0), none, none]) dX12_word_1 rfl rfl ?_
  refine r_p (pc2 := 3) dX12_word_2 rfl rfl ?_
  refine r_get dX12_word_3 fkX12_144 rfl rfl ?_
  refine r_p (pc2 := 7) (L2 := [some (.ref (571 : Nat)), some (.long 0), none, some (.int (T.1 571 14))]) dX12_word_6 rfl rfl ?_
  show tR _ _ _ _ [some (.ref (571 : Nat)), some (.long 0), none, some (.int (T.1 571 14))] _ _ _ _
  refine (c_m_word_7 T  (fun w1_1 w1_3 kk => ?_) 1000 0 (T.1 571 14)  kk)
  · skip
    refine r_p (pc2 := 57) dX12_word_56 rfl rfl ?_
    refine r_get dX12_word_57 fkX12_159 rfl rfl ?_
    refine r_ine dX12_word_60 rfl (fun c60_4 => ?_) (fun c60_4 => ?_)
    · refine r_in (R := (rJp T)) c60_4 ?_
      refine r_cl (x := 0) dX12_word_67 rfl ?_
      exact r_qJp dX12_word_68 rfl rfl
    · refine r_ip (R := (rJp T)) c60_4 ?_
      refine r_p (pc2 := 64) dX12_word_63 rfl rfl ?_
      refine r_go dX12_word_64 rfl ?_
      exact r_qJp dX12_word_68 rfl rfl
def x_m_number_17 (l1 : Int32) (l2 : Int32) (l3 : Int32) (K : Int32 → Int32 → St → St) : Nat → Int32 → Int32 → St → St
  | 0, _, _, T => T
  | f + 1, v4, v5, T => if (T.1 571 15) ≤ v5 then (K v4 v5 T) else (if (T.1 571 13) = 3 then (jn (fun (i1 : Int32) => x_m_number_17 l1 l2 l3 K f i1 (v5 + 1) T) (((10 * v4) + (T.2.2.1 577 (v5 : Int32).toNatClampNeg)) - 48)) else (K v4 v5 T))
def ok_m_number_17 (l1 : Int32) (l2 : Int32) (l3 : Int32) (Kk : Int32 → Int32 → St → Prop) : Nat → Int32 → Int32 → St → Prop
  | 0, _, _, _ => False
  | f + 1, v4, v5, T => (((T.1 571 15) ≤ v5 → Kk v4 v5 T) ∧ (¬ (T.1 571 15) ≤ v5 → (((T.1 571 13) = 3 → (vp_in v5 600) ∧ jn (fun (i1 : Int32) => ok_m_number_17 l1 l2 l3 Kk f i1 (v5 + 1) T) (((10 * v4) + (T.2.2.1 577 (v5 : Int32).toNatClampNeg)) - 48)) ∧ (¬ (T.1 571 13) = 3 → Kk v4 v5 T))))
theorem c_m_number_17 {X : Nat × (Nat → Int32)} (l1 : Int32) (l2 : Int32) (l3 : Int32) {K : Int32 → Int32 → St → St} {Kk : Int32 → Int32 → St → Prop} (hk : ∀ (v4 : Int32) (v5 : Int32) (T : St), Kk v4 v5 T → tR X 3 mX12_number 58 [some (.ref (571 : Nat)), some (.int l1), some (.int l2), some (.int l3), some (.int v4), some (.int v5)] [] T (rV (K v4 v5 T)).1 ((rV (K v4 v5 T)).2)) : ∀ (f : Nat) (v4 : Int32) (v5 : Int32) (T : St), ok_m_number_17 l1 l2 l3 Kk f v4 v5 T → tR X 3 mX12_number 17 [some (.ref (571 : Nat)), some (.int l1), some (.int l2), some (.int l3), some (.int v4), some (.int v5)] [] T (rV (x_m_number_17 l1 l2 l3 K f v4 v5 T)).1 ((rV (x_m_number_17 l1 l2 l3 K f v4 v5 T)).2) := by
  intro f
  induction f with
  | zero => intro v4 v5 T kk; exact kk.elim
  | succ f ih =>
    intro v4 v5 T kk
    rw [ok_m_number_17] at kk
    rw [x_m_number_17]
    refine r_p (pc2 := 19) dX12_number_17 rfl rfl ?_
    refine r_p (pc2 := 20) dX12_number_19 rfl rfl ?_
    refine r_get dX12_number_20 fkX12_156 rfl rfl ?_
    refine r_cge dX12_number_23 rfl (fun c23_2 => ?_) (fun c23_2 => ?_)
    · refine r_ip (R := rV) c23_2 ?_
      have kk := kk.1 c23_2
      show tR _ _ _ _ [some (.ref (571 : Nat)), some (.int l1), some (.int l2), some (.int l3), some (.int v4), some (.int v5)] _ _ _ _
      exact (hk v4 v5 T kk)
    · refine r_in (R := rV) c23_2 ?_
      have kk := kk.2 c23_2
      refine r_p (pc2 := 27) dX12_number_26 rfl rfl ?_
      refine r_get dX12_number_27 fkX12_147 rfl rfl ?_
      refine r_ci (x := 3) dX12_number_30 rfl ?_
      refine r_cne dX12_number_31 rfl (fun c31_3 => ?_) (fun c31_3 => ?_)
      · refine r_in (R := rV) c31_3 ?_
        have kk := kk.2 c31_3
        show tR _ _ _ _ [some (.ref (571 : Nat)), some (.int l1), some (.int l2), some (.int l3), some (.int v4), some (.int v5)] _ _ _ _
        exact (hk v4 v5 T kk)
      · refine r_ip (R := rV) c31_3 ?_
        have kk := kk.1 c31_3
        refine r_cb (x := 10) dX12_number_34 rfl ?_
        refine r_p (pc2 := 38) dX12_number_36 rfl rfl ?_
        refine r_p (pc2 := 39) dX12_number_38 rfl rfl ?_
        refine r_p (pc2 := 40) dX12_number_39 rfl rfl ?_
        refine r_get dX12_number_40 fkX12_25 rfl rfl ?_
        refine r_p (pc2 := 45) dX12_number_43 rfl rfl ?_
        obtain ⟨q1, kk⟩ := kk
        refine r_ia dX12_number_45 rfl q1 ?_
        refine r_p (pc2 := 47) dX12_number_46 rfl rfl ?_
        refine r_cb (x := 48) dX12_number_47 rfl ?_
        refine r_p (pc2 := 50) dX12_number_49 rfl rfl ?_
        refine r_nI (R := rV) rfl kk (fun i1 kk => ?_)
        refine r_p (pc2 := 52) (L2 := [some (.ref (571 : Nat)), some (.int l1), some (.int l2), some (.int l3), some (.int i1), some (.int v5)]) dX12_number_50 rfl rfl ?_
        refine r_inc (L2 := [some (.ref (571 : Nat)), some (.int l1), some (.int l2), some (.int l3), some (.int i1), some (.int (v5 + 1))]) (y := 1) dX12_number_52 rfl rfl rfl ?_
        refine r_go dX12_number_55 rfl ?_
        show tR _ _ _ _ [some (.ref (571 : Nat)), some (.int l1), some (.int l2), some (.int l3), some (.int i1), some (.int (v5 + 1))] _ _ _ _
        exact (ih i1 (v5 + 1) T kk)
def x_m_number (T : St) (p0 : Int32) (p1 : Int32) (p2 : Int32) : St := if (T.1 571 16) ≤ 0 then (x_m_number_17 p0 p1 p2 (fun (w1_4 : Int32) (w1_5 : Int32) (T201 : St) => jn (fun (KJ1 : St → St) => if (T201.1 571 13) = 3 then (if (x_m_in T201 ((w1_4 : Int32).toInt64) ((p1 : Int32).toInt64) ((p2 : Int32).toInt64)) = 0 then (KJ1 (x_m_bad T201 2)) else (KJ1 T201)) else (KJ1 T201)) (fun (T301 : St) => jn (fun (KJ2 : Int32 → St) => if (T301.1 571 13) = 3 then (KJ2 1) else (KJ2 0)) (fun (j2_s1 : Int32) => if ((x_m_must T301 j2_s1).1 571 16) = 0 then (sA (x_m_must T301 j2_s1) 576 (p0 : Int32).toNatClampNeg w1_4) else (x_m_must T301 j2_s1)))) 1000 0 (T.1 571 14) T) else (T)
def ok_m_number (T : St) (p0 : Int32) (p1 : Int32) (p2 : Int32) : Prop := ((T.1 571 16) ≤ 0 → ok_m_number_17 p0 p1 p2 (fun (w1_4 : Int32) (w1_5 : Int32) (T201 : St) => jn (fun (OJ1 : St → Prop) => (((T201.1 571 13) = 3 → (((x_m_in T201 ((w1_4 : Int32).toInt64) ((p1 : Int32).toInt64) ((p2 : Int32).toInt64)) = 0 → OJ1 (x_m_bad T201 2)) ∧ (¬ (x_m_in T201 ((w1_4 : Int32).toInt64) ((p1 : Int32).toInt64) ((p2 : Int32).toInt64)) = 0 → OJ1 T201))) ∧ (¬ (T201.1 571 13) = 3 → OJ1 T201))) (fun (T301 : St) => jn (fun (OJ2 : Int32 → Prop) => (((T301.1 571 13) = 3 → OJ2 1) ∧ (¬ (T301.1 571 13) = 3 → OJ2 0))) (fun (j2_s1 : Int32) => (ok_m_must T301 j2_s1) ∧ (((x_m_must T301 j2_s1).1 571 16) = 0 → (vp_in p0 204) ∧ True)))) 1000 0 (T.1 571 14) T)
theorem c_m_number {X : Nat × (Nat → Int32)} {T : St} (p0 : Int32) (p1 : Int32) (p2 : Int32) (kk : ok_m_number T p0 p1 p2) : tC X 4 mX12_number [.ref (571 : Nat), .int p0, .int p1, .int p2] T none (x_m_number T p0 p1 p2) := by
  unfold ok_m_number at kk
  refine tC_orV (L := [some (.ref (571 : Nat)), some (.int p0), some (.int p1), some (.int p2), none, none]) (x_m_number T p0 p1 p2) rfl ?_
  unfold x_m_number
  refine r_p (pc2 := 1) dX12_number_0 rfl rfl ?_
  refine r_get dX12_number_1 fkX12_159 rfl rfl ?_
  refine r_ile dX12_number_4 rfl (fun c4_1 => ?_) (fun c4_1 => ?_)
  · refine r_ip (R := rV) c4_1 ?_
    have kk := kk c4_1
    refine r_ci (x := 0) dX12_number_8 rfl ?_
    refine r_p (pc2 := 11) (L2 := [some (.ref (571 : Nat)), some (.int p0), some (.int p1), some (.int p2), some (.int 0), none]) dX12_number_9 rfl rfl ?_
    refine r_p (pc2 := 12) dX12_number_11 rfl rfl ?_
    refine r_get dX12_number_12 fkX12_144 rfl rfl ?_
    refine r_p (pc2 := 17) (L2 := [some (.ref (571 : Nat)), some (.int p0), some (.int p1), some (.int p2), some (.int 0), some (.int (T.1 571 14))]) dX12_number_15 rfl rfl ?_
    show tR _ _ _ _ [some (.ref (571 : Nat)), some (.int p0), some (.int p1), some (.int p2), some (.int 0), some (.int (T.1 571 14))] _ _ _ _
    refine (c_m_number_17 p0 p1 p2 (fun w1_4 w1_5 T201 kk => ?_) 1000 0 (T.1 571 14) T kk)
    · skip
      refine r_p (pc2 := 59) dX12_number_58 rfl rfl ?_
      refine r_get dX12_number_59 fkX12_147 rfl rfl ?_
      refine r_ci (x := 3) dX12_number_62 rfl ?_
      refine r_jn (R := rV) (J := fun (KJ1 : St → St) (OJ1 : St → Prop) => ∀ (T301 : St), OJ1 T301 → tR X 3 mX12_number 84 [some (.ref (571 : Nat)), some (.int p0), some (.int p1), some (.int p2), some (.int w1_4), some (.int w1_5)] [] T301 (rV (KJ1 T301)).1 (rV (KJ1 T301)).2) kk (fun T301 kk => ?_) (fun KJ1 OJ1 hJ1 kk => ?_)
      · skip
        refine r_p (pc2 := 85) dX12_number_84 rfl rfl ?_
        refine r_p (pc2 := 86) dX12_number_85 rfl rfl ?_
        refine r_get dX12_number_86 fkX12_147 rfl rfl ?_
        refine r_ci (x := 3) dX12_number_89 rfl ?_
        refine r_jn (R := rV) (J := fun (KJ2 : Int32 → St) (OJ2 : Int32 → Prop) => ∀ (j2_s1 : Int32), OJ2 j2_s1 → tR X 3 mX12_number 98 [some (.ref (571 : Nat)), some (.int p0), some (.int p1), some (.int p2), some (.int w1_4), some (.int w1_5)] [.int j2_s1, .ref (571 : Nat)] T301 (rV (KJ2 j2_s1)).1 (rV (KJ2 j2_s1)).2) kk (fun j2_s1 kk => ?_) (fun KJ2 OJ2 hJ2 kk => ?_)
        · skip
          obtain ⟨q2, kk⟩ := kk
          refine r_cv (d1 := 3) dX12_number_98 cvX12_172 rfl rfl rfl rfl (Nat.le_of_ble_eq_true rfl) (Nat.le_of_ble_eq_true rfl) (Nat.le_of_ble_eq_true rfl) (c_m_must j2_s1 q2) ?_
          refine r_p (pc2 := 102) dX12_number_101 rfl rfl ?_
          refine r_get dX12_number_102 fkX12_159 rfl rfl ?_
          refine r_ine dX12_number_105 rfl (fun c105_7 => ?_) (fun c105_7 => ?_)
          · refine r_in (R := rV) c105_7 ?_
            exact r_qV dX12_number_116 rfl rfl
          · refine r_ip (R := rV) c105_7 ?_
            have kk := kk c105_7
            refine r_p (pc2 := 109) dX12_number_108 rfl rfl ?_
            refine r_get dX12_number_109 fkX12_22 rfl rfl ?_
            refine r_p (pc2 := 113) dX12_number_112 rfl rfl ?_
            refine r_p (pc2 := 115) dX12_number_113 rfl rfl ?_
            obtain ⟨q3, kk⟩ := kk
            refine r_ias dX12_number_115 rfl q3 ?_
            exact r_qV dX12_number_116 rfl rfl
        refine r_cne dX12_number_90 rfl (fun c90_8 => ?_) (fun c90_8 => ?_)
        · refine r_in (R := rV) c90_8 ?_
          have kk := kk.2 c90_8
          refine r_ci (x := 0) dX12_number_97 rfl ?_
          show tR _ _ _ _ [some (.ref (571 : Nat)), some (.int p0), some (.int p1), some (.int p2), some (.int w1_4), some (.int w1_5)] [.int 0, .ref (571 : Nat)] _ _ _
          exact (hJ2 0 kk)
        · refine r_ip (R := rV) c90_8 ?_
          have kk := kk.1 c90_8
          refine r_ci (x := 1) dX12_number_93 rfl ?_
          refine r_go dX12_number_94 rfl ?_
          show tR _ _ _ _ [some (.ref (571 : Nat)), some (.int p0), some (.int p1), some (.int p2), some (.int w1_4), some (.int w1_5)] [.int 1, .ref (571 : Nat)] _ _ _
          exact (hJ2 1 kk)
      refine r_cne dX12_number_63 rfl (fun c63_9 => ?_) (fun c63_9 => ?_)
      · refine r_in (R := rV) c63_9 ?_
        have kk := kk.2 c63_9
        show tR _ _ _ _ [some (.ref (571 : Nat)), some (.int p0), some (.int p1), some (.int p2), some (.int w1_4), some (.int w1_5)] [] _ _ _
        exact (hJ1 T201 kk)
      · refine r_ip (R := rV) c63_9 ?_
        have kk := kk.1 c63_9
        refine r_p (pc2 := 68) dX12_number_66 rfl rfl ?_
        refine r_p (pc2 := 69) dX12_number_68 rfl rfl ?_
        refine r_p (pc2 := 70) dX12_number_69 rfl rfl ?_
        refine r_p (pc2 := 71) dX12_number_70 rfl rfl ?_
        refine r_p (pc2 := 72) dX12_number_71 rfl rfl ?_
        refine r_p (pc2 := 73) dX12_number_72 rfl rfl ?_
        refine r_cs (d1 := 1) dX12_number_73 csX12_111 rfl rfl (Nat.le_of_ble_eq_true rfl) (Nat.le_of_ble_eq_true rfl) (Nat.le_of_ble_eq_true rfl) (c_m_in ((w1_4 : Int32).toInt64) ((p1 : Int32).toInt64) ((p2 : Int32).toInt64)) ?_
        refine r_ine dX12_number_76 rfl (fun c76_10 => ?_) (fun c76_10 => ?_)
        · refine r_in (R := rV) c76_10 ?_
          have kk := kk.2 c76_10
          show tR _ _ _ _ [some (.ref (571 : Nat)), some (.int p0), some (.int p1), some (.int p2), some (.int w1_4), some (.int w1_5)] [] _ _ _
          exact (hJ1 T201 kk)
        · refine r_ip (R := rV) c76_10 ?_
          have kk := kk.1 c76_10
          refine r_p (pc2 := 80) dX12_number_79 rfl rfl ?_
          refine r_ci (x := 2) dX12_number_80 rfl ?_
          refine r_cv (d1 := 1) dX12_number_81 cvX12_165 rfl rfl rfl rfl (Nat.le_of_ble_eq_true rfl) (Nat.le_of_ble_eq_true rfl) (Nat.le_of_ble_eq_true rfl) (c_m_bad 2) ?_
          show tR _ _ _ _ [some (.ref (571 : Nat)), some (.int p0), some (.int p1), some (.int p2), some (.int w1_4), some (.int w1_5)] [] _ _ _
          exact (hJ1 (x_m_bad T201 2) kk)
  · refine r_in (R := rV) c4_1 ?_
    exact r_qV dX12_number_7 rfl rfl
def x_m_mustEnd (T : St)  : St := if (T.1 571 16) = 0 then (if (T.1 571 13) = 4 then (x_m_must T 1) else (x_m_must T 0)) else (T)
def ok_m_mustEnd (T : St)  : Prop := ((T.1 571 16) = 0 → (((T.1 571 13) = 4 → (ok_m_must T 1) ∧ True) ∧ (¬ (T.1 571 13) = 4 → (ok_m_must T 0) ∧ True)))
theorem c_m_mustEnd {X : Nat × (Nat → Int32)} {T : St}  (kk : ok_m_mustEnd T ) : tC X 4 mX12_mustEnd [.ref (571 : Nat)] T none (x_m_mustEnd T) := by
  unfold ok_m_mustEnd at kk
  refine tC_orV (L := [some (.ref (571 : Nat))]) (x_m_mustEnd T ) rfl ?_
  unfold x_m_mustEnd
  refine r_p (pc2 := 1) dX12_mustEnd_0 rfl rfl ?_
  refine r_get dX12_mustEnd_1 fkX12_159 rfl rfl ?_
  refine r_ine dX12_mustEnd_4 rfl (fun c4_1 => ?_) (fun c4_1 => ?_)
  · refine r_in (R := rV) c4_1 ?_
    exact r_qV dX12_mustEnd_24 rfl rfl
  · refine r_ip (R := rV) c4_1 ?_
    have kk := kk c4_1
    refine r_p (pc2 := 8) dX12_mustEnd_7 rfl rfl ?_
    refine r_p (pc2 := 9) dX12_mustEnd_8 rfl rfl ?_
    refine r_get dX12_mustEnd_9 fkX12_147 rfl rfl ?_
    refine r_ci (x := 4) dX12_mustEnd_12 rfl ?_
    refine r_cne dX12_mustEnd_13 rfl (fun c13_2 => ?_) (fun c13_2 => ?_)
    · refine r_in (R := rV) c13_2 ?_
      have kk := kk.2 c13_2
      refine r_ci (x := 0) dX12_mustEnd_20 rfl ?_
      obtain ⟨q1, kk⟩ := kk
      refine r_cv (d1 := 3) dX12_mustEnd_21 cvX12_172 rfl rfl rfl rfl (Nat.le_of_ble_eq_true rfl) (Nat.le_of_ble_eq_true rfl) (Nat.le_of_ble_eq_true rfl) (c_m_must 0 q1) ?_
      exact r_qV dX12_mustEnd_24 rfl rfl
    · refine r_ip (R := rV) c13_2 ?_
      have kk := kk.1 c13_2
      refine r_ci (x := 1) dX12_mustEnd_16 rfl ?_
      refine r_go dX12_mustEnd_17 rfl ?_
      obtain ⟨q2, kk⟩ := kk
      refine r_cv (d1 := 3) dX12_mustEnd_21 cvX12_172 rfl rfl rfl rfl (Nat.le_of_ble_eq_true rfl) (Nat.le_of_ble_eq_true rfl) (Nat.le_of_ble_eq_true rfl) (c_m_must 1 q2) ?_
      exact r_qV dX12_mustEnd_24 rfl rfl
def x_m_kindOfWord (T : St)  : Int32 := if (lg_cmp (x_m_word T) 1919512167) = 0 then (1) else (if (lg_cmp (x_m_word T) 1870030190) = 0 then (2) else (if (lg_cmp (x_m_word T) 1751215716) = 0 then (3) else (if (lg_cmp (x_m_word T) 1919251316) = 0 then (4) else (if (lg_cmp (x_m_word T) 1801807216) = 0 then (5) else (-1000000)))))
def ok_m_kindOfWord (T : St)  : Prop := (ok_m_word T) ∧ True
theorem c_m_kindOfWord {X : Nat × (Nat → Int32)} {T : St}  (kk : ok_m_kindOfWord T ) : tC X 2 mX12_kindOfWord [.ref (571 : Nat)] T (some (.int (x_m_kindOfWord T))) T := by
  unfold ok_m_kindOfWord at kk
  refine tC_orIp (L := [some (.ref (571 : Nat)), none, none]) (x_m_kindOfWord T ) rfl ?_
  unfold x_m_kindOfWord
  refine r_p (pc2 := 1) dX12_kindOfWord_0 rfl rfl ?_
  obtain ⟨q1, kk⟩ := kk
  refine r_cv (d1 := 1) dX12_kindOfWord_1 cvX12_176 rfl rfl rfl rfl (Nat.le_of_ble_eq_true rfl) (Nat.le_of_ble_eq_true rfl) (Nat.le_of_ble_eq_true rfl) (c_m_word  q1) ?_
  refine r_p (pc2 := 5) (L2 := [some (.ref (571 : Nat)), some (.long (x_m_word T)), none]) dX12_kindOfWord_4 rfl rfl ?_
  refine r_p (pc2 := 6) dX12_kindOfWord_5 rfl rfl ?_
  refine r_kl dX12_kindOfWord_6 klX12_180 ?_
  refine r_p (pc2 := 10) dX12_kindOfWord_9 rfl rfl ?_
  refine r_ine dX12_kindOfWord_10 rfl (fun c10_1 => ?_) (fun c10_1 => ?_)
  · refine r_in (R := (rIp T)) c10_1 ?_
    refine r_p (pc2 := 18) dX12_kindOfWord_17 rfl rfl ?_
    refine r_kl dX12_kindOfWord_18 klX12_182 ?_
    refine r_p (pc2 := 22) dX12_kindOfWord_21 rfl rfl ?_
    refine r_ine dX12_kindOfWord_22 rfl (fun c22_2 => ?_) (fun c22_2 => ?_)
    · refine r_in (R := (rIp T)) c22_2 ?_
      refine r_p (pc2 := 30) dX12_kindOfWord_29 rfl rfl ?_
      refine r_kl dX12_kindOfWord_30 klX12_184 ?_
      refine r_p (pc2 := 34) dX12_kindOfWord_33 rfl rfl ?_
      refine r_ine dX12_kindOfWord_34 rfl (fun c34_3 => ?_) (fun c34_3 => ?_)
      · refine r_in (R := (rIp T)) c34_3 ?_
        refine r_p (pc2 := 42) dX12_kindOfWord_41 rfl rfl ?_
        refine r_kl dX12_kindOfWord_42 klX12_186 ?_
        refine r_p (pc2 := 46) dX12_kindOfWord_45 rfl rfl ?_
        refine r_ine dX12_kindOfWord_46 rfl (fun c46_4 => ?_) (fun c46_4 => ?_)
        · refine r_in (R := (rIp T)) c46_4 ?_
          refine r_p (pc2 := 54) dX12_kindOfWord_53 rfl rfl ?_
          refine r_kl dX12_kindOfWord_54 klX12_188 ?_
          refine r_p (pc2 := 58) dX12_kindOfWord_57 rfl rfl ?_
          refine r_ine dX12_kindOfWord_58 rfl (fun c58_5 => ?_) (fun c58_5 => ?_)
          · refine r_in (R := (rIp T)) c58_5 ?_
            refine r_k dX12_kindOfWord_65 kkX12_137 ?_
            exact r_qIp dX12_kindOfWord_67 rfl rfl rfl
          · refine r_ip (R := (rIp T)) c58_5 ?_
            refine r_ci (x := 5) dX12_kindOfWord_61 rfl ?_
            refine r_go dX12_kindOfWord_62 rfl ?_
            exact r_qIp dX12_kindOfWord_67 rfl rfl rfl
        · refine r_ip (R := (rIp T)) c46_4 ?_
          refine r_ci (x := 4) dX12_kindOfWord_49 rfl ?_
          refine r_go dX12_kindOfWord_50 rfl ?_
          exact r_qIp dX12_kindOfWord_67 rfl rfl rfl
      · refine r_ip (R := (rIp T)) c34_3 ?_
        refine r_ci (x := 3) dX12_kindOfWord_37 rfl ?_
        refine r_go dX12_kindOfWord_38 rfl ?_
        exact r_qIp dX12_kindOfWord_67 rfl rfl rfl
    · refine r_ip (R := (rIp T)) c22_2 ?_
      refine r_ci (x := 2) dX12_kindOfWord_25 rfl ?_
      refine r_go dX12_kindOfWord_26 rfl ?_
      exact r_qIp dX12_kindOfWord_67 rfl rfl rfl
  · refine r_ip (R := (rIp T)) c10_1 ?_
    refine r_ci (x := 1) dX12_kindOfWord_13 rfl ?_
    refine r_go dX12_kindOfWord_14 rfl ?_
    exact r_qIp dX12_kindOfWord_67 rfl rfl rfl
def x_m_readAway (T : St)  : St := jn (fun (KJ1 : St → St) => if (T.2.2.1 576 (7 : Int32).toNatClampNeg) = 4 then (KJ1 (x_m_bad T 3)) else (KJ1 T)) (fun (T301 : St) => jn (fun (i1 : Int32) => jn (fun (KJ2 : Int32 → St) => if ((x_m_number (x_m_must T301 1) i1 0 59).1 571 16) = 0 then (KJ2 ((x_m_number (x_m_must T301 1) i1 0 59).2.2.1 576 (i1 : Int32).toNatClampNeg)) else (KJ2 0)) (fun (j2_s2 : Int32) => if ((x_m_mustEnd (x_m_number (x_m_number (x_m_must T301 1) i1 0 59) (i1 + 1) j2_s2 59)).1 571 16) = 0 then (sA (x_m_mustEnd (x_m_number (x_m_number (x_m_must T301 1) i1 0 59) (i1 + 1) j2_s2 59)) 576 (7 : Int32).toNatClampNeg (((x_m_mustEnd (x_m_number (x_m_number (x_m_must T301 1) i1 0 59) (i1 + 1) j2_s2 59)).2.2.1 576 (7 : Int32).toNatClampNeg) + 1)) else (sA (x_m_mustEnd (x_m_number (x_m_number (x_m_must T301 1) i1 0 59) (i1 + 1) j2_s2 59)) 576 (7 : Int32).toNatClampNeg (((x_m_mustEnd (x_m_number (x_m_number (x_m_must T301 1) i1 0 59) (i1 + 1) j2_s2 59)).2.2.1 576 (7 : Int32).toNatClampNeg) + 0)))) (8 + (2 * ((x_m_must T301 1).2.2.1 576 (7 : Int32).toNatClampNeg))))
def ok_m_readAway (T : St)  : Prop := jn (fun (OJ1 : St → Prop) => (((T.2.2.1 576 (7 : Int32).toNatClampNeg) = 4 → OJ1 (x_m_bad T 3)) ∧ (¬ (T.2.2.1 576 (7 : Int32).toNatClampNeg) = 4 → OJ1 T))) (fun (T301 : St) => (ok_m_must T301 1) ∧ jn (fun (i1 : Int32) => (ok_m_number (x_m_must T301 1) i1 0 59) ∧ jn (fun (OJ2 : Int32 → Prop) => ((((x_m_number (x_m_must T301 1) i1 0 59).1 571 16) = 0 → (vp_in i1 204) ∧ OJ2 ((x_m_number (x_m_must T301 1) i1 0 59).2.2.1 576 (i1 : Int32).toNatClampNeg)) ∧ (¬ ((x_m_number (x_m_must T301 1) i1 0 59).1 571 16) = 0 → OJ2 0))) (fun (j2_s2 : Int32) => (ok_m_number (x_m_number (x_m_must T301 1) i1 0 59) (i1 + 1) j2_s2 59) ∧ (ok_m_mustEnd (x_m_number (x_m_number (x_m_must T301 1) i1 0 59) (i1 + 1) j2_s2 59)) ∧ True)) (8 + (2 * ((x_m_must T301 1).2.2.1 576 (7 : Int32).toNatClampNeg))))
theorem c_m_readAway {X : Nat × (Nat → Int32)} {T : St}  (kk : ok_m_readAway T ) : tC X 5 mX12_readAway [.ref (571 : Nat)] T none (x_m_readAway T) := by
  unfold ok_m_readAway at kk
  refine tC_orV (L := [some (.ref (571 : Nat)), none]) (x_m_readAway T ) rfl ?_
  unfold x_m_readAway
  refine r_p (pc2 := 1) dX12_readAway_0 rfl rfl ?_
  refine r_get dX12_readAway_1 fkX12_22 rfl rfl ?_
  refine r_cb (x := 7) dX12_readAway_4 rfl ?_
  refine r_ia dX12_readAway_6 rfl (in_c (by decide)) ?_
  refine r_ci (x := 4) dX12_readAway_7 rfl ?_
  refine r_jn (R := rV) (J := fun (KJ1 : St → St) (OJ1 : St → Prop) => ∀ (T301 : St), OJ1 T301 → tR X 4 mX12_readAway 16 [some (.ref (571 : Nat)), none] [] T301 (rV (KJ1 T301)).1 (rV (KJ1 T301)).2) kk (fun T301 kk => ?_) (fun KJ1 OJ1 hJ1 kk => ?_)
  · skip
    refine r_p (pc2 := 17) dX12_readAway_16 rfl rfl ?_
    refine r_ci (x := 1) dX12_readAway_17 rfl ?_
    obtain ⟨q1, kk⟩ := kk
    refine r_cv (d1 := 3) dX12_readAway_18 cvX12_172 rfl rfl rfl rfl (Nat.le_of_ble_eq_true rfl) (Nat.le_of_ble_eq_true rfl) (Nat.le_of_ble_eq_true rfl) (c_m_must 1 q1) ?_
    refine r_cb (x := 8) dX12_readAway_21 rfl ?_
    refine r_ci (x := 2) dX12_readAway_23 rfl ?_
    refine r_p (pc2 := 25) dX12_readAway_24 rfl rfl ?_
    refine r_get dX12_readAway_25 fkX12_22 rfl rfl ?_
    refine r_cb (x := 7) dX12_readAway_28 rfl ?_
    refine r_ia dX12_readAway_30 rfl (in_c (by decide)) ?_
    refine r_p (pc2 := 32) dX12_readAway_31 rfl rfl ?_
    refine r_p (pc2 := 33) dX12_readAway_32 rfl rfl ?_
    refine r_nI (R := rV) rfl kk (fun i1 kk => ?_)
    refine r_p (pc2 := 34) (L2 := [some (.ref (571 : Nat)), some (.int i1)]) dX12_readAway_33 rfl rfl ?_
    refine r_p (pc2 := 35) dX12_readAway_34 rfl rfl ?_
    refine r_p (pc2 := 36) dX12_readAway_35 rfl rfl ?_
    refine r_ci (x := 0) dX12_readAway_36 rfl ?_
    refine r_cb (x := 59) dX12_readAway_37 rfl ?_
    obtain ⟨q2, kk⟩ := kk
    refine r_cv (d1 := 4) dX12_readAway_39 cvX12_190 rfl rfl rfl rfl (Nat.le_of_ble_eq_true rfl) (Nat.le_of_ble_eq_true rfl) (Nat.le_of_ble_eq_true rfl) (c_m_number i1 0 59 q2) ?_
    refine r_p (pc2 := 43) dX12_readAway_42 rfl rfl ?_
    refine r_p (pc2 := 44) dX12_readAway_43 rfl rfl ?_
    refine r_ci (x := 1) dX12_readAway_44 rfl ?_
    refine r_p (pc2 := 46) dX12_readAway_45 rfl rfl ?_
    refine r_p (pc2 := 47) dX12_readAway_46 rfl rfl ?_
    refine r_get dX12_readAway_47 fkX12_159 rfl rfl ?_
    refine r_jn (R := rV) (J := fun (KJ2 : Int32 → St) (OJ2 : Int32 → Prop) => ∀ (j2_s2 : Int32), OJ2 j2_s2 → tR X 4 mX12_readAway 63 [some (.ref (571 : Nat)), some (.int i1)] [.int j2_s2, .int (i1 + 1), .ref (571 : Nat)] (x_m_number (x_m_must T301 1) i1 0 59) (rV (KJ2 j2_s2)).1 (rV (KJ2 j2_s2)).2) kk (fun j2_s2 kk => ?_) (fun KJ2 OJ2 hJ2 kk => ?_)
    · skip
      refine r_cb (x := 59) dX12_readAway_63 rfl ?_
      obtain ⟨q4, kk⟩ := kk
      refine r_cv (d1 := 4) dX12_readAway_65 cvX12_190 rfl rfl rfl rfl (Nat.le_of_ble_eq_true rfl) (Nat.le_of_ble_eq_true rfl) (Nat.le_of_ble_eq_true rfl) (c_m_number (i1 + 1) j2_s2 59 q4) ?_
      refine r_p (pc2 := 69) dX12_readAway_68 rfl rfl ?_
      obtain ⟨q5, kk⟩ := kk
      refine r_cv (d1 := 4) dX12_readAway_69 cvX12_194 rfl rfl rfl rfl (Nat.le_of_ble_eq_true rfl) (Nat.le_of_ble_eq_true rfl) (Nat.le_of_ble_eq_true rfl) (c_m_mustEnd  q5) ?_
      refine r_p (pc2 := 73) dX12_readAway_72 rfl rfl ?_
      refine r_get dX12_readAway_73 fkX12_22 rfl rfl ?_
      refine r_cb (x := 7) dX12_readAway_76 rfl ?_
      refine r_p (pc2 := 79) dX12_readAway_78 rfl rfl ?_
      refine r_ia dX12_readAway_79 rfl (in_c (by decide)) ?_
      refine r_p (pc2 := 81) dX12_readAway_80 rfl rfl ?_
      refine r_get dX12_readAway_81 fkX12_159 rfl rfl ?_
      refine r_ine dX12_readAway_84 rfl (fun c84_3 => ?_) (fun c84_3 => ?_)
      · refine r_in (R := rV) c84_3 ?_
        refine r_ci (x := 0) dX12_readAway_91 rfl ?_
        refine r_p (pc2 := 93) dX12_readAway_92 rfl rfl ?_
        refine r_ias dX12_readAway_93 rfl (in_c (by decide)) ?_
        exact r_qV dX12_readAway_94 rfl rfl
      · refine r_ip (R := rV) c84_3 ?_
        refine r_ci (x := 1) dX12_readAway_87 rfl ?_
        refine r_go dX12_readAway_88 rfl ?_
        refine r_p (pc2 := 93) dX12_readAway_92 rfl rfl ?_
        refine r_ias dX12_readAway_93 rfl (in_c (by decide)) ?_
        exact r_qV dX12_readAway_94 rfl rfl
    refine r_ine dX12_readAway_50 rfl (fun c50_4 => ?_) (fun c50_4 => ?_)
    · refine r_in (R := rV) c50_4 ?_
      have kk := kk.2 c50_4
      refine r_ci (x := 0) dX12_readAway_62 rfl ?_
      show tR _ _ _ _ [some (.ref (571 : Nat)), some (.int i1)] [.int 0, .int (i1 + 1), .ref (571 : Nat)] _ _ _
      exact (hJ2 0 kk)
    · refine r_ip (R := rV) c50_4 ?_
      have kk := kk.1 c50_4
      refine r_p (pc2 := 54) dX12_readAway_53 rfl rfl ?_
      refine r_get dX12_readAway_54 fkX12_22 rfl rfl ?_
      refine r_p (pc2 := 58) dX12_readAway_57 rfl rfl ?_
      obtain ⟨q6, kk⟩ := kk
      refine r_ia dX12_readAway_58 rfl q6 ?_
      refine r_go dX12_readAway_59 rfl ?_
      show tR _ _ _ _ [some (.ref (571 : Nat)), some (.int i1)] [.int ((x_m_number (x_m_must T301 1) i1 0 59).2.2.1 576 (i1 : Int32).toNatClampNeg), .int (i1 + 1), .ref (571 : Nat)] _ _ _
      exact (hJ2 ((x_m_number (x_m_must T301 1) i1 0 59).2.2.1 576 (i1 : Int32).toNatClampNeg) kk)
  refine r_cne dX12_readAway_8 rfl (fun c8_5 => ?_) (fun c8_5 => ?_)
  · refine r_in (R := rV) c8_5 ?_
    have kk := kk.2 c8_5
    show tR _ _ _ _ [some (.ref (571 : Nat)), none] [] _ _ _
    exact (hJ1 T kk)
  · refine r_ip (R := rV) c8_5 ?_
    have kk := kk.1 c8_5
    refine r_p (pc2 := 12) dX12_readAway_11 rfl rfl ?_
    refine r_ci (x := 3) dX12_readAway_12 rfl ?_
    refine r_cv (d1 := 1) dX12_readAway_13 cvX12_165 rfl rfl rfl rfl (Nat.le_of_ble_eq_true rfl) (Nat.le_of_ble_eq_true rfl) (Nat.le_of_ble_eq_true rfl) (c_m_bad 3) ?_
    show tR _ _ _ _ [some (.ref (571 : Nat)), none] [] _ _ _
    exact (hJ1 (x_m_bad T 3) kk)
def x_m_readStep (T : St) (p0 : Int32) (p1 : Int32) : St := jn (fun (KJ1 : St → St) => if (T.2.2.1 576 ((18 + (5 * p1)) + 3 : Int32).toNatClampNeg) = 3 then (KJ1 (x_m_bad T 3)) else (KJ1 T)) (fun (T301 : St) => if ((x_m_must T301 1).1 571 16) ≤ 0 then (jn (fun (i1 : Int32) => jn (fun (KJ2 : Int32 → St) => if p0 = 3 then (KJ2 2) else (KJ2 0)) (fun (j2_s2 : Int32) => jn (fun (T2 : St) => jn (fun (T3 : St) => jn (fun (KJ3 : St) => if p0 = 1 then (KJ3) else (if p0 = 2 then (KJ3) else (jn (fun (KJ7 : St → St) => if p0 = 2 then (if ((x_m_number (x_m_number T3 (i1 + 1) 1 30) (i1 + 2) 0 1).1 571 16) = 0 then (jn (fun (T18 : St) => KJ7 T18) (x_m_number (x_m_number (x_m_number T3 (i1 + 1) 1 30) (i1 + 2) 0 1) (i1 + 5) ((x_m_number (x_m_number T3 (i1 + 1) 1 30) (i1 + 2) 0 1).2.2.1 576 (i1 + 4 : Int32).toNatClampNeg) 9)) else (KJ7 (x_m_number (x_m_number (x_m_number T3 (i1 + 1) 1 30) (i1 + 2) 0 1) (i1 + 5) 0 9))) else (KJ7 (x_m_number (x_m_number T3 (i1 + 1) 1 30) (i1 + 2) 0 1))) (fun (T307 : St) => jn (fun (KJ8 : St → St) => if p0 = 5 then (KJ8 (x_m_number T307 (i1 + 4) 0 9)) else (KJ8 T307)) (fun (T308 : St) => jn (fun (T17 : St) => sA T17 576 (17 : Int32).toNatClampNeg ((T17.2.2.1 576 (17 : Int32).toNatClampNeg) + 1)) (sA (x_m_mustEnd T308) 576 ((18 + (5 * p1)) + 3 : Int32).toNatClampNeg (((x_m_mustEnd T308).2.2.1 576 ((18 + (5 * p1)) + 3 : Int32).toNatClampNeg) + 1))))))) (jn (fun (KJ4 : Int32 → St) => if p0 = 1 then (KJ4 1) else (KJ4 9)) (fun (j4_s3 : Int32) => jn (fun (T14 : St) => jn (fun (KJ5 : St → St) => if p0 = 2 then (if (T14.1 571 16) = 0 then (KJ5 (x_m_number T14 (i1 + 5) (T14.2.2.1 576 (i1 + 4 : Int32).toNatClampNeg) 9)) else (KJ5 (x_m_number T14 (i1 + 5) 0 9))) else (KJ5 T14)) (fun (T305 : St) => jn (fun (KJ6 : St → St) => if p0 = 5 then (KJ6 (x_m_number T305 (i1 + 4) 0 9)) else (KJ6 T305)) (fun (T306 : St) => jn (fun (T15 : St) => sA T15 576 (17 : Int32).toNatClampNeg ((T15.2.2.1 576 (17 : Int32).toNatClampNeg) + 1)) (sA (x_m_mustEnd T306) 576 ((18 + (5 * p1)) + 3 : Int32).toNatClampNeg (((x_m_mustEnd T306).2.2.1 576 ((18 + (5 * p1)) + 3 : Int32).toNatClampNeg) + 1))))) (x_m_number (x_m_number (x_m_number (x_m_number T3 (i1 + 1) 1 30) (i1 + 2) 0 1) (i1 + 3) 0 2) (i1 + 4) 0 j4_s3)))) (sA (sA T2 576 (i1 + 4 : Int32).toNatClampNeg (-1000000)) 576 (i1 + 5 : Int32).toNatClampNeg (-1000000))) (sA (sA (x_m_must T301 1) 576 (i1 : Int32).toNatClampNeg p0) 576 (i1 + 3 : Int32).toNatClampNeg j2_s2))) (58 + (6 * ((x_m_must T301 1).2.2.1 576 (17 : Int32).toNatClampNeg)))) else (x_m_must T301 1))
def ok_m_readStep (T : St) (p0 : Int32) (p1 : Int32) : Prop := (vp_in ((18 + (5 * p1)) + 3) 204) ∧ jn (fun (OJ1 : St → Prop) => (((T.2.2.1 576 ((18 + (5 * p1)) + 3 : Int32).toNatClampNeg) = 3 → OJ1 (x_m_bad T 3)) ∧ (¬ (T.2.2.1 576 ((18 + (5 * p1)) + 3 : Int32).toNatClampNeg) = 3 → OJ1 T))) (fun (T301 : St) => (ok_m_must T301 1) ∧ (((x_m_must T301 1).1 571 16) ≤ 0 → jn (fun (i1 : Int32) => (vp_in i1 204) ∧ jn (fun (OJ2 : Int32 → Prop) => ((p0 = 3 → OJ2 2) ∧ (¬ p0 = 3 → OJ2 0))) (fun (j2_s2 : Int32) => (vp_in (i1 + 3) 204) ∧ jn (fun (T2 : St) => (vp_in (i1 + 4) 204) ∧ (vp_in (i1 + 5) 204) ∧ jn (fun (T3 : St) => (ok_m_number T3 (i1 + 1) 1 30) ∧ (ok_m_number (x_m_number T3 (i1 + 1) 1 30) (i1 + 2) 0 1) ∧ jn (fun (OJ3 : Prop) => ((p0 = 1 → OJ3) ∧ (¬ p0 = 1 → ((p0 = 2 → OJ3) ∧ (¬ p0 = 2 → jn (fun (OJ7 : St → Prop) => ((p0 = 2 → ((((x_m_number (x_m_number T3 (i1 + 1) 1 30) (i1 + 2) 0 1).1 571 16) = 0 → (ok_m_number (x_m_number (x_m_number T3 (i1 + 1) 1 30) (i1 + 2) 0 1) (i1 + 5) ((x_m_number (x_m_number T3 (i1 + 1) 1 30) (i1 + 2) 0 1).2.2.1 576 (i1 + 4 : Int32).toNatClampNeg) 9) ∧ jn (fun (T18 : St) => OJ7 T18) (x_m_number (x_m_number (x_m_number T3 (i1 + 1) 1 30) (i1 + 2) 0 1) (i1 + 5) ((x_m_number (x_m_number T3 (i1 + 1) 1 30) (i1 + 2) 0 1).2.2.1 576 (i1 + 4 : Int32).toNatClampNeg) 9)) ∧ (¬ ((x_m_number (x_m_number T3 (i1 + 1) 1 30) (i1 + 2) 0 1).1 571 16) = 0 → (ok_m_number (x_m_number (x_m_number T3 (i1 + 1) 1 30) (i1 + 2) 0 1) (i1 + 5) 0 9) ∧ OJ7 (x_m_number (x_m_number (x_m_number T3 (i1 + 1) 1 30) (i1 + 2) 0 1) (i1 + 5) 0 9)))) ∧ (¬ p0 = 2 → OJ7 (x_m_number (x_m_number T3 (i1 + 1) 1 30) (i1 + 2) 0 1)))) (fun (T307 : St) => jn (fun (OJ8 : St → Prop) => ((p0 = 5 → (ok_m_number T307 (i1 + 4) 0 9) ∧ OJ8 (x_m_number T307 (i1 + 4) 0 9)) ∧ (¬ p0 = 5 → OJ8 T307))) (fun (T308 : St) => (ok_m_mustEnd T308) ∧ True))))))) ((ok_m_number (x_m_number (x_m_number T3 (i1 + 1) 1 30) (i1 + 2) 0 1) (i1 + 3) 0 2) ∧ jn (fun (OJ4 : Int32 → Prop) => ((p0 = 1 → OJ4 1) ∧ (¬ p0 = 1 → OJ4 9))) (fun (j4_s3 : Int32) => (ok_m_number (x_m_number (x_m_number (x_m_number T3 (i1 + 1) 1 30) (i1 + 2) 0 1) (i1 + 3) 0 2) (i1 + 4) 0 j4_s3) ∧ jn (fun (T14 : St) => jn (fun (OJ5 : St → Prop) => ((p0 = 2 → (((T14.1 571 16) = 0 → (ok_m_number T14 (i1 + 5) (T14.2.2.1 576 (i1 + 4 : Int32).toNatClampNeg) 9) ∧ OJ5 (x_m_number T14 (i1 + 5) (T14.2.2.1 576 (i1 + 4 : Int32).toNatClampNeg) 9)) ∧ (¬ (T14.1 571 16) = 0 → (ok_m_number T14 (i1 + 5) 0 9) ∧ OJ5 (x_m_number T14 (i1 + 5) 0 9)))) ∧ (¬ p0 = 2 → OJ5 T14))) (fun (T305 : St) => jn (fun (OJ6 : St → Prop) => ((p0 = 5 → (ok_m_number T305 (i1 + 4) 0 9) ∧ OJ6 (x_m_number T305 (i1 + 4) 0 9)) ∧ (¬ p0 = 5 → OJ6 T305))) (fun (T306 : St) => (ok_m_mustEnd T306) ∧ True))) (x_m_number (x_m_number (x_m_number (x_m_number T3 (i1 + 1) 1 30) (i1 + 2) 0 1) (i1 + 3) 0 2) (i1 + 4) 0 j4_s3)))) (sA (sA T2 576 (i1 + 4 : Int32).toNatClampNeg (-1000000)) 576 (i1 + 5 : Int32).toNatClampNeg (-1000000))) (sA (sA (x_m_must T301 1) 576 (i1 : Int32).toNatClampNeg p0) 576 (i1 + 3 : Int32).toNatClampNeg j2_s2))) (58 + (6 * ((x_m_must T301 1).2.2.1 576 (17 : Int32).toNatClampNeg)))))
theorem c_m_readStep {X : Nat × (Nat → Int32)} {T : St} (p0 : Int32) (p1 : Int32) (kk : ok_m_readStep T p0 p1) : tC X 5 mX12_readStep [.ref (571 : Nat), .int p0, .int p1] T none (x_m_readStep T p0 p1) := by
  unfold ok_m_readStep at kk
  refine tC_orV (L := [some (.ref (571 : Nat)), some (.int p0), some (.int p1), none, none]) (x_m_readStep T p0 p1) rfl ?_
  unfold x_m_readStep
  refine r_cb (x := 18) dX12_readStep_0 rfl ?_
  refine r_ci (x := 5) dX12_readStep_2 rfl ?_
  refine r_p (pc2 := 4) dX12_readStep_3 rfl rfl ?_
  refine r_p (pc2 := 5) dX12_readStep_4 rfl rfl ?_
  refine r_p (pc2 := 6) dX12_readStep_5 rfl rfl ?_
  refine r_ci (x := 3) dX12_readStep_6 rfl ?_
  refine r_p (pc2 := 8) dX12_readStep_7 rfl rfl ?_
  refine r_p (pc2 := 9) (L2 := [some (.ref (571 : Nat)), some (.int p0), some (.int p1), some (.int ((18 + (5 * p1)) + 3)), none]) dX12_readStep_8 rfl rfl ?_
  refine r_p (pc2 := 10) dX12_readStep_9 rfl rfl ?_
  refine r_get dX12_readStep_10 fkX12_22 rfl rfl ?_
  refine r_p (pc2 := 14) dX12_readStep_13 rfl rfl ?_
  obtain ⟨q1, kk⟩ := kk
  refine r_ia dX12_readStep_14 rfl q1 ?_
  refine r_ci (x := 3) dX12_readStep_15 rfl ?_
  refine r_jn (R := rV) (J := fun (KJ1 : St → St) (OJ1 : St → Prop) => ∀ (T301 : St), OJ1 T301 → tR X 4 mX12_readStep 24 [some (.ref (571 : Nat)), some (.int p0), some (.int p1), some (.int ((18 + (5 * p1)) + 3)), none] [] T301 (rV (KJ1 T301)).1 (rV (KJ1 T301)).2) kk (fun T301 kk => ?_) (fun KJ1 OJ1 hJ1 kk => ?_)
  · skip
    refine r_p (pc2 := 25) dX12_readStep_24 rfl rfl ?_
    refine r_ci (x := 1) dX12_readStep_25 rfl ?_
    obtain ⟨q2, kk⟩ := kk
    refine r_cv (d1 := 3) dX12_readStep_26 cvX12_172 rfl rfl rfl rfl (Nat.le_of_ble_eq_true rfl) (Nat.le_of_ble_eq_true rfl) (Nat.le_of_ble_eq_true rfl) (c_m_must 1 q2) ?_
    refine r_p (pc2 := 30) dX12_readStep_29 rfl rfl ?_
    refine r_get dX12_readStep_30 fkX12_159 rfl rfl ?_
    refine r_ile dX12_readStep_33 rfl (fun c33_2 => ?_) (fun c33_2 => ?_)
    · refine r_ip (R := rV) c33_2 ?_
      have kk := kk c33_2
      refine r_cb (x := 58) dX12_readStep_37 rfl ?_
      refine r_cb (x := 6) dX12_readStep_39 rfl ?_
      refine r_p (pc2 := 42) dX12_readStep_41 rfl rfl ?_
      refine r_get dX12_readStep_42 fkX12_22 rfl rfl ?_
      refine r_cb (x := 17) dX12_readStep_45 rfl ?_
      refine r_ia dX12_readStep_47 rfl (in_c (by decide)) ?_
      refine r_p (pc2 := 49) dX12_readStep_48 rfl rfl ?_
      refine r_p (pc2 := 50) dX12_readStep_49 rfl rfl ?_
      refine r_nI (R := rV) rfl kk (fun i1 kk => ?_)
      refine r_p (pc2 := 52) (L2 := [some (.ref (571 : Nat)), some (.int p0), some (.int p1), some (.int ((18 + (5 * p1)) + 3)), some (.int i1)]) dX12_readStep_50 rfl rfl ?_
      refine r_p (pc2 := 53) dX12_readStep_52 rfl rfl ?_
      refine r_get dX12_readStep_53 fkX12_22 rfl rfl ?_
      refine r_p (pc2 := 58) dX12_readStep_56 rfl rfl ?_
      refine r_p (pc2 := 59) dX12_readStep_58 rfl rfl ?_
      obtain ⟨q3, kk⟩ := kk
      refine r_ias dX12_readStep_59 rfl q3 ?_
      refine r_p (pc2 := 61) dX12_readStep_60 rfl rfl ?_
      refine r_get dX12_readStep_61 fkX12_22 rfl rfl ?_
      refine r_p (pc2 := 66) dX12_readStep_64 rfl rfl ?_
      refine r_ci (x := 3) dX12_readStep_66 rfl ?_
      refine r_p (pc2 := 68) dX12_readStep_67 rfl rfl ?_
      refine r_p (pc2 := 69) dX12_readStep_68 rfl rfl ?_
      refine r_ci (x := 3) dX12_readStep_69 rfl ?_
      refine r_jn (R := rV) (J := fun (KJ2 : Int32 → St) (OJ2 : Int32 → Prop) => ∀ (j2_s2 : Int32), OJ2 j2_s2 → tR X 4 mX12_readStep 78 [some (.ref (571 : Nat)), some (.int p0), some (.int p1), some (.int ((18 + (5 * p1)) + 3)), some (.int i1)] [.int j2_s2, .int (i1 + 3), .ref (576 : Nat)] (sA (x_m_must T301 1) 576 (i1 : Int32).toNatClampNeg p0) (rV (KJ2 j2_s2)).1 (rV (KJ2 j2_s2)).2) kk (fun j2_s2 kk => ?_) (fun KJ2 OJ2 hJ2 kk => ?_)
      · skip
        obtain ⟨q4, kk⟩ := kk
        refine r_ias dX12_readStep_78 rfl q4 ?_
        refine r_nT (R := rV) rfl kk (fun T2 kk => ?_)
        refine r_p (pc2 := 80) dX12_readStep_79 rfl rfl ?_
        refine r_get dX12_readStep_80 fkX12_22 rfl rfl ?_
        refine r_p (pc2 := 85) dX12_readStep_83 rfl rfl ?_
        refine r_ci (x := 4) dX12_readStep_85 rfl ?_
        refine r_p (pc2 := 87) dX12_readStep_86 rfl rfl ?_
        refine r_k dX12_readStep_87 kkX12_137 ?_
        obtain ⟨q5, kk⟩ := kk
        refine r_ias dX12_readStep_89 rfl q5 ?_
        refine r_p (pc2 := 91) dX12_readStep_90 rfl rfl ?_
        refine r_get dX12_readStep_91 fkX12_22 rfl rfl ?_
        refine r_p (pc2 := 96) dX12_readStep_94 rfl rfl ?_
        refine r_ci (x := 5) dX12_readStep_96 rfl ?_
        refine r_p (pc2 := 98) dX12_readStep_97 rfl rfl ?_
        refine r_k dX12_readStep_98 kkX12_137 ?_
        obtain ⟨q6, kk⟩ := kk
        refine r_ias dX12_readStep_100 rfl q6 ?_
        refine r_nT (R := rV) rfl kk (fun T3 kk => ?_)
        refine r_p (pc2 := 102) dX12_readStep_101 rfl rfl ?_
        refine r_p (pc2 := 104) dX12_readStep_102 rfl rfl ?_
        refine r_ci (x := 1) dX12_readStep_104 rfl ?_
        refine r_p (pc2 := 106) dX12_readStep_105 rfl rfl ?_
        refine r_ci (x := 1) dX12_readStep_106 rfl ?_
        refine r_cb (x := 30) dX12_readStep_107 rfl ?_
        obtain ⟨q7, kk⟩ := kk
        refine r_cv (d1 := 4) dX12_readStep_109 cvX12_190 rfl rfl rfl rfl (Nat.le_of_ble_eq_true rfl) (Nat.le_of_ble_eq_true rfl) (Nat.le_of_ble_eq_true rfl) (c_m_number (i1 + 1) 1 30 q7) ?_
        refine r_p (pc2 := 113) dX12_readStep_112 rfl rfl ?_
        refine r_p (pc2 := 115) dX12_readStep_113 rfl rfl ?_
        refine r_ci (x := 2) dX12_readStep_115 rfl ?_
        refine r_p (pc2 := 117) dX12_readStep_116 rfl rfl ?_
        refine r_ci (x := 0) dX12_readStep_117 rfl ?_
        refine r_ci (x := 1) dX12_readStep_118 rfl ?_
        obtain ⟨q8, kk⟩ := kk
        refine r_cv (d1 := 4) dX12_readStep_119 cvX12_190 rfl rfl rfl rfl (Nat.le_of_ble_eq_true rfl) (Nat.le_of_ble_eq_true rfl) (Nat.le_of_ble_eq_true rfl) (c_m_number (i1 + 2) 0 1 q8) ?_
        refine r_p (pc2 := 123) dX12_readStep_122 rfl rfl ?_
        refine r_ci (x := 1) dX12_readStep_123 rfl ?_
        refine r_jn (R := rV) (J := fun (KJ3 : St) (OJ3 : Prop) => OJ3 → tR X 4 mX12_readStep 132 [some (.ref (571 : Nat)), some (.int p0), some (.int p1), some (.int ((18 + (5 * p1)) + 3)), some (.int i1)] [] (x_m_number (x_m_number T3 (i1 + 1) 1 30) (i1 + 2) 0 1) (rV KJ3).1 (rV KJ3).2) kk (fun  kk => ?_) (fun KJ3 OJ3 hJ3 kk => ?_)
        · skip
          refine r_p (pc2 := 133) dX12_readStep_132 rfl rfl ?_
          refine r_p (pc2 := 135) dX12_readStep_133 rfl rfl ?_
          refine r_ci (x := 3) dX12_readStep_135 rfl ?_
          refine r_p (pc2 := 137) dX12_readStep_136 rfl rfl ?_
          refine r_ci (x := 0) dX12_readStep_137 rfl ?_
          refine r_ci (x := 2) dX12_readStep_138 rfl ?_
          obtain ⟨q20, kk⟩ := kk
          refine r_cv (d1 := 4) dX12_readStep_139 cvX12_190 rfl rfl rfl rfl (Nat.le_of_ble_eq_true rfl) (Nat.le_of_ble_eq_true rfl) (Nat.le_of_ble_eq_true rfl) (c_m_number (i1 + 3) 0 2 q20) ?_
          refine r_p (pc2 := 143) dX12_readStep_142 rfl rfl ?_
          refine r_p (pc2 := 145) dX12_readStep_143 rfl rfl ?_
          refine r_ci (x := 4) dX12_readStep_145 rfl ?_
          refine r_p (pc2 := 147) dX12_readStep_146 rfl rfl ?_
          refine r_ci (x := 0) dX12_readStep_147 rfl ?_
          refine r_p (pc2 := 149) dX12_readStep_148 rfl rfl ?_
          refine r_ci (x := 1) dX12_readStep_149 rfl ?_
          refine r_jn (R := rV) (J := fun (KJ4 : Int32 → St) (OJ4 : Int32 → Prop) => ∀ (j4_s3 : Int32), OJ4 j4_s3 → tR X 4 mX12_readStep 159 [some (.ref (571 : Nat)), some (.int p0), some (.int p1), some (.int ((18 + (5 * p1)) + 3)), some (.int i1)] [.int j4_s3, .int 0, .int (i1 + 4), .ref (571 : Nat)] (x_m_number (x_m_number (x_m_number T3 (i1 + 1) 1 30) (i1 + 2) 0 1) (i1 + 3) 0 2) (rV (KJ4 j4_s3)).1 (rV (KJ4 j4_s3)).2) kk (fun j4_s3 kk => ?_) (fun KJ4 OJ4 hJ4 kk => ?_)
          · skip
            obtain ⟨q21, kk⟩ := kk
            refine r_cv (d1 := 4) dX12_readStep_159 cvX12_190 rfl rfl rfl rfl (Nat.le_of_ble_eq_true rfl) (Nat.le_of_ble_eq_true rfl) (Nat.le_of_ble_eq_true rfl) (c_m_number (i1 + 4) 0 j4_s3 q21) ?_
            refine r_nT (R := rV) rfl kk (fun T14 kk => ?_)
            refine r_p (pc2 := 163) dX12_readStep_162 rfl rfl ?_
            refine r_ci (x := 2) dX12_readStep_163 rfl ?_
            refine r_jn (R := rV) (J := fun (KJ5 : St → St) (OJ5 : St → Prop) => ∀ (T305 : St), OJ5 T305 → tR X 4 mX12_readStep 197 [some (.ref (571 : Nat)), some (.int p0), some (.int p1), some (.int ((18 + (5 * p1)) + 3)), some (.int i1)] [] T305 (rV (KJ5 T305)).1 (rV (KJ5 T305)).2) kk (fun T305 kk => ?_) (fun KJ5 OJ5 hJ5 kk => ?_)
            · skip
              refine r_p (pc2 := 198) dX12_readStep_197 rfl rfl ?_
              refine r_ci (x := 5) dX12_readStep_198 rfl ?_
              refine r_jn (R := rV) (J := fun (KJ6 : St → St) (OJ6 : St → Prop) => ∀ (T306 : St), OJ6 T306 → tR X 4 mX12_readStep 213 [some (.ref (571 : Nat)), some (.int p0), some (.int p1), some (.int ((18 + (5 * p1)) + 3)), some (.int i1)] [] T306 (rV (KJ6 T306)).1 (rV (KJ6 T306)).2) kk (fun T306 kk => ?_) (fun KJ6 OJ6 hJ6 kk => ?_)
              · skip
                refine r_p (pc2 := 214) dX12_readStep_213 rfl rfl ?_
                obtain ⟨q25, kk⟩ := kk
                refine r_cv (d1 := 4) dX12_readStep_214 cvX12_194 rfl rfl rfl rfl (Nat.le_of_ble_eq_true rfl) (Nat.le_of_ble_eq_true rfl) (Nat.le_of_ble_eq_true rfl) (c_m_mustEnd  q25) ?_
                refine r_p (pc2 := 218) dX12_readStep_217 rfl rfl ?_
                refine r_get dX12_readStep_218 fkX12_22 rfl rfl ?_
                refine r_p (pc2 := 222) dX12_readStep_221 rfl rfl ?_
                refine r_p (pc2 := 223) dX12_readStep_222 rfl rfl ?_
                refine r_ia dX12_readStep_223 rfl q1 ?_
                refine r_ci (x := 1) dX12_readStep_224 rfl ?_
                refine r_p (pc2 := 226) dX12_readStep_225 rfl rfl ?_
                refine r_ias dX12_readStep_226 rfl q1 ?_
                refine r_nT0 (R := rV) rfl (fun T15 => ?_)
                refine r_p (pc2 := 228) dX12_readStep_227 rfl rfl ?_
                refine r_get dX12_readStep_228 fkX12_22 rfl rfl ?_
                refine r_cb (x := 17) dX12_readStep_231 rfl ?_
                refine r_p (pc2 := 234) dX12_readStep_233 rfl rfl ?_
                refine r_ia dX12_readStep_234 rfl (in_c (by decide)) ?_
                refine r_ci (x := 1) dX12_readStep_235 rfl ?_
                refine r_p (pc2 := 237) dX12_readStep_236 rfl rfl ?_
                refine r_ias dX12_readStep_237 rfl (in_c (by decide)) ?_
                exact r_qV dX12_readStep_238 rfl rfl
              refine r_cne dX12_readStep_199 rfl (fun c199_15 => ?_) (fun c199_15 => ?_)
              · refine r_in (R := rV) c199_15 ?_
                have kk := kk.2 c199_15
                show tR _ _ _ _ [some (.ref (571 : Nat)), some (.int p0), some (.int p1), some (.int ((18 + (5 * p1)) + 3)), some (.int i1)] [] _ _ _
                exact (hJ6 T305 kk)
              · refine r_ip (R := rV) c199_15 ?_
                have kk := kk.1 c199_15
                refine r_p (pc2 := 203) dX12_readStep_202 rfl rfl ?_
                refine r_p (pc2 := 205) dX12_readStep_203 rfl rfl ?_
                refine r_ci (x := 4) dX12_readStep_205 rfl ?_
                refine r_p (pc2 := 207) dX12_readStep_206 rfl rfl ?_
                refine r_ci (x := 0) dX12_readStep_207 rfl ?_
                refine r_cb (x := 9) dX12_readStep_208 rfl ?_
                obtain ⟨q26, kk⟩ := kk
                refine r_cv (d1 := 4) dX12_readStep_210 cvX12_190 rfl rfl rfl rfl (Nat.le_of_ble_eq_true rfl) (Nat.le_of_ble_eq_true rfl) (Nat.le_of_ble_eq_true rfl) (c_m_number (i1 + 4) 0 9 q26) ?_
                show tR _ _ _ _ [some (.ref (571 : Nat)), some (.int p0), some (.int p1), some (.int ((18 + (5 * p1)) + 3)), some (.int i1)] [] _ _ _
                exact (hJ6 (x_m_number T305 (i1 + 4) 0 9) kk)
            refine r_cne dX12_readStep_164 rfl (fun c164_16 => ?_) (fun c164_16 => ?_)
            · refine r_in (R := rV) c164_16 ?_
              have kk := kk.2 c164_16
              show tR _ _ _ _ [some (.ref (571 : Nat)), some (.int p0), some (.int p1), some (.int ((18 + (5 * p1)) + 3)), some (.int i1)] [] _ _ _
              exact (hJ5 T14 kk)
            · refine r_ip (R := rV) c164_16 ?_
              have kk := kk.1 c164_16
              refine r_p (pc2 := 168) dX12_readStep_167 rfl rfl ?_
              refine r_p (pc2 := 170) dX12_readStep_168 rfl rfl ?_
              refine r_ci (x := 5) dX12_readStep_170 rfl ?_
              refine r_p (pc2 := 172) dX12_readStep_171 rfl rfl ?_
              refine r_p (pc2 := 173) dX12_readStep_172 rfl rfl ?_
              refine r_get dX12_readStep_173 fkX12_159 rfl rfl ?_
              refine r_ine dX12_readStep_176 rfl (fun c176_17 => ?_) (fun c176_17 => ?_)
              · refine r_in (R := rV) c176_17 ?_
                have kk := kk.2 c176_17
                refine r_ci (x := 0) dX12_readStep_191 rfl ?_
                refine r_cb (x := 9) dX12_readStep_192 rfl ?_
                obtain ⟨q27, kk⟩ := kk
                refine r_cv (d1 := 4) dX12_readStep_194 cvX12_190 rfl rfl rfl rfl (Nat.le_of_ble_eq_true rfl) (Nat.le_of_ble_eq_true rfl) (Nat.le_of_ble_eq_true rfl) (c_m_number (i1 + 5) 0 9 q27) ?_
                show tR _ _ _ _ [some (.ref (571 : Nat)), some (.int p0), some (.int p1), some (.int ((18 + (5 * p1)) + 3)), some (.int i1)] [] _ _ _
                exact (hJ5 (x_m_number T14 (i1 + 5) 0 9) kk)
              · refine r_ip (R := rV) c176_17 ?_
                have kk := kk.1 c176_17
                refine r_p (pc2 := 180) dX12_readStep_179 rfl rfl ?_
                refine r_get dX12_readStep_180 fkX12_22 rfl rfl ?_
                refine r_p (pc2 := 185) dX12_readStep_183 rfl rfl ?_
                refine r_ci (x := 4) dX12_readStep_185 rfl ?_
                refine r_p (pc2 := 187) dX12_readStep_186 rfl rfl ?_
                refine r_ia dX12_readStep_187 rfl q5 ?_
                refine r_go dX12_readStep_188 rfl ?_
                refine r_cb (x := 9) dX12_readStep_192 rfl ?_
                obtain ⟨q28, kk⟩ := kk
                refine r_cv (d1 := 4) dX12_readStep_194 cvX12_190 rfl rfl rfl rfl (Nat.le_of_ble_eq_true rfl) (Nat.le_of_ble_eq_true rfl) (Nat.le_of_ble_eq_true rfl) (c_m_number (i1 + 5) (T14.2.2.1 576 (i1 + 4 : Int32).toNatClampNeg) 9 q28) ?_
                show tR _ _ _ _ [some (.ref (571 : Nat)), some (.int p0), some (.int p1), some (.int ((18 + (5 * p1)) + 3)), some (.int i1)] [] _ _ _
                exact (hJ5 (x_m_number T14 (i1 + 5) (T14.2.2.1 576 (i1 + 4 : Int32).toNatClampNeg) 9) kk)
          refine r_cne dX12_readStep_150 rfl (fun c150_18 => ?_) (fun c150_18 => ?_)
          · refine r_in (R := rV) c150_18 ?_
            have kk := kk.2 c150_18
            refine r_cb (x := 9) dX12_readStep_157 rfl ?_
            show tR _ _ _ _ [some (.ref (571 : Nat)), some (.int p0), some (.int p1), some (.int ((18 + (5 * p1)) + 3)), some (.int i1)] [.int 9, .int 0, .int (i1 + 4), .ref (571 : Nat)] _ _ _
            exact (hJ4 9 kk)
          · refine r_ip (R := rV) c150_18 ?_
            have kk := kk.1 c150_18
            refine r_ci (x := 1) dX12_readStep_153 rfl ?_
            refine r_go dX12_readStep_154 rfl ?_
            show tR _ _ _ _ [some (.ref (571 : Nat)), some (.int p0), some (.int p1), some (.int ((18 + (5 * p1)) + 3)), some (.int i1)] [.int 1, .int 0, .int (i1 + 4), .ref (571 : Nat)] _ _ _
            exact (hJ4 1 kk)
        refine r_ceq dX12_readStep_124 rfl (fun c124_19 => ?_) (fun c124_19 => ?_)
        · refine r_ip (R := rV) c124_19 ?_
          have kk := kk.1 c124_19
          show tR _ _ _ _ [some (.ref (571 : Nat)), some (.int p0), some (.int p1), some (.int ((18 + (5 * p1)) + 3)), some (.int i1)] [] _ _ _
          exact (hJ3  kk)
        · refine r_in (R := rV) c124_19 ?_
          have kk := kk.2 c124_19
          refine r_p (pc2 := 128) dX12_readStep_127 rfl rfl ?_
          refine r_ci (x := 2) dX12_readStep_128 rfl ?_
          refine r_cne dX12_readStep_129 rfl (fun c129_20 => ?_) (fun c129_20 => ?_)
          · refine r_in (R := rV) c129_20 ?_
            have kk := kk.2 c129_20
            refine r_p (pc2 := 163) dX12_readStep_162 rfl rfl ?_
            refine r_ci (x := 2) dX12_readStep_163 rfl ?_
            refine r_jn (R := rV) (J := fun (KJ7 : St → St) (OJ7 : St → Prop) => ∀ (T307 : St), OJ7 T307 → tR X 4 mX12_readStep 197 [some (.ref (571 : Nat)), some (.int p0), some (.int p1), some (.int ((18 + (5 * p1)) + 3)), some (.int i1)] [] T307 (rV (KJ7 T307)).1 (rV (KJ7 T307)).2) kk (fun T307 kk => ?_) (fun KJ7 OJ7 hJ7 kk => ?_)
            · skip
              refine r_p (pc2 := 198) dX12_readStep_197 rfl rfl ?_
              refine r_ci (x := 5) dX12_readStep_198 rfl ?_
              refine r_jn (R := rV) (J := fun (KJ8 : St → St) (OJ8 : St → Prop) => ∀ (T308 : St), OJ8 T308 → tR X 4 mX12_readStep 213 [some (.ref (571 : Nat)), some (.int p0), some (.int p1), some (.int ((18 + (5 * p1)) + 3)), some (.int i1)] [] T308 (rV (KJ8 T308)).1 (rV (KJ8 T308)).2) kk (fun T308 kk => ?_) (fun KJ8 OJ8 hJ8 kk => ?_)
              · skip
                refine r_p (pc2 := 214) dX12_readStep_213 rfl rfl ?_
                obtain ⟨q32, kk⟩ := kk
                refine r_cv (d1 := 4) dX12_readStep_214 cvX12_194 rfl rfl rfl rfl (Nat.le_of_ble_eq_true rfl) (Nat.le_of_ble_eq_true rfl) (Nat.le_of_ble_eq_true rfl) (c_m_mustEnd  q32) ?_
                refine r_p (pc2 := 218) dX12_readStep_217 rfl rfl ?_
                refine r_get dX12_readStep_218 fkX12_22 rfl rfl ?_
                refine r_p (pc2 := 222) dX12_readStep_221 rfl rfl ?_
                refine r_p (pc2 := 223) dX12_readStep_222 rfl rfl ?_
                refine r_ia dX12_readStep_223 rfl q1 ?_
                refine r_ci (x := 1) dX12_readStep_224 rfl ?_
                refine r_p (pc2 := 226) dX12_readStep_225 rfl rfl ?_
                refine r_ias dX12_readStep_226 rfl q1 ?_
                refine r_nT0 (R := rV) rfl (fun T17 => ?_)
                refine r_p (pc2 := 228) dX12_readStep_227 rfl rfl ?_
                refine r_get dX12_readStep_228 fkX12_22 rfl rfl ?_
                refine r_cb (x := 17) dX12_readStep_231 rfl ?_
                refine r_p (pc2 := 234) dX12_readStep_233 rfl rfl ?_
                refine r_ia dX12_readStep_234 rfl (in_c (by decide)) ?_
                refine r_ci (x := 1) dX12_readStep_235 rfl ?_
                refine r_p (pc2 := 237) dX12_readStep_236 rfl rfl ?_
                refine r_ias dX12_readStep_237 rfl (in_c (by decide)) ?_
                exact r_qV dX12_readStep_238 rfl rfl
              refine r_cne dX12_readStep_199 rfl (fun c199_24 => ?_) (fun c199_24 => ?_)
              · refine r_in (R := rV) c199_24 ?_
                have kk := kk.2 c199_24
                show tR _ _ _ _ [some (.ref (571 : Nat)), some (.int p0), some (.int p1), some (.int ((18 + (5 * p1)) + 3)), some (.int i1)] [] _ _ _
                exact (hJ8 T307 kk)
              · refine r_ip (R := rV) c199_24 ?_
                have kk := kk.1 c199_24
                refine r_p (pc2 := 203) dX12_readStep_202 rfl rfl ?_
                refine r_p (pc2 := 205) dX12_readStep_203 rfl rfl ?_
                refine r_ci (x := 4) dX12_readStep_205 rfl ?_
                refine r_p (pc2 := 207) dX12_readStep_206 rfl rfl ?_
                refine r_ci (x := 0) dX12_readStep_207 rfl ?_
                refine r_cb (x := 9) dX12_readStep_208 rfl ?_
                obtain ⟨q33, kk⟩ := kk
                refine r_cv (d1 := 4) dX12_readStep_210 cvX12_190 rfl rfl rfl rfl (Nat.le_of_ble_eq_true rfl) (Nat.le_of_ble_eq_true rfl) (Nat.le_of_ble_eq_true rfl) (c_m_number (i1 + 4) 0 9 q33) ?_
                show tR _ _ _ _ [some (.ref (571 : Nat)), some (.int p0), some (.int p1), some (.int ((18 + (5 * p1)) + 3)), some (.int i1)] [] _ _ _
                exact (hJ8 (x_m_number T307 (i1 + 4) 0 9) kk)
            refine r_cne dX12_readStep_164 rfl (fun c164_25 => ?_) (fun c164_25 => ?_)
            · refine r_in (R := rV) c164_25 ?_
              have kk := kk.2 c164_25
              show tR _ _ _ _ [some (.ref (571 : Nat)), some (.int p0), some (.int p1), some (.int ((18 + (5 * p1)) + 3)), some (.int i1)] [] _ _ _
              exact (hJ7 (x_m_number (x_m_number T3 (i1 + 1) 1 30) (i1 + 2) 0 1) kk)
            · refine r_ip (R := rV) c164_25 ?_
              have kk := kk.1 c164_25
              refine r_p (pc2 := 168) dX12_readStep_167 rfl rfl ?_
              refine r_p (pc2 := 170) dX12_readStep_168 rfl rfl ?_
              refine r_ci (x := 5) dX12_readStep_170 rfl ?_
              refine r_p (pc2 := 172) dX12_readStep_171 rfl rfl ?_
              refine r_p (pc2 := 173) dX12_readStep_172 rfl rfl ?_
              refine r_get dX12_readStep_173 fkX12_159 rfl rfl ?_
              refine r_ine dX12_readStep_176 rfl (fun c176_26 => ?_) (fun c176_26 => ?_)
              · refine r_in (R := rV) c176_26 ?_
                have kk := kk.2 c176_26
                refine r_ci (x := 0) dX12_readStep_191 rfl ?_
                refine r_cb (x := 9) dX12_readStep_192 rfl ?_
                obtain ⟨q34, kk⟩ := kk
                refine r_cv (d1 := 4) dX12_readStep_194 cvX12_190 rfl rfl rfl rfl (Nat.le_of_ble_eq_true rfl) (Nat.le_of_ble_eq_true rfl) (Nat.le_of_ble_eq_true rfl) (c_m_number (i1 + 5) 0 9 q34) ?_
                show tR _ _ _ _ [some (.ref (571 : Nat)), some (.int p0), some (.int p1), some (.int ((18 + (5 * p1)) + 3)), some (.int i1)] [] _ _ _
                exact (hJ7 (x_m_number (x_m_number (x_m_number T3 (i1 + 1) 1 30) (i1 + 2) 0 1) (i1 + 5) 0 9) kk)
              · refine r_ip (R := rV) c176_26 ?_
                have kk := kk.1 c176_26
                refine r_p (pc2 := 180) dX12_readStep_179 rfl rfl ?_
                refine r_get dX12_readStep_180 fkX12_22 rfl rfl ?_
                refine r_p (pc2 := 185) dX12_readStep_183 rfl rfl ?_
                refine r_ci (x := 4) dX12_readStep_185 rfl ?_
                refine r_p (pc2 := 187) dX12_readStep_186 rfl rfl ?_
                refine r_ia dX12_readStep_187 rfl q5 ?_
                refine r_go dX12_readStep_188 rfl ?_
                refine r_cb (x := 9) dX12_readStep_192 rfl ?_
                obtain ⟨q35, kk⟩ := kk
                refine r_cv (d1 := 4) dX12_readStep_194 cvX12_190 rfl rfl rfl rfl (Nat.le_of_ble_eq_true rfl) (Nat.le_of_ble_eq_true rfl) (Nat.le_of_ble_eq_true rfl) (c_m_number (i1 + 5) ((x_m_number (x_m_number T3 (i1 + 1) 1 30) (i1 + 2) 0 1).2.2.1 576 (i1 + 4 : Int32).toNatClampNeg) 9 q35) ?_
                refine r_nT (R := rV) rfl kk (fun T18 kk => ?_)
                show tR _ _ _ _ [some (.ref (571 : Nat)), some (.int p0), some (.int p1), some (.int ((18 + (5 * p1)) + 3)), some (.int i1)] [] _ _ _
                exact (hJ7 T18 kk)
          · refine r_ip (R := rV) c129_20 ?_
            have kk := kk.1 c129_20
            show tR _ _ _ _ [some (.ref (571 : Nat)), some (.int p0), some (.int p1), some (.int ((18 + (5 * p1)) + 3)), some (.int i1)] [] _ _ _
            exact (hJ3  kk)
      refine r_cne dX12_readStep_70 rfl (fun c70_27 => ?_) (fun c70_27 => ?_)
      · refine r_in (R := rV) c70_27 ?_
        have kk := kk.2 c70_27
        refine r_ci (x := 0) dX12_readStep_77 rfl ?_
        show tR _ _ _ _ [some (.ref (571 : Nat)), some (.int p0), some (.int p1), some (.int ((18 + (5 * p1)) + 3)), some (.int i1)] [.int 0, .int (i1 + 3), .ref (576 : Nat)] _ _ _
        exact (hJ2 0 kk)
      · refine r_ip (R := rV) c70_27 ?_
        have kk := kk.1 c70_27
        refine r_ci (x := 2) dX12_readStep_73 rfl ?_
        refine r_go dX12_readStep_74 rfl ?_
        show tR _ _ _ _ [some (.ref (571 : Nat)), some (.int p0), some (.int p1), some (.int ((18 + (5 * p1)) + 3)), some (.int i1)] [.int 2, .int (i1 + 3), .ref (576 : Nat)] _ _ _
        exact (hJ2 2 kk)
    · refine r_in (R := rV) c33_2 ?_
      exact r_qV dX12_readStep_36 rfl rfl
  refine r_cne dX12_readStep_16 rfl (fun c16_28 => ?_) (fun c16_28 => ?_)
  · refine r_in (R := rV) c16_28 ?_
    have kk := kk.2 c16_28
    show tR _ _ _ _ [some (.ref (571 : Nat)), some (.int p0), some (.int p1), some (.int ((18 + (5 * p1)) + 3)), none] [] _ _ _
    exact (hJ1 T kk)
  · refine r_ip (R := rV) c16_28 ?_
    have kk := kk.1 c16_28
    refine r_p (pc2 := 20) dX12_readStep_19 rfl rfl ?_
    refine r_ci (x := 3) dX12_readStep_20 rfl ?_
    refine r_cv (d1 := 1) dX12_readStep_21 cvX12_165 rfl rfl rfl rfl (Nat.le_of_ble_eq_true rfl) (Nat.le_of_ble_eq_true rfl) (Nat.le_of_ble_eq_true rfl) (c_m_bad 3) ?_
    show tR _ _ _ _ [some (.ref (571 : Nat)), some (.int p0), some (.int p1), some (.int ((18 + (5 * p1)) + 3)), none] [] _ _ _
    exact (hJ1 (x_m_bad T 3) kk)
def x_m_readDish_115 (l1 : Int32) (l2 : Int32) (K : Int32 → St → St) : Nat → Int32 → St → St
  | 0, _, T => T
  | f + 1, v3, T => if (T.1 571 16) = 0 then (if v3 = (-1000000) then (K v3 T) else (jn (fun (i5 : Int32) => x_m_readDish_115 l1 l2 K f i5 (x_m_readStep T v3 l1)) (x_m_kindOfWord (x_m_readStep T v3 l1)))) else (K v3 T)
def ok_m_readDish_115 (l1 : Int32) (l2 : Int32) (Kk : Int32 → St → Prop) : Nat → Int32 → St → Prop
  | 0, _, _ => False
  | f + 1, v3, T => (((T.1 571 16) = 0 → ((v3 = (-1000000) → Kk v3 T) ∧ (¬ v3 = (-1000000) → (ok_m_readStep T v3 l1) ∧ (ok_m_kindOfWord (x_m_readStep T v3 l1)) ∧ jn (fun (i5 : Int32) => ok_m_readDish_115 l1 l2 Kk f i5 (x_m_readStep T v3 l1)) (x_m_kindOfWord (x_m_readStep T v3 l1))))) ∧ (¬ (T.1 571 16) = 0 → Kk v3 T))
theorem c_m_readDish_115 {X : Nat × (Nat → Int32)} (l1 : Int32) (l2 : Int32) {K : Int32 → St → St} {Kk : Int32 → St → Prop} (hk : ∀ (v3 : Int32) (T : St), Kk v3 T → tR X 5 mX12_readDish 142 [some (.ref (571 : Nat)), some (.int l1), some (.int l2), some (.int v3)] [] T (rV (K v3 T)).1 ((rV (K v3 T)).2)) : ∀ (f : Nat) (v3 : Int32) (T : St), ok_m_readDish_115 l1 l2 Kk f v3 T → tR X 5 mX12_readDish 115 [some (.ref (571 : Nat)), some (.int l1), some (.int l2), some (.int v3)] [] T (rV (x_m_readDish_115 l1 l2 K f v3 T)).1 ((rV (x_m_readDish_115 l1 l2 K f v3 T)).2) := by
  intro f
  induction f with
  | zero => intro v3 T kk; exact kk.elim
  | succ f ih =>
    intro v3 T kk
    rw [ok_m_readDish_115] at kk
    rw [x_m_readDish_115]
    refine r_p (pc2 := 116) dX12_readDish_115 rfl rfl ?_
    refine r_get dX12_readDish_116 fkX12_159 rfl rfl ?_
    refine r_ine dX12_readDish_119 rfl (fun c119_4 => ?_) (fun c119_4 => ?_)
    · refine r_in (R := rV) c119_4 ?_
      have kk := kk.2 c119_4
      show tR _ _ _ _ [some (.ref (571 : Nat)), some (.int l1), some (.int l2), some (.int v3)] _ _ _ _
      exact (hk v3 T kk)
    · refine r_ip (R := rV) c119_4 ?_
      have kk := kk.1 c119_4
      refine r_p (pc2 := 123) dX12_readDish_122 rfl rfl ?_
      refine r_k dX12_readDish_123 kkX12_137 ?_
      refine r_ceq dX12_readDish_125 rfl (fun c125_5 => ?_) (fun c125_5 => ?_)
      · refine r_ip (R := rV) c125_5 ?_
        have kk := kk.1 c125_5
        show tR _ _ _ _ [some (.ref (571 : Nat)), some (.int l1), some (.int l2), some (.int v3)] _ _ _ _
        exact (hk v3 T kk)
      · refine r_in (R := rV) c125_5 ?_
        have kk := kk.2 c125_5
        refine r_p (pc2 := 129) dX12_readDish_128 rfl rfl ?_
        refine r_p (pc2 := 130) dX12_readDish_129 rfl rfl ?_
        refine r_p (pc2 := 131) dX12_readDish_130 rfl rfl ?_
        obtain ⟨q9, kk⟩ := kk
        refine r_cv (d1 := 5) dX12_readDish_131 cvX12_201 rfl rfl rfl rfl (Nat.le_of_ble_eq_true rfl) (Nat.le_of_ble_eq_true rfl) (Nat.le_of_ble_eq_true rfl) (c_m_readStep v3 l1 q9) ?_
        refine r_p (pc2 := 135) dX12_readDish_134 rfl rfl ?_
        obtain ⟨q10, kk⟩ := kk
        refine r_cv (d1 := 2) dX12_readDish_135 cvX12_197 rfl rfl rfl rfl (Nat.le_of_ble_eq_true rfl) (Nat.le_of_ble_eq_true rfl) (Nat.le_of_ble_eq_true rfl) (c_m_kindOfWord  q10) ?_
        refine r_nI (R := rV) rfl kk (fun i5 kk => ?_)
        refine r_p (pc2 := 139) (L2 := [some (.ref (571 : Nat)), some (.int l1), some (.int l2), some (.int i5)]) dX12_readDish_138 rfl rfl ?_
        refine r_go dX12_readDish_139 rfl ?_
        show tR _ _ _ _ [some (.ref (571 : Nat)), some (.int l1), some (.int l2), some (.int i5)] _ _ _ _
        exact (ih i5 (x_m_readStep T v3 l1) kk)
def x_m_readDish (T : St)  : St := jn (fun (KJ1 : St → St) => if (T.2.2.1 576 (16 : Int32).toNatClampNeg) = 8 then (KJ1 (x_m_bad T 3)) else (KJ1 T)) (fun (T301 : St) => jn (fun (i1 : Int32) => jn (fun (T2 : St) => if ((x_m_mustEnd T2).1 571 16) ≤ 0 then (jn (fun (T3 : St) => jn (fun (i4 : Int32) => jn (fun (KJ2 : St → St) => if i4 = (-1000000) then (KJ2 (x_m_bad (sA T3 576 ((18 + (5 * i1)) + 3 : Int32).toNatClampNeg 0) 1)) else (KJ2 (sA T3 576 ((18 + (5 * i1)) + 3 : Int32).toNatClampNeg 0))) (fun (T302 : St) => x_m_readDish_115 i1 (18 + (5 * i1)) (fun (w1_3 : Int32) (T201 : St) => sA T201 576 (16 : Int32).toNatClampNeg ((T201.2.2.1 576 (16 : Int32).toNatClampNeg) + 1)) 1000 i4 T302)) (x_m_kindOfWord (sA T3 576 ((18 + (5 * i1)) + 3 : Int32).toNatClampNeg 0))) (sA (x_m_mustEnd T2) 576 ((18 + (5 * i1)) + 4 : Int32).toNatClampNeg ((x_m_mustEnd T2).2.2.1 576 (17 : Int32).toNatClampNeg))) else (x_m_mustEnd T2)) (x_m_number (x_m_number (x_m_number (x_m_must T301 1) (18 + (5 * i1)) 0 2) ((18 + (5 * i1)) + 1) 0 9) ((18 + (5 * i1)) + 2) 0 1)) ((x_m_must T301 1).2.2.1 576 (16 : Int32).toNatClampNeg))
def ok_m_readDish (T : St)  : Prop := jn (fun (OJ1 : St → Prop) => (((T.2.2.1 576 (16 : Int32).toNatClampNeg) = 8 → OJ1 (x_m_bad T 3)) ∧ (¬ (T.2.2.1 576 (16 : Int32).toNatClampNeg) = 8 → OJ1 T))) (fun (T301 : St) => (ok_m_must T301 1) ∧ jn (fun (i1 : Int32) => (ok_m_number (x_m_must T301 1) (18 + (5 * i1)) 0 2) ∧ (ok_m_number (x_m_number (x_m_must T301 1) (18 + (5 * i1)) 0 2) ((18 + (5 * i1)) + 1) 0 9) ∧ (ok_m_number (x_m_number (x_m_number (x_m_must T301 1) (18 + (5 * i1)) 0 2) ((18 + (5 * i1)) + 1) 0 9) ((18 + (5 * i1)) + 2) 0 1) ∧ jn (fun (T2 : St) => (ok_m_mustEnd T2) ∧ (((x_m_mustEnd T2).1 571 16) ≤ 0 → (vp_in ((18 + (5 * i1)) + 4) 204) ∧ jn (fun (T3 : St) => (vp_in ((18 + (5 * i1)) + 3) 204) ∧ (ok_m_kindOfWord (sA T3 576 ((18 + (5 * i1)) + 3 : Int32).toNatClampNeg 0)) ∧ jn (fun (i4 : Int32) => jn (fun (OJ2 : St → Prop) => ((i4 = (-1000000) → OJ2 (x_m_bad (sA T3 576 ((18 + (5 * i1)) + 3 : Int32).toNatClampNeg 0) 1)) ∧ (¬ i4 = (-1000000) → OJ2 (sA T3 576 ((18 + (5 * i1)) + 3 : Int32).toNatClampNeg 0)))) (fun (T302 : St) => ok_m_readDish_115 i1 (18 + (5 * i1)) (fun (w1_3 : Int32) (T201 : St) => True) 1000 i4 T302)) (x_m_kindOfWord (sA T3 576 ((18 + (5 * i1)) + 3 : Int32).toNatClampNeg 0))) (sA (x_m_mustEnd T2) 576 ((18 + (5 * i1)) + 4 : Int32).toNatClampNeg ((x_m_mustEnd T2).2.2.1 576 (17 : Int32).toNatClampNeg)))) (x_m_number (x_m_number (x_m_number (x_m_must T301 1) (18 + (5 * i1)) 0 2) ((18 + (5 * i1)) + 1) 0 9) ((18 + (5 * i1)) + 2) 0 1)) ((x_m_must T301 1).2.2.1 576 (16 : Int32).toNatClampNeg))
theorem c_m_readDish {X : Nat × (Nat → Int32)} {T : St}  (kk : ok_m_readDish T ) : tC X 6 mX12_readDish [.ref (571 : Nat)] T none (x_m_readDish T) := by
  unfold ok_m_readDish at kk
  refine tC_orV (L := [some (.ref (571 : Nat)), none, none, none]) (x_m_readDish T ) rfl ?_
  unfold x_m_readDish
  refine r_p (pc2 := 1) dX12_readDish_0 rfl rfl ?_
  refine r_get dX12_readDish_1 fkX12_22 rfl rfl ?_
  refine r_cb (x := 16) dX12_readDish_4 rfl ?_
  refine r_ia dX12_readDish_6 rfl (in_c (by decide)) ?_
  refine r_cb (x := 8) dX12_readDish_7 rfl ?_
  refine r_jn (R := rV) (J := fun (KJ1 : St → St) (OJ1 : St → Prop) => ∀ (T301 : St), OJ1 T301 → tR X 5 mX12_readDish 17 [some (.ref (571 : Nat)), none, none, none] [] T301 (rV (KJ1 T301)).1 (rV (KJ1 T301)).2) kk (fun T301 kk => ?_) (fun KJ1 OJ1 hJ1 kk => ?_)
  · skip
    refine r_p (pc2 := 18) dX12_readDish_17 rfl rfl ?_
    refine r_ci (x := 1) dX12_readDish_18 rfl ?_
    obtain ⟨q1, kk⟩ := kk
    refine r_cv (d1 := 3) dX12_readDish_19 cvX12_172 rfl rfl rfl rfl (Nat.le_of_ble_eq_true rfl) (Nat.le_of_ble_eq_true rfl) (Nat.le_of_ble_eq_true rfl) (c_m_must 1 q1) ?_
    refine r_p (pc2 := 23) dX12_readDish_22 rfl rfl ?_
    refine r_get dX12_readDish_23 fkX12_22 rfl rfl ?_
    refine r_cb (x := 16) dX12_readDish_26 rfl ?_
    refine r_ia dX12_readDish_28 rfl (in_c (by decide)) ?_
    refine r_nI (R := rV) rfl kk (fun i1 kk => ?_)
    refine r_p (pc2 := 30) (L2 := [some (.ref (571 : Nat)), some (.int i1), none, none]) dX12_readDish_29 rfl rfl ?_
    refine r_cb (x := 18) dX12_readDish_30 rfl ?_
    refine r_ci (x := 5) dX12_readDish_32 rfl ?_
    refine r_p (pc2 := 34) dX12_readDish_33 rfl rfl ?_
    refine r_p (pc2 := 35) dX12_readDish_34 rfl rfl ?_
    refine r_p (pc2 := 36) dX12_readDish_35 rfl rfl ?_
    refine r_p (pc2 := 37) (L2 := [some (.ref (571 : Nat)), some (.int i1), some (.int (18 + (5 * i1))), none]) dX12_readDish_36 rfl rfl ?_
    refine r_p (pc2 := 38) dX12_readDish_37 rfl rfl ?_
    refine r_p (pc2 := 39) dX12_readDish_38 rfl rfl ?_
    refine r_ci (x := 0) dX12_readDish_39 rfl ?_
    refine r_ci (x := 2) dX12_readDish_40 rfl ?_
    obtain ⟨q2, kk⟩ := kk
    refine r_cv (d1 := 4) dX12_readDish_41 cvX12_190 rfl rfl rfl rfl (Nat.le_of_ble_eq_true rfl) (Nat.le_of_ble_eq_true rfl) (Nat.le_of_ble_eq_true rfl) (c_m_number (18 + (5 * i1)) 0 2 q2) ?_
    refine r_p (pc2 := 45) dX12_readDish_44 rfl rfl ?_
    refine r_p (pc2 := 46) dX12_readDish_45 rfl rfl ?_
    refine r_ci (x := 1) dX12_readDish_46 rfl ?_
    refine r_p (pc2 := 48) dX12_readDish_47 rfl rfl ?_
    refine r_ci (x := 0) dX12_readDish_48 rfl ?_
    refine r_cb (x := 9) dX12_readDish_49 rfl ?_
    obtain ⟨q3, kk⟩ := kk
    refine r_cv (d1 := 4) dX12_readDish_51 cvX12_190 rfl rfl rfl rfl (Nat.le_of_ble_eq_true rfl) (Nat.le_of_ble_eq_true rfl) (Nat.le_of_ble_eq_true rfl) (c_m_number ((18 + (5 * i1)) + 1) 0 9 q3) ?_
    refine r_p (pc2 := 55) dX12_readDish_54 rfl rfl ?_
    refine r_p (pc2 := 56) dX12_readDish_55 rfl rfl ?_
    refine r_ci (x := 2) dX12_readDish_56 rfl ?_
    refine r_p (pc2 := 58) dX12_readDish_57 rfl rfl ?_
    refine r_ci (x := 0) dX12_readDish_58 rfl ?_
    refine r_ci (x := 1) dX12_readDish_59 rfl ?_
    obtain ⟨q4, kk⟩ := kk
    refine r_cv (d1 := 4) dX12_readDish_60 cvX12_190 rfl rfl rfl rfl (Nat.le_of_ble_eq_true rfl) (Nat.le_of_ble_eq_true rfl) (Nat.le_of_ble_eq_true rfl) (c_m_number ((18 + (5 * i1)) + 2) 0 1 q4) ?_
    refine r_nT (R := rV) rfl kk (fun T2 kk => ?_)
    refine r_p (pc2 := 64) dX12_readDish_63 rfl rfl ?_
    obtain ⟨q5, kk⟩ := kk
    refine r_cv (d1 := 4) dX12_readDish_64 cvX12_194 rfl rfl rfl rfl (Nat.le_of_ble_eq_true rfl) (Nat.le_of_ble_eq_true rfl) (Nat.le_of_ble_eq_true rfl) (c_m_mustEnd  q5) ?_
    refine r_p (pc2 := 68) dX12_readDish_67 rfl rfl ?_
    refine r_get dX12_readDish_68 fkX12_159 rfl rfl ?_
    refine r_ile dX12_readDish_71 rfl (fun c71_2 => ?_) (fun c71_2 => ?_)
    · refine r_ip (R := rV) c71_2 ?_
      have kk := kk c71_2
      refine r_p (pc2 := 76) dX12_readDish_75 rfl rfl ?_
      refine r_get dX12_readDish_76 fkX12_22 rfl rfl ?_
      refine r_p (pc2 := 80) dX12_readDish_79 rfl rfl ?_
      refine r_ci (x := 4) dX12_readDish_80 rfl ?_
      refine r_p (pc2 := 82) dX12_readDish_81 rfl rfl ?_
      refine r_p (pc2 := 83) dX12_readDish_82 rfl rfl ?_
      refine r_get dX12_readDish_83 fkX12_22 rfl rfl ?_
      refine r_cb (x := 17) dX12_readDish_86 rfl ?_
      refine r_ia dX12_readDish_88 rfl (in_c (by decide)) ?_
      obtain ⟨q6, kk⟩ := kk
      refine r_ias dX12_readDish_89 rfl q6 ?_
      refine r_nT (R := rV) rfl kk (fun T3 kk => ?_)
      refine r_p (pc2 := 91) dX12_readDish_90 rfl rfl ?_
      refine r_get dX12_readDish_91 fkX12_22 rfl rfl ?_
      refine r_p (pc2 := 95) dX12_readDish_94 rfl rfl ?_
      refine r_ci (x := 3) dX12_readDish_95 rfl ?_
      refine r_p (pc2 := 97) dX12_readDish_96 rfl rfl ?_
      refine r_ci (x := 0) dX12_readDish_97 rfl ?_
      obtain ⟨q7, kk⟩ := kk
      refine r_ias dX12_readDish_98 rfl q7 ?_
      refine r_p (pc2 := 100) dX12_readDish_99 rfl rfl ?_
      obtain ⟨q8, kk⟩ := kk
      refine r_cv (d1 := 2) dX12_readDish_100 cvX12_197 rfl rfl rfl rfl (Nat.le_of_ble_eq_true rfl) (Nat.le_of_ble_eq_true rfl) (Nat.le_of_ble_eq_true rfl) (c_m_kindOfWord  q8) ?_
      refine r_nI (R := rV) rfl kk (fun i4 kk => ?_)
      refine r_p (pc2 := 104) (L2 := [some (.ref (571 : Nat)), some (.int i1), some (.int (18 + (5 * i1))), some (.int i4)]) dX12_readDish_103 rfl rfl ?_
      refine r_p (pc2 := 105) dX12_readDish_104 rfl rfl ?_
      refine r_k dX12_readDish_105 kkX12_137 ?_
      refine r_jn (R := rV) (J := fun (KJ2 : St → St) (OJ2 : St → Prop) => ∀ (T302 : St), OJ2 T302 → tR X 5 mX12_readDish 115 [some (.ref (571 : Nat)), some (.int i1), some (.int (18 + (5 * i1))), some (.int i4)] [] T302 (rV (KJ2 T302)).1 (rV (KJ2 T302)).2) kk (fun T302 kk => ?_) (fun KJ2 OJ2 hJ2 kk => ?_)
      · skip
        show tR _ _ _ _ [some (.ref (571 : Nat)), some (.int i1), some (.int (18 + (5 * i1))), some (.int i4)] _ _ _ _
        refine (c_m_readDish_115 i1 (18 + (5 * i1)) (fun w1_3 T201 kk => ?_) 1000 i4 T302 kk)
        · skip
          refine r_p (pc2 := 143) dX12_readDish_142 rfl rfl ?_
          refine r_get dX12_readDish_143 fkX12_22 rfl rfl ?_
          refine r_cb (x := 16) dX12_readDish_146 rfl ?_
          refine r_p (pc2 := 149) dX12_readDish_148 rfl rfl ?_
          refine r_ia dX12_readDish_149 rfl (in_c (by decide)) ?_
          refine r_ci (x := 1) dX12_readDish_150 rfl ?_
          refine r_p (pc2 := 152) dX12_readDish_151 rfl rfl ?_
          refine r_ias dX12_readDish_152 rfl (in_c (by decide)) ?_
          exact r_qV dX12_readDish_153 rfl rfl
      refine r_cne dX12_readDish_107 rfl (fun c107_6 => ?_) (fun c107_6 => ?_)
      · refine r_in (R := rV) c107_6 ?_
        have kk := kk.2 c107_6
        show tR _ _ _ _ [some (.ref (571 : Nat)), some (.int i1), some (.int (18 + (5 * i1))), some (.int i4)] [] _ _ _
        exact (hJ2 (sA T3 576 ((18 + (5 * i1)) + 3 : Int32).toNatClampNeg 0) kk)
      · refine r_ip (R := rV) c107_6 ?_
        have kk := kk.1 c107_6
        refine r_p (pc2 := 111) dX12_readDish_110 rfl rfl ?_
        refine r_ci (x := 1) dX12_readDish_111 rfl ?_
        refine r_cv (d1 := 1) dX12_readDish_112 cvX12_165 rfl rfl rfl rfl (Nat.le_of_ble_eq_true rfl) (Nat.le_of_ble_eq_true rfl) (Nat.le_of_ble_eq_true rfl) (c_m_bad 1) ?_
        show tR _ _ _ _ [some (.ref (571 : Nat)), some (.int i1), some (.int (18 + (5 * i1))), some (.int i4)] [] _ _ _
        exact (hJ2 (x_m_bad (sA T3 576 ((18 + (5 * i1)) + 3 : Int32).toNatClampNeg 0) 1) kk)
    · refine r_in (R := rV) c71_2 ?_
      exact r_qV dX12_readDish_74 rfl rfl
  refine r_cne dX12_readDish_9 rfl (fun c9_7 => ?_) (fun c9_7 => ?_)
  · refine r_in (R := rV) c9_7 ?_
    have kk := kk.2 c9_7
    show tR _ _ _ _ [some (.ref (571 : Nat)), none, none, none] [] _ _ _
    exact (hJ1 T kk)
  · refine r_ip (R := rV) c9_7 ?_
    have kk := kk.1 c9_7
    refine r_p (pc2 := 13) dX12_readDish_12 rfl rfl ?_
    refine r_ci (x := 3) dX12_readDish_13 rfl ?_
    refine r_cv (d1 := 1) dX12_readDish_14 cvX12_165 rfl rfl rfl rfl (Nat.le_of_ble_eq_true rfl) (Nat.le_of_ble_eq_true rfl) (Nat.le_of_ble_eq_true rfl) (c_m_bad 3) ?_
    show tR _ _ _ _ [some (.ref (571 : Nat)), none, none, none] [] _ _ _
    exact (hJ1 (x_m_bad T 3) kk)
