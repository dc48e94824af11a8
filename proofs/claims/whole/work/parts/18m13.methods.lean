def x_rd_stepWord (T : St)  : Int32 := if (x_rd_isWord T 3) = 0 then (if (x_rd_isWord T 4) = 0 then (if (x_rd_isWord T 5) = 0 then (if (x_rd_isWord T 6) = 0 then (if (x_rd_isWord T 7) = 0 then (-1) else (4)) else (3)) else (2)) else (1)) else (0)
def ok_rd_stepWord (T : St)  : Prop := (ok_rd_isWord T 3) ∧ ((x_rd_isWord T 3) = 0 → (ok_rd_isWord T 4) ∧ ((x_rd_isWord T 4) = 0 → (ok_rd_isWord T 5) ∧ ((x_rd_isWord T 5) = 0 → (ok_rd_isWord T 6) ∧ ((x_rd_isWord T 6) = 0 → (ok_rd_isWord T 7) ∧ True))))
theorem c_rd_stepWord {X : Nat × (Nat → Int32)} {T : St}  (kk : ok_rd_stepWord T ) : tC X 6 mX6_stepWord [.ref (13 : Nat)] T (some (.int (x_rd_stepWord T))) T := by
  unfold ok_rd_stepWord at kk
  refine tC_orIp (L := [some (.ref (13 : Nat))]) (x_rd_stepWord T ) rfl ?_
  unfold x_rd_stepWord
  refine r_p (pc2 := 1) dX6_stepWord_0 rfl rfl ?_
  refine r_ks 3 rfl dX6_stepWord_1 rfl ?_
  obtain ⟨q1, kk⟩ := kk
  refine r_cv (d1 := 5) dX6_stepWord_3 cvX6_39 rfl rfl rfl rfl (Nat.le_of_ble_eq_true rfl) (Nat.le_of_ble_eq_true rfl) (Nat.le_of_ble_eq_true rfl) (c_rd_isWord 3 q1) ?_
  refine r_ieq dX6_stepWord_6 rfl (fun c6_1 => ?_) (fun c6_1 => ?_)
  · refine r_ip (R := (rIp T)) c6_1 ?_
    have kk := kk c6_1
    refine r_p (pc2 := 12) dX6_stepWord_11 rfl rfl ?_
    refine r_ks 4 rfl dX6_stepWord_12 rfl ?_
    obtain ⟨q2, kk⟩ := kk
    refine r_cv (d1 := 5) dX6_stepWord_14 cvX6_39 rfl rfl rfl rfl (Nat.le_of_ble_eq_true rfl) (Nat.le_of_ble_eq_true rfl) (Nat.le_of_ble_eq_true rfl) (c_rd_isWord 4 q2) ?_
    refine r_ieq dX6_stepWord_17 rfl (fun c17_2 => ?_) (fun c17_2 => ?_)
    · refine r_ip (R := (rIp T)) c17_2 ?_
      have kk := kk c17_2
      refine r_p (pc2 := 23) dX6_stepWord_22 rfl rfl ?_
      refine r_ks 5 rfl dX6_stepWord_23 rfl ?_
      obtain ⟨q3, kk⟩ := kk
      refine r_cv (d1 := 5) dX6_stepWord_25 cvX6_39 rfl rfl rfl rfl (Nat.le_of_ble_eq_true rfl) (Nat.le_of_ble_eq_true rfl) (Nat.le_of_ble_eq_true rfl) (c_rd_isWord 5 q3) ?_
      refine r_ieq dX6_stepWord_28 rfl (fun c28_3 => ?_) (fun c28_3 => ?_)
      · refine r_ip (R := (rIp T)) c28_3 ?_
        have kk := kk c28_3
        refine r_p (pc2 := 34) dX6_stepWord_33 rfl rfl ?_
        refine r_ks 6 rfl dX6_stepWord_34 rfl ?_
        obtain ⟨q4, kk⟩ := kk
        refine r_cv (d1 := 5) dX6_stepWord_36 cvX6_39 rfl rfl rfl rfl (Nat.le_of_ble_eq_true rfl) (Nat.le_of_ble_eq_true rfl) (Nat.le_of_ble_eq_true rfl) (c_rd_isWord 6 q4) ?_
        refine r_ieq dX6_stepWord_39 rfl (fun c39_4 => ?_) (fun c39_4 => ?_)
        · refine r_ip (R := (rIp T)) c39_4 ?_
          have kk := kk c39_4
          refine r_p (pc2 := 45) dX6_stepWord_44 rfl rfl ?_
          refine r_ks 7 rfl dX6_stepWord_45 rfl ?_
          obtain ⟨q5, kk⟩ := kk
          refine r_cv (d1 := 5) dX6_stepWord_47 cvX6_39 rfl rfl rfl rfl (Nat.le_of_ble_eq_true rfl) (Nat.le_of_ble_eq_true rfl) (Nat.le_of_ble_eq_true rfl) (c_rd_isWord 7 q5) ?_
          refine r_ieq dX6_stepWord_50 rfl (fun c50_5 => ?_) (fun c50_5 => ?_)
          · refine r_ip (R := (rIp T)) c50_5 ?_
            refine r_ci (x := -1) dX6_stepWord_57 rfl ?_
            exact r_qIp dX6_stepWord_58 rfl rfl rfl
          · refine r_in (R := (rIp T)) c50_5 ?_
            refine r_ci (x := 4) dX6_stepWord_53 rfl ?_
            refine r_go dX6_stepWord_54 rfl ?_
            exact r_qIp dX6_stepWord_58 rfl rfl rfl
        · refine r_in (R := (rIp T)) c39_4 ?_
          refine r_ci (x := 3) dX6_stepWord_42 rfl ?_
          exact r_qIp dX6_stepWord_43 rfl rfl rfl
      · refine r_in (R := (rIp T)) c28_3 ?_
        refine r_ci (x := 2) dX6_stepWord_31 rfl ?_
        exact r_qIp dX6_stepWord_32 rfl rfl rfl
    · refine r_in (R := (rIp T)) c17_2 ?_
      refine r_ci (x := 1) dX6_stepWord_20 rfl ?_
      exact r_qIp dX6_stepWord_21 rfl rfl rfl
  · refine r_in (R := (rIp T)) c6_1 ?_
    refine r_ci (x := 0) dX6_stepWord_9 rfl ?_
    exact r_qIp dX6_stepWord_10 rfl rfl rfl
def x_rd_advance_8  (K : St → St) : Nat → St → St
  | 0, T => T
  | f + 1, T => if (T.1 13 1) ≤ (T.1 13 3) then (K  T) else (jn (fun (KJ1 : St) => if (T.2.2.1 14 (T.1 13 3 : Int32).toNatClampNeg) = 32 then (KJ1) else (if (T.2.2.1 14 (T.1 13 3 : Int32).toNatClampNeg) = 10 then (KJ1) else (K  T))) (x_rd_advance_8 K f  (sF T 13 3 ((T.1 13 3) + 1))))
def ok_rd_advance_8  (Kk : St → Prop) : Nat → St → Prop
  | 0, _ => False
  | f + 1, T => (((T.1 13 1) ≤ (T.1 13 3) → Kk  T) ∧ (¬ (T.1 13 1) ≤ (T.1 13 3) → (vp_in (T.1 13 3) 600) ∧ jn (fun (OJ1 : Prop) => (((T.2.2.1 14 (T.1 13 3 : Int32).toNatClampNeg) = 32 → OJ1) ∧ (¬ (T.2.2.1 14 (T.1 13 3 : Int32).toNatClampNeg) = 32 → (((T.2.2.1 14 (T.1 13 3 : Int32).toNatClampNeg) = 10 → OJ1) ∧ (¬ (T.2.2.1 14 (T.1 13 3 : Int32).toNatClampNeg) = 10 → Kk  T))))) (ok_rd_advance_8 Kk f  (sF T 13 3 ((T.1 13 3) + 1)))))
theorem c_rd_advance_8 {X : Nat × (Nat → Int32)}  {K : St → St} {Kk : St → Prop} (hk : ∀  (T : St), Kk  T → tR X 1 mX6_advance 60 [some (.ref (13 : Nat))] [] T (rV (K  T)).1 ((rV (K  T)).2)) : ∀ (f : Nat)  (T : St), ok_rd_advance_8  Kk f  T → tR X 1 mX6_advance 8 [some (.ref (13 : Nat))] [] T (rV (x_rd_advance_8 K f T)).1 ((rV (x_rd_advance_8 K f T)).2) := by
  intro f
  induction f with
  | zero => intro  T kk; exact kk.elim
  | succ f ih =>
    intro  T kk
    rw [ok_rd_advance_8] at kk
    rw [x_rd_advance_8]
    refine r_p (pc2 := 9) dX6_advance_8 rfl rfl ?_
    refine r_get dX6_advance_9 fkX6_147 rfl rfl ?_
    refine r_p (pc2 := 13) dX6_advance_12 rfl rfl ?_
    refine r_get dX6_advance_13 fkX6_15 rfl rfl ?_
    refine r_cge dX6_advance_16 rfl (fun c16_1 => ?_) (fun c16_1 => ?_)
    · refine r_ip (R := rV) c16_1 ?_
      have kk := kk.1 c16_1
      show tR _ _ _ _ [some (.ref (13 : Nat))] _ _ _ _
      exact (hk  T kk)
    · refine r_in (R := rV) c16_1 ?_
      have kk := kk.2 c16_1
      refine r_p (pc2 := 20) dX6_advance_19 rfl rfl ?_
      refine r_get dX6_advance_20 fkX6_11 rfl rfl ?_
      refine r_p (pc2 := 24) dX6_advance_23 rfl rfl ?_
      refine r_get dX6_advance_24 fkX6_147 rfl rfl ?_
      obtain ⟨q1, kk⟩ := kk
      refine r_ia dX6_advance_27 rfl q1 ?_
      refine r_cb (x := 32) dX6_advance_28 rfl ?_
      refine r_jn (R := rV) (J := fun (KJ1 : St) (OJ1 : Prop) => OJ1 → tR X 1 mX6_advance 47 [some (.ref (13 : Nat))] [] T (rV KJ1).1 (rV KJ1).2) kk (fun  kk => ?_) (fun KJ1 OJ1 hJ1 kk => ?_)
      · skip
        refine r_p (pc2 := 48) dX6_advance_47 rfl rfl ?_
        refine r_p (pc2 := 49) dX6_advance_48 rfl rfl ?_
        refine r_get dX6_advance_49 fkX6_147 rfl rfl ?_
        refine r_ci (x := 1) dX6_advance_52 rfl ?_
        refine r_p (pc2 := 54) dX6_advance_53 rfl rfl ?_
        refine r_put dX6_advance_54 fkX6_147 rfl rfl rfl (Nat.le_of_ble_eq_true rfl) rfl rfl ?_
        refine r_go dX6_advance_57 rfl ?_
        show tR _ _ _ _ [some (.ref (13 : Nat))] _ _ _ _
        exact (ih  (sF T 13 3 ((T.1 13 3) + 1)) kk)
      refine r_ceq dX6_advance_30 rfl (fun c30_4 => ?_) (fun c30_4 => ?_)
      · refine r_ip (R := rV) c30_4 ?_
        have kk := kk.1 c30_4
        show tR _ _ _ _ [some (.ref (13 : Nat))] [] _ _ _
        exact (hJ1  kk)
      · refine r_in (R := rV) c30_4 ?_
        have kk := kk.2 c30_4
        refine r_p (pc2 := 34) dX6_advance_33 rfl rfl ?_
        refine r_get dX6_advance_34 fkX6_11 rfl rfl ?_
        refine r_p (pc2 := 38) dX6_advance_37 rfl rfl ?_
        refine r_get dX6_advance_38 fkX6_147 rfl rfl ?_
        refine r_ia dX6_advance_41 rfl q1 ?_
        refine r_cb (x := 10) dX6_advance_42 rfl ?_
        refine r_cne dX6_advance_44 rfl (fun c44_5 => ?_) (fun c44_5 => ?_)
        · refine r_in (R := rV) c44_5 ?_
          have kk := kk.2 c44_5
          show tR _ _ _ _ [some (.ref (13 : Nat))] _ _ _ _
          exact (hk  T kk)
        · refine r_ip (R := rV) c44_5 ?_
          have kk := kk.1 c44_5
          show tR _ _ _ _ [some (.ref (13 : Nat))] [] _ _ _
          exact (hJ1  kk)
def x_rd_advance_115  (K : St → St) : Nat → St → St
  | 0, T => T
  | f + 1, T => if (T.1 13 1) ≤ (T.1 13 4) then (K  T) else (if (T.2.2.1 14 (T.1 13 4 : Int32).toNatClampNeg) < 97 then (K  T) else (if 122 < (T.2.2.1 14 (T.1 13 4 : Int32).toNatClampNeg) then (K  T) else (x_rd_advance_115 K f  (sF T 13 4 ((T.1 13 4) + 1)))))
def ok_rd_advance_115  (Kk : St → Prop) : Nat → St → Prop
  | 0, _ => False
  | f + 1, T => (((T.1 13 1) ≤ (T.1 13 4) → Kk  T) ∧ (¬ (T.1 13 1) ≤ (T.1 13 4) → (vp_in (T.1 13 4) 600) ∧ (((T.2.2.1 14 (T.1 13 4 : Int32).toNatClampNeg) < 97 → Kk  T) ∧ (¬ (T.2.2.1 14 (T.1 13 4 : Int32).toNatClampNeg) < 97 → ((122 < (T.2.2.1 14 (T.1 13 4 : Int32).toNatClampNeg) → Kk  T) ∧ (¬ 122 < (T.2.2.1 14 (T.1 13 4 : Int32).toNatClampNeg) → ok_rd_advance_115 Kk f  (sF T 13 4 ((T.1 13 4) + 1))))))))
theorem c_rd_advance_115 {X : Nat × (Nat → Int32)}  {K : St → St} {Kk : St → Prop} (hk : ∀  (T : St), Kk  T → tR X 1 mX6_advance 167 [some (.ref (13 : Nat))] [] T (rV (K  T)).1 ((rV (K  T)).2)) : ∀ (f : Nat)  (T : St), ok_rd_advance_115  Kk f  T → tR X 1 mX6_advance 115 [some (.ref (13 : Nat))] [] T (rV (x_rd_advance_115 K f T)).1 ((rV (x_rd_advance_115 K f T)).2) := by
  intro f
  induction f with
  | zero => intro  T kk; exact kk.elim
  | succ f ih =>
    intro  T kk
    rw [ok_rd_advance_115] at kk
    rw [x_rd_advance_115]
    refine r_p (pc2 := 116) dX6_advance_115 rfl rfl ?_
    refine r_get dX6_advance_116 fkX6_27 rfl rfl ?_
    refine r_p (pc2 := 120) dX6_advance_119 rfl rfl ?_
    refine r_get dX6_advance_120 fkX6_15 rfl rfl ?_
    refine r_cge dX6_advance_123 rfl (fun c123_9 => ?_) (fun c123_9 => ?_)
    · refine r_ip (R := rV) c123_9 ?_
      have kk := kk.1 c123_9
      show tR _ _ _ _ [some (.ref (13 : Nat))] _ _ _ _
      exact (hk  T kk)
    · refine r_in (R := rV) c123_9 ?_
      have kk := kk.2 c123_9
      refine r_p (pc2 := 127) dX6_advance_126 rfl rfl ?_
      refine r_get dX6_advance_127 fkX6_11 rfl rfl ?_
      refine r_p (pc2 := 131) dX6_advance_130 rfl rfl ?_
      refine r_get dX6_advance_131 fkX6_27 rfl rfl ?_
      obtain ⟨q3, kk⟩ := kk
      refine r_ia dX6_advance_134 rfl q3 ?_
      refine r_cb (x := 97) dX6_advance_135 rfl ?_
      refine r_clt dX6_advance_137 rfl (fun c137_10 => ?_) (fun c137_10 => ?_)
      · refine r_ip (R := rV) c137_10 ?_
        have kk := kk.1 c137_10
        show tR _ _ _ _ [some (.ref (13 : Nat))] _ _ _ _
        exact (hk  T kk)
      · refine r_in (R := rV) c137_10 ?_
        have kk := kk.2 c137_10
        refine r_p (pc2 := 141) dX6_advance_140 rfl rfl ?_
        refine r_get dX6_advance_141 fkX6_11 rfl rfl ?_
        refine r_p (pc2 := 145) dX6_advance_144 rfl rfl ?_
        refine r_get dX6_advance_145 fkX6_27 rfl rfl ?_
        refine r_ia dX6_advance_148 rfl q3 ?_
        refine r_cb (x := 122) dX6_advance_149 rfl ?_
        refine r_cgt dX6_advance_151 rfl (fun c151_11 => ?_) (fun c151_11 => ?_)
        · refine r_ip (R := rV) c151_11 ?_
          have kk := kk.1 c151_11
          show tR _ _ _ _ [some (.ref (13 : Nat))] _ _ _ _
          exact (hk  T kk)
        · refine r_in (R := rV) c151_11 ?_
          have kk := kk.2 c151_11
          refine r_p (pc2 := 155) dX6_advance_154 rfl rfl ?_
          refine r_p (pc2 := 156) dX6_advance_155 rfl rfl ?_
          refine r_get dX6_advance_156 fkX6_27 rfl rfl ?_
          refine r_ci (x := 1) dX6_advance_159 rfl ?_
          refine r_p (pc2 := 161) dX6_advance_160 rfl rfl ?_
          refine r_put dX6_advance_161 fkX6_27 rfl rfl rfl (Nat.le_of_ble_eq_true rfl) rfl rfl ?_
          refine r_go dX6_advance_164 rfl ?_
          show tR _ _ _ _ [some (.ref (13 : Nat))] _ _ _ _
          exact (ih  (sF T 13 4 ((T.1 13 4) + 1)) kk)
def x_rd_advance (T : St)  : St := x_rd_advance_8  (fun  (T201 : St) => if ((sF T201 13 4 (T201.1 13 3)).1 13 3) < ((sF T201 13 4 (T201.1 13 3)).1 13 1) then (jn (fun (KJ2 : St) => if ((sF T201 13 4 (T201.1 13 3)).2.2.1 14 ((sF T201 13 4 (T201.1 13 3)).1 13 3 : Int32).toNatClampNeg) < 97 then (KJ2) else (if 122 < ((sF T201 13 4 (T201.1 13 3)).2.2.1 14 ((sF T201 13 4 (T201.1 13 3)).1 13 3 : Int32).toNatClampNeg) then (KJ2) else (x_rd_advance_115  (fun  (T203 : St) => sF T203 13 5 1) 1000  (sF T201 13 4 (T201.1 13 3))))) (jn (fun (KJ3 : St) => if ((sF T201 13 4 (T201.1 13 3)).2.2.1 14 ((sF T201 13 4 (T201.1 13 3)).1 13 3 : Int32).toNatClampNeg) < 48 then (KJ3) else (if 57 < ((sF T201 13 4 (T201.1 13 3)).2.2.1 14 ((sF T201 13 4 (T201.1 13 3)).1 13 3 : Int32).toNatClampNeg) then (KJ3) else (x_rd_takeFigures (sF T201 13 4 (T201.1 13 3))))) (jn (fun (KJ4 : Int32 → St) => if ((sF T201 13 4 (T201.1 13 3)).2.2.1 14 ((sF T201 13 4 (T201.1 13 3)).1 13 3 : Int32).toNatClampNeg) = 59 then (KJ4 3) else (KJ4 4)) (fun (j4_s1 : Int32) => sF (sF (sF T201 13 4 (T201.1 13 3)) 13 5 j4_s1) 13 4 (((sF (sF T201 13 4 (T201.1 13 3)) 13 5 j4_s1).1 13 4) + 1))))) else (sF (sF T201 13 4 (T201.1 13 3)) 13 5 0)) 1000  (sF T 13 3 (T.1 13 4))
def ok_rd_advance (T : St)  : Prop := ok_rd_advance_8  (fun  (T201 : St) => (((sF T201 13 4 (T201.1 13 3)).1 13 3) < ((sF T201 13 4 (T201.1 13 3)).1 13 1) → (vp_in ((sF T201 13 4 (T201.1 13 3)).1 13 3) 600) ∧ jn (fun (OJ2 : Prop) => ((((sF T201 13 4 (T201.1 13 3)).2.2.1 14 ((sF T201 13 4 (T201.1 13 3)).1 13 3 : Int32).toNatClampNeg) < 97 → OJ2) ∧ (¬ ((sF T201 13 4 (T201.1 13 3)).2.2.1 14 ((sF T201 13 4 (T201.1 13 3)).1 13 3 : Int32).toNatClampNeg) < 97 → ((122 < ((sF T201 13 4 (T201.1 13 3)).2.2.1 14 ((sF T201 13 4 (T201.1 13 3)).1 13 3 : Int32).toNatClampNeg) → OJ2) ∧ (¬ 122 < ((sF T201 13 4 (T201.1 13 3)).2.2.1 14 ((sF T201 13 4 (T201.1 13 3)).1 13 3 : Int32).toNatClampNeg) → ok_rd_advance_115  (fun  (T203 : St) => True) 1000  (sF T201 13 4 (T201.1 13 3))))))) ((¬ ((sF T201 13 4 (T201.1 13 3)).2.2.1 14 ((sF T201 13 4 (T201.1 13 3)).1 13 3 : Int32).toNatClampNeg) < 48 → (¬ 57 < ((sF T201 13 4 (T201.1 13 3)).2.2.1 14 ((sF T201 13 4 (T201.1 13 3)).1 13 3 : Int32).toNatClampNeg) → (ok_rd_takeFigures (sF T201 13 4 (T201.1 13 3))) ∧ True))))) 1000  (sF T 13 3 (T.1 13 4))
theorem c_rd_advance {X : Nat × (Nat → Int32)} {T : St}  (kk : ok_rd_advance T ) : tC X 2 mX6_advance [.ref (13 : Nat)] T none (x_rd_advance T) := by
  unfold ok_rd_advance at kk
  refine tC_orV (L := [some (.ref (13 : Nat))]) (x_rd_advance T ) rfl ?_
  unfold x_rd_advance
  refine r_p (pc2 := 1) dX6_advance_0 rfl rfl ?_
  refine r_p (pc2 := 2) dX6_advance_1 rfl rfl ?_
  refine r_get dX6_advance_2 fkX6_27 rfl rfl ?_
  refine r_put dX6_advance_5 fkX6_147 rfl rfl rfl (Nat.le_of_ble_eq_true rfl) rfl rfl ?_
  show tR _ _ _ _ [some (.ref (13 : Nat))] _ _ _ _
  refine (c_rd_advance_8  (fun  T201 kk => ?_) 1000  (sF T 13 3 (T.1 13 4)) kk)
  · skip
    refine r_p (pc2 := 61) dX6_advance_60 rfl rfl ?_
    refine r_p (pc2 := 62) dX6_advance_61 rfl rfl ?_
    refine r_get dX6_advance_62 fkX6_147 rfl rfl ?_
    refine r_put dX6_advance_65 fkX6_27 rfl rfl rfl (Nat.le_of_ble_eq_true rfl) rfl rfl ?_
    refine r_p (pc2 := 69) dX6_advance_68 rfl rfl ?_
    refine r_get dX6_advance_69 fkX6_147 rfl rfl ?_
    refine r_p (pc2 := 73) dX6_advance_72 rfl rfl ?_
    refine r_get dX6_advance_73 fkX6_15 rfl rfl ?_
    refine r_clt dX6_advance_76 rfl (fun c76_6 => ?_) (fun c76_6 => ?_)
    · refine r_ip (R := rV) c76_6 ?_
      have kk := kk c76_6
      refine r_p (pc2 := 88) dX6_advance_87 rfl rfl ?_
      refine r_get dX6_advance_88 fkX6_11 rfl rfl ?_
      refine r_p (pc2 := 92) dX6_advance_91 rfl rfl ?_
      refine r_get dX6_advance_92 fkX6_147 rfl rfl ?_
      obtain ⟨q2, kk⟩ := kk
      refine r_ia dX6_advance_95 rfl q2 ?_
      refine r_cb (x := 97) dX6_advance_96 rfl ?_
      refine r_jn (R := rV) (J := fun (KJ2 : St) (OJ2 : Prop) => OJ2 → tR X 1 mX6_advance 175 [some (.ref (13 : Nat))] [] (sF T201 13 4 (T201.1 13 3)) (rV KJ2).1 (rV KJ2).2) kk (fun  kk => ?_) (fun KJ2 OJ2 hJ2 kk => ?_)
      · skip
        refine r_p (pc2 := 176) dX6_advance_175 rfl rfl ?_
        refine r_get dX6_advance_176 fkX6_11 rfl rfl ?_
        refine r_p (pc2 := 180) dX6_advance_179 rfl rfl ?_
        refine r_get dX6_advance_180 fkX6_147 rfl rfl ?_
        refine r_ia dX6_advance_183 rfl q2 ?_
        refine r_cb (x := 48) dX6_advance_184 rfl ?_
        refine r_jn0 (R := rV) (J := fun (KJ3 : St) => tR X 1 mX6_advance 210 [some (.ref (13 : Nat))] [] (sF T201 13 4 (T201.1 13 3)) (rV KJ3).1 (rV KJ3).2) (?_) (fun KJ3 hJ3 => ?_)
        · skip
          refine r_p (pc2 := 211) dX6_advance_210 rfl rfl ?_
          refine r_p (pc2 := 212) dX6_advance_211 rfl rfl ?_
          refine r_get dX6_advance_212 fkX6_11 rfl rfl ?_
          refine r_p (pc2 := 216) dX6_advance_215 rfl rfl ?_
          refine r_get dX6_advance_216 fkX6_147 rfl rfl ?_
          refine r_ia dX6_advance_219 rfl q2 ?_
          refine r_cb (x := 59) dX6_advance_220 rfl ?_
          refine r_jn0 (R := rV) (J := fun (KJ4 : Int32 → St) => ∀ (j4_s1 : Int32), tR X 1 mX6_advance 230 [some (.ref (13 : Nat))] [.int j4_s1, .ref (13 : Nat)] (sF T201 13 4 (T201.1 13 3)) (rV (KJ4 j4_s1)).1 (rV (KJ4 j4_s1)).2) (fun j4_s1 => ?_) (fun KJ4 hJ4 => ?_)
          · skip
            refine r_put dX6_advance_230 fkX6_49 rfl rfl rfl (Nat.le_of_ble_eq_true rfl) rfl rfl ?_
            refine r_p (pc2 := 234) dX6_advance_233 rfl rfl ?_
            refine r_p (pc2 := 235) dX6_advance_234 rfl rfl ?_
            refine r_get dX6_advance_235 fkX6_27 rfl rfl ?_
            refine r_ci (x := 1) dX6_advance_238 rfl ?_
            refine r_p (pc2 := 240) dX6_advance_239 rfl rfl ?_
            refine r_put dX6_advance_240 fkX6_27 rfl rfl rfl (Nat.le_of_ble_eq_true rfl) rfl rfl ?_
            exact r_qV dX6_advance_243 rfl rfl
          refine r_cne dX6_advance_222 rfl (fun c222_15 => ?_) (fun c222_15 => ?_)
          · refine r_in (R := rV) c222_15 ?_
            refine r_ci (x := 4) dX6_advance_229 rfl ?_
            show tR _ _ _ _ [some (.ref (13 : Nat))] [.int 4, .ref (13 : Nat)] _ _ _
            exact (hJ4 4)
          · refine r_ip (R := rV) c222_15 ?_
            refine r_ci (x := 3) dX6_advance_225 rfl ?_
            refine r_go dX6_advance_226 rfl ?_
            show tR _ _ _ _ [some (.ref (13 : Nat))] [.int 3, .ref (13 : Nat)] _ _ _
            exact (hJ4 3)
        refine r_clt dX6_advance_186 rfl (fun c186_16 => ?_) (fun c186_16 => ?_)
        · refine r_ip (R := rV) c186_16 ?_
          show tR _ _ _ _ [some (.ref (13 : Nat))] [] _ _ _
          exact (hJ3 )
        · refine r_in (R := rV) c186_16 ?_
          have kk := kk c186_16
          refine r_p (pc2 := 190) dX6_advance_189 rfl rfl ?_
          refine r_get dX6_advance_190 fkX6_11 rfl rfl ?_
          refine r_p (pc2 := 194) dX6_advance_193 rfl rfl ?_
          refine r_get dX6_advance_194 fkX6_147 rfl rfl ?_
          refine r_ia dX6_advance_197 rfl q2 ?_
          refine r_cb (x := 57) dX6_advance_198 rfl ?_
          refine r_cgt dX6_advance_200 rfl (fun c200_17 => ?_) (fun c200_17 => ?_)
          · refine r_ip (R := rV) c200_17 ?_
            show tR _ _ _ _ [some (.ref (13 : Nat))] [] _ _ _
            exact (hJ3 )
          · refine r_in (R := rV) c200_17 ?_
            have kk := kk c200_17
            refine r_p (pc2 := 204) dX6_advance_203 rfl rfl ?_
            obtain ⟨q5, kk⟩ := kk
            refine r_cv (d1 := 1) dX6_advance_204 cvX6_158 rfl rfl rfl rfl (Nat.le_of_ble_eq_true rfl) (Nat.le_of_ble_eq_true rfl) (Nat.le_of_ble_eq_true rfl) (c_rd_takeFigures  q5) ?_
            refine r_go dX6_advance_207 rfl ?_
            exact r_qV dX6_advance_243 rfl rfl
      refine r_clt dX6_advance_98 rfl (fun c98_18 => ?_) (fun c98_18 => ?_)
      · refine r_ip (R := rV) c98_18 ?_
        have kk := kk.1 c98_18
        show tR _ _ _ _ [some (.ref (13 : Nat))] [] _ _ _
        exact (hJ2  kk)
      · refine r_in (R := rV) c98_18 ?_
        have kk := kk.2 c98_18
        refine r_p (pc2 := 102) dX6_advance_101 rfl rfl ?_
        refine r_get dX6_advance_102 fkX6_11 rfl rfl ?_
        refine r_p (pc2 := 106) dX6_advance_105 rfl rfl ?_
        refine r_get dX6_advance_106 fkX6_147 rfl rfl ?_
        refine r_ia dX6_advance_109 rfl q2 ?_
        refine r_cb (x := 122) dX6_advance_110 rfl ?_
        refine r_cgt dX6_advance_112 rfl (fun c112_19 => ?_) (fun c112_19 => ?_)
        · refine r_ip (R := rV) c112_19 ?_
          have kk := kk.1 c112_19
          show tR _ _ _ _ [some (.ref (13 : Nat))] [] _ _ _
          exact (hJ2  kk)
        · refine r_in (R := rV) c112_19 ?_
          have kk := kk.2 c112_19
          show tR _ _ _ _ [some (.ref (13 : Nat))] _ _ _ _
          refine (c_rd_advance_115  (fun  T203 kk => ?_) 1000  (sF T201 13 4 (T201.1 13 3)) kk)
          · skip
            refine r_p (pc2 := 168) dX6_advance_167 rfl rfl ?_
            refine r_ci (x := 1) dX6_advance_168 rfl ?_
            refine r_put dX6_advance_169 fkX6_49 rfl rfl rfl (Nat.le_of_ble_eq_true rfl) rfl rfl ?_
            refine r_go dX6_advance_172 rfl ?_
            exact r_qV dX6_advance_243 rfl rfl
    · refine r_in (R := rV) c76_6 ?_
      refine r_p (pc2 := 80) dX6_advance_79 rfl rfl ?_
      refine r_ci (x := 0) dX6_advance_80 rfl ?_
      refine r_put dX6_advance_81 fkX6_49 rfl rfl rfl (Nat.le_of_ble_eq_true rfl) rfl rfl ?_
      refine r_go dX6_advance_84 rfl ?_
      exact r_qV dX6_advance_243 rfl rfl
def x_ro_fill_12 (l0 : Nat) (l1 : Nat) (K : Int32 → St → St) : Nat → Int32 → St → St
  | 0, _, T => T
  | f + 1, v2, T => if (T.1 l1 4) ≤ v2 then (K v2 T) else (if 4 ≤ (T.1 l0 0) then (K v2 T) else (if (((T.1 l1 17) >>> (v2 &&& 31)) &&& 1) = 0 then (x_ro_fill_12 l0 l1 K f (v2 + 1) T) else (jn (fun (T1 : St) => x_ro_fill_12 l0 l1 K f (v2 + 1) (sF T1 l0 0 ((T1.1 l0 0) + 1))) (sA (x_ro_fillDish T l0 l1 v2) (l0 + 1) ((x_ro_fillDish T l0 l1 v2).1 l0 0 : Int32).toNatClampNeg v2))))
def ok_ro_fill_12 (l0 : Nat) (l1 : Nat) (Kk : Int32 → St → Prop) : Nat → Int32 → St → Prop
  | 0, _, _ => False
  | f + 1, v2, T => (sh l1 = .inr 1) ∧ (((T.1 l1 4) ≤ v2 → Kk v2 T) ∧ (¬ (T.1 l1 4) ≤ v2 → (sh l0 = .inr 7) ∧ ((4 ≤ (T.1 l0 0) → Kk v2 T) ∧ (¬ 4 ≤ (T.1 l0 0) → (((((T.1 l1 17) >>> (v2 &&& 31)) &&& 1) = 0 → ok_ro_fill_12 l0 l1 Kk f (v2 + 1) T) ∧ (¬ (((T.1 l1 17) >>> (v2 &&& 31)) &&& 1) = 0 → (ok_ro_fillDish T l0 l1 v2) ∧ (vp_in ((x_ro_fillDish T l0 l1 v2).1 l0 0) 4) ∧ jn (fun (T1 : St) => ok_ro_fill_12 l0 l1 Kk f (v2 + 1) (sF T1 l0 0 ((T1.1 l0 0) + 1))) (sA (x_ro_fillDish T l0 l1 v2) (l0 + 1) ((x_ro_fillDish T l0 l1 v2).1 l0 0 : Int32).toNatClampNeg v2)))))))
theorem c_ro_fill_12 {X : Nat × (Nat → Int32)} (l0 : Nat) (l1 : Nat) {K : Int32 → St → St} {Kk : Int32 → St → Prop} (hk : ∀ (v2 : Int32) (T : St), Kk v2 T → tR X 1 mX7_fill 71 [some (.ref l0), some (.ref l1), some (.int v2)] [] T (rV (K v2 T)).1 ((rV (K v2 T)).2)) : ∀ (f : Nat) (v2 : Int32) (T : St), ok_ro_fill_12 l0 l1 Kk f v2 T → tR X 1 mX7_fill 12 [some (.ref l0), some (.ref l1), some (.int v2)] [] T (rV (x_ro_fill_12 l0 l1 K f v2 T)).1 ((rV (x_ro_fill_12 l0 l1 K f v2 T)).2) := by
  intro f
  induction f with
  | zero => intro v2 T kk; exact kk.elim
  | succ f ih =>
    intro v2 T kk
    rw [ok_ro_fill_12] at kk
    rw [x_ro_fill_12]
    refine r_p (pc2 := 13) dX7_fill_12 rfl rfl ?_
    refine r_p (pc2 := 14) dX7_fill_13 rfl rfl ?_
    obtain ⟨q2, kk⟩ := kk
    refine r_get dX7_fill_14 fkX7_37 q2 rfl ?_
    refine r_cge dX7_fill_17 rfl (fun c17_1 => ?_) (fun c17_1 => ?_)
    · refine r_ip (R := rV) c17_1 ?_
      have kk := kk.1 c17_1
      show tR _ _ _ _ [some (.ref l0), some (.ref l1), some (.int v2)] _ _ _ _
      exact (hk v2 T kk)
    · refine r_in (R := rV) c17_1 ?_
      have kk := kk.2 c17_1
      refine r_p (pc2 := 21) dX7_fill_20 rfl rfl ?_
      obtain ⟨q3, kk⟩ := kk
      refine r_get dX7_fill_21 fkX7_30 q3 rfl ?_
      refine r_ci (x := 4) dX7_fill_24 rfl ?_
      refine r_cge dX7_fill_25 rfl (fun c25_2 => ?_) (fun c25_2 => ?_)
      · refine r_ip (R := rV) c25_2 ?_
        have kk := kk.1 c25_2
        show tR _ _ _ _ [some (.ref l0), some (.ref l1), some (.int v2)] _ _ _ _
        exact (hk v2 T kk)
      · refine r_in (R := rV) c25_2 ?_
        have kk := kk.2 c25_2
        refine r_p (pc2 := 29) dX7_fill_28 rfl rfl ?_
        refine r_get dX7_fill_29 fkX7_40 q2 rfl ?_
        refine r_p (pc2 := 33) dX7_fill_32 rfl rfl ?_
        refine r_p (pc2 := 34) dX7_fill_33 rfl rfl ?_
        refine r_ci (x := 1) dX7_fill_34 rfl ?_
        refine r_p (pc2 := 36) dX7_fill_35 rfl rfl ?_
        refine r_ieq dX7_fill_36 rfl (fun c36_3 => ?_) (fun c36_3 => ?_)
        · refine r_ip (R := rV) c36_3 ?_
          have kk := kk.1 c36_3
          refine r_inc (L2 := [some (.ref l0), some (.ref l1), some (.int (v2 + 1))]) (y := 1) dX7_fill_65 rfl rfl rfl ?_
          refine r_go dX7_fill_68 rfl ?_
          show tR _ _ _ _ [some (.ref l0), some (.ref l1), some (.int (v2 + 1))] _ _ _ _
          exact (ih (v2 + 1) T kk)
        · refine r_in (R := rV) c36_3 ?_
          have kk := kk.2 c36_3
          refine r_p (pc2 := 40) dX7_fill_39 rfl rfl ?_
          refine r_p (pc2 := 41) dX7_fill_40 rfl rfl ?_
          refine r_p (pc2 := 42) dX7_fill_41 rfl rfl ?_
          obtain ⟨q4, kk⟩ := kk
          refine r_cv (d1 := 1) dX7_fill_42 cvX7_43 rfl rfl q3 rfl (Nat.le_of_ble_eq_true rfl) (Nat.le_of_ble_eq_true rfl) (Nat.le_of_ble_eq_true rfl) (c_ro_fillDish l0 l1 v2 q4) ?_
          refine r_p (pc2 := 46) dX7_fill_45 rfl rfl ?_
          refine r_get dX7_fill_46 fkX7_9 q3 rfl ?_
          refine r_p (pc2 := 50) dX7_fill_49 rfl rfl ?_
          refine r_get dX7_fill_50 fkX7_30 q3 rfl ?_
          refine r_p (pc2 := 54) dX7_fill_53 rfl rfl ?_
          obtain ⟨q5, kk⟩ := kk
          refine r_ias dX7_fill_54 (shl7_1 q3) q5 ?_
          refine r_nT (R := rV) rfl kk (fun T1 kk => ?_)
          refine r_p (pc2 := 56) dX7_fill_55 rfl rfl ?_
          refine r_p (pc2 := 57) dX7_fill_56 rfl rfl ?_
          refine r_get dX7_fill_57 fkX7_30 q3 rfl ?_
          refine r_ci (x := 1) dX7_fill_60 rfl ?_
          refine r_p (pc2 := 62) dX7_fill_61 rfl rfl ?_
          refine r_put dX7_fill_62 fkX7_30 rfl q3 rfl (Nat.le_of_ble_eq_true rfl) rfl rfl ?_
          refine r_inc (L2 := [some (.ref l0), some (.ref l1), some (.int (v2 + 1))]) (y := 1) dX7_fill_65 rfl rfl rfl ?_
          refine r_go dX7_fill_68 rfl ?_
          show tR _ _ _ _ [some (.ref l0), some (.ref l1), some (.int (v2 + 1))] _ _ _ _
          exact (ih (v2 + 1) (sF T1 l0 0 ((T1.1 l0 0) + 1)) kk)
def x_ro_fill (T : St) (a : Nat) (p0 : Nat) : St := x_ro_fill_12 a p0 (fun (w1_2 : Int32) (T201 : St) => T201) 1000 0 (sF (sF T a 0 0) a 1 0)
def ok_ro_fill (T : St) (a : Nat) (p0 : Nat) : Prop := (sh a = .inr 7) ∧ ok_ro_fill_12 a p0 (fun (w1_2 : Int32) (T201 : St) => True) 1000 0 (sF (sF T a 0 0) a 1 0)
theorem c_ro_fill {X : Nat × (Nat → Int32)} {T : St} (a : Nat) (p0 : Nat) (kk : ok_ro_fill T a p0) : tC X 2 mX7_fill [.ref a, .ref p0] T none (x_ro_fill T a p0) := by
  unfold ok_ro_fill at kk
  refine tC_orV (L := [some (.ref a), some (.ref p0), none]) (x_ro_fill T a p0) rfl ?_
  unfold x_ro_fill
  refine r_p (pc2 := 1) dX7_fill_0 rfl rfl ?_
  refine r_ci (x := 0) dX7_fill_1 rfl ?_
  obtain ⟨q1, kk⟩ := kk
  refine r_put dX7_fill_2 fkX7_30 rfl q1 rfl (Nat.le_of_ble_eq_true rfl) rfl rfl ?_
  refine r_p (pc2 := 6) dX7_fill_5 rfl rfl ?_
  refine r_ci (x := 0) dX7_fill_6 rfl ?_
  refine r_put dX7_fill_7 fkX7_34 rfl q1 rfl (Nat.le_of_ble_eq_true rfl) rfl rfl ?_
  refine r_ci (x := 0) dX7_fill_10 rfl ?_
  refine r_p (pc2 := 12) (L2 := [some (.ref a), some (.ref p0), some (.int 0)]) dX7_fill_11 rfl rfl ?_
  show tR _ _ _ _ [some (.ref a), some (.ref p0), some (.int 0)] _ _ _ _
  refine (c_ro_fill_12 a p0 (fun w1_2 T201 kk => ?_) 1000 0 (sF (sF T a 0 0) a 1 0) kk)
  · skip
    exact r_qV dX7_fill_71 rfl rfl
def x_wa_lay_33 (l0 : Nat) (l1 : Nat) (l2 : Int32) (l3 : Int32) (K : Int32 → St → St) : Nat → Int32 → St → St
  | 0, _, T => T
  | f + 1, v4, T => if l3 < v4 then (K v4 T) else (jn (fun (k3 : Int64) => jn (fun (i4 : Int32) => jn (fun (i5 : Int32) => jn (fun (KJ1 : St → St) => if i4 = 0 then (jn (fun (T14 : St) => KJ1 T14) (sL T (l0 + 3) (0 : Int32).toNatClampNeg ((T.2.2.2 (l0 + 3) (0 : Int32).toNatClampNeg) ||| k3))) else (KJ1 T)) (fun (T301 : St) => jn (fun (KJ2 : St → St) => if i4 = 0 then (if (T301.2.2.1 (l1 + 13) (l2 + v4 : Int32).toNatClampNeg) = 1 then (jn (fun (T13 : St) => KJ2 T13) (sL T301 (l0 + 3) (1 : Int32).toNatClampNeg ((T301.2.2.2 (l0 + 3) (1 : Int32).toNatClampNeg) ||| k3))) else (KJ2 T301)) else (KJ2 T301)) (fun (T302 : St) => jn (fun (KJ3 : St → St) => if i4 = 1 then (jn (fun (T12 : St) => KJ3 T12) (sL T302 (l0 + 3) (2 : Int32).toNatClampNeg ((T302.2.2.2 (l0 + 3) (2 : Int32).toNatClampNeg) ||| k3))) else (KJ3 T302)) (fun (T303 : St) => jn (fun (KJ4 : St → St) => if i5 = 1 then (jn (fun (T11 : St) => KJ4 T11) (sL T303 (l0 + 3) (3 : Int32).toNatClampNeg ((T303.2.2.2 (l0 + 3) (3 : Int32).toNatClampNeg) ||| (x_x_span T303 (T303.2.2.1 (l0 + 1) (v4 : Int32).toNatClampNeg) 1)))) else (KJ4 T303)) (fun (T304 : St) => if i5 = 2 then (jn (fun (T10 : St) => x_wa_lay_33 l0 l1 l2 l3 K f (v4 + 1) T10) (sL T304 (l0 + 3) (3 : Int32).toNatClampNeg ((T304.2.2.2 (l0 + 3) (3 : Int32).toNatClampNeg) ||| k3))) else (x_wa_lay_33 l0 l1 l2 l3 K f (v4 + 1) T304)))))) (T.2.2.1 (l1 + 12) (l2 + v4 : Int32).toNatClampNeg)) (T.2.2.1 (l1 + 9) (l2 + v4 : Int32).toNatClampNeg)) (x_x_span T (T.2.2.1 (l0 + 1) (v4 : Int32).toNatClampNeg) (T.2.2.1 (l0 + 2) (v4 : Int32).toNatClampNeg)))
def ok_wa_lay_33 (l0 : Nat) (l1 : Nat) (l2 : Int32) (l3 : Int32) (Kk : Int32 → St → Prop) : Nat → Int32 → St → Prop
  | 0, _, _ => False
  | f + 1, v4, T => ((l3 < v4 → Kk v4 T) ∧ (¬ l3 < v4 → (sh l0 = .inr 10) ∧ (vp_in v4 3) ∧ jn (fun (k3 : Int64) => (sh l1 = .inr 1) ∧ (vp_in (l2 + v4) 24) ∧ jn (fun (i4 : Int32) => jn (fun (i5 : Int32) => jn (fun (OJ1 : St → Prop) => ((i4 = 0 → jn (fun (T14 : St) => OJ1 T14) (sL T (l0 + 3) (0 : Int32).toNatClampNeg ((T.2.2.2 (l0 + 3) (0 : Int32).toNatClampNeg) ||| k3))) ∧ (¬ i4 = 0 → OJ1 T))) (fun (T301 : St) => jn (fun (OJ2 : St → Prop) => ((i4 = 0 → (((T301.2.2.1 (l1 + 13) (l2 + v4 : Int32).toNatClampNeg) = 1 → jn (fun (T13 : St) => OJ2 T13) (sL T301 (l0 + 3) (1 : Int32).toNatClampNeg ((T301.2.2.2 (l0 + 3) (1 : Int32).toNatClampNeg) ||| k3))) ∧ (¬ (T301.2.2.1 (l1 + 13) (l2 + v4 : Int32).toNatClampNeg) = 1 → OJ2 T301))) ∧ (¬ i4 = 0 → OJ2 T301))) (fun (T302 : St) => jn (fun (OJ3 : St → Prop) => ((i4 = 1 → jn (fun (T12 : St) => OJ3 T12) (sL T302 (l0 + 3) (2 : Int32).toNatClampNeg ((T302.2.2.2 (l0 + 3) (2 : Int32).toNatClampNeg) ||| k3))) ∧ (¬ i4 = 1 → OJ3 T302))) (fun (T303 : St) => jn (fun (OJ4 : St → Prop) => ((i5 = 1 → jn (fun (T11 : St) => OJ4 T11) (sL T303 (l0 + 3) (3 : Int32).toNatClampNeg ((T303.2.2.2 (l0 + 3) (3 : Int32).toNatClampNeg) ||| (x_x_span T303 (T303.2.2.1 (l0 + 1) (v4 : Int32).toNatClampNeg) 1)))) ∧ (¬ i5 = 1 → OJ4 T303))) (fun (T304 : St) => ((i5 = 2 → jn (fun (T10 : St) => ok_wa_lay_33 l0 l1 l2 l3 Kk f (v4 + 1) T10) (sL T304 (l0 + 3) (3 : Int32).toNatClampNeg ((T304.2.2.2 (l0 + 3) (3 : Int32).toNatClampNeg) ||| k3))) ∧ (¬ i5 = 2 → ok_wa_lay_33 l0 l1 l2 l3 Kk f (v4 + 1) T304))))))) (T.2.2.1 (l1 + 12) (l2 + v4 : Int32).toNatClampNeg)) (T.2.2.1 (l1 + 9) (l2 + v4 : Int32).toNatClampNeg)) (x_x_span T (T.2.2.1 (l0 + 1) (v4 : Int32).toNatClampNeg) (T.2.2.1 (l0 + 2) (v4 : Int32).toNatClampNeg))))
theorem c_wa_lay_33 {X : Nat × (Nat → Int32)} (l0 : Nat) (l1 : Nat) (l2 : Int32) (l3 : Int32) {K : Int32 → St → St} {Kk : Int32 → St → Prop} (hk : ∀ (v4 : Int32) (T : St), Kk v4 T → tR X 1 mX10_lay 191 [some (.ref l0), some (.ref l1), some (.int l2), some (.int l3), some (.int v4), none, none, none, none] [] T (rV (K v4 T)).1 ((rV (K v4 T)).2)) : ∀ (f : Nat) (v4 : Int32) (T : St), ok_wa_lay_33 l0 l1 l2 l3 Kk f v4 T → tR X 1 mX10_lay 33 [some (.ref l0), some (.ref l1), some (.int l2), some (.int l3), some (.int v4), none, none, none, none] [] T (rV (x_wa_lay_33 l0 l1 l2 l3 K f v4 T)).1 ((rV (x_wa_lay_33 l0 l1 l2 l3 K f v4 T)).2) := by
  intro f
  induction f with
  | zero => intro v4 T kk; exact kk.elim
  | succ f ih =>
    intro v4 T kk
    rw [ok_wa_lay_33] at kk
    rw [x_wa_lay_33]
    refine r_p (pc2 := 35) dX10_lay_33 rfl rfl ?_
    refine r_p (pc2 := 36) dX10_lay_35 rfl rfl ?_
    refine r_cgt dX10_lay_36 rfl (fun c36_1 => ?_) (fun c36_1 => ?_)
    · refine r_ip (R := rV) c36_1 ?_
      have kk := kk.1 c36_1
      show tR _ _ _ _ [some (.ref l0), some (.ref l1), some (.int l2), some (.int l3), some (.int v4), none, none, none, none] _ _ _ _
      exact (hk v4 T kk)
    · refine r_in (R := rV) c36_1 ?_
      have kk := kk.2 c36_1
      refine r_p (pc2 := 40) dX10_lay_39 rfl rfl ?_
      obtain ⟨q5, kk⟩ := kk
      refine r_get dX10_lay_40 fkX10_9 q5 rfl ?_
      refine r_p (pc2 := 45) dX10_lay_43 rfl rfl ?_
      obtain ⟨q6, kk⟩ := kk
      refine r_ia dX10_lay_45 (shl10_1 q5) q6 ?_
      refine r_p (pc2 := 47) dX10_lay_46 rfl rfl ?_
      refine r_get dX10_lay_47 fkX10_15 q5 rfl ?_
      refine r_p (pc2 := 52) dX10_lay_50 rfl rfl ?_
      refine r_ia dX10_lay_52 (shl10_2 q5) q6 ?_
      refine r_cs (d1 := 1) dX10_lay_53 csX10_66 rfl rfl (Nat.le_of_ble_eq_true rfl) (Nat.le_of_ble_eq_true rfl) (Nat.le_of_ble_eq_true rfl) (c_x_span (T.2.2.1 (l0 + 1) (v4 : Int32).toNatClampNeg) (T.2.2.1 (l0 + 2) (v4 : Int32).toNatClampNeg)) ?_
      refine r_nJ (R := rV) rfl kk (fun k3 kk => ?_)
      refine r_p (pc2 := 58) (L2 := [some (.ref l0), some (.ref l1), some (.int l2), some (.int l3), some (.int v4), some (.long k3), none, none, none]) dX10_lay_56 rfl rfl ?_
      refine r_p (pc2 := 59) dX10_lay_58 rfl rfl ?_
      obtain ⟨q7, kk⟩ := kk
      refine r_get dX10_lay_59 fkX10_38 q7 rfl ?_
      refine r_p (pc2 := 63) dX10_lay_62 rfl rfl ?_
      refine r_p (pc2 := 65) dX10_lay_63 rfl rfl ?_
      refine r_p (pc2 := 66) dX10_lay_65 rfl rfl ?_
      obtain ⟨q8, kk⟩ := kk
      refine r_ia dX10_lay_66 (shl1_9 q7) q8 ?_
      refine r_nI (R := rV) rfl kk (fun i4 kk => ?_)
      refine r_p (pc2 := 69) (L2 := [some (.ref l0), some (.ref l1), some (.int l2), some (.int l3), some (.int v4), some (.long k3), none, some (.int i4), none]) dX10_lay_67 rfl rfl ?_
      refine r_p (pc2 := 70) dX10_lay_69 rfl rfl ?_
      refine r_get dX10_lay_70 fkX10_70 q7 rfl ?_
      refine r_p (pc2 := 74) dX10_lay_73 rfl rfl ?_
      refine r_p (pc2 := 76) dX10_lay_74 rfl rfl ?_
      refine r_p (pc2 := 77) dX10_lay_76 rfl rfl ?_
      refine r_ia dX10_lay_77 (shl1_12 q7) q8 ?_
      refine r_nI (R := rV) rfl kk (fun i5 kk => ?_)
      refine r_p (pc2 := 80) (L2 := [some (.ref l0), some (.ref l1), some (.int l2), some (.int l3), some (.int v4), some (.long k3), none, some (.int i4), some (.int i5)]) dX10_lay_78 rfl rfl ?_
      refine r_p (pc2 := 82) dX10_lay_80 rfl rfl ?_
      refine r_jn (R := rV) (J := fun (KJ1 : St → St) (OJ1 : St → Prop) => ∀ (T301 : St), OJ1 T301 → tR X 1 mX10_lay 96 [some (.ref l0), some (.ref l1), some (.int l2), some (.int l3), some (.int v4), some (.long k3), none, some (.int i4), some (.int i5)] [] T301 (rV (KJ1 T301)).1 (rV (KJ1 T301)).2) kk (fun T301 kk => ?_) (fun KJ1 OJ1 hJ1 kk => ?_)
      · skip
        refine r_p (pc2 := 98) dX10_lay_96 rfl rfl ?_
        refine r_jn (R := rV) (J := fun (KJ2 : St → St) (OJ2 : St → Prop) => ∀ (T302 : St), OJ2 T302 → tR X 1 mX10_lay 125 [some (.ref l0), some (.ref l1), some (.int l2), some (.int l3), some (.int v4), some (.long k3), none, some (.int i4), some (.int i5)] [] T302 (rV (KJ2 T302)).1 (rV (KJ2 T302)).2) kk (fun T302 kk => ?_) (fun KJ2 OJ2 hJ2 kk => ?_)
        · skip
          refine r_p (pc2 := 127) dX10_lay_125 rfl rfl ?_
          refine r_ci (x := 1) dX10_lay_127 rfl ?_
          refine r_jn (R := rV) (J := fun (KJ3 : St → St) (OJ3 : St → Prop) => ∀ (T303 : St), OJ3 T303 → tR X 1 mX10_lay 142 [some (.ref l0), some (.ref l1), some (.int l2), some (.int l3), some (.int v4), some (.long k3), none, some (.int i4), some (.int i5)] [] T303 (rV (KJ3 T303)).1 (rV (KJ3 T303)).2) kk (fun T303 kk => ?_) (fun KJ3 OJ3 hJ3 kk => ?_)
          · skip
            refine r_p (pc2 := 144) dX10_lay_142 rfl rfl ?_
            refine r_ci (x := 1) dX10_lay_144 rfl ?_
            refine r_jn (R := rV) (J := fun (KJ4 : St → St) (OJ4 : St → Prop) => ∀ (T304 : St), OJ4 T304 → tR X 1 mX10_lay 168 [some (.ref l0), some (.ref l1), some (.int l2), some (.int l3), some (.int v4), some (.long k3), none, some (.int i4), some (.int i5)] [] T304 (rV (KJ4 T304)).1 (rV (KJ4 T304)).2) kk (fun T304 kk => ?_) (fun KJ4 OJ4 hJ4 kk => ?_)
            · skip
              refine r_p (pc2 := 170) dX10_lay_168 rfl rfl ?_
              refine r_ci (x := 2) dX10_lay_170 rfl ?_
              refine r_cne dX10_lay_171 rfl (fun c171_7 => ?_) (fun c171_7 => ?_)
              · refine r_in (R := rV) c171_7 ?_
                have kk := kk.2 c171_7
                refine r_inc (L2 := [some (.ref l0), some (.ref l1), some (.int l2), some (.int l3), some (.int (v4 + 1)), some (.long k3), none, some (.int i4), some (.int i5)]) (y := 1) dX10_lay_185 rfl rfl rfl ?_
                refine r_go dX10_lay_188 rfl ?_
                show tR _ _ _ _ [some (.ref l0), some (.ref l1), some (.int l2), some (.int l3), some (.int (v4 + 1)), some (.long k3), none, some (.int i4), some (.int i5)] _ _ _ _
                exact r_le (le_s (le_s (le_s (le_s (le_s (le_n (le_s (le_n (le_n (le_0)))))))))) (ih (v4 + 1) T304 kk)
              · refine r_ip (R := rV) c171_7 ?_
                have kk := kk.1 c171_7
                refine r_p (pc2 := 175) dX10_lay_174 rfl rfl ?_
                refine r_get dX10_lay_175 fkX10_18 q5 rfl ?_
                refine r_ci (x := 3) dX10_lay_178 rfl ?_
                refine r_p (pc2 := 180) dX10_lay_179 rfl rfl ?_
                refine r_la dX10_lay_180 (shl10_3 q5) (in_c (by decide)) ?_
                refine r_p (pc2 := 183) dX10_lay_181 rfl rfl ?_
                refine r_p (pc2 := 184) dX10_lay_183 rfl rfl ?_
                refine r_las dX10_lay_184 (shl10_3 q5) (in_c (by decide)) ?_
                refine r_nT (R := rV) rfl kk (fun T10 kk => ?_)
                refine r_inc (L2 := [some (.ref l0), some (.ref l1), some (.int l2), some (.int l3), some (.int (v4 + 1)), some (.long k3), none, some (.int i4), some (.int i5)]) (y := 1) dX10_lay_185 rfl rfl rfl ?_
                refine r_go dX10_lay_188 rfl ?_
                show tR _ _ _ _ [some (.ref l0), some (.ref l1), some (.int l2), some (.int l3), some (.int (v4 + 1)), some (.long k3), none, some (.int i4), some (.int i5)] _ _ _ _
                exact r_le (le_s (le_s (le_s (le_s (le_s (le_n (le_s (le_n (le_n (le_0)))))))))) (ih (v4 + 1) T10 kk)
            refine r_cne dX10_lay_145 rfl (fun c145_8 => ?_) (fun c145_8 => ?_)
            · refine r_in (R := rV) c145_8 ?_
              have kk := kk.2 c145_8
              show tR _ _ _ _ [some (.ref l0), some (.ref l1), some (.int l2), some (.int l3), some (.int v4), some (.long k3), none, some (.int i4), some (.int i5)] [] _ _ _
              exact (hJ4 T303 kk)
            · refine r_ip (R := rV) c145_8 ?_
              have kk := kk.1 c145_8
              refine r_p (pc2 := 149) dX10_lay_148 rfl rfl ?_
              refine r_get dX10_lay_149 fkX10_18 q5 rfl ?_
              refine r_ci (x := 3) dX10_lay_152 rfl ?_
              refine r_p (pc2 := 154) dX10_lay_153 rfl rfl ?_
              refine r_la dX10_lay_154 (shl10_3 q5) (in_c (by decide)) ?_
              refine r_p (pc2 := 156) dX10_lay_155 rfl rfl ?_
              refine r_get dX10_lay_156 fkX10_9 q5 rfl ?_
              refine r_p (pc2 := 161) dX10_lay_159 rfl rfl ?_
              refine r_ia dX10_lay_161 (shl10_1 q5) q6 ?_
              refine r_ci (x := 1) dX10_lay_162 rfl ?_
              refine r_cs (d1 := 1) dX10_lay_163 csX10_66 rfl rfl (Nat.le_of_ble_eq_true rfl) (Nat.le_of_ble_eq_true rfl) (Nat.le_of_ble_eq_true rfl) (c_x_span (T303.2.2.1 (l0 + 1) (v4 : Int32).toNatClampNeg) 1) ?_
              refine r_p (pc2 := 167) dX10_lay_166 rfl rfl ?_
              refine r_las dX10_lay_167 (shl10_3 q5) (in_c (by decide)) ?_
              refine r_nT (R := rV) rfl kk (fun T11 kk => ?_)
              show tR _ _ _ _ [some (.ref l0), some (.ref l1), some (.int l2), some (.int l3), some (.int v4), some (.long k3), none, some (.int i4), some (.int i5)] [] _ _ _
              exact (hJ4 T11 kk)
          refine r_cne dX10_lay_128 rfl (fun c128_9 => ?_) (fun c128_9 => ?_)
          · refine r_in (R := rV) c128_9 ?_
            have kk := kk.2 c128_9
            show tR _ _ _ _ [some (.ref l0), some (.ref l1), some (.int l2), some (.int l3), some (.int v4), some (.long k3), none, some (.int i4), some (.int i5)] [] _ _ _
            exact (hJ3 T302 kk)
          · refine r_ip (R := rV) c128_9 ?_
            have kk := kk.1 c128_9
            refine r_p (pc2 := 132) dX10_lay_131 rfl rfl ?_
            refine r_get dX10_lay_132 fkX10_18 q5 rfl ?_
            refine r_ci (x := 2) dX10_lay_135 rfl ?_
            refine r_p (pc2 := 137) dX10_lay_136 rfl rfl ?_
            refine r_la dX10_lay_137 (shl10_3 q5) (in_c (by decide)) ?_
            refine r_p (pc2 := 140) dX10_lay_138 rfl rfl ?_
            refine r_p (pc2 := 141) dX10_lay_140 rfl rfl ?_
            refine r_las dX10_lay_141 (shl10_3 q5) (in_c (by decide)) ?_
            refine r_nT (R := rV) rfl kk (fun T12 kk => ?_)
            show tR _ _ _ _ [some (.ref l0), some (.ref l1), some (.int l2), some (.int l3), some (.int v4), some (.long k3), none, some (.int i4), some (.int i5)] [] _ _ _
            exact (hJ3 T12 kk)
        refine r_ine dX10_lay_98 rfl (fun c98_10 => ?_) (fun c98_10 => ?_)
        · refine r_in (R := rV) c98_10 ?_
          have kk := kk.2 c98_10
          show tR _ _ _ _ [some (.ref l0), some (.ref l1), some (.int l2), some (.int l3), some (.int v4), some (.long k3), none, some (.int i4), some (.int i5)] [] _ _ _
          exact (hJ2 T301 kk)
        · refine r_ip (R := rV) c98_10 ?_
          have kk := kk.1 c98_10
          refine r_p (pc2 := 102) dX10_lay_101 rfl rfl ?_
          refine r_get dX10_lay_102 fkX10_41 q7 rfl ?_
          refine r_p (pc2 := 106) dX10_lay_105 rfl rfl ?_
          refine r_p (pc2 := 108) dX10_lay_106 rfl rfl ?_
          refine r_p (pc2 := 109) dX10_lay_108 rfl rfl ?_
          refine r_ia dX10_lay_109 (shl1_13 q7) q8 ?_
          refine r_ci (x := 1) dX10_lay_110 rfl ?_
          refine r_cne dX10_lay_111 rfl (fun c111_11 => ?_) (fun c111_11 => ?_)
          · refine r_in (R := rV) c111_11 ?_
            have kk := kk.2 c111_11
            show tR _ _ _ _ [some (.ref l0), some (.ref l1), some (.int l2), some (.int l3), some (.int v4), some (.long k3), none, some (.int i4), some (.int i5)] [] _ _ _
            exact (hJ2 T301 kk)
          · refine r_ip (R := rV) c111_11 ?_
            have kk := kk.1 c111_11
            refine r_p (pc2 := 115) dX10_lay_114 rfl rfl ?_
            refine r_get dX10_lay_115 fkX10_18 q5 rfl ?_
            refine r_ci (x := 1) dX10_lay_118 rfl ?_
            refine r_p (pc2 := 120) dX10_lay_119 rfl rfl ?_
            refine r_la dX10_lay_120 (shl10_3 q5) (in_c (by decide)) ?_
            refine r_p (pc2 := 123) dX10_lay_121 rfl rfl ?_
            refine r_p (pc2 := 124) dX10_lay_123 rfl rfl ?_
            refine r_las dX10_lay_124 (shl10_3 q5) (in_c (by decide)) ?_
            refine r_nT (R := rV) rfl kk (fun T13 kk => ?_)
            show tR _ _ _ _ [some (.ref l0), some (.ref l1), some (.int l2), some (.int l3), some (.int v4), some (.long k3), none, some (.int i4), some (.int i5)] [] _ _ _
            exact (hJ2 T13 kk)
      refine r_ine dX10_lay_82 rfl (fun c82_12 => ?_) (fun c82_12 => ?_)
      · refine r_in (R := rV) c82_12 ?_
        have kk := kk.2 c82_12
        show tR _ _ _ _ [some (.ref l0), some (.ref l1), some (.int l2), some (.int l3), some (.int v4), some (.long k3), none, some (.int i4), some (.int i5)] [] _ _ _
        exact (hJ1 T kk)
      · refine r_ip (R := rV) c82_12 ?_
        have kk := kk.1 c82_12
        refine r_p (pc2 := 86) dX10_lay_85 rfl rfl ?_
        refine r_get dX10_lay_86 fkX10_18 q5 rfl ?_
        refine r_ci (x := 0) dX10_lay_89 rfl ?_
        refine r_p (pc2 := 91) dX10_lay_90 rfl rfl ?_
        refine r_la dX10_lay_91 (shl10_3 q5) (in_c (by decide)) ?_
        refine r_p (pc2 := 94) dX10_lay_92 rfl rfl ?_
        refine r_p (pc2 := 95) dX10_lay_94 rfl rfl ?_
        refine r_las dX10_lay_95 (shl10_3 q5) (in_c (by decide)) ?_
        refine r_nT (R := rV) rfl kk (fun T14 kk => ?_)
        show tR _ _ _ _ [some (.ref l0), some (.ref l1), some (.int l2), some (.int l3), some (.int v4), some (.long k3), none, some (.int i4), some (.int i5)] [] _ _ _
        exact (hJ1 T14 kk)
def x_wa_lay (T : St) (a : Nat) (p0 : Nat) : St := jn (fun (i1 : Int32) => jn (fun (i2 : Int32) => x_wa_lay_33 a p0 i1 i2 (fun (w1_4 : Int32) (T201 : St) => if (T201.2.2.1 (p0 + 6) (T201.1 a 3 : Int32).toNatClampNeg) = 1 then (sL T201 (a + 3) (4 : Int32).toNatClampNeg (x_x_span T201 (T201.2.2.1 (a + 1) (0 : Int32).toNatClampNeg) (((T201.2.2.1 (a + 1) (i2 : Int32).toNatClampNeg) + (T201.2.2.1 (a + 2) (i2 : Int32).toNatClampNeg)) - (T201.2.2.1 (a + 1) (0 : Int32).toNatClampNeg)))) else (T201)) 1000 0 (x_fillJ T (a + 3) 0)) (((x_fillJ T (a + 3) 0).2.2.1 (p0 + 7) ((x_fillJ T (a + 3) 0).1 a 3 : Int32).toNatClampNeg) - 1)) ((x_fillJ T (a + 3) 0).2.2.1 (p0 + 8) ((x_fillJ T (a + 3) 0).1 a 3 : Int32).toNatClampNeg)
def ok_wa_lay (T : St) (a : Nat) (p0 : Nat) : Prop := (sh a = .inr 10) ∧ (ok_fillJ T (a + 3) 0) ∧ (sh p0 = .inr 1) ∧ (vp_in ((x_fillJ T (a + 3) 0).1 a 3) 8) ∧ jn (fun (i1 : Int32) => jn (fun (i2 : Int32) => ok_wa_lay_33 a p0 i1 i2 (fun (w1_4 : Int32) (T201 : St) => (vp_in (T201.1 a 3) 8) ∧ ((T201.2.2.1 (p0 + 6) (T201.1 a 3 : Int32).toNatClampNeg) = 1 → (vp_in i2 3) ∧ True)) 1000 0 (x_fillJ T (a + 3) 0)) (((x_fillJ T (a + 3) 0).2.2.1 (p0 + 7) ((x_fillJ T (a + 3) 0).1 a 3 : Int32).toNatClampNeg) - 1)) ((x_fillJ T (a + 3) 0).2.2.1 (p0 + 8) ((x_fillJ T (a + 3) 0).1 a 3 : Int32).toNatClampNeg)
theorem c_wa_lay {X : Nat × (Nat → Int32)} {T : St} (a : Nat) (p0 : Nat) (kk : ok_wa_lay T a p0) : tC X 2 mX10_lay [.ref a, .ref p0] T none (x_wa_lay T a p0) := by
  unfold ok_wa_lay at kk
  refine tC_orV (L := [some (.ref a), some (.ref p0), none, none, none, none, none, none, none]) (x_wa_lay T a p0) rfl ?_
  unfold x_wa_lay
  refine r_p (pc2 := 1) dX10_lay_0 rfl rfl ?_
  obtain ⟨q1, kk⟩ := kk
  refine r_get dX10_lay_1 fkX10_18 q1 rfl ?_
  refine r_cl (x := 0) dX10_lay_4 rfl ?_
  obtain ⟨q2, kk⟩ := kk
  refine r_cs (d1 := 1) dX10_lay_5 csX10_60 rfl rfl (Nat.le_of_ble_eq_true rfl) (Nat.le_of_ble_eq_true rfl) (Nat.le_of_ble_eq_true rfl) (c_fillJ (a + 3) 0 q2) ?_
  refine r_p (pc2 := 9) dX10_lay_8 rfl rfl ?_
  obtain ⟨q3, kk⟩ := kk
  refine r_get dX10_lay_9 fkX10_26 q3 rfl ?_
  refine r_p (pc2 := 13) dX10_lay_12 rfl rfl ?_
  refine r_get dX10_lay_13 fkX10_22 q1 rfl ?_
  obtain ⟨q4, kk⟩ := kk
  refine r_ia dX10_lay_16 (shl1_8 q3) q4 ?_
  refine r_nI (R := rV) rfl kk (fun i1 kk => ?_)
  refine r_p (pc2 := 18) (L2 := [some (.ref a), some (.ref p0), some (.int i1), none, none, none, none, none, none]) dX10_lay_17 rfl rfl ?_
  refine r_p (pc2 := 19) dX10_lay_18 rfl rfl ?_
  refine r_get dX10_lay_19 fkX10_34 q3 rfl ?_
  refine r_p (pc2 := 23) dX10_lay_22 rfl rfl ?_
  refine r_get dX10_lay_23 fkX10_22 q1 rfl ?_
  refine r_ia dX10_lay_26 (shl1_7 q3) q4 ?_
  refine r_ci (x := 1) dX10_lay_27 rfl ?_
  refine r_p (pc2 := 29) dX10_lay_28 rfl rfl ?_
  refine r_nI (R := rV) rfl kk (fun i2 kk => ?_)
  refine r_p (pc2 := 30) (L2 := [some (.ref a), some (.ref p0), some (.int i1), some (.int i2), none, none, none, none, none]) dX10_lay_29 rfl rfl ?_
  refine r_ci (x := 0) dX10_lay_30 rfl ?_
  refine r_p (pc2 := 33) (L2 := [some (.ref a), some (.ref p0), some (.int i1), some (.int i2), some (.int 0), none, none, none, none]) dX10_lay_31 rfl rfl ?_
  show tR _ _ _ _ [some (.ref a), some (.ref p0), some (.int i1), some (.int i2), some (.int 0), none, none, none, none] _ _ _ _
  refine (c_wa_lay_33 a p0 i1 i2 (fun w1_4 T201 kk => ?_) 1000 0 (x_fillJ T (a + 3) 0) kk)
  · skip
    refine r_p (pc2 := 192) dX10_lay_191 rfl rfl ?_
    refine r_get dX10_lay_192 fkX10_73 q3 rfl ?_
    refine r_p (pc2 := 196) dX10_lay_195 rfl rfl ?_
    refine r_get dX10_lay_196 fkX10_22 q1 rfl ?_
    obtain ⟨q9, kk⟩ := kk
    refine r_ia dX10_lay_199 (shl1_6 q3) q9 ?_
    refine r_ci (x := 1) dX10_lay_200 rfl ?_
    refine r_cne dX10_lay_201 rfl (fun c201_13 => ?_) (fun c201_13 => ?_)
    · refine r_in (R := rV) c201_13 ?_
      exact r_qV dX10_lay_239 rfl rfl
    · refine r_ip (R := rV) c201_13 ?_
      have kk := kk c201_13
      refine r_p (pc2 := 205) dX10_lay_204 rfl rfl ?_
      refine r_get dX10_lay_205 fkX10_18 q1 rfl ?_
      refine r_ci (x := 4) dX10_lay_208 rfl ?_
      refine r_p (pc2 := 210) dX10_lay_209 rfl rfl ?_
      refine r_get dX10_lay_210 fkX10_9 q1 rfl ?_
      refine r_ci (x := 0) dX10_lay_213 rfl ?_
      refine r_ia dX10_lay_214 (shl10_1 q1) (in_c (by decide)) ?_
      refine r_p (pc2 := 216) dX10_lay_215 rfl rfl ?_
      refine r_get dX10_lay_216 fkX10_9 q1 rfl ?_
      refine r_p (pc2 := 220) dX10_lay_219 rfl rfl ?_
      obtain ⟨q10, kk⟩ := kk
      refine r_ia dX10_lay_220 (shl10_1 q1) q10 ?_
      refine r_p (pc2 := 222) dX10_lay_221 rfl rfl ?_
      refine r_get dX10_lay_222 fkX10_15 q1 rfl ?_
      refine r_p (pc2 := 226) dX10_lay_225 rfl rfl ?_
      refine r_ia dX10_lay_226 (shl10_2 q1) q10 ?_
      refine r_p (pc2 := 228) dX10_lay_227 rfl rfl ?_
      refine r_p (pc2 := 229) dX10_lay_228 rfl rfl ?_
      refine r_get dX10_lay_229 fkX10_9 q1 rfl ?_
      refine r_ci (x := 0) dX10_lay_232 rfl ?_
      refine r_ia dX10_lay_233 (shl10_1 q1) (in_c (by decide)) ?_
      refine r_p (pc2 := 235) dX10_lay_234 rfl rfl ?_
      refine r_cs (d1 := 1) dX10_lay_235 csX10_66 rfl rfl (Nat.le_of_ble_eq_true rfl) (Nat.le_of_ble_eq_true rfl) (Nat.le_of_ble_eq_true rfl) (c_x_span (T201.2.2.1 (a + 1) (0 : Int32).toNatClampNeg) (((T201.2.2.1 (a + 1) (i2 : Int32).toNatClampNeg) + (T201.2.2.1 (a + 2) (i2 : Int32).toNatClampNeg)) - (T201.2.2.1 (a + 1) (0 : Int32).toNatClampNeg))) ?_
      refine r_las dX10_lay_238 (shl10_3 q1) (in_c (by decide)) ?_
      exact r_qV dX10_lay_239 rfl rfl
def x_x_sheet (T : St) (p0 : Int32) (p1 : Int32) (p2 : Int32) : Int32 × St := if (x_sh_isOne T p0) = 0 then ((-1000001), T) else (if p1 < 0 then ((-1000001), T) else (if 3 ≤ p1 then ((-1000001), T) else (if p2 ≤ 40 then (if 0 ≤ p2 then ((x_x_fine (x_sh_lay T p0 p1 p2) p2).1, (x_x_fine (x_sh_lay T p0 p1 p2) p2).2) else ((x_x_found T 4).1, (x_x_found T 4).2)) else ((-1000001), T))))
def ok_x_sheet (T : St) (p0 : Int32) (p1 : Int32) (p2 : Int32) : Prop := (¬ (x_sh_isOne T p0) = 0 → (¬ p1 < 0 → (¬ 3 ≤ p1 → (p2 ≤ 40 → (0 ≤ p2 → (ok_sh_lay T p0 p1 p2) ∧ True)))))
theorem c_x_sheet {X : Nat × (Nat → Int32)} {T : St} (p0 : Int32) (p1 : Int32) (p2 : Int32) (kk : ok_x_sheet T p0 p1 p2) : tC X 3 mX11_sheet [.ref (0 : Nat), .int p0, .int p1, .int p2] T (some (.int (x_x_sheet T p0 p1 p2).1)) ((x_x_sheet T p0 p1 p2).2) := by
  unfold ok_x_sheet at kk
  refine tC_orI (L := [some (.ref (0 : Nat)), some (.int p0), some (.int p1), some (.int p2)]) (x_x_sheet T p0 p1 p2) rfl ?_
  unfold x_x_sheet
  refine r_p (pc2 := 1) dX11_sheet_0 rfl rfl ?_
  refine r_get dX11_sheet_1 fkX11_10 rfl rfl ?_
  refine r_p (pc2 := 5) dX11_sheet_4 rfl rfl ?_
  refine r_cv (d1 := 1) dX11_sheet_5 cvX11_78 rfl rfl rfl rfl (Nat.le_of_ble_eq_true rfl) (Nat.le_of_ble_eq_true rfl) (Nat.le_of_ble_eq_true rfl) (c_sh_isOne p0) ?_
  refine r_ieq dX11_sheet_8 rfl (fun c8_1 => ?_) (fun c8_1 => ?_)
  · refine r_ip (R := rI) c8_1 ?_
    refine r_k dX11_sheet_26 kkX11_82 ?_
    exact r_qI dX11_sheet_28 rfl rfl rfl rfl
  · refine r_in (R := rI) c8_1 ?_
    have kk := kk c8_1
    refine r_p (pc2 := 12) dX11_sheet_11 rfl rfl ?_
    refine r_ilt dX11_sheet_12 rfl (fun c12_2 => ?_) (fun c12_2 => ?_)
    · refine r_ip (R := rI) c12_2 ?_
      refine r_k dX11_sheet_26 kkX11_82 ?_
      exact r_qI dX11_sheet_28 rfl rfl rfl rfl
    · refine r_in (R := rI) c12_2 ?_
      have kk := kk c12_2
      refine r_p (pc2 := 16) dX11_sheet_15 rfl rfl ?_
      refine r_ci (x := 3) dX11_sheet_16 rfl ?_
      refine r_cge dX11_sheet_17 rfl (fun c17_3 => ?_) (fun c17_3 => ?_)
      · refine r_ip (R := rI) c17_3 ?_
        refine r_k dX11_sheet_26 kkX11_82 ?_
        exact r_qI dX11_sheet_28 rfl rfl rfl rfl
      · refine r_in (R := rI) c17_3 ?_
        have kk := kk c17_3
        refine r_p (pc2 := 21) dX11_sheet_20 rfl rfl ?_
        refine r_cb (x := 40) dX11_sheet_21 rfl ?_
        refine r_cle dX11_sheet_23 rfl (fun c23_4 => ?_) (fun c23_4 => ?_)
        · refine r_ip (R := rI) c23_4 ?_
          have kk := kk c23_4
          refine r_p (pc2 := 30) dX11_sheet_29 rfl rfl ?_
          refine r_ige dX11_sheet_30 rfl (fun c30_5 => ?_) (fun c30_5 => ?_)
          · refine r_ip (R := rI) c30_5 ?_
            have kk := kk c30_5
            refine r_p (pc2 := 40) dX11_sheet_39 rfl rfl ?_
            refine r_get dX11_sheet_40 fkX11_10 rfl rfl ?_
            refine r_p (pc2 := 44) dX11_sheet_43 rfl rfl ?_
            refine r_p (pc2 := 45) dX11_sheet_44 rfl rfl ?_
            refine r_p (pc2 := 46) dX11_sheet_45 rfl rfl ?_
            obtain ⟨q1, kk⟩ := kk
            refine r_cv (d1 := 2) dX11_sheet_46 cvX11_87 rfl rfl rfl rfl (Nat.le_of_ble_eq_true rfl) (Nat.le_of_ble_eq_true rfl) (Nat.le_of_ble_eq_true rfl) (c_sh_lay p0 p1 p2 q1) ?_
            refine r_p (pc2 := 50) dX11_sheet_49 rfl rfl ?_
            refine r_p (pc2 := 51) dX11_sheet_50 rfl rfl ?_
            refine r_cv (d1 := 1) dX11_sheet_51 cvX11_91 rfl rfl rfl rfl (Nat.le_of_ble_eq_true rfl) (Nat.le_of_ble_eq_true rfl) (Nat.le_of_ble_eq_true rfl) (c_x_fine p2) ?_
            exact r_qI dX11_sheet_54 rfl rfl rfl rfl
          · refine r_in (R := rI) c30_5 ?_
            refine r_p (pc2 := 34) dX11_sheet_33 rfl rfl ?_
            refine r_ci (x := 4) dX11_sheet_34 rfl ?_
            refine r_cv (d1 := 1) dX11_sheet_35 cvX11_83 rfl rfl rfl rfl (Nat.le_of_ble_eq_true rfl) (Nat.le_of_ble_eq_true rfl) (Nat.le_of_ble_eq_true rfl) (c_x_found 4) ?_
            exact r_qI dX11_sheet_38 rfl rfl rfl rfl
        · refine r_in (R := rI) c23_4 ?_
          refine r_k dX11_sheet_26 kkX11_82 ?_
          exact r_qI dX11_sheet_28 rfl rfl rfl rfl
def x_x_set (T : St) (p0 : Int32) (p1 : Int32) (p2 : Int32) : Int32 × St := if (x_sh_isOne T p0) = 0 then ((-1000001), T) else (if (x_sh_isMissing T p0) = 0 then (if (x_sh_reaches T p0 p1 1) = 0 then ((x_x_found T 2).1, (x_x_found T 2).2) else ((x_x_fine ((x_sh_write T p0 p1 p2).2) ((x_sh_write T p0 p1 p2).1)).1, (x_x_fine ((x_sh_write T p0 p1 p2).2) ((x_sh_write T p0 p1 p2).1)).2)) else ((x_x_found T 1).1, (x_x_found T 1).2))
def ok_x_set (T : St) (p0 : Int32) (p1 : Int32) (p2 : Int32) : Prop := (¬ (x_sh_isOne T p0) = 0 → (ok_sh_isMissing T p0) ∧ ((x_sh_isMissing T p0) = 0 → (ok_sh_reaches T p0 p1 1) ∧ (¬ (x_sh_reaches T p0 p1 1) = 0 → (ok_sh_write T p0 p1 p2) ∧ True)))
theorem c_x_set {X : Nat × (Nat → Int32)} {T : St} (p0 : Int32) (p1 : Int32) (p2 : Int32) (kk : ok_x_set T p0 p1 p2) : tC X 2 mX11_set [.ref (0 : Nat), .int p0, .int p1, .int p2] T (some (.int (x_x_set T p0 p1 p2).1)) ((x_x_set T p0 p1 p2).2) := by
  unfold ok_x_set at kk
  refine tC_orI (L := [some (.ref (0 : Nat)), some (.int p0), some (.int p1), some (.int p2)]) (x_x_set T p0 p1 p2) rfl ?_
  unfold x_x_set
  refine r_p (pc2 := 1) dX11_set_0 rfl rfl ?_
  refine r_get dX11_set_1 fkX11_10 rfl rfl ?_
  refine r_p (pc2 := 5) dX11_set_4 rfl rfl ?_
  refine r_cv (d1 := 1) dX11_set_5 cvX11_78 rfl rfl rfl rfl (Nat.le_of_ble_eq_true rfl) (Nat.le_of_ble_eq_true rfl) (Nat.le_of_ble_eq_true rfl) (c_sh_isOne p0) ?_
  refine r_ine dX11_set_8 rfl (fun c8_1 => ?_) (fun c8_1 => ?_)
  · refine r_in (R := rI) c8_1 ?_
    have kk := kk c8_1
    refine r_p (pc2 := 15) dX11_set_14 rfl rfl ?_
    refine r_get dX11_set_15 fkX11_10 rfl rfl ?_
    refine r_p (pc2 := 19) dX11_set_18 rfl rfl ?_
    obtain ⟨q1, kk⟩ := kk
    refine r_cv (d1 := 1) dX11_set_19 cvX11_94 rfl rfl rfl rfl (Nat.le_of_ble_eq_true rfl) (Nat.le_of_ble_eq_true rfl) (Nat.le_of_ble_eq_true rfl) (c_sh_isMissing p0 q1) ?_
    refine r_ieq dX11_set_22 rfl (fun c22_2 => ?_) (fun c22_2 => ?_)
    · refine r_ip (R := rI) c22_2 ?_
      have kk := kk c22_2
      refine r_p (pc2 := 32) dX11_set_31 rfl rfl ?_
      refine r_get dX11_set_32 fkX11_10 rfl rfl ?_
      refine r_p (pc2 := 36) dX11_set_35 rfl rfl ?_
      refine r_p (pc2 := 37) dX11_set_36 rfl rfl ?_
      refine r_ci (x := 1) dX11_set_37 rfl ?_
      obtain ⟨q2, kk⟩ := kk
      refine r_cv (d1 := 1) dX11_set_38 cvX11_97 rfl rfl rfl rfl (Nat.le_of_ble_eq_true rfl) (Nat.le_of_ble_eq_true rfl) (Nat.le_of_ble_eq_true rfl) (c_sh_reaches p0 p1 1 q2) ?_
      refine r_ine dX11_set_41 rfl (fun c41_3 => ?_) (fun c41_3 => ?_)
      · refine r_in (R := rI) c41_3 ?_
        have kk := kk c41_3
        refine r_p (pc2 := 51) dX11_set_50 rfl rfl ?_
        refine r_p (pc2 := 52) dX11_set_51 rfl rfl ?_
        refine r_get dX11_set_52 fkX11_10 rfl rfl ?_
        refine r_p (pc2 := 56) dX11_set_55 rfl rfl ?_
        refine r_p (pc2 := 57) dX11_set_56 rfl rfl ?_
        refine r_p (pc2 := 58) dX11_set_57 rfl rfl ?_
        obtain ⟨q3, kk⟩ := kk
        refine r_cv (d1 := 1) dX11_set_58 cvX11_101 rfl rfl rfl rfl (Nat.le_of_ble_eq_true rfl) (Nat.le_of_ble_eq_true rfl) (Nat.le_of_ble_eq_true rfl) (c_sh_write p0 p1 p2 q3) ?_
        refine r_cv (d1 := 1) dX11_set_61 cvX11_91 rfl rfl rfl rfl (Nat.le_of_ble_eq_true rfl) (Nat.le_of_ble_eq_true rfl) (Nat.le_of_ble_eq_true rfl) (c_x_fine ((x_sh_write T p0 p1 p2).1)) ?_
        exact r_qI dX11_set_64 rfl rfl rfl rfl
      · refine r_ip (R := rI) c41_3 ?_
        refine r_p (pc2 := 45) dX11_set_44 rfl rfl ?_
        refine r_ci (x := 2) dX11_set_45 rfl ?_
        refine r_cv (d1 := 1) dX11_set_46 cvX11_83 rfl rfl rfl rfl (Nat.le_of_ble_eq_true rfl) (Nat.le_of_ble_eq_true rfl) (Nat.le_of_ble_eq_true rfl) (c_x_found 2) ?_
        exact r_qI dX11_set_49 rfl rfl rfl rfl
    · refine r_in (R := rI) c22_2 ?_
      refine r_p (pc2 := 26) dX11_set_25 rfl rfl ?_
      refine r_ci (x := 1) dX11_set_26 rfl ?_
      refine r_cv (d1 := 1) dX11_set_27 cvX11_83 rfl rfl rfl rfl (Nat.le_of_ble_eq_true rfl) (Nat.le_of_ble_eq_true rfl) (Nat.le_of_ble_eq_true rfl) (c_x_found 1) ?_
      exact r_qI dX11_set_30 rfl rfl rfl rfl
  · refine r_ip (R := rI) c8_1 ?_
    refine r_k dX11_set_11 kkX11_82 ?_
    exact r_qI dX11_set_13 rfl rfl rfl rfl
def x_x_copy (T : St) (p0 : Int32) (p1 : Int32) (p2 : Int32) (p3 : Int32) (p4 : Int32) : Int32 × St := if (x_sh_isOne T p0) = 0 then ((-1000001), T) else (if (x_sh_isOne T p2) = 0 then ((-1000001), T) else (if (x_sh_isMissing T p0) = 0 then (if (x_sh_isMissing T p2) = 0 then (if (T.2.2.1 2 (p0 : Int32).toNatClampNeg) = (T.2.2.1 2 (p2 : Int32).toNatClampNeg) then (if (x_sh_reaches T p0 p1 p4) = 0 then ((x_x_found T 2).1, (x_x_found T 2).2) else (if (x_sh_reaches T p2 p3 p4) = 0 then ((x_x_found T 2).1, (x_x_found T 2).2) else (jn (fun (T1 : St) => ((x_x_fine T1 p4).1, (x_x_fine T1 p4).2)) (sAr T (5 + (p2 : Int32).toNatClampNeg) (va_cpy (T.2.2.1 (5 + (p0 : Int32).toNatClampNeg)) (T.2.2.1 (5 + (p2 : Int32).toNatClampNeg)) (p1 : Int32).toNatClampNeg (p3 : Int32).toNatClampNeg (p4 : Int32).toNatClampNeg))))) else ((x_x_found T 5).1, (x_x_found T 5).2)) else ((x_x_found T 1).1, (x_x_found T 1).2)) else ((x_x_found T 1).1, (x_x_found T 1).2)))
def ok_x_copy (T : St) (p0 : Int32) (p1 : Int32) (p2 : Int32) (p3 : Int32) (p4 : Int32) : Prop := (¬ (x_sh_isOne T p0) = 0 → (¬ (x_sh_isOne T p2) = 0 → (ok_sh_isMissing T p0) ∧ ((x_sh_isMissing T p0) = 0 → (ok_sh_isMissing T p2) ∧ ((x_sh_isMissing T p2) = 0 → (vp_in p0 8) ∧ (vp_in p2 8) ∧ ((T.2.2.1 2 (p0 : Int32).toNatClampNeg) = (T.2.2.1 2 (p2 : Int32).toNatClampNeg) → (ok_sh_reaches T p0 p1 p4) ∧ (¬ (x_sh_reaches T p0 p1 p4) = 0 → (ok_sh_reaches T p2 p3 p4) ∧ (¬ (x_sh_reaches T p2 p3 p4) = 0 → (cpok p1 p3 p4 40 40) ∧ True)))))))
theorem c_x_copy {X : Nat × (Nat → Int32)} {T : St} (p0 : Int32) (p1 : Int32) (p2 : Int32) (p3 : Int32) (p4 : Int32) (kk : ok_x_copy T p0 p1 p2 p3 p4) : tC X 2 mX11_copy [.ref (0 : Nat), .int p0, .int p1, .int p2, .int p3, .int p4] T (some (.int (x_x_copy T p0 p1 p2 p3 p4).1)) ((x_x_copy T p0 p1 p2 p3 p4).2) := by
  unfold ok_x_copy at kk
  refine tC_orI (L := [some (.ref (0 : Nat)), some (.int p0), some (.int p1), some (.int p2), some (.int p3), some (.int p4)]) (x_x_copy T p0 p1 p2 p3 p4) rfl ?_
  unfold x_x_copy
  refine r_p (pc2 := 1) dX11_copy_0 rfl rfl ?_
  refine r_get dX11_copy_1 fkX11_10 rfl rfl ?_
  refine r_p (pc2 := 5) dX11_copy_4 rfl rfl ?_
  refine r_cv (d1 := 1) dX11_copy_5 cvX11_78 rfl rfl rfl rfl (Nat.le_of_ble_eq_true rfl) (Nat.le_of_ble_eq_true rfl) (Nat.le_of_ble_eq_true rfl) (c_sh_isOne p0) ?_
  refine r_ieq dX11_copy_8 rfl (fun c8_1 => ?_) (fun c8_1 => ?_)
  · refine r_ip (R := rI) c8_1 ?_
    refine r_k dX11_copy_22 kkX11_82 ?_
    exact r_qI dX11_copy_24 rfl rfl rfl rfl
  · refine r_in (R := rI) c8_1 ?_
    have kk := kk c8_1
    refine r_p (pc2 := 12) dX11_copy_11 rfl rfl ?_
    refine r_get dX11_copy_12 fkX11_10 rfl rfl ?_
    refine r_p (pc2 := 16) dX11_copy_15 rfl rfl ?_
    refine r_cv (d1 := 1) dX11_copy_16 cvX11_78 rfl rfl rfl rfl (Nat.le_of_ble_eq_true rfl) (Nat.le_of_ble_eq_true rfl) (Nat.le_of_ble_eq_true rfl) (c_sh_isOne p2) ?_
    refine r_ine dX11_copy_19 rfl (fun c19_2 => ?_) (fun c19_2 => ?_)
    · refine r_in (R := rI) c19_2 ?_
      have kk := kk c19_2
      refine r_p (pc2 := 26) dX11_copy_25 rfl rfl ?_
      refine r_get dX11_copy_26 fkX11_10 rfl rfl ?_
      refine r_p (pc2 := 30) dX11_copy_29 rfl rfl ?_
      obtain ⟨q1, kk⟩ := kk
      refine r_cv (d1 := 1) dX11_copy_30 cvX11_94 rfl rfl rfl rfl (Nat.le_of_ble_eq_true rfl) (Nat.le_of_ble_eq_true rfl) (Nat.le_of_ble_eq_true rfl) (c_sh_isMissing p0 q1) ?_
      refine r_ine dX11_copy_33 rfl (fun c33_3 => ?_) (fun c33_3 => ?_)
      · refine r_in (R := rI) c33_3 ?_
        refine r_p (pc2 := 48) dX11_copy_47 rfl rfl ?_
        refine r_ci (x := 1) dX11_copy_48 rfl ?_
        refine r_cv (d1 := 1) dX11_copy_49 cvX11_83 rfl rfl rfl rfl (Nat.le_of_ble_eq_true rfl) (Nat.le_of_ble_eq_true rfl) (Nat.le_of_ble_eq_true rfl) (c_x_found 1) ?_
        exact r_qI dX11_copy_52 rfl rfl rfl rfl
      · refine r_ip (R := rI) c33_3 ?_
        have kk := kk c33_3
        refine r_p (pc2 := 37) dX11_copy_36 rfl rfl ?_
        refine r_get dX11_copy_37 fkX11_10 rfl rfl ?_
        refine r_p (pc2 := 41) dX11_copy_40 rfl rfl ?_
        obtain ⟨q2, kk⟩ := kk
        refine r_cv (d1 := 1) dX11_copy_41 cvX11_94 rfl rfl rfl rfl (Nat.le_of_ble_eq_true rfl) (Nat.le_of_ble_eq_true rfl) (Nat.le_of_ble_eq_true rfl) (c_sh_isMissing p2 q2) ?_
        refine r_ieq dX11_copy_44 rfl (fun c44_4 => ?_) (fun c44_4 => ?_)
        · refine r_ip (R := rI) c44_4 ?_
          have kk := kk c44_4
          refine r_p (pc2 := 54) dX11_copy_53 rfl rfl ?_
          refine r_get dX11_copy_54 fkX11_10 rfl rfl ?_
          refine r_get dX11_copy_57 fkX11_105 rfl rfl ?_
          refine r_p (pc2 := 61) dX11_copy_60 rfl rfl ?_
          obtain ⟨q3, kk⟩ := kk
          refine r_ia dX11_copy_61 rfl q3 ?_
          refine r_p (pc2 := 63) dX11_copy_62 rfl rfl ?_
          refine r_get dX11_copy_63 fkX11_10 rfl rfl ?_
          refine r_get dX11_copy_66 fkX11_105 rfl rfl ?_
          refine r_p (pc2 := 70) dX11_copy_69 rfl rfl ?_
          obtain ⟨q4, kk⟩ := kk
          refine r_ia dX11_copy_70 rfl q4 ?_
          refine r_ceq dX11_copy_71 rfl (fun c71_5 => ?_) (fun c71_5 => ?_)
          · refine r_ip (R := rI) c71_5 ?_
            have kk := kk c71_5
            refine r_p (pc2 := 81) dX11_copy_80 rfl rfl ?_
            refine r_get dX11_copy_81 fkX11_10 rfl rfl ?_
            refine r_p (pc2 := 85) dX11_copy_84 rfl rfl ?_
            refine r_p (pc2 := 86) dX11_copy_85 rfl rfl ?_
            refine r_p (pc2 := 88) dX11_copy_86 rfl rfl ?_
            obtain ⟨q5, kk⟩ := kk
            refine r_cv (d1 := 1) dX11_copy_88 cvX11_97 rfl rfl rfl rfl (Nat.le_of_ble_eq_true rfl) (Nat.le_of_ble_eq_true rfl) (Nat.le_of_ble_eq_true rfl) (c_sh_reaches p0 p1 p4 q5) ?_
            refine r_ieq dX11_copy_91 rfl (fun c91_6 => ?_) (fun c91_6 => ?_)
            · refine r_ip (R := rI) c91_6 ?_
              refine r_p (pc2 := 110) dX11_copy_109 rfl rfl ?_
              refine r_ci (x := 2) dX11_copy_110 rfl ?_
              refine r_cv (d1 := 1) dX11_copy_111 cvX11_83 rfl rfl rfl rfl (Nat.le_of_ble_eq_true rfl) (Nat.le_of_ble_eq_true rfl) (Nat.le_of_ble_eq_true rfl) (c_x_found 2) ?_
              exact r_qI dX11_copy_114 rfl rfl rfl rfl
            · refine r_in (R := rI) c91_6 ?_
              have kk := kk c91_6
              refine r_p (pc2 := 95) dX11_copy_94 rfl rfl ?_
              refine r_get dX11_copy_95 fkX11_10 rfl rfl ?_
              refine r_p (pc2 := 99) dX11_copy_98 rfl rfl ?_
              refine r_p (pc2 := 101) dX11_copy_99 rfl rfl ?_
              refine r_p (pc2 := 103) dX11_copy_101 rfl rfl ?_
              obtain ⟨q6, kk⟩ := kk
              refine r_cv (d1 := 1) dX11_copy_103 cvX11_97 rfl rfl rfl rfl (Nat.le_of_ble_eq_true rfl) (Nat.le_of_ble_eq_true rfl) (Nat.le_of_ble_eq_true rfl) (c_sh_reaches p2 p3 p4 q6) ?_
              refine r_ine dX11_copy_106 rfl (fun c106_7 => ?_) (fun c106_7 => ?_)
              · refine r_in (R := rI) c106_7 ?_
                have kk := kk c106_7
                refine r_p (pc2 := 116) dX11_copy_115 rfl rfl ?_
                refine r_get dX11_copy_116 fkX11_10 rfl rfl ?_
                refine r_get dX11_copy_119 fkX11_109 rfl rfl ?_
                refine r_p (pc2 := 123) dX11_copy_122 rfl rfl ?_
                refine r_aa dX11_copy_123 rfl (by decide) q3 (rf4 q3) ?_
                refine r_p (pc2 := 125) dX11_copy_124 rfl rfl ?_
                refine r_p (pc2 := 126) dX11_copy_125 rfl rfl ?_
                refine r_get dX11_copy_126 fkX11_10 rfl rfl ?_
                refine r_get dX11_copy_129 fkX11_109 rfl rfl ?_
                refine r_p (pc2 := 133) dX11_copy_132 rfl rfl ?_
                refine r_aa dX11_copy_133 rfl (by decide) q4 (rf4 q4) ?_
                refine r_p (pc2 := 136) dX11_copy_134 rfl rfl ?_
                refine r_p (pc2 := 138) dX11_copy_136 rfl rfl ?_
                obtain ⟨q7, kk⟩ := kk
                refine r_cpy dX11_copy_138 cpX11_113 (shr4 q4) (shr4 q3) q7.1 q7.2.1 q7.2.2.1 q7.2.2.2.1 q7.2.2.2.2 (Nat.le_of_ble_eq_true rfl) ?_
                refine r_nT0 (R := rI) rfl (fun T1 => ?_)
                refine r_p (pc2 := 142) dX11_copy_141 rfl rfl ?_
                refine r_p (pc2 := 144) dX11_copy_142 rfl rfl ?_
                refine r_cv (d1 := 1) dX11_copy_144 cvX11_91 rfl rfl rfl rfl (Nat.le_of_ble_eq_true rfl) (Nat.le_of_ble_eq_true rfl) (Nat.le_of_ble_eq_true rfl) (c_x_fine p4) ?_
                exact r_qI dX11_copy_147 rfl rfl rfl rfl
              · refine r_ip (R := rI) c106_7 ?_
                refine r_p (pc2 := 110) dX11_copy_109 rfl rfl ?_
                refine r_ci (x := 2) dX11_copy_110 rfl ?_
                refine r_cv (d1 := 1) dX11_copy_111 cvX11_83 rfl rfl rfl rfl (Nat.le_of_ble_eq_true rfl) (Nat.le_of_ble_eq_true rfl) (Nat.le_of_ble_eq_true rfl) (c_x_found 2) ?_
                exact r_qI dX11_copy_114 rfl rfl rfl rfl
          · refine r_in (R := rI) c71_5 ?_
            refine r_p (pc2 := 75) dX11_copy_74 rfl rfl ?_
            refine r_ci (x := 5) dX11_copy_75 rfl ?_
            refine r_cv (d1 := 1) dX11_copy_76 cvX11_83 rfl rfl rfl rfl (Nat.le_of_ble_eq_true rfl) (Nat.le_of_ble_eq_true rfl) (Nat.le_of_ble_eq_true rfl) (c_x_found 5) ?_
            exact r_qI dX11_copy_79 rfl rfl rfl rfl
        · refine r_in (R := rI) c44_4 ?_
          refine r_p (pc2 := 48) dX11_copy_47 rfl rfl ?_
          refine r_ci (x := 1) dX11_copy_48 rfl ?_
          refine r_cv (d1 := 1) dX11_copy_49 cvX11_83 rfl rfl rfl rfl (Nat.le_of_ble_eq_true rfl) (Nat.le_of_ble_eq_true rfl) (Nat.le_of_ble_eq_true rfl) (c_x_found 1) ?_
          exact r_qI dX11_copy_52 rfl rfl rfl rfl
    · refine r_ip (R := rI) c19_2 ?_
      refine r_k dX11_copy_22 kkX11_82 ?_
      exact r_qI dX11_copy_24 rfl rfl rfl rfl
def x_x_drop (T : St) (p0 : Int32) : Int32 × St := if (x_sh_isOne T p0) = 0 then ((-1000001), T) else (if (x_sh_isMissing T p0) = 0 then ((x_x_fine ((x_sh_lose T p0).2) ((x_sh_lose T p0).1)).1, (x_x_fine ((x_sh_lose T p0).2) ((x_sh_lose T p0).1)).2) else ((x_x_found T 1).1, (x_x_found T 1).2))
def ok_x_drop (T : St) (p0 : Int32) : Prop := (¬ (x_sh_isOne T p0) = 0 → (ok_sh_isMissing T p0) ∧ ((x_sh_isMissing T p0) = 0 → (ok_sh_lose T p0) ∧ True))
theorem c_x_drop {X : Nat × (Nat → Int32)} {T : St} (p0 : Int32) (kk : ok_x_drop T p0) : tC X 2 mX11_drop [.ref (0 : Nat), .int p0] T (some (.int (x_x_drop T p0).1)) ((x_x_drop T p0).2) := by
  unfold ok_x_drop at kk
  refine tC_orI (L := [some (.ref (0 : Nat)), some (.int p0)]) (x_x_drop T p0) rfl ?_
  unfold x_x_drop
  refine r_p (pc2 := 1) dX11_drop_0 rfl rfl ?_
  refine r_get dX11_drop_1 fkX11_10 rfl rfl ?_
  refine r_p (pc2 := 5) dX11_drop_4 rfl rfl ?_
  refine r_cv (d1 := 1) dX11_drop_5 cvX11_78 rfl rfl rfl rfl (Nat.le_of_ble_eq_true rfl) (Nat.le_of_ble_eq_true rfl) (Nat.le_of_ble_eq_true rfl) (c_sh_isOne p0) ?_
  refine r_ine dX11_drop_8 rfl (fun c8_1 => ?_) (fun c8_1 => ?_)
  · refine r_in (R := rI) c8_1 ?_
    have kk := kk c8_1
    refine r_p (pc2 := 15) dX11_drop_14 rfl rfl ?_
    refine r_get dX11_drop_15 fkX11_10 rfl rfl ?_
    refine r_p (pc2 := 19) dX11_drop_18 rfl rfl ?_
    obtain ⟨q1, kk⟩ := kk
    refine r_cv (d1 := 1) dX11_drop_19 cvX11_94 rfl rfl rfl rfl (Nat.le_of_ble_eq_true rfl) (Nat.le_of_ble_eq_true rfl) (Nat.le_of_ble_eq_true rfl) (c_sh_isMissing p0 q1) ?_
    refine r_ieq dX11_drop_22 rfl (fun c22_2 => ?_) (fun c22_2 => ?_)
    · refine r_ip (R := rI) c22_2 ?_
      have kk := kk c22_2
      refine r_p (pc2 := 32) dX11_drop_31 rfl rfl ?_
      refine r_p (pc2 := 33) dX11_drop_32 rfl rfl ?_
      refine r_get dX11_drop_33 fkX11_10 rfl rfl ?_
      refine r_p (pc2 := 37) dX11_drop_36 rfl rfl ?_
      obtain ⟨q2, kk⟩ := kk
      refine r_cv (d1 := 1) dX11_drop_37 cvX11_119 rfl rfl rfl rfl (Nat.le_of_ble_eq_true rfl) (Nat.le_of_ble_eq_true rfl) (Nat.le_of_ble_eq_true rfl) (c_sh_lose p0 q2) ?_
      refine r_cv (d1 := 1) dX11_drop_40 cvX11_91 rfl rfl rfl rfl (Nat.le_of_ble_eq_true rfl) (Nat.le_of_ble_eq_true rfl) (Nat.le_of_ble_eq_true rfl) (c_x_fine ((x_sh_lose T p0).1)) ?_
      exact r_qI dX11_drop_43 rfl rfl rfl rfl
    · refine r_in (R := rI) c22_2 ?_
      refine r_p (pc2 := 26) dX11_drop_25 rfl rfl ?_
      refine r_ci (x := 1) dX11_drop_26 rfl ?_
      refine r_cv (d1 := 1) dX11_drop_27 cvX11_83 rfl rfl rfl rfl (Nat.le_of_ble_eq_true rfl) (Nat.le_of_ble_eq_true rfl) (Nat.le_of_ble_eq_true rfl) (c_x_found 1) ?_
      exact r_qI dX11_drop_30 rfl rfl rfl rfl
  · refine r_ip (R := rI) c8_1 ?_
    refine r_k dX11_drop_11 kkX11_82 ?_
    exact r_qI dX11_drop_13 rfl rfl rfl rfl
