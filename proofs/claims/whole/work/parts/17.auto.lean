/-! ===== what the decompiler needs ===== -/
theorem nar_b {x : Int32} (h : x = 0 ∨ x = 1) : narrow .boolean (.int x) = .int x := by rcases h with rfl | rfl <;> rfl
theorem fit_b {x : Int32} (h : x = 0 ∨ x = 1) : fits .boolean (.int x) = true := by rcases h with rfl | rfl <;> rfl
def cpok (sp dp c : Int32) (nb na : Nat) : Prop := ¬ sp < 0 ∧ ¬ dp < 0 ∧ ¬ c < 0 ∧ sp.toNatClampNeg + c.toNatClampNeg ≤ nb ∧ dp.toNatClampNeg + c.toNatClampNeg ≤ na
section RE
variable {X : Nat × (Nat → Int32)} {d pc : Nat} {M : mx_M} {L : mx_Lo} {S : List Value} {T : St}
theorem r_eI {r r' : Int32 × St} (e : r = r') (k : tR X d M pc L S T (some (.int r'.1)) r'.2) : tR X d M pc L S T (some (.int r.1)) r.2 := e ▸ k
theorem r_eIp {T2 : St} {r r' : Int32} (e : r = r') (k : tR X d M pc L S T (some (.int r')) T2) : tR X d M pc L S T (some (.int r)) T2 := e ▸ k
theorem r_eJ {r r' : Int64 × St} (e : r = r') (k : tR X d M pc L S T (some (.long r'.1)) r'.2) : tR X d M pc L S T (some (.long r.1)) r.2 := e ▸ k
theorem r_eJp {T2 : St} {r r' : Int64} (e : r = r') (k : tR X d M pc L S T (some (.long r')) T2) : tR X d M pc L S T (some (.long r)) T2 := e ▸ k
theorem r_eV {r r' : St} (e : r = r') (k : tR X d M pc L S T none r') : tR X d M pc L S T none r := e ▸ k
theorem r_eVp {T2 : St} {r r' : Unit} (e : r = r') (k : tR X d M pc L S T none T2) : tR X d M pc L S T none T2 := k
end RE
theorem rf4 {i : Int32} (h : vp_in i 8) : rfa 4 i.toNatClampNeg = some (5 + i.toNatClampNeg) := by simp [rfa, in_lt h]
theorem rf15 {i : Int32} (h : vp_in i 2) : rfa 15 i.toNatClampNeg = some (16 + 15 * i.toNatClampNeg) := by simp [rfa, in_lt h]
theorem rf81 {i : Int32} (h : vp_in i 96) : rfa 81 i.toNatClampNeg = some (123 + 4 * i.toNatClampNeg) := by simp [rfa, in_lt h]
theorem rf84 {i : Int32} (h : vp_in i 8) : rfa 84 i.toNatClampNeg = some (85 + i.toNatClampNeg) := by simp [rfa, in_lt h]
theorem rf93 {i : Int32} (h : vp_in i 4) : rfa 93 i.toNatClampNeg = some (507 + 5 * i.toNatClampNeg) := by simp [rfa, in_lt h]
theorem rf99 {i : Int32} (h : vp_in i 5) : rfa 99 i.toNatClampNeg = some (100 + i.toNatClampNeg) := by simp [rfa, in_lt h]
theorem rf532 {i : Int32} (h : vp_in i 4) : rfa 532 i.toNatClampNeg = some (539 + 4 * i.toNatClampNeg) := by simp [rfa, in_lt h]
def x_AX12_in (T : St) (v : Int64) (lo : Int64) (hi : Int64) : Int32 := if (lg_cmp v lo) < 0 then (0) else (if 0 < (lg_cmp v hi) then (0) else (1))
theorem c_AX12_in {X : Nat × (Nat → Int32)} {T : St} (v : Int64) (lo : Int64) (hi : Int64) : tC X 1 mX12_in [.long v, .long lo, .long hi] T (some (.int (x_AX12_in T v lo hi))) T := by
  refine tC_of ?_
  refine r_p dX12_in_0 rfl rfl ?_
  refine r_p dX12_in_1 rfl rfl ?_
  refine r_p dX12_in_2 rfl rfl ?_
  refine r_ilt dX12_in_3 rfl (fun c3_1 => ?_) (fun c3_1 => ?_)
  · refine r_ci (x := 0) dX12_in_17 rfl ?_
    exact r_eIp (r' := 0) (by unfold x_AX12_in; rw [if_pos c3_1]) (r_ri dX12_in_18 rfl rfl rfl rfl)
  · refine r_p dX12_in_6 rfl rfl ?_
    refine r_p dX12_in_7 rfl rfl ?_
    refine r_p dX12_in_9 rfl rfl ?_
    refine r_igt dX12_in_10 rfl (fun c10_2 => ?_) (fun c10_2 => ?_)
    · refine r_ci (x := 0) dX12_in_17 rfl ?_
      exact r_eIp (r' := 0) (by unfold x_AX12_in; rw [if_neg c3_1, if_pos c10_2]) (r_ri dX12_in_18 rfl rfl rfl rfl)
    · refine r_ci (x := 1) dX12_in_13 rfl ?_
      refine r_go dX12_in_14 rfl ?_
      exact r_eIp (r' := 1) (by unfold x_AX12_in; rw [if_neg c3_1, if_neg c10_2]) (r_ri dX12_in_18 rfl rfl rfl rfl)
theorem b_AX12_in (T : St) (v : Int64) (lo : Int64) (hi : Int64) : x_AX12_in T v lo hi = 0 ∨ x_AX12_in T v lo hi = 1 := by
  unfold x_AX12_in
  repeat' split
  all_goals (first | exact Or.inl rfl | exact Or.inr rfl)
def x_AX12_isSheet (T : St) (s : Int32) : Int32 := x_AX12_in T ((s : Int32).toInt64) 0 7
theorem c_AX12_isSheet {X : Nat × (Nat → Int32)} {T : St} (s : Int32) : tC X 2 mX12_isSheet [.int s] T (some (.int (x_AX12_isSheet T s))) T := by
  refine tC_of ?_
  refine r_p dX12_isSheet_0 rfl rfl ?_
  refine r_p dX12_isSheet_1 rfl rfl ?_
  refine r_cl (x := 0) dX12_isSheet_2 rfl ?_
  refine r_kl dX12_isSheet_3 klX12_109 ?_
  refine r_cs (d1 := 1) dX12_isSheet_6 csX12_111 rfl rfl (Nat.le_of_ble_eq_true rfl) (Nat.le_of_ble_eq_true rfl) (Nat.le_of_ble_eq_true rfl) (c_AX12_in ((s : Int32).toInt64) 0 7) ?_
  exact r_eIp (r' := (x_AX12_in T ((s : Int32).toInt64) 0 7)) (by unfold x_AX12_isSheet; rfl) (r_ri dX12_isSheet_9 rfl (nar_b (b_AX12_in T ((s : Int32).toInt64) 0 7)) rfl rfl)
theorem b_AX12_isSheet (T : St) (s : Int32) : x_AX12_isSheet T s = 0 ∨ x_AX12_isSheet T s = 1 := by
  unfold x_AX12_isSheet
  repeat' split
  all_goals (first | exact Or.inl rfl | exact Or.inr rfl | apply b_AX12_in)
def x_AX12_finding (T : St) (n : Int32) : Int32 × St := ((-1000010) - n, sF T 571 1 n)
theorem c_AX12_finding {X : Nat × (Nat → Int32)} {T : St} (n : Int32) : tC X 1 mX12_finding [.ref 571, .int n] T (some (.int (x_AX12_finding T n).1)) ((x_AX12_finding T n).2) := by
  refine tC_of ?_
  refine r_p dX12_finding_0 rfl rfl ?_
  refine r_p dX12_finding_1 rfl rfl ?_
  refine r_put dX12_finding_2 fkX12_105 rfl rfl rfl (Nat.le_of_ble_eq_true rfl) rfl rfl ?_
  refine r_k dX12_finding_5 kkX12_108 ?_
  refine r_p dX12_finding_7 rfl rfl ?_
  refine r_p dX12_finding_8 rfl rfl ?_
  exact r_eI (r' := ((-1000010) - n, sF T 571 1 n)) (by unfold x_AX12_finding; rfl) (r_ri dX12_finding_9 rfl rfl rfl rfl)
def x_AX12_sheet_65 (l1 : Int32) (l2 : Int32) (l3 : Int32) (K : Int32 → St → Int32 × St) : Nat → Int32 → St → Int32 × St
  | 0, _, T => (0, T)
  | f + 1, v4, T => if 40 ≤ v4 then (K v4 T) else (x_AX12_sheet_65 l1 l2 l3 K f (v4 + 1) (sA T 574 ((40 * l1) + v4 : Int32).toNatClampNeg 0))
def ok_AX12_sheet_65 (l1 : Int32) (l2 : Int32) (l3 : Int32) (Kk : Int32 → St → Prop) : Nat → Int32 → St → Prop
  | 0, _, _ => False
  | f + 1, v4, T => ((40 ≤ v4 → Kk v4 T) ∧ (¬ 40 ≤ v4 → (vp_in ((40 * l1) + v4) 320) ∧ ok_AX12_sheet_65 l1 l2 l3 Kk f (v4 + 1) (sA T 574 ((40 * l1) + v4 : Int32).toNatClampNeg 0)))
theorem c_AX12_sheet_65 {X : Nat × (Nat → Int32)} (l1 : Int32) (l2 : Int32) (l3 : Int32) {K : Int32 → St → Int32 × St} {Kk : Int32 → St → Prop} (hk : ∀ (v4 : Int32) (T : St), Kk v4 T → tR X 2 mX12_sheet 91 [some (.ref 571), some (.int l1), some (.int l2), some (.int l3), some (.int v4)] [] T (some (.int (K v4 T).1)) ((K v4 T).2)) : ∀ (f : Nat) (v4 : Int32) (T : St), ok_AX12_sheet_65 l1 l2 l3 Kk f v4 T → tR X 2 mX12_sheet 65 [some (.ref 571), some (.int l1), some (.int l2), some (.int l3), some (.int v4)] [] T (some (.int (x_AX12_sheet_65 l1 l2 l3 K f v4 T).1)) ((x_AX12_sheet_65 l1 l2 l3 K f v4 T).2) := by
  intro f
  induction f with
  | zero => intro v4 T kk; exact kk.elim
  | succ f ih =>
    intro v4 T kk
    rw [ok_AX12_sheet_65] at kk
    refine r_p dX12_sheet_65 rfl rfl ?_
    refine r_cb (x := 40) dX12_sheet_67 rfl ?_
    refine r_cge dX12_sheet_69 rfl (fun c69_5 => ?_) (fun c69_5 => ?_)
    · have kk := kk.1 c69_5
      show tR _ _ _ _ [some (.ref 571), some (.int l1), some (.int l2), some (.int l3), some (.int v4)] _ _ _ _
      exact r_eI (r' := K v4 T) (by rw [x_AX12_sheet_65]; rw [if_pos c69_5]) ((hk v4 T kk))
    · have kk := kk.2 c69_5
      refine r_p dX12_sheet_72 rfl rfl ?_
      refine r_get dX12_sheet_73 fkX12_16 rfl rfl ?_
      refine r_cb (x := 40) dX12_sheet_76 rfl ?_
      refine r_p dX12_sheet_78 rfl rfl ?_
      refine r_p dX12_sheet_79 rfl rfl ?_
      refine r_p dX12_sheet_80 rfl rfl ?_
      refine r_p dX12_sheet_82 rfl rfl ?_
      refine r_ci (x := 0) dX12_sheet_83 rfl ?_
      obtain ⟨q2, kk⟩ := kk
      refine r_ias dX12_sheet_84 rfl q2 ?_
      refine r_inc (y := 1) dX12_sheet_85 rfl rfl rfl ?_
      refine r_go dX12_sheet_88 rfl ?_
      show tR _ _ _ _ [some (.ref 571), some (.int l1), some (.int l2), some (.int l3), some (.int (v4 + 1))] _ _ _ _
      exact r_eI (r' := x_AX12_sheet_65 l1 l2 l3 K f (v4 + 1) (sA T 574 ((40 * l1) + v4 : Int32).toNatClampNeg 0)) (by rw [x_AX12_sheet_65]; rw [if_neg c69_5]) ((ih (v4 + 1) (sA T 574 ((40 * l1) + v4 : Int32).toNatClampNeg 0) kk))
def x_AX12_sheet (T : St) (s : Int32) (l : Int32) (n : Int32) : Int32 × St := if (x_AX12_isSheet (sF T 571 0 0) s) = 0 then ((-1000001), sF T 571 0 0) else (if (x_AX12_in (sF T 571 0 0) ((l : Int32).toInt64) 0 2) = 0 then ((-1000001), sF T 571 0 0) else (if n ≤ 40 then (if 0 ≤ n then (fun (T1 : St) => x_AX12_sheet_65 s l n (fun (w1_4 : Int32) (T201 : St) => (n, T201)) 1000 0 T1) (sA (sA (sF (sF T 571 0 0) 571 1 0) 572 (s : Int32).toNatClampNeg l) 573 (s : Int32).toNatClampNeg n) else ((x_AX12_finding (sF (sF T 571 0 0) 571 1 0) 4).1, (x_AX12_finding (sF (sF T 571 0 0) 571 1 0) 4).2)) else ((-1000001), sF T 571 0 0)))
def ok_AX12_sheet (T : St) (s : Int32) (l : Int32) (n : Int32) : Prop := (¬ (x_AX12_isSheet (sF T 571 0 0) s) = 0 → (¬ (x_AX12_in (sF T 571 0 0) ((l : Int32).toInt64) 0 2) = 0 → (n ≤ 40 → (0 ≤ n → (vp_in s 8) ∧ (fun (T1 : St) => ok_AX12_sheet_65 s l n (fun (w1_4 : Int32) (T201 : St) => True) 1000 0 T1) (sA (sA (sF (sF T 571 0 0) 571 1 0) 572 (s : Int32).toNatClampNeg l) 573 (s : Int32).toNatClampNeg n)))))
theorem c_AX12_sheet {X : Nat × (Nat → Int32)} {T : St} (s : Int32) (l : Int32) (n : Int32) (kk : ok_AX12_sheet T s l n) : tC X 3 mX12_sheet [.ref 571, .int s, .int l, .int n] T (some (.int (x_AX12_sheet T s l n).1)) ((x_AX12_sheet T s l n).2) := by
  unfold ok_AX12_sheet at kk
  refine tC_of ?_
  refine r_p dX12_sheet_0 rfl rfl ?_
  refine r_ci (x := 0) dX12_sheet_1 rfl ?_
  refine r_put dX12_sheet_2 fkX12_101 rfl rfl rfl (Nat.le_of_ble_eq_true rfl) rfl rfl ?_
  refine r_p dX12_sheet_5 rfl rfl ?_
  refine r_cs (d1 := 2) dX12_sheet_6 csX12_115 rfl rfl (Nat.le_of_ble_eq_true rfl) (Nat.le_of_ble_eq_true rfl) (Nat.le_of_ble_eq_true rfl) (c_AX12_isSheet s) ?_
  refine r_ieq dX12_sheet_9 rfl (fun c9_1 => ?_) (fun c9_1 => ?_)
  · refine r_k dX12_sheet_30 kkX12_121 ?_
    exact r_eI (r' := ((-1000001), sF T 571 0 0)) (by unfold x_AX12_sheet; rw [if_pos c9_1]) (r_ri dX12_sheet_32 rfl rfl rfl rfl)
  · have kk := kk c9_1
    refine r_p dX12_sheet_12 rfl rfl ?_
    refine r_p dX12_sheet_13 rfl rfl ?_
    refine r_cl (x := 0) dX12_sheet_14 rfl ?_
    refine r_kl dX12_sheet_15 klX12_119 ?_
    refine r_cs (d1 := 1) dX12_sheet_18 csX12_111 rfl rfl (Nat.le_of_ble_eq_true rfl) (Nat.le_of_ble_eq_true rfl) (Nat.le_of_ble_eq_true rfl) (c_AX12_in ((l : Int32).toInt64) 0 2) ?_
    refine r_ieq dX12_sheet_21 rfl (fun c21_2 => ?_) (fun c21_2 => ?_)
    · refine r_k dX12_sheet_30 kkX12_121 ?_
      exact r_eI (r' := ((-1000001), sF T 571 0 0)) (by unfold x_AX12_sheet; rw [if_neg c9_1, if_pos c21_2]) (r_ri dX12_sheet_32 rfl rfl rfl rfl)
    · have kk := kk c21_2
      refine r_p dX12_sheet_24 rfl rfl ?_
      refine r_cb (x := 40) dX12_sheet_25 rfl ?_
      refine r_cle dX12_sheet_27 rfl (fun c27_3 => ?_) (fun c27_3 => ?_)
      · have kk := kk c27_3
        refine r_p dX12_sheet_33 rfl rfl ?_
        refine r_ci (x := 0) dX12_sheet_34 rfl ?_
        refine r_put dX12_sheet_35 fkX12_105 rfl rfl rfl (Nat.le_of_ble_eq_true rfl) rfl rfl ?_
        refine r_p dX12_sheet_38 rfl rfl ?_
        refine r_ige dX12_sheet_39 rfl (fun c39_4 => ?_) (fun c39_4 => ?_)
        · have kk := kk c39_4
          refine r_p dX12_sheet_48 rfl rfl ?_
          refine r_get dX12_sheet_49 fkX12_7 rfl rfl ?_
          refine r_p dX12_sheet_52 rfl rfl ?_
          refine r_p dX12_sheet_53 rfl rfl ?_
          obtain ⟨q1, kk⟩ := kk
          refine r_ias dX12_sheet_54 rfl q1 ?_
          refine r_p dX12_sheet_55 rfl rfl ?_
          refine r_get dX12_sheet_56 fkX12_13 rfl rfl ?_
          refine r_p dX12_sheet_59 rfl rfl ?_
          refine r_p dX12_sheet_60 rfl rfl ?_
          refine r_ias dX12_sheet_61 rfl q1 ?_
          refine r_eI (r' := (fun (T1 : St) => x_AX12_sheet_65 s l n (fun (w1_4 : Int32) (T201 : St) => (n, T201)) 1000 0 T1) (sA (sA (sF (sF T 571 0 0) 571 1 0) 572 (s : Int32).toNatClampNeg l) 573 (s : Int32).toNatClampNeg n)) (by unfold x_AX12_sheet; rw [if_neg c9_1, if_neg c21_2, if_pos c27_3, if_pos c39_4]) ?_
          generalize sA (sA (sF (sF T 571 0 0) 571 1 0) 572 (s : Int32).toNatClampNeg l) 573 (s : Int32).toNatClampNeg n = T1 at kk ⊢
          try dsimp only at kk
          refine r_ci (x := 0) dX12_sheet_62 rfl ?_
          refine r_p dX12_sheet_63 rfl rfl ?_
          show tR _ _ _ _ [some (.ref 571), some (.int s), some (.int l), some (.int n), some (.int 0)] _ _ _ _
          refine r_eI (r' := x_AX12_sheet_65 s l n (fun (w1_4 : Int32) (T201 : St) => (n, T201)) 1000 0 T1) rfl ((c_AX12_sheet_65 s l n (fun w1_4 T201 kk => ?_) 1000 0 T1 kk))
          · refine r_p dX12_sheet_91 rfl rfl ?_
            exact r_eI (r' := (n, T201)) rfl (r_ri dX12_sheet_92 rfl rfl rfl rfl)
        · refine r_p dX12_sheet_42 rfl rfl ?_
          refine r_ci (x := 4) dX12_sheet_43 rfl ?_
          refine r_cv (d1 := 1) dX12_sheet_44 cvX12_122 rfl rfl rfl rfl (Nat.le_of_ble_eq_true rfl) (Nat.le_of_ble_eq_true rfl) (Nat.le_of_ble_eq_true rfl) (c_AX12_finding 4) ?_
          exact r_eI (r' := ((x_AX12_finding (sF (sF T 571 0 0) 571 1 0) 4).1, (x_AX12_finding (sF (sF T 571 0 0) 571 1 0) 4).2)) (by unfold x_AX12_sheet; rw [if_neg c9_1, if_neg c21_2, if_pos c27_3, if_neg c39_4]) (r_ri dX12_sheet_47 rfl rfl rfl rfl)
      · refine r_k dX12_sheet_30 kkX12_121 ?_
        exact r_eI (r' := ((-1000001), sF T 571 0 0)) (by unfold x_AX12_sheet; rw [if_neg c9_1, if_neg c21_2, if_neg c27_3]) (r_ri dX12_sheet_32 rfl rfl rfl rfl)
def x_AX12_bits_4 (T : St) (l0 : Int32) (K : Int32 → Int32 → Int32) : Nat → Int32 → Int32 → Int32
  | 0, _, _ => 0
  | f + 1, v1, v2 => if v2 = 0 then (K v1 v2) else (x_AX12_bits_4 T l0 K f (v1 + 1) (v2 &&& (v2 - 1)))
def ok_AX12_bits_4 (T : St) (l0 : Int32) (Kk : Int32 → Int32 → Prop) : Nat → Int32 → Int32 → Prop
  | 0, _, _ => False
  | f + 1, v1, v2 => ((v2 = 0 → Kk v1 v2) ∧ (¬ v2 = 0 → ok_AX12_bits_4 T l0 Kk f (v1 + 1) (v2 &&& (v2 - 1))))
theorem c_AX12_bits_4 {X : Nat × (Nat → Int32)} (T : St) (l0 : Int32) {K : Int32 → Int32 → Int32} {Kk : Int32 → Int32 → Prop} (hk : ∀ (v1 : Int32) (v2 : Int32), Kk v1 v2 → tR X 0 mX12_bits 20 [some (.int l0), some (.int v1), some (.int v2)] [] T (some (.int (K v1 v2))) T) : ∀ (f : Nat) (v1 : Int32) (v2 : Int32), ok_AX12_bits_4 T l0 Kk f v1 v2 → tR X 0 mX12_bits 4 [some (.int l0), some (.int v1), some (.int v2)] [] T (some (.int (x_AX12_bits_4 T l0 K f v1 v2))) T := by
  intro f
  induction f with
  | zero => intro v1 v2 kk; exact kk.elim
  | succ f ih =>
    intro v1 v2 kk
    rw [ok_AX12_bits_4] at kk
    refine r_p dX12_bits_4 rfl rfl ?_
    refine r_ieq dX12_bits_5 rfl (fun c5_1 => ?_) (fun c5_1 => ?_)
    · have kk := kk.1 c5_1
      show tR _ _ _ _ [some (.int l0), some (.int v1), some (.int v2)] _ _ _ _
      exact r_eIp (r' := K v1 v2) (by rw [x_AX12_bits_4]; rw [if_pos c5_1]) ((hk v1 v2  kk))
    · have kk := kk.2 c5_1
      refine r_inc (y := 1) dX12_bits_8 rfl rfl rfl ?_
      refine r_p dX12_bits_11 rfl rfl ?_
      refine r_p dX12_bits_12 rfl rfl ?_
      refine r_ci (x := 1) dX12_bits_13 rfl ?_
      refine r_p dX12_bits_14 rfl rfl ?_
      refine r_p dX12_bits_15 rfl rfl ?_
      refine r_p dX12_bits_16 rfl rfl ?_
      refine r_go dX12_bits_17 rfl ?_
      show tR _ _ _ _ [some (.int l0), some (.int (v1 + 1)), some (.int (v2 &&& (v2 - 1)))] _ _ _ _
      exact r_eIp (r' := x_AX12_bits_4 T l0 K f (v1 + 1) (v2 &&& (v2 - 1))) (by rw [x_AX12_bits_4]; rw [if_neg c5_1]) ((ih (v1 + 1) (v2 &&& (v2 - 1))  kk))
def x_AX12_bits (T : St) (n : Int32) : Int32 := x_AX12_bits_4 T n (fun (w1_1 : Int32) (w1_2 : Int32) => w1_1) 1000 0 n
def ok_AX12_bits (T : St) (n : Int32) : Prop := ok_AX12_bits_4 T n (fun (w1_1 : Int32) (w1_2 : Int32) => True) 1000 0 n
theorem c_AX12_bits {X : Nat × (Nat → Int32)} {T : St} (n : Int32) (kk : ok_AX12_bits T n) : tC X 1 mX12_bits [.int n] T (some (.int (x_AX12_bits T n))) T := by
  unfold ok_AX12_bits at kk
  refine tC_of ?_
  refine r_ci (x := 0) dX12_bits_0 rfl ?_
  refine r_p dX12_bits_1 rfl rfl ?_
  refine r_p dX12_bits_2 rfl rfl ?_
  refine r_p dX12_bits_3 rfl rfl ?_
  show tR _ _ _ _ [some (.int n), some (.int 0), some (.int n)] _ _ _ _
  refine r_eIp (r' := x_AX12_bits_4 T n (fun (w1_1 : Int32) (w1_2 : Int32) => w1_1) 1000 0 n) (by unfold x_AX12_bits; rfl) ((c_AX12_bits_4 T n (fun w1_1 w1_2 kk => ?_) 1000 0 n  kk))
  · refine r_p dX12_bits_20 rfl rfl ?_
    exact r_eIp (r' := w1_1) rfl (r_ri dX12_bits_21 rfl rfl rfl rfl)
def x_AX12_handsAt_5 (T : St) (l1 : Int32) (l2 : Int32) (K : Int32 → Int32 → Int32) : Nat → Int32 → Int32 → Int32
  | 0, _, _ => 0
  | f + 1, v3, v4 => if (T.2.2.1 575 (7 : Int32).toNatClampNeg) ≤ v4 then (K v3 v4) else (if (x_AX12_in T ((l1 : Int32).toInt64) ((T.2.2.1 575 (8 + (2 * v4) : Int32).toNatClampNeg : Int32).toInt64) ((T.2.2.1 575 ((8 + (2 * v4)) + 1 : Int32).toNatClampNeg : Int32).toInt64)) = 0 then (x_AX12_handsAt_5 T l1 l2 K f (v3 - 0) (v4 + 1)) else (x_AX12_handsAt_5 T l1 l2 K f (v3 - 1) (v4 + 1)))
def ok_AX12_handsAt_5 (T : St) (l1 : Int32) (l2 : Int32) (Kk : Int32 → Int32 → Prop) : Nat → Int32 → Int32 → Prop
  | 0, _, _ => False
  | f + 1, v3, v4 => (vp_in 7 204) ∧ (((T.2.2.1 575 (7 : Int32).toNatClampNeg) ≤ v4 → Kk v3 v4) ∧ (¬ (T.2.2.1 575 (7 : Int32).toNatClampNeg) ≤ v4 → (vp_in (8 + (2 * v4)) 204) ∧ (vp_in ((8 + (2 * v4)) + 1) 204) ∧ (((x_AX12_in T ((l1 : Int32).toInt64) ((T.2.2.1 575 (8 + (2 * v4) : Int32).toNatClampNeg : Int32).toInt64) ((T.2.2.1 575 ((8 + (2 * v4)) + 1 : Int32).toNatClampNeg : Int32).toInt64)) = 0 → ok_AX12_handsAt_5 T l1 l2 Kk f (v3 - 0) (v4 + 1)) ∧ (¬ (x_AX12_in T ((l1 : Int32).toInt64) ((T.2.2.1 575 (8 + (2 * v4) : Int32).toNatClampNeg : Int32).toInt64) ((T.2.2.1 575 ((8 + (2 * v4)) + 1 : Int32).toNatClampNeg : Int32).toInt64)) = 0 → ok_AX12_handsAt_5 T l1 l2 Kk f (v3 - 1) (v4 + 1)))))
theorem c_AX12_handsAt_5 {X : Nat × (Nat → Int32)} (T : St) (l1 : Int32) (l2 : Int32) {K : Int32 → Int32 → Int32} {Kk : Int32 → Int32 → Prop} (hk : ∀ (v3 : Int32) (v4 : Int32), Kk v3 v4 → tR X 1 mX12_handsAt 67 [some (.ref 571), some (.int l1), some (.int l2), some (.int v3), some (.int v4)] [] T (some (.int (K v3 v4))) T) : ∀ (f : Nat) (v3 : Int32) (v4 : Int32), ok_AX12_handsAt_5 T l1 l2 Kk f v3 v4 → tR X 1 mX12_handsAt 5 [some (.ref 571), some (.int l1), some (.int l2), some (.int v3), some (.int v4)] [] T (some (.int (x_AX12_handsAt_5 T l1 l2 K f v3 v4))) T := by
  intro f
  induction f with
  | zero => intro v3 v4 kk; exact kk.elim
  | succ f ih =>
    intro v3 v4 kk
    rw [ok_AX12_handsAt_5] at kk
    refine r_p dX12_handsAt_5 rfl rfl ?_
    refine r_p dX12_handsAt_7 rfl rfl ?_
    refine r_get dX12_handsAt_8 fkX12_19 rfl rfl ?_
    refine r_cb (x := 7) dX12_handsAt_11 rfl ?_
    obtain ⟨q1, kk⟩ := kk
    refine r_ia dX12_handsAt_13 rfl q1 ?_
    refine r_cge dX12_handsAt_14 rfl (fun c14_1 => ?_) (fun c14_1 => ?_)
    · have kk := kk.1 c14_1
      show tR _ _ _ _ [some (.ref 571), some (.int l1), some (.int l2), some (.int v3), some (.int v4)] _ _ _ _
      exact r_eIp (r' := K v3 v4) (by rw [x_AX12_handsAt_5]; rw [if_pos c14_1]) ((hk v3 v4  kk))
    · have kk := kk.2 c14_1
      refine r_p dX12_handsAt_17 rfl rfl ?_
      refine r_p dX12_handsAt_18 rfl rfl ?_
      refine r_p dX12_handsAt_19 rfl rfl ?_
      refine r_p dX12_handsAt_20 rfl rfl ?_
      refine r_get dX12_handsAt_21 fkX12_19 rfl rfl ?_
      refine r_cb (x := 8) dX12_handsAt_24 rfl ?_
      refine r_ci (x := 2) dX12_handsAt_26 rfl ?_
      refine r_p dX12_handsAt_27 rfl rfl ?_
      refine r_p dX12_handsAt_29 rfl rfl ?_
      refine r_p dX12_handsAt_30 rfl rfl ?_
      obtain ⟨q2, kk⟩ := kk
      refine r_ia dX12_handsAt_31 rfl q2 ?_
      refine r_p dX12_handsAt_32 rfl rfl ?_
      refine r_p dX12_handsAt_33 rfl rfl ?_
      refine r_get dX12_handsAt_34 fkX12_19 rfl rfl ?_
      refine r_cb (x := 8) dX12_handsAt_37 rfl ?_
      refine r_ci (x := 2) dX12_handsAt_39 rfl ?_
      refine r_p dX12_handsAt_40 rfl rfl ?_
      refine r_p dX12_handsAt_42 rfl rfl ?_
      refine r_p dX12_handsAt_43 rfl rfl ?_
      refine r_ci (x := 1) dX12_handsAt_44 rfl ?_
      refine r_p dX12_handsAt_45 rfl rfl ?_
      obtain ⟨q3, kk⟩ := kk
      refine r_ia dX12_handsAt_46 rfl q3 ?_
      refine r_p dX12_handsAt_47 rfl rfl ?_
      refine r_cs (d1 := 1) dX12_handsAt_48 csX12_111 rfl rfl (Nat.le_of_ble_eq_true rfl) (Nat.le_of_ble_eq_true rfl) (Nat.le_of_ble_eq_true rfl) (c_AX12_in ((l1 : Int32).toInt64) ((T.2.2.1 575 (8 + (2 * v4) : Int32).toNatClampNeg : Int32).toInt64) ((T.2.2.1 575 ((8 + (2 * v4)) + 1 : Int32).toNatClampNeg : Int32).toInt64)) ?_
      refine r_ieq dX12_handsAt_51 rfl (fun c51_2 => ?_) (fun c51_2 => ?_)
      · have kk := kk.1 c51_2
        refine r_ci (x := 0) dX12_handsAt_58 rfl ?_
        refine r_p dX12_handsAt_59 rfl rfl ?_
        refine r_p dX12_handsAt_60 rfl rfl ?_
        refine r_inc (y := 1) dX12_handsAt_61 rfl rfl rfl ?_
        refine r_go dX12_handsAt_64 rfl ?_
        show tR _ _ _ _ [some (.ref 571), some (.int l1), some (.int l2), some (.int (v3 - 0)), some (.int (v4 + 1))] _ _ _ _
        exact r_eIp (r' := x_AX12_handsAt_5 T l1 l2 K f (v3 - 0) (v4 + 1)) (by rw [x_AX12_handsAt_5]; rw [if_neg c14_1, if_pos c51_2]) ((ih (v3 - 0) (v4 + 1)  kk))
      · have kk := kk.2 c51_2
        refine r_ci (x := 1) dX12_handsAt_54 rfl ?_
        refine r_go dX12_handsAt_55 rfl ?_
        refine r_p dX12_handsAt_59 rfl rfl ?_
        refine r_p dX12_handsAt_60 rfl rfl ?_
        refine r_inc (y := 1) dX12_handsAt_61 rfl rfl rfl ?_
        refine r_go dX12_handsAt_64 rfl ?_
        show tR _ _ _ _ [some (.ref 571), some (.int l1), some (.int l2), some (.int (v3 - 1)), some (.int (v4 + 1))] _ _ _ _
        exact r_eIp (r' := x_AX12_handsAt_5 T l1 l2 K f (v3 - 1) (v4 + 1)) (by rw [x_AX12_handsAt_5]; rw [if_neg c14_1, if_neg c51_2]) ((ih (v3 - 1) (v4 + 1)  kk))
def x_AX12_handsAt (T : St) (m : Int32) (h : Int32) : Int32 := x_AX12_handsAt_5 T m h (fun (w1_3 : Int32) (w1_4 : Int32) => if 0 ≤ w1_3 then (w1_3) else (0)) 1000 h 0
def ok_AX12_handsAt (T : St) (m : Int32) (h : Int32) : Prop := ok_AX12_handsAt_5 T m h (fun (w1_3 : Int32) (w1_4 : Int32) => True) 1000 h 0
theorem c_AX12_handsAt {X : Nat × (Nat → Int32)} {T : St} (m : Int32) (h : Int32) (kk : ok_AX12_handsAt T m h) : tC X 2 mX12_handsAt [.ref 571, .int m, .int h] T (some (.int (x_AX12_handsAt T m h))) T := by
  unfold ok_AX12_handsAt at kk
  refine tC_of ?_
  refine r_p dX12_handsAt_0 rfl rfl ?_
  refine r_p dX12_handsAt_1 rfl rfl ?_
  refine r_ci (x := 0) dX12_handsAt_2 rfl ?_
  refine r_p dX12_handsAt_3 rfl rfl ?_
  show tR _ _ _ _ [some (.ref 571), some (.int m), some (.int h), some (.int h), some (.int 0)] _ _ _ _
  refine r_eIp (r' := x_AX12_handsAt_5 T m h (fun (w1_3 : Int32) (w1_4 : Int32) => if 0 ≤ w1_3 then (w1_3) else (0)) 1000 h 0) (by unfold x_AX12_handsAt; rfl) ((c_AX12_handsAt_5 T m h (fun w1_3 w1_4 kk => ?_) 1000 h 0  kk))
  · refine r_p dX12_handsAt_67 rfl rfl ?_
    refine r_ige dX12_handsAt_68 rfl (fun c68_3 => ?_) (fun c68_3 => ?_)
    · refine r_p dX12_handsAt_75 rfl rfl ?_
      exact r_eIp (r' := w1_3) (by first | rw [if_pos c68_3] | (dsimp only; rw [if_pos c68_3])) (r_ri dX12_handsAt_76 rfl rfl rfl rfl)
    · refine r_ci (x := 0) dX12_handsAt_71 rfl ?_
      refine r_go dX12_handsAt_72 rfl ?_
      exact r_eIp (r' := 0) (by first | rw [if_neg c68_3] | (dsimp only; rw [if_neg c68_3])) (r_ri dX12_handsAt_76 rfl rfl rfl rfl)
def x_AX8_present_4 (T : St)  (K : Int32 → Int32 → Int32) : Nat → Int32 → Int32 → Int32
  | 0, _, _ => 0
  | f + 1, v1, v2 => if 8 ≤ v2 then (K v1 v2) else (if (T.2.2.1 2 (v2 : Int32).toNatClampNeg) = (-1) then (x_AX8_present_4 T K f v1 (v2 + 1)) else (x_AX8_present_4 T K f (v1 + 1) (v2 + 1)))
def ok_AX8_present_4 (T : St)  (Kk : Int32 → Int32 → Prop) : Nat → Int32 → Int32 → Prop
  | 0, _, _ => False
  | f + 1, v1, v2 => ((8 ≤ v2 → Kk v1 v2) ∧ (¬ 8 ≤ v2 → (vp_in v2 8) ∧ (((T.2.2.1 2 (v2 : Int32).toNatClampNeg) = (-1) → ok_AX8_present_4 T Kk f v1 (v2 + 1)) ∧ (¬ (T.2.2.1 2 (v2 : Int32).toNatClampNeg) = (-1) → ok_AX8_present_4 T Kk f (v1 + 1) (v2 + 1)))))
theorem c_AX8_present_4 {X : Nat × (Nat → Int32)} (T : St)  {K : Int32 → Int32 → Int32} {Kk : Int32 → Int32 → Prop} (hk : ∀ (v1 : Int32) (v2 : Int32), Kk v1 v2 → tR X 0 mX8_present 29 [some (.ref 1), some (.int v1), some (.int v2)] [] T (some (.int (K v1 v2))) T) : ∀ (f : Nat) (v1 : Int32) (v2 : Int32), ok_AX8_present_4 T  Kk f v1 v2 → tR X 0 mX8_present 4 [some (.ref 1), some (.int v1), some (.int v2)] [] T (some (.int (x_AX8_present_4 T K f v1 v2))) T := by
  intro f
  induction f with
  | zero => intro v1 v2 kk; exact kk.elim
  | succ f ih =>
    intro v1 v2 kk
    rw [ok_AX8_present_4] at kk
    refine r_p dX8_present_4 rfl rfl ?_
    refine r_cb (x := 8) dX8_present_5 rfl ?_
    refine r_cge dX8_present_7 rfl (fun c7_1 => ?_) (fun c7_1 => ?_)
    · have kk := kk.1 c7_1
      show tR _ _ _ _ [some (.ref 1), some (.int v1), some (.int v2)] _ _ _ _
      exact r_eIp (r' := K v1 v2) (by rw [x_AX8_present_4]; rw [if_pos c7_1]) ((hk v1 v2  kk))
    · have kk := kk.2 c7_1
      refine r_p dX8_present_10 rfl rfl ?_
      refine r_get dX8_present_11 fkX8_9 rfl rfl ?_
      refine r_p dX8_present_14 rfl rfl ?_
      obtain ⟨q1, kk⟩ := kk
      refine r_ia dX8_present_15 rfl q1 ?_
      refine r_ci (x := -1) dX8_present_16 rfl ?_
      refine r_ceq dX8_present_17 rfl (fun c17_2 => ?_) (fun c17_2 => ?_)
      · have kk := kk.1 c17_2
        refine r_inc (y := 1) dX8_present_23 rfl rfl rfl ?_
        refine r_go dX8_present_26 rfl ?_
        show tR _ _ _ _ [some (.ref 1), some (.int v1), some (.int (v2 + 1))] _ _ _ _
        exact r_eIp (r' := x_AX8_present_4 T K f v1 (v2 + 1)) (by rw [x_AX8_present_4]; rw [if_neg c7_1, if_pos c17_2]) ((ih v1 (v2 + 1)  kk))
      · have kk := kk.2 c17_2
        refine r_inc (y := 1) dX8_present_20 rfl rfl rfl ?_
        refine r_inc (y := 1) dX8_present_23 rfl rfl rfl ?_
        refine r_go dX8_present_26 rfl ?_
        show tR _ _ _ _ [some (.ref 1), some (.int (v1 + 1)), some (.int (v2 + 1))] _ _ _ _
        exact r_eIp (r' := x_AX8_present_4 T K f (v1 + 1) (v2 + 1)) (by rw [x_AX8_present_4]; rw [if_neg c7_1, if_neg c17_2]) ((ih (v1 + 1) (v2 + 1)  kk))
def x_AX8_present (T : St)  : Int32 := x_AX8_present_4 T  (fun (w1_1 : Int32) (w1_2 : Int32) => w1_1) 1000 0 0
def ok_AX8_present (T : St)  : Prop := ok_AX8_present_4 T  (fun (w1_1 : Int32) (w1_2 : Int32) => True) 1000 0 0
theorem c_AX8_present {X : Nat × (Nat → Int32)} {T : St}  (kk : ok_AX8_present T ) : tC X 1 mX8_present [.ref 1] T (some (.int (x_AX8_present T))) T := by
  unfold ok_AX8_present at kk
  refine tC_of ?_
  refine r_ci (x := 0) dX8_present_0 rfl ?_
  refine r_p dX8_present_1 rfl rfl ?_
  refine r_ci (x := 0) dX8_present_2 rfl ?_
  refine r_p dX8_present_3 rfl rfl ?_
  show tR _ _ _ _ [some (.ref 1), some (.int 0), some (.int 0)] _ _ _ _
  refine r_eIp (r' := x_AX8_present_4 T  (fun (w1_1 : Int32) (w1_2 : Int32) => w1_1) 1000 0 0) (by unfold x_AX8_present; rfl) ((c_AX8_present_4 T  (fun w1_1 w1_2 kk => ?_) 1000 0 0  kk))
  · refine r_p dX8_present_29 rfl rfl ?_
    exact r_eIp (r' := w1_1) rfl (r_ri dX8_present_30 rfl rfl rfl rfl)
def x_AX1_awayAt_4 (T : St) (l0 : Nat) (l1 : Int32) (K : Int32 → Int32 → Int32) : Nat → Int32 → Int32 → Int32
  | 0, _, _ => 0
  | f + 1, v2, v3 => if (T.1 l0 1) ≤ v3 then (K v2 v3) else (if l1 < (T.2.2.1 (l0 + 2) (v3 : Int32).toNatClampNeg) then (x_AX1_awayAt_4 T l0 l1 K f v2 (v3 + 1)) else (if (T.2.2.1 (l0 + 3) (v3 : Int32).toNatClampNeg) < l1 then (x_AX1_awayAt_4 T l0 l1 K f v2 (v3 + 1)) else (x_AX1_awayAt_4 T l0 l1 K f (v2 + 1) (v3 + 1))))
def ok_AX1_awayAt_4 (T : St) (l0 : Nat) (l1 : Int32) (Kk : Int32 → Int32 → Prop) : Nat → Int32 → Int32 → Prop
  | 0, _, _ => False
  | f + 1, v2, v3 => (sh l0 = .inr 1) ∧ (((T.1 l0 1) ≤ v3 → Kk v2 v3) ∧ (¬ (T.1 l0 1) ≤ v3 → (sh (l0 + 2) = .inl (0, 4)) ∧ (vp_in v3 4) ∧ ((l1 < (T.2.2.1 (l0 + 2) (v3 : Int32).toNatClampNeg) → ok_AX1_awayAt_4 T l0 l1 Kk f v2 (v3 + 1)) ∧ (¬ l1 < (T.2.2.1 (l0 + 2) (v3 : Int32).toNatClampNeg) → (sh (l0 + 3) = .inl (0, 4)) ∧ (((T.2.2.1 (l0 + 3) (v3 : Int32).toNatClampNeg) < l1 → ok_AX1_awayAt_4 T l0 l1 Kk f v2 (v3 + 1)) ∧ (¬ (T.2.2.1 (l0 + 3) (v3 : Int32).toNatClampNeg) < l1 → ok_AX1_awayAt_4 T l0 l1 Kk f (v2 + 1) (v3 + 1)))))))
theorem c_AX1_awayAt_4 {X : Nat × (Nat → Int32)} (T : St) (l0 : Nat) (l1 : Int32) {K : Int32 → Int32 → Int32} {Kk : Int32 → Int32 → Prop} (hk : ∀ (v2 : Int32) (v3 : Int32), Kk v2 v3 → tR X 0 mX1_awayAt 41 [some (.ref l0), some (.int l1), some (.int v2), some (.int v3)] [] T (some (.int (K v2 v3))) T) : ∀ (f : Nat) (v2 : Int32) (v3 : Int32), ok_AX1_awayAt_4 T l0 l1 Kk f v2 v3 → tR X 0 mX1_awayAt 4 [some (.ref l0), some (.int l1), some (.int v2), some (.int v3)] [] T (some (.int (x_AX1_awayAt_4 T l0 l1 K f v2 v3))) T := by
  intro f
  induction f with
  | zero => intro v2 v3 kk; exact kk.elim
  | succ f ih =>
    intro v2 v3 kk
    rw [ok_AX1_awayAt_4] at kk
    refine r_p dX1_awayAt_4 rfl rfl ?_
    refine r_p dX1_awayAt_5 rfl rfl ?_
    obtain ⟨q1, kk⟩ := kk
    refine r_get dX1_awayAt_6 fkX1_58 q1 rfl ?_
    refine r_cge dX1_awayAt_9 rfl (fun c9_1 => ?_) (fun c9_1 => ?_)
    · have kk := kk.1 c9_1
      show tR _ _ _ _ [some (.ref l0), some (.int l1), some (.int v2), some (.int v3)] _ _ _ _
      exact r_eIp (r' := K v2 v3) (by rw [x_AX1_awayAt_4]; rw [if_pos c9_1]) ((hk v2 v3  kk))
    · have kk := kk.2 c9_1
      refine r_p dX1_awayAt_12 rfl rfl ?_
      refine r_get dX1_awayAt_13 fkX1_15 q1 rfl ?_
      refine r_p dX1_awayAt_16 rfl rfl ?_
      obtain ⟨q2, kk⟩ := kk
      obtain ⟨q3, kk⟩ := kk
      refine r_ia dX1_awayAt_17 q2 q3 ?_
      refine r_p dX1_awayAt_18 rfl rfl ?_
      refine r_cgt dX1_awayAt_19 rfl (fun c19_2 => ?_) (fun c19_2 => ?_)
      · have kk := kk.1 c19_2
        refine r_inc (y := 1) dX1_awayAt_35 rfl rfl rfl ?_
        refine r_go dX1_awayAt_38 rfl ?_
        show tR _ _ _ _ [some (.ref l0), some (.int l1), some (.int v2), some (.int (v3 + 1))] _ _ _ _
        exact r_eIp (r' := x_AX1_awayAt_4 T l0 l1 K f v2 (v3 + 1)) (by rw [x_AX1_awayAt_4]; rw [if_neg c9_1, if_pos c19_2]) ((ih v2 (v3 + 1)  kk))
      · have kk := kk.2 c19_2
        refine r_p dX1_awayAt_22 rfl rfl ?_
        refine r_p dX1_awayAt_23 rfl rfl ?_
        refine r_get dX1_awayAt_24 fkX1_18 q1 rfl ?_
        refine r_p dX1_awayAt_27 rfl rfl ?_
        obtain ⟨q4, kk⟩ := kk
        refine r_ia dX1_awayAt_28 q4 q3 ?_
        refine r_cgt dX1_awayAt_29 rfl (fun c29_3 => ?_) (fun c29_3 => ?_)
        · have kk := kk.1 c29_3
          refine r_inc (y := 1) dX1_awayAt_35 rfl rfl rfl ?_
          refine r_go dX1_awayAt_38 rfl ?_
          show tR _ _ _ _ [some (.ref l0), some (.int l1), some (.int v2), some (.int (v3 + 1))] _ _ _ _
          exact r_eIp (r' := x_AX1_awayAt_4 T l0 l1 K f v2 (v3 + 1)) (by rw [x_AX1_awayAt_4]; rw [if_neg c9_1, if_neg c19_2, if_pos c29_3]) ((ih v2 (v3 + 1)  kk))
        · have kk := kk.2 c29_3
          refine r_inc (y := 1) dX1_awayAt_32 rfl rfl rfl ?_
          refine r_inc (y := 1) dX1_awayAt_35 rfl rfl rfl ?_
          refine r_go dX1_awayAt_38 rfl ?_
          show tR _ _ _ _ [some (.ref l0), some (.int l1), some (.int (v2 + 1)), some (.int (v3 + 1))] _ _ _ _
          exact r_eIp (r' := x_AX1_awayAt_4 T l0 l1 K f (v2 + 1) (v3 + 1)) (by rw [x_AX1_awayAt_4]; rw [if_neg c9_1, if_neg c19_2, if_neg c29_3]) ((ih (v2 + 1) (v3 + 1)  kk))
def x_AX1_awayAt (T : St) (a : Nat) (m : Int32) : Int32 := x_AX1_awayAt_4 T a m (fun (w1_2 : Int32) (w1_3 : Int32) => w1_2) 1000 0 0
def ok_AX1_awayAt (T : St) (a : Nat) (m : Int32) : Prop := ok_AX1_awayAt_4 T a m (fun (w1_2 : Int32) (w1_3 : Int32) => True) 1000 0 0
theorem c_AX1_awayAt {X : Nat × (Nat → Int32)} {T : St} (a : Nat) (m : Int32) (kk : ok_AX1_awayAt T a m) : tC X 1 mX1_awayAt [.ref a, .int m] T (some (.int (x_AX1_awayAt T a m))) T := by
  unfold ok_AX1_awayAt at kk
  refine tC_of ?_
  refine r_ci (x := 0) dX1_awayAt_0 rfl ?_
  refine r_p dX1_awayAt_1 rfl rfl ?_
  refine r_ci (x := 0) dX1_awayAt_2 rfl ?_
  refine r_p dX1_awayAt_3 rfl rfl ?_
  show tR _ _ _ _ [some (.ref a), some (.int m), some (.int 0), some (.int 0)] _ _ _ _
  refine r_eIp (r' := x_AX1_awayAt_4 T a m (fun (w1_2 : Int32) (w1_3 : Int32) => w1_2) 1000 0 0) (by unfold x_AX1_awayAt; rfl) ((c_AX1_awayAt_4 T a m (fun w1_2 w1_3 kk => ?_) 1000 0 0  kk))
  · refine r_p dX1_awayAt_41 rfl rfl ?_
    exact r_eIp (r' := w1_2) rfl (r_ri dX1_awayAt_42 rfl rfl rfl rfl)
