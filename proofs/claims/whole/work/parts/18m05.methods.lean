def x_x_kind (T : St) (p0 : Int32) : Int32 := if (x_bk_hasStep T (T.2.1 0) p0) = 0 then (-1000001) else (x_bk_kindOf T (T.2.1 0) p0)
def ok_x_kind (T : St) (p0 : Int32) : Prop := (ok_bk_hasStep T (T.2.1 0) p0) ∧ (sh (T.2.1 0) = .inr 1) ∧ (¬ (x_bk_hasStep T (T.2.1 0) p0) = 0 → (ok_bk_kindOf T (T.2.1 0) p0) ∧ True)
theorem c_x_kind {X : Nat × (Nat → Int32)} {T : St} (p0 : Int32) (kk : ok_x_kind T p0) : tC X 2 mX11_kind [.ref (0 : Nat), .int p0] T (some (.int (x_x_kind T p0))) T := by
  unfold ok_x_kind at kk
  refine tC_orIp (L := [some (.ref (0 : Nat)), some (.int p0)]) (x_x_kind T p0) rfl ?_
  unfold x_x_kind
  refine r_p (pc2 := 1) dX11_kind_0 rfl rfl ?_
  refine r_get dX11_kind_1 fkX11_30 rfl rfl ?_
  refine r_p (pc2 := 5) dX11_kind_4 rfl rfl ?_
  obtain ⟨q1, kk⟩ := kk
  obtain ⟨q2, kk⟩ := kk
  refine r_cv (d1 := 1) dX11_kind_5 cvX11_171 rfl rfl q2 rfl (Nat.le_of_ble_eq_true rfl) (Nat.le_of_ble_eq_true rfl) (Nat.le_of_ble_eq_true rfl) (c_bk_hasStep (T.2.1 0) p0 q1) ?_
  refine r_ieq dX11_kind_8 rfl (fun c8_1 => ?_) (fun c8_1 => ?_)
  · refine r_ip (R := (rIp T)) c8_1 ?_
    refine r_k dX11_kind_22 kkX11_82 ?_
    exact r_qIp dX11_kind_24 rfl rfl rfl
  · refine r_in (R := (rIp T)) c8_1 ?_
    have kk := kk c8_1
    refine r_p (pc2 := 12) dX11_kind_11 rfl rfl ?_
    refine r_get dX11_kind_12 fkX11_30 rfl rfl ?_
    refine r_p (pc2 := 16) dX11_kind_15 rfl rfl ?_
    obtain ⟨q3, kk⟩ := kk
    refine r_cv (d1 := 1) dX11_kind_16 cvX11_327 rfl rfl q2 rfl (Nat.le_of_ble_eq_true rfl) (Nat.le_of_ble_eq_true rfl) (Nat.le_of_ble_eq_true rfl) (c_bk_kindOf (T.2.1 0) p0 q3) ?_
    refine r_go dX11_kind_19 rfl ?_
    exact r_qIp dX11_kind_24 rfl rfl rfl
def x_x_trace (T : St) (p0 : Int32) : Int32 := if p0 < 0 then (-1000000) else (if (T.1 555 1) ≤ p0 then (-1000000) else (T.2.2.1 556 (p0 : Int32).toNatClampNeg))
def ok_x_trace (T : St) (p0 : Int32) : Prop := (¬ p0 < 0 → (¬ (T.1 555 1) ≤ p0 → (vp_in p0 16) ∧ True))
theorem c_x_trace {X : Nat × (Nat → Int32)} {T : St} (p0 : Int32) (kk : ok_x_trace T p0) : tC X 1 mX11_trace [.ref (0 : Nat), .int p0] T (some (.int (x_x_trace T p0))) T := by
  unfold ok_x_trace at kk
  refine tC_orIp (L := [some (.ref (0 : Nat)), some (.int p0)]) (x_x_trace T p0) rfl ?_
  unfold x_x_trace
  refine r_p (pc2 := 1) dX11_trace_0 rfl rfl ?_
  refine r_ilt dX11_trace_1 rfl (fun c1_1 => ?_) (fun c1_1 => ?_)
  · refine r_ip (R := (rIp T)) c1_1 ?_
    refine r_k dX11_trace_27 kkX11_241 ?_
    exact r_qIp dX11_trace_29 rfl rfl rfl
  · refine r_in (R := (rIp T)) c1_1 ?_
    have kk := kk c1_1
    refine r_p (pc2 := 5) dX11_trace_4 rfl rfl ?_
    refine r_p (pc2 := 6) dX11_trace_5 rfl rfl ?_
    refine r_get dX11_trace_6 fkX11_64 rfl rfl ?_
    refine r_get dX11_trace_9 fkX11_338 rfl rfl ?_
    refine r_cge dX11_trace_12 rfl (fun c12_2 => ?_) (fun c12_2 => ?_)
    · refine r_ip (R := (rIp T)) c12_2 ?_
      refine r_k dX11_trace_27 kkX11_241 ?_
      exact r_qIp dX11_trace_29 rfl rfl rfl
    · refine r_in (R := (rIp T)) c12_2 ?_
      have kk := kk c12_2
      refine r_p (pc2 := 16) dX11_trace_15 rfl rfl ?_
      refine r_get dX11_trace_16 fkX11_64 rfl rfl ?_
      refine r_get dX11_trace_19 fkX11_339 rfl rfl ?_
      refine r_p (pc2 := 23) dX11_trace_22 rfl rfl ?_
      obtain ⟨q1, kk⟩ := kk
      refine r_ia dX11_trace_23 rfl q1 ?_
      refine r_go dX11_trace_24 rfl ?_
      exact r_qIp dX11_trace_29 rfl rfl rfl
def x_x_status (T : St)  : Int32 := T.1 0 12
theorem c_x_status {X : Nat × (Nat → Int32)} {T : St}  : tC X 1 mX11_status [.ref (0 : Nat)] T (some (.int (x_x_status T))) T := by
  refine tC_orIp (L := [some (.ref (0 : Nat))]) (x_x_status T ) rfl ?_
  unfold x_x_status
  refine r_p (pc2 := 1) dX11_status_0 rfl rfl ?_
  refine r_get dX11_status_1 fkX11_354 rfl rfl ?_
  exact r_qIp dX11_status_4 rfl rfl rfl
def x_x_found (T : St) (p0 : Int32) : Int32 × St := ((-1000010) - p0, sF T 0 12 p0)
theorem c_x_found {X : Nat × (Nat → Int32)} {T : St} (p0 : Int32) : tC X 1 mX11_found [.ref (0 : Nat), .int p0] T (some (.int (x_x_found T p0).1)) ((x_x_found T p0).2) := by
  refine tC_orI (L := [some (.ref (0 : Nat)), some (.int p0)]) (x_x_found T p0) rfl ?_
  unfold x_x_found
  refine r_p (pc2 := 1) dX11_found_0 rfl rfl ?_
  refine r_p (pc2 := 2) dX11_found_1 rfl rfl ?_
  refine r_put dX11_found_2 fkX11_354 rfl rfl rfl (Nat.le_of_ble_eq_true rfl) rfl rfl ?_
  refine r_kw dX11_found_5 kkX11_357 ?_
  refine r_p (pc2 := 9) dX11_found_8 rfl rfl ?_
  refine r_p (pc2 := 10) dX11_found_9 rfl rfl ?_
  exact r_qI dX11_found_10 rfl rfl rfl rfl
def x_x_fine (T : St) (p0 : Int32) : Int32 × St := (p0, sF T 0 12 0)
theorem c_x_fine {X : Nat × (Nat → Int32)} {T : St} (p0 : Int32) : tC X 1 mX11_fine [.ref (0 : Nat), .int p0] T (some (.int (x_x_fine T p0).1)) ((x_x_fine T p0).2) := by
  refine tC_orI (L := [some (.ref (0 : Nat)), some (.int p0)]) (x_x_fine T p0) rfl ?_
  unfold x_x_fine
  refine r_p (pc2 := 1) dX11_fine_0 rfl rfl ?_
  refine r_ci (x := 0) dX11_fine_1 rfl ?_
  refine r_put dX11_fine_2 fkX11_354 rfl rfl rfl (Nat.le_of_ble_eq_true rfl) rfl rfl ?_
  refine r_p (pc2 := 6) dX11_fine_5 rfl rfl ?_
  exact r_qI dX11_fine_6 rfl rfl rfl rfl
def x_x_refusal (T : St) (p0 : Int32) : Int32 := if p0 = 0 then (-1000001) else (if (x_bk_isRead T (T.2.1 0)) = 0 then (-1000002) else (0))
def ok_x_refusal (T : St) (p0 : Int32) : Prop := (¬ p0 = 0 → (ok_bk_isRead T (T.2.1 0)) ∧ (sh (T.2.1 0) = .inr 1) ∧ True)
theorem c_x_refusal {X : Nat × (Nat → Int32)} {T : St} (p0 : Int32) (kk : ok_x_refusal T p0) : tC X 2 mX11_refusal [.ref (0 : Nat), .int p0] T (some (.int (x_x_refusal T p0))) T := by
  unfold ok_x_refusal at kk
  refine tC_orIp (L := [some (.ref (0 : Nat)), some (.int p0)]) (x_x_refusal T p0) rfl ?_
  unfold x_x_refusal
  refine r_p (pc2 := 1) dX11_refusal_0 rfl rfl ?_
  refine r_ine dX11_refusal_1 rfl (fun c1_1 => ?_) (fun c1_1 => ?_)
  · refine r_in (R := (rIp T)) c1_1 ?_
    have kk := kk c1_1
    refine r_p (pc2 := 8) dX11_refusal_7 rfl rfl ?_
    refine r_get dX11_refusal_8 fkX11_30 rfl rfl ?_
    obtain ⟨q1, kk⟩ := kk
    obtain ⟨q2, kk⟩ := kk
    refine r_cv (d1 := 1) dX11_refusal_11 cvX11_189 rfl rfl q2 rfl (Nat.le_of_ble_eq_true rfl) (Nat.le_of_ble_eq_true rfl) (Nat.le_of_ble_eq_true rfl) (c_bk_isRead (T.2.1 0) q1) ?_
    refine r_ieq dX11_refusal_14 rfl (fun c14_2 => ?_) (fun c14_2 => ?_)
    · refine r_ip (R := (rIp T)) c14_2 ?_
      refine r_k dX11_refusal_21 kkX11_193 ?_
      exact r_qIp dX11_refusal_23 rfl rfl rfl
    · refine r_in (R := (rIp T)) c14_2 ?_
      refine r_ci (x := 0) dX11_refusal_17 rfl ?_
      refine r_go dX11_refusal_18 rfl ?_
      exact r_qIp dX11_refusal_23 rfl rfl rfl
  · refine r_ip (R := (rIp T)) c1_1 ?_
    refine r_k dX11_refusal_4 kkX11_82 ?_
    exact r_qIp dX11_refusal_6 rfl rfl rfl
def x_x_isTime (T : St) (p0 : Int32) : Int32 := if p0 < 1 then (0) else (if 60 < p0 then (0) else (1))
theorem c_x_isTime {X : Nat × (Nat → Int32)} {T : St} (p0 : Int32) : tC X 1 mX11_isTime [.int p0] T (some (.int (x_x_isTime T p0))) T := by
  refine tC_orIp (L := [some (.int p0)]) (x_x_isTime T p0) rfl ?_
  unfold x_x_isTime
  refine r_p (pc2 := 1) dX11_isTime_0 rfl rfl ?_
  refine r_ci (x := 1) dX11_isTime_1 rfl ?_
  refine r_clt dX11_isTime_2 rfl (fun c2_1 => ?_) (fun c2_1 => ?_)
  · refine r_ip (R := (rIp T)) c2_1 ?_
    refine r_ci (x := 0) dX11_isTime_15 rfl ?_
    exact r_qIp dX11_isTime_16 rfl rfl rfl
  · refine r_in (R := (rIp T)) c2_1 ?_
    refine r_p (pc2 := 6) dX11_isTime_5 rfl rfl ?_
    refine r_cb (x := 60) dX11_isTime_6 rfl ?_
    refine r_cgt dX11_isTime_8 rfl (fun c8_2 => ?_) (fun c8_2 => ?_)
    · refine r_ip (R := (rIp T)) c8_2 ?_
      refine r_ci (x := 0) dX11_isTime_15 rfl ?_
      exact r_qIp dX11_isTime_16 rfl rfl rfl
    · refine r_in (R := (rIp T)) c8_2 ?_
      refine r_ci (x := 1) dX11_isTime_11 rfl ?_
      refine r_go dX11_isTime_12 rfl ?_
      exact r_qIp dX11_isTime_16 rfl rfl rfl
theorem b_x_isTime (T : St) (p0 : Int32) : x_x_isTime T p0 = 0 ∨ x_x_isTime T p0 = 1 := by
  unfold x_x_isTime
  try simp only [jn]
  repeat' split
  all_goals (first | exact Or.inl rfl | exact Or.inr rfl)
def x_x_isMinute (T : St) (p0 : Int32) : Int32 := if p0 < 0 then (0) else (if 60 ≤ p0 then (0) else (1))
theorem c_x_isMinute {X : Nat × (Nat → Int32)} {T : St} (p0 : Int32) : tC X 1 mX11_isMinute [.int p0] T (some (.int (x_x_isMinute T p0))) T := by
  refine tC_orIp (L := [some (.int p0)]) (x_x_isMinute T p0) rfl ?_
  unfold x_x_isMinute
  refine r_p (pc2 := 1) dX11_isMinute_0 rfl rfl ?_
  refine r_ilt dX11_isMinute_1 rfl (fun c1_1 => ?_) (fun c1_1 => ?_)
  · refine r_ip (R := (rIp T)) c1_1 ?_
    refine r_ci (x := 0) dX11_isMinute_14 rfl ?_
    exact r_qIp dX11_isMinute_15 rfl rfl rfl
  · refine r_in (R := (rIp T)) c1_1 ?_
    refine r_p (pc2 := 5) dX11_isMinute_4 rfl rfl ?_
    refine r_cb (x := 60) dX11_isMinute_5 rfl ?_
    refine r_cge dX11_isMinute_7 rfl (fun c7_2 => ?_) (fun c7_2 => ?_)
    · refine r_ip (R := (rIp T)) c7_2 ?_
      refine r_ci (x := 0) dX11_isMinute_14 rfl ?_
      exact r_qIp dX11_isMinute_15 rfl rfl rfl
    · refine r_in (R := (rIp T)) c7_2 ?_
      refine r_ci (x := 1) dX11_isMinute_10 rfl ?_
      refine r_go dX11_isMinute_11 rfl ?_
      exact r_qIp dX11_isMinute_15 rfl rfl rfl
theorem b_x_isMinute (T : St) (p0 : Int32) : x_x_isMinute T p0 = 0 ∨ x_x_isMinute T p0 = 1 := by
  unfold x_x_isMinute
  try simp only [jn]
  repeat' split
  all_goals (first | exact Or.inl rfl | exact Or.inr rfl)
def x_x_span (T : St) (p0 : Int32) (p1 : Int32) : Int64 := if p0 < 0 then (0) else (if p1 ≤ 0 then (0) else (if (p0 + p1) ≤ 60 then ((1 <<< ((p1 : Int32).toInt64 &&& 63)) - 1) <<< ((p0 : Int32).toInt64 &&& 63) else (0)))
theorem c_x_span {X : Nat × (Nat → Int32)} {T : St} (p0 : Int32) (p1 : Int32) : tC X 1 mX11_span [.int p0, .int p1] T (some (.long (x_x_span T p0 p1))) T := by
  refine tC_orJp (L := [some (.int p0), some (.int p1)]) (x_x_span T p0 p1) rfl ?_
  unfold x_x_span
  refine r_p (pc2 := 1) dX11_span_0 rfl rfl ?_
  refine r_ilt dX11_span_1 rfl (fun c1_1 => ?_) (fun c1_1 => ?_)
  · refine r_ip (R := (rJp T)) c1_1 ?_
    refine r_cl (x := 0) dX11_span_16 rfl ?_
    exact r_qJp dX11_span_17 rfl rfl
  · refine r_in (R := (rJp T)) c1_1 ?_
    refine r_p (pc2 := 5) dX11_span_4 rfl rfl ?_
    refine r_ile dX11_span_5 rfl (fun c5_2 => ?_) (fun c5_2 => ?_)
    · refine r_ip (R := (rJp T)) c5_2 ?_
      refine r_cl (x := 0) dX11_span_16 rfl ?_
      exact r_qJp dX11_span_17 rfl rfl
    · refine r_in (R := (rJp T)) c5_2 ?_
      refine r_p (pc2 := 9) dX11_span_8 rfl rfl ?_
      refine r_p (pc2 := 10) dX11_span_9 rfl rfl ?_
      refine r_p (pc2 := 11) dX11_span_10 rfl rfl ?_
      refine r_cb (x := 60) dX11_span_11 rfl ?_
      refine r_cle dX11_span_13 rfl (fun c13_3 => ?_) (fun c13_3 => ?_)
      · refine r_ip (R := (rJp T)) c13_3 ?_
        refine r_cl (x := 1) dX11_span_18 rfl ?_
        refine r_p (pc2 := 20) dX11_span_19 rfl rfl ?_
        refine r_p (pc2 := 21) dX11_span_20 rfl rfl ?_
        refine r_cl (x := 1) dX11_span_21 rfl ?_
        refine r_p (pc2 := 23) dX11_span_22 rfl rfl ?_
        refine r_p (pc2 := 24) dX11_span_23 rfl rfl ?_
        refine r_p (pc2 := 25) dX11_span_24 rfl rfl ?_
        exact r_qJp dX11_span_25 rfl rfl
      · refine r_in (R := (rJp T)) c13_3 ?_
        refine r_cl (x := 0) dX11_span_16 rfl ?_
        exact r_qJp dX11_span_17 rfl rfl
def x_m_in (T : St) (p0 : Int64) (p1 : Int64) (p2 : Int64) : Int32 := if (lg_cmp p0 p1) < 0 then (0) else (if 0 < (lg_cmp p0 p2) then (0) else (1))
theorem c_m_in {X : Nat × (Nat → Int32)} {T : St} (p0 : Int64) (p1 : Int64) (p2 : Int64) : tC X 1 mX12_in [.long p0, .long p1, .long p2] T (some (.int (x_m_in T p0 p1 p2))) T := by
  refine tC_orIp (L := [some (.long p0), none, some (.long p1), none, some (.long p2), none]) (x_m_in T p0 p1 p2) rfl ?_
  unfold x_m_in
  refine r_p (pc2 := 1) dX12_in_0 rfl rfl ?_
  refine r_p (pc2 := 2) dX12_in_1 rfl rfl ?_
  refine r_p (pc2 := 3) dX12_in_2 rfl rfl ?_
  refine r_ilt dX12_in_3 rfl (fun c3_1 => ?_) (fun c3_1 => ?_)
  · refine r_ip (R := (rIp T)) c3_1 ?_
    refine r_ci (x := 0) dX12_in_17 rfl ?_
    exact r_qIp dX12_in_18 rfl rfl rfl
  · refine r_in (R := (rIp T)) c3_1 ?_
    refine r_p (pc2 := 7) dX12_in_6 rfl rfl ?_
    refine r_p (pc2 := 9) dX12_in_7 rfl rfl ?_
    refine r_p (pc2 := 10) dX12_in_9 rfl rfl ?_
    refine r_igt dX12_in_10 rfl (fun c10_2 => ?_) (fun c10_2 => ?_)
    · refine r_ip (R := (rIp T)) c10_2 ?_
      refine r_ci (x := 0) dX12_in_17 rfl ?_
      exact r_qIp dX12_in_18 rfl rfl rfl
    · refine r_in (R := (rIp T)) c10_2 ?_
      refine r_ci (x := 1) dX12_in_13 rfl ?_
      refine r_go dX12_in_14 rfl ?_
      exact r_qIp dX12_in_18 rfl rfl rfl
theorem b_m_in (T : St) (p0 : Int64) (p1 : Int64) (p2 : Int64) : x_m_in T p0 p1 p2 = 0 ∨ x_m_in T p0 p1 p2 = 1 := by
  unfold x_m_in
  try simp only [jn]
  repeat' split
  all_goals (first | exact Or.inl rfl | exact Or.inr rfl)
def x_m_finding (T : St) (p0 : Int32) : Int32 × St := ((-1000010) - p0, sF T 571 1 p0)
theorem c_m_finding {X : Nat × (Nat → Int32)} {T : St} (p0 : Int32) : tC X 1 mX12_finding [.ref (571 : Nat), .int p0] T (some (.int (x_m_finding T p0).1)) ((x_m_finding T p0).2) := by
  refine tC_orI (L := [some (.ref (571 : Nat)), some (.int p0)]) (x_m_finding T p0) rfl ?_
  unfold x_m_finding
  refine r_p (pc2 := 1) dX12_finding_0 rfl rfl ?_
  refine r_p (pc2 := 2) dX12_finding_1 rfl rfl ?_
  refine r_put dX12_finding_2 fkX12_105 rfl rfl rfl (Nat.le_of_ble_eq_true rfl) rfl rfl ?_
  refine r_k dX12_finding_5 kkX12_108 ?_
  refine r_p (pc2 := 8) dX12_finding_7 rfl rfl ?_
  refine r_p (pc2 := 9) dX12_finding_8 rfl rfl ?_
  exact r_qI dX12_finding_9 rfl rfl rfl rfl
def x_m_isSheet (T : St) (p0 : Int32) : Int32 := x_m_in T ((p0 : Int32).toInt64) 0 7
theorem c_m_isSheet {X : Nat × (Nat → Int32)} {T : St} (p0 : Int32) : tC X 2 mX12_isSheet [.int p0] T (some (.int (x_m_isSheet T p0))) T := by
  refine tC_orIp (L := [some (.int p0)]) (x_m_isSheet T p0) rfl ?_
  unfold x_m_isSheet
  refine r_p (pc2 := 1) dX12_isSheet_0 rfl rfl ?_
  refine r_p (pc2 := 2) dX12_isSheet_1 rfl rfl ?_
  refine r_cl (x := 0) dX12_isSheet_2 rfl ?_
  refine r_kl dX12_isSheet_3 klX12_109 ?_
  refine r_cs (d1 := 1) dX12_isSheet_6 csX12_111 rfl rfl (Nat.le_of_ble_eq_true rfl) (Nat.le_of_ble_eq_true rfl) (Nat.le_of_ble_eq_true rfl) (c_m_in ((p0 : Int32).toInt64) 0 7) ?_
  exact r_qIp dX12_isSheet_9 rfl (nar_b (b_m_in T ((p0 : Int32).toInt64) 0 7)) rfl
theorem b_m_isSheet (T : St) (p0 : Int32) : x_m_isSheet T p0 = 0 ∨ x_m_isSheet T p0 = 1 := by
  unfold x_m_isSheet
  try simp only [jn]
  repeat' split
  all_goals (first | exact Or.inl rfl | exact Or.inr rfl | apply b_m_in)
def x_m_sheet_65 (l1 : Int32) (l2 : Int32) (l3 : Int32) (K : Int32 → St → Int32 × St) : Nat → Int32 → St → Int32 × St
  | 0, _, T => (0, T)
  | f + 1, v4, T => if 40 ≤ v4 then (K v4 T) else (x_m_sheet_65 l1 l2 l3 K f (v4 + 1) (sA T 574 ((40 * l1) + v4 : Int32).toNatClampNeg 0))
def ok_m_sheet_65 (l1 : Int32) (l2 : Int32) (l3 : Int32) (Kk : Int32 → St → Prop) : Nat → Int32 → St → Prop
  | 0, _, _ => False
  | f + 1, v4, T => ((40 ≤ v4 → Kk v4 T) ∧ (¬ 40 ≤ v4 → (vp_in ((40 * l1) + v4) 320) ∧ ok_m_sheet_65 l1 l2 l3 Kk f (v4 + 1) (sA T 574 ((40 * l1) + v4 : Int32).toNatClampNeg 0)))
theorem c_m_sheet_65 {X : Nat × (Nat → Int32)} (l1 : Int32) (l2 : Int32) (l3 : Int32) {K : Int32 → St → Int32 × St} {Kk : Int32 → St → Prop} (hk : ∀ (v4 : Int32) (T : St), Kk v4 T → tR X 2 mX12_sheet 91 [some (.ref (571 : Nat)), some (.int l1), some (.int l2), some (.int l3), some (.int v4)] [] T (rI (K v4 T)).1 ((rI (K v4 T)).2)) : ∀ (f : Nat) (v4 : Int32) (T : St), ok_m_sheet_65 l1 l2 l3 Kk f v4 T → tR X 2 mX12_sheet 65 [some (.ref (571 : Nat)), some (.int l1), some (.int l2), some (.int l3), some (.int v4)] [] T (rI (x_m_sheet_65 l1 l2 l3 K f v4 T)).1 ((rI (x_m_sheet_65 l1 l2 l3 K f v4 T)).2) := by
  intro f
  induction f with
  | zero => intro v4 T kk; exact kk.elim
  | succ f ih =>
    intro v4 T kk
    rw [ok_m_sheet_65] at kk
    rw [x_m_sheet_65]
    refine r_p (pc2 := 67) dX12_sheet_65 rfl rfl ?_
    refine r_cb (x := 40) dX12_sheet_67 rfl ?_
    refine r_cge dX12_sheet_69 rfl (fun c69_5 => ?_) (fun c69_5 => ?_)
    · refine r_ip (R := rI) c69_5 ?_
      have kk := kk.1 c69_5
      show tR _ _ _ _ [some (.ref (571 : Nat)), some (.int l1), some (.int l2), some (.int l3), some (.int v4)] _ _ _ _
      exact (hk v4 T kk)
    · refine r_in (R := rI) c69_5 ?_
      have kk := kk.2 c69_5
      refine r_p (pc2 := 73) dX12_sheet_72 rfl rfl ?_
      refine r_get dX12_sheet_73 fkX12_16 rfl rfl ?_
      refine r_cb (x := 40) dX12_sheet_76 rfl ?_
      refine r_p (pc2 := 79) dX12_sheet_78 rfl rfl ?_
      refine r_p (pc2 := 80) dX12_sheet_79 rfl rfl ?_
      refine r_p (pc2 := 82) dX12_sheet_80 rfl rfl ?_
      refine r_p (pc2 := 83) dX12_sheet_82 rfl rfl ?_
      refine r_ci (x := 0) dX12_sheet_83 rfl ?_
      obtain ⟨q2, kk⟩ := kk
      refine r_ias dX12_sheet_84 rfl q2 ?_
      refine r_inc (L2 := [some (.ref (571 : Nat)), some (.int l1), some (.int l2), some (.int l3), some (.int (v4 + 1))]) (y := 1) dX12_sheet_85 rfl rfl rfl ?_
      refine r_go dX12_sheet_88 rfl ?_
      show tR _ _ _ _ [some (.ref (571 : Nat)), some (.int l1), some (.int l2), some (.int l3), some (.int (v4 + 1))] _ _ _ _
      exact (ih (v4 + 1) (sA T 574 ((40 * l1) + v4 : Int32).toNatClampNeg 0) kk)
def x_m_sheet (T : St) (p0 : Int32) (p1 : Int32) (p2 : Int32) : Int32 × St := if (x_m_isSheet (sF T 571 0 0) p0) = 0 then ((-1000001), sF T 571 0 0) else (if (x_m_in (sF T 571 0 0) ((p1 : Int32).toInt64) 0 2) = 0 then ((-1000001), sF T 571 0 0) else (if p2 ≤ 40 then (if 0 ≤ p2 then (jn (fun (T1 : St) => x_m_sheet_65 p0 p1 p2 (fun (w1_4 : Int32) (T201 : St) => (p2, T201)) 1000 0 T1) (sA (sA (sF (sF T 571 0 0) 571 1 0) 572 (p0 : Int32).toNatClampNeg p1) 573 (p0 : Int32).toNatClampNeg p2)) else ((x_m_finding (sF (sF T 571 0 0) 571 1 0) 4).1, (x_m_finding (sF (sF T 571 0 0) 571 1 0) 4).2)) else ((-1000001), sF T 571 0 0)))
def ok_m_sheet (T : St) (p0 : Int32) (p1 : Int32) (p2 : Int32) : Prop := (¬ (x_m_isSheet (sF T 571 0 0) p0) = 0 → (¬ (x_m_in (sF T 571 0 0) ((p1 : Int32).toInt64) 0 2) = 0 → (p2 ≤ 40 → (0 ≤ p2 → (vp_in p0 8) ∧ jn (fun (T1 : St) => ok_m_sheet_65 p0 p1 p2 (fun (w1_4 : Int32) (T201 : St) => True) 1000 0 T1) (sA (sA (sF (sF T 571 0 0) 571 1 0) 572 (p0 : Int32).toNatClampNeg p1) 573 (p0 : Int32).toNatClampNeg p2)))))
theorem c_m_sheet {X : Nat × (Nat → Int32)} {T : St} (p0 : Int32) (p1 : Int32) (p2 : Int32) (kk : ok_m_sheet T p0 p1 p2) : tC X 3 mX12_sheet [.ref (571 : Nat), .int p0, .int p1, .int p2] T (some (.int (x_m_sheet T p0 p1 p2).1)) ((x_m_sheet T p0 p1 p2).2) := by
  unfold ok_m_sheet at kk
  refine tC_orI (L := [some (.ref (571 : Nat)), some (.int p0), some (.int p1), some (.int p2), none]) (x_m_sheet T p0 p1 p2) rfl ?_
  unfold x_m_sheet
  refine r_p (pc2 := 1) dX12_sheet_0 rfl rfl ?_
  refine r_ci (x := 0) dX12_sheet_1 rfl ?_
  refine r_put dX12_sheet_2 fkX12_101 rfl rfl rfl (Nat.le_of_ble_eq_true rfl) rfl rfl ?_
  refine r_p (pc2 := 6) dX12_sheet_5 rfl rfl ?_
  refine r_cs (d1 := 2) dX12_sheet_6 csX12_115 rfl rfl (Nat.le_of_ble_eq_true rfl) (Nat.le_of_ble_eq_true rfl) (Nat.le_of_ble_eq_true rfl) (c_m_isSheet p0) ?_
  refine r_ieq dX12_sheet_9 rfl (fun c9_1 => ?_) (fun c9_1 => ?_)
  · refine r_ip (R := rI) c9_1 ?_
    refine r_k dX12_sheet_30 kkX12_121 ?_
    exact r_qI dX12_sheet_32 rfl rfl rfl rfl
  · refine r_in (R := rI) c9_1 ?_
    have kk := kk c9_1
    refine r_p (pc2 := 13) dX12_sheet_12 rfl rfl ?_
    refine r_p (pc2 := 14) dX12_sheet_13 rfl rfl ?_
    refine r_cl (x := 0) dX12_sheet_14 rfl ?_
    refine r_kl dX12_sheet_15 klX12_119 ?_
    refine r_cs (d1 := 1) dX12_sheet_18 csX12_111 rfl rfl (Nat.le_of_ble_eq_true rfl) (Nat.le_of_ble_eq_true rfl) (Nat.le_of_ble_eq_true rfl) (c_m_in ((p1 : Int32).toInt64) 0 2) ?_
    refine r_ieq dX12_sheet_21 rfl (fun c21_2 => ?_) (fun c21_2 => ?_)
    · refine r_ip (R := rI) c21_2 ?_
      refine r_k dX12_sheet_30 kkX12_121 ?_
      exact r_qI dX12_sheet_32 rfl rfl rfl rfl
    · refine r_in (R := rI) c21_2 ?_
      have kk := kk c21_2
      refine r_p (pc2 := 25) dX12_sheet_24 rfl rfl ?_
      refine r_cb (x := 40) dX12_sheet_25 rfl ?_
      refine r_cle dX12_sheet_27 rfl (fun c27_3 => ?_) (fun c27_3 => ?_)
      · refine r_ip (R := rI) c27_3 ?_
        have kk := kk c27_3
        refine r_p (pc2 := 34) dX12_sheet_33 rfl rfl ?_
        refine r_ci (x := 0) dX12_sheet_34 rfl ?_
        refine r_put dX12_sheet_35 fkX12_105 rfl rfl rfl (Nat.le_of_ble_eq_true rfl) rfl rfl ?_
        refine r_p (pc2 := 39) dX12_sheet_38 rfl rfl ?_
        refine r_ige dX12_sheet_39 rfl (fun c39_4 => ?_) (fun c39_4 => ?_)
        · refine r_ip (R := rI) c39_4 ?_
          have kk := kk c39_4
          refine r_p (pc2 := 49) dX12_sheet_48 rfl rfl ?_
          refine r_get dX12_sheet_49 fkX12_7 rfl rfl ?_
          refine r_p (pc2 := 53) dX12_sheet_52 rfl rfl ?_
          refine r_p (pc2 := 54) dX12_sheet_53 rfl rfl ?_
          obtain ⟨q1, kk⟩ := kk
          refine r_ias dX12_sheet_54 rfl q1 ?_
          refine r_p (pc2 := 56) dX12_sheet_55 rfl rfl ?_
          refine r_get dX12_sheet_56 fkX12_13 rfl rfl ?_
          refine r_p (pc2 := 60) dX12_sheet_59 rfl rfl ?_
          refine r_p (pc2 := 61) dX12_sheet_60 rfl rfl ?_
          refine r_ias dX12_sheet_61 rfl q1 ?_
          refine r_nT (R := rI) rfl kk (fun T1 kk => ?_)
          refine r_ci (x := 0) dX12_sheet_62 rfl ?_
          refine r_p (pc2 := 65) (L2 := [some (.ref (571 : Nat)), some (.int p0), some (.int p1), some (.int p2), some (.int 0)]) dX12_sheet_63 rfl rfl ?_
          show tR _ _ _ _ [some (.ref (571 : Nat)), some (.int p0), some (.int p1), some (.int p2), some (.int 0)] _ _ _ _
          refine (c_m_sheet_65 p0 p1 p2 (fun w1_4 T201 kk => ?_) 1000 0 T1 kk)
          · skip
            refine r_p (pc2 := 92) dX12_sheet_91 rfl rfl ?_
            exact r_qI dX12_sheet_92 rfl rfl rfl rfl
        · refine r_in (R := rI) c39_4 ?_
          refine r_p (pc2 := 43) dX12_sheet_42 rfl rfl ?_
          refine r_ci (x := 4) dX12_sheet_43 rfl ?_
          refine r_cv (d1 := 1) dX12_sheet_44 cvX12_122 rfl rfl rfl rfl (Nat.le_of_ble_eq_true rfl) (Nat.le_of_ble_eq_true rfl) (Nat.le_of_ble_eq_true rfl) (c_m_finding 4) ?_
          exact r_qI dX12_sheet_47 rfl rfl rfl rfl
      · refine r_in (R := rI) c27_3 ?_
        refine r_k dX12_sheet_30 kkX12_121 ?_
        exact r_qI dX12_sheet_32 rfl rfl rfl rfl
def x_m_set (T : St) (p0 : Int32) (p1 : Int32) (p2 : Int32) : Int32 × St := if (x_m_isSheet (sF T 571 0 0) p0) = 0 then ((-1000001), sF T 571 0 0) else (if 0 ≤ ((sF (sF T 571 0 0) 571 1 0).2.2.1 572 (p0 : Int32).toNatClampNeg) then (if (x_m_in (sF (sF T 571 0 0) 571 1 0) ((p1 : Int32).toInt64) 0 ((((sF (sF T 571 0 0) 571 1 0).2.2.1 573 (p0 : Int32).toNatClampNeg) - 1 : Int32).toInt64)) = 0 then ((x_m_finding (sF (sF T 571 0 0) 571 1 0) 2).1, (x_m_finding (sF (sF T 571 0 0) 571 1 0) 2).2) else (jn (fun (KJ1 : Int32 → Int32 × St) => if ((sF (sF T 571 0 0) 571 1 0).2.2.1 572 (p0 : Int32).toNatClampNeg) = 0 then (KJ1 ((p2 : Int32).toInt8.toInt32)) else (if ((sF (sF T 571 0 0) 571 1 0).2.2.1 572 (p0 : Int32).toNatClampNeg) = 1 then (KJ1 ((p2 : Int32).toInt16.toInt32)) else (KJ1 p2))) (fun (j1_s2 : Int32) => ((sA (sF (sF T 571 0 0) 571 1 0) 574 ((40 * p0) + p1 : Int32).toNatClampNeg j1_s2).2.2.1 574 ((40 * p0) + p1 : Int32).toNatClampNeg, sA (sF (sF T 571 0 0) 571 1 0) 574 ((40 * p0) + p1 : Int32).toNatClampNeg j1_s2)))) else ((x_m_finding (sF (sF T 571 0 0) 571 1 0) 1).1, (x_m_finding (sF (sF T 571 0 0) 571 1 0) 1).2))
def ok_m_set (T : St) (p0 : Int32) (p1 : Int32) (p2 : Int32) : Prop := (¬ (x_m_isSheet (sF T 571 0 0) p0) = 0 → (vp_in p0 8) ∧ (0 ≤ ((sF (sF T 571 0 0) 571 1 0).2.2.1 572 (p0 : Int32).toNatClampNeg) → (¬ (x_m_in (sF (sF T 571 0 0) 571 1 0) ((p1 : Int32).toInt64) 0 ((((sF (sF T 571 0 0) 571 1 0).2.2.1 573 (p0 : Int32).toNatClampNeg) - 1 : Int32).toInt64)) = 0 → jn (fun (OJ1 : Int32 → Prop) => ((((sF (sF T 571 0 0) 571 1 0).2.2.1 572 (p0 : Int32).toNatClampNeg) = 0 → OJ1 ((p2 : Int32).toInt8.toInt32)) ∧ (¬ ((sF (sF T 571 0 0) 571 1 0).2.2.1 572 (p0 : Int32).toNatClampNeg) = 0 → ((((sF (sF T 571 0 0) 571 1 0).2.2.1 572 (p0 : Int32).toNatClampNeg) = 1 → OJ1 ((p2 : Int32).toInt16.toInt32)) ∧ (¬ ((sF (sF T 571 0 0) 571 1 0).2.2.1 572 (p0 : Int32).toNatClampNeg) = 1 → OJ1 p2))))) (fun (j1_s2 : Int32) => (vp_in ((40 * p0) + p1) 320) ∧ True))))
theorem c_m_set {X : Nat × (Nat → Int32)} {T : St} (p0 : Int32) (p1 : Int32) (p2 : Int32) (kk : ok_m_set T p0 p1 p2) : tC X 3 mX12_set [.ref (571 : Nat), .int p0, .int p1, .int p2] T (some (.int (x_m_set T p0 p1 p2).1)) ((x_m_set T p0 p1 p2).2) := by
  unfold ok_m_set at kk
  refine tC_orI (L := [some (.ref (571 : Nat)), some (.int p0), some (.int p1), some (.int p2)]) (x_m_set T p0 p1 p2) rfl ?_
  unfold x_m_set
  refine r_p (pc2 := 1) dX12_set_0 rfl rfl ?_
  refine r_ci (x := 0) dX12_set_1 rfl ?_
  refine r_put dX12_set_2 fkX12_101 rfl rfl rfl (Nat.le_of_ble_eq_true rfl) rfl rfl ?_
  refine r_p (pc2 := 6) dX12_set_5 rfl rfl ?_
  refine r_cs (d1 := 2) dX12_set_6 csX12_115 rfl rfl (Nat.le_of_ble_eq_true rfl) (Nat.le_of_ble_eq_true rfl) (Nat.le_of_ble_eq_true rfl) (c_m_isSheet p0) ?_
  refine r_ine dX12_set_9 rfl (fun c9_1 => ?_) (fun c9_1 => ?_)
  · refine r_in (R := rI) c9_1 ?_
    have kk := kk c9_1
    refine r_p (pc2 := 16) dX12_set_15 rfl rfl ?_
    refine r_ci (x := 0) dX12_set_16 rfl ?_
    refine r_put dX12_set_17 fkX12_105 rfl rfl rfl (Nat.le_of_ble_eq_true rfl) rfl rfl ?_
    refine r_p (pc2 := 21) dX12_set_20 rfl rfl ?_
    refine r_get dX12_set_21 fkX12_7 rfl rfl ?_
    refine r_p (pc2 := 25) dX12_set_24 rfl rfl ?_
    obtain ⟨q1, kk⟩ := kk
    refine r_ia dX12_set_25 rfl q1 ?_
    refine r_ige dX12_set_26 rfl (fun c26_2 => ?_) (fun c26_2 => ?_)
    · refine r_ip (R := rI) c26_2 ?_
      have kk := kk c26_2
      refine r_p (pc2 := 36) dX12_set_35 rfl rfl ?_
      refine r_p (pc2 := 37) dX12_set_36 rfl rfl ?_
      refine r_cl (x := 0) dX12_set_37 rfl ?_
      refine r_p (pc2 := 39) dX12_set_38 rfl rfl ?_
      refine r_get dX12_set_39 fkX12_13 rfl rfl ?_
      refine r_p (pc2 := 43) dX12_set_42 rfl rfl ?_
      refine r_ia dX12_set_43 rfl q1 ?_
      refine r_ci (x := 1) dX12_set_44 rfl ?_
      refine r_p (pc2 := 46) dX12_set_45 rfl rfl ?_
      refine r_p (pc2 := 47) dX12_set_46 rfl rfl ?_
      refine r_cs (d1 := 1) dX12_set_47 csX12_111 rfl rfl (Nat.le_of_ble_eq_true rfl) (Nat.le_of_ble_eq_true rfl) (Nat.le_of_ble_eq_true rfl) (c_m_in ((p1 : Int32).toInt64) 0 ((((sF (sF T 571 0 0) 571 1 0).2.2.1 573 (p0 : Int32).toNatClampNeg) - 1 : Int32).toInt64)) ?_
      refine r_ine dX12_set_50 rfl (fun c50_3 => ?_) (fun c50_3 => ?_)
      · refine r_in (R := rI) c50_3 ?_
        have kk := kk c50_3
        refine r_p (pc2 := 60) dX12_set_59 rfl rfl ?_
        refine r_get dX12_set_60 fkX12_16 rfl rfl ?_
        refine r_cb (x := 40) dX12_set_63 rfl ?_
        refine r_p (pc2 := 66) dX12_set_65 rfl rfl ?_
        refine r_p (pc2 := 67) dX12_set_66 rfl rfl ?_
        refine r_p (pc2 := 68) dX12_set_67 rfl rfl ?_
        refine r_p (pc2 := 69) dX12_set_68 rfl rfl ?_
        refine r_p (pc2 := 70) dX12_set_69 rfl rfl ?_
        refine r_get dX12_set_70 fkX12_7 rfl rfl ?_
        refine r_p (pc2 := 74) dX12_set_73 rfl rfl ?_
        refine r_ia dX12_set_74 rfl q1 ?_
        refine r_jn (R := rI) (J := fun (KJ1 : Int32 → Int32 × St) (OJ1 : Int32 → Prop) => ∀ (j1_s2 : Int32), OJ1 j1_s2 → tR X 2 mX12_set 99 [some (.ref (571 : Nat)), some (.int p0), some (.int p1), some (.int p2)] [.int j1_s2, .int ((40 * p0) + p1), .ref (574 : Nat)] (sF (sF T 571 0 0) 571 1 0) (rI (KJ1 j1_s2)).1 (rI (KJ1 j1_s2)).2) kk (fun j1_s2 kk => ?_) (fun KJ1 OJ1 hJ1 kk => ?_)
        · skip
          obtain ⟨q2, kk⟩ := kk
          refine r_ias dX12_set_99 rfl q2 ?_
          refine r_p (pc2 := 101) dX12_set_100 rfl rfl ?_
          refine r_get dX12_set_101 fkX12_16 rfl rfl ?_
          refine r_cb (x := 40) dX12_set_104 rfl ?_
          refine r_p (pc2 := 107) dX12_set_106 rfl rfl ?_
          refine r_p (pc2 := 108) dX12_set_107 rfl rfl ?_
          refine r_p (pc2 := 109) dX12_set_108 rfl rfl ?_
          refine r_p (pc2 := 110) dX12_set_109 rfl rfl ?_
          refine r_ia dX12_set_110 rfl q2 ?_
          exact r_qI dX12_set_111 rfl rfl rfl rfl
        refine r_ine dX12_set_75 rfl (fun c75_6 => ?_) (fun c75_6 => ?_)
        · refine r_in (R := rI) c75_6 ?_
          have kk := kk.2 c75_6
          refine r_p (pc2 := 84) dX12_set_83 rfl rfl ?_
          refine r_get dX12_set_84 fkX12_7 rfl rfl ?_
          refine r_p (pc2 := 88) dX12_set_87 rfl rfl ?_
          refine r_ia dX12_set_88 rfl q1 ?_
          refine r_ci (x := 1) dX12_set_89 rfl ?_
          refine r_cne dX12_set_90 rfl (fun c90_7 => ?_) (fun c90_7 => ?_)
          · refine r_in (R := rI) c90_7 ?_
            have kk := kk.2 c90_7
            refine r_p (pc2 := 99) dX12_set_98 rfl rfl ?_
            show tR _ _ _ _ [some (.ref (571 : Nat)), some (.int p0), some (.int p1), some (.int p2)] [.int p2, .int ((40 * p0) + p1), .ref (574 : Nat)] _ _ _
            exact (hJ1 p2 kk)
          · refine r_ip (R := rI) c90_7 ?_
            have kk := kk.1 c90_7
            refine r_p (pc2 := 94) dX12_set_93 rfl rfl ?_
            refine r_p (pc2 := 95) dX12_set_94 rfl rfl ?_
            refine r_go dX12_set_95 rfl ?_
            show tR _ _ _ _ [some (.ref (571 : Nat)), some (.int p0), some (.int p1), some (.int p2)] [.int ((p2 : Int32).toInt16.toInt32), .int ((40 * p0) + p1), .ref (574 : Nat)] _ _ _
            exact (hJ1 ((p2 : Int32).toInt16.toInt32) kk)
        · refine r_ip (R := rI) c75_6 ?_
          have kk := kk.1 c75_6
          refine r_p (pc2 := 79) dX12_set_78 rfl rfl ?_
          refine r_p (pc2 := 80) dX12_set_79 rfl rfl ?_
          refine r_go dX12_set_80 rfl ?_
          show tR _ _ _ _ [some (.ref (571 : Nat)), some (.int p0), some (.int p1), some (.int p2)] [.int ((p2 : Int32).toInt8.toInt32), .int ((40 * p0) + p1), .ref (574 : Nat)] _ _ _
          exact (hJ1 ((p2 : Int32).toInt8.toInt32) kk)
      · refine r_ip (R := rI) c50_3 ?_
        refine r_p (pc2 := 54) dX12_set_53 rfl rfl ?_
        refine r_ci (x := 2) dX12_set_54 rfl ?_
        refine r_cv (d1 := 1) dX12_set_55 cvX12_122 rfl rfl rfl rfl (Nat.le_of_ble_eq_true rfl) (Nat.le_of_ble_eq_true rfl) (Nat.le_of_ble_eq_true rfl) (c_m_finding 2) ?_
        exact r_qI dX12_set_58 rfl rfl rfl rfl
    · refine r_in (R := rI) c26_2 ?_
      refine r_p (pc2 := 30) dX12_set_29 rfl rfl ?_
      refine r_ci (x := 1) dX12_set_30 rfl ?_
      refine r_cv (d1 := 1) dX12_set_31 cvX12_122 rfl rfl rfl rfl (Nat.le_of_ble_eq_true rfl) (Nat.le_of_ble_eq_true rfl) (Nat.le_of_ble_eq_true rfl) (c_m_finding 1) ?_
      exact r_qI dX12_set_34 rfl rfl rfl rfl
  · refine r_ip (R := rI) c9_1 ?_
    refine r_k dX12_set_12 kkX12_121 ?_
    exact r_qI dX12_set_14 rfl rfl rfl rfl
def x_m_copy_143 (l1 : Int32) (l2 : Int32) (l3 : Int32) (l4 : Int32) (l5 : Int32) (l6 : Int32) (K : Int32 → St → Int32 × St) : Nat → Int32 → St → Int32 × St
  | 0, _, T => (0, T)
  | f + 1, v7, T => if l5 ≤ v7 then (K v7 T) else (jn (fun (KJ2 : Int32 → Int32 × St) => if l6 = 0 then (KJ2 ((l5 - 1) - v7)) else (KJ2 v7)) (fun (j2_s0 : Int32) => jn (fun (T1 : St) => x_m_copy_143 l1 l2 l3 l4 l5 l6 K f (v7 + 1) T1) (sA T 574 (((40 * l3) + l4) + j2_s0 : Int32).toNatClampNeg (T.2.2.1 574 (((40 * l1) + l2) + j2_s0 : Int32).toNatClampNeg))))
def ok_m_copy_143 (l1 : Int32) (l2 : Int32) (l3 : Int32) (l4 : Int32) (l5 : Int32) (l6 : Int32) (Kk : Int32 → St → Prop) : Nat → Int32 → St → Prop
  | 0, _, _ => False
  | f + 1, v7, T => ((l5 ≤ v7 → Kk v7 T) ∧ (¬ l5 ≤ v7 → jn (fun (OJ2 : Int32 → Prop) => ((l6 = 0 → OJ2 ((l5 - 1) - v7)) ∧ (¬ l6 = 0 → OJ2 v7))) (fun (j2_s0 : Int32) => (vp_in (((40 * l1) + l2) + j2_s0) 320) ∧ (vp_in (((40 * l3) + l4) + j2_s0) 320) ∧ jn (fun (T1 : St) => ok_m_copy_143 l1 l2 l3 l4 l5 l6 Kk f (v7 + 1) T1) (sA T 574 (((40 * l3) + l4) + j2_s0 : Int32).toNatClampNeg (T.2.2.1 574 (((40 * l1) + l2) + j2_s0 : Int32).toNatClampNeg)))))
theorem c_m_copy_143 {X : Nat × (Nat → Int32)} (l1 : Int32) (l2 : Int32) (l3 : Int32) (l4 : Int32) (l5 : Int32) (l6 : Int32) {K : Int32 → St → Int32 × St} {Kk : Int32 → St → Prop} (hk : ∀ (v7 : Int32) (T : St), Kk v7 T → tR X 2 mX12_copy 204 [some (.ref (571 : Nat)), some (.int l1), some (.int l2), some (.int l3), some (.int l4), some (.int l5), some (.int l6), some (.int v7), none] [] T (rI (K v7 T)).1 ((rI (K v7 T)).2)) : ∀ (f : Nat) (v7 : Int32) (T : St), ok_m_copy_143 l1 l2 l3 l4 l5 l6 Kk f v7 T → tR X 2 mX12_copy 143 [some (.ref (571 : Nat)), some (.int l1), some (.int l2), some (.int l3), some (.int l4), some (.int l5), some (.int l6), some (.int v7), none] [] T (rI (x_m_copy_143 l1 l2 l3 l4 l5 l6 K f v7 T)).1 ((rI (x_m_copy_143 l1 l2 l3 l4 l5 l6 K f v7 T)).2) := by
  intro f
  induction f with
  | zero => intro v7 T kk; exact kk.elim
  | succ f ih =>
    intro v7 T kk
    rw [ok_m_copy_143] at kk
    rw [x_m_copy_143]
    refine r_p (pc2 := 145) dX12_copy_143 rfl rfl ?_
    refine r_p (pc2 := 147) dX12_copy_145 rfl rfl ?_
    refine r_cge dX12_copy_147 rfl (fun c147_12 => ?_) (fun c147_12 => ?_)
    · refine r_ip (R := rI) c147_12 ?_
      have kk := kk.1 c147_12
      show tR _ _ _ _ [some (.ref (571 : Nat)), some (.int l1), some (.int l2), some (.int l3), some (.int l4), some (.int l5), some (.int l6), some (.int v7), none] _ _ _ _
      exact (hk v7 T kk)
    · refine r_in (R := rI) c147_12 ?_
      have kk := kk.2 c147_12
      refine r_p (pc2 := 152) dX12_copy_150 rfl rfl ?_
      refine r_jn (R := rI) (J := fun (KJ2 : Int32 → Int32 × St) (OJ2 : Int32 → Prop) => ∀ (j2_s0 : Int32), OJ2 j2_s0 → tR X 2 mX12_copy 167 [some (.ref (571 : Nat)), some (.int l1), some (.int l2), some (.int l3), some (.int l4), some (.int l5), some (.int l6), some (.int v7), none] [.int j2_s0] T (rI (KJ2 j2_s0)).1 (rI (KJ2 j2_s0)).2) kk (fun j2_s0 kk => ?_) (fun KJ2 OJ2 hJ2 kk => ?_)
      · skip
        refine r_p (pc2 := 169) (L2 := [some (.ref (571 : Nat)), some (.int l1), some (.int l2), some (.int l3), some (.int l4), some (.int l5), some (.int l6), some (.int v7), some (.int j2_s0)]) dX12_copy_167 rfl rfl ?_
        refine r_p (pc2 := 170) dX12_copy_169 rfl rfl ?_
        refine r_get dX12_copy_170 fkX12_16 rfl rfl ?_
        refine r_cb (x := 40) dX12_copy_173 rfl ?_
        refine r_p (pc2 := 176) dX12_copy_175 rfl rfl ?_
        refine r_p (pc2 := 177) dX12_copy_176 rfl rfl ?_
        refine r_p (pc2 := 179) dX12_copy_177 rfl rfl ?_
        refine r_p (pc2 := 180) dX12_copy_179 rfl rfl ?_
        refine r_p (pc2 := 182) dX12_copy_180 rfl rfl ?_
        refine r_p (pc2 := 183) dX12_copy_182 rfl rfl ?_
        refine r_p (pc2 := 184) dX12_copy_183 rfl rfl ?_
        refine r_get dX12_copy_184 fkX12_16 rfl rfl ?_
        refine r_cb (x := 40) dX12_copy_187 rfl ?_
        refine r_p (pc2 := 190) dX12_copy_189 rfl rfl ?_
        refine r_p (pc2 := 191) dX12_copy_190 rfl rfl ?_
        refine r_p (pc2 := 192) dX12_copy_191 rfl rfl ?_
        refine r_p (pc2 := 193) dX12_copy_192 rfl rfl ?_
        refine r_p (pc2 := 195) dX12_copy_193 rfl rfl ?_
        refine r_p (pc2 := 196) dX12_copy_195 rfl rfl ?_
        obtain ⟨q3, kk⟩ := kk
        refine r_ia dX12_copy_196 rfl q3 ?_
        obtain ⟨q4, kk⟩ := kk
        refine r_ias dX12_copy_197 rfl q4 ?_
        refine r_nT (R := rI) rfl kk (fun T1 kk => ?_)
        refine r_inc (L2 := [some (.ref (571 : Nat)), some (.int l1), some (.int l2), some (.int l3), some (.int l4), some (.int l5), some (.int l6), some (.int (v7 + 1)), some (.int j2_s0)]) (y := 1) dX12_copy_198 rfl rfl rfl ?_
        refine r_go dX12_copy_201 rfl ?_
        show tR _ _ _ _ [some (.ref (571 : Nat)), some (.int l1), some (.int l2), some (.int l3), some (.int l4), some (.int l5), some (.int l6), some (.int (v7 + 1)), some (.int j2_s0)] _ _ _ _
        exact r_le (le_s (le_s (le_s (le_s (le_s (le_s (le_s (le_s (le_n (le_0)))))))))) (ih (v7 + 1) T1 kk)
      refine r_ieq dX12_copy_152 rfl (fun c152_14 => ?_) (fun c152_14 => ?_)
      · refine r_ip (R := rI) c152_14 ?_
        have kk := kk.1 c152_14
        refine r_p (pc2 := 162) dX12_copy_160 rfl rfl ?_
        refine r_ci (x := 1) dX12_copy_162 rfl ?_
        refine r_p (pc2 := 164) dX12_copy_163 rfl rfl ?_
        refine r_p (pc2 := 166) dX12_copy_164 rfl rfl ?_
        refine r_p (pc2 := 167) dX12_copy_166 rfl rfl ?_
        show tR _ _ _ _ [some (.ref (571 : Nat)), some (.int l1), some (.int l2), some (.int l3), some (.int l4), some (.int l5), some (.int l6), some (.int v7), none] [.int ((l5 - 1) - v7)] _ _ _
        exact (hJ2 ((l5 - 1) - v7) kk)
      · refine r_in (R := rI) c152_14 ?_
        have kk := kk.2 c152_14
        refine r_p (pc2 := 157) dX12_copy_155 rfl rfl ?_
        refine r_go dX12_copy_157 rfl ?_
        show tR _ _ _ _ [some (.ref (571 : Nat)), some (.int l1), some (.int l2), some (.int l3), some (.int l4), some (.int l5), some (.int l6), some (.int v7), none] [.int v7] _ _ _
        exact (hJ2 v7 kk)
def x_m_copy (T : St) (p0 : Int32) (p1 : Int32) (p2 : Int32) (p3 : Int32) (p4 : Int32) : Int32 × St := if (x_m_isSheet (sF T 571 0 0) p0) = 0 then ((-1000001), sF T 571 0 0) else (if (x_m_isSheet (sF T 571 0 0) p2) = 0 then ((-1000001), sF T 571 0 0) else (if ((sF (sF T 571 0 0) 571 1 0).2.2.1 572 (p0 : Int32).toNatClampNeg) < 0 then ((x_m_finding (sF (sF T 571 0 0) 571 1 0) 1).1, (x_m_finding (sF (sF T 571 0 0) 571 1 0) 1).2) else (if 0 ≤ ((sF (sF T 571 0 0) 571 1 0).2.2.1 572 (p2 : Int32).toNatClampNeg) then (if ((sF (sF T 571 0 0) 571 1 0).2.2.1 572 (p0 : Int32).toNatClampNeg) = ((sF (sF T 571 0 0) 571 1 0).2.2.1 572 (p2 : Int32).toNatClampNeg) then (if p1 < 0 then ((x_m_finding (sF (sF T 571 0 0) 571 1 0) 2).1, (x_m_finding (sF (sF T 571 0 0) 571 1 0) 2).2) else (if p3 < 0 then ((x_m_finding (sF (sF T 571 0 0) 571 1 0) 2).1, (x_m_finding (sF (sF T 571 0 0) 571 1 0) 2).2) else (if p4 < 0 then ((x_m_finding (sF (sF T 571 0 0) 571 1 0) 2).1, (x_m_finding (sF (sF T 571 0 0) 571 1 0) 2).2) else (if 0 < (lg_cmp (((p1 : Int32).toInt64) + ((p4 : Int32).toInt64)) (((sF (sF T 571 0 0) 571 1 0).2.2.1 573 (p0 : Int32).toNatClampNeg : Int32).toInt64)) then ((x_m_finding (sF (sF T 571 0 0) 571 1 0) 2).1, (x_m_finding (sF (sF T 571 0 0) 571 1 0) 2).2) else (if (lg_cmp (((p3 : Int32).toInt64) + ((p4 : Int32).toInt64)) (((sF (sF T 571 0 0) 571 1 0).2.2.1 573 (p2 : Int32).toNatClampNeg : Int32).toInt64)) ≤ 0 then (jn (fun (KJ1 : Int32 → Int32 × St) => if p1 < p3 then (KJ1 0) else (KJ1 1)) (fun (j1_s0 : Int32) => x_m_copy_143 p0 p1 p2 p3 p4 j1_s0 (fun (w1_7 : Int32) (T201 : St) => (p4, T201)) 1000 0 (sF (sF T 571 0 0) 571 1 0))) else ((x_m_finding (sF (sF T 571 0 0) 571 1 0) 2).1, (x_m_finding (sF (sF T 571 0 0) 571 1 0) 2).2)))))) else ((x_m_finding (sF (sF T 571 0 0) 571 1 0) 5).1, (x_m_finding (sF (sF T 571 0 0) 571 1 0) 5).2)) else ((x_m_finding (sF (sF T 571 0 0) 571 1 0) 1).1, (x_m_finding (sF (sF T 571 0 0) 571 1 0) 1).2))))
def ok_m_copy (T : St) (p0 : Int32) (p1 : Int32) (p2 : Int32) (p3 : Int32) (p4 : Int32) : Prop := (¬ (x_m_isSheet (sF T 571 0 0) p0) = 0 → (¬ (x_m_isSheet (sF T 571 0 0) p2) = 0 → (vp_in p0 8) ∧ (¬ ((sF (sF T 571 0 0) 571 1 0).2.2.1 572 (p0 : Int32).toNatClampNeg) < 0 → (vp_in p2 8) ∧ (0 ≤ ((sF (sF T 571 0 0) 571 1 0).2.2.1 572 (p2 : Int32).toNatClampNeg) → (((sF (sF T 571 0 0) 571 1 0).2.2.1 572 (p0 : Int32).toNatClampNeg) = ((sF (sF T 571 0 0) 571 1 0).2.2.1 572 (p2 : Int32).toNatClampNeg) → (¬ p1 < 0 → (¬ p3 < 0 → (¬ p4 < 0 → (¬ 0 < (lg_cmp (((p1 : Int32).toInt64) + ((p4 : Int32).toInt64)) (((sF (sF T 571 0 0) 571 1 0).2.2.1 573 (p0 : Int32).toNatClampNeg : Int32).toInt64)) → ((lg_cmp (((p3 : Int32).toInt64) + ((p4 : Int32).toInt64)) (((sF (sF T 571 0 0) 571 1 0).2.2.1 573 (p2 : Int32).toNatClampNeg : Int32).toInt64)) ≤ 0 → jn (fun (OJ1 : Int32 → Prop) => ((p1 < p3 → OJ1 0) ∧ (¬ p1 < p3 → OJ1 1))) (fun (j1_s0 : Int32) => ok_m_copy_143 p0 p1 p2 p3 p4 j1_s0 (fun (w1_7 : Int32) (T201 : St) => True) 1000 0 (sF (sF T 571 0 0) 571 1 0))))))))))))
theorem c_m_copy {X : Nat × (Nat → Int32)} {T : St} (p0 : Int32) (p1 : Int32) (p2 : Int32) (p3 : Int32) (p4 : Int32) (kk : ok_m_copy T p0 p1 p2 p3 p4) : tC X 3 mX12_copy [.ref (571 : Nat), .int p0, .int p1, .int p2, .int p3, .int p4] T (some (.int (x_m_copy T p0 p1 p2 p3 p4).1)) ((x_m_copy T p0 p1 p2 p3 p4).2) := by
  unfold ok_m_copy at kk
  refine tC_orI (L := [some (.ref (571 : Nat)), some (.int p0), some (.int p1), some (.int p2), some (.int p3), some (.int p4), none, none, none]) (x_m_copy T p0 p1 p2 p3 p4) rfl ?_
  unfold x_m_copy
  refine r_p (pc2 := 1) dX12_copy_0 rfl rfl ?_
  refine r_ci (x := 0) dX12_copy_1 rfl ?_
  refine r_put dX12_copy_2 fkX12_101 rfl rfl rfl (Nat.le_of_ble_eq_true rfl) rfl rfl ?_
  refine r_p (pc2 := 6) dX12_copy_5 rfl rfl ?_
  refine r_cs (d1 := 2) dX12_copy_6 csX12_115 rfl rfl (Nat.le_of_ble_eq_true rfl) (Nat.le_of_ble_eq_true rfl) (Nat.le_of_ble_eq_true rfl) (c_m_isSheet p0) ?_
  refine r_ieq dX12_copy_9 rfl (fun c9_1 => ?_) (fun c9_1 => ?_)
  · refine r_ip (R := rI) c9_1 ?_
    refine r_k dX12_copy_19 kkX12_121 ?_
    exact r_qI dX12_copy_21 rfl rfl rfl rfl
  · refine r_in (R := rI) c9_1 ?_
    have kk := kk c9_1
    refine r_p (pc2 := 13) dX12_copy_12 rfl rfl ?_
    refine r_cs (d1 := 2) dX12_copy_13 csX12_115 rfl rfl (Nat.le_of_ble_eq_true rfl) (Nat.le_of_ble_eq_true rfl) (Nat.le_of_ble_eq_true rfl) (c_m_isSheet p2) ?_
    refine r_ine dX12_copy_16 rfl (fun c16_2 => ?_) (fun c16_2 => ?_)
    · refine r_in (R := rI) c16_2 ?_
      have kk := kk c16_2
      refine r_p (pc2 := 23) dX12_copy_22 rfl rfl ?_
      refine r_ci (x := 0) dX12_copy_23 rfl ?_
      refine r_put dX12_copy_24 fkX12_105 rfl rfl rfl (Nat.le_of_ble_eq_true rfl) rfl rfl ?_
      refine r_p (pc2 := 28) dX12_copy_27 rfl rfl ?_
      refine r_get dX12_copy_28 fkX12_7 rfl rfl ?_
      refine r_p (pc2 := 32) dX12_copy_31 rfl rfl ?_
      obtain ⟨q1, kk⟩ := kk
      refine r_ia dX12_copy_32 rfl q1 ?_
      refine r_ilt dX12_copy_33 rfl (fun c33_3 => ?_) (fun c33_3 => ?_)
      · refine r_ip (R := rI) c33_3 ?_
        refine r_p (pc2 := 46) dX12_copy_45 rfl rfl ?_
        refine r_ci (x := 1) dX12_copy_46 rfl ?_
        refine r_cv (d1 := 1) dX12_copy_47 cvX12_122 rfl rfl rfl rfl (Nat.le_of_ble_eq_true rfl) (Nat.le_of_ble_eq_true rfl) (Nat.le_of_ble_eq_true rfl) (c_m_finding 1) ?_
        exact r_qI dX12_copy_50 rfl rfl rfl rfl
      · refine r_in (R := rI) c33_3 ?_
        have kk := kk c33_3
        refine r_p (pc2 := 37) dX12_copy_36 rfl rfl ?_
        refine r_get dX12_copy_37 fkX12_7 rfl rfl ?_
        refine r_p (pc2 := 41) dX12_copy_40 rfl rfl ?_
        obtain ⟨q2, kk⟩ := kk
        refine r_ia dX12_copy_41 rfl q2 ?_
        refine r_ige dX12_copy_42 rfl (fun c42_4 => ?_) (fun c42_4 => ?_)
        · refine r_ip (R := rI) c42_4 ?_
          have kk := kk c42_4
          refine r_p (pc2 := 52) dX12_copy_51 rfl rfl ?_
          refine r_get dX12_copy_52 fkX12_7 rfl rfl ?_
          refine r_p (pc2 := 56) dX12_copy_55 rfl rfl ?_
          refine r_ia dX12_copy_56 rfl q1 ?_
          refine r_p (pc2 := 58) dX12_copy_57 rfl rfl ?_
          refine r_get dX12_copy_58 fkX12_7 rfl rfl ?_
          refine r_p (pc2 := 62) dX12_copy_61 rfl rfl ?_
          refine r_ia dX12_copy_62 rfl q2 ?_
          refine r_ceq dX12_copy_63 rfl (fun c63_5 => ?_) (fun c63_5 => ?_)
          · refine r_ip (R := rI) c63_5 ?_
            have kk := kk c63_5
            refine r_p (pc2 := 73) dX12_copy_72 rfl rfl ?_
            refine r_ilt dX12_copy_73 rfl (fun c73_6 => ?_) (fun c73_6 => ?_)
            · refine r_ip (R := rI) c73_6 ?_
              refine r_p (pc2 := 122) dX12_copy_121 rfl rfl ?_
              refine r_ci (x := 2) dX12_copy_122 rfl ?_
              refine r_cv (d1 := 1) dX12_copy_123 cvX12_122 rfl rfl rfl rfl (Nat.le_of_ble_eq_true rfl) (Nat.le_of_ble_eq_true rfl) (Nat.le_of_ble_eq_true rfl) (c_m_finding 2) ?_
              exact r_qI dX12_copy_126 rfl rfl rfl rfl
            · refine r_in (R := rI) c73_6 ?_
              have kk := kk c73_6
              refine r_p (pc2 := 78) dX12_copy_76 rfl rfl ?_
              refine r_ilt dX12_copy_78 rfl (fun c78_7 => ?_) (fun c78_7 => ?_)
              · refine r_ip (R := rI) c78_7 ?_
                refine r_p (pc2 := 122) dX12_copy_121 rfl rfl ?_
                refine r_ci (x := 2) dX12_copy_122 rfl ?_
                refine r_cv (d1 := 1) dX12_copy_123 cvX12_122 rfl rfl rfl rfl (Nat.le_of_ble_eq_true rfl) (Nat.le_of_ble_eq_true rfl) (Nat.le_of_ble_eq_true rfl) (c_m_finding 2) ?_
                exact r_qI dX12_copy_126 rfl rfl rfl rfl
              · refine r_in (R := rI) c78_7 ?_
                have kk := kk c78_7
                refine r_p (pc2 := 83) dX12_copy_81 rfl rfl ?_
                refine r_ilt dX12_copy_83 rfl (fun c83_8 => ?_) (fun c83_8 => ?_)
                · refine r_ip (R := rI) c83_8 ?_
                  refine r_p (pc2 := 122) dX12_copy_121 rfl rfl ?_
                  refine r_ci (x := 2) dX12_copy_122 rfl ?_
                  refine r_cv (d1 := 1) dX12_copy_123 cvX12_122 rfl rfl rfl rfl (Nat.le_of_ble_eq_true rfl) (Nat.le_of_ble_eq_true rfl) (Nat.le_of_ble_eq_true rfl) (c_m_finding 2) ?_
                  exact r_qI dX12_copy_126 rfl rfl rfl rfl
                · refine r_in (R := rI) c83_8 ?_
                  have kk := kk c83_8
                  refine r_p (pc2 := 87) dX12_copy_86 rfl rfl ?_
                  refine r_p (pc2 := 88) dX12_copy_87 rfl rfl ?_
                  refine r_p (pc2 := 90) dX12_copy_88 rfl rfl ?_
                  refine r_p (pc2 := 91) dX12_copy_90 rfl rfl ?_
                  refine r_p (pc2 := 92) dX12_copy_91 rfl rfl ?_
                  refine r_p (pc2 := 93) dX12_copy_92 rfl rfl ?_
                  refine r_get dX12_copy_93 fkX12_13 rfl rfl ?_
                  refine r_p (pc2 := 97) dX12_copy_96 rfl rfl ?_
                  refine r_ia dX12_copy_97 rfl q1 ?_
                  refine r_p (pc2 := 99) dX12_copy_98 rfl rfl ?_
                  refine r_p (pc2 := 100) dX12_copy_99 rfl rfl ?_
                  refine r_igt dX12_copy_100 rfl (fun c100_9 => ?_) (fun c100_9 => ?_)
                  · refine r_ip (R := rI) c100_9 ?_
                    refine r_p (pc2 := 122) dX12_copy_121 rfl rfl ?_
                    refine r_ci (x := 2) dX12_copy_122 rfl ?_
                    refine r_cv (d1 := 1) dX12_copy_123 cvX12_122 rfl rfl rfl rfl (Nat.le_of_ble_eq_true rfl) (Nat.le_of_ble_eq_true rfl) (Nat.le_of_ble_eq_true rfl) (c_m_finding 2) ?_
                    exact r_qI dX12_copy_126 rfl rfl rfl rfl
                  · refine r_in (R := rI) c100_9 ?_
                    have kk := kk c100_9
                    refine r_p (pc2 := 105) dX12_copy_103 rfl rfl ?_
                    refine r_p (pc2 := 106) dX12_copy_105 rfl rfl ?_
                    refine r_p (pc2 := 108) dX12_copy_106 rfl rfl ?_
                    refine r_p (pc2 := 109) dX12_copy_108 rfl rfl ?_
                    refine r_p (pc2 := 110) dX12_copy_109 rfl rfl ?_
                    refine r_p (pc2 := 111) dX12_copy_110 rfl rfl ?_
                    refine r_get dX12_copy_111 fkX12_13 rfl rfl ?_
                    refine r_p (pc2 := 115) dX12_copy_114 rfl rfl ?_
                    refine r_ia dX12_copy_115 rfl q2 ?_
                    refine r_p (pc2 := 117) dX12_copy_116 rfl rfl ?_
                    refine r_p (pc2 := 118) dX12_copy_117 rfl rfl ?_
                    refine r_ile dX12_copy_118 rfl (fun c118_10 => ?_) (fun c118_10 => ?_)
                    · refine r_ip (R := rI) c118_10 ?_
                      have kk := kk c118_10
                      refine r_p (pc2 := 128) dX12_copy_127 rfl rfl ?_
                      refine r_p (pc2 := 130) dX12_copy_128 rfl rfl ?_
                      refine r_jn (R := rI) (J := fun (KJ1 : Int32 → Int32 × St) (OJ1 : Int32 → Prop) => ∀ (j1_s0 : Int32), OJ1 j1_s0 → tR X 2 mX12_copy 138 [some (.ref (571 : Nat)), some (.int p0), some (.int p1), some (.int p2), some (.int p3), some (.int p4), none, none, none] [.int j1_s0] (sF (sF T 571 0 0) 571 1 0) (rI (KJ1 j1_s0)).1 (rI (KJ1 j1_s0)).2) kk (fun j1_s0 kk => ?_) (fun KJ1 OJ1 hJ1 kk => ?_)
                      · skip
                        refine r_p (pc2 := 140) (L2 := [some (.ref (571 : Nat)), some (.int p0), some (.int p1), some (.int p2), some (.int p3), some (.int p4), some (.int j1_s0), none, none]) dX12_copy_138 rfl rfl ?_
                        refine r_ci (x := 0) dX12_copy_140 rfl ?_
                        refine r_p (pc2 := 143) (L2 := [some (.ref (571 : Nat)), some (.int p0), some (.int p1), some (.int p2), some (.int p3), some (.int p4), some (.int j1_s0), some (.int 0), none]) dX12_copy_141 rfl rfl ?_
                        show tR _ _ _ _ [some (.ref (571 : Nat)), some (.int p0), some (.int p1), some (.int p2), some (.int p3), some (.int p4), some (.int j1_s0), some (.int 0), none] _ _ _ _
                        refine (c_m_copy_143 p0 p1 p2 p3 p4 j1_s0 (fun w1_7 T201 kk => ?_) 1000 0 (sF (sF T 571 0 0) 571 1 0) kk)
                        · skip
                          refine r_p (pc2 := 206) dX12_copy_204 rfl rfl ?_
                          exact r_qI dX12_copy_206 rfl rfl rfl rfl
                      refine r_clt dX12_copy_130 rfl (fun c130_15 => ?_) (fun c130_15 => ?_)
                      · refine r_ip (R := rI) c130_15 ?_
                        have kk := kk.1 c130_15
                        refine r_ci (x := 0) dX12_copy_137 rfl ?_
                        show tR _ _ _ _ [some (.ref (571 : Nat)), some (.int p0), some (.int p1), some (.int p2), some (.int p3), some (.int p4), none, none, none] [.int 0] _ _ _
                        exact (hJ1 0 kk)
                      · refine r_in (R := rI) c130_15 ?_
                        have kk := kk.2 c130_15
                        refine r_ci (x := 1) dX12_copy_133 rfl ?_
                        refine r_go dX12_copy_134 rfl ?_
                        show tR _ _ _ _ [some (.ref (571 : Nat)), some (.int p0), some (.int p1), some (.int p2), some (.int p3), some (.int p4), none, none, none] [.int 1] _ _ _
                        exact (hJ1 1 kk)
                    · refine r_in (R := rI) c118_10 ?_
                      refine r_p (pc2 := 122) dX12_copy_121 rfl rfl ?_
                      refine r_ci (x := 2) dX12_copy_122 rfl ?_
                      refine r_cv (d1 := 1) dX12_copy_123 cvX12_122 rfl rfl rfl rfl (Nat.le_of_ble_eq_true rfl) (Nat.le_of_ble_eq_true rfl) (Nat.le_of_ble_eq_true rfl) (c_m_finding 2) ?_
                      exact r_qI dX12_copy_126 rfl rfl rfl rfl
          · refine r_in (R := rI) c63_5 ?_
            refine r_p (pc2 := 67) dX12_copy_66 rfl rfl ?_
            refine r_ci (x := 5) dX12_copy_67 rfl ?_
            refine r_cv (d1 := 1) dX12_copy_68 cvX12_122 rfl rfl rfl rfl (Nat.le_of_ble_eq_true rfl) (Nat.le_of_ble_eq_true rfl) (Nat.le_of_ble_eq_true rfl) (c_m_finding 5) ?_
            exact r_qI dX12_copy_71 rfl rfl rfl rfl
        · refine r_in (R := rI) c42_4 ?_
          refine r_p (pc2 := 46) dX12_copy_45 rfl rfl ?_
          refine r_ci (x := 1) dX12_copy_46 rfl ?_
          refine r_cv (d1 := 1) dX12_copy_47 cvX12_122 rfl rfl rfl rfl (Nat.le_of_ble_eq_true rfl) (Nat.le_of_ble_eq_true rfl) (Nat.le_of_ble_eq_true rfl) (c_m_finding 1) ?_
          exact r_qI dX12_copy_50 rfl rfl rfl rfl
    · refine r_ip (R := rI) c16_2 ?_
      refine r_k dX12_copy_19 kkX12_121 ?_
      exact r_qI dX12_copy_21 rfl rfl rfl rfl
def x_m_drop (T : St) (p0 : Int32) : Int32 × St := if (x_m_isSheet (sF T 571 0 0) p0) = 0 then ((-1000001), sF T 571 0 0) else (if 0 ≤ ((sF (sF T 571 0 0) 571 1 0).2.2.1 572 (p0 : Int32).toNatClampNeg) then ((sA (sF (sF T 571 0 0) 571 1 0) 572 (p0 : Int32).toNatClampNeg (-1)).2.2.1 573 (p0 : Int32).toNatClampNeg, sA (sF (sF T 571 0 0) 571 1 0) 572 (p0 : Int32).toNatClampNeg (-1)) else ((x_m_finding (sF (sF T 571 0 0) 571 1 0) 1).1, (x_m_finding (sF (sF T 571 0 0) 571 1 0) 1).2))
def ok_m_drop (T : St) (p0 : Int32) : Prop := (¬ (x_m_isSheet (sF T 571 0 0) p0) = 0 → (vp_in p0 8) ∧ True)
theorem c_m_drop {X : Nat × (Nat → Int32)} {T : St} (p0 : Int32) (kk : ok_m_drop T p0) : tC X 3 mX12_drop [.ref (571 : Nat), .int p0] T (some (.int (x_m_drop T p0).1)) ((x_m_drop T p0).2) := by
  unfold ok_m_drop at kk
  refine tC_orI (L := [some (.ref (571 : Nat)), some (.int p0)]) (x_m_drop T p0) rfl ?_
  unfold x_m_drop
  refine r_p (pc2 := 1) dX12_drop_0 rfl rfl ?_
  refine r_ci (x := 0) dX12_drop_1 rfl ?_
  refine r_put dX12_drop_2 fkX12_101 rfl rfl rfl (Nat.le_of_ble_eq_true rfl) rfl rfl ?_
  refine r_p (pc2 := 6) dX12_drop_5 rfl rfl ?_
  refine r_cs (d1 := 2) dX12_drop_6 csX12_115 rfl rfl (Nat.le_of_ble_eq_true rfl) (Nat.le_of_ble_eq_true rfl) (Nat.le_of_ble_eq_true rfl) (c_m_isSheet p0) ?_
  refine r_ine dX12_drop_9 rfl (fun c9_1 => ?_) (fun c9_1 => ?_)
  · refine r_in (R := rI) c9_1 ?_
    have kk := kk c9_1
    refine r_p (pc2 := 16) dX12_drop_15 rfl rfl ?_
    refine r_ci (x := 0) dX12_drop_16 rfl ?_
    refine r_put dX12_drop_17 fkX12_105 rfl rfl rfl (Nat.le_of_ble_eq_true rfl) rfl rfl ?_
    refine r_p (pc2 := 21) dX12_drop_20 rfl rfl ?_
    refine r_get dX12_drop_21 fkX12_7 rfl rfl ?_
    refine r_p (pc2 := 25) dX12_drop_24 rfl rfl ?_
    obtain ⟨q1, kk⟩ := kk
    refine r_ia dX12_drop_25 rfl q1 ?_
    refine r_ige dX12_drop_26 rfl (fun c26_2 => ?_) (fun c26_2 => ?_)
    · refine r_ip (R := rI) c26_2 ?_
      refine r_p (pc2 := 36) dX12_drop_35 rfl rfl ?_
      refine r_get dX12_drop_36 fkX12_7 rfl rfl ?_
      refine r_p (pc2 := 40) dX12_drop_39 rfl rfl ?_
      refine r_ci (x := -1) dX12_drop_40 rfl ?_
      refine r_ias dX12_drop_41 rfl q1 ?_
      refine r_p (pc2 := 43) dX12_drop_42 rfl rfl ?_
      refine r_get dX12_drop_43 fkX12_13 rfl rfl ?_
      refine r_p (pc2 := 47) dX12_drop_46 rfl rfl ?_
      refine r_ia dX12_drop_47 rfl q1 ?_
      exact r_qI dX12_drop_48 rfl rfl rfl rfl
    · refine r_in (R := rI) c26_2 ?_
      refine r_p (pc2 := 30) dX12_drop_29 rfl rfl ?_
      refine r_ci (x := 1) dX12_drop_30 rfl ?_
      refine r_cv (d1 := 1) dX12_drop_31 cvX12_122 rfl rfl rfl rfl (Nat.le_of_ble_eq_true rfl) (Nat.le_of_ble_eq_true rfl) (Nat.le_of_ble_eq_true rfl) (c_m_finding 1) ?_
      exact r_qI dX12_drop_34 rfl rfl rfl rfl
  · refine r_ip (R := rI) c9_1 ?_
    refine r_k dX12_drop_12 kkX12_121 ?_
    exact r_qI dX12_drop_14 rfl rfl rfl rfl
def x_m_feed_40 (l1 : Int64) (l3 : Int32) (K : Int32 → St → Int32 × St) : Nat → Int32 → St → Int32 × St
  | 0, _, T => (0, T)
  | f + 1, v4, T => if v4 < 0 then (K v4 T) else (jn (fun (T1 : St) => x_m_feed_40 l1 l3 K f (v4 + (-1)) (sF T1 571 9 ((T1.1 571 9) + 1))) (sA T 577 (T.1 571 9 : Int32).toNatClampNeg (((l1 >>> (((8 * v4) : Int32).toInt64 &&& 63)) &&& 255 : Int64).toInt32)))
def ok_m_feed_40 (l1 : Int64) (l3 : Int32) (Kk : Int32 → St → Prop) : Nat → Int32 → St → Prop
  | 0, _, _ => False
  | f + 1, v4, T => ((v4 < 0 → Kk v4 T) ∧ (¬ v4 < 0 → (vp_in (T.1 571 9) 600) ∧ jn (fun (T1 : St) => ok_m_feed_40 l1 l3 Kk f (v4 + (-1)) (sF T1 571 9 ((T1.1 571 9) + 1))) (sA T 577 (T.1 571 9 : Int32).toNatClampNeg (((l1 >>> (((8 * v4) : Int32).toInt64 &&& 63)) &&& 255 : Int64).toInt32))))
theorem c_m_feed_40 {X : Nat × (Nat → Int32)} (l1 : Int64) (l3 : Int32) {K : Int32 → St → Int32 × St} {Kk : Int32 → St → Prop} (hk : ∀ (v4 : Int32) (T : St), Kk v4 T → tR X 1 mX12_feed 82 [some (.ref (571 : Nat)), some (.long l1), none, some (.int l3), some (.int v4)] [] T (rI (K v4 T)).1 ((rI (K v4 T)).2)) : ∀ (f : Nat) (v4 : Int32) (T : St), ok_m_feed_40 l1 l3 Kk f v4 T → tR X 1 mX12_feed 40 [some (.ref (571 : Nat)), some (.long l1), none, some (.int l3), some (.int v4)] [] T (rI (x_m_feed_40 l1 l3 K f v4 T)).1 ((rI (x_m_feed_40 l1 l3 K f v4 T)).2) := by
  intro f
  induction f with
  | zero => intro v4 T kk; exact kk.elim
  | succ f ih =>
    intro v4 T kk
    rw [ok_m_feed_40] at kk
    rw [x_m_feed_40]
    refine r_p (pc2 := 42) dX12_feed_40 rfl rfl ?_
    refine r_ilt dX12_feed_42 rfl (fun c42_3 => ?_) (fun c42_3 => ?_)
    · refine r_ip (R := rI) c42_3 ?_
      have kk := kk.1 c42_3
      show tR _ _ _ _ [some (.ref (571 : Nat)), some (.long l1), none, some (.int l3), some (.int v4)] _ _ _ _
      exact (hk v4 T kk)
    · refine r_in (R := rI) c42_3 ?_
      have kk := kk.2 c42_3
      refine r_p (pc2 := 46) dX12_feed_45 rfl rfl ?_
      refine r_get dX12_feed_46 fkX12_25 rfl rfl ?_
      refine r_p (pc2 := 50) dX12_feed_49 rfl rfl ?_
      refine r_get dX12_feed_50 fkX12_128 rfl rfl ?_
      refine r_p (pc2 := 54) dX12_feed_53 rfl rfl ?_
      refine r_cb (x := 8) dX12_feed_54 rfl ?_
      refine r_p (pc2 := 58) dX12_feed_56 rfl rfl ?_
      refine r_p (pc2 := 59) dX12_feed_58 rfl rfl ?_
      refine r_p (pc2 := 60) dX12_feed_59 rfl rfl ?_
      refine r_kl dX12_feed_60 klX12_132 ?_
      refine r_p (pc2 := 64) dX12_feed_63 rfl rfl ?_
      refine r_p (pc2 := 65) dX12_feed_64 rfl rfl ?_
      obtain ⟨q1, kk⟩ := kk
      refine r_ias dX12_feed_65 rfl q1 ?_
      refine r_nT (R := rI) rfl kk (fun T1 kk => ?_)
      refine r_p (pc2 := 67) dX12_feed_66 rfl rfl ?_
      refine r_p (pc2 := 68) dX12_feed_67 rfl rfl ?_
      refine r_get dX12_feed_68 fkX12_128 rfl rfl ?_
      refine r_ci (x := 1) dX12_feed_71 rfl ?_
      refine r_p (pc2 := 73) dX12_feed_72 rfl rfl ?_
      refine r_put dX12_feed_73 fkX12_128 rfl rfl rfl (Nat.le_of_ble_eq_true rfl) rfl rfl ?_
      refine r_inc (L2 := [some (.ref (571 : Nat)), some (.long l1), none, some (.int l3), some (.int (v4 + (-1)))]) (y := -1) dX12_feed_76 rfl rfl rfl ?_
      refine r_go dX12_feed_79 rfl ?_
      show tR _ _ _ _ [some (.ref (571 : Nat)), some (.long l1), none, some (.int l3), some (.int (v4 + (-1)))] _ _ _ _
      exact (ih (v4 + (-1)) (sF T1 571 9 ((T1.1 571 9) + 1)) kk)
def x_m_feed (T : St) (p0 : Int64) (p1 : Int32) : Int32 × St := if (x_m_in (sF T 571 0 0) ((p1 : Int32).toInt64) 1 8) = 0 then ((-1000001), sF T 571 0 0) else (if (((sF T 571 0 0).1 571 9) + p1) ≤ 600 then (x_m_feed_40 p0 p1 (fun (w1_4 : Int32) (T201 : St) => (T201.1 571 9, T201)) 1000 (p1 - 1) (sF T 571 0 0)) else ((-1000003), sF T 571 0 0))
def ok_m_feed (T : St) (p0 : Int64) (p1 : Int32) : Prop := (¬ (x_m_in (sF T 571 0 0) ((p1 : Int32).toInt64) 1 8) = 0 → ((((sF T 571 0 0).1 571 9) + p1) ≤ 600 → ok_m_feed_40 p0 p1 (fun (w1_4 : Int32) (T201 : St) => True) 1000 (p1 - 1) (sF T 571 0 0)))
theorem c_m_feed {X : Nat × (Nat → Int32)} {T : St} (p0 : Int64) (p1 : Int32) (kk : ok_m_feed T p0 p1) : tC X 2 mX12_feed [.ref (571 : Nat), .long p0, .int p1] T (some (.int (x_m_feed T p0 p1).1)) ((x_m_feed T p0 p1).2) := by
  unfold ok_m_feed at kk
  refine tC_orI (L := [some (.ref (571 : Nat)), some (.long p0), none, some (.int p1), none]) (x_m_feed T p0 p1) rfl ?_
  unfold x_m_feed
  refine r_p (pc2 := 1) dX12_feed_0 rfl rfl ?_
  refine r_ci (x := 0) dX12_feed_1 rfl ?_
  refine r_put dX12_feed_2 fkX12_101 rfl rfl rfl (Nat.le_of_ble_eq_true rfl) rfl rfl ?_
  refine r_p (pc2 := 6) dX12_feed_5 rfl rfl ?_
  refine r_p (pc2 := 7) dX12_feed_6 rfl rfl ?_
  refine r_cl (x := 1) dX12_feed_7 rfl ?_
  refine r_kl dX12_feed_8 klX12_126 ?_
  refine r_cs (d1 := 1) dX12_feed_11 csX12_111 rfl rfl (Nat.le_of_ble_eq_true rfl) (Nat.le_of_ble_eq_true rfl) (Nat.le_of_ble_eq_true rfl) (c_m_in ((p1 : Int32).toInt64) 1 8) ?_
  refine r_ine dX12_feed_14 rfl (fun c14_1 => ?_) (fun c14_1 => ?_)
  · refine r_in (R := rI) c14_1 ?_
    have kk := kk c14_1
    refine r_p (pc2 := 21) dX12_feed_20 rfl rfl ?_
    refine r_get dX12_feed_21 fkX12_128 rfl rfl ?_
    refine r_p (pc2 := 25) dX12_feed_24 rfl rfl ?_
    refine r_p (pc2 := 26) dX12_feed_25 rfl rfl ?_
    refine r_csi (x := 600) dX12_feed_26 rfl ?_
    refine r_cle dX12_feed_29 rfl (fun c29_2 => ?_) (fun c29_2 => ?_)
    · refine r_ip (R := rI) c29_2 ?_
      have kk := kk c29_2
      refine r_p (pc2 := 36) dX12_feed_35 rfl rfl ?_
      refine r_ci (x := 1) dX12_feed_36 rfl ?_
      refine r_p (pc2 := 38) dX12_feed_37 rfl rfl ?_
      refine r_p (pc2 := 40) (L2 := [some (.ref (571 : Nat)), some (.long p0), none, some (.int p1), some (.int (p1 - 1))]) dX12_feed_38 rfl rfl ?_
      show tR _ _ _ _ [some (.ref (571 : Nat)), some (.long p0), none, some (.int p1), some (.int (p1 - 1))] _ _ _ _
      refine (c_m_feed_40 p0 p1 (fun w1_4 T201 kk => ?_) 1000 (p1 - 1) (sF T 571 0 0) kk)
      · skip
        refine r_p (pc2 := 83) dX12_feed_82 rfl rfl ?_
        refine r_get dX12_feed_83 fkX12_128 rfl rfl ?_
        exact r_qI dX12_feed_86 rfl rfl rfl rfl
    · refine r_in (R := rI) c29_2 ?_
      refine r_k dX12_feed_32 kkX12_131 ?_
      exact r_qI dX12_feed_34 rfl rfl rfl rfl
  · refine r_ip (R := rI) c14_1 ?_
    refine r_k dX12_feed_17 kkX12_121 ?_
    exact r_qI dX12_feed_19 rfl rfl rfl rfl
def x_m_byteAt (T : St) (p0 : Int32) : Int32 := if (T.1 571 11) ≤ p0 then (-1000000) else (T.2.2.1 577 (p0 : Int32).toNatClampNeg)
def ok_m_byteAt (T : St) (p0 : Int32) : Prop := (¬ (T.1 571 11) ≤ p0 → (vp_in p0 600) ∧ True)
theorem c_m_byteAt {X : Nat × (Nat → Int32)} {T : St} (p0 : Int32) (kk : ok_m_byteAt T p0) : tC X 1 mX12_byteAt [.ref (571 : Nat), .int p0] T (some (.int (x_m_byteAt T p0))) T := by
  unfold ok_m_byteAt at kk
  refine tC_orIp (L := [some (.ref (571 : Nat)), some (.int p0)]) (x_m_byteAt T p0) rfl ?_
  unfold x_m_byteAt
  refine r_p (pc2 := 1) dX12_byteAt_0 rfl rfl ?_
  refine r_p (pc2 := 2) dX12_byteAt_1 rfl rfl ?_
  refine r_get dX12_byteAt_2 fkX12_134 rfl rfl ?_
  refine r_cge dX12_byteAt_5 rfl (fun c5_1 => ?_) (fun c5_1 => ?_)
  · refine r_ip (R := (rIp T)) c5_1 ?_
    refine r_k dX12_byteAt_17 kkX12_137 ?_
    exact r_qIp dX12_byteAt_19 rfl rfl rfl
  · refine r_in (R := (rIp T)) c5_1 ?_
    have kk := kk c5_1
    refine r_p (pc2 := 9) dX12_byteAt_8 rfl rfl ?_
    refine r_get dX12_byteAt_9 fkX12_25 rfl rfl ?_
    refine r_p (pc2 := 13) dX12_byteAt_12 rfl rfl ?_
    obtain ⟨q1, kk⟩ := kk
    refine r_ia dX12_byteAt_13 rfl q1 ?_
    refine r_go dX12_byteAt_14 rfl ?_
    exact r_qIp dX12_byteAt_19 rfl rfl rfl
def x_m_isLetter (T : St) (p0 : Int32) : Int32 := if p0 < 97 then (0) else (if 122 < p0 then (0) else (1))
theorem c_m_isLetter {X : Nat × (Nat → Int32)} {T : St} (p0 : Int32) : tC X 1 mX12_isLetter [.int p0] T (some (.int (x_m_isLetter T p0))) T := by
  refine tC_orIp (L := [some (.int p0)]) (x_m_isLetter T p0) rfl ?_
  unfold x_m_isLetter
  refine r_p (pc2 := 1) dX12_isLetter_0 rfl rfl ?_
  refine r_cb (x := 97) dX12_isLetter_1 rfl ?_
  refine r_clt dX12_isLetter_3 rfl (fun c3_1 => ?_) (fun c3_1 => ?_)
  · refine r_ip (R := (rIp T)) c3_1 ?_
    refine r_ci (x := 0) dX12_isLetter_16 rfl ?_
    exact r_qIp dX12_isLetter_17 rfl rfl rfl
  · refine r_in (R := (rIp T)) c3_1 ?_
    refine r_p (pc2 := 7) dX12_isLetter_6 rfl rfl ?_
    refine r_cb (x := 122) dX12_isLetter_7 rfl ?_
    refine r_cgt dX12_isLetter_9 rfl (fun c9_2 => ?_) (fun c9_2 => ?_)
    · refine r_ip (R := (rIp T)) c9_2 ?_
      refine r_ci (x := 0) dX12_isLetter_16 rfl ?_
      exact r_qIp dX12_isLetter_17 rfl rfl rfl
    · refine r_in (R := (rIp T)) c9_2 ?_
      refine r_ci (x := 1) dX12_isLetter_12 rfl ?_
      refine r_go dX12_isLetter_13 rfl ?_
      exact r_qIp dX12_isLetter_17 rfl rfl rfl
theorem b_m_isLetter (T : St) (p0 : Int32) : x_m_isLetter T p0 = 0 ∨ x_m_isLetter T p0 = 1 := by
  unfold x_m_isLetter
  try simp only [jn]
  repeat' split
  all_goals (first | exact Or.inl rfl | exact Or.inr rfl)
def x_m_isFigure (T : St) (p0 : Int32) : Int32 := if p0 < 48 then (0) else (if 57 < p0 then (0) else (1))
theorem c_m_isFigure {X : Nat × (Nat → Int32)} {T : St} (p0 : Int32) : tC X 1 mX12_isFigure [.int p0] T (some (.int (x_m_isFigure T p0))) T := by
  refine tC_orIp (L := [some (.int p0)]) (x_m_isFigure T p0) rfl ?_
  unfold x_m_isFigure
  refine r_p (pc2 := 1) dX12_isFigure_0 rfl rfl ?_
  refine r_cb (x := 48) dX12_isFigure_1 rfl ?_
  refine r_clt dX12_isFigure_3 rfl (fun c3_1 => ?_) (fun c3_1 => ?_)
  · refine r_ip (R := (rIp T)) c3_1 ?_
    refine r_ci (x := 0) dX12_isFigure_16 rfl ?_
    exact r_qIp dX12_isFigure_17 rfl rfl rfl
  · refine r_in (R := (rIp T)) c3_1 ?_
    refine r_p (pc2 := 7) dX12_isFigure_6 rfl rfl ?_
    refine r_cb (x := 57) dX12_isFigure_7 rfl ?_
    refine r_cgt dX12_isFigure_9 rfl (fun c9_2 => ?_) (fun c9_2 => ?_)
    · refine r_ip (R := (rIp T)) c9_2 ?_
      refine r_ci (x := 0) dX12_isFigure_16 rfl ?_
      exact r_qIp dX12_isFigure_17 rfl rfl rfl
    · refine r_in (R := (rIp T)) c9_2 ?_
      refine r_ci (x := 1) dX12_isFigure_12 rfl ?_
      refine r_go dX12_isFigure_13 rfl ?_
      exact r_qIp dX12_isFigure_17 rfl rfl rfl
theorem b_m_isFigure (T : St) (p0 : Int32) : x_m_isFigure T p0 = 0 ∨ x_m_isFigure T p0 = 1 := by
  unfold x_m_isFigure
  try simp only [jn]
  repeat' split
  all_goals (first | exact Or.inl rfl | exact Or.inr rfl)
def x_m_next_0  (K : St → St) : Nat → St → St
  | 0, T => T
  | f + 1, T => jn (fun (KJ1 : St) => if (x_m_byteAt T (T.1 571 12)) = 32 then (KJ1) else (if (x_m_byteAt T (T.1 571 12)) = 10 then (KJ1) else (K  T))) (x_m_next_0 K f  (sF T 571 12 ((T.1 571 12) + 1)))
def ok_m_next_0  (Kk : St → Prop) : Nat → St → Prop
  | 0, _ => False
  | f + 1, T => (ok_m_byteAt T (T.1 571 12)) ∧ jn (fun (OJ1 : Prop) => (((x_m_byteAt T (T.1 571 12)) = 32 → OJ1) ∧ (¬ (x_m_byteAt T (T.1 571 12)) = 32 → (((x_m_byteAt T (T.1 571 12)) = 10 → OJ1) ∧ (¬ (x_m_byteAt T (T.1 571 12)) = 10 → Kk  T))))) (ok_m_next_0 Kk f  (sF T 571 12 ((T.1 571 12) + 1)))
theorem c_m_next_0 {X : Nat × (Nat → Int32)}  {K : St → St} {Kk : St → Prop} (hk : ∀  (T : St), Kk  T → tR X 1 mX12_next 39 [some (.ref (571 : Nat)), none] [] T (rV (K  T)).1 ((rV (K  T)).2)) : ∀ (f : Nat)  (T : St), ok_m_next_0  Kk f  T → tR X 1 mX12_next 0 [some (.ref (571 : Nat)), none] [] T (rV (x_m_next_0 K f T)).1 ((rV (x_m_next_0 K f T)).2) := by
  intro f
  induction f with
  | zero => intro  T kk; exact kk.elim
  | succ f ih =>
    intro  T kk
    rw [ok_m_next_0] at kk
    rw [x_m_next_0]
    refine r_p (pc2 := 1) dX12_next_0 rfl rfl ?_
    refine r_p (pc2 := 2) dX12_next_1 rfl rfl ?_
    refine r_get dX12_next_2 fkX12_138 rfl rfl ?_
    obtain ⟨q1, kk⟩ := kk
    refine r_cv (d1 := 1) dX12_next_5 cvX12_141 rfl rfl rfl rfl (Nat.le_of_ble_eq_true rfl) (Nat.le_of_ble_eq_true rfl) (Nat.le_of_ble_eq_true rfl) (c_m_byteAt (T.1 571 12) q1) ?_
    refine r_cb (x := 32) dX12_next_8 rfl ?_
    refine r_jn (R := rV) (J := fun (KJ1 : St) (OJ1 : Prop) => OJ1 → tR X 1 mX12_next 26 [some (.ref (571 : Nat)), none] [] T (rV KJ1).1 (rV KJ1).2) kk (fun  kk => ?_) (fun KJ1 OJ1 hJ1 kk => ?_)
    · skip
      refine r_p (pc2 := 27) dX12_next_26 rfl rfl ?_
      refine r_p (pc2 := 28) dX12_next_27 rfl rfl ?_
      refine r_get dX12_next_28 fkX12_138 rfl rfl ?_
      refine r_ci (x := 1) dX12_next_31 rfl ?_
      refine r_p (pc2 := 33) dX12_next_32 rfl rfl ?_
      refine r_put dX12_next_33 fkX12_138 rfl rfl rfl (Nat.le_of_ble_eq_true rfl) rfl rfl ?_
      refine r_go dX12_next_36 rfl ?_
      show tR _ _ _ _ [some (.ref (571 : Nat)), none] _ _ _ _
      exact (ih  (sF T 571 12 ((T.1 571 12) + 1)) kk)
    refine r_ceq dX12_next_10 rfl (fun c10_3 => ?_) (fun c10_3 => ?_)
    · refine r_ip (R := rV) c10_3 ?_
      have kk := kk.1 c10_3
      show tR _ _ _ _ [some (.ref (571 : Nat)), none] [] _ _ _
      exact (hJ1  kk)
    · refine r_in (R := rV) c10_3 ?_
      have kk := kk.2 c10_3
      refine r_p (pc2 := 14) dX12_next_13 rfl rfl ?_
      refine r_p (pc2 := 15) dX12_next_14 rfl rfl ?_
      refine r_get dX12_next_15 fkX12_138 rfl rfl ?_
      refine r_cv (d1 := 1) dX12_next_18 cvX12_141 rfl rfl rfl rfl (Nat.le_of_ble_eq_true rfl) (Nat.le_of_ble_eq_true rfl) (Nat.le_of_ble_eq_true rfl) (c_m_byteAt (T.1 571 12) q1) ?_
      refine r_cb (x := 10) dX12_next_21 rfl ?_
      refine r_cne dX12_next_23 rfl (fun c23_4 => ?_) (fun c23_4 => ?_)
      · refine r_in (R := rV) c23_4 ?_
        have kk := kk.2 c23_4
        show tR _ _ _ _ [some (.ref (571 : Nat)), none] _ _ _ _
        exact (hk  T kk)
      · refine r_ip (R := rV) c23_4 ?_
        have kk := kk.1 c23_4
        show tR _ _ _ _ [some (.ref (571 : Nat)), none] [] _ _ _
        exact (hJ1  kk)
def x_m_next_119 (l1 : Int32) (K : St → St) : Nat → St → St
  | 0, T => T
  | f + 1, T => if (x_m_isFigure T (x_m_byteAt T (T.1 571 12))) = 0 then (K  T) else (x_m_next_119 l1 K f  (sF T 571 12 ((T.1 571 12) + 1)))
def ok_m_next_119 (l1 : Int32) (Kk : St → Prop) : Nat → St → Prop
  | 0, _ => False
  | f + 1, T => (ok_m_byteAt T (T.1 571 12)) ∧ (((x_m_isFigure T (x_m_byteAt T (T.1 571 12))) = 0 → Kk  T) ∧ (¬ (x_m_isFigure T (x_m_byteAt T (T.1 571 12))) = 0 → ok_m_next_119 l1 Kk f  (sF T 571 12 ((T.1 571 12) + 1))))
theorem c_m_next_119 {X : Nat × (Nat → Int32)} (l1 : Int32) {K : St → St} {Kk : St → Prop} (hk : ∀  (T : St), Kk  T → tR X 1 mX12_next 146 [some (.ref (571 : Nat)), some (.int l1)] [] T (rV (K  T)).1 ((rV (K  T)).2)) : ∀ (f : Nat)  (T : St), ok_m_next_119 l1 Kk f  T → tR X 1 mX12_next 119 [some (.ref (571 : Nat)), some (.int l1)] [] T (rV (x_m_next_119 l1 K f T)).1 ((rV (x_m_next_119 l1 K f T)).2) := by
  intro f
  induction f with
  | zero => intro  T kk; exact kk.elim
  | succ f ih =>
    intro  T kk
    rw [ok_m_next_119] at kk
    rw [x_m_next_119]
    refine r_p (pc2 := 120) dX12_next_119 rfl rfl ?_
    refine r_p (pc2 := 121) dX12_next_120 rfl rfl ?_
    refine r_get dX12_next_121 fkX12_138 rfl rfl ?_
    obtain ⟨q3, kk⟩ := kk
    refine r_cv (d1 := 1) dX12_next_124 cvX12_141 rfl rfl rfl rfl (Nat.le_of_ble_eq_true rfl) (Nat.le_of_ble_eq_true rfl) (Nat.le_of_ble_eq_true rfl) (c_m_byteAt (T.1 571 12) q3) ?_
    refine r_cs (d1 := 1) dX12_next_127 csX12_153 rfl rfl (Nat.le_of_ble_eq_true rfl) (Nat.le_of_ble_eq_true rfl) (Nat.le_of_ble_eq_true rfl) (c_m_isFigure (x_m_byteAt T (T.1 571 12))) ?_
    refine r_ieq dX12_next_130 rfl (fun c130_9 => ?_) (fun c130_9 => ?_)
    · refine r_ip (R := rV) c130_9 ?_
      have kk := kk.1 c130_9
      show tR _ _ _ _ [some (.ref (571 : Nat)), some (.int l1)] _ _ _ _
      exact (hk  T kk)
    · refine r_in (R := rV) c130_9 ?_
      have kk := kk.2 c130_9
      refine r_p (pc2 := 134) dX12_next_133 rfl rfl ?_
      refine r_p (pc2 := 135) dX12_next_134 rfl rfl ?_
      refine r_get dX12_next_135 fkX12_138 rfl rfl ?_
      refine r_ci (x := 1) dX12_next_138 rfl ?_
      refine r_p (pc2 := 140) dX12_next_139 rfl rfl ?_
      refine r_put dX12_next_140 fkX12_138 rfl rfl rfl (Nat.le_of_ble_eq_true rfl) rfl rfl ?_
      refine r_go dX12_next_143 rfl ?_
      show tR _ _ _ _ [some (.ref (571 : Nat)), some (.int l1)] _ _ _ _
      exact (ih  (sF T 571 12 ((T.1 571 12) + 1)) kk)
def x_m_next_77 (l1 : Int32) (K : St → St) : Nat → St → St
  | 0, T => T
  | f + 1, T => if (x_m_isLetter T (x_m_byteAt T (T.1 571 12))) = 0 then (K  T) else (x_m_next_77 l1 K f  (sF T 571 12 ((T.1 571 12) + 1)))
def ok_m_next_77 (l1 : Int32) (Kk : St → Prop) : Nat → St → Prop
  | 0, _ => False
  | f + 1, T => (ok_m_byteAt T (T.1 571 12)) ∧ (((x_m_isLetter T (x_m_byteAt T (T.1 571 12))) = 0 → Kk  T) ∧ (¬ (x_m_isLetter T (x_m_byteAt T (T.1 571 12))) = 0 → ok_m_next_77 l1 Kk f  (sF T 571 12 ((T.1 571 12) + 1))))
theorem c_m_next_77 {X : Nat × (Nat → Int32)} (l1 : Int32) {K : St → St} {Kk : St → Prop} (hk : ∀  (T : St), Kk  T → tR X 1 mX12_next 104 [some (.ref (571 : Nat)), some (.int l1)] [] T (rV (K  T)).1 ((rV (K  T)).2)) : ∀ (f : Nat)  (T : St), ok_m_next_77 l1 Kk f  T → tR X 1 mX12_next 77 [some (.ref (571 : Nat)), some (.int l1)] [] T (rV (x_m_next_77 l1 K f T)).1 ((rV (x_m_next_77 l1 K f T)).2) := by
  intro f
  induction f with
  | zero => intro  T kk; exact kk.elim
  | succ f ih =>
    intro  T kk
    rw [ok_m_next_77] at kk
    rw [x_m_next_77]
    refine r_p (pc2 := 78) dX12_next_77 rfl rfl ?_
    refine r_p (pc2 := 79) dX12_next_78 rfl rfl ?_
    refine r_get dX12_next_79 fkX12_138 rfl rfl ?_
    obtain ⟨q4, kk⟩ := kk
    refine r_cv (d1 := 1) dX12_next_82 cvX12_141 rfl rfl rfl rfl (Nat.le_of_ble_eq_true rfl) (Nat.le_of_ble_eq_true rfl) (Nat.le_of_ble_eq_true rfl) (c_m_byteAt (T.1 571 12) q4) ?_
    refine r_cs (d1 := 1) dX12_next_85 csX12_150 rfl rfl (Nat.le_of_ble_eq_true rfl) (Nat.le_of_ble_eq_true rfl) (Nat.le_of_ble_eq_true rfl) (c_m_isLetter (x_m_byteAt T (T.1 571 12))) ?_
    refine r_ieq dX12_next_88 rfl (fun c88_11 => ?_) (fun c88_11 => ?_)
    · refine r_ip (R := rV) c88_11 ?_
      have kk := kk.1 c88_11
      show tR _ _ _ _ [some (.ref (571 : Nat)), some (.int l1)] _ _ _ _
      exact (hk  T kk)
    · refine r_in (R := rV) c88_11 ?_
      have kk := kk.2 c88_11
      refine r_p (pc2 := 92) dX12_next_91 rfl rfl ?_
      refine r_p (pc2 := 93) dX12_next_92 rfl rfl ?_
      refine r_get dX12_next_93 fkX12_138 rfl rfl ?_
      refine r_ci (x := 1) dX12_next_96 rfl ?_
      refine r_p (pc2 := 98) dX12_next_97 rfl rfl ?_
      refine r_put dX12_next_98 fkX12_138 rfl rfl rfl (Nat.le_of_ble_eq_true rfl) rfl rfl ?_
      refine r_go dX12_next_101 rfl ?_
      show tR _ _ _ _ [some (.ref (571 : Nat)), some (.int l1)] _ _ _ _
      exact (ih  (sF T 571 12 ((T.1 571 12) + 1)) kk)
def x_m_next (T : St)  : St := x_m_next_0  (fun  (T201 : St) => jn (fun (i1 : Int32) => jn (fun (KJ2 : St → St) => if i1 = (-1000000) then (KJ2 (sF (sF T201 571 14 (T201.1 571 12)) 571 13 1)) else (if (x_m_isLetter (sF T201 571 14 (T201.1 571 12)) i1) = 0 then (if (x_m_isFigure (sF T201 571 14 (T201.1 571 12)) i1) = 0 then (jn (fun (T3 : St) => if i1 = 59 then (KJ2 (sF T3 571 13 4)) else (KJ2 (sF T3 571 13 0))) (sF (sF T201 571 14 (T201.1 571 12)) 571 12 (((sF T201 571 14 (T201.1 571 12)).1 571 12) + 1))) else (x_m_next_119 i1 (fun  (T204 : St) => if ((T204.1 571 12) - (T204.1 571 14)) ≤ 2 then (KJ2 (sF T204 571 13 3)) else (KJ2 (sF T204 571 13 0))) 1000  (sF T201 571 14 (T201.1 571 12)))) else (x_m_next_77 i1 (fun  (T205 : St) => KJ2 (sF T205 571 13 2)) 1000  (sF T201 571 14 (T201.1 571 12))))) (fun (T302 : St) => sF T302 571 15 (T302.1 571 12))) (x_m_byteAt (sF T201 571 14 (T201.1 571 12)) ((sF T201 571 14 (T201.1 571 12)).1 571 12))) 1000  T
def ok_m_next (T : St)  : Prop := ok_m_next_0  (fun  (T201 : St) => (ok_m_byteAt (sF T201 571 14 (T201.1 571 12)) ((sF T201 571 14 (T201.1 571 12)).1 571 12)) ∧ jn (fun (i1 : Int32) => (¬ i1 = (-1000000) → (((x_m_isLetter (sF T201 571 14 (T201.1 571 12)) i1) = 0 → (¬ (x_m_isFigure (sF T201 571 14 (T201.1 571 12)) i1) = 0 → ok_m_next_119 i1 (fun  (T204 : St) => True) 1000  (sF T201 571 14 (T201.1 571 12)))) ∧ (¬ (x_m_isLetter (sF T201 571 14 (T201.1 571 12)) i1) = 0 → ok_m_next_77 i1 (fun  (T205 : St) => True) 1000  (sF T201 571 14 (T201.1 571 12)))))) (x_m_byteAt (sF T201 571 14 (T201.1 571 12)) ((sF T201 571 14 (T201.1 571 12)).1 571 12))) 1000  T
theorem c_m_next {X : Nat × (Nat → Int32)} {T : St}  (kk : ok_m_next T ) : tC X 2 mX12_next [.ref (571 : Nat)] T none (x_m_next T) := by
  unfold ok_m_next at kk
  refine tC_orV (L := [some (.ref (571 : Nat)), none]) (x_m_next T ) rfl ?_
  unfold x_m_next
  show tR _ _ _ _ [some (.ref (571 : Nat)), none] _ _ _ _
  refine (c_m_next_0  (fun  T201 kk => ?_) 1000  T kk)
  · skip
    refine r_p (pc2 := 40) dX12_next_39 rfl rfl ?_
    refine r_p (pc2 := 41) dX12_next_40 rfl rfl ?_
    refine r_get dX12_next_41 fkX12_138 rfl rfl ?_
    refine r_put dX12_next_44 fkX12_144 rfl rfl rfl (Nat.le_of_ble_eq_true rfl) rfl rfl ?_
    refine r_p (pc2 := 48) dX12_next_47 rfl rfl ?_
    refine r_p (pc2 := 49) dX12_next_48 rfl rfl ?_
    refine r_get dX12_next_49 fkX12_138 rfl rfl ?_
    obtain ⟨q2, kk⟩ := kk
    refine r_cv (d1 := 1) dX12_next_52 cvX12_141 rfl rfl rfl rfl (Nat.le_of_ble_eq_true rfl) (Nat.le_of_ble_eq_true rfl) (Nat.le_of_ble_eq_true rfl) (c_m_byteAt ((sF T201 571 14 (T201.1 571 12)).1 571 12) q2) ?_
    refine r_nI (R := rV) rfl kk (fun i1 kk => ?_)
    refine r_p (pc2 := 56) (L2 := [some (.ref (571 : Nat)), some (.int i1)]) dX12_next_55 rfl rfl ?_
    refine r_p (pc2 := 57) dX12_next_56 rfl rfl ?_
    refine r_k dX12_next_57 kkX12_137 ?_
    refine r_jn0 (R := rV) (J := fun (KJ2 : St → St) => ∀ (T302 : St), tR X 1 mX12_next 196 [some (.ref (571 : Nat)), some (.int i1)] [] T302 (rV (KJ2 T302)).1 (rV (KJ2 T302)).2) (fun T302 => ?_) (fun KJ2 hJ2 => ?_)
    · skip
      refine r_p (pc2 := 197) dX12_next_196 rfl rfl ?_
      refine r_p (pc2 := 198) dX12_next_197 rfl rfl ?_
      refine r_get dX12_next_198 fkX12_138 rfl rfl ?_
      refine r_put dX12_next_201 fkX12_156 rfl rfl rfl (Nat.le_of_ble_eq_true rfl) rfl rfl ?_
      exact r_qV dX12_next_204 rfl rfl
    refine r_cne dX12_next_59 rfl (fun c59_12 => ?_) (fun c59_12 => ?_)
    · refine r_in (R := rV) c59_12 ?_
      have kk := kk c59_12
      refine r_p (pc2 := 71) dX12_next_70 rfl rfl ?_
      refine r_cs (d1 := 1) dX12_next_71 csX12_150 rfl rfl (Nat.le_of_ble_eq_true rfl) (Nat.le_of_ble_eq_true rfl) (Nat.le_of_ble_eq_true rfl) (c_m_isLetter i1) ?_
      refine r_ieq dX12_next_74 rfl (fun c74_13 => ?_) (fun c74_13 => ?_)
      · refine r_ip (R := rV) c74_13 ?_
        have kk := kk.1 c74_13
        refine r_p (pc2 := 113) dX12_next_112 rfl rfl ?_
        refine r_cs (d1 := 1) dX12_next_113 csX12_153 rfl rfl (Nat.le_of_ble_eq_true rfl) (Nat.le_of_ble_eq_true rfl) (Nat.le_of_ble_eq_true rfl) (c_m_isFigure i1) ?_
        refine r_ieq dX12_next_116 rfl (fun c116_14 => ?_) (fun c116_14 => ?_)
        · refine r_ip (R := rV) c116_14 ?_
          refine r_p (pc2 := 172) dX12_next_171 rfl rfl ?_
          refine r_p (pc2 := 173) dX12_next_172 rfl rfl ?_
          refine r_get dX12_next_173 fkX12_138 rfl rfl ?_
          refine r_ci (x := 1) dX12_next_176 rfl ?_
          refine r_p (pc2 := 178) dX12_next_177 rfl rfl ?_
          refine r_put dX12_next_178 fkX12_138 rfl rfl rfl (Nat.le_of_ble_eq_true rfl) rfl rfl ?_
          refine r_nT0 (R := rV) rfl (fun T3 => ?_)
          refine r_p (pc2 := 182) dX12_next_181 rfl rfl ?_
          refine r_p (pc2 := 183) dX12_next_182 rfl rfl ?_
          refine r_cb (x := 59) dX12_next_183 rfl ?_
          refine r_cne dX12_next_185 rfl (fun c185_15 => ?_) (fun c185_15 => ?_)
          · refine r_in (R := rV) c185_15 ?_
            refine r_ci (x := 0) dX12_next_192 rfl ?_
            refine r_put dX12_next_193 fkX12_147 rfl rfl rfl (Nat.le_of_ble_eq_true rfl) rfl rfl ?_
            show tR _ _ _ _ [some (.ref (571 : Nat)), some (.int i1)] [] _ _ _
            exact (hJ2 (sF T3 571 13 0))
          · refine r_ip (R := rV) c185_15 ?_
            refine r_ci (x := 4) dX12_next_188 rfl ?_
            refine r_go dX12_next_189 rfl ?_
            refine r_put dX12_next_193 fkX12_147 rfl rfl rfl (Nat.le_of_ble_eq_true rfl) rfl rfl ?_
            show tR _ _ _ _ [some (.ref (571 : Nat)), some (.int i1)] [] _ _ _
            exact (hJ2 (sF T3 571 13 4))
        · refine r_in (R := rV) c116_14 ?_
          have kk := kk c116_14
          show tR _ _ _ _ [some (.ref (571 : Nat)), some (.int i1)] _ _ _ _
          refine (c_m_next_119 i1 (fun  T204 kk => ?_) 1000  (sF T201 571 14 (T201.1 571 12)) kk)
          · skip
            refine r_p (pc2 := 147) dX12_next_146 rfl rfl ?_
            refine r_p (pc2 := 148) dX12_next_147 rfl rfl ?_
            refine r_get dX12_next_148 fkX12_138 rfl rfl ?_
            refine r_p (pc2 := 152) dX12_next_151 rfl rfl ?_
            refine r_get dX12_next_152 fkX12_144 rfl rfl ?_
            refine r_p (pc2 := 156) dX12_next_155 rfl rfl ?_
            refine r_ci (x := 2) dX12_next_156 rfl ?_
            refine r_cle dX12_next_157 rfl (fun c157_16 => ?_) (fun c157_16 => ?_)
            · refine r_ip (R := rV) c157_16 ?_
              refine r_ci (x := 3) dX12_next_164 rfl ?_
              refine r_put dX12_next_165 fkX12_147 rfl rfl rfl (Nat.le_of_ble_eq_true rfl) rfl rfl ?_
              refine r_go dX12_next_168 rfl ?_
              show tR _ _ _ _ [some (.ref (571 : Nat)), some (.int i1)] [] _ _ _
              exact (hJ2 (sF T204 571 13 3))
            · refine r_in (R := rV) c157_16 ?_
              refine r_ci (x := 0) dX12_next_160 rfl ?_
              refine r_go dX12_next_161 rfl ?_
              refine r_put dX12_next_165 fkX12_147 rfl rfl rfl (Nat.le_of_ble_eq_true rfl) rfl rfl ?_
              refine r_go dX12_next_168 rfl ?_
              show tR _ _ _ _ [some (.ref (571 : Nat)), some (.int i1)] [] _ _ _
              exact (hJ2 (sF T204 571 13 0))
      · refine r_in (R := rV) c74_13 ?_
        have kk := kk.2 c74_13
        show tR _ _ _ _ [some (.ref (571 : Nat)), some (.int i1)] _ _ _ _
        refine (c_m_next_77 i1 (fun  T205 kk => ?_) 1000  (sF T201 571 14 (T201.1 571 12)) kk)
        · skip
          refine r_p (pc2 := 105) dX12_next_104 rfl rfl ?_
          refine r_ci (x := 2) dX12_next_105 rfl ?_
          refine r_put dX12_next_106 fkX12_147 rfl rfl rfl (Nat.le_of_ble_eq_true rfl) rfl rfl ?_
          refine r_go dX12_next_109 rfl ?_
          show tR _ _ _ _ [some (.ref (571 : Nat)), some (.int i1)] [] _ _ _
          exact (hJ2 (sF T205 571 13 2))
    · refine r_ip (R := rV) c59_12 ?_
      refine r_p (pc2 := 63) dX12_next_62 rfl rfl ?_
      refine r_ci (x := 1) dX12_next_63 rfl ?_
      refine r_put dX12_next_64 fkX12_147 rfl rfl rfl (Nat.le_of_ble_eq_true rfl) rfl rfl ?_
      refine r_go dX12_next_67 rfl ?_
      show tR _ _ _ _ [some (.ref (571 : Nat)), some (.int i1)] [] _ _ _
      exact (hJ2 (sF (sF T201 571 14 (T201.1 571 12)) 571 13 1))
