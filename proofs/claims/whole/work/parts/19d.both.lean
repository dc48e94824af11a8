/-! ===== the judge, the whole object, both objects: the cells as they stand at the start ===== -/
def bX2a : List mx_C := .inr (2, [.ref (528 : Nat), .ref (532 : Nat), .ref (533 : Nat), .ref (538 : Nat)]) :: (bX4 528 ++ [.inl (4, 4, .inr (.inr (.inr (.inr (fun _ => none)))))] ++ bX9 533 ++ [.inl (1, 5, .inr (.inl (fun _ => 0)))])
def bX2 : List mx_C := bX2a.set 5 (wa 4 4 539 4 4) ++ wb bX10 539 4 4
theorem bX2_len : bX2.length = 28 := rfl
theorem k_X2 {X : Nat × (Nat → Int32)} : iC X 2 mX2_init 527 2 4 bX2 288 := iC_of fun h s => by
  refine g_p dX2_init_0 rfl rfl ?_
  refine g_ob dX2_init_1 obX2_3 ob_w2 ob_w3 (Nat.le_of_ble_eq_true rfl) ?_
  refine g_p dX2_init_4 rfl rfl ?_
  refine g_mk (d1 := 1) (n := 528) dX2_init_5 dX2_init_8 dX2_init_9 nwX2_9 iwX2_11 (by rfl) (Nat.le_of_ble_eq_true rfl) (Nat.le_of_ble_eq_true rfl) (k_X4 _) ?_
  refine g_put dX2_init_12 (fp_i (q := (RX2, TX2, 4)) rfl fkX2_12 (Or.inr ⟨rfl, rfl, rfl⟩)) (by decide) (Nat.le_of_ble_eq_true rfl) rfl rfl ?_
  refine g_p dX2_init_15 rfl rfl ?_
  refine g_k (4) dX2_init_16 rfl rfl rfl ?_
  refine g_an (t := 4) (N := 4) (n := 532) dX2_init_17 (by decide) (by decide) rfl cwX2_18 (by decide) rfl (by decide) rfl ?_
  refine g_put dX2_init_20 (fp_i (q := (RX2, TX2, 4)) rfl fkX2_20 (Or.inr ⟨rfl, rfl, rfl⟩)) (by decide) (Nat.le_of_ble_eq_true rfl) rfl rfl ?_
  refine g_p dX2_init_23 rfl rfl ?_
  refine g_mk (d1 := 1) (n := 533) dX2_init_24 dX2_init_27 dX2_init_28 nwX2_24 iwX2_26 (by rfl) (Nat.le_of_ble_eq_true rfl) (Nat.le_of_ble_eq_true rfl) (k_X9 _) ?_
  refine g_put dX2_init_31 (fp_i (q := (RX2, TX2, 4)) rfl fkX2_27 (Or.inr ⟨rfl, rfl, rfl⟩)) (by decide) (Nat.le_of_ble_eq_true rfl) rfl rfl ?_
  refine g_p dX2_init_34 rfl rfl ?_
  refine g_k (5) dX2_init_35 rfl rfl rfl ?_
  refine g_na (t := 1) (N := 5) (n := 538) dX2_init_36 (by decide) rfl ac1 (by decide) rfl (by decide) rfl ?_
  refine g_put dX2_init_38 (fp_i (q := (RX2, TX2, 4)) rfl fkX2_31 (Or.inr ⟨rfl, rfl, rfl⟩)) (by decide) (Nat.le_of_ble_eq_true rfl) rfl rfl ?_
  refine g_k (0) dX2_init_41 rfl rfl rfl ?_
  refine g_p (L2 := [some (.ref (527 : Nat)), some (.int (nI 0))]) dX2_init_42 rfl rfl ?_
  show gR X 1 mX2_init 43 [some (.ref (527 : Nat)), some (.int (nI 0))] [] (pu h 527 bX2a, 539, _) none _
  refine k_l2w rfl rfl (set_none rfl) rfl ?_
  exact g_rv dX2_init_71 rfl rfl (by rw [bX2_len]) (by omega)
def bX11 : List mx_C := .inr (11, [.ref (1 : Nat), .ref (13 : Nat), .ref (15 : Nat), .ref (76 : Nat), .ref (78 : Nat), .ref (80 : Nat), .ref (527 : Nat), .ref (555 : Nat), .ref (557 : Nat), .ref (564 : Nat), .ref (46 : Nat), .ref (61 : Nat), .int 0, .int 0, .int 0, .int 0, .int 0]) :: ((bX8 1) ++ (bX6 13) ++ [wa 3 2 16 15 2] ++ (bX1 16) ++ (bX1 31) ++ (bX1 46) ++ (bX1 61) ++ (bX3 76) ++ (bX3 78) ++ (bX5) ++ (bX2) ++ (bX0 555) ++ (bX7 557) ++ (bX7 564))
theorem bX11_len : bX11.length = 571 := by
  unfold bX11
  simp only [List.length_cons, List.length_append, bX5_len, bX2_len]
  rfl
theorem wa_2 : (.inl (3, 2, .inr (.inr (.inr (.inr (va_up (va_up (fun _ => none) (0 : Int32).toNatClampNeg (some 16)) (1 : Int32).toNatClampNeg (some 31)))))) : mx_C) = wa 3 2 16 15 2 := by
  unfold wa
  congr 7
  funext j
  unfold va_up
  by_cases e : j = 0
  · subst e; rfl
  · by_cases e1 : j = 1
    · subst e1; rfl
    · rw [if_neg (show ¬ j = Int32.toNatClampNeg 1 from e1), if_neg (show ¬ j = Int32.toNatClampNeg 0 from e), if_neg (by omega)]
theorem k_X11 {X : Nat × (Nat → Int32)} : iC X 3 mX11_init 0 11 17 bX11 5636 := iC_of fun h s => by
  refine g_p dX11_init_0 rfl rfl ?_
  refine g_ob dX11_init_1 obX11_1 ob_w2 ob_w3 (Nat.le_of_ble_eq_true rfl) ?_
  refine g_p dX11_init_4 rfl rfl ?_
  refine g_mk (d1 := 2) (n := 1) dX11_init_5 dX11_init_8 dX11_init_9 nwX11_7 iwX11_9 (by rfl) (Nat.le_of_ble_eq_true rfl) (Nat.le_of_ble_eq_true rfl) (k_X8 _ (by decide)) ?_
  refine g_put dX11_init_12 (fp_i (q := (RX11, TX11, 17)) rfl fkX11_10 (Or.inr ⟨rfl, rfl, rfl⟩)) (by decide) (Nat.le_of_ble_eq_true rfl) rfl rfl ?_
  refine g_p dX11_init_15 rfl rfl ?_
  refine g_mk (d1 := 1) (n := 13) dX11_init_16 dX11_init_19 dX11_init_20 nwX11_16 iwX11_18 (by rfl) (Nat.le_of_ble_eq_true rfl) (Nat.le_of_ble_eq_true rfl) (k_X6 _) ?_
  refine g_put dX11_init_23 (fp_i (q := (RX11, TX11, 17)) rfl fkX11_19 (Or.inr ⟨rfl, rfl, rfl⟩)) (by decide) (Nat.le_of_ble_eq_true rfl) rfl rfl ?_
  refine g_p dX11_init_26 rfl rfl ?_
  refine g_k (2) dX11_init_27 rfl rfl rfl ?_
  refine g_an (t := 3) (N := 2) (n := 15) dX11_init_28 (by decide) (by decide) rfl cwX11_23 (by decide) rfl (by decide) rfl ?_
  refine g_p dX11_init_31 rfl rfl ?_
  refine g_k (0) dX11_init_32 rfl rfl rfl ?_
  refine g_mkst (d1 := 1) (a := 0) (j := 15) (n := 16) (q := (RX1, TX1, 19)) dX11_init_33 dX11_init_36 dX11_init_37 dX11_init_40 nwX11_23 iwX11_25 (by rfl) (Nat.le_of_ble_eq_true rfl) (Nat.le_of_ble_eq_true rfl) (k_X1 _) rfl (by decide) rfl rfl rfl (in_c (by decide)) ?_
  refine g_p dX11_init_41 rfl rfl ?_
  refine g_k (1) dX11_init_42 rfl rfl rfl ?_
  refine g_mkst (d1 := 1) (a := 0) (j := 15) (n := 31) (q := (RX1, TX1, 19)) dX11_init_43 dX11_init_46 dX11_init_47 dX11_init_50 nwX11_23 iwX11_25 (by rfl) (Nat.le_of_ble_eq_true rfl) (Nat.le_of_ble_eq_true rfl) (k_X1 _) rfl (by decide) rfl rfl rfl (in_c (by decide)) ?_
  refine g_put dX11_init_51 (fp_i (q := (RX11, TX11, 17)) rfl fkX11_26 (Or.inr ⟨rfl, rfl, rfl⟩)) (by decide) (Nat.le_of_ble_eq_true rfl) rfl rfl ?_
  refine g_p dX11_init_54 rfl rfl ?_
  refine g_mk (d1 := 1) (n := 46) dX11_init_55 dX11_init_58 dX11_init_59 nwX11_23 iwX11_25 (by rfl) (Nat.le_of_ble_eq_true rfl) (Nat.le_of_ble_eq_true rfl) (k_X1 _) ?_
  refine g_put dX11_init_62 (fp_i (q := (RX11, TX11, 17)) rfl fkX11_30 (Or.inl rfl)) (by decide) (Nat.le_of_ble_eq_true rfl) rfl rfl ?_
  refine g_p dX11_init_65 rfl rfl ?_
  refine g_mk (d1 := 1) (n := 61) dX11_init_66 dX11_init_69 dX11_init_70 nwX11_23 iwX11_25 (by rfl) (Nat.le_of_ble_eq_true rfl) (Nat.le_of_ble_eq_true rfl) (k_X1 _) ?_
  refine g_put dX11_init_73 (fp_i (q := (RX11, TX11, 17)) rfl fkX11_34 (Or.inl rfl)) (by decide) (Nat.le_of_ble_eq_true rfl) rfl rfl ?_
  refine g_p dX11_init_76 rfl rfl ?_
  refine g_mk (d1 := 1) (n := 76) dX11_init_77 dX11_init_80 dX11_init_81 nwX11_37 iwX11_39 (by rfl) (Nat.le_of_ble_eq_true rfl) (Nat.le_of_ble_eq_true rfl) (k_X3 _) ?_
  refine g_put dX11_init_84 (fp_i (q := (RX11, TX11, 17)) rfl fkX11_40 (Or.inr ⟨rfl, rfl, rfl⟩)) (by decide) (Nat.le_of_ble_eq_true rfl) rfl rfl ?_
  refine g_p dX11_init_87 rfl rfl ?_
  refine g_mk (d1 := 1) (n := 78) dX11_init_88 dX11_init_91 dX11_init_92 nwX11_37 iwX11_39 (by rfl) (Nat.le_of_ble_eq_true rfl) (Nat.le_of_ble_eq_true rfl) (k_X3 _) ?_
  refine g_put dX11_init_95 (fp_i (q := (RX11, TX11, 17)) rfl fkX11_44 (Or.inr ⟨rfl, rfl, rfl⟩)) (by decide) (Nat.le_of_ble_eq_true rfl) rfl rfl ?_
  refine g_p dX11_init_98 rfl rfl ?_
  refine g_mk (d1 := 2) (n := 80) dX11_init_99 dX11_init_102 dX11_init_103 nwX11_47 iwX11_49 (by rfl) (Nat.le_of_ble_eq_true rfl) (Nat.le_of_ble_eq_true rfl) k_X5 ?_
  rw [show (80 : Nat) + bX5.length = 527 from by rw [bX5_len]]
  refine g_put dX11_init_106 (fp_i (q := (RX11, TX11, 17)) rfl fkX11_50 (Or.inr ⟨rfl, rfl, rfl⟩)) (by decide) (Nat.le_of_ble_eq_true rfl) rfl rfl ?_
  refine g_p dX11_init_109 rfl rfl ?_
  refine g_mk (d1 := 2) (n := 527) dX11_init_110 dX11_init_113 dX11_init_114 nwX11_54 iwX11_56 (by simp only [List.append_eq, List.length_cons, List.length_append, List.length_set, bX5_len, bX2_len]; rfl) (Nat.le_of_ble_eq_true rfl) (Nat.le_of_ble_eq_true rfl) k_X2 ?_
  rw [show (527 : Nat) + bX2.length = 555 from by rw [bX2_len]]
  refine g_put dX11_init_117 (fp_i (q := (RX11, TX11, 17)) rfl fkX11_57 (Or.inr ⟨rfl, rfl, rfl⟩)) (by decide) (Nat.le_of_ble_eq_true rfl) rfl rfl ?_
  refine g_p dX11_init_120 rfl rfl ?_
  refine g_mk (d1 := 1) (n := 555) dX11_init_121 dX11_init_124 dX11_init_125 nwX11_61 iwX11_63 (by simp only [List.append_eq, List.length_cons, List.length_append, List.length_set, bX5_len, bX2_len]; rfl) (Nat.le_of_ble_eq_true rfl) (Nat.le_of_ble_eq_true rfl) (k_X0 _) ?_
  refine g_put dX11_init_128 (fp_i (q := (RX11, TX11, 17)) rfl fkX11_64 (Or.inr ⟨rfl, rfl, rfl⟩)) (by decide) (Nat.le_of_ble_eq_true rfl) rfl rfl ?_
  refine g_p dX11_init_131 rfl rfl ?_
  refine g_mk (d1 := 1) (n := 557) dX11_init_132 dX11_init_135 dX11_init_136 nwX11_68 iwX11_70 (by simp only [List.append_eq, List.length_cons, List.length_append, List.length_set, bX5_len, bX2_len]; rfl) (Nat.le_of_ble_eq_true rfl) (Nat.le_of_ble_eq_true rfl) (k_X7 _) ?_
  refine g_put dX11_init_139 (fp_i (q := (RX11, TX11, 17)) rfl fkX11_71 (Or.inr ⟨rfl, rfl, rfl⟩)) (by decide) (Nat.le_of_ble_eq_true rfl) rfl rfl ?_
  refine g_p dX11_init_142 rfl rfl ?_
  refine g_mk (d1 := 1) (n := 564) dX11_init_143 dX11_init_146 dX11_init_147 nwX11_68 iwX11_70 (by simp only [List.append_eq, List.length_cons, List.length_append, List.length_set, bX5_len, bX2_len]; rfl) (Nat.le_of_ble_eq_true rfl) (Nat.le_of_ble_eq_true rfl) (k_X7 _) ?_
  refine g_put dX11_init_150 (fp_i (q := (RX11, TX11, 17)) rfl fkX11_75 (Or.inr ⟨rfl, rfl, rfl⟩)) (by decide) (Nat.le_of_ble_eq_true rfl) rfl rfl ?_
  refine g_rv dX11_init_153 rfl ?_ (by rw [bX11_len]; rfl) (by omega)
  unfold bX11
  rw [← wa_2]
  rfl
