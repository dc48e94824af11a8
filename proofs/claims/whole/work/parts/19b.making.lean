/-! ===== what the simple constructors make ===== -/
section GB
variable {X : Nat × (Nat → Int32)} {d pc n idx a b s : Nat} {M M2 : mx_M} {L : mx_Lo} {S r : List Value} {H H1 H2 : mx_Hp} {h : Nat → mx_C} {l : List mx_C} {v w : Option Value}
theorem g_cs {d1 : Nat} {as : List Value} (hd : decode M.2.1 pc = .ok (.invokestatic idx, 3)) (hc : mx_cs M.1.cls idx M2 n) (hS : S = as.reverse ++ r) (hln : as.length = n) (hcat : (r.map fun v => v.category).sum ≤ 8) (hl : (mx_sl as).length ≤ M2.2.2.1) (hle : d1 ≤ d) (hcall : mx_call X d1 M2 as H (w, H1)) (k : gR X d M (pc + 3) L (w.toList ++ r) H1 v H2) : gR X d M pc L S H v H2 := by
  obtain ⟨h1, h2, h3, h5⟩ := hc
  subst hS
  refine g_s (Or.inr (Or.inr (Or.inr (Or.inr (Or.inr (Or.inr (Or.inr (Or.inr (Or.inr ⟨M2, as, r, idx, w, H1, h1, rfl, hcat, hl, mx_call_le hle hcall, rfl, ?_⟩))))))))) k
  rcases h2 with h2 | ⟨host, h2⟩
  · exact Or.inr (Or.inl ⟨hd, h2, h3, by rw [h5, hln]⟩)
  · exact Or.inr (Or.inr (Or.inl ⟨host, hd, h2, h3, by rw [h5, hln]⟩))
theorem g_al {t m j : Nat} {y : vp_A} (hd : decode M.2.1 pc = .ok (.arraylength, 1)) (hj : l[j]? = some (.inl (t, y))) (hn : a + j < n) (hB : a + j < mx_B) (ht : t < 8) (hm : y.1 = m) (kk : gR X d M (pc + 1) L (.int (Int32.ofNat m) :: r) (pu h a l, n, s) v H2) : gR X d M pc L (.ref (a + j) :: r) (pu h a l, n, s) v H2 :=
  g_s (Or.inr (Or.inr (Or.inr (Or.inr (Or.inl (Or.inr (Or.inr (Or.inr (Or.inr (Or.inl ⟨a + j, m, t, y, r, hd, rfl, hn, hB, ht, pu_at hj, hm, rfl⟩)))))))))) kk
end GB
def lane0 : Nat → Int32 := upd (upd (upd (upd (upd (upd (upd (upd (fun _ => 0) 0 (-1)) 1 (-1)) 2 (-1)) 3 (-1)) 4 (-1)) 5 (-1)) 6 (-1)) 7 (-1)
theorem lane0_eq : lane0 = fun j => if j < 8 then -1 else 0 := by
  funext j
  unfold lane0 upd
  by_cases q : j < 8
  · rw [if_pos q]
    rcases (show j = 0 ∨ j = 1 ∨ j = 2 ∨ j = 3 ∨ j = 4 ∨ j = 5 ∨ j = 6 ∨ j = 7 by omega) with rfl | rfl | rfl | rfl | rfl | rfl | rfl | rfl <;> rfl
  · rw [if_neg q]
    repeat rw [if_neg (by omega)]
theorem k_fill {X : Nat × (Nat → Int32)} {h : Nat → mx_C} {a n s : Nat} {l : List mx_C} (hj : l[1]? = some (.inl (0, 8, .inl (fun _ => 0)))) (hn : a + 1 < n) (hB : a + 1 < mx_B) : mx_call X 1 mJ7_fill_53178 [.ref (a + 1), .int (-1)] (pu h a l, n, s) (none, (pu h a (l.set 1 (.inl (0, 8, .inl lane0))), n, s)) := by
  have hl : 1 < l.length := by
    rcases Nat.lt_or_ge 1 l.length with q | q
    · exact q
    · rw [List.getElem?_eq_none q] at hj; cases hj
  show gR X 0 mJ7_fill_53178 0 (mx_ent [.ref (a + 1), .int (-1)] 4) [] (pu h a l, n, s) none (pu h a (l.set 1 (.inl (0, 8, .inl lane0))), n, s)
  refine g_k 0 dJ7_fill_53178_0 rfl rfl rfl ?_
  refine g_p (L2 := [some (.ref (a + 1)), some (.int (-1)), some (.int 0), none]) dJ7_fill_53178_1 rfl rfl ?_
  refine g_p dJ7_fill_53178_2 rfl rfl ?_
  refine g_al dJ7_fill_53178_3 hj hn hB (by decide) rfl ?_
  refine g_p (L2 := [some (.ref (a + 1)), some (.int (-1)), some (.int 0), some (.int 8)]) dJ7_fill_53178_4 rfl rfl ?_
  refine g_p dJ7_fill_53178_5 rfl rfl ?_
  refine g_p dJ7_fill_53178_6 rfl rfl ?_
  refine g_cge dJ7_fill_53178_7 rfl (fun c => absurd c (by decide)) (fun _ => ?_)
  refine g_p dJ7_fill_53178_10 rfl rfl ?_
  refine g_p dJ7_fill_53178_11 rfl rfl ?_
  refine g_p dJ7_fill_53178_12 rfl rfl ?_
  refine g_ias dJ7_fill_53178_13 hj hn (in_c (by decide)) ?_
  refine g_inc (L2 := [some (.ref (a + 1)), some (.int (-1)), some (.int 1), some (.int 8)]) (y := 1) dJ7_fill_53178_14 rfl rfl rfl ?_
  refine g_go dJ7_fill_53178_17 rfl ?_
  refine g_p dJ7_fill_53178_5 rfl rfl ?_
  refine g_p dJ7_fill_53178_6 rfl rfl ?_
  refine g_cge dJ7_fill_53178_7 rfl (fun c => absurd c (by decide)) (fun _ => ?_)
  refine g_p dJ7_fill_53178_10 rfl rfl ?_
  refine g_p dJ7_fill_53178_11 rfl rfl ?_
  refine g_p dJ7_fill_53178_12 rfl rfl ?_
  refine g_ias dJ7_fill_53178_13 (List.getElem?_set_self hl) hn (in_c (by decide)) ?_
  rw [List.set_set]
  refine g_inc (L2 := [some (.ref (a + 1)), some (.int (-1)), some (.int 2), some (.int 8)]) (y := 1) dJ7_fill_53178_14 rfl rfl rfl ?_
  refine g_go dJ7_fill_53178_17 rfl ?_
  refine g_p dJ7_fill_53178_5 rfl rfl ?_
  refine g_p dJ7_fill_53178_6 rfl rfl ?_
  refine g_cge dJ7_fill_53178_7 rfl (fun c => absurd c (by decide)) (fun _ => ?_)
  refine g_p dJ7_fill_53178_10 rfl rfl ?_
  refine g_p dJ7_fill_53178_11 rfl rfl ?_
  refine g_p dJ7_fill_53178_12 rfl rfl ?_
  refine g_ias dJ7_fill_53178_13 (List.getElem?_set_self hl) hn (in_c (by decide)) ?_
  rw [List.set_set]
  refine g_inc (L2 := [some (.ref (a + 1)), some (.int (-1)), some (.int 3), some (.int 8)]) (y := 1) dJ7_fill_53178_14 rfl rfl rfl ?_
  refine g_go dJ7_fill_53178_17 rfl ?_
  refine g_p dJ7_fill_53178_5 rfl rfl ?_
  refine g_p dJ7_fill_53178_6 rfl rfl ?_
  refine g_cge dJ7_fill_53178_7 rfl (fun c => absurd c (by decide)) (fun _ => ?_)
  refine g_p dJ7_fill_53178_10 rfl rfl ?_
  refine g_p dJ7_fill_53178_11 rfl rfl ?_
  refine g_p dJ7_fill_53178_12 rfl rfl ?_
  refine g_ias dJ7_fill_53178_13 (List.getElem?_set_self hl) hn (in_c (by decide)) ?_
  rw [List.set_set]
  refine g_inc (L2 := [some (.ref (a + 1)), some (.int (-1)), some (.int 4), some (.int 8)]) (y := 1) dJ7_fill_53178_14 rfl rfl rfl ?_
  refine g_go dJ7_fill_53178_17 rfl ?_
  refine g_p dJ7_fill_53178_5 rfl rfl ?_
  refine g_p dJ7_fill_53178_6 rfl rfl ?_
  refine g_cge dJ7_fill_53178_7 rfl (fun c => absurd c (by decide)) (fun _ => ?_)
  refine g_p dJ7_fill_53178_10 rfl rfl ?_
  refine g_p dJ7_fill_53178_11 rfl rfl ?_
  refine g_p dJ7_fill_53178_12 rfl rfl ?_
  refine g_ias dJ7_fill_53178_13 (List.getElem?_set_self hl) hn (in_c (by decide)) ?_
  rw [List.set_set]
  refine g_inc (L2 := [some (.ref (a + 1)), some (.int (-1)), some (.int 5), some (.int 8)]) (y := 1) dJ7_fill_53178_14 rfl rfl rfl ?_
  refine g_go dJ7_fill_53178_17 rfl ?_
  refine g_p dJ7_fill_53178_5 rfl rfl ?_
  refine g_p dJ7_fill_53178_6 rfl rfl ?_
  refine g_cge dJ7_fill_53178_7 rfl (fun c => absurd c (by decide)) (fun _ => ?_)
  refine g_p dJ7_fill_53178_10 rfl rfl ?_
  refine g_p dJ7_fill_53178_11 rfl rfl ?_
  refine g_p dJ7_fill_53178_12 rfl rfl ?_
  refine g_ias dJ7_fill_53178_13 (List.getElem?_set_self hl) hn (in_c (by decide)) ?_
  rw [List.set_set]
  refine g_inc (L2 := [some (.ref (a + 1)), some (.int (-1)), some (.int 6), some (.int 8)]) (y := 1) dJ7_fill_53178_14 rfl rfl rfl ?_
  refine g_go dJ7_fill_53178_17 rfl ?_
  refine g_p dJ7_fill_53178_5 rfl rfl ?_
  refine g_p dJ7_fill_53178_6 rfl rfl ?_
  refine g_cge dJ7_fill_53178_7 rfl (fun c => absurd c (by decide)) (fun _ => ?_)
  refine g_p dJ7_fill_53178_10 rfl rfl ?_
  refine g_p dJ7_fill_53178_11 rfl rfl ?_
  refine g_p dJ7_fill_53178_12 rfl rfl ?_
  refine g_ias dJ7_fill_53178_13 (List.getElem?_set_self hl) hn (in_c (by decide)) ?_
  rw [List.set_set]
  refine g_inc (L2 := [some (.ref (a + 1)), some (.int (-1)), some (.int 7), some (.int 8)]) (y := 1) dJ7_fill_53178_14 rfl rfl rfl ?_
  refine g_go dJ7_fill_53178_17 rfl ?_
  refine g_p dJ7_fill_53178_5 rfl rfl ?_
  refine g_p dJ7_fill_53178_6 rfl rfl ?_
  refine g_cge dJ7_fill_53178_7 rfl (fun c => absurd c (by decide)) (fun _ => ?_)
  refine g_p dJ7_fill_53178_10 rfl rfl ?_
  refine g_p dJ7_fill_53178_11 rfl rfl ?_
  refine g_p dJ7_fill_53178_12 rfl rfl ?_
  refine g_ias dJ7_fill_53178_13 (List.getElem?_set_self hl) hn (in_c (by decide)) ?_
  rw [List.set_set]
  refine g_inc (L2 := [some (.ref (a + 1)), some (.int (-1)), some (.int 8), some (.int 8)]) (y := 1) dJ7_fill_53178_14 rfl rfl rfl ?_
  refine g_go dJ7_fill_53178_17 rfl ?_
  refine g_p dJ7_fill_53178_5 rfl rfl ?_
  refine g_p dJ7_fill_53178_6 rfl rfl ?_
  refine g_cge dJ7_fill_53178_7 rfl (fun _ => ?_) (fun c => absurd (by decide) c)
  exact g_rv dJ7_fill_53178_20 rfl rfl rfl rfl
def bX0 (a : Nat) : List mx_C := [.inr (0, [.ref (a + 1), .int 0]), .inl (0, 16, .inl (fun _ => 0))]
theorem k_X0 {X : Nat × (Nat → Int32)} (a : Nat) : iC X 1 mX0_init a 0 2 (bX0 a) 16 := iC_of fun h s => by
  refine g_p dX0_init_0 rfl rfl ?_
  refine g_ob dX0_init_1 obX0_1 ob_w2 ob_w3 (Nat.le_of_ble_eq_true rfl) ?_
  refine g_p dX0_init_4 rfl rfl ?_
  refine g_k (16) dX0_init_5 rfl rfl rfl ?_
  refine g_na (t := 0) (N := 16) dX0_init_7 (by decide) rfl ac0 (by decide) rfl (by decide) rfl ?_
  refine g_put dX0_init_9 (fp_i (q := (RX0, TX0, 2)) rfl fkX0_9 (Or.inr ⟨rfl, rfl, rfl⟩)) (by omega) (Nat.le_of_ble_eq_true rfl) rfl rfl ?_
  exact g_rv dX0_init_12 rfl rfl (by show _ = a + 2; omega) (by omega)
def bX1 (a : Nat) : List mx_C := [.inr (1, [.ref (a + 1), .int 0, .ref (a + 2), .ref (a + 3), .int 0, .ref (a + 4), .ref (a + 5), .ref (a + 6), .ref (a + 7), .ref (a + 8), .int 0, .ref (a + 9), .ref (a + 10), .ref (a + 11), .ref (a + 12), .ref (a + 13), .ref (a + 14), .int 0, .int 60]), .inl (0, 7, .inl (fun _ => 0)), .inl (0, 4, .inl (fun _ => 0)), .inl (0, 4, .inl (fun _ => 0)), .inl (0, 8, .inl (fun _ => 0)), .inl (0, 8, .inl (fun _ => 0)), .inl (0, 8, .inl (fun _ => 0)), .inl (0, 8, .inl (fun _ => 0)), .inl (0, 8, .inl (fun _ => 0)), .inl (0, 24, .inl (fun _ => 0)), .inl (0, 24, .inl (fun _ => 0)), .inl (0, 24, .inl (fun _ => 0)), .inl (0, 24, .inl (fun _ => 0)), .inl (0, 24, .inl (fun _ => 0)), .inl (0, 24, .inl (fun _ => 0))]
theorem k_X1 {X : Nat × (Nat → Int32)} (a : Nat) : iC X 1 mX1_init a 1 19 (bX1 a) 199 := iC_of fun h s => by
  refine g_p dX1_init_0 rfl rfl ?_
  refine g_ob dX1_init_1 obX1_3 ob_w2 ob_w3 (Nat.le_of_ble_eq_true rfl) ?_
  refine g_p dX1_init_4 rfl rfl ?_
  refine g_k (7) dX1_init_5 rfl rfl rfl ?_
  refine g_na (t := 0) (N := 7) dX1_init_7 (by decide) rfl ac0 (by decide) rfl (by decide) rfl ?_
  refine g_put dX1_init_9 (fp_i (q := (RX1, TX1, 19)) rfl fkX1_9 (Or.inr ⟨rfl, rfl, rfl⟩)) (by omega) (Nat.le_of_ble_eq_true rfl) rfl rfl ?_
  refine g_p dX1_init_12 rfl rfl ?_
  refine g_k (4) dX1_init_13 rfl rfl rfl ?_
  refine g_na (t := 0) (N := 4) dX1_init_14 (by decide) rfl ac0 (by decide) rfl (by decide) rfl ?_
  refine g_put dX1_init_16 (fp_i (q := (RX1, TX1, 19)) rfl fkX1_15 (Or.inr ⟨rfl, rfl, rfl⟩)) (by omega) (Nat.le_of_ble_eq_true rfl) rfl rfl ?_
  refine g_p dX1_init_19 rfl rfl ?_
  refine g_k (4) dX1_init_20 rfl rfl rfl ?_
  refine g_na (t := 0) (N := 4) dX1_init_21 (by decide) rfl ac0 (by decide) rfl (by decide) rfl ?_
  refine g_put dX1_init_23 (fp_i (q := (RX1, TX1, 19)) rfl fkX1_18 (Or.inr ⟨rfl, rfl, rfl⟩)) (by omega) (Nat.le_of_ble_eq_true rfl) rfl rfl ?_
  refine g_p dX1_init_26 rfl rfl ?_
  refine g_k (8) dX1_init_27 rfl rfl rfl ?_
  refine g_na (t := 0) (N := 8) dX1_init_29 (by decide) rfl ac0 (by decide) rfl (by decide) rfl ?_
  refine g_put dX1_init_31 (fp_i (q := (RX1, TX1, 19)) rfl fkX1_21 (Or.inr ⟨rfl, rfl, rfl⟩)) (by omega) (Nat.le_of_ble_eq_true rfl) rfl rfl ?_
  refine g_p dX1_init_34 rfl rfl ?_
  refine g_k (8) dX1_init_35 rfl rfl rfl ?_
  refine g_na (t := 0) (N := 8) dX1_init_37 (by decide) rfl ac0 (by decide) rfl (by decide) rfl ?_
  refine g_put dX1_init_39 (fp_i (q := (RX1, TX1, 19)) rfl fkX1_24 (Or.inr ⟨rfl, rfl, rfl⟩)) (by omega) (Nat.le_of_ble_eq_true rfl) rfl rfl ?_
  refine g_p dX1_init_42 rfl rfl ?_
  refine g_k (8) dX1_init_43 rfl rfl rfl ?_
  refine g_na (t := 0) (N := 8) dX1_init_45 (by decide) rfl ac0 (by decide) rfl (by decide) rfl ?_
  refine g_put dX1_init_47 (fp_i (q := (RX1, TX1, 19)) rfl fkX1_27 (Or.inr ⟨rfl, rfl, rfl⟩)) (by omega) (Nat.le_of_ble_eq_true rfl) rfl rfl ?_
  refine g_p dX1_init_50 rfl rfl ?_
  refine g_k (8) dX1_init_51 rfl rfl rfl ?_
  refine g_na (t := 0) (N := 8) dX1_init_53 (by decide) rfl ac0 (by decide) rfl (by decide) rfl ?_
  refine g_put dX1_init_55 (fp_i (q := (RX1, TX1, 19)) rfl fkX1_30 (Or.inr ⟨rfl, rfl, rfl⟩)) (by omega) (Nat.le_of_ble_eq_true rfl) rfl rfl ?_
  refine g_p dX1_init_58 rfl rfl ?_
  refine g_k (8) dX1_init_59 rfl rfl rfl ?_
  refine g_na (t := 0) (N := 8) dX1_init_61 (by decide) rfl ac0 (by decide) rfl (by decide) rfl ?_
  refine g_put dX1_init_63 (fp_i (q := (RX1, TX1, 19)) rfl fkX1_33 (Or.inr ⟨rfl, rfl, rfl⟩)) (by omega) (Nat.le_of_ble_eq_true rfl) rfl rfl ?_
  refine g_p dX1_init_66 rfl rfl ?_
  refine g_k (24) dX1_init_67 rfl rfl rfl ?_
  refine g_na (t := 0) (N := 24) dX1_init_69 (by decide) rfl ac0 (by decide) rfl (by decide) rfl ?_
  refine g_put dX1_init_71 (fp_i (q := (RX1, TX1, 19)) rfl fkX1_36 (Or.inr ⟨rfl, rfl, rfl⟩)) (by omega) (Nat.le_of_ble_eq_true rfl) rfl rfl ?_
  refine g_p dX1_init_74 rfl rfl ?_
  refine g_k (24) dX1_init_75 rfl rfl rfl ?_
  refine g_na (t := 0) (N := 24) dX1_init_77 (by decide) rfl ac0 (by decide) rfl (by decide) rfl ?_
  refine g_put dX1_init_79 (fp_i (q := (RX1, TX1, 19)) rfl fkX1_39 (Or.inr ⟨rfl, rfl, rfl⟩)) (by omega) (Nat.le_of_ble_eq_true rfl) rfl rfl ?_
  refine g_p dX1_init_82 rfl rfl ?_
  refine g_k (24) dX1_init_83 rfl rfl rfl ?_
  refine g_na (t := 0) (N := 24) dX1_init_85 (by decide) rfl ac0 (by decide) rfl (by decide) rfl ?_
  refine g_put dX1_init_87 (fp_i (q := (RX1, TX1, 19)) rfl fkX1_42 (Or.inr ⟨rfl, rfl, rfl⟩)) (by omega) (Nat.le_of_ble_eq_true rfl) rfl rfl ?_
  refine g_p dX1_init_90 rfl rfl ?_
  refine g_k (24) dX1_init_91 rfl rfl rfl ?_
  refine g_na (t := 0) (N := 24) dX1_init_93 (by decide) rfl ac0 (by decide) rfl (by decide) rfl ?_
  refine g_put dX1_init_95 (fp_i (q := (RX1, TX1, 19)) rfl fkX1_45 (Or.inr ⟨rfl, rfl, rfl⟩)) (by omega) (Nat.le_of_ble_eq_true rfl) rfl rfl ?_
  refine g_p dX1_init_98 rfl rfl ?_
  refine g_k (24) dX1_init_99 rfl rfl rfl ?_
  refine g_na (t := 0) (N := 24) dX1_init_101 (by decide) rfl ac0 (by decide) rfl (by decide) rfl ?_
  refine g_put dX1_init_103 (fp_i (q := (RX1, TX1, 19)) rfl fkX1_48 (Or.inr ⟨rfl, rfl, rfl⟩)) (by omega) (Nat.le_of_ble_eq_true rfl) rfl rfl ?_
  refine g_p dX1_init_106 rfl rfl ?_
  refine g_k (24) dX1_init_107 rfl rfl rfl ?_
  refine g_na (t := 0) (N := 24) dX1_init_109 (by decide) rfl ac0 (by decide) rfl (by decide) rfl ?_
  refine g_put dX1_init_111 (fp_i (q := (RX1, TX1, 19)) rfl fkX1_51 (Or.inr ⟨rfl, rfl, rfl⟩)) (by omega) (Nat.le_of_ble_eq_true rfl) rfl rfl ?_
  refine g_p dX1_init_114 rfl rfl ?_
  refine g_k (60) dX1_init_115 rfl rfl rfl ?_
  refine g_put dX1_init_117 (fp_i (q := (RX1, TX1, 19)) rfl fkX1_54 (Or.inl rfl)) (by omega) (Nat.le_of_ble_eq_true rfl) rfl rfl ?_
  exact g_rv dX1_init_120 rfl rfl (by show _ = a + 15; omega) (by omega)
def bX3 (a : Nat) : List mx_C := [.inr (3, [.ref (a + 1)]), .inl (1, 25, .inr (.inl (fun _ => 0)))]
theorem k_X3 {X : Nat × (Nat → Int32)} (a : Nat) : iC X 1 mX3_init a 3 1 (bX3 a) 25 := iC_of fun h s => by
  refine g_p dX3_init_0 rfl rfl ?_
  refine g_ob dX3_init_1 obX3_3 ob_w2 ob_w3 (Nat.le_of_ble_eq_true rfl) ?_
  refine g_p dX3_init_4 rfl rfl ?_
  refine g_k (25) dX3_init_5 rfl rfl rfl ?_
  refine g_na (t := 1) (N := 25) dX3_init_7 (by decide) rfl ac1 (by decide) rfl (by decide) rfl ?_
  refine g_put dX3_init_9 (fp_i (q := (RX3, TX3, 1)) rfl fkX3_11 (Or.inr ⟨rfl, rfl, rfl⟩)) (by omega) (Nat.le_of_ble_eq_true rfl) rfl rfl ?_
  exact g_rv dX3_init_12 rfl rfl (by show _ = a + 2; omega) (by omega)
def bX4 (a : Nat) : List mx_C := [.inr (4, [.ref (a + 1), .ref (a + 2), .ref (a + 3)]), .inl (0, 60, .inl (fun _ => 0)), .inl (0, 60, .inl (fun _ => 0)), .inl (0, 60, .inl (fun _ => 0))]
theorem k_X4 {X : Nat × (Nat → Int32)} (a : Nat) : iC X 1 mX4_init a 4 3 (bX4 a) 180 := iC_of fun h s => by
  refine g_p dX4_init_0 rfl rfl ?_
  refine g_ob dX4_init_1 obX4_3 ob_w2 ob_w3 (Nat.le_of_ble_eq_true rfl) ?_
  refine g_p dX4_init_4 rfl rfl ?_
  refine g_k (60) dX4_init_5 rfl rfl rfl ?_
  refine g_na (t := 0) (N := 60) dX4_init_7 (by decide) rfl ac0 (by decide) rfl (by decide) rfl ?_
  refine g_put dX4_init_9 (fp_i (q := (RX4, TX4, 3)) rfl fkX4_9 (Or.inr ⟨rfl, rfl, rfl⟩)) (by omega) (Nat.le_of_ble_eq_true rfl) rfl rfl ?_
  refine g_p dX4_init_12 rfl rfl ?_
  refine g_k (60) dX4_init_13 rfl rfl rfl ?_
  refine g_na (t := 0) (N := 60) dX4_init_15 (by decide) rfl ac0 (by decide) rfl (by decide) rfl ?_
  refine g_put dX4_init_17 (fp_i (q := (RX4, TX4, 3)) rfl fkX4_15 (Or.inr ⟨rfl, rfl, rfl⟩)) (by omega) (Nat.le_of_ble_eq_true rfl) rfl rfl ?_
  refine g_p dX4_init_20 rfl rfl ?_
  refine g_k (60) dX4_init_21 rfl rfl rfl ?_
  refine g_na (t := 0) (N := 60) dX4_init_23 (by decide) rfl ac0 (by decide) rfl (by decide) rfl ?_
  refine g_put dX4_init_25 (fp_i (q := (RX4, TX4, 3)) rfl fkX4_18 (Or.inr ⟨rfl, rfl, rfl⟩)) (by omega) (Nat.le_of_ble_eq_true rfl) rfl rfl ?_
  exact g_rv dX4_init_28 rfl rfl (by show _ = a + 4; omega) (by omega)
def bX6 (a : Nat) : List mx_C := [.inr (6, [.ref (a + 1), .int 0, .int 0, .int 0, .int 0, .int 0, .int 0]), .inl (0, 600, .inl (fun _ => 0))]
theorem k_X6 {X : Nat × (Nat → Int32)} (a : Nat) : iC X 1 mX6_init a 6 7 (bX6 a) 600 := iC_of fun h s => by
  refine g_p dX6_init_0 rfl rfl ?_
  refine g_ob dX6_init_1 obX6_3 ob_w2 ob_w3 (Nat.le_of_ble_eq_true rfl) ?_
  refine g_p dX6_init_4 rfl rfl ?_
  refine g_k (600) dX6_init_5 rfl rfl rfl ?_
  refine g_na (t := 0) (N := 600) dX6_init_8 (by decide) rfl ac0 (by decide) rfl (by decide) rfl ?_
  refine g_put dX6_init_10 (fp_i (q := (RX6, TX6, 7)) rfl fkX6_11 (Or.inr ⟨rfl, rfl, rfl⟩)) (by omega) (Nat.le_of_ble_eq_true rfl) rfl rfl ?_
  exact g_rv dX6_init_13 rfl rfl (by show _ = a + 2; omega) (by omega)
def bX7 (a : Nat) : List mx_C := [.inr (7, [.int 0, .int 0, .ref (a + 1), .ref (a + 2), .ref (a + 3), .ref (a + 4), .ref (a + 5), .ref (a + 6)]), .inl (0, 4, .inl (fun _ => 0)), .inl (0, 4, .inl (fun _ => 0)), .inl (0, 12, .inl (fun _ => 0)), .inl (0, 12, .inl (fun _ => 0)), .inl (0, 12, .inl (fun _ => 0)), .inl (0, 12, .inl (fun _ => 0))]
theorem k_X7 {X : Nat × (Nat → Int32)} (a : Nat) : iC X 1 mX7_init a 7 8 (bX7 a) 56 := iC_of fun h s => by
  refine g_p dX7_init_0 rfl rfl ?_
  refine g_ob dX7_init_1 obX7_3 ob_w2 ob_w3 (Nat.le_of_ble_eq_true rfl) ?_
  refine g_p dX7_init_4 rfl rfl ?_
  refine g_k (4) dX7_init_5 rfl rfl rfl ?_
  refine g_na (t := 0) (N := 4) dX7_init_6 (by decide) rfl ac0 (by decide) rfl (by decide) rfl ?_
  refine g_put dX7_init_8 (fp_i (q := (RX7, TX7, 8)) rfl fkX7_9 (Or.inr ⟨rfl, rfl, rfl⟩)) (by omega) (Nat.le_of_ble_eq_true rfl) rfl rfl ?_
  refine g_p dX7_init_11 rfl rfl ?_
  refine g_k (4) dX7_init_12 rfl rfl rfl ?_
  refine g_na (t := 0) (N := 4) dX7_init_13 (by decide) rfl ac0 (by decide) rfl (by decide) rfl ?_
  refine g_put dX7_init_15 (fp_i (q := (RX7, TX7, 8)) rfl fkX7_15 (Or.inr ⟨rfl, rfl, rfl⟩)) (by omega) (Nat.le_of_ble_eq_true rfl) rfl rfl ?_
  refine g_p dX7_init_18 rfl rfl ?_
  refine g_k (12) dX7_init_19 rfl rfl rfl ?_
  refine g_na (t := 0) (N := 12) dX7_init_21 (by decide) rfl ac0 (by decide) rfl (by decide) rfl ?_
  refine g_put dX7_init_23 (fp_i (q := (RX7, TX7, 8)) rfl fkX7_18 (Or.inr ⟨rfl, rfl, rfl⟩)) (by omega) (Nat.le_of_ble_eq_true rfl) rfl rfl ?_
  refine g_p dX7_init_26 rfl rfl ?_
  refine g_k (12) dX7_init_27 rfl rfl rfl ?_
  refine g_na (t := 0) (N := 12) dX7_init_29 (by decide) rfl ac0 (by decide) rfl (by decide) rfl ?_
  refine g_put dX7_init_31 (fp_i (q := (RX7, TX7, 8)) rfl fkX7_21 (Or.inr ⟨rfl, rfl, rfl⟩)) (by omega) (Nat.le_of_ble_eq_true rfl) rfl rfl ?_
  refine g_p dX7_init_34 rfl rfl ?_
  refine g_k (12) dX7_init_35 rfl rfl rfl ?_
  refine g_na (t := 0) (N := 12) dX7_init_37 (by decide) rfl ac0 (by decide) rfl (by decide) rfl ?_
  refine g_put dX7_init_39 (fp_i (q := (RX7, TX7, 8)) rfl fkX7_24 (Or.inr ⟨rfl, rfl, rfl⟩)) (by omega) (Nat.le_of_ble_eq_true rfl) rfl rfl ?_
  refine g_p dX7_init_42 rfl rfl ?_
  refine g_k (12) dX7_init_43 rfl rfl rfl ?_
  refine g_na (t := 0) (N := 12) dX7_init_45 (by decide) rfl ac0 (by decide) rfl (by decide) rfl ?_
  refine g_put dX7_init_47 (fp_i (q := (RX7, TX7, 8)) rfl fkX7_27 (Or.inr ⟨rfl, rfl, rfl⟩)) (by omega) (Nat.le_of_ble_eq_true rfl) rfl rfl ?_
  exact g_rv dX7_init_50 rfl rfl (by show _ = a + 7; omega) (by omega)
def bX9 (a : Nat) : List mx_C := [.inr (9, [.ref (a + 1), .ref (a + 2), .ref (a + 3), .ref (a + 4)]), .inl (1, 5, .inr (.inl (fun _ => 0))), .inl (1, 5, .inr (.inl (fun _ => 0))), .inl (1, 5, .inr (.inl (fun _ => 0))), .inl (1, 5, .inr (.inl (fun _ => 0)))]
theorem k_X9 {X : Nat × (Nat → Int32)} (a : Nat) : iC X 1 mX9_init a 9 4 (bX9 a) 20 := iC_of fun h s => by
  refine g_p dX9_init_0 rfl rfl ?_
  refine g_ob dX9_init_1 obX9_3 ob_w2 ob_w3 (Nat.le_of_ble_eq_true rfl) ?_
  refine g_p dX9_init_4 rfl rfl ?_
  refine g_k (5) dX9_init_5 rfl rfl rfl ?_
  refine g_na (t := 1) (N := 5) dX9_init_6 (by decide) rfl ac1 (by decide) rfl (by decide) rfl ?_
  refine g_put dX9_init_8 (fp_i (q := (RX9, TX9, 4)) rfl fkX9_9 (Or.inr ⟨rfl, rfl, rfl⟩)) (by omega) (Nat.le_of_ble_eq_true rfl) rfl rfl ?_
  refine g_p dX9_init_11 rfl rfl ?_
  refine g_k (5) dX9_init_12 rfl rfl rfl ?_
  refine g_na (t := 1) (N := 5) dX9_init_13 (by decide) rfl ac1 (by decide) rfl (by decide) rfl ?_
  refine g_put dX9_init_15 (fp_i (q := (RX9, TX9, 4)) rfl fkX9_15 (Or.inr ⟨rfl, rfl, rfl⟩)) (by omega) (Nat.le_of_ble_eq_true rfl) rfl rfl ?_
  refine g_p dX9_init_18 rfl rfl ?_
  refine g_k (5) dX9_init_19 rfl rfl rfl ?_
  refine g_na (t := 1) (N := 5) dX9_init_20 (by decide) rfl ac1 (by decide) rfl (by decide) rfl ?_
  refine g_put dX9_init_22 (fp_i (q := (RX9, TX9, 4)) rfl fkX9_18 (Or.inr ⟨rfl, rfl, rfl⟩)) (by omega) (Nat.le_of_ble_eq_true rfl) rfl rfl ?_
  refine g_p dX9_init_25 rfl rfl ?_
  refine g_k (5) dX9_init_26 rfl rfl rfl ?_
  refine g_na (t := 1) (N := 5) dX9_init_27 (by decide) rfl ac1 (by decide) rfl (by decide) rfl ?_
  refine g_put dX9_init_29 (fp_i (q := (RX9, TX9, 4)) rfl fkX9_21 (Or.inr ⟨rfl, rfl, rfl⟩)) (by omega) (Nat.le_of_ble_eq_true rfl) rfl rfl ?_
  exact g_rv dX9_init_32 rfl rfl (by show _ = a + 5; omega) (by omega)
def bX10 (a : Nat) : List mx_C := [.inr (10, [.ref (a + 1), .ref (a + 2), .ref (a + 3), .int 0, .int 0, .int 0, .int 0]), .inl (0, 3, .inl (fun _ => 0)), .inl (0, 3, .inl (fun _ => 0)), .inl (1, 5, .inr (.inl (fun _ => 0)))]
theorem k_X10 {X : Nat × (Nat → Int32)} (a : Nat) : iC X 1 mX10_init a 10 7 (bX10 a) 11 := iC_of fun h s => by
  refine g_p dX10_init_0 rfl rfl ?_
  refine g_ob dX10_init_1 obX10_3 ob_w2 ob_w3 (Nat.le_of_ble_eq_true rfl) ?_
  refine g_p dX10_init_4 rfl rfl ?_
  refine g_k (3) dX10_init_5 rfl rfl rfl ?_
  refine g_na (t := 0) (N := 3) dX10_init_6 (by decide) rfl ac0 (by decide) rfl (by decide) rfl ?_
  refine g_put dX10_init_8 (fp_i (q := (RX10, TX10, 7)) rfl fkX10_9 (Or.inr ⟨rfl, rfl, rfl⟩)) (by omega) (Nat.le_of_ble_eq_true rfl) rfl rfl ?_
  refine g_p dX10_init_11 rfl rfl ?_
  refine g_k (3) dX10_init_12 rfl rfl rfl ?_
  refine g_na (t := 0) (N := 3) dX10_init_13 (by decide) rfl ac0 (by decide) rfl (by decide) rfl ?_
  refine g_put dX10_init_15 (fp_i (q := (RX10, TX10, 7)) rfl fkX10_15 (Or.inr ⟨rfl, rfl, rfl⟩)) (by omega) (Nat.le_of_ble_eq_true rfl) rfl rfl ?_
  refine g_p dX10_init_18 rfl rfl ?_
  refine g_k (5) dX10_init_19 rfl rfl rfl ?_
  refine g_na (t := 1) (N := 5) dX10_init_20 (by decide) rfl ac1 (by decide) rfl (by decide) rfl ?_
  refine g_put dX10_init_22 (fp_i (q := (RX10, TX10, 7)) rfl fkX10_18 (Or.inr ⟨rfl, rfl, rfl⟩)) (by omega) (Nat.le_of_ble_eq_true rfl) rfl rfl ?_
  exact g_rv dX10_init_25 rfl rfl (by show _ = a + 4; omega) (by omega)
def bX12 (a : Nat) : List mx_C := [.inr (12, [.int 0, .int 0, .ref (a + 1), .ref (a + 2), .ref (a + 3), .ref (a + 4), .ref (a + 5), .int 0, .ref (a + 6), .int 0, .int 0, .int 0, .int 0, .int 0, .int 0, .int 0, .int 0, .int 0, .ref (a + 7), .ref (a + 8), .ref (a + 9), .ref (a + 10), .ref (a + 11), .ref (a + 12), .ref (a + 13), .ref (a + 14), .ref (a + 15), .ref (a + 16), .ref (a + 17), .ref (a + 18), .ref (a + 19), .int 0, .int 0, .ref (a + 20), .int 0, .int 0, .int 0, .ref (a + 21), .ref (a + 22), .int 0, .ref (a + 23), .ref (a + 24), .ref (a + 25), .ref (a + 26), .ref (a + 27), .ref (a + 28), .ref (a + 29), .ref (a + 30), .int 0]), .inl (0, 8, .inl lane0), .inl (0, 8, .inl (fun _ => 0)), .inl (0, 320, .inl (fun _ => 0)), .inl (0, 204, .inl (fun _ => 0)), .inl (0, 204, .inl (fun _ => 0)), .inl (0, 600, .inl (fun _ => 0)), .inl (0, 300, .inl (fun _ => 0)), .inl (0, 300, .inl (fun _ => 0)), .inl (0, 300, .inl (fun _ => 0)), .inl (0, 300, .inl (fun _ => 0)), .inl (0, 300, .inl (fun _ => 0)), .inl (0, 300, .inl (fun _ => 0)), .inl (0, 300, .inl (fun _ => 0)), .inl (0, 4, .inl (fun _ => 0)), .inl (0, 5, .inl (fun _ => 0)), .inl (0, 5, .inl (fun _ => 0)), .inl (0, 12, .inl (fun _ => 0)), .inl (0, 4, .inl (fun _ => 0)), .inl (0, 12, .inl (fun _ => 0)), .inl (0, 12, .inl (fun _ => 0)), .inl (0, 4, .inl (fun _ => 0)), .inl (0, 12, .inl (fun _ => 0)), .inl (0, 12, .inl (fun _ => 0)), .inl (0, 12, .inl (fun _ => 0)), .inl (0, 12, .inl (fun _ => 0)), .inl (0, 61, .inl (fun _ => 0)), .inl (0, 61, .inl (fun _ => 0)), .inl (2, 2, .inl (fun _ => 0)), .inl (0, 408, .inl (fun _ => 0)), .inl (0, 16, .inl (fun _ => 0))]
theorem k_X12 {X : Nat × (Nat → Int32)} (a : Nat) : iC X 1 mX12_init a 12 49 (bX12 a) 4098 := iC_of fun h s => by
  refine g_p dX12_init_0 rfl rfl ?_
  refine g_ob dX12_init_1 obX12_1 ob_w2 ob_w3 (Nat.le_of_ble_eq_true rfl) ?_
  refine g_p dX12_init_4 rfl rfl ?_
  refine g_k (8) dX12_init_5 rfl rfl rfl ?_
  refine g_na (t := 0) (N := 8) dX12_init_7 (by decide) rfl ac0 (by decide) rfl (by decide) rfl ?_
  refine g_p dX12_init_9 rfl rfl ?_
  refine g_k (0) dX12_init_10 rfl rfl rfl ?_
  refine g_k (-1) dX12_init_11 rfl rfl rfl ?_
  refine g_ias (j := 1) dX12_init_12 rfl (by omega) (in_c (by decide)) ?_
  refine g_p dX12_init_13 rfl rfl ?_
  refine g_k (1) dX12_init_14 rfl rfl rfl ?_
  refine g_k (-1) dX12_init_15 rfl rfl rfl ?_
  refine g_ias (j := 1) dX12_init_16 rfl (by omega) (in_c (by decide)) ?_
  refine g_p dX12_init_17 rfl rfl ?_
  refine g_k (2) dX12_init_18 rfl rfl rfl ?_
  refine g_k (-1) dX12_init_19 rfl rfl rfl ?_
  refine g_ias (j := 1) dX12_init_20 rfl (by omega) (in_c (by decide)) ?_
  refine g_p dX12_init_21 rfl rfl ?_
  refine g_k (3) dX12_init_22 rfl rfl rfl ?_
  refine g_k (-1) dX12_init_23 rfl rfl rfl ?_
  refine g_ias (j := 1) dX12_init_24 rfl (by omega) (in_c (by decide)) ?_
  refine g_p dX12_init_25 rfl rfl ?_
  refine g_k (4) dX12_init_26 rfl rfl rfl ?_
  refine g_k (-1) dX12_init_27 rfl rfl rfl ?_
  refine g_ias (j := 1) dX12_init_28 rfl (by omega) (in_c (by decide)) ?_
  refine g_p dX12_init_29 rfl rfl ?_
  refine g_k (5) dX12_init_30 rfl rfl rfl ?_
  refine g_k (-1) dX12_init_31 rfl rfl rfl ?_
  refine g_ias (j := 1) dX12_init_32 rfl (by omega) (in_c (by decide)) ?_
  refine g_p dX12_init_33 rfl rfl ?_
  refine g_k (6) dX12_init_34 rfl rfl rfl ?_
  refine g_k (-1) dX12_init_36 rfl rfl rfl ?_
  refine g_ias (j := 1) dX12_init_37 rfl (by omega) (in_c (by decide)) ?_
  refine g_p dX12_init_38 rfl rfl ?_
  refine g_k (7) dX12_init_39 rfl rfl rfl ?_
  refine g_k (-1) dX12_init_41 rfl rfl rfl ?_
  refine g_ias (j := 1) dX12_init_42 rfl (by omega) (in_c (by decide)) ?_
  refine g_put dX12_init_43 (fp_i (q := (RX12, TX12, 49)) rfl fkX12_7 (Or.inr ⟨rfl, rfl, rfl⟩)) (by omega) (Nat.le_of_ble_eq_true rfl) rfl rfl ?_
  refine g_p dX12_init_46 rfl rfl ?_
  refine g_k (8) dX12_init_47 rfl rfl rfl ?_
  refine g_na (t := 0) (N := 8) dX12_init_49 (by decide) rfl ac0 (by decide) rfl (by decide) rfl ?_
  refine g_put dX12_init_51 (fp_i (q := (RX12, TX12, 49)) rfl fkX12_13 (Or.inr ⟨rfl, rfl, rfl⟩)) (by omega) (Nat.le_of_ble_eq_true rfl) rfl rfl ?_
  refine g_p dX12_init_54 rfl rfl ?_
  refine g_k (320) dX12_init_55 rfl rfl rfl ?_
  refine g_na (t := 0) (N := 320) dX12_init_58 (by decide) rfl ac0 (by decide) rfl (by decide) rfl ?_
  refine g_put dX12_init_60 (fp_i (q := (RX12, TX12, 49)) rfl fkX12_16 (Or.inr ⟨rfl, rfl, rfl⟩)) (by omega) (Nat.le_of_ble_eq_true rfl) rfl rfl ?_
  show gR X 0 mX12_init _ [some (.ref a)] [] (pu h a (.inr (12, [.int 0, .int 0, .ref (a + 1), .ref (a + 2), .ref (a + 3), .null, .null, .int 0, .null, .int 0, .int 0, .int 0, .int 0, .int 0, .int 0, .int 0, .int 0, .int 0, .null, .null, .null, .null, .null, .null, .null, .null, .null, .null, .null, .null, .null, .int 0, .int 0, .null, .int 0, .int 0, .int 0, .null, .null, .int 0, .null, .null, .null, .null, .null, .null, .null, .null, .int 0]) :: [.inl (0, 8, .inl lane0), .inl (0, 8, .inl (fun _ => 0)), .inl (0, 320, .inl (fun _ => 0))]), a + 4, s + 336) none _
  refine g_p dX12_init_63 rfl rfl ?_
  refine g_k (204) dX12_init_64 rfl rfl rfl ?_
  refine g_na (t := 0) (N := 204) dX12_init_67 (by decide) rfl ac0 (by decide) rfl (by decide) rfl ?_
  refine g_put dX12_init_69 (fp_i (q := (RX12, TX12, 49)) rfl fkX12_19 (Or.inr ⟨rfl, rfl, rfl⟩)) (by omega) (Nat.le_of_ble_eq_true rfl) rfl rfl ?_
  refine g_p dX12_init_72 rfl rfl ?_
  refine g_k (204) dX12_init_73 rfl rfl rfl ?_
  refine g_na (t := 0) (N := 204) dX12_init_76 (by decide) rfl ac0 (by decide) rfl (by decide) rfl ?_
  refine g_put dX12_init_78 (fp_i (q := (RX12, TX12, 49)) rfl fkX12_22 (Or.inr ⟨rfl, rfl, rfl⟩)) (by omega) (Nat.le_of_ble_eq_true rfl) rfl rfl ?_
  refine g_p dX12_init_81 rfl rfl ?_
  refine g_k (600) dX12_init_82 rfl rfl rfl ?_
  refine g_na (t := 0) (N := 600) dX12_init_85 (by decide) rfl ac0 (by decide) rfl (by decide) rfl ?_
  refine g_put dX12_init_87 (fp_i (q := (RX12, TX12, 49)) rfl fkX12_25 (Or.inr ⟨rfl, rfl, rfl⟩)) (by omega) (Nat.le_of_ble_eq_true rfl) rfl rfl ?_
  show gR X 0 mX12_init _ [some (.ref a)] [] (pu h a (.inr (12, [.int 0, .int 0, .ref (a + 1), .ref (a + 2), .ref (a + 3), .ref (a + 4), .ref (a + 5), .int 0, .ref (a + 6), .int 0, .int 0, .int 0, .int 0, .int 0, .int 0, .int 0, .int 0, .int 0, .null, .null, .null, .null, .null, .null, .null, .null, .null, .null, .null, .null, .null, .int 0, .int 0, .null, .int 0, .int 0, .int 0, .null, .null, .int 0, .null, .null, .null, .null, .null, .null, .null, .null, .int 0]) :: [.inl (0, 8, .inl lane0), .inl (0, 8, .inl (fun _ => 0)), .inl (0, 320, .inl (fun _ => 0)), .inl (0, 204, .inl (fun _ => 0)), .inl (0, 204, .inl (fun _ => 0)), .inl (0, 600, .inl (fun _ => 0))]), a + 7, s + 1344) none _
  refine g_p dX12_init_90 rfl rfl ?_
  refine g_k (300) dX12_init_91 rfl rfl rfl ?_
  refine g_na (t := 0) (N := 300) dX12_init_94 (by decide) rfl ac0 (by decide) rfl (by decide) rfl ?_
  refine g_put dX12_init_96 (fp_i (q := (RX12, TX12, 49)) rfl fkX12_28 (Or.inr ⟨rfl, rfl, rfl⟩)) (by omega) (Nat.le_of_ble_eq_true rfl) rfl rfl ?_
  refine g_p dX12_init_99 rfl rfl ?_
  refine g_k (300) dX12_init_100 rfl rfl rfl ?_
  refine g_na (t := 0) (N := 300) dX12_init_103 (by decide) rfl ac0 (by decide) rfl (by decide) rfl ?_
  refine g_put dX12_init_105 (fp_i (q := (RX12, TX12, 49)) rfl fkX12_31 (Or.inr ⟨rfl, rfl, rfl⟩)) (by omega) (Nat.le_of_ble_eq_true rfl) rfl rfl ?_
  refine g_p dX12_init_108 rfl rfl ?_
  refine g_k (300) dX12_init_109 rfl rfl rfl ?_
  refine g_na (t := 0) (N := 300) dX12_init_112 (by decide) rfl ac0 (by decide) rfl (by decide) rfl ?_
  refine g_put dX12_init_114 (fp_i (q := (RX12, TX12, 49)) rfl fkX12_34 (Or.inr ⟨rfl, rfl, rfl⟩)) (by omega) (Nat.le_of_ble_eq_true rfl) rfl rfl ?_
  show gR X 0 mX12_init _ [some (.ref a)] [] (pu h a (.inr (12, [.int 0, .int 0, .ref (a + 1), .ref (a + 2), .ref (a + 3), .ref (a + 4), .ref (a + 5), .int 0, .ref (a + 6), .int 0, .int 0, .int 0, .int 0, .int 0, .int 0, .int 0, .int 0, .int 0, .ref (a + 7), .ref (a + 8), .ref (a + 9), .null, .null, .null, .null, .null, .null, .null, .null, .null, .null, .int 0, .int 0, .null, .int 0, .int 0, .int 0, .null, .null, .int 0, .null, .null, .null, .null, .null, .null, .null, .null, .int 0]) :: [.inl (0, 8, .inl lane0), .inl (0, 8, .inl (fun _ => 0)), .inl (0, 320, .inl (fun _ => 0)), .inl (0, 204, .inl (fun _ => 0)), .inl (0, 204, .inl (fun _ => 0)), .inl (0, 600, .inl (fun _ => 0)), .inl (0, 300, .inl (fun _ => 0)), .inl (0, 300, .inl (fun _ => 0)), .inl (0, 300, .inl (fun _ => 0))]), a + 10, s + 2244) none _
  refine g_p dX12_init_117 rfl rfl ?_
  refine g_k (300) dX12_init_118 rfl rfl rfl ?_
  refine g_na (t := 0) (N := 300) dX12_init_121 (by decide) rfl ac0 (by decide) rfl (by decide) rfl ?_
  refine g_put dX12_init_123 (fp_i (q := (RX12, TX12, 49)) rfl fkX12_37 (Or.inr ⟨rfl, rfl, rfl⟩)) (by omega) (Nat.le_of_ble_eq_true rfl) rfl rfl ?_
  refine g_p dX12_init_126 rfl rfl ?_
  refine g_k (300) dX12_init_127 rfl rfl rfl ?_
  refine g_na (t := 0) (N := 300) dX12_init_130 (by decide) rfl ac0 (by decide) rfl (by decide) rfl ?_
  refine g_put dX12_init_132 (fp_i (q := (RX12, TX12, 49)) rfl fkX12_40 (Or.inr ⟨rfl, rfl, rfl⟩)) (by omega) (Nat.le_of_ble_eq_true rfl) rfl rfl ?_
  refine g_p dX12_init_135 rfl rfl ?_
  refine g_k (300) dX12_init_136 rfl rfl rfl ?_
  refine g_na (t := 0) (N := 300) dX12_init_139 (by decide) rfl ac0 (by decide) rfl (by decide) rfl ?_
  refine g_put dX12_init_141 (fp_i (q := (RX12, TX12, 49)) rfl fkX12_43 (Or.inr ⟨rfl, rfl, rfl⟩)) (by omega) (Nat.le_of_ble_eq_true rfl) rfl rfl ?_
  show gR X 0 mX12_init _ [some (.ref a)] [] (pu h a (.inr (12, [.int 0, .int 0, .ref (a + 1), .ref (a + 2), .ref (a + 3), .ref (a + 4), .ref (a + 5), .int 0, .ref (a + 6), .int 0, .int 0, .int 0, .int 0, .int 0, .int 0, .int 0, .int 0, .int 0, .ref (a + 7), .ref (a + 8), .ref (a + 9), .ref (a + 10), .ref (a + 11), .ref (a + 12), .null, .null, .null, .null, .null, .null, .null, .int 0, .int 0, .null, .int 0, .int 0, .int 0, .null, .null, .int 0, .null, .null, .null, .null, .null, .null, .null, .null, .int 0]) :: [.inl (0, 8, .inl lane0), .inl (0, 8, .inl (fun _ => 0)), .inl (0, 320, .inl (fun _ => 0)), .inl (0, 204, .inl (fun _ => 0)), .inl (0, 204, .inl (fun _ => 0)), .inl (0, 600, .inl (fun _ => 0)), .inl (0, 300, .inl (fun _ => 0)), .inl (0, 300, .inl (fun _ => 0)), .inl (0, 300, .inl (fun _ => 0)), .inl (0, 300, .inl (fun _ => 0)), .inl (0, 300, .inl (fun _ => 0)), .inl (0, 300, .inl (fun _ => 0))]), a + 13, s + 3144) none _
  refine g_p dX12_init_144 rfl rfl ?_
  refine g_k (300) dX12_init_145 rfl rfl rfl ?_
  refine g_na (t := 0) (N := 300) dX12_init_148 (by decide) rfl ac0 (by decide) rfl (by decide) rfl ?_
  refine g_put dX12_init_150 (fp_i (q := (RX12, TX12, 49)) rfl fkX12_46 (Or.inr ⟨rfl, rfl, rfl⟩)) (by omega) (Nat.le_of_ble_eq_true rfl) rfl rfl ?_
  refine g_p dX12_init_153 rfl rfl ?_
  refine g_k (4) dX12_init_154 rfl rfl rfl ?_
  refine g_na (t := 0) (N := 4) dX12_init_155 (by decide) rfl ac0 (by decide) rfl (by decide) rfl ?_
  refine g_put dX12_init_157 (fp_i (q := (RX12, TX12, 49)) rfl fkX12_49 (Or.inr ⟨rfl, rfl, rfl⟩)) (by omega) (Nat.le_of_ble_eq_true rfl) rfl rfl ?_
  refine g_p dX12_init_160 rfl rfl ?_
  refine g_k (5) dX12_init_161 rfl rfl rfl ?_
  refine g_na (t := 0) (N := 5) dX12_init_162 (by decide) rfl ac0 (by decide) rfl (by decide) rfl ?_
  refine g_put dX12_init_164 (fp_i (q := (RX12, TX12, 49)) rfl fkX12_52 (Or.inr ⟨rfl, rfl, rfl⟩)) (by omega) (Nat.le_of_ble_eq_true rfl) rfl rfl ?_
  show gR X 0 mX12_init _ [some (.ref a)] [] (pu h a (.inr (12, [.int 0, .int 0, .ref (a + 1), .ref (a + 2), .ref (a + 3), .ref (a + 4), .ref (a + 5), .int 0, .ref (a + 6), .int 0, .int 0, .int 0, .int 0, .int 0, .int 0, .int 0, .int 0, .int 0, .ref (a + 7), .ref (a + 8), .ref (a + 9), .ref (a + 10), .ref (a + 11), .ref (a + 12), .ref (a + 13), .ref (a + 14), .ref (a + 15), .null, .null, .null, .null, .int 0, .int 0, .null, .int 0, .int 0, .int 0, .null, .null, .int 0, .null, .null, .null, .null, .null, .null, .null, .null, .int 0]) :: [.inl (0, 8, .inl lane0), .inl (0, 8, .inl (fun _ => 0)), .inl (0, 320, .inl (fun _ => 0)), .inl (0, 204, .inl (fun _ => 0)), .inl (0, 204, .inl (fun _ => 0)), .inl (0, 600, .inl (fun _ => 0)), .inl (0, 300, .inl (fun _ => 0)), .inl (0, 300, .inl (fun _ => 0)), .inl (0, 300, .inl (fun _ => 0)), .inl (0, 300, .inl (fun _ => 0)), .inl (0, 300, .inl (fun _ => 0)), .inl (0, 300, .inl (fun _ => 0)), .inl (0, 300, .inl (fun _ => 0)), .inl (0, 4, .inl (fun _ => 0)), .inl (0, 5, .inl (fun _ => 0))]), a + 16, s + 3453) none _
  refine g_p dX12_init_167 rfl rfl ?_
  refine g_k (5) dX12_init_168 rfl rfl rfl ?_
  refine g_na (t := 0) (N := 5) dX12_init_169 (by decide) rfl ac0 (by decide) rfl (by decide) rfl ?_
  refine g_put dX12_init_171 (fp_i (q := (RX12, TX12, 49)) rfl fkX12_55 (Or.inr ⟨rfl, rfl, rfl⟩)) (by omega) (Nat.le_of_ble_eq_true rfl) rfl rfl ?_
  refine g_p dX12_init_174 rfl rfl ?_
  refine g_k (12) dX12_init_175 rfl rfl rfl ?_
  refine g_na (t := 0) (N := 12) dX12_init_177 (by decide) rfl ac0 (by decide) rfl (by decide) rfl ?_
  refine g_put dX12_init_179 (fp_i (q := (RX12, TX12, 49)) rfl fkX12_58 (Or.inr ⟨rfl, rfl, rfl⟩)) (by omega) (Nat.le_of_ble_eq_true rfl) rfl rfl ?_
  refine g_p dX12_init_182 rfl rfl ?_
  refine g_k (4) dX12_init_183 rfl rfl rfl ?_
  refine g_na (t := 0) (N := 4) dX12_init_184 (by decide) rfl ac0 (by decide) rfl (by decide) rfl ?_
  refine g_put dX12_init_186 (fp_i (q := (RX12, TX12, 49)) rfl fkX12_61 (Or.inr ⟨rfl, rfl, rfl⟩)) (by omega) (Nat.le_of_ble_eq_true rfl) rfl rfl ?_
  show gR X 0 mX12_init _ [some (.ref a)] [] (pu h a (.inr (12, [.int 0, .int 0, .ref (a + 1), .ref (a + 2), .ref (a + 3), .ref (a + 4), .ref (a + 5), .int 0, .ref (a + 6), .int 0, .int 0, .int 0, .int 0, .int 0, .int 0, .int 0, .int 0, .int 0, .ref (a + 7), .ref (a + 8), .ref (a + 9), .ref (a + 10), .ref (a + 11), .ref (a + 12), .ref (a + 13), .ref (a + 14), .ref (a + 15), .ref (a + 16), .ref (a + 17), .ref (a + 18), .null, .int 0, .int 0, .null, .int 0, .int 0, .int 0, .null, .null, .int 0, .null, .null, .null, .null, .null, .null, .null, .null, .int 0]) :: [.inl (0, 8, .inl lane0), .inl (0, 8, .inl (fun _ => 0)), .inl (0, 320, .inl (fun _ => 0)), .inl (0, 204, .inl (fun _ => 0)), .inl (0, 204, .inl (fun _ => 0)), .inl (0, 600, .inl (fun _ => 0)), .inl (0, 300, .inl (fun _ => 0)), .inl (0, 300, .inl (fun _ => 0)), .inl (0, 300, .inl (fun _ => 0)), .inl (0, 300, .inl (fun _ => 0)), .inl (0, 300, .inl (fun _ => 0)), .inl (0, 300, .inl (fun _ => 0)), .inl (0, 300, .inl (fun _ => 0)), .inl (0, 4, .inl (fun _ => 0)), .inl (0, 5, .inl (fun _ => 0)), .inl (0, 5, .inl (fun _ => 0)), .inl (0, 12, .inl (fun _ => 0)), .inl (0, 4, .inl (fun _ => 0))]), a + 19, s + 3474) none _
  refine g_p dX12_init_189 rfl rfl ?_
  refine g_k (12) dX12_init_190 rfl rfl rfl ?_
  refine g_na (t := 0) (N := 12) dX12_init_192 (by decide) rfl ac0 (by decide) rfl (by decide) rfl ?_
  refine g_put dX12_init_194 (fp_i (q := (RX12, TX12, 49)) rfl fkX12_64 (Or.inr ⟨rfl, rfl, rfl⟩)) (by omega) (Nat.le_of_ble_eq_true rfl) rfl rfl ?_
  refine g_p dX12_init_197 rfl rfl ?_
  refine g_k (12) dX12_init_198 rfl rfl rfl ?_
  refine g_na (t := 0) (N := 12) dX12_init_200 (by decide) rfl ac0 (by decide) rfl (by decide) rfl ?_
  refine g_put dX12_init_202 (fp_i (q := (RX12, TX12, 49)) rfl fkX12_67 (Or.inr ⟨rfl, rfl, rfl⟩)) (by omega) (Nat.le_of_ble_eq_true rfl) rfl rfl ?_
  refine g_p dX12_init_205 rfl rfl ?_
  refine g_k (4) dX12_init_206 rfl rfl rfl ?_
  refine g_na (t := 0) (N := 4) dX12_init_207 (by decide) rfl ac0 (by decide) rfl (by decide) rfl ?_
  refine g_put dX12_init_209 (fp_i (q := (RX12, TX12, 49)) rfl fkX12_70 (Or.inr ⟨rfl, rfl, rfl⟩)) (by omega) (Nat.le_of_ble_eq_true rfl) rfl rfl ?_
  show gR X 0 mX12_init _ [some (.ref a)] [] (pu h a (.inr (12, [.int 0, .int 0, .ref (a + 1), .ref (a + 2), .ref (a + 3), .ref (a + 4), .ref (a + 5), .int 0, .ref (a + 6), .int 0, .int 0, .int 0, .int 0, .int 0, .int 0, .int 0, .int 0, .int 0, .ref (a + 7), .ref (a + 8), .ref (a + 9), .ref (a + 10), .ref (a + 11), .ref (a + 12), .ref (a + 13), .ref (a + 14), .ref (a + 15), .ref (a + 16), .ref (a + 17), .ref (a + 18), .ref (a + 19), .int 0, .int 0, .ref (a + 20), .int 0, .int 0, .int 0, .ref (a + 21), .null, .int 0, .null, .null, .null, .null, .null, .null, .null, .null, .int 0]) :: [.inl (0, 8, .inl lane0), .inl (0, 8, .inl (fun _ => 0)), .inl (0, 320, .inl (fun _ => 0)), .inl (0, 204, .inl (fun _ => 0)), .inl (0, 204, .inl (fun _ => 0)), .inl (0, 600, .inl (fun _ => 0)), .inl (0, 300, .inl (fun _ => 0)), .inl (0, 300, .inl (fun _ => 0)), .inl (0, 300, .inl (fun _ => 0)), .inl (0, 300, .inl (fun _ => 0)), .inl (0, 300, .inl (fun _ => 0)), .inl (0, 300, .inl (fun _ => 0)), .inl (0, 300, .inl (fun _ => 0)), .inl (0, 4, .inl (fun _ => 0)), .inl (0, 5, .inl (fun _ => 0)), .inl (0, 5, .inl (fun _ => 0)), .inl (0, 12, .inl (fun _ => 0)), .inl (0, 4, .inl (fun _ => 0)), .inl (0, 12, .inl (fun _ => 0)), .inl (0, 12, .inl (fun _ => 0)), .inl (0, 4, .inl (fun _ => 0))]), a + 22, s + 3502) none _
  refine g_p dX12_init_212 rfl rfl ?_
  refine g_k (12) dX12_init_213 rfl rfl rfl ?_
  refine g_na (t := 0) (N := 12) dX12_init_215 (by decide) rfl ac0 (by decide) rfl (by decide) rfl ?_
  refine g_put dX12_init_217 (fp_i (q := (RX12, TX12, 49)) rfl fkX12_73 (Or.inr ⟨rfl, rfl, rfl⟩)) (by omega) (Nat.le_of_ble_eq_true rfl) rfl rfl ?_
  refine g_p dX12_init_220 rfl rfl ?_
  refine g_k (12) dX12_init_221 rfl rfl rfl ?_
  refine g_na (t := 0) (N := 12) dX12_init_223 (by decide) rfl ac0 (by decide) rfl (by decide) rfl ?_
  refine g_put dX12_init_225 (fp_i (q := (RX12, TX12, 49)) rfl fkX12_76 (Or.inr ⟨rfl, rfl, rfl⟩)) (by omega) (Nat.le_of_ble_eq_true rfl) rfl rfl ?_
  refine g_p dX12_init_228 rfl rfl ?_
  refine g_k (12) dX12_init_229 rfl rfl rfl ?_
  refine g_na (t := 0) (N := 12) dX12_init_231 (by decide) rfl ac0 (by decide) rfl (by decide) rfl ?_
  refine g_put dX12_init_233 (fp_i (q := (RX12, TX12, 49)) rfl fkX12_79 (Or.inr ⟨rfl, rfl, rfl⟩)) (by omega) (Nat.le_of_ble_eq_true rfl) rfl rfl ?_
  show gR X 0 mX12_init _ [some (.ref a)] [] (pu h a (.inr (12, [.int 0, .int 0, .ref (a + 1), .ref (a + 2), .ref (a + 3), .ref (a + 4), .ref (a + 5), .int 0, .ref (a + 6), .int 0, .int 0, .int 0, .int 0, .int 0, .int 0, .int 0, .int 0, .int 0, .ref (a + 7), .ref (a + 8), .ref (a + 9), .ref (a + 10), .ref (a + 11), .ref (a + 12), .ref (a + 13), .ref (a + 14), .ref (a + 15), .ref (a + 16), .ref (a + 17), .ref (a + 18), .ref (a + 19), .int 0, .int 0, .ref (a + 20), .int 0, .int 0, .int 0, .ref (a + 21), .ref (a + 22), .int 0, .ref (a + 23), .ref (a + 24), .null, .null, .null, .null, .null, .null, .int 0]) :: [.inl (0, 8, .inl lane0), .inl (0, 8, .inl (fun _ => 0)), .inl (0, 320, .inl (fun _ => 0)), .inl (0, 204, .inl (fun _ => 0)), .inl (0, 204, .inl (fun _ => 0)), .inl (0, 600, .inl (fun _ => 0)), .inl (0, 300, .inl (fun _ => 0)), .inl (0, 300, .inl (fun _ => 0)), .inl (0, 300, .inl (fun _ => 0)), .inl (0, 300, .inl (fun _ => 0)), .inl (0, 300, .inl (fun _ => 0)), .inl (0, 300, .inl (fun _ => 0)), .inl (0, 300, .inl (fun _ => 0)), .inl (0, 4, .inl (fun _ => 0)), .inl (0, 5, .inl (fun _ => 0)), .inl (0, 5, .inl (fun _ => 0)), .inl (0, 12, .inl (fun _ => 0)), .inl (0, 4, .inl (fun _ => 0)), .inl (0, 12, .inl (fun _ => 0)), .inl (0, 12, .inl (fun _ => 0)), .inl (0, 4, .inl (fun _ => 0)), .inl (0, 12, .inl (fun _ => 0)), .inl (0, 12, .inl (fun _ => 0)), .inl (0, 12, .inl (fun _ => 0))]), a + 25, s + 3538) none _
  refine g_p dX12_init_236 rfl rfl ?_
  refine g_k (12) dX12_init_237 rfl rfl rfl ?_
  refine g_na (t := 0) (N := 12) dX12_init_239 (by decide) rfl ac0 (by decide) rfl (by decide) rfl ?_
  refine g_put dX12_init_241 (fp_i (q := (RX12, TX12, 49)) rfl fkX12_82 (Or.inr ⟨rfl, rfl, rfl⟩)) (by omega) (Nat.le_of_ble_eq_true rfl) rfl rfl ?_
  refine g_p dX12_init_244 rfl rfl ?_
  refine g_k (61) dX12_init_245 rfl rfl rfl ?_
  refine g_na (t := 0) (N := 61) dX12_init_247 (by decide) rfl ac0 (by decide) rfl (by decide) rfl ?_
  refine g_put dX12_init_249 (fp_i (q := (RX12, TX12, 49)) rfl fkX12_85 (Or.inr ⟨rfl, rfl, rfl⟩)) (by omega) (Nat.le_of_ble_eq_true rfl) rfl rfl ?_
  refine g_p dX12_init_252 rfl rfl ?_
  refine g_k (61) dX12_init_253 rfl rfl rfl ?_
  refine g_na (t := 0) (N := 61) dX12_init_255 (by decide) rfl ac0 (by decide) rfl (by decide) rfl ?_
  refine g_put dX12_init_257 (fp_i (q := (RX12, TX12, 49)) rfl fkX12_88 (Or.inr ⟨rfl, rfl, rfl⟩)) (by omega) (Nat.le_of_ble_eq_true rfl) rfl rfl ?_
  show gR X 0 mX12_init _ [some (.ref a)] [] (pu h a (.inr (12, [.int 0, .int 0, .ref (a + 1), .ref (a + 2), .ref (a + 3), .ref (a + 4), .ref (a + 5), .int 0, .ref (a + 6), .int 0, .int 0, .int 0, .int 0, .int 0, .int 0, .int 0, .int 0, .int 0, .ref (a + 7), .ref (a + 8), .ref (a + 9), .ref (a + 10), .ref (a + 11), .ref (a + 12), .ref (a + 13), .ref (a + 14), .ref (a + 15), .ref (a + 16), .ref (a + 17), .ref (a + 18), .ref (a + 19), .int 0, .int 0, .ref (a + 20), .int 0, .int 0, .int 0, .ref (a + 21), .ref (a + 22), .int 0, .ref (a + 23), .ref (a + 24), .ref (a + 25), .ref (a + 26), .ref (a + 27), .null, .null, .null, .int 0]) :: [.inl (0, 8, .inl lane0), .inl (0, 8, .inl (fun _ => 0)), .inl (0, 320, .inl (fun _ => 0)), .inl (0, 204, .inl (fun _ => 0)), .inl (0, 204, .inl (fun _ => 0)), .inl (0, 600, .inl (fun _ => 0)), .inl (0, 300, .inl (fun _ => 0)), .inl (0, 300, .inl (fun _ => 0)), .inl (0, 300, .inl (fun _ => 0)), .inl (0, 300, .inl (fun _ => 0)), .inl (0, 300, .inl (fun _ => 0)), .inl (0, 300, .inl (fun _ => 0)), .inl (0, 300, .inl (fun _ => 0)), .inl (0, 4, .inl (fun _ => 0)), .inl (0, 5, .inl (fun _ => 0)), .inl (0, 5, .inl (fun _ => 0)), .inl (0, 12, .inl (fun _ => 0)), .inl (0, 4, .inl (fun _ => 0)), .inl (0, 12, .inl (fun _ => 0)), .inl (0, 12, .inl (fun _ => 0)), .inl (0, 4, .inl (fun _ => 0)), .inl (0, 12, .inl (fun _ => 0)), .inl (0, 12, .inl (fun _ => 0)), .inl (0, 12, .inl (fun _ => 0)), .inl (0, 12, .inl (fun _ => 0)), .inl (0, 61, .inl (fun _ => 0)), .inl (0, 61, .inl (fun _ => 0))]), a + 28, s + 3672) none _
  refine g_p dX12_init_260 rfl rfl ?_
  refine g_k (2) dX12_init_261 rfl rfl rfl ?_
  refine g_na (t := 2) (N := 2) dX12_init_262 (by decide) rfl ac2 (by decide) rfl (by decide) rfl ?_
  refine g_put dX12_init_264 (fp_i (q := (RX12, TX12, 49)) rfl fkX12_91 (Or.inr ⟨rfl, rfl, rfl⟩)) (by omega) (Nat.le_of_ble_eq_true rfl) rfl rfl ?_
  refine g_p dX12_init_267 rfl rfl ?_
  refine g_k (408) dX12_init_268 rfl rfl rfl ?_
  refine g_na (t := 0) (N := 408) dX12_init_271 (by decide) rfl ac0 (by decide) rfl (by decide) rfl ?_
  refine g_put dX12_init_273 (fp_i (q := (RX12, TX12, 49)) rfl fkX12_95 (Or.inr ⟨rfl, rfl, rfl⟩)) (by omega) (Nat.le_of_ble_eq_true rfl) rfl rfl ?_
  refine g_p dX12_init_276 rfl rfl ?_
  refine g_k (16) dX12_init_277 rfl rfl rfl ?_
  refine g_na (t := 0) (N := 16) dX12_init_279 (by decide) rfl ac0 (by decide) rfl (by decide) rfl ?_
  refine g_put dX12_init_281 (fp_i (q := (RX12, TX12, 49)) rfl fkX12_98 (Or.inr ⟨rfl, rfl, rfl⟩)) (by omega) (Nat.le_of_ble_eq_true rfl) rfl rfl ?_
  show gR X 0 mX12_init _ [some (.ref a)] [] (pu h a (.inr (12, [.int 0, .int 0, .ref (a + 1), .ref (a + 2), .ref (a + 3), .ref (a + 4), .ref (a + 5), .int 0, .ref (a + 6), .int 0, .int 0, .int 0, .int 0, .int 0, .int 0, .int 0, .int 0, .int 0, .ref (a + 7), .ref (a + 8), .ref (a + 9), .ref (a + 10), .ref (a + 11), .ref (a + 12), .ref (a + 13), .ref (a + 14), .ref (a + 15), .ref (a + 16), .ref (a + 17), .ref (a + 18), .ref (a + 19), .int 0, .int 0, .ref (a + 20), .int 0, .int 0, .int 0, .ref (a + 21), .ref (a + 22), .int 0, .ref (a + 23), .ref (a + 24), .ref (a + 25), .ref (a + 26), .ref (a + 27), .ref (a + 28), .ref (a + 29), .ref (a + 30), .int 0]) :: [.inl (0, 8, .inl lane0), .inl (0, 8, .inl (fun _ => 0)), .inl (0, 320, .inl (fun _ => 0)), .inl (0, 204, .inl (fun _ => 0)), .inl (0, 204, .inl (fun _ => 0)), .inl (0, 600, .inl (fun _ => 0)), .inl (0, 300, .inl (fun _ => 0)), .inl (0, 300, .inl (fun _ => 0)), .inl (0, 300, .inl (fun _ => 0)), .inl (0, 300, .inl (fun _ => 0)), .inl (0, 300, .inl (fun _ => 0)), .inl (0, 300, .inl (fun _ => 0)), .inl (0, 300, .inl (fun _ => 0)), .inl (0, 4, .inl (fun _ => 0)), .inl (0, 5, .inl (fun _ => 0)), .inl (0, 5, .inl (fun _ => 0)), .inl (0, 12, .inl (fun _ => 0)), .inl (0, 4, .inl (fun _ => 0)), .inl (0, 12, .inl (fun _ => 0)), .inl (0, 12, .inl (fun _ => 0)), .inl (0, 4, .inl (fun _ => 0)), .inl (0, 12, .inl (fun _ => 0)), .inl (0, 12, .inl (fun _ => 0)), .inl (0, 12, .inl (fun _ => 0)), .inl (0, 12, .inl (fun _ => 0)), .inl (0, 61, .inl (fun _ => 0)), .inl (0, 61, .inl (fun _ => 0)), .inl (2, 2, .inl (fun _ => 0)), .inl (0, 408, .inl (fun _ => 0)), .inl (0, 16, .inl (fun _ => 0))]), a + 31, s + 4098) none _
  exact g_rv dX12_init_284 rfl rfl (by show _ = a + 31; omega) (by omega)
def bX8 (a : Nat) : List mx_C := [.inr (8, [.ref (a + 1), .ref (a + 2), .ref (a + 3)]), .inl (0, 8, .inl lane0), .inl (0, 8, .inl (fun _ => 0)), .inl (6, 8, .inr (.inr (.inr (.inr (fun j => if j < 8 then some (a + 3 + 1 + j) else none))))), .inl (0, 40, .inl (fun _ => 0)), .inl (0, 40, .inl (fun _ => 0)), .inl (0, 40, .inl (fun _ => 0)), .inl (0, 40, .inl (fun _ => 0)), .inl (0, 40, .inl (fun _ => 0)), .inl (0, 40, .inl (fun _ => 0)), .inl (0, 40, .inl (fun _ => 0)), .inl (0, 40, .inl (fun _ => 0))]
theorem k_X8 {X : Nat × (Nat → Int32)} (a : Nat) (hB0 : a < 1000) : iC X 2 mX8_init a 8 3 (bX8 a) 344 := iC_of fun h s => by
  have hB : a < mx_B := Nat.lt_trans hB0 (by decide)
  have hB1 : a + 1 < mx_B := Nat.lt_trans (show a + 1 < 1001 by omega) (by decide)
  refine g_p dX8_init_0 rfl rfl ?_
  refine g_ob dX8_init_1 obX8_1 ob_w2 ob_w3 (Nat.le_of_ble_eq_true rfl) ?_
  refine g_p dX8_init_4 rfl rfl ?_
  refine g_k (8) dX8_init_5 rfl rfl rfl ?_
  refine g_na (t := 0) (N := 8) dX8_init_7 (by decide) rfl ac0 (by decide) rfl (by decide) rfl ?_
  refine g_put dX8_init_9 (fp_i (q := (RX8, TX8, 3)) rfl fkX8_9 (Or.inr ⟨rfl, rfl, rfl⟩)) (by omega) (Nat.le_of_ble_eq_true rfl) rfl rfl ?_
  refine g_p dX8_init_12 rfl rfl ?_
  refine g_k (8) dX8_init_13 rfl rfl rfl ?_
  refine g_na (t := 0) (N := 8) dX8_init_15 (by decide) rfl ac0 (by decide) rfl (by decide) rfl ?_
  refine g_put dX8_init_17 (fp_i (q := (RX8, TX8, 3)) rfl fkX8_13 (Or.inr ⟨rfl, rfl, rfl⟩)) (by omega) (Nat.le_of_ble_eq_true rfl) rfl rfl ?_
  refine g_p dX8_init_20 rfl rfl ?_
  refine g_k (8) dX8_init_21 rfl rfl rfl ?_
  refine g_k (40) dX8_init_23 rfl rfl rfl ?_
  refine g_mn (t := 6) (N := 8) (K := 40) dX8_init_25 (by decide) cwX8_16 ac0 (by decide) (by decide) rfl rfl (by decide) (by decide) rfl ?_
  refine g_put dX8_init_29 (fp_i (q := (RX8, TX8, 3)) rfl fkX8_18 (Or.inr ⟨rfl, rfl, rfl⟩)) (by omega) (Nat.le_of_ble_eq_true rfl) rfl rfl ?_
  refine g_p dX8_init_32 rfl rfl ?_
  refine g_get dX8_init_33 fkX8_9 (by show a < a + 1 + 1 + 1 + 1 + 8; omega) hB (pu_at (j := 0) rfl) rfl ?_
  refine g_k (-1) dX8_init_36 rfl rfl rfl ?_
  refine g_cs (d1 := 1) (as := [.ref (a + 1), .int (-1)]) dX8_init_37 csX8_21 rfl rfl (Nat.le_of_ble_eq_true rfl) (Nat.le_of_ble_eq_true rfl) (Nat.le_of_ble_eq_true rfl) (k_fill rfl (by omega) hB1) ?_
  exact g_rv dX8_init_40 rfl rfl (by show _ = a + 12; omega) (by omega)
