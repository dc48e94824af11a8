/-! ===== what the other constructors make; the law's first steps ===== -/
def wa (t m base st i : Nat) : mx_C := .inl (t, m, .inr (.inr (.inr (.inr (fun j => if j < i then some (base + st * j) else none)))))
def wb (bk : Nat → List mx_C) (base st i : Nat) : List mx_C := (List.range i).flatMap fun j => bk (base + st * j)
theorem wb_s (bk : Nat → List mx_C) (base st i : Nat) : wb bk base st (i + 1) = wb bk base st i ++ bk (base + st * i) := by
  unfold wb
  rw [List.range_succ, List.flatMap_append]
  simp
theorem wb_len {bk : Nat → List mx_C} {base st : Nat} (hb : ∀ b, (bk b).length = st) (i : Nat) : (wb bk base st i).length = st * i := by
  induction i with
  | zero => rfl
  | succ i ih => rw [wb_s, List.length_append, ih, hb, Nat.mul_succ]
theorem wa_s (t m base st i : Nat) : (.inl (t, m, .inr (.inr (.inr (.inr (va_up (fun j => if j < i then some (base + st * j) else none) i (some (base + st * i))))))) : mx_C) = wa t m base st (i + 1) := by
  unfold wa
  congr 7
  funext j
  unfold va_up
  by_cases e : j = i
  · rw [if_pos e, if_pos (by omega), e]
  · rw [if_neg e]
    dsimp only
    by_cases q : j < i
    · rw [if_pos q, if_pos (by omega)]
    · rw [if_neg q, if_neg (by omega)]
theorem set_same {l : List mx_C} {j : Nat} {c : mx_C} (hj : l[j]? = some c) : l.set j c = l := by
  refine List.ext_getElem? fun i => ?_
  by_cases e : j = i
  · subst e
    rw [hj, List.getElem?_set_self (List.getElem?_eq_some_iff.mp hj).1]
  · rw [List.getElem?_set_ne e]
theorem wa_0 (t m base st : Nat) : wa t m base st 0 = .inl (t, m, .inr (.inr (.inr (.inr (fun _ => none))))) := by
  unfold wa
  congr 7

theorem set_none {t m base st : Nat} {x : Option mx_C} (hx : x = some (.inl (t, m, .inr (.inr (.inr (.inr (fun _ => none))))))) : x = some (wa t m base st 0) := by rw [wa_0]; exact hx
theorem k_l5w {X : Nat × (Nat → Int32)} {h : Nat → mx_C} {s : Nat} {l : List mx_C} {fs : List Value} {H2 : mx_Hp} (h0 : l[0]? = some (.inr (5, fs))) (hf : fs[0]? = some (.ref (80 + 1))) (hj : l[1]? = some (wa 4 96 123 4 0)) (hlen : 80 + l.length = 123) (kont : gR X 1 mX5_init 156 [some (.ref 80), some (.int (nI 96))] [] (pu h 80 (l.set 1 (wa 4 96 123 4 96) ++ wb bX10 123 4 96), 123 + 4 * 96, s + 18 * 96) none H2) : gR X 1 mX5_init 128 [some (.ref 80), some (.int (nI 0))] [] (pu h 80 l, 123, s) none H2 := by
  have hjl : 1 < l.length := by
    rcases Nat.lt_or_ge 1 l.length with q | q
    · exact q
    · rw [List.getElem?_eq_none q] at hj; cases hj
  have g0 : ∀ i, (l.set 1 (wa 4 96 123 4 i) ++ wb bX10 123 4 i)[0]? = some (.inr (5, fs)) := fun i => by
    rw [List.getElem?_append_left (by rw [List.length_set]; omega), List.getElem?_set_ne (by decide)]; exact h0
  have gj : ∀ i, (l.set 1 (wa 4 96 123 4 i) ++ wb bX10 123 4 i)[1]? = some (wa 4 96 123 4 i) := fun i => by
    rw [List.getElem?_append_left (by rw [List.length_set]; omega), List.getElem?_set_self hjl]
  have gl : ∀ i, 80 + (l.set 1 (wa 4 96 123 4 i) ++ wb bX10 123 4 i).length = 123 + 4 * i := fun i => by
    rw [List.length_append, List.length_set, wb_len (bk := bX10) (st := 4) (fun _ => rfl)]; omega
  have key : ∀ i, i ≤ 96 → gR X 1 mX5_init 128 [some (.ref 80), some (.int (nI i))] [] (pu h 80 (l.set 1 (wa 4 96 123 4 i) ++ wb bX10 123 4 i), 123 + 4 * i, s + 18 * i) none H2 := by
    refine lp_up 96 ?_ (fun i hi ih => ?_)
    · refine g_p dX5_init_128 rfl rfl ?_
      refine g_p dX5_init_129 rfl rfl ?_
      refine g_get (b := 80) dX5_init_130 fkX5_11 (show 80 < 123 + _ by omega) (by decide) (pu_at (a := 80) (j := 0) (g0 96)) hf ?_
      refine g_al (a := 80) (j := 1) dX5_init_133 (gj 96) (by omega) (by decide) (by decide) rfl ?_
      refine g_cge dX5_init_134 rfl (fun _ => ?_) (fun c => absurd (nI_le (Nat.le_refl 96) (by decide)) c)
      exact kont
    · refine g_p dX5_init_128 rfl rfl ?_
      refine g_p dX5_init_129 rfl rfl ?_
      refine g_get (b := 80) dX5_init_130 fkX5_11 (show 80 < 123 + _ by omega) (by decide) (pu_at (a := 80) (j := 0) (g0 i)) hf ?_
      refine g_al (a := 80) (j := 1) dX5_init_133 (gj i) (by omega) (by decide) (by decide) rfl ?_
      refine g_cge dX5_init_134 rfl (fun c => absurd c (nI_ge hi (by omega))) (fun _ => ?_)
      refine g_p dX5_init_137 rfl rfl ?_
      refine g_get (b := 80) dX5_init_138 fkX5_11 (show 80 < 123 + _ by omega) (by decide) (pu_at (a := 80) (j := 0) (g0 i)) hf ?_
      refine g_p dX5_init_141 rfl rfl ?_
      refine g_mkst (d1 := 1) (a := 80) (j := 1) (q := (RX10, TX10, 7)) dX5_init_142 dX5_init_145 dX5_init_146 dX5_init_149 nwX5_9 iwX5_73 (gl i) (Nat.le_of_ble_eq_true rfl) (Nat.le_of_ble_eq_true rfl) (k_X10 _) rfl (by decide) rfl (gj i) rfl (vp_in_nI hi (by omega)) ?_
      rw [nI_clamp (by omega), wa_s, List.set_append_left _ _ (by rw [List.length_set]; omega), List.set_set, List.append_assoc, ← wb_s]
      refine g_inc (L2 := [some (.ref 80), some (.int (nI (i + 1)))]) (y := 1) dX5_init_150 rfl rfl (by rw [← nI_1]; rfl) ?_
      refine g_go dX5_init_153 rfl ?_
      have e : 123 + 4 * i + (bX10 (123 + 4 * i)).length = 123 + 4 * (i + 1) := by rw [show (bX10 (123 + 4 * i)).length = 4 from rfl]; omega
      rw [e, show s + 18 * i + 7 + 11 = s + 18 * (i + 1) by omega]
      exact ih
  have z := key 0 (Nat.zero_le _)
  rw [show l.set 1 (wa 4 96 123 4 0) ++ wb bX10 123 4 0 = l from by
    rw [show wb bX10 123 4 0 = [] from rfl, List.append_nil]
    exact set_same hj] at z
  exact z
theorem k_l5t {X : Nat × (Nat → Int32)} {h : Nat → mx_C} {s : Nat} {l : List mx_C} {fs : List Value} {H2 : mx_Hp} (h0 : l[0]? = some (.inr (5, fs))) (hf : fs[4]? = some (.ref (80 + 13))) (hj : l[13]? = some (wa 5 4 507 5 0)) (hlen : 80 + l.length = 507) (kont : gR X 1 mX5_init 186 [some (.ref 80), some (.int (nI 4))] [] (pu h 80 (l.set 13 (wa 5 4 507 5 4) ++ wb bX9 507 5 4), 507 + 5 * 4, s + 24 * 4) none H2) : gR X 1 mX5_init 158 [some (.ref 80), some (.int (nI 0))] [] (pu h 80 l, 507, s) none H2 := by
  have hjl : 13 < l.length := by
    rcases Nat.lt_or_ge 13 l.length with q | q
    · exact q
    · rw [List.getElem?_eq_none q] at hj; cases hj
  have g0 : ∀ i, (l.set 13 (wa 5 4 507 5 i) ++ wb bX9 507 5 i)[0]? = some (.inr (5, fs)) := fun i => by
    rw [List.getElem?_append_left (by rw [List.length_set]; omega), List.getElem?_set_ne (by decide)]; exact h0
  have gj : ∀ i, (l.set 13 (wa 5 4 507 5 i) ++ wb bX9 507 5 i)[13]? = some (wa 5 4 507 5 i) := fun i => by
    rw [List.getElem?_append_left (by rw [List.length_set]; omega), List.getElem?_set_self hjl]
  have gl : ∀ i, 80 + (l.set 13 (wa 5 4 507 5 i) ++ wb bX9 507 5 i).length = 507 + 5 * i := fun i => by
    rw [List.length_append, List.length_set, wb_len (bk := bX9) (st := 5) (fun _ => rfl)]; omega
  have key : ∀ i, i ≤ 4 → gR X 1 mX5_init 158 [some (.ref 80), some (.int (nI i))] [] (pu h 80 (l.set 13 (wa 5 4 507 5 i) ++ wb bX9 507 5 i), 507 + 5 * i, s + 24 * i) none H2 := by
    refine lp_up 4 ?_ (fun i hi ih => ?_)
    · refine g_p dX5_init_158 rfl rfl ?_
      refine g_p dX5_init_159 rfl rfl ?_
      refine g_get (b := 80) dX5_init_160 fkX5_31 (show 80 < 507 + _ by omega) (by decide) (pu_at (a := 80) (j := 0) (g0 4)) hf ?_
      refine g_al (a := 80) (j := 13) dX5_init_163 (gj 4) (by omega) (by decide) (by decide) rfl ?_
      refine g_cge dX5_init_164 rfl (fun _ => ?_) (fun c => absurd (nI_le (Nat.le_refl 4) (by decide)) c)
      exact kont
    · refine g_p dX5_init_158 rfl rfl ?_
      refine g_p dX5_init_159 rfl rfl ?_
      refine g_get (b := 80) dX5_init_160 fkX5_31 (show 80 < 507 + _ by omega) (by decide) (pu_at (a := 80) (j := 0) (g0 i)) hf ?_
      refine g_al (a := 80) (j := 13) dX5_init_163 (gj i) (by omega) (by decide) (by decide) rfl ?_
      refine g_cge dX5_init_164 rfl (fun c => absurd c (nI_ge hi (by omega))) (fun _ => ?_)
      refine g_p dX5_init_167 rfl rfl ?_
      refine g_get (b := 80) dX5_init_168 fkX5_31 (show 80 < 507 + _ by omega) (by decide) (pu_at (a := 80) (j := 0) (g0 i)) hf ?_
      refine g_p dX5_init_171 rfl rfl ?_
      refine g_mkst (d1 := 1) (a := 80) (j := 13) (q := (RX9, TX9, 4)) dX5_init_172 dX5_init_175 dX5_init_176 dX5_init_179 nwX5_29 iwX5_74 (gl i) (Nat.le_of_ble_eq_true rfl) (Nat.le_of_ble_eq_true rfl) (k_X9 _) rfl (by decide) rfl (gj i) rfl (vp_in_nI hi (by omega)) ?_
      rw [nI_clamp (by omega), wa_s, List.set_append_left _ _ (by rw [List.length_set]; omega), List.set_set, List.append_assoc, ← wb_s]
      refine g_inc (L2 := [some (.ref 80), some (.int (nI (i + 1)))]) (y := 1) dX5_init_180 rfl rfl (by rw [← nI_1]; rfl) ?_
      refine g_go dX5_init_183 rfl ?_
      have e : 507 + 5 * i + (bX9 (507 + 5 * i)).length = 507 + 5 * (i + 1) := by rw [show (bX9 (507 + 5 * i)).length = 5 from rfl]; omega
      rw [e, show s + 24 * i + 4 + 20 = s + 24 * (i + 1) by omega]
      exact ih
  have z := key 0 (Nat.zero_le _)
  rw [show l.set 13 (wa 5 4 507 5 0) ++ wb bX9 507 5 0 = l from by
    rw [show wb bX9 507 5 0 = [] from rfl, List.append_nil]
    exact set_same hj] at z
  exact z
theorem k_l2w {X : Nat × (Nat → Int32)} {h : Nat → mx_C} {s : Nat} {l : List mx_C} {fs : List Value} {H2 : mx_Hp} (h0 : l[0]? = some (.inr (2, fs))) (hf : fs[1]? = some (.ref (527 + 5))) (hj : l[5]? = some (wa 4 4 539 4 0)) (hlen : 527 + l.length = 539) (kont : gR X 1 mX2_init 71 [some (.ref 527), some (.int (nI 4))] [] (pu h 527 (l.set 5 (wa 4 4 539 4 4) ++ wb bX10 539 4 4), 539 + 4 * 4, s + 18 * 4) none H2) : gR X 1 mX2_init 43 [some (.ref 527), some (.int (nI 0))] [] (pu h 527 l, 539, s) none H2 := by
  have hjl : 5 < l.length := by
    rcases Nat.lt_or_ge 5 l.length with q | q
    · exact q
    · rw [List.getElem?_eq_none q] at hj; cases hj
  have g0 : ∀ i, (l.set 5 (wa 4 4 539 4 i) ++ wb bX10 539 4 i)[0]? = some (.inr (2, fs)) := fun i => by
    rw [List.getElem?_append_left (by rw [List.length_set]; omega), List.getElem?_set_ne (by decide)]; exact h0
  have gj : ∀ i, (l.set 5 (wa 4 4 539 4 i) ++ wb bX10 539 4 i)[5]? = some (wa 4 4 539 4 i) := fun i => by
    rw [List.getElem?_append_left (by rw [List.length_set]; omega), List.getElem?_set_self hjl]
  have gl : ∀ i, 527 + (l.set 5 (wa 4 4 539 4 i) ++ wb bX10 539 4 i).length = 539 + 4 * i := fun i => by
    rw [List.length_append, List.length_set, wb_len (bk := bX10) (st := 4) (fun _ => rfl)]; omega
  have key : ∀ i, i ≤ 4 → gR X 1 mX2_init 43 [some (.ref 527), some (.int (nI i))] [] (pu h 527 (l.set 5 (wa 4 4 539 4 i) ++ wb bX10 539 4 i), 539 + 4 * i, s + 18 * i) none H2 := by
    refine lp_up 4 ?_ (fun i hi ih => ?_)
    · refine g_p dX2_init_43 rfl rfl ?_
      refine g_p dX2_init_44 rfl rfl ?_
      refine g_get (b := 527) dX2_init_45 fkX2_20 (show 527 < 539 + _ by omega) (by decide) (pu_at (a := 527) (j := 0) (g0 4)) hf ?_
      refine g_al (a := 527) (j := 5) dX2_init_48 (gj 4) (by omega) (by decide) (by decide) rfl ?_
      refine g_cge dX2_init_49 rfl (fun _ => ?_) (fun c => absurd (nI_le (Nat.le_refl 4) (by decide)) c)
      exact kont
    · refine g_p dX2_init_43 rfl rfl ?_
      refine g_p dX2_init_44 rfl rfl ?_
      refine g_get (b := 527) dX2_init_45 fkX2_20 (show 527 < 539 + _ by omega) (by decide) (pu_at (a := 527) (j := 0) (g0 i)) hf ?_
      refine g_al (a := 527) (j := 5) dX2_init_48 (gj i) (by omega) (by decide) (by decide) rfl ?_
      refine g_cge dX2_init_49 rfl (fun c => absurd c (nI_ge hi (by omega))) (fun _ => ?_)
      refine g_p dX2_init_52 rfl rfl ?_
      refine g_get (b := 527) dX2_init_53 fkX2_20 (show 527 < 539 + _ by omega) (by decide) (pu_at (a := 527) (j := 0) (g0 i)) hf ?_
      refine g_p dX2_init_56 rfl rfl ?_
      refine g_mkst (d1 := 1) (a := 527) (j := 5) (q := (RX10, TX10, 7)) dX2_init_57 dX2_init_60 dX2_init_61 dX2_init_64 nwX2_18 iwX2_35 (gl i) (Nat.le_of_ble_eq_true rfl) (Nat.le_of_ble_eq_true rfl) (k_X10 _) rfl (by decide) rfl (gj i) rfl (vp_in_nI hi (by omega)) ?_
      rw [nI_clamp (by omega), wa_s, List.set_append_left _ _ (by rw [List.length_set]; omega), List.set_set, List.append_assoc, ← wb_s]
      refine g_inc (L2 := [some (.ref 527), some (.int (nI (i + 1)))]) (y := 1) dX2_init_65 rfl rfl (by rw [← nI_1]; rfl) ?_
      refine g_go dX2_init_68 rfl ?_
      have e : 539 + 4 * i + (bX10 (539 + 4 * i)).length = 539 + 4 * (i + 1) := by rw [show (bX10 (539 + 4 * i)).length = 4 from rfl]; omega
      rw [e, show s + 18 * i + 7 + 11 = s + 18 * (i + 1) by omega]
      exact ih
  have z := key 0 (Nat.zero_le _)
  rw [show l.set 5 (wa 4 4 539 4 0) ++ wb bX10 539 4 0 = l from by
    rw [show wb bX10 539 4 0 = [] from rfl, List.append_nil]
    exact set_same hj] at z
  exact z
def bX5a : List mx_C := .inr (5, [.ref (81 : Nat), .ref (82 : Nat), .ref (83 : Nat), .ref (84 : Nat), .ref (93 : Nat), .ref (94 : Nat), .ref (95 : Nat), .ref (96 : Nat), .ref (97 : Nat), .ref (98 : Nat), .ref (99 : Nat), .ref (105 : Nat), .int 0, .int 0, .int 0, .ref (106 : Nat), .ref (121 : Nat), .int 0, .int 0, .int 0]) :: ([.inl (4, 96, .inr (.inr (.inr (.inr (fun _ => none)))))] ++ [.inl (0, 8, .inl (fun _ => 0))] ++ [.inl (0, 8, .inl (fun _ => 0))] ++ gc 84 7 8 5 ++ [.inl (5, 4, .inr (.inr (.inr (.inr (fun _ => none)))))] ++ [.inl (0, 4, .inl (fun _ => 0))] ++ [.inl (0, 4, .inl (fun _ => 0))] ++ [.inl (0, 4, .inl (fun _ => 0))] ++ [.inl (0, 5, .inl (fun _ => 0))] ++ [.inl (0, 768, .inl (fun _ => 0))] ++ gc 99 6 5 4 ++ [.inl (2, 256, .inl (fun _ => 0))] ++ bX1 106 ++ bX3 121)
def bX5 : List mx_C := ((bX5a.set 1 (wa 4 96 123 4 96) ++ wb bX10 123 4 96).set 13 (wa 5 4 507 5 4)) ++ wb bX9 507 5 4
theorem bX5_len : bX5.length = 447 := by
  unfold bX5
  rw [List.length_append, List.length_set, List.length_append, List.length_set, wb_len (bk := bX10) (st := 4) (fun _ => rfl), wb_len (bk := bX9) (st := 5) (fun _ => rfl)]
  rfl
theorem k_X5 {X : Nat × (Nat → Int32)} : iC X 2 mX5_init 80 5 20 bX5 3298 := iC_of fun h s => by
  refine g_p dX5_init_0 rfl rfl ?_
  refine g_ob dX5_init_1 obX5_3 ob_w2 ob_w3 (Nat.le_of_ble_eq_true rfl) ?_
  refine g_p dX5_init_4 rfl rfl ?_
  refine g_k (96) dX5_init_5 rfl rfl rfl ?_
  refine g_an (t := 4) (N := 96) (n := 81) dX5_init_7 (by decide) (by decide) rfl cwX5_9 (by decide) rfl (by decide) rfl ?_
  refine g_put dX5_init_10 (fp_i (q := (RX5, TX5, 20)) rfl fkX5_11 (Or.inr ⟨rfl, rfl, rfl⟩)) (by decide) (Nat.le_of_ble_eq_true rfl) rfl rfl ?_
  refine g_p dX5_init_13 rfl rfl ?_
  refine g_k (8) dX5_init_14 rfl rfl rfl ?_
  refine g_na (t := 0) (N := 8) (n := 82) dX5_init_16 (by decide) rfl ac0 (by decide) rfl (by decide) rfl ?_
  refine g_put dX5_init_18 (fp_i (q := (RX5, TX5, 20)) rfl fkX5_17 (Or.inr ⟨rfl, rfl, rfl⟩)) (by decide) (Nat.le_of_ble_eq_true rfl) rfl rfl ?_
  refine g_p dX5_init_21 rfl rfl ?_
  refine g_k (8) dX5_init_22 rfl rfl rfl ?_
  refine g_na (t := 0) (N := 8) (n := 83) dX5_init_24 (by decide) rfl ac0 (by decide) rfl (by decide) rfl ?_
  refine g_put dX5_init_26 (fp_i (q := (RX5, TX5, 20)) rfl fkX5_21 (Or.inr ⟨rfl, rfl, rfl⟩)) (by decide) (Nat.le_of_ble_eq_true rfl) rfl rfl ?_
  refine g_p dX5_init_29 rfl rfl ?_
  refine g_k (8) dX5_init_30 rfl rfl rfl ?_
  refine g_k (5) dX5_init_32 rfl rfl rfl ?_
  refine g_mn (t := 7) (N := 8) (K := 5) (n := 84) dX5_init_33 (by decide) cwX5_24 ac1 (by decide) (by decide) rfl rfl (by decide) (by decide) rfl ?_
  refine g_put dX5_init_37 (fp_i (q := (RX5, TX5, 20)) rfl fkX5_26 (Or.inr ⟨rfl, rfl, rfl⟩)) (by decide) (Nat.le_of_ble_eq_true rfl) rfl rfl ?_
  refine g_p dX5_init_40 rfl rfl ?_
  refine g_k (4) dX5_init_41 rfl rfl rfl ?_
  refine g_an (t := 5) (N := 4) (n := 93) dX5_init_42 (by decide) (by decide) rfl cwX5_29 (by decide) rfl (by decide) rfl ?_
  refine g_put dX5_init_45 (fp_i (q := (RX5, TX5, 20)) rfl fkX5_31 (Or.inr ⟨rfl, rfl, rfl⟩)) (by decide) (Nat.le_of_ble_eq_true rfl) rfl rfl ?_
  refine g_p dX5_init_48 rfl rfl ?_
  refine g_k (4) dX5_init_49 rfl rfl rfl ?_
  refine g_na (t := 0) (N := 4) (n := 94) dX5_init_50 (by decide) rfl ac0 (by decide) rfl (by decide) rfl ?_
  refine g_put dX5_init_52 (fp_i (q := (RX5, TX5, 20)) rfl fkX5_35 (Or.inr ⟨rfl, rfl, rfl⟩)) (by decide) (Nat.le_of_ble_eq_true rfl) rfl rfl ?_
  refine g_p dX5_init_55 rfl rfl ?_
  refine g_k (4) dX5_init_56 rfl rfl rfl ?_
  refine g_na (t := 0) (N := 4) (n := 95) dX5_init_57 (by decide) rfl ac0 (by decide) rfl (by decide) rfl ?_
  refine g_put dX5_init_59 (fp_i (q := (RX5, TX5, 20)) rfl fkX5_38 (Or.inr ⟨rfl, rfl, rfl⟩)) (by decide) (Nat.le_of_ble_eq_true rfl) rfl rfl ?_
  refine g_p dX5_init_62 rfl rfl ?_
  refine g_k (4) dX5_init_63 rfl rfl rfl ?_
  refine g_na (t := 0) (N := 4) (n := 96) dX5_init_64 (by decide) rfl ac0 (by decide) rfl (by decide) rfl ?_
  refine g_put dX5_init_66 (fp_i (q := (RX5, TX5, 20)) rfl fkX5_41 (Or.inr ⟨rfl, rfl, rfl⟩)) (by decide) (Nat.le_of_ble_eq_true rfl) rfl rfl ?_
  refine g_p dX5_init_69 rfl rfl ?_
  refine g_k (5) dX5_init_70 rfl rfl rfl ?_
  refine g_na (t := 0) (N := 5) (n := 97) dX5_init_71 (by decide) rfl ac0 (by decide) rfl (by decide) rfl ?_
  refine g_put dX5_init_73 (fp_i (q := (RX5, TX5, 20)) rfl fkX5_44 (Or.inr ⟨rfl, rfl, rfl⟩)) (by decide) (Nat.le_of_ble_eq_true rfl) rfl rfl ?_
  refine g_p dX5_init_76 rfl rfl ?_
  refine g_k (768) dX5_init_77 rfl rfl rfl ?_
  refine g_na (t := 0) (N := 768) (n := 98) dX5_init_80 (by decide) rfl ac0 (by decide) rfl (by decide) rfl ?_
  refine g_put dX5_init_82 (fp_i (q := (RX5, TX5, 20)) rfl fkX5_47 (Or.inr ⟨rfl, rfl, rfl⟩)) (by decide) (Nat.le_of_ble_eq_true rfl) rfl rfl ?_
  refine g_p dX5_init_85 rfl rfl ?_
  refine g_k (5) dX5_init_86 rfl rfl rfl ?_
  refine g_k (4) dX5_init_87 rfl rfl rfl ?_
  refine g_mn (t := 6) (N := 5) (K := 4) (n := 99) dX5_init_88 (by decide) cwX5_50 ac0 (by decide) (by decide) rfl rfl (by decide) (by decide) rfl ?_
  refine g_put dX5_init_92 (fp_i (q := (RX5, TX5, 20)) rfl fkX5_52 (Or.inr ⟨rfl, rfl, rfl⟩)) (by decide) (Nat.le_of_ble_eq_true rfl) rfl rfl ?_
  refine g_p dX5_init_95 rfl rfl ?_
  refine g_k (256) dX5_init_96 rfl rfl rfl ?_
  refine g_na (t := 2) (N := 256) (n := 105) dX5_init_99 (by decide) rfl ac2 (by decide) rfl (by decide) rfl ?_
  refine g_put dX5_init_101 (fp_i (q := (RX5, TX5, 20)) rfl fkX5_55 (Or.inr ⟨rfl, rfl, rfl⟩)) (by decide) (Nat.le_of_ble_eq_true rfl) rfl rfl ?_
  refine g_p dX5_init_104 rfl rfl ?_
  refine g_mk (d1 := 1) (n := 106) dX5_init_105 dX5_init_108 dX5_init_109 nwX5_59 iwX5_61 (by rfl) (Nat.le_of_ble_eq_true rfl) (Nat.le_of_ble_eq_true rfl) (k_X1 _) ?_
  refine g_put dX5_init_112 (fp_i (q := (RX5, TX5, 20)) rfl fkX5_62 (Or.inl rfl)) (by decide) (Nat.le_of_ble_eq_true rfl) rfl rfl ?_
  refine g_p dX5_init_115 rfl rfl ?_
  refine g_mk (d1 := 1) (n := 121) dX5_init_116 dX5_init_119 dX5_init_120 nwX5_66 iwX5_68 (by rfl) (Nat.le_of_ble_eq_true rfl) (Nat.le_of_ble_eq_true rfl) (k_X3 _) ?_
  refine g_put dX5_init_123 (fp_i (q := (RX5, TX5, 20)) rfl fkX5_69 (Or.inl rfl)) (by decide) (Nat.le_of_ble_eq_true rfl) rfl rfl ?_
  refine g_k (0) dX5_init_126 rfl rfl rfl ?_
  refine g_p (L2 := [some (.ref (80 : Nat)), some (.int (nI 0))]) dX5_init_127 rfl rfl ?_
  show gR X 1 mX5_init 128 [some (.ref (80 : Nat)), some (.int (nI 0))] [] (pu h 80 bX5a, 123, _) none _
  refine k_l5w rfl rfl (set_none rfl) rfl ?_
  refine g_k 0 dX5_init_156 rfl rfl rfl ?_
  refine g_p (L2 := [some (.ref (80 : Nat)), some (.int (nI 0))]) dX5_init_157 rfl rfl ?_
  show gR X 1 mX5_init 158 _ [] (_, 507, _) none _
  refine k_l5t (fs := [.ref (81 : Nat), .ref (82 : Nat), .ref (83 : Nat), .ref (84 : Nat), .ref (93 : Nat), .ref (94 : Nat), .ref (95 : Nat), .ref (96 : Nat), .ref (97 : Nat), .ref (98 : Nat), .ref (99 : Nat), .ref (105 : Nat), .int 0, .int 0, .int 0, .ref (106 : Nat), .ref (121 : Nat), .int 0, .int 0, .int 0]) ?_ rfl ?_ ?_ ?_
  · rw [List.getElem?_append_left (by decide)]; rfl
  · rw [List.getElem?_append_left (by decide)]; exact set_none rfl
  · rw [List.length_append, wb_len (bk := bX10) (st := 4) (fun _ => rfl)]; rfl
  · exact g_rv dX5_init_186 rfl rfl (by rw [bX5_len]) (by omega)
