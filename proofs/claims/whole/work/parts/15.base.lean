/-! ===== helpers of the walks ===== -/
theorem r_nm {X : Nat × (Nat → Int32)} {d pc : Nat} {M : mx_M} {L : mx_Lo} {r : List Value} {T T2 : St} {v : Option Value} {x : Int32} (k : ∀ y : Int32, y = x → tR X d M pc L (.int y :: r) T v T2) : tR X d M pc L (.int x :: r) T v T2 := k x rfl
theorem r_T {X : Nat × (Nat → Int32)} {d pc : Nat} {M : mx_M} {L : mx_Lo} {r : List Value} {T T1 T2 : St} {v : Option Value} (e : T = T1) (k : tR X d M pc L r T1 v T2) : tR X d M pc L r T v T2 := e ▸ k
theorem r_L {X : Nat × (Nat → Int32)} {d pc : Nat} {M : mx_M} {L L1 : mx_Lo} {r r1 : List Value} {T T2 : St} {v : Option Value} (e : L = L1) (e2 : r = r1) (k : tR X d M pc L1 r1 T v T2) : tR X d M pc L r T v T2 := by subst e; subst e2; exact k
theorem r_ci {X : Nat × (Nat → Int32)} {d pc : Nat} {M : mx_M} {L : mx_Lo} {S : List Value} {T T2 : St} {v : Option Value} {z : Int} {x : Int32} (hd : decode M.2.1 pc = .ok (.iconst z, 1)) (hx : Int32.ofInt z = x) (k : tR X d M (pc + 1) L (.int x :: S) T v T2) : tR X d M pc L S T v T2 := by subst hx; exact r_p hd rfl rfl k
theorem r_cb {X : Nat × (Nat → Int32)} {d pc : Nat} {M : mx_M} {L : mx_Lo} {S : List Value} {T T2 : St} {v : Option Value} {z : Int} {x : Int32} (hd : decode M.2.1 pc = .ok (.bipush z, 2)) (hx : (Int8.ofInt z).toInt32 = x) (k : tR X d M (pc + 2) L (.int x :: S) T v T2) : tR X d M pc L S T v T2 := by subst hx; exact r_p hd rfl rfl k
theorem r_csi {X : Nat × (Nat → Int32)} {d pc : Nat} {M : mx_M} {L : mx_Lo} {S : List Value} {T T2 : St} {v : Option Value} {z : Int} {x : Int32} (hd : decode M.2.1 pc = .ok (.sipush z, 3)) (hx : (Int16.ofInt z).toInt32 = x) (k : tR X d M (pc + 3) L (.int x :: S) T v T2) : tR X d M pc L S T v T2 := by subst hx; exact r_p hd rfl rfl k
theorem r_cl {X : Nat × (Nat → Int32)} {d pc : Nat} {M : mx_M} {L : mx_Lo} {S : List Value} {T T2 : St} {v : Option Value} {z : Fin 2} {x : Int64} (hd : decode M.2.1 pc = .ok (.lconst z, 1)) (hx : Int64.ofNat (z : Nat) = x) (k : tR X d M (pc + 1) L (.long x :: S) T v T2) : tR X d M pc L S T v T2 := by subst hx; exact r_p hd rfl rfl k
theorem r_inc {X : Nat × (Nat → Int32)} {d pc : Nat} {M : mx_M} {L L2 : mx_Lo} {S : List Value} {T T2 : St} {v : Option Value} {z : Int} {n : Nat} {x y : Int32} (hd : decode M.2.1 pc = .ok (.iinc n z, 3)) (hy : Int32.ofInt z = y) (hx : L[n]? = some (some (.int x))) (hl : mx_s1 L n (.int (x + y)) = L2) (k : tR X d M (pc + 3) L2 S T v T2) : tR X d M pc L S T v T2 := by
  subst hy; subst hl
  refine r_p hd rfl ?_ k
  show mx_li L n _ = _
  unfold mx_li
  rw [hx]
  show (if n < L.length then _ else _) = _
  rw [if_pos (List.getElem?_eq_some_iff.mp hx).1]
theorem i_lt (a b : Int32) : a < b ↔ a.toInt < b.toInt := Int32.lt_iff_toInt_lt
theorem i_le (a b : Int32) : a ≤ b ↔ a.toInt ≤ b.toInt := Int32.le_iff_toInt_le
theorem i_eq (a b : Int32) : a = b ↔ a.toInt = b.toInt := Int32.toInt_inj.symm
theorem i_cl (x : Int32) : x.toNatClampNeg = x.toInt.toNat := rfl
theorem i_in (x : Int32) (n : Nat) : vp_in x n ↔ 0 ≤ x.toInt ∧ x.toInt < n := vp_in_iff
theorem i_rg (x : Int32) : -2147483648 ≤ x.toInt ∧ x.toInt < 2147483648 := ⟨by have := Int32.le_toInt x; omega, by have := Int32.toInt_lt x; omega⟩
theorem i_bm {z : Int} (h1 : -2147483648 ≤ z) (h2 : z < 2147483648) : z.bmod (2 ^ 32) = z := by
  rw [Int.bmod_def]
  split <;> omega
theorem i_add {x y : Int32} (h1 : -2147483648 ≤ x.toInt + y.toInt) (h2 : x.toInt + y.toInt < 2147483648) : (x + y).toInt = x.toInt + y.toInt := by rw [Int32.toInt_add, i_bm h1 h2]
theorem i_sub {x y : Int32} (h1 : -2147483648 ≤ x.toInt - y.toInt) (h2 : x.toInt - y.toInt < 2147483648) : (x - y).toInt = x.toInt - y.toInt := by rw [Int32.toInt_sub, i_bm h1 h2]
theorem i_mul {x y : Int32} (h1 : -2147483648 ≤ x.toInt * y.toInt) (h2 : x.toInt * y.toInt < 2147483648) : (x * y).toInt = x.toInt * y.toInt := by rw [Int32.toInt_mul, i_bm h1 h2]
theorem i_b10 (p : Prop) [Decidable p] : ((if p then (1 : Int32) else 0) = 0) ↔ ¬ p := by by_cases h : p <;> simp [h]
theorem nI_t {n : Nat} (h : n < 2 ^ 31) : (nI n).toInt = (n : Int) := nI_toInt h
theorem i_0 : (0 : Int32).toInt = 0 := rfl
theorem i_1 : (1 : Int32).toInt = 1 := rfl
theorem i_2 : (2 : Int32).toInt = 2 := rfl
theorem i_3 : (3 : Int32).toInt = 3 := rfl
theorem i_4 : (4 : Int32).toInt = 4 := rfl
theorem i_5 : (5 : Int32).toInt = 5 := rfl
theorem i_6 : (6 : Int32).toInt = 6 := rfl
theorem i_7 : (7 : Int32).toInt = 7 := rfl
theorem i_8 : (8 : Int32).toInt = 8 := rfl
theorem i_9 : (9 : Int32).toInt = 9 := rfl
theorem i_10 : (10 : Int32).toInt = 10 := rfl
theorem i_11 : (11 : Int32).toInt = 11 := rfl
theorem i_12 : (12 : Int32).toInt = 12 := rfl
theorem i_13 : (13 : Int32).toInt = 13 := rfl
theorem i_14 : (14 : Int32).toInt = 14 := rfl
theorem i_15 : (15 : Int32).toInt = 15 := rfl
theorem i_16 : (16 : Int32).toInt = 16 := rfl
theorem i_17 : (17 : Int32).toInt = 17 := rfl
theorem i_18 : (18 : Int32).toInt = 18 := rfl
theorem i_19 : (19 : Int32).toInt = 19 := rfl
theorem i_20 : (20 : Int32).toInt = 20 := rfl
theorem i_21 : (21 : Int32).toInt = 21 := rfl
theorem i_22 : (22 : Int32).toInt = 22 := rfl
theorem i_23 : (23 : Int32).toInt = 23 := rfl
theorem i_24 : (24 : Int32).toInt = 24 := rfl
theorem i_25 : (25 : Int32).toInt = 25 := rfl
theorem i_26 : (26 : Int32).toInt = 26 := rfl
theorem i_27 : (27 : Int32).toInt = 27 := rfl
theorem i_28 : (28 : Int32).toInt = 28 := rfl
theorem i_29 : (29 : Int32).toInt = 29 := rfl
theorem i_30 : (30 : Int32).toInt = 30 := rfl
theorem i_31 : (31 : Int32).toInt = 31 := rfl
theorem i_32 : (32 : Int32).toInt = 32 := rfl
theorem i_33 : (33 : Int32).toInt = 33 := rfl
theorem i_34 : (34 : Int32).toInt = 34 := rfl
theorem i_35 : (35 : Int32).toInt = 35 := rfl
theorem i_36 : (36 : Int32).toInt = 36 := rfl
theorem i_37 : (37 : Int32).toInt = 37 := rfl
theorem i_38 : (38 : Int32).toInt = 38 := rfl
theorem i_39 : (39 : Int32).toInt = 39 := rfl
theorem i_40 : (40 : Int32).toInt = 40 := rfl
theorem i_41 : (41 : Int32).toInt = 41 := rfl
theorem i_42 : (42 : Int32).toInt = 42 := rfl
theorem i_43 : (43 : Int32).toInt = 43 := rfl
theorem i_44 : (44 : Int32).toInt = 44 := rfl
theorem i_45 : (45 : Int32).toInt = 45 := rfl
theorem i_46 : (46 : Int32).toInt = 46 := rfl
theorem i_47 : (47 : Int32).toInt = 47 := rfl
theorem i_48 : (48 : Int32).toInt = 48 := rfl
theorem i_49 : (49 : Int32).toInt = 49 := rfl
theorem i_50 : (50 : Int32).toInt = 50 := rfl
theorem i_51 : (51 : Int32).toInt = 51 := rfl
theorem i_52 : (52 : Int32).toInt = 52 := rfl
theorem i_53 : (53 : Int32).toInt = 53 := rfl
theorem i_54 : (54 : Int32).toInt = 54 := rfl
theorem i_55 : (55 : Int32).toInt = 55 := rfl
theorem i_56 : (56 : Int32).toInt = 56 := rfl
theorem i_57 : (57 : Int32).toInt = 57 := rfl
theorem i_58 : (58 : Int32).toInt = 58 := rfl
theorem i_59 : (59 : Int32).toInt = 59 := rfl
theorem i_60 : (60 : Int32).toInt = 60 := rfl
theorem i_61 : (61 : Int32).toInt = 61 := rfl
theorem i_62 : (62 : Int32).toInt = 62 := rfl
theorem i_63 : (63 : Int32).toInt = 63 := rfl
theorem i_255 : (255 : Int32).toInt = 255 := rfl
theorem i_600 : (600 : Int32).toInt = 600 := rfl
theorem i_96 : (96 : Int32).toInt = 96 := rfl
theorem i_100 : (100 : Int32).toInt = 100 := rfl
theorem i_768 : (768 : Int32).toInt = 768 := rfl
theorem i_256 : (256 : Int32).toInt = 256 := rfl
theorem i_1000 : (1000 : Int32).toInt = 1000 := rfl
theorem i_320 : (320 : Int32).toInt = 320 := rfl
theorem i_204 : (204 : Int32).toInt = 204 := rfl
theorem i_408 : (408 : Int32).toInt = 408 := rfl
theorem i_m1 : (-1 : Int32).toInt = -1 := rfl
theorem i_NONE : (-1000000 : Int32).toInt = -1000000 := rfl
theorem i_BAD : (-1000001 : Int32).toInt = -1000001 := rfl
theorem i_STATE : (-1000002 : Int32).toInt = -1000002 := rfl
theorem i_FULL : (-1000003 : Int32).toInt = -1000003 := rfl
theorem j_lt (a b : Int64) : a < b ↔ a.toInt < b.toInt := Int64.lt_iff_toInt_lt
theorem j_le (a b : Int64) : a ≤ b ↔ a.toInt ≤ b.toInt := Int64.le_iff_toInt_le
theorem j_w (x : Int32) : x.toInt64.toInt = x.toInt := Int32.toInt_toInt64 x
theorem lp_up {P : Nat → Prop} (n : Nat) (h0 : P n) (hs : ∀ i, i < n → P (i + 1) → P i) : ∀ i, i ≤ n → P i := by
  intro i hi
  obtain ⟨k, rfl⟩ := Nat.le.dest hi
  clear hi
  induction k generalizing i with
  | zero => exact h0
  | succ k ih => exact hs i (by omega) (ih (i + 1) (by rw [show i + 1 + k = i + (k + 1) by omega]; exact h0) (fun j hj => hs j (by omega)))
theorem lp_dn {P : Nat → Prop} (h0 : P 0) (hs : ∀ i, P i → P (i + 1)) : ∀ i, P i := fun i => Nat.rec h0 (fun i h => hs i h) i
theorem lg_lt (x y : Int64) : lg_cmp x y < 0 ↔ x < y := by
  unfold lg_cmp
  simp only [gt_iff_lt, Int64.lt_iff_toInt_lt, Int32.lt_iff_toInt_lt, ← Int64.toInt_inj]
  repeat' split
  all_goals (simp only [i_0, i_1, i_m1]; omega)
theorem lg_gt (x y : Int64) : 0 < lg_cmp x y ↔ y < x := by
  unfold lg_cmp
  simp only [gt_iff_lt, Int64.lt_iff_toInt_lt, Int32.lt_iff_toInt_lt, ← Int64.toInt_inj]
  repeat' split
  all_goals (simp only [i_0, i_1, i_m1]; omega)
theorem lg_le (x y : Int64) : lg_cmp x y ≤ 0 ↔ x ≤ y := by
  have := lg_gt x y
  simp only [i_lt, i_le, j_lt, j_le, i_0] at *
  omega
theorem lg_eq (x y : Int64) : lg_cmp x y = 0 ↔ x = y := by
  have h1 := lg_lt x y
  have h2 := lg_gt x y
  rw [← Int64.toInt_inj, i_eq]
  simp only [i_lt, j_lt, i_0] at *
  omega
theorem in_lt {i : Int32} {n : Nat} (h : vp_in i n) : i.toNatClampNeg < n := Nat.not_le.mp fun q => h (Or.inr q)
theorem j_0 : (0 : Int64).toInt = 0 := rfl
theorem j_1 : (1 : Int64).toInt = 1 := rfl
theorem j_2 : (2 : Int64).toInt = 2 := rfl
theorem j_3 : (3 : Int64).toInt = 3 := rfl
theorem j_4 : (4 : Int64).toInt = 4 := rfl
theorem j_5 : (5 : Int64).toInt = 5 := rfl
theorem j_6 : (6 : Int64).toInt = 6 := rfl
theorem j_7 : (7 : Int64).toInt = 7 := rfl
theorem j_8 : (8 : Int64).toInt = 8 := rfl
theorem j_9 : (9 : Int64).toInt = 9 := rfl
theorem j_10 : (10 : Int64).toInt = 10 := rfl
theorem j_11 : (11 : Int64).toInt = 11 := rfl
theorem j_12 : (12 : Int64).toInt = 12 := rfl
theorem j_13 : (13 : Int64).toInt = 13 := rfl
theorem j_14 : (14 : Int64).toInt = 14 := rfl
theorem j_15 : (15 : Int64).toInt = 15 := rfl
theorem j_16 : (16 : Int64).toInt = 16 := rfl
theorem j_17 : (17 : Int64).toInt = 17 := rfl
theorem j_18 : (18 : Int64).toInt = 18 := rfl
theorem j_19 : (19 : Int64).toInt = 19 := rfl
theorem j_20 : (20 : Int64).toInt = 20 := rfl
theorem j_21 : (21 : Int64).toInt = 21 := rfl
theorem j_22 : (22 : Int64).toInt = 22 := rfl
theorem j_23 : (23 : Int64).toInt = 23 := rfl
theorem j_24 : (24 : Int64).toInt = 24 := rfl
theorem j_25 : (25 : Int64).toInt = 25 := rfl
theorem j_26 : (26 : Int64).toInt = 26 := rfl
theorem j_27 : (27 : Int64).toInt = 27 := rfl
theorem j_28 : (28 : Int64).toInt = 28 := rfl
theorem j_29 : (29 : Int64).toInt = 29 := rfl
theorem j_30 : (30 : Int64).toInt = 30 := rfl
theorem j_31 : (31 : Int64).toInt = 31 := rfl
theorem j_32 : (32 : Int64).toInt = 32 := rfl
theorem j_33 : (33 : Int64).toInt = 33 := rfl
theorem j_34 : (34 : Int64).toInt = 34 := rfl
theorem j_35 : (35 : Int64).toInt = 35 := rfl
theorem j_36 : (36 : Int64).toInt = 36 := rfl
theorem j_37 : (37 : Int64).toInt = 37 := rfl
theorem j_38 : (38 : Int64).toInt = 38 := rfl
theorem j_39 : (39 : Int64).toInt = 39 := rfl
theorem j_40 : (40 : Int64).toInt = 40 := rfl
theorem j_41 : (41 : Int64).toInt = 41 := rfl
theorem j_42 : (42 : Int64).toInt = 42 := rfl
theorem j_43 : (43 : Int64).toInt = 43 := rfl
theorem j_44 : (44 : Int64).toInt = 44 := rfl
theorem j_45 : (45 : Int64).toInt = 45 := rfl
theorem j_46 : (46 : Int64).toInt = 46 := rfl
theorem j_47 : (47 : Int64).toInt = 47 := rfl
theorem j_48 : (48 : Int64).toInt = 48 := rfl
theorem j_49 : (49 : Int64).toInt = 49 := rfl
theorem j_50 : (50 : Int64).toInt = 50 := rfl
theorem j_51 : (51 : Int64).toInt = 51 := rfl
theorem j_52 : (52 : Int64).toInt = 52 := rfl
theorem j_53 : (53 : Int64).toInt = 53 := rfl
theorem j_54 : (54 : Int64).toInt = 54 := rfl
theorem j_55 : (55 : Int64).toInt = 55 := rfl
theorem j_56 : (56 : Int64).toInt = 56 := rfl
theorem j_57 : (57 : Int64).toInt = 57 := rfl
theorem j_58 : (58 : Int64).toInt = 58 := rfl
theorem j_59 : (59 : Int64).toInt = 59 := rfl
theorem j_60 : (60 : Int64).toInt = 60 := rfl
theorem j_61 : (61 : Int64).toInt = 61 := rfl
theorem j_62 : (62 : Int64).toInt = 62 := rfl
theorem j_63 : (63 : Int64).toInt = 63 := rfl
theorem j_1000000 : (1000000 : Int64).toInt = 1000000 := rfl
/-! ===== Arrays.fill ===== -/
theorem sAr_sA (T : St) (a k : Nat) (f : Nat → Int32) (x : Int32) : sA (sAr T a f) a k x = sAr T a (fun j => if j = k then x else f j) := by
  unfold sA sAr u1 u2
  congr 3
  funext b j
  by_cases e : b = a
  · subst e; simp
  · simp [e]
theorem lp_fill {X : Nat × (Nat → Int32)} {T : St} {a n : Nat} {x : Int32} (hs : sh a = .inl (0, n)) (hn : n < 2 ^ 31) : ∀ k i : Nat, i + k = n → tR X 0 mJ7_fill_53178 5 [some (.ref a), some (.int x), some (.int (nI i)), some (.int (nI n))] [] (sAr T a (fun j => if j < i then x else T.2.2.1 a j)) none (sAr T a (fun j => if j < n then x else T.2.2.1 a j)) := by
  intro k
  induction k with
  | zero =>
    intro i hi
    refine r_p dJ7_fill_53178_5 rfl rfl ?_
    refine r_p dJ7_fill_53178_6 rfl rfl ?_
    refine r_cge dJ7_fill_53178_7 rfl (fun c7 => ?_) (fun c7 => ?_)
    · exact r_rv dJ7_fill_53178_20 rfl rfl (by rw [show i = n by omega])
    · exact absurd (nI_le (show n ≤ i by omega) (by omega)) c7
  | succ k ih =>
    intro i hi
    refine r_p dJ7_fill_53178_5 rfl rfl ?_
    refine r_p dJ7_fill_53178_6 rfl rfl ?_
    refine r_cge dJ7_fill_53178_7 rfl (fun c7 => ?_) (fun c7 => ?_)
    · exact absurd c7 (nI_ge (show i < n by omega) (by omega))
    · refine r_p dJ7_fill_53178_10 rfl rfl ?_
      refine r_p dJ7_fill_53178_11 rfl rfl ?_
      refine r_p dJ7_fill_53178_12 rfl rfl ?_
      refine r_ias dJ7_fill_53178_13 (by first | rfl | assumption) (vp_in_nI (by omega) hn) ?_
      rw [sAr_sA, nI_clamp (by omega)]
      refine r_inc (y := 1) dJ7_fill_53178_14 rfl rfl rfl ?_
      refine r_go dJ7_fill_53178_17 rfl ?_
      refine r_T ?_ (r_L ?_ rfl (ih (i + 1) (by omega)))
      · refine congrArg (sAr T a) (funext fun j => ?_)
        by_cases e : j = i
        · rw [if_pos e, if_pos (by omega)]
        · by_cases h : j < i
          · rw [if_neg e, if_pos h, if_pos (by omega)]
          · rw [if_neg e, if_neg h, if_neg (by omega)]
      · show ([some (.ref a), some (.int x), some (.int (nI i + 1)), some (.int (nI n))] : mx_Lo) = _
        rw [nI_1]
theorem sAr_self (T : St) (a : Nat) : sAr T a (T.2.2.1 a) = T := by
  unfold sAr u1
  obtain ⟨F, R, A, L⟩ := T
  simp only
  congr 3
  funext b j
  by_cases e : b = a
  · subst e; simp
  · simp [e]
theorem c_fill {X : Nat × (Nat → Int32)} {T : St} {a n : Nat} {x : Int32} (hs : sh a = .inl (0, n)) (hn : n < 2 ^ 31) : tC X 1 mJ7_fill_53178 [.ref a, .int x] T none (sAr T a (fun j => if j < n then x else T.2.2.1 a j)) := by
  refine tC_of ?_
  refine r_ci (x := 0) dJ7_fill_53178_0 rfl ?_
  refine r_p dJ7_fill_53178_1 rfl rfl ?_
  refine r_p dJ7_fill_53178_2 rfl rfl ?_
  refine r_al dJ7_fill_53178_3 hs (by decide) ?_
  refine r_p dJ7_fill_53178_4 rfl rfl ?_
  refine r_T (T1 := sAr T a (fun j => if j < 0 then x else T.2.2.1 a j)) ?_ (r_L ?_ rfl (lp_fill hs hn n 0 (by omega)))
  · simp only [Nat.not_lt_zero, if_false]
    exact (sAr_self T a).symm
  · rfl
