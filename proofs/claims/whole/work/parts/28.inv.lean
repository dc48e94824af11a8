/-! ===== numbers as they are written; reading what was written ===== -/
theorem z_0 : (0 : Int32) = iz 0 := rfl
theorem n_0 : (0 : Int32).toNatClampNeg = 0 := rfl
theorem z_1 : (1 : Int32) = iz 1 := rfl
theorem n_1 : (1 : Int32).toNatClampNeg = 1 := rfl
theorem z_2 : (2 : Int32) = iz 2 := rfl
theorem n_2 : (2 : Int32).toNatClampNeg = 2 := rfl
theorem z_3 : (3 : Int32) = iz 3 := rfl
theorem n_3 : (3 : Int32).toNatClampNeg = 3 := rfl
theorem z_4 : (4 : Int32) = iz 4 := rfl
theorem n_4 : (4 : Int32).toNatClampNeg = 4 := rfl
theorem z_5 : (5 : Int32) = iz 5 := rfl
theorem n_5 : (5 : Int32).toNatClampNeg = 5 := rfl
theorem z_6 : (6 : Int32) = iz 6 := rfl
theorem n_6 : (6 : Int32).toNatClampNeg = 6 := rfl
theorem z_7 : (7 : Int32) = iz 7 := rfl
theorem n_7 : (7 : Int32).toNatClampNeg = 7 := rfl
theorem z_8 : (8 : Int32) = iz 8 := rfl
theorem n_8 : (8 : Int32).toNatClampNeg = 8 := rfl
theorem z_9 : (9 : Int32) = iz 9 := rfl
theorem n_9 : (9 : Int32).toNatClampNeg = 9 := rfl
theorem z_10 : (10 : Int32) = iz 10 := rfl
theorem n_10 : (10 : Int32).toNatClampNeg = 10 := rfl
theorem z_11 : (11 : Int32) = iz 11 := rfl
theorem n_11 : (11 : Int32).toNatClampNeg = 11 := rfl
theorem z_12 : (12 : Int32) = iz 12 := rfl
theorem n_12 : (12 : Int32).toNatClampNeg = 12 := rfl
theorem z_13 : (13 : Int32) = iz 13 := rfl
theorem n_13 : (13 : Int32).toNatClampNeg = 13 := rfl
theorem z_14 : (14 : Int32) = iz 14 := rfl
theorem n_14 : (14 : Int32).toNatClampNeg = 14 := rfl
theorem z_15 : (15 : Int32) = iz 15 := rfl
theorem n_15 : (15 : Int32).toNatClampNeg = 15 := rfl
theorem z_16 : (16 : Int32) = iz 16 := rfl
theorem n_16 : (16 : Int32).toNatClampNeg = 16 := rfl
theorem z_17 : (17 : Int32) = iz 17 := rfl
theorem n_17 : (17 : Int32).toNatClampNeg = 17 := rfl
theorem z_18 : (18 : Int32) = iz 18 := rfl
theorem n_18 : (18 : Int32).toNatClampNeg = 18 := rfl
theorem z_19 : (19 : Int32) = iz 19 := rfl
theorem n_19 : (19 : Int32).toNatClampNeg = 19 := rfl
theorem z_20 : (20 : Int32) = iz 20 := rfl
theorem n_20 : (20 : Int32).toNatClampNeg = 20 := rfl
theorem z_21 : (21 : Int32) = iz 21 := rfl
theorem n_21 : (21 : Int32).toNatClampNeg = 21 := rfl
theorem z_22 : (22 : Int32) = iz 22 := rfl
theorem n_22 : (22 : Int32).toNatClampNeg = 22 := rfl
theorem z_23 : (23 : Int32) = iz 23 := rfl
theorem n_23 : (23 : Int32).toNatClampNeg = 23 := rfl
theorem z_24 : (24 : Int32) = iz 24 := rfl
theorem n_24 : (24 : Int32).toNatClampNeg = 24 := rfl
theorem z_25 : (25 : Int32) = iz 25 := rfl
theorem n_25 : (25 : Int32).toNatClampNeg = 25 := rfl
theorem z_26 : (26 : Int32) = iz 26 := rfl
theorem n_26 : (26 : Int32).toNatClampNeg = 26 := rfl
theorem z_27 : (27 : Int32) = iz 27 := rfl
theorem n_27 : (27 : Int32).toNatClampNeg = 27 := rfl
theorem z_28 : (28 : Int32) = iz 28 := rfl
theorem n_28 : (28 : Int32).toNatClampNeg = 28 := rfl
theorem z_29 : (29 : Int32) = iz 29 := rfl
theorem n_29 : (29 : Int32).toNatClampNeg = 29 := rfl
theorem z_30 : (30 : Int32) = iz 30 := rfl
theorem n_30 : (30 : Int32).toNatClampNeg = 30 := rfl
theorem z_31 : (31 : Int32) = iz 31 := rfl
theorem n_31 : (31 : Int32).toNatClampNeg = 31 := rfl
theorem z_32 : (32 : Int32) = iz 32 := rfl
theorem n_32 : (32 : Int32).toNatClampNeg = 32 := rfl
theorem z_33 : (33 : Int32) = iz 33 := rfl
theorem n_33 : (33 : Int32).toNatClampNeg = 33 := rfl
theorem z_34 : (34 : Int32) = iz 34 := rfl
theorem n_34 : (34 : Int32).toNatClampNeg = 34 := rfl
theorem z_35 : (35 : Int32) = iz 35 := rfl
theorem n_35 : (35 : Int32).toNatClampNeg = 35 := rfl
theorem z_36 : (36 : Int32) = iz 36 := rfl
theorem n_36 : (36 : Int32).toNatClampNeg = 36 := rfl
theorem z_37 : (37 : Int32) = iz 37 := rfl
theorem n_37 : (37 : Int32).toNatClampNeg = 37 := rfl
theorem z_38 : (38 : Int32) = iz 38 := rfl
theorem n_38 : (38 : Int32).toNatClampNeg = 38 := rfl
theorem z_39 : (39 : Int32) = iz 39 := rfl
theorem n_39 : (39 : Int32).toNatClampNeg = 39 := rfl
theorem z_40 : (40 : Int32) = iz 40 := rfl
theorem n_40 : (40 : Int32).toNatClampNeg = 40 := rfl
theorem z_41 : (41 : Int32) = iz 41 := rfl
theorem n_41 : (41 : Int32).toNatClampNeg = 41 := rfl
theorem z_42 : (42 : Int32) = iz 42 := rfl
theorem n_42 : (42 : Int32).toNatClampNeg = 42 := rfl
theorem z_43 : (43 : Int32) = iz 43 := rfl
theorem n_43 : (43 : Int32).toNatClampNeg = 43 := rfl
theorem z_44 : (44 : Int32) = iz 44 := rfl
theorem n_44 : (44 : Int32).toNatClampNeg = 44 := rfl
theorem z_45 : (45 : Int32) = iz 45 := rfl
theorem n_45 : (45 : Int32).toNatClampNeg = 45 := rfl
theorem z_46 : (46 : Int32) = iz 46 := rfl
theorem n_46 : (46 : Int32).toNatClampNeg = 46 := rfl
theorem z_47 : (47 : Int32) = iz 47 := rfl
theorem n_47 : (47 : Int32).toNatClampNeg = 47 := rfl
theorem z_48 : (48 : Int32) = iz 48 := rfl
theorem n_48 : (48 : Int32).toNatClampNeg = 48 := rfl
theorem z_49 : (49 : Int32) = iz 49 := rfl
theorem n_49 : (49 : Int32).toNatClampNeg = 49 := rfl
theorem z_50 : (50 : Int32) = iz 50 := rfl
theorem n_50 : (50 : Int32).toNatClampNeg = 50 := rfl
theorem z_51 : (51 : Int32) = iz 51 := rfl
theorem n_51 : (51 : Int32).toNatClampNeg = 51 := rfl
theorem z_52 : (52 : Int32) = iz 52 := rfl
theorem n_52 : (52 : Int32).toNatClampNeg = 52 := rfl
theorem z_53 : (53 : Int32) = iz 53 := rfl
theorem n_53 : (53 : Int32).toNatClampNeg = 53 := rfl
theorem z_54 : (54 : Int32) = iz 54 := rfl
theorem n_54 : (54 : Int32).toNatClampNeg = 54 := rfl
theorem z_55 : (55 : Int32) = iz 55 := rfl
theorem n_55 : (55 : Int32).toNatClampNeg = 55 := rfl
theorem z_56 : (56 : Int32) = iz 56 := rfl
theorem n_56 : (56 : Int32).toNatClampNeg = 56 := rfl
theorem z_57 : (57 : Int32) = iz 57 := rfl
theorem n_57 : (57 : Int32).toNatClampNeg = 57 := rfl
theorem z_58 : (58 : Int32) = iz 58 := rfl
theorem n_58 : (58 : Int32).toNatClampNeg = 58 := rfl
theorem z_59 : (59 : Int32) = iz 59 := rfl
theorem n_59 : (59 : Int32).toNatClampNeg = 59 := rfl
theorem z_60 : (60 : Int32) = iz 60 := rfl
theorem n_60 : (60 : Int32).toNatClampNeg = 60 := rfl
theorem z_61 : (61 : Int32) = iz 61 := rfl
theorem n_61 : (61 : Int32).toNatClampNeg = 61 := rfl
theorem z_62 : (62 : Int32) = iz 62 := rfl
theorem n_62 : (62 : Int32).toNatClampNeg = 62 := rfl
theorem z_63 : (63 : Int32) = iz 63 := rfl
theorem n_63 : (63 : Int32).toNatClampNeg = 63 := rfl
theorem z_64 : (64 : Int32) = iz 64 := rfl
theorem n_64 : (64 : Int32).toNatClampNeg = 64 := rfl
theorem z_96 : (96 : Int32) = iz 96 := rfl
theorem n_96 : (96 : Int32).toNatClampNeg = 96 := rfl
theorem z_100 : (100 : Int32) = iz 100 := rfl
theorem n_100 : (100 : Int32).toNatClampNeg = 100 := rfl
theorem z_202 : (202 : Int32) = iz 202 := rfl
theorem n_202 : (202 : Int32).toNatClampNeg = 202 := rfl
theorem z_203 : (203 : Int32) = iz 203 := rfl
theorem n_203 : (203 : Int32).toNatClampNeg = 203 := rfl
theorem z_204 : (204 : Int32) = iz 204 := rfl
theorem n_204 : (204 : Int32).toNatClampNeg = 204 := rfl
theorem z_255 : (255 : Int32) = iz 255 := rfl
theorem n_255 : (255 : Int32).toNatClampNeg = 255 := rfl
theorem z_300 : (300 : Int32) = iz 300 := rfl
theorem n_300 : (300 : Int32).toNatClampNeg = 300 := rfl
theorem z_320 : (320 : Int32) = iz 320 := rfl
theorem n_320 : (320 : Int32).toNatClampNeg = 320 := rfl
theorem z_408 : (408 : Int32) = iz 408 := rfl
theorem n_408 : (408 : Int32).toNatClampNeg = 408 := rfl
theorem z_600 : (600 : Int32) = iz 600 := rfl
theorem n_600 : (600 : Int32).toNatClampNeg = 600 := rfl
theorem z_768 : (768 : Int32) = iz 768 := rfl
theorem n_768 : (768 : Int32).toNatClampNeg = 768 := rfl
theorem z_1000 : (1000 : Int32) = iz 1000 := rfl
theorem n_1000 : (1000 : Int32).toNatClampNeg = 1000 := rfl
theorem z_1000000 : (1000000 : Int32) = iz 1000000 := rfl
theorem z_1000001 : (1000001 : Int32) = iz 1000001 := rfl
theorem z_1000002 : (1000002 : Int32) = iz 1000002 := rfl
theorem z_1000003 : (1000003 : Int32) = iz 1000003 := rfl
theorem z_1000010 : (1000010 : Int32) = iz 1000010 := rfl
theorem z_1000100 : (1000100 : Int32) = iz 1000100 := rfl
def lz (z : Int) : Int64 := Int64.ofInt z
theorem y_0 : (0 : Int64) = lz 0 := rfl
theorem y_1 : (1 : Int64) = lz 1 := rfl
theorem y_2 : (2 : Int64) = lz 2 := rfl
theorem y_3 : (3 : Int64) = lz 3 := rfl
theorem y_4 : (4 : Int64) = lz 4 := rfl
theorem y_5 : (5 : Int64) = lz 5 := rfl
theorem y_6 : (6 : Int64) = lz 6 := rfl
theorem y_7 : (7 : Int64) = lz 7 := rfl
theorem y_8 : (8 : Int64) = lz 8 := rfl
theorem y_9 : (9 : Int64) = lz 9 := rfl
theorem y_10 : (10 : Int64) = lz 10 := rfl
theorem y_11 : (11 : Int64) = lz 11 := rfl
theorem y_12 : (12 : Int64) = lz 12 := rfl
theorem y_13 : (13 : Int64) = lz 13 := rfl
theorem y_14 : (14 : Int64) = lz 14 := rfl
theorem y_15 : (15 : Int64) = lz 15 := rfl
theorem y_16 : (16 : Int64) = lz 16 := rfl
theorem y_17 : (17 : Int64) = lz 17 := rfl
theorem y_18 : (18 : Int64) = lz 18 := rfl
theorem y_19 : (19 : Int64) = lz 19 := rfl
theorem y_20 : (20 : Int64) = lz 20 := rfl
theorem y_21 : (21 : Int64) = lz 21 := rfl
theorem y_22 : (22 : Int64) = lz 22 := rfl
theorem y_23 : (23 : Int64) = lz 23 := rfl
theorem y_24 : (24 : Int64) = lz 24 := rfl
theorem y_25 : (25 : Int64) = lz 25 := rfl
theorem y_26 : (26 : Int64) = lz 26 := rfl
theorem y_27 : (27 : Int64) = lz 27 := rfl
theorem y_28 : (28 : Int64) = lz 28 := rfl
theorem y_29 : (29 : Int64) = lz 29 := rfl
theorem y_30 : (30 : Int64) = lz 30 := rfl
theorem y_31 : (31 : Int64) = lz 31 := rfl
theorem y_32 : (32 : Int64) = lz 32 := rfl
theorem y_33 : (33 : Int64) = lz 33 := rfl
theorem y_34 : (34 : Int64) = lz 34 := rfl
theorem y_35 : (35 : Int64) = lz 35 := rfl
theorem y_36 : (36 : Int64) = lz 36 := rfl
theorem y_37 : (37 : Int64) = lz 37 := rfl
theorem y_38 : (38 : Int64) = lz 38 := rfl
theorem y_39 : (39 : Int64) = lz 39 := rfl
theorem y_40 : (40 : Int64) = lz 40 := rfl
theorem y_41 : (41 : Int64) = lz 41 := rfl
theorem y_42 : (42 : Int64) = lz 42 := rfl
theorem y_43 : (43 : Int64) = lz 43 := rfl
theorem y_44 : (44 : Int64) = lz 44 := rfl
theorem y_45 : (45 : Int64) = lz 45 := rfl
theorem y_46 : (46 : Int64) = lz 46 := rfl
theorem y_47 : (47 : Int64) = lz 47 := rfl
theorem y_48 : (48 : Int64) = lz 48 := rfl
theorem y_49 : (49 : Int64) = lz 49 := rfl
theorem y_50 : (50 : Int64) = lz 50 := rfl
theorem y_51 : (51 : Int64) = lz 51 := rfl
theorem y_52 : (52 : Int64) = lz 52 := rfl
theorem y_53 : (53 : Int64) = lz 53 := rfl
theorem y_54 : (54 : Int64) = lz 54 := rfl
theorem y_55 : (55 : Int64) = lz 55 := rfl
theorem y_56 : (56 : Int64) = lz 56 := rfl
theorem y_57 : (57 : Int64) = lz 57 := rfl
theorem y_58 : (58 : Int64) = lz 58 := rfl
theorem y_59 : (59 : Int64) = lz 59 := rfl
theorem y_60 : (60 : Int64) = lz 60 := rfl
theorem y_61 : (61 : Int64) = lz 61 := rfl
theorem y_62 : (62 : Int64) = lz 62 := rfl
theorem y_63 : (63 : Int64) = lz 63 := rfl
theorem y_64 : (64 : Int64) = lz 64 := rfl
theorem y_255 : (255 : Int64) = lz 255 := rfl
theorem y_600 : (600 : Int64) = lz 600 := rfl

theorem j_bm {z : Int} (h1 : -9223372036854775808 ≤ z) (h2 : z < 9223372036854775808) : z.bmod (2 ^ 64) = z := by
  rw [Int.bmod_def]; omega
theorem lz_t {z : Int} (h : -9223372036854775808 ≤ z ∧ z < 9223372036854775808) : (lz z).toInt = z := by
  unfold lz
  rw [Int64.toInt_ofInt]
  exact j_bm h.1 h.2
theorem lz_w {z : Int} (h : -2147483648 ≤ z ∧ z < 2147483648) : (iz z).toInt64 = lz z := by
  rw [← Int64.toInt_inj, iz_l h, lz_t (by omega)]
theorem lz_add (a b : Int) : lz a + lz b = lz (a + b) := (Int64.ofInt_add a b).symm
theorem lz_sub (a b : Int) : lz a - lz b = lz (a - b) := (Int64.ofInt_sub a b).symm
theorem lz_le {a b : Int} (h : -9223372036854775808 ≤ a ∧ a < 9223372036854775808 ∧ -9223372036854775808 ≤ b ∧ b < 9223372036854775808) : (lz a ≤ lz b) ↔ a ≤ b := by
  rw [j_le, lz_t ⟨h.1, h.2.1⟩, lz_t ⟨h.2.2.1, h.2.2.2⟩]
theorem lz_lt {a b : Int} (h : -9223372036854775808 ≤ a ∧ a < 9223372036854775808 ∧ -9223372036854775808 ≤ b ∧ b < 9223372036854775808) : (lz a < lz b) ↔ a < b := by
  rw [j_lt, lz_t ⟨h.1, h.2.1⟩, lz_t ⟨h.2.2.1, h.2.2.2⟩]
theorem iz_inj {a b : Int} (h : a = b) : iz a = iz b := congrArg iz h
theorem m_in {T : St} {a b c : Int} (h : -9223372036854775808 ≤ a ∧ a < 9223372036854775808 ∧ -9223372036854775808 ≤ b ∧ b < 9223372036854775808 ∧ -9223372036854775808 ≤ c ∧ c < 9223372036854775808) : (x_m_in T (lz a) (lz b) (lz c) = 0) ↔ ¬ (b ≤ a ∧ a ≤ c) := by
  unfold x_m_in
  simp (disch := omega) only [lg_lt, lg_gt, lz_lt]
  by_cases h1 : a < b
  · rw [if_pos h1]; simp; omega
  · rw [if_neg h1]
    by_cases h2 : c < a
    · rw [if_pos h2]; simp; omega
    · rw [if_neg h2]
      constructor
      · intro q; exact absurd q (by decide)
      · intro q; omega
theorem lg_le0 {a b : Int} (h : -9223372036854775808 ≤ a ∧ a < 9223372036854775808 ∧ -9223372036854775808 ≤ b ∧ b < 9223372036854775808) : (lg_cmp (lz a) (lz b) ≤ 0) ↔ a ≤ b := by rw [lg_le, lz_le h]
theorem lg_gt0 {a b : Int} (h : -9223372036854775808 ≤ a ∧ a < 9223372036854775808 ∧ -9223372036854775808 ≤ b ∧ b < 9223372036854775808) : (0 < lg_cmp (lz a) (lz b)) ↔ b < a := by rw [lg_gt, lz_lt (by omega)]
section GET
variable {T : St} {a b k j c : Nat} {x : Int32} {y : Int64} {f : Nat → Int32} {g : Nat → Int64}
theorem gA_A : (sA T a k x).2.2.1 b j = if b = a ∧ j = k then x else T.2.2.1 b j := rfl
theorem gA_F : (sA T a k x).1 = T.1 := rfl
theorem gA_R : (sA T a k x).2.1 = T.2.1 := rfl
theorem gA_L : (sA T a k x).2.2.2 = T.2.2.2 := rfl
theorem gF_F : (sF T a k x).1 b j = if b = a ∧ j = k then x else T.1 b j := rfl
theorem gF_R : (sF T a k x).2.1 = T.2.1 := rfl
theorem gF_A : (sF T a k x).2.2.1 = T.2.2.1 := rfl
theorem gF_L : (sF T a k x).2.2.2 = T.2.2.2 := rfl
theorem gAr_A : (sAr T a f).2.2.1 b j = if b = a then f j else T.2.2.1 b j := rfl
theorem gAr_F : (sAr T a f).1 = T.1 := rfl
theorem gAr_R : (sAr T a f).2.1 = T.2.1 := rfl
theorem gAr_L : (sAr T a f).2.2.2 = T.2.2.2 := rfl
theorem gL_L : (sL T a k y).2.2.2 b j = if b = a ∧ j = k then y else T.2.2.2 b j := rfl
theorem gL_F : (sL T a k y).1 = T.1 := rfl
theorem gL_R : (sL T a k y).2.1 = T.2.1 := rfl
theorem gL_A : (sL T a k y).2.2.1 = T.2.2.1 := rfl
theorem gLr_L : (sLr T a g).2.2.2 b j = if b = a then g j else T.2.2.2 b j := rfl
theorem gLr_F : (sLr T a g).1 = T.1 := rfl
theorem gLr_R : (sLr T a g).2.1 = T.2.1 := rfl
theorem gLr_A : (sLr T a g).2.2.1 = T.2.2.1 := rfl
theorem gR_R : (sR T c b).2.1 j = if j = c then b else T.2.1 j := rfl
theorem gR_F : (sR T c b).1 = T.1 := rfl
theorem gR_A : (sR T c b).2.2.1 = T.2.2.1 := rfl
theorem gR_L : (sR T c b).2.2.2 = T.2.2.2 := rfl
end GET
-- frames, a read at a time
theorem q_F {W : Nat → Prop} {T T' : St} (h : Fr W T T') {c k : Nat} (n : ¬ W (10000 + 100 * c + k)) : T'.1 c k = T.1 c k := h.1 c k n
theorem q_R {W : Nat → Prop} {T T' : St} (h : Fr W T T') {c : Nat} (n : ¬ W (5000 + c)) : T'.2.1 c = T.2.1 c := h.2.1 c n
theorem q_A {W : Nat → Prop} {T T' : St} (h : Fr W T T') {c j : Nat} (n : ¬ W c) : T'.2.2.1 c j = T.2.2.1 c j := h.2.2.1 c j n
theorem q_L {W : Nat → Prop} {T T' : St} (h : Fr W T T') {c j : Nat} (n : ¬ W c) : T'.2.2.2 c j = T.2.2.2 c j := h.2.2.2 c j n
/-! ===== what class and reference hold, together ===== -/
-- a row of a dinner: how many steps, how many dishes stand ahead of a dish
def ps (B : Nat → Int) (D : Nat) : Nat → Nat
  | 0 => 0
  | e + 1 => ps B D e + (if D.testBit e then nO B e else 0)
def sn (D : Nat) : Nat → Nat
  | 0 => 0
  | e + 1 => sn D e + (if D.testBit e then 1 else 0)
-- the class's book at a cell
def BkX (T : St) (b : Nat) (B : Nat → Int) : Prop :=
  (∀ i, i < 7 → T.2.2.1 (b + 1) i = iz (B i)) ∧
  (T.1 b 1 = iz (B 7) ∧ ∀ i : Nat, (i : Int) < B 7 → T.2.2.1 (b + 2) i = iz (B (8 + 2 * i)) ∧ T.2.2.1 (b + 3) i = iz (B (8 + 2 * i + 1))) ∧
  (T.1 b 4 = iz (B 16) ∧ ∀ d : Nat, (d : Int) < B 16 → T.2.2.1 (b + 4) d = iz (bKeep B d) ∧ T.2.2.1 (b + 5) d = iz (bCold B d) ∧ T.2.2.1 (b + 6) d = iz (bPan B d) ∧ T.2.2.1 (b + 7) d = iz (bOwn B d) ∧ T.2.2.1 (b + 8) d = iz (bFst B d)) ∧
  (T.1 b 10 = iz (B 17) ∧ ∀ s : Nat, (s : Int) < B 17 → T.2.2.1 (b + 9) s = iz (kd B s - 1) ∧ T.2.2.1 (b + 10) s = iz (lg B s) ∧ T.2.2.1 (b + 11) s = iz (wt B s) ∧ T.2.2.1 (b + 12) s = iz (sr B s) ∧ T.2.2.1 (b + 13) s = iz (on B s) ∧ T.2.2.1 (b + 14) s = iz (tw B s)) ∧
  T.1 b 17 = iz (B 202) ∧ T.1 b 18 = iz (B 203)
-- the reference's
def MkX (T : St) (B : Nat → Int) : Prop := ∀ j, j < 204 → T.2.2.1 575 j = iz (B j)
-- bits of a long
def lb (x : Int64) (m : Nat) : Bool := x.toBitVec.getLsbD m
def KitX (T : St) (a : Nat) (B : Nat → Int) (h o : Int) : Prop := ∀ w n m : Nat, w < 5 → 1 ≤ n → n ≤ 4 → m < 60 → (lb (T.2.2.2 (a + 1) (5 * w + n - 1)) m = true ↔ gv B h o w m < n)
def RowX (T : St) (r : Nat) (B : Nat → Int) (D : Nat) : Prop :=
  T.1 r 0 = iz (sn D 8) ∧ T.1 r 1 = iz (ps B D 8) ∧ ∀ d : Nat, d < 8 → D.testBit d = true → T.2.2.1 (r + 1) (sn D d) = iz d ∧
    ∀ k, k < nO B d → T.2.2.1 (r + 3) (ps B D d + k) = iz ((nF B d + k : Nat) : Int) ∧ T.2.2.1 (r + 4) (ps B D d + k) = iz (sn D d) ∧ T.2.2.1 (r + 6) (ps B D d + k) = iz (lg B (nF B d + k))
def RowB (T : St) (r : Nat) (B : Nat → Int) (D : Nat) (b : Nat → Nat → Int) : Prop := ∀ d : Nat, d < 8 → D.testBit d = true → ∀ k, k < nO B d → T.2.2.1 (r + 5) (ps B D d + k) = iz (b d k)
noncomputable def SK0 (B : Nat → Int) (t : Int) : Option (Nat → Nat) := SK B t (B 5) (B 203) (fun _ _ => True) (B 202).toNat false
noncomputable def PE (B : Nat → Int) (t h : Int) (D : Nat) : Prop := SK B t h (B 203) (fun _ _ => True) D true ≠ none
noncomputable def dnF (P : Nat → Prop) : Nat → Nat × Int
  | 0 => (0, -1000000)
  | k + 1 => @ite _ (1 ≤ k ∧ bc8 k ≤ 4 ∧ P k) (Classical.propDecidable _) ((dnF P k).1 + 1, if (dnF P k).2 = -1000000 ∨ bc8 (dnF P k).2.toNat < bc8 k then (k : Int) else (dnF P k).2) (dnF P k)
def cX (T : St) (B : Nat → Int) : Prop := T.1 0 14 = 0 ∨ ∃ t : Nat, 1 ≤ t ∧ t ≤ 60 ∧ T.1 0 14 = iz t ∧ (SK0 B t = none → T.1 0 15 = iz (-1000000)) ∧
  ∀ c, SK0 B t = some c → T.1 0 15 = iz (csm B (B 202).toNat 8 c) ∧ RowX T 557 B (B 202).toNat ∧ RowB T 557 B (B 202).toNat (fun d => bg B t d (c d)) ∧ ∀ d : Nat, d < 8 → (B 202).toNat.testBit d = true → T.2.2.1 559 (sn (B 202).toNat d) = iz (c d)
def cM (T : St) (B : Nat → Int) : Prop := (T.1 571 34 = 0 ∨ T.1 571 34 = iz (-1000000)) ∨ ∃ t : Nat, 1 ≤ t ∧ t ≤ 60 ∧ T.1 571 34 = iz t ∧ (SK0 B t = none → T.1 571 35 = 0) ∧
  ∀ c, SK0 B t = some c → T.1 571 35 = 1 ∧ T.1 571 36 = iz (csm B (B 202).toNat 8 c) ∧ ∀ d : Nat, d < 8 → (B 202).toNat.testBit d = true → T.2.2.1 592 (sn (B 202).toNat d) = iz (c d) ∧ ∀ k, k < nO B d → T.2.2.1 593 (3 * sn (B 202).toNat d + k) = iz (bg B t d (c d) k)
def cC (T : St) (B : Nat → Int) : Prop := T.1 0 16 = 0 ∨ ∃ h t : Nat, 1 ≤ h ∧ h ≤ 3 ∧ 1 ≤ t ∧ t ≤ 60 ∧ T.1 0 16 = iz ((h * 61 + t : Nat) : Int) ∧ T.1 80 18 = iz ((dnF (PE B t h) (2 ^ (B 16).toNat)).1 : Int) ∧ T.1 80 19 = iz (dnF (PE B t h) (2 ^ (B 16).toNat)).2
def nB (T : St) (j : Nat) : Int := (T.2.2.1 575 j).toInt
def kB (T : St) (k j : Nat) : Int := (T.2.2.1 600 (204 * k + j)).toInt
def iSh (T : St) : Prop := T.1 0 12 = T.1 571 1 ∧ ∀ s : Nat, s < 8 → T.2.2.1 572 s = T.2.2.1 2 s ∧ T.2.2.1 573 s = T.2.2.1 3 s ∧ (∃ l : Int, T.2.2.1 2 s = iz l ∧ -1 ≤ l ∧ l ≤ 2) ∧ (∃ n : Int, T.2.2.1 3 s = iz n ∧ 0 ≤ n ∧ n ≤ 40) ∧ ∀ i : Nat, i < 40 → T.2.2.1 574 (40 * s + i) = T.2.2.1 (5 + s) i
def iTp (T : St) : Prop := T.1 0 13 = T.1 571 10 ∧ ∃ n : Nat, n ≤ 600 ∧ T.1 13 1 = iz n ∧ T.1 571 9 = iz n ∧ ∀ j : Nat, j < n → ∃ c : Nat, c < 256 ∧ T.2.2.1 14 j = iz c ∧ T.2.2.1 577 j = iz c
def iTr (T : St) : Prop := ∃ n : Nat, n ≤ 16 ∧ T.1 555 1 = iz n ∧ T.1 571 48 = iz n ∧ ∀ j : Nat, j < n → T.2.2.1 556 j = T.2.2.1 601 j
def iBk (T : St) : Prop := ((T.2.1 0 = 46 ∧ T.2.1 1 = 61) ∨ (T.2.1 0 = 61 ∧ T.2.1 1 = 46)) ∧ T.1 571 32 = 0 ∧
  ((T.1 571 7 = 0 ∧ (∀ j, j < 204 → T.2.2.1 575 j = 0) ∧ T.1 (T.2.1 0) 1 = 0 ∧ T.1 (T.2.1 0) 4 = 0 ∧ T.1 (T.2.1 0) 10 = 0 ∧ T.1 (T.2.1 0) 17 = 0 ∧ T.1 (T.2.1 0) 18 = 60) ∨
   (T.1 571 7 = 1 ∧ WF (nB T) ∧ BkX T (T.2.1 0) (nB T) ∧ KitX T 76 (nB T) (nB T 5) (nB T 203) ∧ cX T (nB T) ∧ cM T (nB T) ∧ cC T (nB T)))
def iIm (T : St) : Prop := ∀ k : Nat, k < 2 → (T.2.2.1 599 k = 0 ∧ T.1 (16 + 15 * k) 4 = 0) ∨ (T.2.2.1 599 k = 1 ∧ WF (kB T k) ∧ BkX T (16 + 15 * k) (kB T k))
def Inv (T : St) : Prop := iSh T ∧ iTp T ∧ iTr T ∧ iBk T ∧ iIm T


section FRI
variable {W : Nat → Prop} {T T' : St} {B : Nat → Int} {D : Nat}
theorem iSh_fr (h : Fr W T T') (n : ∀ c, (c = 10012 ∨ c = 67101 ∨ (2 ≤ c ∧ c < 4) ∨ (5 ≤ c ∧ c < 13) ∨ (572 ≤ c ∧ c < 575)) → ¬ W c) (i : iSh T) : iSh T' := by
  unfold iSh at i ⊢
  refine ⟨by rw [q_F h (n _ (by omega)), q_F h (n _ (by omega))]; exact i.1, fun s hs => ?_⟩
  have := i.2 s hs
  rw [q_A h (n 572 (by omega)), q_A h (n 573 (by omega)), q_A h (n 2 (by omega)), q_A h (n 3 (by omega))]
  refine ⟨this.1, this.2.1, this.2.2.1, this.2.2.2.1, fun k hk => ?_⟩
  rw [q_A h (n 574 (by omega)), q_A h (n (5 + s) (by omega))]
  exact this.2.2.2.2 k hk
theorem iTp_fr (h : Fr W T T') (n : ∀ c, (c = 10013 ∨ c = 67110 ∨ c = 11301 ∨ c = 67109 ∨ c = 14 ∨ c = 577) → ¬ W c) (i : iTp T) : iTp T' := by
  unfold iTp at i ⊢
  refine ⟨by rw [q_F h (n _ (by omega)), q_F h (n _ (by omega))]; exact i.1, ?_⟩
  obtain ⟨m, h1, h2, h3, h4⟩ := i.2
  refine ⟨m, h1, by rw [q_F h (n _ (by omega))]; exact h2, by rw [q_F h (n _ (by omega))]; exact h3, fun j hj => ?_⟩
  rw [q_A h (n 14 (by omega)), q_A h (n 577 (by omega))]
  exact h4 j hj
theorem iTr_fr (h : Fr W T T') (n : ∀ c, (c = 65501 ∨ c = 67148 ∨ c = 556 ∨ c = 601) → ¬ W c) (i : iTr T) : iTr T' := by
  unfold iTr at i ⊢
  obtain ⟨m, h1, h2, h3, h4⟩ := i
  refine ⟨m, h1, by rw [q_F h (n _ (by omega))]; exact h2, by rw [q_F h (n _ (by omega))]; exact h3, fun j hj => ?_⟩
  rw [q_A h (n 556 (by omega)), q_A h (n 601 (by omega))]
  exact h4 j hj
theorem BkX_fr {b : Nat} (h : Fr W T T') (n : ∀ c, ((b < c ∧ c < b + 15) ∨ (10000 + 100 * b ≤ c ∧ c < 10000 + 100 * b + 100)) → ¬ W c) (i : BkX T b B) : BkX T' b B := by
  obtain ⟨h1, h2, h3, h4, h5, h6⟩ := i
  refine ⟨fun j hj => ?_, ⟨?_, fun j hj => ?_⟩, ⟨?_, fun j hj => ?_⟩, ⟨?_, fun j hj => ?_⟩, ?_, ?_⟩
  · rw [q_A h (n _ (by omega))]; exact h1 j hj
  · rw [q_F h (n _ (by omega))]; exact h2.1
  · rw [q_A h (n _ (by omega)), q_A h (n _ (by omega))]; exact h2.2 j hj
  · rw [q_F h (n _ (by omega))]; exact h3.1
  · rw [q_A h (n (b + 4) (by omega)), q_A h (n (b + 5) (by omega)), q_A h (n (b + 6) (by omega)), q_A h (n (b + 7) (by omega)), q_A h (n (b + 8) (by omega))]; exact h3.2 j hj
  · rw [q_F h (n _ (by omega))]; exact h4.1
  · rw [q_A h (n (b + 9) (by omega)), q_A h (n (b + 10) (by omega)), q_A h (n (b + 11) (by omega)), q_A h (n (b + 12) (by omega)), q_A h (n (b + 13) (by omega)), q_A h (n (b + 14) (by omega))]; exact h4.2 j hj
  · rw [q_F h (n _ (by omega))]; exact h5
  · rw [q_F h (n _ (by omega))]; exact h6
theorem KitX_fr {a : Nat} {hh o : Int} (h : Fr W T T') (n : ¬ W (a + 1)) (i : KitX T a B hh o) : KitX T' a B hh o := by
  intro w k m h1 h2 h3 h4
  rw [q_L h n]
  exact i w k m h1 h2 h3 h4
theorem MkX_fr (h : Fr W T T') (n : ¬ W 575) (i : MkX T B) : MkX T' B := by
  intro j hj
  rw [q_A h n]
  exact i j hj
theorem RowX_fr {r : Nat} (h : Fr W T T') (n : ∀ c, ((r < c ∧ c < r + 7) ∨ (10000 + 100 * r ≤ c ∧ c < 10000 + 100 * r + 2)) → ¬ W c) (i : RowX T r B D) : RowX T' r B D := by
  obtain ⟨h1, h2, h3⟩ := i
  refine ⟨?_, ?_, fun d hd hm => ⟨?_, fun k hk => ?_⟩⟩
  · rw [q_F h (n _ (by omega))]; exact h1
  · rw [q_F h (n _ (by omega))]; exact h2
  · rw [q_A h (n _ (by omega))]; exact (h3 d hd hm).1
  · rw [q_A h (n (r + 3) (by omega)), q_A h (n (r + 4) (by omega)), q_A h (n (r + 6) (by omega))]; exact (h3 d hd hm).2 k hk
theorem RowB_fr {r : Nat} {b : Nat → Nat → Int} (h : Fr W T T') (n : ¬ W (r + 5)) (i : RowB T r B D b) : RowB T' r B D b := by
  intro d hd hm k hk
  rw [q_A h n]
  exact i d hd hm k hk
theorem cX_fr (h : Fr W T T') (n : ∀ c, (c = 10014 ∨ c = 10015 ∨ (558 ≤ c ∧ c < 564) ∨ (65700 ≤ c ∧ c < 65702)) → ¬ W c) (i : cX T B) : cX T' B := by
  unfold cX at i ⊢
  rw [q_F h (n 10014 (by omega)), q_F h (n 10015 (by omega))]
  rcases i with i | ⟨t, h1, h2, h3, h4, h5⟩
  · exact Or.inl i
  · refine Or.inr ⟨t, h1, h2, h3, h4, fun c hc => ?_⟩
    obtain ⟨g1, g2, g3, g4⟩ := h5 c hc
    refine ⟨g1, RowX_fr h (fun c hc => n c (by omega)) g2, RowB_fr h (n _ (by omega)) g3, fun d hd hm => ?_⟩
    rw [q_A h (n 559 (by omega))]
    exact g4 d hd hm
theorem cM_fr (h : Fr W T T') (n : ∀ c, ((67134 ≤ c ∧ c < 67137) ∨ c = 592 ∨ c = 593) → ¬ W c) (i : cM T B) : cM T' B := by
  unfold cM at i ⊢
  rw [q_F h (n 67134 (by omega)), q_F h (n 67135 (by omega)), q_F h (n 67136 (by omega))]
  rcases i with i | ⟨t, h1, h2, h3, h4, h5⟩
  · exact Or.inl i
  · refine Or.inr ⟨t, h1, h2, h3, h4, fun c hc => ?_⟩
    obtain ⟨g1, g2, g3⟩ := h5 c hc
    refine ⟨g1, g2, fun d hd hm => ?_⟩
    rw [q_A h (n 592 (by omega))]
    refine ⟨(g3 d hd hm).1, fun k hk => ?_⟩
    rw [q_A h (n 593 (by omega))]
    exact (g3 d hd hm).2 k hk
theorem cC_fr (h : Fr W T T') (n : ∀ c, (c = 10016 ∨ c = 18018 ∨ c = 18019) → ¬ W c) (i : cC T B) : cC T' B := by
  unfold cC at i ⊢
  rw [q_F h (n 10016 (by omega)), q_F h (n 18018 (by omega)), q_F h (n 18019 (by omega))]
  exact i
theorem nB_fr (h : Fr W T T') (n : ¬ W 575) : nB T' = nB T := by
  funext j
  unfold nB
  rw [q_A h n]
-- all that iBk reads
theorem iBk_fr (h : Fr W T T') (n : ∀ c, (c = 10014 ∨ c = 10015 ∨ c = 10016 ∨ c = 18018 ∨ c = 18019 ∨ (558 ≤ c ∧ c < 564) ∨ (65700 ≤ c ∧ c < 65702) ∨ (67134 ≤ c ∧ c < 67137) ∨ c = 592 ∨ c = 593 ∨ c = 5000 ∨ c = 5001 ∨ c = 575 ∨ c = 77 ∨ c = 67107 ∨ c = 67132 ∨ (47 ≤ c ∧ c < 76 ∧ c ≠ 61) ∨ (14600 ≤ c ∧ c < 14700) ∨ (16100 ≤ c ∧ c < 16200)) → ¬ W c) (i : iBk T) : iBk T' := by
  obtain ⟨h1, h2, h3⟩ := i
  unfold iBk
  rw [q_R h (n 5000 (by omega)), q_R h (n 5001 (by omega)), q_F h (n 67132 (by omega)), q_F h (n 67107 (by omega)), nB_fr h (n 575 (by omega))]
  refine ⟨h1, h2, ?_⟩
  rcases h3 with ⟨g1, g2, g3, g4, g5, g6, g7⟩ | ⟨g1, g2, g3, g4, g5, g6, g7⟩
  · refine Or.inl ⟨g1, fun j hj => ?_, ?_, ?_, ?_, ?_, ?_⟩
    · rw [q_A h (n _ (by omega))]; exact g2 j hj
    · rw [q_F h (n _ (by omega))]; exact g3
    · rw [q_F h (n _ (by omega))]; exact g4
    · rw [q_F h (n _ (by omega))]; exact g5
    · rw [q_F h (n _ (by omega))]; exact g6
    · rw [q_F h (n _ (by omega))]; exact g7
  · exact Or.inr ⟨g1, g2, BkX_fr h (fun c hc => n c (by omega)) g3, KitX_fr h (n _ (by omega)) g4, cX_fr h (fun c hc => n c (by omega)) g5, cM_fr h (fun c hc => n c (by omega)) g6, cC_fr h (fun c hc => n c (by omega)) g7⟩
theorem kB_fr {k : Nat} (h : Fr W T T') (n : ¬ W 600) : kB T' k = kB T k := by
  funext j
  unfold kB
  rw [q_A h n]
theorem iIm_fr (h : Fr W T T') (n : ∀ c, (c = 599 ∨ c = 600 ∨ (16 < c ∧ c < 46 ∧ c ≠ 31) ∨ (11600 ≤ c ∧ c < 11700) ∨ (13100 ≤ c ∧ c < 13200)) → ¬ W c) (i : iIm T) : iIm T' := by
  intro k hk
  rw [q_A h (n 599 (by omega)), kB_fr h (n 600 (by omega))]
  rcases i k hk with ⟨h1, h2⟩ | ⟨h1, h2, h3⟩
  · exact Or.inl ⟨h1, by rw [q_F h (n _ (by omega))]; exact h2⟩
  · exact Or.inr ⟨h1, h2, BkX_fr h (fun c hc => n c (by omega)) h3⟩
end FRI

