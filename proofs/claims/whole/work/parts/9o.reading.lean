/-! ===== the whole reading, and the class at it ===== -/
def p_aw1 (tp : Nat → Nat) (n c : Nat) (S : Nat × Nat × (Nat → Int)) : Nat × Nat × (Nat → Int) := a_nm tp n (8 + 2 * c) 0 59 (a_nx tp n S)
def p_aw2 (tp : Nat → Nat) (n c : Nat) (S : Nat × Nat × (Nat → Int)) : Nat × Nat × (Nat → Int) := a_nm tp n (8 + 2 * c + 1) ((p_aw1 tp n c S).2.2 (8 + 2 * c)) 59 (p_aw1 tp n c S)
def p_away (tp : Nat → Nat) (n : Nat) (S : Nat × Nat × (Nat → Int)) : Nat × Nat × (Nat → Int) := if S.2.2 7 = 4 then a_fl 3 S else a_st 7 (S.2.2 7 + 1) (a_sg tp n (p_aw2 tp n (S.2.2 7).toNat S))
def p_s1 (k s : Nat) (S : Nat × Nat × (Nat → Int)) : Nat × Nat × (Nat → Int) := a_st (58 + 6 * s + 5) (-1000000) (a_st (58 + 6 * s + 4) (-1000000) (a_st (58 + 6 * s + 3) (if k = 3 then 2 else 0) (a_st (58 + 6 * s + 0) (k : Int) S)))
def p_s2 (tp : Nat → Nat) (n k s : Nat) (S : Nat × Nat × (Nat → Int)) : Nat × Nat × (Nat → Int) := a_nm tp n (58 + 6 * s + 2) 0 1 (a_nm tp n (58 + 6 * s + 1) 1 30 (p_s1 k s S))
def p_s3 (tp : Nat → Nat) (n k s : Nat) (S : Nat × Nat × (Nat → Int)) : Nat × Nat × (Nat → Int) := if k = 1 ∨ k = 2 then a_nm tp n (58 + 6 * s + 4) 0 (if k = 1 then 1 else 9) (a_nm tp n (58 + 6 * s + 3) 0 2 (p_s2 tp n k s S)) else p_s2 tp n k s S
def p_s4 (tp : Nat → Nat) (n k s : Nat) (S : Nat × Nat × (Nat → Int)) : Nat × Nat × (Nat → Int) := if k = 2 then a_nm tp n (58 + 6 * s + 5) ((p_s3 tp n k s S).2.2 (58 + 6 * s + 4)) 9 (p_s3 tp n k s S) else p_s3 tp n k s S
def p_s5 (tp : Nat → Nat) (n k s : Nat) (S : Nat × Nat × (Nat → Int)) : Nat × Nat × (Nat → Int) := if k = 5 then a_nm tp n (58 + 6 * s + 4) 0 9 (p_s4 tp n k s S) else p_s4 tp n k s S
def p_s6 (d : Nat) (X : Nat × Nat × (Nat → Int)) : Nat × Nat × (Nat → Int) := a_st 17 (X.2.2 17 + 1) (a_st (18 + 5 * d + 3) (X.2.2 (18 + 5 * d + 3) + 1) X)
def p_step (tp : Nat → Nat) (n k d : Nat) (S : Nat × Nat × (Nat → Int)) : Nat × Nat × (Nat → Int) := if S.2.2 (18 + 5 * d + 3) = 3 then a_fl 3 S else p_s6 d (a_sg tp n (p_s5 tp n k (S.2.2 17).toNat (a_nx tp n S)))
def p_sl (tp : Nat → Nat) (n d : Nat) : Nat → Nat × Nat × (Nat → Int) → Nat × Nat × (Nat → Int)
  | 0, S => S
  | m + 1, S => if S.1 = 0 ∧ kw tp n S.2.1 ≠ 0 then p_sl tp n d m (p_step tp n (kw tp n S.2.1) d S) else S
def p_d1 (tp : Nat → Nat) (n d : Nat) (S : Nat × Nat × (Nat → Int)) : Nat × Nat × (Nat → Int) := a_sg tp n (a_nm tp n (18 + 5 * d + 2) 0 1 (a_nm tp n (18 + 5 * d + 1) 0 9 (a_nm tp n (18 + 5 * d + 0) 0 2 (a_nx tp n S))))
def p_d2 (d : Nat) (X : Nat × Nat × (Nat → Int)) : Nat × Nat × (Nat → Int) := a_st (18 + 5 * d + 3) 0 (a_st (18 + 5 * d + 4) (X.2.2 17) X)
def p_d3 (tp : Nat → Nat) (n d : Nat) (X : Nat × Nat × (Nat → Int)) : Nat × Nat × (Nat → Int) := p_sl tp n d 4 (if X.1 = 0 ∧ kw tp n X.2.1 = 0 then a_fl 1 X else X)
def p_d4 (X : Nat × Nat × (Nat → Int)) : Nat × Nat × (Nat → Int) := a_st 16 (X.2.2 16 + 1) X
def p_dish (tp : Nat → Nat) (n : Nat) (S : Nat × Nat × (Nat → Int)) : Nat × Nat × (Nat → Int) := if S.2.2 16 = 8 then a_fl 3 S else p_d4 (p_d3 tp n (S.2.2 16).toNat (p_d2 (S.2.2 16).toNat (p_d1 tp n (S.2.2 16).toNat S)))
def p_pd (tp : Nat → Nat) (n : Nat) (S : Nat × Nat × (Nat → Int)) : Nat × Nat × (Nat → Int) := if S.1 = 0 then (if iw tp n 2 S.2.1 = true then p_dish tp n S else a_fl 1 S) else S
def p_dl (tp : Nat → Nat) (n : Nat) : Nat → Nat × Nat × (Nat → Int) → Nat × Nat × (Nat → Int)
  | 0, S => S
  | m + 1, S => if S.1 = 0 ∧ tso tp n S.2.1 ≠ 0 then p_dl tp n m (p_pd tp n S) else S
def p_al (tp : Nat → Nat) (n : Nat) : Nat → Nat × Nat × (Nat → Int) → Nat × Nat × (Nat → Int)
  | 0, S => S
  | m + 1, S => if S.1 = 0 ∧ iw tp n 1 S.2.1 = true then p_al tp n m (p_away tp n S) else S
def klo (k : Nat) : Int := if k = 5 then 1 else 0
def khi (k : Nat) : Int := if k < 3 ∨ k = 5 then 3 else 9
def p_kn (tp : Nat → Nat) (n : Nat) : Nat → Nat × Nat × (Nat → Int) → Nat × Nat × (Nat → Int)
  | 0, S => S
  | k + 1, S => a_nm tp n k (klo k) (khi k) (p_kn tp n k S)
def p_kit (tp : Nat → Nat) (n : Nat) (S : Nat × Nat × (Nat → Int)) : Nat × Nat × (Nat → Int) := a_sg tp n (p_kn tp n 7 (a_wd tp n 0 S))
def p_all (tp : Nat → Nat) (n : Nat) : Nat × Nat × (Nat → Int) := p_dl tp n 9 (p_pd tp n (p_al tp n 5 (p_kit tp n (0, 0, fun _ => 0))))
-- what the steps do to the book
theorem nx_B {tp : Nat → Nat} {n : Nat} {S : Nat × Nat × (Nat → Int)} : (a_nx tp n S).2.2 = S.2.2 ∧ ((a_nx tp n S).1 = 0 ↔ S.1 = 0) := by
  unfold a_nx; split
  · exact ⟨rfl, ⟨fun _ => by assumption, fun _ => rfl⟩⟩
  · exact ⟨rfl, Iff.rfl⟩
theorem sg_B {tp : Nat → Nat} {n : Nat} {S : Nat × Nat × (Nat → Int)} : (a_sg tp n S).2.2 = S.2.2 ∧ ((a_sg tp n S).1 = 0 → S.1 = 0) := by
  unfold a_sg; split
  · split
    · exact ⟨rfl, fun _ => by assumption⟩
    · exact ⟨rfl, fun _ => by assumption⟩
  · exact ⟨rfl, fun h => h⟩
theorem wd_B {tp : Nat → Nat} {n w : Nat} {S : Nat × Nat × (Nat → Int)} : (a_wd tp n w S).2.2 = S.2.2 ∧ ((a_wd tp n w S).1 = 0 → S.1 = 0) := by
  unfold a_wd; split
  · split
    · exact ⟨rfl, fun _ => by assumption⟩
    · exact ⟨rfl, fun _ => by assumption⟩
  · exact ⟨rfl, fun h => h⟩
theorem fl_B {k : Nat} {S : Nat × Nat × (Nat → Int)} (hk : 1 ≤ k) : ¬ (a_fl k S).1 = 0 := by
  unfold a_fl; split
  · show ¬ k = 0; omega
  · assumption
theorem nm_B {tp : Nat → Nat} {n j : Nat} {l h : Int} {S : Nat × Nat × (Nat → Int)} (e : (a_nm tp n j l h S).1 = 0) : S.1 = 0 ∧ ∃ v, l ≤ v ∧ v ≤ h ∧ (a_nm tp n j l h S).2.2 = upB S.2.2 j v := by
  unfold a_nm at e ⊢
  by_cases h1 : S.1 = 0
  · rw [if_pos h1] at e ⊢
    by_cases h2 : tso tp n S.2.1 = 2
    · rw [if_pos h2] at e ⊢
      by_cases h3 : l ≤ tva tp n S.2.1 ∧ tva tp n S.2.1 ≤ h
      · rw [if_pos h3]; exact ⟨h1, _, h3.1, h3.2, rfl⟩
      · rw [if_neg h3] at e; exact absurd (show (2 : Nat) = 0 from e) (by decide)
    · rw [if_neg h2] at e; exact absurd (show (1 : Nat) = 0 from e) (by decide)
  · rw [if_neg h1] at e; exact absurd e h1
theorem st_B {j : Nat} {v : Int} {S : Nat × Nat × (Nat → Int)} : ((a_st j v S).1 = 0 ↔ S.1 = 0) ∧ (S.1 = 0 → (a_st j v S).2.2 = upB S.2.2 j v) := by
  unfold a_st
  by_cases h1 : S.1 = 0
  · rw [if_pos h1]; exact ⟨⟨fun _ => h1, fun _ => rfl⟩, fun _ => rfl⟩
  · rw [if_neg h1]; exact ⟨Iff.rfl, fun y => absurd y h1⟩
theorem fz_nx {tp : Nat → Nat} {n : Nat} {S : Nat × Nat × (Nat → Int)} (h : ¬ S.1 = 0) : a_nx tp n S = S := if_neg h
theorem fz_sg {tp : Nat → Nat} {n : Nat} {S : Nat × Nat × (Nat → Int)} (h : ¬ S.1 = 0) : a_sg tp n S = S := if_neg h
theorem fz_nm {tp : Nat → Nat} {n j : Nat} {l e : Int} {S : Nat × Nat × (Nat → Int)} (h : ¬ S.1 = 0) : a_nm tp n j l e S = S := if_neg h
theorem fz_st {j : Nat} {v : Int} {S : Nat × Nat × (Nat → Int)} (h : ¬ S.1 = 0) : a_st j v S = S := if_neg h
theorem fz_fl {k : Nat} {S : Nat × Nat × (Nat → Int)} (h : ¬ S.1 = 0) : a_fl k S = S := if_neg h
theorem fz_sl {tp : Nat → Nat} {n d m : Nat} {S : Nat × Nat × (Nat → Int)} (h : ¬ S.1 = 0) : p_sl tp n d m S = S := by
  cases m with
  | zero => rfl
  | succ m => exact if_neg (fun y => h y.1)
theorem fz_dl {tp : Nat → Nat} {n m : Nat} {S : Nat × Nat × (Nat → Int)} (h : ¬ S.1 = 0) : p_dl tp n m S = S := by
  cases m with
  | zero => rfl
  | succ m => exact if_neg (fun y => h y.1)
theorem fz_al {tp : Nat → Nat} {n m : Nat} {S : Nat × Nat × (Nat → Int)} (h : ¬ S.1 = 0) : p_al tp n m S = S := by
  cases m with
  | zero => rfl
  | succ m => exact if_neg (fun y => h y.1)
section CLS
variable {tp : Nat → Nat} {n : Nat} {b c1 c4 c10 : Nat} {K K2 : Nat → Prop} {U V : St} {S : Nat × Nat × (Nat → Int)}
theorem CR_c1 {c : Nat} (h : CR tp n b c1 c4 c10 K U S) (hb : b = 46 ∨ b = 61) : CR tp n b c c4 c10 K (sF U b 1 (iz c)) S := by
  obtain ⟨h1, h2, h3, h4, h5⟩ := h
  refine ⟨by rw [gF_F, if_neg (by omega)]; exact h1, h2, tkX_fr fr_1 (fun c hc hw => by omega) h3, ⟨by rw [gF_F, if_pos ⟨rfl, rfl⟩], ?_, ?_, ?_, ?_⟩, h5⟩
  · rw [gF_F, if_neg (by omega)]; exact h4.2.1
  · rw [gF_F, if_neg (by omega)]; exact h4.2.2.1
  · rw [gF_F, if_neg (by omega)]; exact h4.2.2.2.1
  · rw [gF_F, if_neg (by omega)]; exact h4.2.2.2.2
theorem CR_c4 {c : Nat} (h : CR tp n b c1 c4 c10 K U S) (hb : b = 46 ∨ b = 61) : CR tp n b c1 c c10 K (sF U b 4 (iz c)) S := by
  obtain ⟨h1, h2, h3, h4, h5⟩ := h
  refine ⟨by rw [gF_F, if_neg (by omega)]; exact h1, h2, tkX_fr fr_1 (fun c hc hw => by omega) h3, ⟨?_, by rw [gF_F, if_pos ⟨rfl, rfl⟩], ?_, ?_, ?_⟩, h5⟩
  · rw [gF_F, if_neg (by omega)]; exact h4.1
  · rw [gF_F, if_neg (by omega)]; exact h4.2.2.1
  · rw [gF_F, if_neg (by omega)]; exact h4.2.2.2.1
  · rw [gF_F, if_neg (by omega)]; exact h4.2.2.2.2
theorem CR_c10 {c : Nat} (h : CR tp n b c1 c4 c10 K U S) (hb : b = 46 ∨ b = 61) : CR tp n b c1 c4 c K (sF U b 10 (iz c)) S := by
  obtain ⟨h1, h2, h3, h4, h5⟩ := h
  refine ⟨by rw [gF_F, if_neg (by omega)]; exact h1, h2, tkX_fr fr_1 (fun c hc hw => by omega) h3, ⟨?_, ?_, by rw [gF_F, if_pos ⟨rfl, rfl⟩], ?_, ?_⟩, h5⟩
  · rw [gF_F, if_neg (by omega)]; exact h4.1
  · rw [gF_F, if_neg (by omega)]; exact h4.2.1
  · rw [gF_F, if_neg (by omega)]; exact h4.2.2.2.1
  · rw [gF_F, if_neg (by omega)]; exact h4.2.2.2.2
def KB (c0 c1 c4 c10 x : Nat) : Prop := x < c0 ∨ (8 ≤ x ∧ x < 8 + 2 * c1) ∨ (18 ≤ x ∧ x < 18 + 5 * c4) ∨ (58 ≤ x ∧ x < 58 + 6 * c10)
theorem b_sh (hb : b = 46 ∨ b = 61) : sh b = .inr 1 := by rcases hb with rfl | rfl <;> rfl
theorem aj_w {i k : Nat} (hi : i < 4) (hk : k < 2) : aj (8 + 2 * i + k) = 2 + k ∧ ij (8 + 2 * i + k) = i ∧ ofj (8 + 2 * i + k) = 0 ∧ okj (8 + 2 * i + k) := by
  unfold aj ij ofj okj
  simp (disch := omega) only [if_pos, if_neg]
  exact ⟨by omega, by omega, trivial, by omega⟩
theorem aj_d {i k : Nat} (hi : i < 8) (hk : k < 5) : aj (18 + 5 * i + k) = 4 + k ∧ ij (18 + 5 * i + k) = i ∧ ofj (18 + 5 * i + k) = 0 ∧ okj (18 + 5 * i + k) := by
  unfold aj ij ofj okj
  simp (disch := omega) only [if_pos, if_neg]
  exact ⟨by omega, by omega, trivial, by omega⟩
theorem aj_s {i k : Nat} (hi : i < 24) (hk : k < 6) : aj (58 + 6 * i + k) = 9 + k ∧ ij (58 + 6 * i + k) = i ∧ ofj (58 + 6 * i + k) = (if k = 0 then 1 else 0) ∧ okj (58 + 6 * i + k) := by
  unfold aj ij ofj okj
  rw [show 58 + 6 * i + k - 58 = 6 * i + k by omega]
  have e : (6 * i + k) % 6 = k := by omega
  rw [e]
  simp (disch := omega) only [if_pos, if_neg]
  refine ⟨trivial, by omega, ?_, by omega⟩
  by_cases h : k = 0
  · rw [if_pos (by omega), if_pos h]
  · rw [if_neg (by omega), if_neg h]
-- a number read and put down
theorem CR_nset {j a i : Nat} {lo hi : Int32} {l e : Int} (h : CR tp n b c1 c4 c10 K U S) (hb : b = 46 ∨ b = 61) (hl : S.1 = 0 → lo = iz l ∧ -1000000 ≤ l ∧ l ≤ 1000000) (he : hi = iz e ∧ -1000000 ≤ e ∧ e ≤ 1000000) (hj : okj j) (ho : ofj j = 0) (ha : a = b + aj j) (hi' : i = ij j) (hK : ∀ x, K2 x → x = j ∨ K x) : ok_rd_takeNumber U lo hi ∧ (fun r : Int32 × St => CR tp n b c1 c4 c10 K2 (sA r.2 a i r.1) (a_nm tp n j l e S) ∧ CR tp n b c1 c4 c10 (fun _ => False) r.2 (a_nm tp n j l e S) ∧ ((a_nm tp n j l e S).1 = 0 → r.1 = iz ((a_nm tp n j l e S).2.2 j))) (x_rd_takeNumber U lo hi) := by
  obtain ⟨ok, g1, g2⟩ := CR_num (K2 := fun x => K x ∧ x ≠ j) (j := j) h hb hl he (fun x hx => hx)
  refine ⟨ok, CR_set g1 hb hj ha hi' (fun y => by rw [g2 y, ho, Int.sub_zero]) (fun x hx => ?_), CR_w g1 (fun x hx => hx.elim), g2⟩
  by_cases e : x = j
  · exact Or.inl e
  · exact Or.inr ⟨(hK x hx).resolve_left e, e⟩
theorem c_away (h : CR tp n b c1 c4 c10 (KB 7 c1 c4 c10) U S) (hb : b = 46 ∨ b = 61) (h0 : S.1 = 0) (hw : iw tp n 1 S.2.1 = true) (h7 : S.2.2 7 = c1) (hc : c1 ≤ 4) : ok_rd_readAway U b ∧ (fun V => ∃ c : Nat, CR tp n b c c4 c10 (KB 7 c c4 c10) V (p_away tp n S) ∧ ((p_away tp n S).1 = 0 → c = c1 + 1) ∧ c ≤ 4) (x_rd_readAway U b) := by
  refine so_rd_readAway (Q := fun V => ∃ c : Nat, CR tp n b c c4 c10 (KB 7 c c4 c10) V (p_away tp n S) ∧ ((p_away tp n S).1 = 0 → c = c1 + 1) ∧ c ≤ 4) _ ?_
  unfold wp_rd_readAway
  rw [h.2.2.2.1.1, z_4, iz_lt (by omega)]
  refine ⟨b_sh hb, fun y => ?_, fun y => ?_⟩
  · have e0 : p_away tp n S = a_st 7 (S.2.2 7 + 1) (a_sg tp n (p_aw2 tp n c1 S)) := by
      unfold p_away; rw [if_neg (by omega), h7, Int.toNat_natCast]
    obtain ⟨ok1, h1⟩ := CR_wd (w := 1) h hb (by omega)
    have e1 : a_wd tp n 1 S = a_nx tp n S := by unfold a_wd a_nx; rw [if_pos h0, if_pos h0, if_pos hw]
    rw [e1] at h1
    generalize x_rd_takeWord U 1 = U1 at *
    obtain ⟨w1, w2, w3, w4⟩ := aj_w (i := c1) (k := 0) (by omega) (by omega)
    obtain ⟨x1, x2, x3, x4⟩ := aj_w (i := c1) (k := 1) (by omega) (by omega)
    obtain ⟨ok2, g1, g2, g3⟩ := CR_nset (K2 := fun x => x = 8 + 2 * c1 + 0 ∨ KB 7 c1 c4 c10 x) (j := 8 + 2 * c1 + 0) (a := b + 2) (i := c1) (lo := 0) (hi := 59) (l := 0) (e := 59) h1 hb (fun _ => ⟨rfl, by omega⟩) ⟨rfl, by omega⟩ w4 w3 (by omega) (by omega) (fun x hx => hx)
    generalize x_rd_takeNumber U1 0 59 = R at *
    refine ⟨ok1, ok2, jo ?_⟩
    rw [g2.2.2.2.1.1]
    refine ⟨in_nat (by omega) (by omega), jo ?_⟩
    rw [ix_nat (by omega)]
    have ep : a_nm tp n (8 + 2 * c1 + 0) 0 59 (a_nx tp n S) = p_aw1 tp n c1 S := rfl
    rw [ep] at g1 g2 g3
    generalize sA R.2 (b + 2) c1 R.1 = U2 at *
    have rg : (p_aw1 tp n c1 S).1 = 0 → 0 ≤ (p_aw1 tp n c1 S).2.2 (8 + 2 * c1 + 0) ∧ (p_aw1 tp n c1 S).2.2 (8 + 2 * c1 + 0) ≤ 59 := fun z => by
      obtain ⟨_, v, v1, v2, v3⟩ := nm_B (show (a_nm tp n (8 + 2 * c1 + 0) 0 59 (a_nx tp n S)).1 = 0 from z)
      rw [← ep, v3, upB_s]; exact ⟨v1, v2⟩
    obtain ⟨ok3, k1, k2, k3⟩ := CR_nset (K2 := fun x => x = 8 + 2 * c1 + 1 ∨ x = 8 + 2 * c1 + 0 ∨ KB 7 c1 c4 c10 x) (j := 8 + 2 * c1 + 1) (a := b + 3) (i := c1) (lo := R.1) (hi := 59) (l := (p_aw1 tp n c1 S).2.2 (8 + 2 * c1 + 0)) (e := 59) g1 hb (fun z => ⟨g3 z, by have := rg z; omega⟩) ⟨rfl, by omega⟩ x4 x3 (by omega) (by omega) (fun x hx => hx)
    rw [g1.2.2.2.1.1]
    refine ⟨ok3, in_nat (by omega) (by omega), jo ?_⟩
    rw [ix_nat (by omega)]
    have ep2 : a_nm tp n (8 + 2 * c1 + 1) ((p_aw1 tp n c1 S).2.2 (8 + 2 * c1 + 0)) 59 (p_aw1 tp n c1 S) = p_aw2 tp n c1 S := rfl
    rw [ep2] at k1
    generalize sA (x_rd_takeNumber U2 R.1 59).2 (b + 3) c1 (x_rd_takeNumber U2 R.1 59).1 = U3 at *
    obtain ⟨ok4, m1⟩ := CR_sg k1 hb
    generalize x_rd_takeSign U3 = U4 at *
    refine ⟨ok4, c1 + 1, ?_, fun _ => rfl, by omega⟩
    rw [m1.2.2.2.1.1, z_1, iz_add, e0]
    exact CR_st (CR_c1 (c := c1 + 1) m1 hb) (fun x hx => by
      unfold KB at hx ⊢
      omega)
  · have e0 : p_away tp n S = a_fl 3 S := by unfold p_away; rw [if_pos (by omega)]
    rw [e0]
    exact ⟨c1, CR_fl (k := 3) h hb h0 (by omega), fun z => absurd z (fl_B (by omega)), hc⟩
end CLS
