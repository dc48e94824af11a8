/-! ===== the words ===== -/
def tch (w : Nat) : List Nat := ([[107, 105, 116, 99, 104, 101, 110], [97, 119, 97, 121], [100, 105, 115, 104], [114, 105, 110, 103], [111, 118, 101, 110], [104, 97, 110, 100], [114, 101, 115, 116], [107, 101, 101, 112]] : List (List Nat)).getD w []
def tfo (c : Nat → Nat) : Nat → Int
  | 0 => 0
  | j + 1 => tfo c j * 256 + (c j : Int)
theorem tfo_b {c : Nat → Nat} : ∀ L, (∀ i, i < L → c i ≤ 255) → 0 ≤ tfo c L ∧ tfo c L < 256 ^ L := by
  intro L
  induction L with
  | zero => intro _; exact ⟨Int.le_refl 0, by show (0 : Int) < 256 ^ 0; decide⟩
  | succ L ih =>
    intro h
    have a := ih (fun i hi => h i (by omega))
    have b := h L (by omega)
    have e : (256 : Int) ^ (L + 1) = 256 ^ L * 256 := Int.pow_succ 256 L
    show 0 ≤ tfo c L * 256 + (c L : Int) ∧ tfo c L * 256 + (c L : Int) < _
    rw [e]
    generalize (256 : Int) ^ L = X at *
    omega
theorem tfo_7 {c : Nat → Nat} {L : Nat} (hL : L < 8) (h : ∀ i, i < L → c i ≤ 255) : 0 ≤ tfo c L ∧ tfo c L < 72057594037927936 := by
  have a := tfo_b L h
  have b : (256 : Int) ^ L ≤ 256 ^ 7 := by
    have b1 : (256 : Nat) ^ L ≤ 256 ^ 7 := Nat.pow_le_pow_right (by decide) (by omega)
    have b2 : ((256 ^ L : Nat) : Int) ≤ ((256 ^ 7 : Nat) : Int) := Int.ofNat_le.2 b1
    rw [Int.natCast_pow, Int.natCast_pow] at b2
    exact b2
  have e : (256 : Int) ^ 7 = 72057594037927936 := by decide
  omega
theorem fo_u {c d : Nat → Nat} : ∀ L L' : Nat, (∀ i, i < L → 1 ≤ c i ∧ c i ≤ 255) → (∀ i, i < L' → 1 ≤ d i ∧ d i ≤ 255) → (tfo c L = tfo d L' ↔ L = L' ∧ ∀ i, i < L → c i = d i) := by
  intro L
  induction L with
  | zero =>
    intro L' _ h2
    cases L' with
    | zero => exact ⟨fun _ => ⟨rfl, fun i hi => absurd hi (by omega)⟩, fun _ => rfl⟩
    | succ L' =>
      have a := tfo_b (c := d) L' (fun i hi => (h2 i (by omega)).2)
      have b := h2 L' (by omega)
      refine ⟨fun y => ?_, fun y => absurd y.1 (by omega)⟩
      have y : (0 : Int) = tfo d L' * 256 + (d L' : Int) := y
      omega
  | succ L ih =>
    intro L' h1 h2
    have a0 := tfo_b (c := c) L (fun i hi => (h1 i (by omega)).2)
    have b0 := h1 L (by omega)
    cases L' with
    | zero =>
      refine ⟨fun y => ?_, fun y => absurd y.1 (by omega)⟩
      have y : tfo c L * 256 + (c L : Int) = 0 := y
      omega
    | succ L' =>
      have a := tfo_b (c := d) L' (fun i hi => (h2 i (by omega)).2)
      have b := h2 L' (by omega)
      have k := ih L' (fun i hi => h1 i (by omega)) (fun i hi => h2 i (by omega))
      show (tfo c L * 256 + (c L : Int) = tfo d L' * 256 + (d L' : Int)) ↔ _
      refine ⟨fun y => ?_, fun y => ?_⟩
      · obtain ⟨rfl, k2⟩ := k.1 (by omega)
        refine ⟨rfl, fun i hi => ?_⟩
        rcases Nat.lt_or_ge i L with q | q
        · exact k2 i q
        · have : i = L := by omega
          subst this
          omega
      · obtain ⟨y1, y2⟩ := y
        have e : L = L' := by omega
        subst e
        have := k.2 ⟨rfl, fun i hi => y2 i (by omega)⟩
        have := y2 L (by omega)
        omega
def iwP (tp : Nat → Nat) (n w q : Nat) : Prop := tso tp n q = 1 ∧ tbe tp n q - tpl tp n q = (tch w).length ∧ ∀ i, i < (tch w).length → tp (tpl tp n q + i) = (tch w).getD i 0
def iw (tp : Nat → Nat) (n w q : Nat) : Bool := decide (tso tp n q = 1 ∧ tbe tp n q - tpl tp n q = (tch w).length ∧ ∀ i, i < (tch w).length → tp (tpl tp n q + i) = (tch w).getD i 0)
theorem iw_P {tp : Nat → Nat} {n w q : Nat} : (iw tp n w q = true) ↔ iwP tp n w q := by unfold iw iwP; exact decide_eq_true_iff
theorem sl_8 : ∀ w, w < 8 → Int32.ofNat (mx_slen.getD w 0) = iz ((tch w).length : Int) := by decide +kernel
theorem sl_9 : ∀ w, w < 8 → mx_slen.getD w 0 = (tch w).length ∧ (tch w).length < 8 := by decide +kernel
theorem sc_8 : ∀ w, w < 8 → ∀ i, i < (tch w).length → (((mx_sbyt.getD w []).getD (iz (i : Int)).toNatClampNeg 0 &&& 255).toUInt32 % 65536).toInt32 = iz ((tch w).getD i 0 : Nat) := by decide +kernel
theorem sd_8 : ∀ w, w < 8 → ∀ i, i < (tch w).length → 97 ≤ (tch w).getD i 0 ∧ (tch w).getD i 0 ≤ 122 := by decide +kernel
section WRD
variable {tp : Nat → Nat} {n : Nat}
def tkX (tp : Nat → Nat) (n q : Nat) (U : St) : Prop := TX tp n U ∧ q ≤ n ∧ U.1 13 3 = iz (tpl tp n q) ∧ U.1 13 4 = iz (tbe tp n q) ∧ U.1 13 5 = iz (tso tp n q) ∧ (tso tp n q = 2 → U.1 13 6 = iz (tva tp n q))
theorem tso_4 {q : Nat} : tso tp n q ≤ 4 := by
  unfold tso
  split
  · omega
  · split
    · omega
    · split
      · split <;> omega
      · split <;> omega
theorem t_let (hn : n ≤ 600) {q : Nat} (hq : q ≤ n) (h : tso tp n q = 1) : ∀ j, tpl tp n q ≤ j → j < tbe tp n q → 97 ≤ tp j ∧ tp j ≤ 122 := by
  have a := feS (tp := tp) hn hq
  have b := feL (tp := tp) hn a.2.1
  intro j j1 j2
  unfold tso at h
  unfold tbe at j2
  by_cases k1 : n ≤ tpl tp n q
  · rw [if_pos k1] at h; omega
  · rw [if_neg k1] at h j2
    by_cases k2 : tL tp n (tpl tp n q) = true
    · rw [if_pos k2] at h j2
      exact (tL_t.1 (b.2.2.1 j j1 j2)).2
    · rw [if_neg k2] at h
      exfalso
      split at h
      · split at h <;> omega
      · split at h <;> omega
theorem s_isW {U : St} {q w : Nat} (h : tkX tp n q U) (hw : w < 8) : ok_rd_isWord U w ∧ (x_rd_isWord U w = 0 ↔ ¬ (iw tp n w q = true)) := by
  rw [iw_P]
  obtain ⟨hU, hq, u3, u4, u5, u6⟩ := h
  have hn := hU.1
  have tb := t_be (tp := tp) hn hq
  have t4 := tso_4 (tp := tp) (n := n) (q := q)
  refine so_rd_isWord (Q := fun v => v = 0 ↔ ¬ iwP tp n w q) w ?_
  unfold wp_rd_isWord
  have es : x_slen U w = iz ((tch w).length : Int) := sl_8 w hw
  have e9 := sl_9 w hw
  rw [u5, u4, u3, es, iz_sub, z_1, iz_eq (by omega), iz_eq (by omega)]
  refine ⟨fun h1 => ⟨hw, hw, fun h2 => ?_, fun h2 => ⟨fun _ y => h2 (by have := y.2.1; omega), fun _ => rfl⟩⟩, fun h1 => ⟨fun _ y => h1 (by have := y.1; omega), fun _ => rfl⟩⟩
  refine wr_rd_isWord_28 U w (fun v => ∃ i : Nat, i ≤ (tch w).length ∧ v = iz i ∧ ∀ k, k < i → tp (tpl tp n q + k) = (tch w).getD k 0) (fun v => (10 - v.toInt).toNat) ?_ _ _ (by decide) ⟨0, by omega, rfl, fun k hk => absurd hk (by omega)⟩
  rintro _ ⟨i, i1, rfl, i3⟩
  unfold bd_rd_isWord_28
  rw [es, iz_le (by omega), u3, iz_add]
  refine ⟨hw, hw, fun h3 => ⟨fun y => absurd y (by decide), fun y => absurd ⟨by omega, by omega, fun k hk => i3 k (by omega)⟩ y⟩, fun h3 => ?_⟩
  have e2 : iz (((tpl tp n q : Nat) : Int) + (i : Int)) = iz ((tpl tp n q + i : Nat) : Int) := iz_inj (by omega)
  obtain ⟨b1, b2⟩ := hU.2.2 (tpl tp n q + i) (by omega)
  have ec : x_sch U w (iz i) = iz ((tch w).getD i 0 : Nat) := sc_8 w hw i (by omega)
  have eb := sd_8 w hw i (by omega)
  rw [e2, ix_nat (by omega), b2, ec, iz_eq (by omega)]
  refine ⟨in_nat (by omega) (by omega), ⟨hw, in_nat (by omega) (by omega)⟩, fun h4 => ⟨⟨i + 1, by omega, by rw [z_1, iz_add]; rfl, fun k hk => ?_⟩, ?_⟩, fun h4 => ⟨fun _ y => h4 (by have := y.2.2 i (by omega); omega), fun _ => rfl⟩⟩
  · rcases Nat.lt_or_ge k i with q | q
    · exact i3 k q
    · have : k = i := by omega
      subst this; omega
  · try dsimp only
    rw [z_1, iz_add, iz_t (by omega), iz_t (by omega)]; omega
def tkM (tp : Nat → Nat) (n q : Nat) (U : St) : Prop := TM tp n U ∧ q ≤ n ∧ U.1 571 14 = iz (tpl tp n q) ∧ U.1 571 12 = iz (tbe tp n q) ∧ U.1 571 15 = iz (tbe tp n q) ∧ U.1 571 13 = iz (tcd (tso tp n q))
theorem lz_sh {a c : Int} (ha : 0 ≤ a ∧ a < 281474976710656) (hc : 0 ≤ c ∧ c < 256) : (lz a <<< ((8 : Int32).toInt64 &&& 63)) ||| lz c = lz (a * 256 + c) := by
  obtain ⟨A, rfl⟩ : ∃ A : Nat, a = A := ⟨a.toNat, by omega⟩
  obtain ⟨C, rfl⟩ : ∃ C : Nat, c = C := ⟨c.toNat, by omega⟩
  have e : ∀ x : Nat, (lz (x : Int)).toBitVec = BitVec.ofNat 64 x := fun x => by
    unfold lz
    rw [Int64.toBitVec_ofInt, BitVec.ofInt_natCast]
  have e3 : ((A : Int) * 256 + (C : Int)) = ((A * 256 + C : Nat) : Int) := by omega
  rw [e3, ← Int64.toBitVec_inj, Int64.toBitVec_or, Int64.toBitVec_shiftLeft, BitVec.shiftLeft_eq', e, e, e]
  have e8 : ((((8 : Int32).toInt64 &&& 63) : Int64).toBitVec.smod 64).toNat = 8 := by decide +kernel
  rw [e8]
  apply BitVec.eq_of_toNat_eq
  rw [BitVec.toNat_or, BitVec.toNat_shiftLeft, BitVec.toNat_ofNat, BitVec.toNat_ofNat, BitVec.toNat_ofNat, Nat.mod_eq_of_lt (show A < 2 ^ 64 by omega), Nat.mod_eq_of_lt (show C < 2 ^ 64 by omega), Nat.mod_eq_of_lt (show A * 256 + C < 2 ^ 64 by omega), Nat.mod_eq_of_lt (show A <<< 8 < 2 ^ 64 by rw [Nat.shiftLeft_eq]; omega), ← Nat.shiftLeft_add_eq_or_of_lt (show C < 2 ^ 8 by omega), Nat.shiftLeft_eq]
theorem tcd_2 {s : Nat} (h : s ≤ 4) : (iz (tcd s) = 2 ↔ s = 1) ∧ (iz (tcd s) = 3 ↔ s = 2) ∧ (iz (tcd s) = 4 ↔ s = 3) ∧ (iz (tcd s) = 1 ↔ s = 0) := by
  have : s = 0 ∨ s = 1 ∨ s = 2 ∨ s = 3 ∨ s = 4 := by omega
  rcases this with rfl | rfl | rfl | rfl | rfl <;> decide
def mwv (tp : Nat → Nat) (n f q : Nat) : Int := if f = 0 ∧ tso tp n q = 1 ∧ tbe tp n q - tpl tp n q < 8 then tfo (fun i => tp (tpl tp n q + i)) (tbe tp n q - tpl tp n q) else 0
theorem s_word {U : St} {q f : Nat} (h : tkM tp n q U) (h16 : U.1 571 16 = iz f) (hf : f < 10) : ok_m_word U ∧ x_m_word U = lz (mwv tp n f q) := by
  obtain ⟨hU, hq, u14, u12, u15, u13⟩ := h
  have hn := hU.1
  have tb := t_be (tp := tp) hn hq
  have t4 := tso_4 (tp := tp) (n := n) (q := q)
  refine so_m_word (Q := fun v => v = lz (mwv tp n f q)) ?_
  unfold wp_m_word
  refine wr_m_word_7 U (fun v1 v3 => ∃ k : Nat, tpl tp n q + k ≤ tbe tp n q ∧ v3 = iz ((tpl tp n q + k : Nat) : Int) ∧ v1 = lz (tfo (fun i => tp (tpl tp n q + i)) k) ∧ (k = 0 ∨ (tso tp n q = 1 ∧ tbe tp n q - tpl tp n q < 8))) (fun _ v3 => (601 - v3.toInt).toNat) ?_ _ _ _ (by show (601 - (U.1 571 14).toInt).toNat < 1000; rw [u14, iz_t (by omega)]; omega) ⟨0, by omega, by rw [u14]; rfl, rfl, Or.inl rfl⟩
  rintro _ _ ⟨k, k1, rfl, rfl, k2⟩
  unfold bd_m_word_7
  rw [u15, u13, u14, iz_le (by omega), (tcd_2 t4).1, iz_sub, z_8, iz_le (by omega), h16, eq0 (by omega)]
  have z0 : k = 0 → ¬ (tso tp n q = 1 ∧ tbe tp n q - tpl tp n q < 8) → mwv tp n f q = tfo (fun i => tp (tpl tp n q + i)) k := fun e y => by
    unfold mwv; subst e; rw [if_neg (fun z => y z.2)]; rfl
  have zf : ¬ (f : Int) = 0 → (0 : Int64) = lz (mwv tp n f q) := fun y => by
    unfold mwv; rw [if_neg (fun z => y (by have := z.1; omega))]; rfl
  refine ⟨fun h1 => ⟨fun h2 => congrArg lz ?_, zf⟩, fun h1 => ⟨fun h3 => ⟨fun h4 => ⟨fun h2 => congrArg lz (z0 (by omega) (by omega)).symm, zf⟩, fun h4 => ?_⟩, fun h3 => ⟨fun h2 => congrArg lz (z0 (by omega) (by omega)).symm, zf⟩⟩⟩
  · have ek : k = tbe tp n q - tpl tp n q := by omega
    by_cases y : tso tp n q = 1 ∧ tbe tp n q - tpl tp n q < 8
    · unfold mwv; rw [if_pos ⟨by omega, y⟩, ek]
    · exact (z0 (by omega) y).symm
  · obtain ⟨b1, b2⟩ := hU.2.2 (tpl tp n q + k) (by omega)
    have bb := tfo_7 (c := fun i => tp (tpl tp n q + i)) (L := k) (by omega) (fun i hi => by have := (hU.2.2 (tpl tp n q + i) (by omega)).1; show tp _ ≤ 255; omega)
    have b6 : tfo (fun i => tp (tpl tp n q + i)) k < 281474976710656 := by
      have a := tfo_b (c := fun i => tp (tpl tp n q + i)) k (fun i hi => by have := (hU.2.2 (tpl tp n q + i) (by omega)).1; show tp _ ≤ 255; omega)
      have b : (256 : Int) ^ k ≤ 256 ^ 6 := by
        have b1 : (256 : Nat) ^ k ≤ 256 ^ 6 := Nat.pow_le_pow_right (by decide) (by omega)
        have b2 : ((256 ^ k : Nat) : Int) ≤ ((256 ^ 6 : Nat) : Int) := Int.ofNat_le.2 b1
        rw [Int.natCast_pow, Int.natCast_pow] at b2
        exact b2
      have e : (256 : Int) ^ 6 = 281474976710656 := by decide
      omega
    refine ⟨in_nat (by omega) (by omega), jo ⟨⟨k + 1, by omega, by rw [z_1, iz_add]; rfl, ?_, Or.inr ⟨by omega, by omega⟩⟩, ?_⟩⟩
    · rw [ix_nat (by omega), b2, lz_w (z := (tp (tpl tp n q + k) : Int)) (by omega), ← z_8, lz_sh ⟨bb.1, b6⟩ (by omega)]
      rfl
    · try dsimp only
      rw [z_1, iz_add, iz_t (by omega), iz_t (by omega)]; omega
theorem lz_eq {a b : Int} (ha : 0 ≤ a ∧ a < 9223372036854775808) (hb : 0 ≤ b ∧ b < 9223372036854775808) : lz a = lz b ↔ a = b := by
  refine ⟨fun h => ?_, fun h => by rw [h]⟩
  have := congrArg Int64.toInt h
  rw [lz_t (by omega), lz_t (by omega)] at this
  exact this
theorem mw_p {q f w : Nat} (hn : n ≤ 600) (hq : q ≤ n) (ht : ∀ j, j < n → tp j < 256) (hw : w < 8) : lg_cmp (lz (mwv tp n f q)) (lz (tfo (fun i => (tch w).getD i 0) (tch w).length)) = 0 ↔ f = 0 ∧ iw tp n w q = true := by
  rw [iw_P]
  have tb := t_be (tp := tp) hn hq
  have e9 := sl_9 w hw
  have sd := sd_8 w hw
  have b2 := tfo_7 (c := fun i => (tch w).getD i 0) (L := (tch w).length) e9.2 (fun i hi => by have := sd i hi; show (tch w).getD i 0 ≤ 255; omega)
  have hp : (0 : Int) < tfo (fun i => (tch w).getD i 0) (tch w).length := by
    have : ∀ w, w < 8 → (0 : Int) < tfo (fun i => (tch w).getD i 0) (tch w).length := by decide +kernel
    exact this w hw
  by_cases y : f = 0 ∧ tso tp n q = 1 ∧ tbe tp n q - tpl tp n q < 8
  · have b1 := tfo_7 (c := fun i => tp (tpl tp n q + i)) (L := tbe tp n q - tpl tp n q) y.2.2 (fun i hi => by have := ht (tpl tp n q + i) (by omega); show tp _ ≤ 255; omega)
    have tl := t_let hn hq y.2.1
    unfold mwv iwP
    rw [if_pos y, lg_eq, lz_eq (by omega) (by omega), fo_u _ _ (fun i hi => by have := tl (tpl tp n q + i) (by omega) (by omega); show 1 ≤ tp _ ∧ tp _ ≤ 255; omega) (fun i hi => by have := sd i hi; show 1 ≤ (tch w).getD i 0 ∧ (tch w).getD i 0 ≤ 255; omega)]
    refine ⟨fun z => ⟨y.1, y.2.1, z.1, fun i hi => z.2 i (by omega)⟩, fun z => ⟨z.2.2.1, fun i hi => z.2.2.2 i (by omega)⟩⟩
  · unfold mwv iwP
    rw [if_neg y, lg_eq, lz_eq (by omega) (by omega)]
    refine ⟨fun z => by omega, fun z => absurd ⟨z.1, z.2.1, by omega⟩ y⟩
theorem tc_8 : (30233771112949102 : Int) = tfo (fun i => (tch 0).getD i 0) (tch 0).length ∧ (1635213689 : Int) = tfo (fun i => (tch 1).getD i 0) (tch 1).length ∧ (1684632424 : Int) = tfo (fun i => (tch 2).getD i 0) (tch 2).length ∧ (1919512167 : Int) = tfo (fun i => (tch 3).getD i 0) (tch 3).length ∧ (1870030190 : Int) = tfo (fun i => (tch 4).getD i 0) (tch 4).length ∧ (1751215716 : Int) = tfo (fun i => (tch 5).getD i 0) (tch 5).length ∧ (1919251316 : Int) = tfo (fun i => (tch 6).getD i 0) (tch 6).length ∧ (1801807216 : Int) = tfo (fun i => (tch 7).getD i 0) (tch 7).length := by decide +kernel
def kw (tp : Nat → Nat) (n q : Nat) : Nat := if iw tp n 3 q = true then 1 else if iw tp n 4 q = true then 2 else if iw tp n 5 q = true then 3 else if iw tp n 6 q = true then 4 else if iw tp n 7 q = true then 5 else 0
theorem kw_5 {q : Nat} : kw tp n q ≤ 5 := by
  unfold kw
  repeat (first | omega | split)
theorem s_stW {U : St} {q : Nat} (h : tkX tp n q U) : ok_rd_stepWord U ∧ x_rd_stepWord U = iz ((kw tp n q : Int) - 1) := by
  refine so_rd_stepWord (Q := fun v => v = iz ((kw tp n q : Int) - 1)) ?_
  unfold wp_rd_stepWord kw
  obtain ⟨o3, e3⟩ := s_isW (w := 3) h (by omega)
  obtain ⟨o4, e4⟩ := s_isW (w := 4) h (by omega)
  obtain ⟨o5, e5⟩ := s_isW (w := 5) h (by omega)
  obtain ⟨o6, e6⟩ := s_isW (w := 6) h (by omega)
  obtain ⟨o7, e7⟩ := s_isW (w := 7) h (by omega)
  rw [e3, e4, e5, e6, e7]
  refine ⟨o3, fun h3 => ⟨o4, fun h4 => ⟨o5, fun h5 => ⟨o6, fun h6 => ⟨o7, fun h7 => ?_, fun h7 => ?_⟩, fun h6 => ?_⟩, fun h5 => ?_⟩, fun h4 => ?_⟩, fun h3 => ?_⟩
  · rw [if_neg h3, if_neg h4, if_neg h5, if_neg h6, if_neg h7]; rfl
  · rw [if_neg h3, if_neg h4, if_neg h5, if_neg h6, if_pos (Classical.byContradiction h7)]; rfl
  · rw [if_neg h3, if_neg h4, if_neg h5, if_pos (Classical.byContradiction h6)]; rfl
  · rw [if_neg h3, if_neg h4, if_pos (Classical.byContradiction h5)]; rfl
  · rw [if_neg h3, if_pos (Classical.byContradiction h4)]; rfl
  · rw [if_pos (Classical.byContradiction h3)]; rfl
theorem tM_t {q : Nat} {U : St} (h : tkM tp n q U) : ∀ j, j < n → tp j < 256 := fun j hj => (h.1.2.2 j hj).1
theorem s_knW {U : St} {q f : Nat} (h : tkM tp n q U) (h16 : U.1 571 16 = iz f) (hf : f < 10) : ok_m_kindOfWord U ∧ x_m_kindOfWord U = iz (if f = 0 ∧ kw tp n q ≠ 0 then (kw tp n q : Int) else -1000000) := by
  refine so_m_kindOfWord (Q := fun v => v = iz (if f = 0 ∧ kw tp n q ≠ 0 then (kw tp n q : Int) else -1000000)) ?_
  obtain ⟨ow, ew⟩ := s_word h h16 hf
  have mp := fun w hw => mw_p (f := f) (w := w) h.1.1 h.2.1 (tM_t h) hw
  unfold wp_m_kindOfWord
  rw [ew, show (1919512167 : Int64) = _ from congrArg lz tc_8.2.2.2.1, show (1870030190 : Int64) = _ from congrArg lz tc_8.2.2.2.2.1, show (1751215716 : Int64) = _ from congrArg lz tc_8.2.2.2.2.2.1, show (1919251316 : Int64) = _ from congrArg lz tc_8.2.2.2.2.2.2.1, show (1801807216 : Int64) = _ from congrArg lz tc_8.2.2.2.2.2.2.2, mp 3 (by omega), mp 4 (by omega), mp 5 (by omega), mp 6 (by omega), mp 7 (by omega)]
  unfold kw
  by_cases hz : f = 0
  · subst hz
    have r : ∀ p : Prop, (0 = 0 ∧ p) ↔ p := fun p => ⟨fun y => y.2, fun y => ⟨rfl, y⟩⟩
    simp only [r, true_and]
    refine ⟨ow, fun h3 => ?_, fun h3 => ⟨fun h4 => ?_, fun h4 => ⟨fun h5 => ?_, fun h5 => ⟨fun h6 => ?_, fun h6 => ⟨fun h7 => ?_, fun h7 => ?_⟩⟩⟩⟩⟩
    · rw [if_pos h3]; rfl
    · rw [if_neg h3, if_pos h4]; rfl
    · rw [if_neg h3, if_neg h4, if_pos h5]; rfl
    · rw [if_neg h3, if_neg h4, if_neg h5, if_pos h6]; rfl
    · rw [if_neg h3, if_neg h4, if_neg h5, if_neg h6, if_pos h7]; rfl
    · rw [if_neg h3, if_neg h4, if_neg h5, if_neg h6, if_neg h7]; rfl
  · have r : ∀ p : Prop, (f = 0 ∧ p) ↔ False := fun p => ⟨fun y => hz y.1, fun y => y.elim⟩
    simp only [r, if_false]
    exact ⟨ow, fun y => y.elim, fun _ => ⟨fun y => y.elim, fun _ => ⟨fun y => y.elim, fun _ => ⟨fun y => y.elim, fun _ => ⟨fun y => y.elim, fun _ => rfl⟩⟩⟩⟩⟩
theorem s_mw {U : St} {q f : Nat} (h : tkM tp n q U) (h16 : U.1 571 16 = iz f) (hf : f < 10) : ok_m_word U ∧ (lg_cmp (x_m_word U) 30233771112949102 = 0 ↔ f = 0 ∧ iw tp n 0 q = true) ∧ (lg_cmp (x_m_word U) 1635213689 = 0 ↔ f = 0 ∧ iw tp n 1 q = true) ∧ (lg_cmp (x_m_word U) 1684632424 = 0 ↔ f = 0 ∧ iw tp n 2 q = true) := by
  obtain ⟨ow, ew⟩ := s_word h h16 hf
  have mp := fun w hw => mw_p (f := f) (w := w) h.1.1 h.2.1 (tM_t h) hw
  rw [ew, show (30233771112949102 : Int64) = _ from congrArg lz tc_8.1, show (1635213689 : Int64) = _ from congrArg lz tc_8.2.1, show (1684632424 : Int64) = _ from congrArg lz tc_8.2.2.1, mp 0 (by omega), mp 1 (by omega), mp 2 (by omega)]
  exact ⟨ow, Iff.rfl, Iff.rfl, Iff.rfl⟩
end WRD
