/-! ===== the planner's search: what holds on the road ===== -/
noncomputable def opm (B : Nat → Int) (t h o : Int) (cn : Nat → Nat → Prop) (D : Nat) (c : Nat → Nat) (d e : Nat) : Nat := msk (fun i => cn e i ∧ ∀ x, x < d → D.testBit x = true → agP B t h o cn x (c x) e i) (chn B e)
noncomputable def lim (B : Nat → Int) (D : Nat) (any : Bool) (b : Option (Nat → Nat)) : Int := match b with
  | none => 1000000
  | some c0 => if any then 0 else csm B D 8 c0
def rst (D : Nat) (chx : Nat → Int) (d : Nat) : Int := sm (fun e => if D.testBit e = true then chx e else 0) 8 - sm (fun e => if D.testBit e = true then chx e else 0) d
def BsQ (T : St) (B : Nat → Int) (D : Nat) (any : Bool) (b : Option (Nat → Nat)) : Prop := T.1 80 14 = (if any then 1 else 0) ∧ T.1 80 13 = iz (lim B D any b) ∧ (b = none → T.1 80 17 = iz (-1000000)) ∧ ∀ c0, b = some c0 → T.1 80 17 = iz (csm B D 8 c0) ∧ ∀ d, d < 8 → D.testBit d = true → c0 d < chn B d ∧ T.2.2.1 96 (sn D d) = iz ((12 * d + c0 d : Nat) : Int)
def PrS (B : Nat → Int) (t h o : Int) (cn : Nat → Nat → Prop) (S b' ki D : Nat) (any : Bool) (chx : Nat → Int) (T : St) (d : Nat) (c : Nat → Nat) (b : Option (Nat → Nat)) : Prop :=
  PlQ T B t h o cn S b' ki ∧ Sea T D ∧ (∀ e, e ≤ 8 → (e < 8 → D.testBit e = true) → T.2.2.1 97 (sn D e) = iz (rst D chx e)) ∧
  (∀ e, e < d → D.testBit e = true → c e < chn B e ∧ cn e (c e) ∧ T.2.2.1 95 (sn D e) = iz ((12 * e + c e : Nat) : Int)) ∧
  (∀ e f, e < f → f < d → D.testBit e = true → D.testBit f = true → agP B t h o cn e (c e) f (c f)) ∧
  (∀ w m : Nat, w < 5 → m < 60 → (cnt B t cn D c d w m : Int) ≤ gv B h o w m) ∧ (d < 8 → TyX T (507 + 5 * sn D d) B h o (cnt B t cn D c d)) ∧
  (∀ e, e < 8 → D.testBit e = true → d ≤ e → T.2.2.1 (100 + sn D d) (sn D e) = iz (opm B t h o cn D c d e)) ∧ BsQ T B D any b
section OP
variable {B : Nat → Int} {t h o : Int} {cn : Nat → Nat → Prop} {D d e i : Nat} {c : Nat → Nat}
theorem opm_t {j : Nat} : (opm B t h o cn D c d e).testBit j = true ↔ j < chn B e ∧ cn e j ∧ ∀ x, x < d → D.testBit x = true → agP B t h o cn x (c x) e j := msk_t _ _
theorem agm_t {j : Nat} : (agm B t h o cn d i e).testBit j = true ↔ j < chn B e ∧ agP B t h o cn d i e j := msk_t _ _
theorem opm_lt (hW : WF B) (he : (e : Int) < B 16) : opm B t h o cn D c d e < 4096 := by
  have h1 := msk_lt (P := fun i => cn e i ∧ ∀ x, x < d → D.testBit x = true → agP B t h o cn x (c x) e i) (chn B e)
  have h2 : 2 ^ chn B e ≤ 2 ^ 12 := Nat.pow_le_pow_right (by decide) (ch_b hW he).2.1
  have : (2 : Nat) ^ 12 = 4096 := rfl
  unfold opm
  omega
theorem opm_s {d2 : Nat} (hm : D.testBit d = true) (h2 : d < d2) (hg : ∀ x, d + 1 ≤ x → x < d2 → D.testBit x = false) : opm B t h o cn D (upc c d i) d2 e = opm B t h o cn D c d e &&& agm B t h o cn d i e := by
  refine Nat.eq_of_testBit_eq fun j => ?_
  rw [Bool.eq_iff_iff, Nat.testBit_and, Bool.and_eq_true, opm_t, opm_t, agm_t]
  constructor
  · rintro ⟨g1, g2, g3⟩
    refine ⟨⟨g1, g2, fun x hx hmx => ?_⟩, g1, ?_⟩
    · have := g3 x (by omega) hmx
      rw [upc_n c i (by omega)] at this
      exact this
    · have := g3 d h2 hm
      rw [upc_s] at this
      exact this
  · rintro ⟨⟨g1, g2, g3⟩, _, g4⟩
    refine ⟨g1, g2, fun x hx hmx => ?_⟩
    by_cases q : x = d
    · subst q; rw [upc_s]; exact g4
    · rw [upc_n c i q]
      rcases Nat.lt_or_ge x d with y | y
      · exact g3 x y hmx
      · rw [hg x (by omega) hx] at hmx; cases hmx
end OP
theorem rst_s {D : Nat} {chx : Nat → Int} {d : Nat} (hm : D.testBit d = true) : rst D chx d = chx d + rst D chx (d + 1) := by
  unfold rst
  show _ = chx d + (_ - (sm _ d + (if D.testBit d = true then chx d else 0)))
  rw [if_pos hm]
  omega
theorem rst_g {D : Nat} {chx : Nat → Int} {d : Nat} (k : Nat) (hg : ∀ x, d ≤ x → x < d + k → D.testBit x = false) : rst D chx (d + k) = rst D chx d := by
  unfold rst
  rw [sm_z k fun x h1 h2 => by show (if D.testBit x = true then _ else _) = _; rw [hg x h1 h2]; rfl]
-- costs from a seat on
theorem csm_rst {B : Nat → Int} {D : Nat} {chx : Nat → Int} {c : Nat → Nat} : ∀ k d, (∀ e, d ≤ e → e < d + k → D.testBit e = true → chx e ≤ cst B e (c e)) → csm B D d c + (sm (fun e => if D.testBit e = true then chx e else 0) (d + k) - sm (fun e => if D.testBit e = true then chx e else 0) d) ≤ csm B D (d + k) c := by
  intro k
  induction k with
  | zero => intro d _; show csm B D d c + (sm _ d - sm _ d) ≤ csm B D d c; omega
  | succ k ih =>
    intro d hx
    have h1 := ih d fun e a1 a2 a3 => hx e a1 (by omega) a3
    rw [← Nat.add_assoc, csm_s]
    show csm B D d c + (sm _ (d + k) + (if D.testBit (d + k) = true then chx (d + k) else 0) - _) ≤ _
    by_cases q : D.testBit (d + k) = true
    · have := hx (d + k) (by omega) (by omega) q
      rw [if_pos q, if_pos q]; omega
    · rw [if_neg q, if_neg q]; omega
section KP
variable {T : St} {B : Nat → Int} {t h o : Int} {X : Nat → Nat → Prop} {S b' ki D : Nat} {any : Bool} {chx : Nat → Int} {c : Nat → Nat} {b : Option (Nat → Nat)}
def PoS (B : Nat → Int) (t h o : Int) (cn : Nat → Nat → Prop) (S b' ki D : Nat) (any : Bool) (R : Option (Nat → Nat)) (s : Nat) (T U : St) : Prop := PlQ U B t h o cn S b' ki ∧ BsQ U B D any R ∧ (∀ j, j < s → U.2.2.1 95 j = T.2.2.1 95 j) ∧ (∀ j z, j ≤ s → U.2.2.1 (100 + j) z = T.2.2.1 (100 + j) z) ∧ (∀ y z, 507 ≤ y → y < 512 + 5 * s → U.2.2.2 y z = T.2.2.2 y z) ∧ (∀ z, U.2.2.1 94 z = T.2.2.1 94 z) ∧ (∀ z, U.2.2.1 97 z = T.2.2.1 97 z) ∧ U.1 80 12 = T.1 80 12
theorem s_keep (hW : WF B) (hS2 : S < 2 ^ (B 16).toNat) (hb2 : b' + 14 < 76) (hk2 : ki + 1 < 80) (hDS : ∀ e, D.testBit e = true → S.testBit e = true) (hD2 : D < 2 ^ (B 16).toNat) (hn : sn D 8 ≤ 4) (ht : 1 ≤ t ∧ t ≤ 60) (hP : PrS B t h o (cnX B t h o X) S b' ki D any chx T 8 c b) (hg : csm B D 8 c + rst D chx 8 < lim B D any b) :
    ok_pl_keepPicked T (iz (csm B D 8 c)) ∧ PoS B t h o (cnX B t h o X) S b' ki D any (ex B t h o X D any 8 c b) (sn D 8) T (x_pl_keepPicked T (iz (csm B D 8 c))) := by
  have hD := mem_lt hW hD2
  obtain ⟨p1, p2, p3, p4, p5, p6, p7, p8, q1, q2, q3, q4⟩ := hP
  have csb := csm_b (c := c) hW hD2 8 (fun e he hme => (p4 e he hme).1)
  have r8 : rst D chx 8 = 0 := by unfold rst; omega
  have pl : PLp B t h o X D 8 c := by
    refine (PL_iff hW hD2 ht (fun e he hme => (p4 e he hme).1)).2 ⟨fun e he hme => (p4 e he hme).2.1, fun w m hw hm => ?_, fun e f he hme hf hmf => ?_⟩
    · rw [← cnt_8 (fun e he hme => ⟨(p4 e he hme).1, (p4 e he hme).2.1⟩)]; exact p6 w m hw hm
    · rcases Nat.lt_trichotomy e f with y | y | y
      · exact (p5 e f y hf hme hmf).2.2
      · subst y; exact (p4 e he hme).2.1.1.1.2.2
      · exact agd_sy (p5 f e y he hmf hme).2.2
  have hex : ex B t h o X D any 8 c b = some c := by
    refine lfP_y pl fun c0 e0 => ?_
    subst e0
    have e1 : lim B D any (some c0) = if any then 0 else csm B D 8 c0 := rfl
    rw [e1] at hg
    cases any with
    | true => simp only [if_true] at hg; omega
    | false => simp at hg; exact ⟨rfl, by omega⟩
  rw [hex]
  refine so_pl_keepPicked (Q := PoS B t h o (cnX B t h o X) S b' ki D any (some c) (sn D 8) T) _ ?_
  unfold wp_pl_keepPicked
  have e14 : (sF T 80 17 (iz (csm B D 8 c))).1 80 14 = (if any then 1 else 0) := by rw [gF_F, if_neg (by omega)]; exact q1
  rw [e14]
  have fin : ∀ x : Int32, x = iz (lim B D any (some c)) → (cpok 0 0 ((sF (sF T 80 17 (iz (csm B D 8 c))) 80 13 x).1 80 12) 4 4) ∧ PoS B t h o (cnX B t h o X) S b' ki D any (some c) (sn D 8) T (sAr (sF (sF T 80 17 (iz (csm B D 8 c))) 80 13 x) 96 (va_cpy ((sF (sF T 80 17 (iz (csm B D 8 c))) 80 13 x).2.2.1 95) ((sF (sF T 80 17 (iz (csm B D 8 c))) 80 13 x).2.2.1 96) (0 : Int32).toNatClampNeg (0 : Int32).toNatClampNeg ((sF (sF T 80 17 (iz (csm B D 8 c))) 80 13 x).1 80 12 : Int32).toNatClampNeg)) := by
    intro x hx
    have e12 : (sF (sF T 80 17 (iz (csm B D 8 c))) 80 13 x).1 80 12 = iz (sn D 8) := by rw [gF_F, if_neg (by omega), gF_F, if_neg (by omega)]; exact p2.1
    rw [e12, n_0, ix_nat (by omega)]
    refine ⟨⟨by decide, by decide, by rw [lt0 (by omega)]; omega, by rw [n_0, ix_nat (by omega)]; omega, by rw [n_0, ix_nat (by omega)]; omega⟩, ?_⟩
    refine ⟨PlQ_fr (W := fun y => y = 96 ∨ y = 18017 ∨ y = 18013) hW hS2 hb2 hk2 p1 (fr_sAr (fr_sF (fr_sF fr_rfl (by omega)) (by omega)) (by omega)) (fun y hy => by unfold sW; omega), ⟨?_, ?_, fun z => (by cases z), fun c0 e0 => ?_⟩, fun j hj => ?_, fun j z hj => ?_, fun y z h1 h2 => rfl, fun z => ?_, fun z => ?_, ?_⟩
    · show (sF (sF T 80 17 (iz (csm B D 8 c))) 80 13 x).1 80 14 = _
      rw [gF_F, if_neg (by omega)]; exact e14
    · show (sF (sF T 80 17 (iz (csm B D 8 c))) 80 13 x).1 80 13 = _
      rw [gF_F, if_pos ⟨rfl, rfl⟩]; exact hx
    · have ec : c = c0 := Option.some.inj e0
      subst ec
      refine ⟨?_, fun d hd hm => ⟨(p4 d hd hm).1, ?_⟩⟩
      · show (sF (sF T 80 17 (iz (csm B D 8 c))) 80 13 x).1 80 17 = _
        rw [gF_F, if_neg (by omega), gF_F, if_pos ⟨rfl, rfl⟩]
      · have := sn_lt hm hd
        rw [gAr_A, if_pos rfl]
        unfold va_cpy
        rw [if_pos (by omega), Nat.zero_add, Nat.sub_zero]
        exact (p4 d hd hm).2.2
    · rw [gAr_A, if_neg (by omega)]; rfl
    · rw [gAr_A, if_neg (by omega)]; rfl
    · rw [gAr_A, if_neg (by omega)]; rfl
    · rw [gAr_A, if_neg (by omega)]; rfl
    · exact e12.trans p2.1.symm
  unfold jn
  cases ha : any with
  | true =>
    rw [ha] at fin
    refine ⟨fun z => absurd z (by decide), fun _ => fin 0 rfl⟩
  | false =>
    rw [ha] at fin
    refine ⟨fun _ => fin _ rfl, fun z => absurd rfl z⟩
end KP
