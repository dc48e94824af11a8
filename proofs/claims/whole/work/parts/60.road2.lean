/-! ===== the planner's search: a seat's loop ===== -/
def bdK (okf : St → Int32 → Int32 → Prop) (xf : St → Int32 → Int32 → St) (l1 : Int32) (l2 : Int32) (l3 : Int32) (Kk : Int32 → St → Prop) (Q : St → Prop) (N : Int32 → St → Prop) (v4 : Int32) (T : St) : Prop := (vp_in l1 4) ∧ (vp_in (T.2.2.1 94 (l1 : Int32).toNatClampNeg) 8) ∧ ((((T.2.2.1 82 (T.2.2.1 94 (l1 : Int32).toNatClampNeg : Int32).toNatClampNeg) ≤ v4) → Kk v4 T) ∧ (¬ ((T.2.2.1 82 (T.2.2.1 94 (l1 : Int32).toNatClampNeg : Int32).toNatClampNeg) ≤ v4) → (vp_in l1 5) ∧ ((((((T.2.2.1 (100 + (l1 : Int32).toNatClampNeg) (l1 : Int32).toNatClampNeg) >>> (v4 &&& 31)) &&& 1) = 0) → N (v4 + 1) T) ∧ (¬ ((((T.2.2.1 (100 + (l1 : Int32).toNatClampNeg) (l1 : Int32).toNatClampNeg) >>> (v4 &&& 31)) &&& 1) = 0) → (vp_in (l3 + v4) 96) ∧ jn (fun (r2 : Nat) => (sh r2 = .inr 10) ∧ (vp_in (l1 + 1) 5) ∧ ((((T.1 80 13) ≤ ((l2 + (T.1 r2 5)) + (T.2.2.1 97 (l1 + 1 : Int32).toNatClampNeg))) → N (v4 + 1) T) ∧ (¬ ((T.1 80 13) ≤ ((l2 + (T.1 r2 5)) + (T.2.2.1 97 (l1 + 1 : Int32).toNatClampNeg))) → (ok_ta_hasRoom T (507 + 5 * (l1 : Int32).toNatClampNeg) (r2 + 3)) ∧ ((((x_ta_hasRoom T (507 + 5 * (l1 : Int32).toNatClampNeg) (r2 + 3)) = 0) → N (v4 + 1) T) ∧ (¬ ((x_ta_hasRoom T (507 + 5 * (l1 : Int32).toNatClampNeg) (r2 + 3)) = 0) → (ok_pl_leavesOpen T l1 (l3 + v4)) ∧ (((((x_pl_leavesOpen T l1 (l3 + v4)).1) = 0) → N (v4 + 1) ((x_pl_leavesOpen T l1 (l3 + v4)).2)) ∧ (¬ (((x_pl_leavesOpen T l1 (l3 + v4)).1) = 0) → jn (fun (KJ1 : St → Prop) => (((((sA ((x_pl_leavesOpen T l1 (l3 + v4)).2) 95 (l1 : Int32).toNatClampNeg (l3 + v4)).1 80 12) ≤ (l1 + 1)) → KJ1 (sA ((x_pl_leavesOpen T l1 (l3 + v4)).2) 95 (l1 : Int32).toNatClampNeg (l3 + v4))) ∧ (¬ (((sA ((x_pl_leavesOpen T l1 (l3 + v4)).2) 95 (l1 : Int32).toNatClampNeg (l3 + v4)).1 80 12) ≤ (l1 + 1)) → (vp_in (l1 + 1) 4) ∧ (ok_ta_add (sA ((x_pl_leavesOpen T l1 (l3 + v4)).2) 95 (l1 : Int32).toNatClampNeg (l3 + v4)) (507 + 5 * (l1 + 1 : Int32).toNatClampNeg) (507 + 5 * (l1 : Int32).toNatClampNeg) (r2 + 3) ((sA ((x_pl_leavesOpen T l1 (l3 + v4)).2) 95 (l1 : Int32).toNatClampNeg (l3 + v4)).2.1 3)) ∧ jn (fun (T4 : St) => KJ1 T4) (x_ta_add (sA ((x_pl_leavesOpen T l1 (l3 + v4)).2) 95 (l1 : Int32).toNatClampNeg (l3 + v4)) (507 + 5 * (l1 + 1 : Int32).toNatClampNeg) (507 + 5 * (l1 : Int32).toNatClampNeg) (r2 + 3) ((sA ((x_pl_leavesOpen T l1 (l3 + v4)).2) 95 (l1 : Int32).toNatClampNeg (l3 + v4)).2.1 3))))) (fun (T301 : St) => (okf T301 (l1 + 1) (l2 + (T301.1 r2 5))) ∧ N (v4 + 1) (xf T301 (l1 + 1) (l2 + (T301.1 r2 5))))))))))) (123 + 4 * (l3 + v4 : Int32).toNatClampNeg)))))
theorem bdK_1 : bd_pl_seek1_27 = bdK ok_pl_seek0 x_pl_seek0 := rfl
theorem bdK_2 : bd_pl_seek2_27 = bdK ok_pl_seek1 x_pl_seek1 := rfl
theorem bdK_3 : bd_pl_seek3_27 = bdK ok_pl_seek2 x_pl_seek2 := rfl
theorem bdK_4 : bd_pl_seek4_27 = bdK ok_pl_seek3 x_pl_seek3 := rfl
section RD
variable {B : Nat → Int} {t h o : Int} {X : Nat → Nat → Prop} {S b' ki D : Nat} {any : Bool} {chx : Nat → Int}
theorem sN_2 {f : Nat → Nat} {e g : Nat} (he : e < 8) (hg : g < 8) (hne : e ≠ g) (h1 : f e = 1) (h2 : f g = 1) : 2 ≤ sN f 8 := by
  have a1 : sN (fun x => if x = e then 1 else 0) 8 = sN (fun _ => 0) 8 + 1 := sN_up (d := e) 8 he (fun x _ hx => if_neg hx) (if_pos rfl)
  have a2 : sN (fun x => if x = g then 1 else if x = e then 1 else 0) 8 = sN (fun x => if x = e then 1 else 0) 8 + 1 := sN_up (d := g) 8 hg (fun x _ hx => if_neg hx) (by have : ¬ g = e := fun z => hne z.symm; simp [this])
  have a3 : sN (fun x => if x = g then 1 else if x = e then 1 else 0) 8 ≤ sN f 8 := by
    refine sN_le 8 fun x _ => ?_
    by_cases q : x = g
    · subst q; simp [h2]
    · by_cases q2 : x = e
      · subst q2; simp [q, h1]
      · simp [q, q2]
  have a4 : sN (fun _ => 0) 8 = 0 := rfl
  omega
theorem pl_ag {c2 : Nat → Nat} (hW : WF B) (hD2 : D < 2 ^ (B 16).toNat) (ht : 1 ≤ t ∧ t ≤ 60) (hv : ∀ e, e < 8 → D.testBit e = true → c2 e < chn B e) (hp : PLp B t h o X D 8 c2) : ∀ e f, e < 8 → D.testBit e = true → f < 8 → D.testBit f = true → e ≠ f → agP B t h o (cnX B t h o X) e (c2 e) f (c2 f) := by
  obtain ⟨h1, h2, h3⟩ := (PL_iff hW hD2 ht hv).1 hp
  intro e f he hme hf hmf hne
  refine ⟨h1 f hf hmf, fun w m hw hm ⟨g1, g2, g3⟩ => ?_, h3 e f he hme hf hmf⟩
  have := h2 w m hw hm
  have s2 := sN_2 (f := fun e => if D.testBit e = true then bN (u1P B t e (c2 e) w m) else 0) he hf hne (by simp only [hme, if_true]; exact bN_y g1.1) (by simp only [hmf, if_true]; exact bN_y g2.1)
  omega
def SkK (B : Nat → Int) (t h o : Int) (X : Nat → Nat → Prop) (S b' ki D : Nat) (any : Bool) (chx : Nat → Int) (okf : St → Int32 → Int32 → Prop) (xf : St → Int32 → Int32 → St) (k : Nat) : Prop := ∀ (T : St) (d : Nat) (c : Nat → Nat) (b : Option (Nat → Nat)), d ≤ 8 → (d < 8 → D.testBit d = true) → sn D 8 - sn D d ≤ k → PrS B t h o (cnX B t h o X) S b' ki D any chx T d c b → csm B D d c + rst D chx d < lim B D any b → okf T (iz (sn D d)) (iz (csm B D d c)) ∧ PoS B t h o (cnX B t h o X) S b' ki D any (ex B t h o X D any d c b) (sn D d) T (xf T (iz (sn D d)) (iz (csm B D d c)))
-- the road at a seat
def RdI (B : Nat → Int) (t h o : Int) (X : Nat → Nat → Prop) (S b' ki D : Nat) (any : Bool) (chx : Nat → Int) (T0 : St) (d : Nat) (c : Nat → Nat) (R : Option (Nat → Nat)) (v : Int32) (U : St) : Prop := ∃ (i : Nat) (b : Option (Nat → Nat)), i ≤ chn B d ∧ v = iz i ∧ PrS B t h o (cnX B t h o X) S b' ki D any chx U d c b ∧ PoS B t h o (cnX B t h o X) S b' ki D any b (sn D d) T0 U ∧ pn B t h o X D any d i c b = R
theorem PoS_t {cn : Nat → Nat → Prop} {R R2 : Option (Nat → Nat)} {s s2 : Nat} {T U V : St} (h1 : PoS B t h o cn S b' ki D any R s T U) (h2 : PoS B t h o cn S b' ki D any R2 s2 U V) (hs : s ≤ s2) : PoS B t h o cn S b' ki D any R2 s T V := ⟨h2.1, h2.2.1, fun j hj => by rw [h2.2.2.1 j (by omega)]; exact h1.2.2.1 j hj, fun j z hj => by rw [h2.2.2.2.1 j z (by omega)]; exact h1.2.2.2.1 j z hj, fun y z a1 a2 => by rw [h2.2.2.2.2.1 y z a1 (by omega)]; exact h1.2.2.2.2.1 y z a1 a2, fun z => by rw [h2.2.2.2.2.2.1 z]; exact h1.2.2.2.2.2.1 z, fun z => by rw [h2.2.2.2.2.2.2.1 z]; exact h1.2.2.2.2.2.2.1 z, by rw [h2.2.2.2.2.2.2.2]; exact h1.2.2.2.2.2.2.2⟩
-- what holds at a seat holds again once the seats behind are done
theorem PrS_b {cn : Nat → Nat → Prop} {U V : St} {d : Nat} {c : Nat → Nat} {b b2 : Option (Nat → Nat)} (hn : sn D 8 ≤ 4) (hP : PrS B t h o cn S b' ki D any chx U d c b) (hq : PoS B t h o cn S b' ki D any b2 (sn D d) U V) : PrS B t h o cn S b' ki D any chx V d c b2 := by
  obtain ⟨p1, p2, p3, p4, p5, p6, p7, p8, p9⟩ := hP
  obtain ⟨g1, g2, g3, g4, g5, g6, g7, g8⟩ := hq
  refine ⟨g1, ⟨by rw [g8]; exact p2.1, fun e he hme => by rw [g6]; exact p2.2 e he hme⟩, fun e h1 h2 => by rw [g7]; exact p3 e h1 h2, fun e he hme => ⟨(p4 e he hme).1, (p4 e he hme).2.1, ?_⟩, p5, p6, fun hd w m hw hm => ?_, fun e he hme hde => by rw [g4 _ _ (Nat.le_refl _)]; exact p8 e he hme hde, g2⟩
  · have := sn_lt hme he
    rw [g3 _ (by omega)]; exact (p4 e he hme).2.2
  · rw [g5 _ _ (by omega) (by omega), g5 _ _ (by omega) (by omega), g5 _ _ (by omega) (by omega), g5 _ _ (by omega) (by omega)]
    exact p7 hd w m hw hm
end RD
