/-! ===== plans by ways ===== -/
noncomputable def bN (p : Prop) : Nat := @ite _ p (Classical.propDecidable _) 1 0
theorem bN_y {p : Prop} (h : p) : bN p = 1 := by unfold bN; exact if_pos h
theorem bN_n {p : Prop} (h : ¬ p) : bN p = 0 := by unfold bN; exact if_neg h
theorem bN_1 (p : Prop) : bN p ≤ 1 := by
  by_cases h : p
  · rw [bN_y h]; omega
  · rw [bN_n h]; omega
def sN (f : Nat → Nat) : Nat → Nat
  | 0 => 0
  | n + 1 => sN f n + f n
theorem sN_le {f g : Nat → Nat} : ∀ n, (∀ i, i < n → f i ≤ g i) → sN f n ≤ sN g n := by
  intro n
  induction n with
  | zero => intro _; exact Nat.le_refl 0
  | succ n ih => intro h; have h1 := ih fun i hi => h i (by omega); have h2 := h n (by omega); show sN f n + f n ≤ sN g n + g n; omega
theorem sN_eq {f g : Nat → Nat} : ∀ n, (∀ i, i < n → f i = g i) → sN f n = sN g n := by
  intro n
  induction n with
  | zero => intro _; rfl
  | succ n ih => intro h; show sN f n + f n = sN g n + g n; rw [ih fun i hi => h i (by omega), h n (by omega)]
theorem sN_up {f g : Nat → Nat} {d x : Nat} : ∀ n, d < n → (∀ i, i < n → i ≠ d → g i = f i) → g d = f d + x → sN g n = sN f n + x := by
  intro n
  induction n with
  | zero => intro h; omega
  | succ n ih =>
    intro h h1 h2
    show sN g n + g n = sN f n + f n + x
    by_cases e : d = n
    · subst e
      rw [sN_eq d fun i hi => h1 i (by omega) (by omega), h2]; omega
    · rw [ih (by omega) (fun i hi => h1 i (by omega)) h2, h1 n (by omega) (fun z => e z.symm)]; omega
theorem sN_sn {D : Nat} : ∀ n, sN (fun e => if D.testBit e = true then 1 else 0) n = sn D n := by
  intro n
  induction n with
  | zero => rfl
  | succ n ih => show sN _ n + _ = _; rw [ih, sn_s]
section PW
variable {B : Nat → Int} {t h o : Int} {cn : Nat → Nat → Prop} {D : Nat} {c c2 : Nat → Nat} {d i w m : Nat}
noncomputable def qd (B : Nat → Int) (t : Int) (cn : Nat → Nat → Prop) (D : Nat) (c : Nat → Nat) (d w m e : Nat) : Nat := if D.testBit e = true then bN (cmP B t cn e w m) + (if e < d then bN (rsP B t cn e (c e) w m) else 0) else 0
noncomputable def cnt (B : Nat → Int) (t : Int) (cn : Nat → Nat → Prop) (D : Nat) (c : Nat → Nat) (d w m : Nat) : Nat := sN (qd B t cn D c d w m) 8
theorem qd_1 {e : Nat} : qd B t cn D c d w m e ≤ if D.testBit e = true then 1 else 0 := by
  unfold qd
  split
  · by_cases q : cmP B t cn e w m
    · rw [bN_y q, bN_n (p := rsP B t cn e (c e) w m) (fun z => z.2 q)]; split <;> omega
    · have := bN_1 (rsP B t cn e (c e) w m)
      rw [bN_n q]; split <;> omega
  · exact Nat.le_refl 0
theorem cnt_n : cnt B t cn D c d w m ≤ sn D 8 := by
  rw [← sN_sn]
  exact sN_le 8 fun e _ => qd_1
theorem cnt_3 (hd : d < 8) (hm : D.testBit d = true) (hq : ¬ cmP B t cn d w m) : cnt B t cn D c d w m + 1 ≤ sn D 8 := by
  have h1 : sN (fun e => if e = d then 1 else qd B t cn D c d w m e) 8 = sN (qd B t cn D c d w m) 8 + 1 := by
    refine sN_up (d := d) 8 hd (fun i _ hi => if_neg hi) ?_
    show (if d = d then 1 else _) = _
    rw [if_pos rfl]
    unfold qd
    rw [if_pos hm, bN_n hq, if_neg (by omega)]
  have h2 : sN (fun e => if e = d then 1 else qd B t cn D c d w m e) 8 ≤ sn D 8 := by
    rw [← sN_sn]
    refine sN_le 8 fun e _ => ?_
    by_cases q : e = d
    · subst q; simp [hm]
    · simp only [q, if_false]; exact qd_1
  unfold cnt
  omega
-- a seat more
theorem cnt_s {d2 : Nat} (hd : d < 8) (hm : D.testBit d = true) (h2 : d < d2) (hg : ∀ x, d + 1 ≤ x → x < d2 → D.testBit x = false) : cnt B t cn D (upc c d i) d2 w m = cnt B t cn D c d w m + bN (rsP B t cn d i w m) := by
  refine sN_up (d := d) 8 hd (fun e _ he => ?_) ?_
  · unfold qd
    by_cases q : D.testBit e = true
    · rw [if_pos q, if_pos q, upc_n c i he]
      by_cases z : e < d
      · rw [if_pos z, if_pos (by omega)]
      · rw [if_neg z, if_neg (fun y => by rw [hg e (by omega) y] at q; cases q)]
    · rw [if_neg q, if_neg q]
  · unfold qd
    rw [if_pos hm, if_pos hm, if_pos h2, if_neg (by omega), upc_s]
    omega
theorem cnt_le {d2 : Nat} (h2 : d ≤ d2) (hc : ∀ e, e < d → D.testBit e = true → c2 e = c e) : cnt B t cn D c d w m ≤ cnt B t cn D c2 d2 w m := by
  refine sN_le 8 fun e _ => ?_
  unfold qd
  by_cases q : D.testBit e = true
  · rw [if_pos q, if_pos q]
    by_cases z : e < d
    · rw [if_pos z, if_pos (by omega), hc e z q]; exact Nat.le_refl _
    · rw [if_neg z]; omega
  · rw [if_neg q, if_neg q]; exact Nat.le_refl _
theorem cnt_8 (hc : ∀ e, e < 8 → D.testBit e = true → c e < chn B e ∧ cn e (c e)) : cnt B t cn D c 8 w m = sN (fun e => if D.testBit e = true then bN (u1P B t e (c e) w m) else 0) 8 := by
  refine sN_eq 8 fun e he => ?_
  unfold qd
  by_cases q : D.testBit e = true
  · rw [if_pos q, if_pos he, if_pos q]
    obtain ⟨h1, h2⟩ := hc e he q
    by_cases z : cmP B t cn e w m
    · rw [bN_y z, bN_n (p := rsP B t cn e (c e) w m) (fun y => y.2 z), bN_y (z (c e) h1 h2)]
    · by_cases y : u1P B t e (c e) w m
      · rw [bN_n z, bN_y (p := rsP B t cn e (c e) w m) ⟨y, z⟩, bN_y y]
      · rw [bN_n z, bN_n (p := rsP B t cn e (c e) w m) (fun x => y x.1), bN_n y]
  · rw [if_neg q, if_neg q]
theorem sm_sN {f : Nat → Int} {g : Nat → Nat} : ∀ n, (∀ i, i < n → f i = (g i : Int)) → sm f n = (sN g n : Int) := by
  intro n
  induction n with
  | zero => intro _; rfl
  | succ n ih => intro h; show sm f n + f n = ((sN g n + g n : Nat) : Int); rw [ih fun i hi => h i (by omega), h n (by omega)]; omega
theorem tt_8 (hW : WF B) (hD : ∀ e, D.testBit e = true → (e : Int) < B 16) (ht : 1 ≤ t ∧ t ≤ 60) (hw : w < 5) (hc : ∀ e, e < 8 → D.testBit e = true → c e < chn B e ∧ 0 ≤ bg B t e (c e) 0) : tt B D (fun e => bg B t e (c e)) (lgs B) w 8 m = (sN (fun e => if D.testBit e = true then bN (u1P B t e (c e) w m) else 0) 8 : Int) := by
  refine sm_sN 8 fun e he => ?_
  show (if D.testBit e = true then _ else _) = ((if D.testBit e = true then _ else _ : Nat) : Int)
  by_cases q : D.testBit e = true
  · rw [if_pos q, if_pos q]
    obtain ⟨h1, h2⟩ := hc e he q
    have := ud_01 (sq_bg hW (hD e q) h1 ht h2) (w := w) (m := m) hw
    by_cases z : u1P B t e (c e) w m
    · rw [bN_y z]; exact z
    · rw [bN_n z]
      have : ¬ ud B w e (bg B t e (c e)) (lgs B e) m = 1 := z
      show ud B w e (bg B t e (c e)) (lgs B e) m = 0
      omega
  · rw [if_neg q, if_neg q]; rfl
def cnX (B : Nat → Int) (t h o : Int) (X : Nat → Nat → Prop) (d c : Nat) : Prop := canL B t h o d c ∧ X d c
theorem PL_iff {X : Nat → Nat → Prop} (hW : WF B) (hD2 : D < 2 ^ (B 16).toNat) (ht : 1 ≤ t ∧ t ≤ 60) (hc : ∀ e, e < 8 → D.testBit e = true → c e < chn B e) :
    PLp B t h o X D 8 c ↔ (∀ e, e < 8 → D.testBit e = true → cnX B t h o X e (c e)) ∧ (∀ w m : Nat, w < 5 → m < 60 → (sN (fun e => if D.testBit e = true then bN (u1P B t e (c e) w m) else 0) 8 : Int) ≤ gv B h o w m) ∧ ∀ e f, e < 8 → D.testBit e = true → f < 8 → D.testBit f = true → agd B e f (bg B t e (c e)) (lgs B e) (bg B t f (c f)) (lgs B f) := by
  have hD := mem_lt hW hD2
  have hs : (∀ e, e < 8 → D.testBit e = true → 0 ≤ bg B t e (c e) 0) → ∀ e, e < 8 → D.testBit e = true → sq B e ((fun e => bg B t e (c e)) e) (lgs B e) := fun h0 e he hme => sq_bg hW (hD e hme) (hc e he hme) ht (h0 e he hme)
  constructor
  · rintro ⟨h1, h2⟩
    have h0 := fun e he hme => (h1 e he hme).1
    have hh := (heats_2 (b := fun e => bg B t e (c e)) (l := lgs B) hW (fun e _ hme => hD e hme) (hs h0)).1 (fun m hm => (h2 m hm).2)
    have sums : ∀ w m : Nat, w < 5 → m < 60 → (sN (fun e => if D.testBit e = true then bN (u1P B t e (c e) w m) else 0) 8 : Int) ≤ gv B h o w m := fun w m hw hm => by
      rw [← tt_8 hW hD ht hw (fun e he hme => ⟨hc e he hme, h0 e he hme⟩)]
      exact (h2 m hm).1 w hw
    refine ⟨fun e he hme => ⟨⟨⟨h0 e he hme, hh.1 e he hme, hh.2 e e he hme he hme⟩, fun w m hw hm hu => ?_⟩, (h1 e he hme).2⟩, sums, hh.2⟩
    have s1 := sums w m hw hm
    have s2 : 1 ≤ sN (fun e => if D.testBit e = true then bN (u1P B t e (c e) w m) else 0) 8 := by
      have z1 : sN (fun x => if x = e then 1 else 0) 8 ≤ sN (fun e => if D.testBit e = true then bN (u1P B t e (c e) w m) else 0) 8 := by
        refine sN_le 8 fun x _ => ?_
        by_cases q : x = e
        · subst q; simp only [hme, if_true]; rw [bN_y hu]; exact Nat.le_refl _
        · simp only [q, if_false]; exact Nat.zero_le _
      have z2 : sN (fun x => if x = e then 1 else 0) 8 = sN (fun _ => 0) 8 + 1 := sN_up (d := e) 8 he (fun x _ hx => if_neg hx) (if_pos rfl)
      omega
    omega
  · rintro ⟨h1, h2, h3⟩
    have h0 : ∀ e, e < 8 → D.testBit e = true → 0 ≤ bg B t e (c e) 0 := fun e he hme => (h1 e he hme).1.1.1
    refine ⟨fun e he hme => ⟨h0 e he hme, (h1 e he hme).2⟩, fun m hm => ⟨fun w hw => ?_, ?_⟩⟩
    · rw [tt_8 hW hD ht hw (fun e he hme => ⟨hc e he hme, h0 e he hme⟩)]
      exact h2 w m hw hm
    · exact (heats_2 (b := fun e => bg B t e (c e)) (l := lgs B) hW (fun e _ hme => hD e hme) (hs h0)).2 ⟨fun e he hme => (h1 e he hme).1.1.2.1, h3⟩ m hm
end PW
