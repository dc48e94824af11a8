/-! ===== seats, and the road of a search ===== -/
section SEAT
variable {D : Nat}
theorem sn_le : ∀ k e, sn D e ≤ sn D (e + k) := by
  intro k
  induction k with
  | zero => intro e; exact Nat.le_refl _
  | succ k ih => intro e; have := ih e; rw [← Nat.add_assoc, sn_s]; omega
theorem sn_lt {d e : Nat} (hd : D.testBit d = true) (he : d < e) : sn D d + 1 ≤ sn D e := by
  have h := sn_le (D := D) (e - (d + 1)) (d + 1)
  rw [show d + 1 + (e - (d + 1)) = e by omega, sn_s, if_pos hd] at h
  exact h
theorem sn_mo {d e : Nat} (he : d ≤ e) : sn D d ≤ sn D e := by
  have h := sn_le (D := D) (e - d) d
  rw [show d + (e - d) = e by omega] at h
  exact h
theorem sn_in {d e : Nat} (hd : D.testBit d = true) (he : D.testBit e = true) (h : sn D d = sn D e) : d = e := by
  rcases Nat.lt_trichotomy d e with q | q | q
  · have := sn_lt hd q; omega
  · exact q
  · have := sn_lt he q; omega
theorem sn_ex {a : Nat} : ∀ e, a < sn D e → ∃ d, d < e ∧ D.testBit d = true ∧ sn D d = a := by
  intro e
  induction e with
  | zero => intro h; exact absurd h (Nat.not_lt_zero a)
  | succ e ih =>
    intro h
    rw [sn_s] at h
    by_cases q : a < sn D e
    · obtain ⟨d, h1, h2, h3⟩ := ih q
      exact ⟨d, by omega, h2, h3⟩
    · by_cases q2 : D.testBit e = true
      · rw [if_pos q2] at h; exact ⟨e, by omega, q2, by omega⟩
      · rw [if_neg q2] at h; omega
theorem sn_gap {d e : Nat} (h : sn D d = sn D e) : ∀ x, d ≤ x → x < e → D.testBit x = false := by
  intro x h1 h2
  cases q : D.testBit x with
  | false => rfl
  | true => have a1 := sn_lt q h2; have a2 := sn_mo (D := D) h1; omega
theorem sn_8 : sn D 8 = bc8 D := by
  unfold bc8
  simp only [sn_s, show sn D 0 = 0 from rfl]
  cases D.testBit 0 <;> cases D.testBit 1 <;> cases D.testBit 2 <;> cases D.testBit 3 <;> cases D.testBit 4 <;> cases D.testBit 5 <;> cases D.testBit 6 <;> cases D.testBit 7 <;> rfl
end SEAT
noncomputable def pn (B : Nat → Int) (t h o : Int) (X : Nat → Nat → Prop) (D : Nat) (any : Bool) (d i : Nat) (c : Nat → Nat) (b : Option (Nat → Nat)) : Option (Nat → Nat) := pend (fun d => D.testBit d) (chn B) (lfP (PLp B t h o X D 8) (csm B D 8) any) 8 d i c b
noncomputable def un (B : Nat → Int) (t h o : Int) (X : Nat → Nat → Prop) (D : Nat) (any : Bool) (d : Nat) (c : Nat → Nat) (b : Option (Nat → Nat)) : Option (Nat → Nat) := unw (fun d => D.testBit d) (chn B) (lfP (PLp B t h o X D 8) (csm B D 8) any) 8 d c b
noncomputable def ex (B : Nat → Int) (t h o : Int) (X : Nat → Nat → Prop) (D : Nat) (any : Bool) (e : Nat) (c : Nat → Nat) (b : Option (Nat → Nat)) : Option (Nat → Nat) := exS (fun d => D.testBit d) (chn B) (lfP (PLp B t h o X D 8) (csm B D 8) any) (8 - e) e c b
section ROAD
variable {B : Nat → Int} {t h o : Int} {X : Nat → Nat → Prop} {D : Nat} {any : Bool} {d d2 i : Nat} {c : Nat → Nat} {b : Option (Nat → Nat)}
theorem ex_gap (hd : d ≤ d2) (h2 : d2 ≤ 8) (hg : ∀ x, d ≤ x → x < d2 → D.testBit x = false) : ex B t h o X D any d c b = ex B t h o X D any d2 c b := by
  have := exS_sk (mem := fun d => D.testBit d) (ch := chn B) (leaf := lfP (PLp B t h o X D 8) (csm B D 8) any) (c := c) (b := b) (d2 - d) (8 - d2) d (fun e h1 h2 => hg e h1 (by omega))
  rw [show d2 - d + (8 - d2) = 8 - d by omega, show d + (d2 - d) = d2 by omega] at this
  exact this
theorem un_gap (hd : d ≤ d2) (hg : ∀ x, d ≤ x → x < d2 → D.testBit x = false) : un B t h o X D any d2 c b = un B t h o X D any d c b := by
  have := unw_sk (mem := fun d => D.testBit d) (ch := chn B) (leaf := lfP (PLp B t h o X D 8) (csm B D 8) any) (n := 8) (c := c) (b := b) (d2 - d) d (fun e h1 h2 => hg e h1 (by omega))
  rw [show d + (d2 - d) = d2 by omega] at this
  exact this
theorem ex_0 (hd : d < 8) (hm : D.testBit d = true) : ex B t h o X D any d c b = pn B t h o X D any d 0 c b := pend_0 (mem := fun d => D.testBit d) hd hm
theorem pn_s (hi : i < chn B d) : pn B t h o X D any d i c b = pn B t h o X D any d (i + 1) c (ex B t h o X D any (d + 1) (upc c d i) b) := by
  have := pend_s (mem := fun d => D.testBit d) (ch := chn B) (leaf := lfP (PLp B t h o X D 8) (csm B D 8) any) (n := 8) (c := c) (b := b) hi
  rw [show 8 - d - 1 = 8 - (d + 1) by omega] at this
  exact this
theorem R_start (hd : d < 8) (hm : D.testBit d = true) (h0 : sn D d = 0) : un B t h o X D any d (fun _ => 0) (pn B t h o X D any d 0 (fun _ => 0) none) = SK B t h o X D any := by
  have hg := sn_gap (D := D) (d := 0) (e := d) (by rw [h0]; rfl)
  rw [un_gap (Nat.zero_le d) hg, ← ex_0 hd hm, ← ex_gap (Nat.zero_le d) (by omega) hg]
  rfl
theorem R_fin (h0 : sn D d = 0) : un B t h o X D any d c b = b := by
  rw [un_gap (Nat.zero_le d) (sn_gap (D := D) (d := 0) (e := d) (by rw [h0]; rfl))]
  rfl
theorem R_back (hd : d < d2) (hm : D.testBit d = true) (hs : sn D d + 1 = sn D d2) : un B t h o X D any d2 c b = un B t h o X D any d c (pn B t h o X D any d (c d + 1) c b) := by
  rw [un_gap (d := d + 1) (by omega) (sn_gap (by rw [sn_s, if_pos hm]; exact hs))]
  exact unw_m (mem := fun d => D.testBit d) hm
theorem R_desc (hd : d < d2) (h2 : d2 < 8) (hm : D.testBit d = true) (hm2 : D.testBit d2 = true) (hs : sn D d + 1 = sn D d2) (hi : i < chn B d) : un B t h o X D any d2 (upc c d i) (pn B t h o X D any d2 0 (upc c d i) b) = un B t h o X D any d c (pn B t h o X D any d i c b) := by
  have hg := sn_gap (D := D) (d := d + 1) (e := d2) (by rw [sn_s, if_pos hm]; exact hs)
  rw [R_back hd hm hs, upc_s, pn_s hi, ex_gap (d := d + 1) (by omega) (by omega) hg, ex_0 h2 hm2]
  have a1 : ∀ y, un B t h o X D any d (upc c d i) y = un B t h o X D any d c y := fun y => unw_u (mem := fun d => D.testBit d) (by omega) hm d c y (Nat.le_refl d)
  have a2 : ∀ y, pn B t h o X D any d (i + 1) (upc c d i) y = pn B t h o X D any d (i + 1) c y := fun y => pend_u
  rw [a1, a2]
theorem R_skip (hi : i < chn B d) (hs : ∀ c2 : Nat → Nat, (∀ e, e < d + 1 → c2 e = upc c d i e) → (∀ e, d + 1 ≤ e → e < 8 → D.testBit e = true → c2 e < chn B e) → PLp B t h o X D 8 c2 → ∃ c0, b = some c0 ∧ (any = false → csm B D 8 c0 ≤ csm B D 8 c2)) (hd : d < 8) : pn B t h o X D any d i c b = pn B t h o X D any d (i + 1) c b := by
  rw [pn_s hi]
  have : ex B t h o X D any (d + 1) (upc c d i) b = b := exS_id _ _ _ fun c2 h1 h2 => lfP_n fun hp => hs c2 h1 (fun e a1 a2 a3 => h2 e a1 (by omega) a3) hp
  rw [this]
theorem R_leaf (hd : d < 8) (hm : D.testBit d = true) (hs : sn D d + 1 = sn D 8) (hi : i < chn B d) (hp : PLp B t h o X D (d + 1) (upc c d i)) (hc : ∀ c0, b = some c0 → any = false ∧ csm B D (d + 1) (upc c d i) < csm B D 8 c0) : pn B t h o X D any d i c b = pn B t h o X D any d (i + 1) c (some (upc c d i)) ∧ csm B D 8 (upc c d i) = csm B D (d + 1) (upc c d i) := by
  have hg := sn_gap (D := D) (d := d + 1) (e := 8) (by rw [sn_s, if_pos hm]; exact hs)
  have e1 : csm B D 8 (upc c d i) = csm B D (d + 1) (upc c d i) := by
    have := csm_sk (B := B) (D := D) (e := d + 1) (k := 8 - (d + 1)) (c := upc c d i) (fun x h1 h2 => hg x h1 (by omega))
    rw [show d + 1 + (8 - (d + 1)) = 8 by omega] at this
    exact this
  have e2 : PLp B t h o X D 8 (upc c d i) := by
    have := (PLp_sk (B := B) (t := t) (h := h) (o := o) (X := X) (D := D) (e := d + 1) (k := 8 - (d + 1)) (c := upc c d i) (fun x h1 h2 => hg x h1 (by omega))).2 hp
    rw [show d + 1 + (8 - (d + 1)) = 8 by omega] at this
    exact this
  refine ⟨?_, e1⟩
  rw [pn_s hi, ex_gap (d2 := 8) (by omega) (by omega) hg]
  have : ex B t h o X D any 8 (upc c d i) b = some (upc c d i) := lfP_y e2 (fun c0 hc0 => by rw [e1]; exact hc c0 hc0)
  rw [this]
theorem ex_any {c0 : Nat → Nat} (e : Nat) (c : Nat → Nat) : ex B t h o X D true e c (some c0) = some c0 := exS_id _ _ _ fun c2 _ _ => lfP_n fun _ => ⟨c0, rfl, fun q => by cases q⟩
theorem pn_any {c0 : Nat → Nat} : pn B t h o X D true d i c (some c0) = some c0 := by
  unfold pn pend
  refine lpF_id _ _ fun j _ _ => exS_id _ _ _ fun c2 _ _ => lfP_n fun _ => ⟨c0, rfl, fun q => by cases q⟩
theorem un_any {c0 : Nat → Nat} : ∀ d (c : Nat → Nat), un B t h o X D true d c (some c0) = some c0 := by
  intro d
  induction d with
  | zero => intro c; rfl
  | succ d ih =>
    intro c
    cases q : D.testBit d with
    | true =>
      have : un B t h o X D true (d + 1) c (some c0) = un B t h o X D true d c (pn B t h o X D true d (c d + 1) c (some c0)) := unw_m (mem := fun d => D.testBit d) q
      rw [this, pn_any]; exact ih c
    | false =>
      rw [un_gap (d := d) (by omega) (fun x h1 h2 => by rw [show x = d by omega]; exact q)]; exact ih c
theorem tv_e {B : Nat → Int} {D d : Nat} {b l : Nat → Nat → Int} (h : D.testBit d = false) : tv B D b l (d + 1) = tv B D b l d := by
  funext w m
  have h' : ¬ D.testBit d = true := by rw [h]; exact Bool.false_ne_true
  unfold tv
  have a1 := tt_sk (B := B) (D := D) (e := d) (k := 1) (b := b) (l := l) (w := w) (m := m) (fun x h1 h2 => by rw [show x = d by omega]; exact h)
  have a2 := tlo_sk (B := B) (D := D) (e := d) (k := 1) (b := b) (l := l) (m := m) (fun x h1 h2 => by rw [show x = d by omega]; exact h)
  have a3 := thi_sk (B := B) (D := D) (e := d) (k := 1) (b := b) (l := l) (m := m) (fun x h1 h2 => by rw [show x = d by omega]; exact h)
  rw [a1, a2, a3]
theorem tv_g {B : Nat → Int} {D d : Nat} {b l : Nat → Nat → Int} : ∀ k, (∀ x, d ≤ x → x < d + k → D.testBit x = false) → tv B D b l (d + k) = tv B D b l d := by
  intro k
  induction k with
  | zero => intro _; rfl
  | succ k ih => intro hg; rw [← Nat.add_assoc, tv_e (hg (d + k) (by omega) (by omega)), ih fun x h1 h2 => hg x h1 (by omega)]
theorem tv_cg {B : Nat → Int} {D e w m : Nat} {b b2 l : Nat → Nat → Int} (hb : ∀ d, d < e → D.testBit d = true → b d = b2 d) : tv B D b l e w m = tv B D b2 l e w m := by
  unfold tv
  rw [tt_cg hb, tlo_cg hb, thi_cg hb]
theorem tv_0 {B : Nat → Int} {D w m : Nat} {b l : Nat → Nat → Int} (hw : w < 7) : lv0 w m = tv B D b l 0 w m := by
  rcases (show w = 0 ∨ w = 1 ∨ w = 2 ∨ w = 3 ∨ w = 4 ∨ w = 5 ∨ w = 6 by omega) with rfl | rfl | rfl | rfl | rfl | rfl | rfl <;> rfl
theorem tv_b {B : Nat → Int} {D : Nat} {b l : Nat → Nat → Int} (hW : WF B) (hD : ∀ d, D.testBit d = true → (d : Int) < B 16) : ∀ e : Nat, fbd (tv B D b l e) (3 * e) := by
  intro e
  induction e with
  | zero =>
    intro m hm
    refine ⟨fun w hw => ?_, ?_⟩
    · rw [← tv_0 (by omega)]
      unfold lv0
      rw [if_neg (by omega)]
      omega
    · rw [← tv_0 (by omega), ← tv_0 (by omega)]
      show (0 : Int) ≤ 0 ∧ (0 : Int) ≤ 9 ∧ (0 : Int) ≤ 9 ∧ (9 : Int) ≤ 9
      omega
  | succ e ih =>
    cases q : D.testBit e with
    | true =>
      have h1 := fbd_D (b := b e) (l := l e) hW (hD e q) ih
      have e1 : adD B e (b e) (l e) (tv B D b l e) = tv B D b l (e + 1) := by funext w m; exact tv_s q
      rw [e1] at h1
      intro m hm
      have := h1 m hm
      exact ⟨fun w hw => by have := this.1 w hw; omega, this.2⟩
    | false =>
      rw [tv_e q]
      intro m hm
      have := ih m hm
      exact ⟨fun w hw => by have := this.1 w hw; omega, this.2⟩
end ROAD
