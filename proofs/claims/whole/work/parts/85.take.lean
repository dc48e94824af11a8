/-! ===== a book taken over, a book changed ===== -/
def ln (i : Nat) : Nat := if i = 1 then 7 else if i ≤ 3 then 4 else if i ≤ 8 then 8 else 24
def TkP (T : St) (a p n : Nat) (G : Nat → Prop) (U : St) : Prop := (∀ y z, (y ≤ a ∨ a + n < y) → U.2.2.1 y z = T.2.2.1 y z) ∧ (∀ i, 1 ≤ i → i ≤ n → ∀ j, j < ln i → U.2.2.1 (a + i) j = T.2.2.1 (p + i) j) ∧ (∀ y z, y ≠ a → U.1 y z = T.1 y z) ∧ ∀ k, G k → U.1 a k = T.1 p k
theorem jg {α : Type} {f : α → Prop} {x : α} {P : α → Prop} (hx : P x) (h : ∀ y, P y → f y) : jn f x := h x hx
theorem tk_0 {T : St} {a p : Nat} : TkP T a p 0 (fun _ => False) T := ⟨fun _ _ _ => rfl, fun i h1 h2 => by omega, fun _ _ _ => rfl, fun _ h => h.elim⟩
theorem tk_a {T U : St} {a p n : Nat} {G : Nat → Prop} {z L : Int32} (h : TkP T a p n G U) (hp : p + 14 < a ∨ a + 14 < p) (hn : n < 14) (hz : z.toNatClampNeg = 0) (hL : L.toNatClampNeg = ln (n + 1)) : TkP T a p (n + 1) G (sAr U (a + (n + 1)) (va_cpy (U.2.2.1 (p + (n + 1))) (U.2.2.1 (a + (n + 1))) z.toNatClampNeg z.toNatClampNeg L.toNatClampNeg)) := by
  obtain ⟨h1, h2, h3, h4⟩ := h
  rw [hz, hL]
  refine ⟨fun y w hy => ?_, fun i i1 i2 j hj => ?_, h3, h4⟩
  · rw [gAr_A, if_neg (by omega)]; exact h1 y w (by omega)
  · rw [gAr_A]
    by_cases e : i = n + 1
    · subst e
      rw [if_pos rfl]
      unfold va_cpy
      rw [if_pos (by omega), Nat.zero_add, Nat.sub_zero]
      exact h1 _ _ (by omega)
    · rw [if_neg (by omega)]; exact h2 i i1 (by omega) j hj
theorem tk_f {T U : St} {a p n k : Nat} {G : Nat → Prop} (h : TkP T a p n G U) (hp : p + 14 < a ∨ a + 14 < p) : TkP T a p n (fun y => G y ∨ y = k) (sF U a k (U.1 p k)) := by
  obtain ⟨h1, h2, h3, h4⟩ := h
  refine ⟨h1, h2, fun y z hy => ?_, fun y hy => ?_⟩
  · rw [gF_F, if_neg (by omega)]; exact h3 y z hy
  · rw [gF_F]
    by_cases e : y = k
    · rw [if_pos ⟨rfl, e⟩, e]; exact h3 p k (by omega)
    · rw [if_neg (by omega)]; exact h4 y (by rcases hy with q | q; exact q; exact absurd q e)
theorem cp_7 : cpok 0 0 (Int32.ofNat 7) 7 7 := ⟨by decide, by decide, by decide, by decide, by decide⟩
theorem cp_4 : cpok 0 0 4 4 4 := ⟨by decide, by decide, by decide, by decide, by decide⟩
theorem cp_8 : cpok 0 0 8 8 8 := ⟨by decide, by decide, by decide, by decide, by decide⟩
theorem cp_24 : cpok 0 0 24 24 24 := ⟨by decide, by decide, by decide, by decide, by decide⟩
def TkQ (T : St) (a p : Nat) (U : St) : Prop := (∀ i, 1 ≤ i → i ≤ 14 → ∀ j, j < ln i → U.2.2.1 (a + i) j = T.2.2.1 (p + i) j) ∧ ∀ k, (k = 1 ∨ k = 4 ∨ k = 10 ∨ k = 17 ∨ k = 18) → U.1 a k = T.1 p k
theorem tk_e {T U : St} {a p k : Nat} {G : Nat → Prop} (h : TkP T a p 14 G U) (hp : p + 14 < a ∨ a + 14 < p) (hG : ∀ y, (y = 1 ∨ y = 4 ∨ y = 10 ∨ y = 17 ∨ y = 18) → G y ∨ y = k) : TkQ T a p (sF U a k (U.1 p k)) := by
  obtain ⟨h1, h2, h3, h4⟩ := tk_f (k := k) h hp
  exact ⟨h2, fun y hy => h4 y (hG y hy)⟩
theorem s_take {T : St} {a p : Nat} (ha : sh a = .inr 1) (hp : sh p = .inr 1) (hpa : p + 14 < a ∨ a + 14 < p) : ok_bk_take T a p ∧ TkQ T a p (x_bk_take T a p) := by
  refine so_bk_take (Q := TkQ T a p) _ _ ?_
  unfold wp_bk_take
  exact ⟨hp, ha, cp_7, jg (tk_a (n := 0) (z := 0) (L := Int32.ofNat 7) tk_0 hpa (by omega) rfl rfl) (fun T1 h1 => ⟨cp_4, jg (tk_a (n := 1) (z := 0) (L := 4) (tk_f (k := 1) h1 hpa) hpa (by omega) rfl rfl) (fun T2 h2 => jg (tk_a (n := 2) (z := 0) (L := 4) h2 hpa (by omega) rfl rfl) (fun T3 h3 => ⟨cp_8, jg (tk_a (n := 3) (z := 0) (L := 8) (tk_f (k := 4) h3 hpa) hpa (by omega) rfl rfl) (fun T4 h4 => jg (tk_a (n := 4) (z := 0) (L := 8) h4 hpa (by omega) rfl rfl) (fun T5 h5 => jg (tk_a (n := 5) (z := 0) (L := 8) h5 hpa (by omega) rfl rfl) (fun T6 h6 => jg (tk_a (n := 6) (z := 0) (L := 8) h6 hpa (by omega) rfl rfl) (fun T7 h7 => jg (tk_a (n := 7) (z := 0) (L := 8) h7 hpa (by omega) rfl rfl) (fun T8 h8 => ⟨cp_24, jg (tk_a (n := 8) (z := 0) (L := 24) (tk_f (k := 10) h8 hpa) hpa (by omega) rfl rfl) (fun T9 h9 => jg (tk_a (n := 9) (z := 0) (L := 24) h9 hpa (by omega) rfl rfl) (fun T10 h10 => jg (tk_a (n := 10) (z := 0) (L := 24) h10 hpa (by omega) rfl rfl) (fun T11 h11 => jg (tk_a (n := 11) (z := 0) (L := 24) h11 hpa (by omega) rfl rfl) (fun T12 h12 => jg (tk_a (n := 12) (z := 0) (L := 24) h12 hpa (by omega) rfl rfl) (fun T13 h13 => jg (tk_a (n := 13) (z := 0) (L := 24) h13 hpa (by omega) rfl rfl) (fun T14 h14 => tk_e (k := 18) (tk_f (k := 17) h14 hpa) hpa (fun y hy => by omega)))))))⟩)))))⟩))⟩)⟩
-- books that say the same
theorem ln_b : ln 1 = 7 ∧ ln 2 = 4 ∧ ln 3 = 4 ∧ ln 4 = 8 ∧ ln 5 = 8 ∧ ln 6 = 8 ∧ ln 7 = 8 ∧ ln 8 = 8 ∧ ln 9 = 24 ∧ ln 10 = 24 ∧ ln 11 = 24 ∧ ln 12 = 24 ∧ ln 13 = 24 ∧ ln 14 = 24 := by decide
theorem BkX_cp {T U : St} {b b' : Nat} {B B' : Nat → Int} (hW : WF B) (hX : BkX T b B) (e : ∀ j, j < 202 → B' j = B j) (hA : ∀ i, 1 ≤ i → i ≤ 14 → ∀ j, j < ln i → U.2.2.1 (b' + i) j = T.2.2.1 (b + i) j) (hF : ∀ k, (k = 1 ∨ k = 4 ∨ k = 10) → U.1 b' k = T.1 b k) (h17 : U.1 b' 17 = iz (B' 202)) (h18 : U.1 b' 18 = iz (B' 203)) : BkX U b' B' := by
  obtain ⟨h1, h2, h3, h4, h5, h6⟩ := hX
  obtain ⟨l1, l2, l3, l4, l5, l6, l7, l8, l9, l10, l11, l12, l13, l14⟩ := ln_b
  have w7 := hW.2.1
  have w16 := hW.2.2.1
  have w17 := wf_17 hW
  refine ⟨fun i hi => ?_, ⟨?_, fun i hi => ?_⟩, ⟨?_, fun d hd => ?_⟩, ⟨?_, fun s hs => ?_⟩, h17, h18⟩
  · rw [hA 1 (by omega) (by omega) i (by omega), e i (by omega)]; exact h1 i hi
  · rw [hF 1 (by omega), e 7 (by omega)]; exact h2.1
  · rw [e 7 (by omega)] at hi
    rw [hA 2 (by omega) (by omega) i (by omega), hA 3 (by omega) (by omega) i (by omega), e _ (by omega), e _ (by omega)]; exact h2.2 i hi
  · rw [hF 4 (by omega), e 16 (by omega)]; exact h3.1
  · rw [e 16 (by omega)] at hd
    unfold bKeep bCold bPan bOwn bFst
    rw [hA 4 (by omega) (by omega) d (by omega), hA 5 (by omega) (by omega) d (by omega), hA 6 (by omega) (by omega) d (by omega), hA 7 (by omega) (by omega) d (by omega), hA 8 (by omega) (by omega) d (by omega), e _ (by omega), e _ (by omega), e _ (by omega), e _ (by omega), e _ (by omega)]; exact h3.2 d hd
  · rw [hF 10 (by omega), e 17 (by omega)]; exact h4.1
  · rw [e 17 (by omega)] at hs
    unfold kd lg wt sr on tw
    rw [hA 9 (by omega) (by omega) s (by omega), hA 10 (by omega) (by omega) s (by omega), hA 11 (by omega) (by omega) s (by omega), hA 12 (by omega) (by omega) s (by omega), hA 13 (by omega) (by omega) s (by omega), hA 14 (by omega) (by omega) s (by omega), e _ (by omega), e _ (by omega), e _ (by omega), e _ (by omega), e _ (by omega), e _ (by omega)]; exact h4.2 s hs
theorem WF_ext {B B' : Nat → Int} (e : ∀ j, j < 202 → B' j = B j) (hW : WF B) (h1 : 0 ≤ B' 202 ∧ 1 ≤ (B' 202).toNat ∧ (B' 202).toNat < 2 ^ (B' 16).toNat ∧ bc8 (B' 202).toNat ≤ 4) (h2 : 0 ≤ B' 203 ∧ B' 203 ≤ 60 ∧ (B' 203 < 60 → 1 ≤ B' 1)) : WF B' := by
  have w16 := hW.2.2.1
  have w17 := wf_17 hW
  have eo : ∀ d : Nat, d < 8 → bOwn B' d = bOwn B d := fun d hd => e _ (by omega)
  have es : ∀ n : Nat, n ≤ 8 → sm (bOwn B') n = sm (bOwn B) n := fun n hn => sm_eq n fun i hi => eo i (by omega)
  refine ⟨?_, ?_, ?_, fun d hd => ?_, ?_, fun s hs => ?_, h1, h2⟩
  · rw [e 0 (by omega), e 1 (by omega), e 2 (by omega), e 3 (by omega), e 4 (by omega), e 5 (by omega), e 6 (by omega)]; exact hW.1
  · rw [e 7 (by omega)]
    have w7 := hW.2.1
    refine ⟨w7.1, w7.2.1, fun i hi => ?_⟩
    rw [e _ (by omega), e _ (by omega)]; exact w7.2.2 i hi
  · rw [e 16 (by omega)]; exact w16
  · rw [e 16 (by omega)] at hd
    have := wf_d hW hd
    unfold WFd at this ⊢
    rw [eo d (by omega), es d (by omega), show bKeep B' d = bKeep B d from e _ (by omega), show bCold B' d = bCold B d from e _ (by omega), show bPan B' d = bPan B d from e _ (by omega), show bFst B' d = bFst B d from e _ (by omega)]
    exact this
  · rw [e 17 (by omega), e 16 (by omega), es _ (by omega)]; exact hW.2.2.2.2.1
  · rw [e 17 (by omega)] at hs
    have := hW.2.2.2.2.2.1 s hs
    unfold WFs at this ⊢
    rw [show kd B' s = kd B s from e _ (by omega), show lg B' s = lg B s from e _ (by omega), show wt B' s = wt B s from e _ (by omega), show sr B' s = sr B s from e _ (by omega), show on B' s = on B s from e _ (by omega), show tw B' s = tw B s from e _ (by omega)]
    exact this
theorem KitX_cg {T : St} {a : Nat} {B B' : Nat → Int} {h o : Int} (hW : WF B) (e : ∀ j, j < 202 → B' j = B j) (i : KitX T a B h o) : KitX T a B' h o := by
  have w7 := hW.2.1
  have ea : ∀ m : Nat, awy B' m (B 7).toNat = awy B m (B 7).toNat := fun m => sm_eq _ fun k hk => by rw [e _ (by omega), e _ (by omega)]
  intro w n m h1 h2 h3 h4
  rw [i w n m h1 h2 h3 h4]
  unfold gv
  rw [e 0 (by omega), e 1 (by omega), e 2 (by omega), e 6 (by omega), e 7 (by omega), ea]
-- the class, when a book is another
theorem s_changed {T : St} {B : Nat → Int} (h46 : T.2.1 0 = 46 ∨ T.2.1 0 = 61) (hX : BkX T (T.2.1 0) B) (hW : WF B) : ok_x_changed T ∧ KitX (x_x_changed T) 76 B (B 5) (B 203) ∧ (x_x_changed T).1 0 14 = 0 ∧ (x_x_changed T).1 0 16 = 0 := by
  obtain ⟨hb, hb2⟩ := b_46 h46
  refine so_x_changed (Q := fun U => KitX U 76 B (B 5) (B 203) ∧ U.1 0 14 = 0 ∧ U.1 0 16 = 0) ?_
  have w0 := hW.1
  have w3 := hW.2.2.2.2.2.2.2
  have hX' : BkX (sF (sF T 0 14 0) 0 16 0) (T.2.1 0) B := BkX_fr (fr_ww fr_1 fr_1) (fun c hc => by omega) hX
  have e0 : (sF (sF T 0 14 0) 0 16 0).2.1 0 = T.2.1 0 := rfl
  have e14 : (sF (sF T 0 14 0) 0 16 0).1 0 14 = 0 := by rw [gF_F, if_neg (by omega), gF_F, if_pos ⟨rfl, rfl⟩]
  have e16 : (sF (sF T 0 14 0) 0 16 0).1 0 16 = 0 := by rw [gF_F, if_pos ⟨rfl, rfl⟩]
  unfold wp_x_changed
  rw [e0]
  generalize sF (sF T 0 14 0) 0 16 0 = S at *
  rw [n_5, hX'.1 5 (by omega), hX'.2.2.2.2.2]
  obtain ⟨ok, ⟨f1, f2, f3⟩, _, hK⟩ := s_fit (T := S) (a := 76) (b := T.2.1 0) (B := B) (h := B 5) (o := B 203) (by decide) hb hX' hW (by omega) (by omega)
  exact ⟨hb, ok, hK, by rw [f1]; exact e14, by rw [f1]; exact e16⟩
theorem Inv_new {T V : St} {W : Nat → Prop} (hI : Inv T) (h : Fr W T V) (n : ∀ c, W c → ¬ (c = 10012 ∨ c = 67101 ∨ (2 ≤ c ∧ c < 4) ∨ (5 ≤ c ∧ c < 13) ∨ (572 ≤ c ∧ c < 575) ∨ c = 65501 ∨ c = 67148 ∨ c = 556 ∨ c = 601 ∨ c = 599 ∨ c = 600 ∨ (16 < c ∧ c < 46 ∧ c ≠ 31) ∨ (11600 ≤ c ∧ c < 11700) ∨ (13100 ≤ c ∧ c < 13200))) (hT : iTp V) (hR : (V.2.1 0 = 46 ∧ V.2.1 1 = 61) ∨ (V.2.1 0 = 61 ∧ V.2.1 1 = 46)) (m32 : V.1 571 32 = 0) (h7 : V.1 571 7 = 1) {B : Nat → Int} (hB : ∀ j, j < 204 → nB V j = B j) (hW : WF B) (hX : BkX V (V.2.1 0) B) (hK : KitX V 76 B (B 5) (B 203)) (h14 : V.1 0 14 = 0) (h16 : V.1 0 16 = 0) (h34 : V.1 571 34 = -1000000) : Inv V := by
  have hW' : WF (nB V) := WF_ext (fun j hj => hB j (by omega)) hW (by rw [hB 202 (by omega), hB 16 (by omega)]; exact hW.2.2.2.2.2.2.1) (by rw [hB 203 (by omega), hB 1 (by omega)]; exact hW.2.2.2.2.2.2.2)
  have hX' : BkX V (V.2.1 0) (nB V) := BkX_cp hW hX (fun j hj => hB j (by omega)) (fun _ _ _ _ _ => rfl) (fun _ _ => rfl) (by rw [hB 202 (by omega)]; exact hX.2.2.2.2.1) (by rw [hB 203 (by omega)]; exact hX.2.2.2.2.2)
  have hK' : KitX V 76 (nB V) (nB V 5) (nB V 203) := by
    rw [hB 5 (by omega), hB 203 (by omega)]
    exact KitX_cg hW (fun j hj => hB j (by omega)) hK
  exact ⟨iSh_fr h (fun c hc hw => n c hw (by omega)) hI.1, hT, iTr_fr h (fun c hc hw => n c hw (by omega)) hI.2.2.1, ⟨hR, m32, Or.inr ⟨h7, hW', hX', hK', Or.inl h14, Or.inl (Or.inr h34), Or.inl h16⟩⟩, iIm_fr h (fun c hc hw => n c hw (by omega)) hI.2.2.2.2⟩
