/-! ===== rules: what is written ===== -/
def mx_fp (M : mx_M) (idx ci k : Nat) : Prop := ∃ r : vw_C, mx_cls[ci]? = some r ∧ k < r.2.2 ∧ Cond.fieldLink M.1.cls idx r.1 (r.2.1 k).2.1 (r.2.1 k).2.2.1 ∈ mx_gd ∧ (r.2.1 k).1 = r.1 ∧ ((r.2.1 k).2.2.2 = false ∨ ((r.2.1 k).2.2.2 = true ∧ M.1.name = "<init>" ∧ r.1 = M.1.cls))
def mx_stW (M : mx_M) (pc : Nat) (L : mx_Lo) (S : List Value) (hp : mx_Hp) (f2 : mx_Fr) : Prop :=
  (∃ (idx ci k a : Nat) (fs : List Value) (v : Value) (r : List Value), decode M.2.1 pc = .ok (.putfield idx, 3) ∧ mx_fp M idx ci k ∧ S = v :: .ref a :: r ∧ a < hp.2.1 ∧ hp.1 a = .inr (ci, fs) ∧ k < fs.length ∧ narrow (mx_tyF ci k) v = v ∧ fits (mx_tyF ci k) v = true ∧ f2 = (pc + 3, L, r, (va_up hp.1 a (.inr (ci, fs.set k v)), hp.2))) ∨
  (∃ (i x : Int32) (a n : Nat) (f : Nat → Int32) (r : List Value), decode M.2.1 pc = .ok (.iastore, 1) ∧ S = .int x :: .int i :: .ref a :: r ∧ a < hp.2.1 ∧ hp.1 a = .inl (0, n, .inl f) ∧ vp_in i n ∧ f2 = (pc + 1, L, r, (va_up hp.1 a (.inl (0, n, .inl (upd f i.toNatClampNeg x))), hp.2))) ∨
  (∃ (i : Int32) (x : Int64) (a n : Nat) (f : Nat → Int64) (r : List Value), decode M.2.1 pc = .ok (.lastore, 1) ∧ S = .long x :: .int i :: .ref a :: r ∧ a < hp.2.1 ∧ hp.1 a = .inl (1, n, .inr (.inl f)) ∧ vp_in i n ∧ f2 = (pc + 1, L, r, (va_up hp.1 a (.inl (1, n, .inr (.inl (vp_updL f i.toNatClampNeg x)))), hp.2))) ∨
  (∃ (i x : Int32) (a n : Nat) (f : Nat → Int32) (r : List Value), decode M.2.1 pc = .ok (.bastore, 1) ∧ S = .int x :: .int i :: .ref a :: r ∧ a < hp.2.1 ∧ hp.1 a = .inl (2, n, .inl f) ∧ vp_in i n ∧ f2 = (pc + 1, L, r, (va_up hp.1 a (.inl (2, n, .inl (upd f i.toNatClampNeg (vp_nar .boolean x)))), hp.2))) ∨
  (∃ (i : Int32) (a b n t ci : Nat) (q : vw_C) (vs : List Value) (f : Nat → Option Nat) (r : List Value), decode M.2.1 pc = .ok (.aastore, 1) ∧ S = .ref b :: .int i :: .ref a :: r ∧ a < hp.2.1 ∧ b < hp.2.1 ∧ t < 8 ∧ mx_cls[ci]? = some q ∧ mx_ty t = .object q.1 ∧ hp.1 a = .inl (t, n, .inr (.inr (.inr (.inr f)))) ∧ hp.1 b = .inr (ci, vs) ∧ vp_in i n ∧ f2 = (pc + 1, L, r, (va_up hp.1 a (.inl (t, n, .inr (.inr (.inr (.inr (va_up f i.toNatClampNeg (some b))))))), hp.2))) ∨
  (∃ (idx : Nat) (sp dp n : Int32) (a b na nb : Nat) (f g : Nat → Int32) (r : List Value), decode M.2.1 pc = .ok (.invokestatic idx, 3) ∧ Cond.methodLink M.1.cls idx arraycopyName ∈ mx_gd ∧ Cond.native arraycopyName ∈ mx_gd ∧ Cond.static arraycopyName ∈ mx_gd ∧ Cond.initialized "java/lang/System" ∈ mx_gd ∧ S = .int n :: .int dp :: .ref a :: .int sp :: .ref b :: r ∧ a < hp.2.1 ∧ b < hp.2.1 ∧ hp.1 b = .inl (0, nb, .inl f) ∧ hp.1 a = .inl (0, na, .inl g) ∧ ¬ sp < 0 ∧ ¬ dp < 0 ∧ ¬ n < 0 ∧ sp.toNatClampNeg + n.toNatClampNeg ≤ nb ∧ dp.toNatClampNeg + n.toNatClampNeg ≤ na ∧ (r.map fun v => v.category).sum ≤ 8 ∧ f2 = (pc + 3, L, r, (va_up hp.1 a (.inl (0, na, .inl (va_cpy f g sp.toNatClampNeg dp.toNatClampNeg n.toNatClampNeg))), hp.2)))
theorem mx_cats (ρ : Nat → Nat) (r : List Value) : ((r.map (mx_rv ρ)).map fun v => v.category) = r.map fun v => v.category := by
  rw [List.map_map]
  exact List.map_congr_left fun v _ => mx_rv_cat ρ v
section MXW
variable {D : va_G} {κ : Nat → ClassId} {base : Nat} {cst : Nat → Nat} {X : Nat × (Nat → Int32)} {p : Program} {l : Launch} {e : Env} {R : Room} {s : State} {m : MethodId} {args : Array Value} {below : List Frame} {meth : Method} {c : Code} {Q : State → Prop}
variable {M : mx_M} {n0 sl0 pc : Nat} {L : mx_Lo} {S : List Value} {hp : mx_Hp} {f2 : mx_Fr}
theorem mx_W_ok (hRf : 1 ≤ R.frames) (hRl : 100 ≤ R.locals) (C : mx_Me D κ base cst X p s m args meth c M n0) (hB : hp.2.1 ≤ mx_B) (h : mx_stW M pc L S hp f2) (k : mx_Go D κ base cst p l e R s m args below meth c Q M n0 sl0 f2) : mx_Go D κ base cst p l e R s m args below meth c Q M n0 sl0 (pc, L, S, hp) := by
  obtain ⟨hx, hb, hml, hown, hts, hmn, hE, hsz⟩ := C
  intro H locs ls cells slots I
  obtain ⟨iL, iN, iP, iS, iC, iQ⟩ := id I
  have hK := hE.1
  have iD := mx_D (base := base) (cst := cst) (κ := κ) (h := hp.1) hB
  have he : ∀ {a : Nat} {x : mx_C}, a < hp.2.1 → hp.1 a = x → (mx_w (mx_ρ base cst) κ hp.1 hp.2.1)[a]? = some (mx_ρ base cst a, mx_rc (mx_ρ base cst) κ x) := fun ha hc => by rw [mx_w_get ha, hc]
  have go : ∀ (a : Nat) (x : mx_C) (H1 : Heap) (locs1 : List Loc), va_P D mx_cls ((mx_w (mx_ρ base cst) κ hp.1 hp.2.1).set a (mx_ρ base cst a, mx_rc (mx_ρ base cst) κ x)) H1 → va_S (fun q => base ≤ q) s.heap H1 locs1 → mx_In D κ base cst s M n0 sl0 L (va_up hp.1 a x, hp.2) H1 locs1 ls cells slots := by
    intro a x H1 locs1 hP1 hS1
    rw [mx_w_set] at hP1
    exact ⟨iL, iN, hP1, hS1, iC, iQ⟩
  rcases h with ⟨idx, ci, k0, a, fs, v, r, hd, ⟨q, hq, hk, hw, hT, hfin⟩, rfl, ha, hc, hlen, hn, hf, rfl⟩ | ⟨i, x, a, n, f, r, hd, rfl, ha, hc, hin, rfl⟩ | ⟨i, x, a, n, f, r, hd, rfl, ha, hc, hin, rfl⟩ | ⟨i, x, a, n, f, r, hd, rfl, ha, hc, hin, rfl⟩ | ⟨i, a, b, n, t, ci, q, vs, f, r, hd, rfl, ha, hb2, ht, hq, hty, hc, hcb, hin, rfl⟩ | ⟨idx, sp, dp, n, a, b, na, nb, f, g, r, hd, w1, w2, w3, w4, rfl, ha, hb2, hcb, hc, h1, h2, h3, h4, h5, hr, rfl⟩
  · have hes : ((fs.map (mx_rv (mx_ρ base cst))).set k0 (mx_rv (mx_ρ base cst) v)) = (fs.set k0 v).map (mx_rv (mx_ρ base cst)) := (List.map_set ..).symm
    have hd2 : parseFieldDescriptor (q.2.1 k0).2.2.1 = some (mx_tyF ci k0) := (mx_cls_ok ci q hq).2.1 k0 hk
    have kk : ∀ (H1 : Heap) (locs1 : List Loc), va_P D mx_cls ((mx_w (mx_ρ base cst) κ hp.1 hp.2.1).set a (mx_ρ base cst a, .inr (ci, (fs.map (mx_rv (mx_ρ base cst))).set k0 (mx_rv (mx_ρ base cst) v)))) H1 → va_D (fun q => base ≤ q) ((mx_w (mx_ρ base cst) κ hp.1 hp.2.1).set a (mx_ρ base cst a, .inr (ci, (fs.map (mx_rv (mx_ρ base cst))).set k0 (mx_rv (mx_ρ base cst) v)))) → va_S (fun q => base ≤ q) s.heap H1 locs1 → W p l e R s m args below meth c H1 locs1 cells slots Q (F0 m (pc + 3) ls (r.map (mx_rv (mx_ρ base cst)))) := by
      intro H1 locs1 hP1 _ hS1
      rw [hes] at hP1
      exact k H1 locs1 ls cells slots (go a (.inr (ci, fs.set k0 v)) H1 locs1 hP1 hS1)
    rcases hfin with hfin | ⟨hfin, hini, hcl⟩
    · exact va_put (C := q.1) (T := q.2.1) (N := q.2.2) hx hb hts (mx_u_gd hq) (mx_tyF ci) (mx_cls_ok ci q hq).2.1 (mx_cls_ok ci q hq).2.2 hown hK iP iD iS a (he ha hc) hq k0 hk (hts _ hw) (fun x h9 => by rw [hT] at h9; exact h9) hfin hd2 (mx_rv_nar _ _ _ hn) (mx_rv_fits _ _ _ hf) (by rw [List.length_map]; exact hlen) hd kk
    · exact va_putF (C := q.1) (T := q.2.1) (N := q.2.2) hx hb hts (mx_u_gd hq) (mx_tyF ci) (mx_cls_ok ci q hq).2.1 (mx_cls_ok ci q hq).2.2 hown hK iP iD iS a (he ha hc) hq k0 hk (hts _ hw) (fun x h9 => by rw [hT] at h9; exact h9) hfin (hmn.trans hini) (hT.trans hcl) hd2 (mx_rv_nar _ _ _ hn) (mx_rv_fits _ _ _ hf) (by rw [List.length_map]; exact hlen) hd kk
  · exact va_iast hx hb hK iP iD iS a 0 (he ha hc) (mx_tys_get κ (by omega)) hin hd (fun H1 locs1 hP1 _ hS1 => k H1 locs1 ls cells slots (go a (.inl (0, n, .inl (upd f i.toNatClampNeg x))) H1 locs1 hP1 hS1))
  · exact va_last hx hb hK iP iD iS a 1 (he ha hc) (mx_tys_get κ (by omega)) hin hd (fun H1 locs1 hP1 _ hS1 => k H1 locs1 ls cells slots (go a (.inl (1, n, .inr (.inl (vp_updL f i.toNatClampNeg x)))) H1 locs1 hP1 hS1))
  · exact va_zast hx hb hK iP iD iS a 2 (he ha hc) (mx_tys_get κ (by omega)) hin hd (fun H1 locs1 hP1 _ hS1 => k H1 locs1 ls cells slots (go a (.inl (2, n, .inl (upd f i.toNatClampNeg (vp_nar .boolean x)))) H1 locs1 hP1 hS1))
  · have ht2 : (mx_tys κ)[t]? = some (κ t, .object q.1) := by rw [mx_tys_get κ ht, hty]
    refine va_astq hx hb hK iP iD iS a t b ci (he ha hc) ht2 (he hb2 hcb) hq hin hd (fun H1 locs1 hP1 _ hS1 => ?_)
    have e : (va_up (fun j => (f j).map (mx_ρ base cst)) i.toNatClampNeg (some (mx_ρ base cst b))) = fun j => (va_up f i.toNatClampNeg (some b) j).map (mx_ρ base cst) := by
      funext j
      unfold va_up
      split <;> rfl
    rw [e] at hP1
    exact k H1 locs1 ls cells slots (go a (.inl (t, n, .inr (.inr (.inr (.inr (va_up f i.toNatClampNeg (some b))))))) H1 locs1 hP1 hS1)
  · have hnw : nativeFrameWords "java/lang/System" "arraycopy" 5 + 11 ≤ 90 := by decide +kernel
    exact va_copyi hx hb (hml.trans (iN.symm.trans iL.1.symm)) hown (hts _ w1) (hts _ w2) (hts _ w3) (hts _ w4) hK iP iD iS b a 0 0 (he hb2 hcb) (he ha hc) (mx_tys_get κ (by omega)) (mx_tys_get κ (by omega)) rfl h1 h2 h3 h4 h5 (fun _ _ => rfl) hRf (by rw [mx_cats]; omega) hd (fun H1 locs1 hP1 _ hS1 => k H1 locs1 ls cells slots (go a (.inl (0, na, .inl (va_cpy f g sp.toNatClampNeg dp.toNatClampNeg n.toNatClampNeg))) H1 locs1 hP1 hS1))
end MXW
