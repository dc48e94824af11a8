/-! ===== runs: what a run says of the machine ===== -/
section MXT
variable {D : va_G} {κ : Nat → ClassId} {base : Nat} {cst : Nat → Nat} {X : Nat × (Nat → Int32)} {p : Program} {l : Launch} {e : Env} {R : Room} {s : State} {m : MethodId} {args : Array Value} {below : List Frame} {meth : Method} {c : Code} {Q : State → Prop}
variable {M : mx_M} {n0 sl0 d : Nat} {call : mx_M → List Value → mx_Hp → mx_Rs → Prop}
theorem mx_step_mono (hok : mx_Ok l D κ base cst X d call) {f f2 : mx_Fr} (h : mx_step X call M f f2) : f.2.2.2.2.1 ≤ f2.2.2.2.2.1 ∧ f.2.2.2.2.2 ≤ f2.2.2.2.2.2 := by
  rcases h with h | h | h | h | h | h | h | h | h | h
  · obtain ⟨i, -, -, e1⟩ := h
    rw [e1]; exact ⟨Nat.le_refl _, Nat.le_refl _⟩
  · obtain ⟨_, _, _, _, _, _, _, _, -, -, -, rfl⟩ := h
    exact ⟨Nat.le_refl _, Nat.le_refl _⟩
  · rcases h with ⟨_, _, -, -, rfl⟩ | ⟨_, _, -, -, rfl⟩ | ⟨_, _, -, -, rfl⟩ | ⟨_, _, -, -, -, rfl⟩ | ⟨_, _, _, -, -, -, rfl⟩ | ⟨_, -, -, rfl⟩ | ⟨_, -, -, rfl⟩ <;> exact ⟨Nat.le_refl _, Nat.le_refl _⟩
  · rcases h with ⟨_, _, _, _, _, _, _, -, -, -, -, -, -, -, rfl⟩ | ⟨_, _, _, -, -, -, ⟨-, rfl⟩ | ⟨-, rfl⟩⟩ <;> exact ⟨Nat.le_refl _, Nat.le_refl _⟩
  · rcases h with ⟨_, _, _, _, _, -, -, -, -, -, -, rfl⟩ | ⟨_, _, _, _, _, -, -, -, -, -, -, rfl⟩ | ⟨_, _, _, _, _, -, -, -, -, -, -, rfl⟩ | ⟨_, _, _, _, _, _, _, -, -, -, -, -, -, -, -, -, rfl⟩ | ⟨_, _, _, _, _, -, -, -, -, -, -, -, rfl⟩ | ⟨_, _, _, _, -, -, -, -, rfl⟩ | ⟨_, _, _, -, -, -, rfl⟩ | ⟨_, _, _, -, -, -, -, rfl⟩ | ⟨_, _, -, -, -, rfl⟩ | ⟨_, _, -, -, -, rfl⟩ | ⟨_, -, -, rfl⟩ <;> exact ⟨Nat.le_refl _, Nat.le_refl _⟩
  · rcases h with ⟨_, _, _, _, _, _, _, -, -, -, -, -, -, -, -, rfl⟩ | ⟨_, _, _, _, _, _, -, -, -, -, -, rfl⟩ | ⟨_, _, _, _, _, _, -, -, -, -, -, rfl⟩ | ⟨_, _, _, _, _, _, -, -, -, -, -, rfl⟩ | ⟨_, _, _, _, _, _, _, _, _, _, -, -, -, -, -, -, -, -, -, -, rfl⟩ | ⟨_, _, _, _, _, _, _, _, _, _, _, -, -, -, -, -, -, -, -, -, -, -, -, -, -, -, -, rfl⟩ <;> exact ⟨Nat.le_refl _, Nat.le_refl _⟩
  · rcases h with ⟨_, _, _, -, -, -, -, -, rfl⟩ | ⟨_, _, _, _, _, -, -, -, -, -, -, -, -, rfl⟩ | ⟨_, _, _, _, _, _, -, -, -, -, -, -, -, -, -, rfl⟩ <;> exact ⟨Nat.le_succ _, Nat.le_add_right _ _⟩
  · obtain ⟨_, _, _, _, _, _, _, -, -, -, -, -, -, -, -, -, -, -, rfl⟩ := h
    exact ⟨by show _ ≤ _ + 1 + _; omega, by show _ ≤ _ + _ + _; omega⟩
  · rcases h with ⟨_, _, _, -, -, -, -, -, -, rfl⟩ | ⟨_, _, _, _, -, -, -, -, -, -, -, rfl⟩ | ⟨_, _, _, _, -, -, -, -, -, -, -, rfl⟩ <;> exact ⟨Nat.le_refl _, Nat.le_refl _⟩
  · obtain ⟨M2, as, r, idx, v, hp2, hM2, -, -, -, hca, rfl, -⟩ := h
    exact (hok M2 as _ _ hca hM2).1
theorem mx_step_ok (hRf : d + 1 ≤ R.frames) (hRl : 100 * d + 100 ≤ R.locals) (hok : mx_Ok l D κ base cst X d call) (C : mx_Me D κ base cst X p s m args meth c M n0) {f f2 : mx_Fr} (hB : f2.2.2.2.2.1 ≤ mx_B) (hRc : f2.2.2.2.2.1 ≤ n0 + R.cells) (hRs : f2.2.2.2.2.2 ≤ sl0 + R.slots) (h : mx_step X call M f f2) (k : mx_Go D κ base cst p l e R s m args below meth c Q M n0 sl0 f2) : mx_Go D κ base cst p l e R s m args below meth c Q M n0 sl0 f := by
  have hm := mx_step_mono hok h
  obtain ⟨pc, L, S, hp⟩ := f
  simp only at hm
  rcases h with h | h | h | h | h | h | h | h | h | h
  · exact mx_P_ok C h k
  · exact mx_T_ok C h k
  · exact mx_K_ok C h k
  · exact mx_G_ok C h k
  · exact mx_A_ok C h k
  · exact mx_W_ok (by omega) (by omega) C (by omega) h k
  · exact mx_N_ok C hB hRc hRs h k
  · exact mx_M_ok C hB hRc hRs h k
  · exact mx_O_ok (by omega) (by omega) (by omega) (by omega) C h k
  · exact mx_C_ok hRf hRl hok C hB hRc hRs h k
theorem mx_run_ok (hRf : d + 1 ≤ R.frames) (hRl : 100 * d + 100 ≤ R.locals) (hok : mx_Ok l D κ base cst X d call) : ∀ (k : Nat) (f : mx_Fr) (res : mx_Rs), mx_run X call M k f res → (f.2.2.2.2.1 ≤ res.2.2.1 ∧ f.2.2.2.2.2 ≤ res.2.2.2) ∧ (mx_Me D κ base cst X p s m args meth c M n0 → res.2.2.1 ≤ mx_B → res.2.2.1 ≤ n0 + R.cells → res.2.2.2 ≤ sl0 + R.slots → (∀ f3 : mx_Fr, mx_ret M f3 res → mx_Go D κ base cst p l e R s m args below meth c Q M n0 sl0 f3) → mx_Go D κ base cst p l e R s m args below meth c Q M n0 sl0 f) := by
  intro k
  induction k with
  | zero => intro f res h; exact h.elim
  | succ k ih =>
    intro f res h
    rcases h with h | ⟨f2, h1, h2⟩
    · refine ⟨?_, fun _ _ _ _ hr => hr f h⟩
      rcases h with ⟨_, _, -, -, -, -, rfl⟩ | ⟨_, -, -, -, rfl⟩ | ⟨-, -, -, rfl⟩ <;> exact ⟨Nat.le_refl _, Nat.le_refl _⟩
    · obtain ⟨i1, i2⟩ := ih f2 res h2
      have hm := mx_step_mono hok h1
      exact ⟨⟨Nat.le_trans hm.1 i1.1, Nat.le_trans hm.2 i1.2⟩, fun C hB hRc hRs hr => mx_step_ok hRf hRl hok C (Nat.le_trans i1.1 hB) (Nat.le_trans i1.1 hRc) (Nat.le_trans i1.2 hRs) h1 (i2 C hB hRc hRs hr)⟩
theorem mx_run_mono (hok : mx_Ok l D κ base cst X d call) : ∀ (k : Nat) (f : mx_Fr) (res : mx_Rs), mx_run X call M k f res → f.2.2.2.2.1 ≤ res.2.2.1 ∧ f.2.2.2.2.2 ≤ res.2.2.2 := by
  intro k
  induction k with
  | zero => intro f res h; exact h.elim
  | succ k ih =>
    intro f res h
    rcases h with h | ⟨f2, h1, h2⟩
    · rcases h with ⟨_, _, -, -, -, -, rfl⟩ | ⟨_, -, -, -, rfl⟩ | ⟨-, -, -, rfl⟩ <;> exact ⟨Nat.le_refl _, Nat.le_refl _⟩
    · have i1 := ih f2 res h2
      have hm := mx_step_mono hok h1
      exact ⟨Nat.le_trans hm.1 i1.1, Nat.le_trans hm.2 i1.2⟩
end MXT
theorem mx_sound (l : Launch) (D : va_G) (κ : Nat → ClassId) (base : Nat) (cst : Nat → Nat) (X : Nat × (Nat → Int32)) : ∀ d : Nat, mx_Ok l D κ base cst X d (mx_call X d) := by
  intro d
  induction d with
  | zero => intro M as hp res h; exact h.elim
  | succ d ih =>
    intro M as hp res h hM
    obtain ⟨k, hk⟩ := h
    have hmono := mx_run_mono ih k _ _ hk
    refine ⟨hmono, fun hB hsl => ?_⟩
    refine Met.ofW (cc := M.2.1) (maxL := M.2.2.1) (ret := M.2.2.2) hM.2.1 rfl ?_
    intro p e s m args below meth c s₁ B hml hv
    obtain ⟨rfl, hsz, hP, hE⟩ := hv
    have hts0 := atoms_spec (ws := mx_ws M) B.pre
    have hts : ∀ w ∈ mx_gd, w.before (as.map (mx_rv (mx_ρ base cst))).toArray s = true := fun w hw => hts0 w (List.mem_cons_of_mem _ hw)
    have C : mx_Me D κ base cst X p s m (as.map (mx_rv (mx_ρ base cst))).toArray meth c M hp.2.1 := ⟨B.exec, B.bytes, hml, findClass_of_methodNamed B.named, hts, (name_of_methodNamed B.named B.method).1, hE, hsz⟩
    rw [lg_entry_eq]
    have hrun := (mx_run_ok (D := D) (κ := κ) (base := base) (cst := cst) (p := p) (l := l) (e := e) (R := (headSpec (mx_ws M) (mx_rm (d + 1) (res.2.2.1 - hp.2.1) (res.2.2.2 - hp.2.2))).room) (s := s) (m := m) (args := (as.map (mx_rv (mx_ρ base cst))).toArray) (below := below) (meth := meth) (c := c) (Q := MQ below (mx_Qc D κ base cst res) (as.map (mx_rv (mx_ρ base cst))).toArray s (res.2.2.1 - hp.2.1) (res.2.2.2 - hp.2.2) (fun q => base ≤ q)) (n0 := hp.2.1) (sl0 := hp.2.2) (show d + 1 ≤ d + 1 from Nat.le_refl _) (show 100 * d + 100 ≤ 100 * (d + 1) by omega) ih k _ _ hk).2 C hB (show res.2.2.1 ≤ hp.2.1 + (res.2.2.1 - hp.2.1) by omega) (show res.2.2.2 ≤ hp.2.2 + (res.2.2.2 - hp.2.2) by omega)
    refine hrun ?_ s.heap [] _ 0 0 ⟨mx_ent_L _ hsl, mx_ent_len hsl, hP, va_S.rf, rfl, rfl⟩
    intro f3 hr H locs ls cells slots I
    obtain ⟨iL, iN, iP, iS, iC, iQ⟩ := I
    have hlk := B.notSynchronized
    have hrt := B.returns
    rcases hr with ⟨v, ty, hd, ht, hn, hS, rfl⟩ | ⟨v, hd, ht, hS, rfl⟩ | ⟨hd, ht, hS, rfl⟩
    · rw [hS]
      have e1 : cells = f3.2.2.2.2.1 - hp.2.1 := by omega
      have e2 : slots = f3.2.2.2.2.2 - hp.2.2 := by omega
      subst e1; subst e2
      exact W.zret (ty := ty) B.exec B.bytes (hrt.trans ht) hn (fun t ht2 hW => ⟨⟨rfl, by rw [ht2]; exact iP⟩, iS.F ht2⟩) iS.2.2 hd
    · rw [hS]
      have e1 : cells = f3.2.2.2.2.1 - hp.2.1 := by omega
      have e2 : slots = f3.2.2.2.2.2 - hp.2.2 := by omega
      subst e1; subst e2
      exact W.lret B.exec B.bytes (hrt.trans ht) (fun t ht2 hW => ⟨⟨rfl, by rw [ht2]; exact iP⟩, iS.F ht2⟩) iS.2.2 hd
    · rw [hS]
      have e1 : cells = f3.2.2.2.2.1 - hp.2.1 := by omega
      have e2 : slots = f3.2.2.2.2.2 - hp.2.2 := by omega
      subst e1; subst e2
      exact W.vret B.exec B.bytes (hrt.trans ht) (fun t ht2 hW => ⟨⟨rfl, by rw [ht2]; exact iP⟩, iS.F ht2⟩) iS.2.2 hd
