/-! ===== rules: calls; runs; what a run says of the machine ===== -/
def mx_mok (M : mx_M) : Prop := Cond.code M.1 M.2.1 M.2.2.1 M.2.2.2 ∈ mx_gd ∧ plainName M.1.cls = true ∧ M.2.2.1 ≤ 70 ∧ (M.1.cls ≠ "java/lang/invoke/MethodHandle" ∧ M.1.cls ≠ "java/lang/invoke/VarHandle") ∧ Cond.initialized M.1.cls ∈ mx_gd
abbrev mx_Rs : Type := Option Value × mx_Hp
def mx_stC (call : mx_M → List Value → mx_Hp → mx_Rs → Prop) (M : mx_M) (pc : Nat) (L : mx_Lo) (S : List Value) (hp : mx_Hp) (f2 : mx_Fr) : Prop :=
  ∃ (M2 : mx_M) (as r : List Value) (idx : Nat) (v : Option Value) (hp2 : mx_Hp), mx_mok M2 ∧ S = as.reverse ++ r ∧ (r.map fun v => v.category).sum ≤ 8 ∧ (mx_sl as).length ≤ M2.2.2.1 ∧ call M2 as hp (v, hp2) ∧ f2 = (pc + 3, L, v.toList ++ r, hp2) ∧
  ((∃ (b : Nat) (As : List Value), as = .ref b :: As ∧ decode M.2.1 pc = .ok (.invokevirtual idx, 3) ∧ Cond.methodLink M.1.cls idx M2.1 ∈ mx_gd ∧ Cond.instanceMethod M2.1 ∈ mx_gd ∧ Cond.selects M2.1.cls M2.1 M2.1 ∈ mx_gd ∧ (parseMethodDescriptor M2.1.desc).map (fun d => d.parameters.length) = some As.length ∧ ((∃ (ci : Nat) (q : vw_C) (fs : List Value), b < hp.2.1 ∧ hp.1 b = .inr (ci, fs) ∧ mx_cls[ci]? = some q ∧ q.1 = M2.1.cls) ∨ (∃ k : Nat, k < 8 ∧ b = mx_B + (10 + k) ∧ M2.1.cls = "java/lang/String"))) ∨
   (decode M.2.1 pc = .ok (.invokestatic idx, 3) ∧ Cond.methodLink M.1.cls idx M2.1 ∈ mx_gd ∧ Cond.static M2.1 ∈ mx_gd ∧ (parseMethodDescriptor M2.1.desc).map (fun d => d.parameters.length) = some as.length) ∨
   (∃ host : String, decode M.2.1 pc = .ok (.invokestatic idx, 3) ∧ Cond.methodLinkNest M.1.cls idx M2.1 host ∈ mx_nest ∧ Cond.static M2.1 ∈ mx_gd ∧ (parseMethodDescriptor M2.1.desc).map (fun d => d.parameters.length) = some as.length) ∨
   (∃ (b : Nat) (As : List Value), as = .ref b :: As ∧ decode M.2.1 pc = .ok (.invokespecial idx, 3) ∧ Cond.methodLink M.1.cls idx M2.1 ∈ mx_gd ∧ Cond.instanceMethod M2.1 ∈ mx_gd ∧ M2.1.name = "<init>" ∧ M2.2.2.2 = none ∧ (parseMethodDescriptor M2.1.desc).map (fun d => d.parameters.length) = some As.length) ∨
   (∃ (b : Nat) (As : List Value) (host : String), as = .ref b :: As ∧ decode M.2.1 pc = .ok (.invokespecial idx, 3) ∧ Cond.methodLinkNest M.1.cls idx M2.1 host ∈ mx_nest ∧ Cond.instanceMethod M2.1 ∈ mx_gd ∧ M2.1.name = "<init>" ∧ M2.2.2.2 = none ∧ (parseMethodDescriptor M2.1.desc).map (fun d => d.parameters.length) = some As.length))
def mx_stO (M : mx_M) (pc : Nat) (L : mx_Lo) (S : List Value) (hp : mx_Hp) (f2 : mx_Fr) : Prop := (∃ (idx a : Nat) (r : List Value), decode M.2.1 pc = .ok (.invokespecial idx, 3) ∧ Cond.methodLink M.1.cls idx objectInit ∈ mx_gd ∧ Cond.instanceMethod objectInit ∈ mx_gd ∧ Cond.code objectInit ⟨#[0xb1]⟩ 1 none ∈ mx_gd ∧ S = .ref a :: r ∧ (r.map fun v => v.category).sum ≤ 8 ∧ f2 = (pc + 3, L, r, hp)) ∨
  (∃ (idx : Nat) (x y : Int32) (r : List Value), decode M.2.1 pc = .ok (.invokestatic idx, 3) ∧ Cond.methodLink M.1.cls idx Lib.Math.max.name ∈ mx_gd ∧ Cond.static Lib.Math.max.name ∈ mx_gd ∧ Cond.initialized "java/lang/Math" ∈ mx_gd ∧ Cond.code Lib.Math.max.name Lib.Math.max.code 2 (some .int) ∈ mx_gd ∧ S = .int y :: .int x :: r ∧ (r.map fun v => v.category).sum ≤ 8 ∧ f2 = (pc + 3, L, .int (if x < y then y else x) :: r, hp)) ∨
  (∃ (idx : Nat) (x y : Int32) (r : List Value), decode M.2.1 pc = .ok (.invokestatic idx, 3) ∧ Cond.methodLink M.1.cls idx Lib.Math.min.name ∈ mx_gd ∧ Cond.static Lib.Math.min.name ∈ mx_gd ∧ Cond.initialized "java/lang/Math" ∈ mx_gd ∧ Cond.code Lib.Math.min.name Lib.Math.min.code 2 (some .int) ∈ mx_gd ∧ S = .int y :: .int x :: r ∧ (r.map fun v => v.category).sum ≤ 8 ∧ f2 = (pc + 3, L, .int (if y < x then y else x) :: r, hp))
def mx_step (X : Nat × (Nat → Int32)) (call : mx_M → List Value → mx_Hp → mx_Rs → Prop) (M : mx_M) (f f2 : mx_Fr) : Prop :=
  mx_stP M f.1 f.2.1 f.2.2.1 f.2.2.2 f2 ∨ mx_stT M f.1 f.2.1 f.2.2.1 f.2.2.2 f2 ∨ mx_stK X M f.1 f.2.1 f.2.2.1 f.2.2.2 f2 ∨ mx_stG M f.1 f.2.1 f.2.2.1 f.2.2.2 f2 ∨ mx_stA X M f.1 f.2.1 f.2.2.1 f.2.2.2 f2 ∨ mx_stW M f.1 f.2.1 f.2.2.1 f.2.2.2 f2 ∨ mx_stN M f.1 f.2.1 f.2.2.1 f.2.2.2 f2 ∨ mx_stM M f.1 f.2.1 f.2.2.1 f.2.2.2 f2 ∨ mx_stO M f.1 f.2.1 f.2.2.1 f.2.2.2 f2 ∨ mx_stC call M f.1 f.2.1 f.2.2.1 f.2.2.2 f2
def mx_ret (M : mx_M) (f : mx_Fr) (res : mx_Rs) : Prop :=
  (∃ (v : Int32) (ty : FieldType), decode M.2.1 f.1 = .ok (.ireturn, 1) ∧ M.2.2.2 = some ty ∧ narrow ty (.int v) = .int v ∧ f.2.2.1 = [.int v] ∧ res = (some (.int v), f.2.2.2)) ∨
  (∃ v : Int64, decode M.2.1 f.1 = .ok (.lreturn, 1) ∧ M.2.2.2 = some .long ∧ f.2.2.1 = [.long v] ∧ res = (some (.long v), f.2.2.2)) ∨
  (decode M.2.1 f.1 = .ok (.return_, 1) ∧ M.2.2.2 = none ∧ f.2.2.1 = [] ∧ res = (none, f.2.2.2))
def mx_run (X : Nat × (Nat → Int32)) (call : mx_M → List Value → mx_Hp → mx_Rs → Prop) (M : mx_M) : Nat → mx_Fr → mx_Rs → Prop
  | 0, _, _ => False
  | k + 1, f, res => mx_ret M f res ∨ ∃ f2, mx_step X call M f f2 ∧ mx_run X call M k f2 res
def mx_call (X : Nat × (Nat → Int32)) : Nat → mx_M → List Value → mx_Hp → mx_Rs → Prop
  | 0, _, _, _, _ => False
  | d + 1, M, as, hp, res => ∃ k, mx_run X (mx_call X d) M k (0, mx_ent as M.2.2.1, [], hp) res
def mx_ws (M : mx_M) : List Cond := Cond.code M.1 M.2.1 M.2.2.1 M.2.2.2 :: mx_gd
def mx_rm (d mc ms : Nat) : Room := { frames := d, cells := mc, slots := ms, locals := 100 * d }
def mx_Pc (D : va_G) (κ : Nat → ClassId) (base : Nat) (cst : Nat → Nat) (X : Nat × (Nat → Int32)) (as : List Value) (hp : mx_Hp) : Array Value → State → Prop := va_Pc (as.map (mx_rv (mx_ρ base cst))) (fun U => U.heap.size = base + hp.2.1 ∧ va_P D mx_cls (mx_w (mx_ρ base cst) κ hp.1 hp.2.1) U.heap ∧ mx_E D κ base cst X U U.heap)
def mx_Qc (D : va_G) (κ : Nat → ClassId) (base : Nat) (cst : Nat → Nat) (res : mx_Rs) : Array Value → State → Outcome → State → Prop := fun _ st oc t => (oc = .returned (res.1.map (mx_rv (mx_ρ base cst))) ∧ va_P D mx_cls (mx_w (mx_ρ base cst) κ res.2.1 res.2.2.1) t.heap) ∧ va_F (fun q => base ≤ q) st t
-- what a caller may take of a call
def mx_Ok (l : Launch) (D : va_G) (κ : Nat → ClassId) (base : Nat) (cst : Nat → Nat) (X : Nat × (Nat → Int32)) (d : Nat) (call : mx_M → List Value → mx_Hp → mx_Rs → Prop) : Prop :=
  ∀ (M : mx_M) (as : List Value) (hp : mx_Hp) (res : mx_Rs), call M as hp res → mx_mok M → (hp.2.1 ≤ res.2.2.1 ∧ hp.2.2 ≤ res.2.2.2) ∧ (res.2.2.1 ≤ mx_B → (mx_sl as).length ≤ M.2.2.1 → Met l M.1 (mx_ws M) (mx_rm d (res.2.2.1 - hp.2.1) (res.2.2.2 - hp.2.2)) (mx_Pc D κ base cst X as hp) (mx_Qc D κ base cst res) (res.2.2.1 - hp.2.1) (res.2.2.2 - hp.2.2) (fun q => base ≤ q))
theorem mx_blind {D : va_G} {κ : Nat → ClassId} {base : Nat} {cst : Nat → Nat} {X : Nat × (Nat → Int32)} {as : List Value} {hp : mx_Hp} : FrameBlind (mx_Pc D κ base cst X as hp) := by
  intro a U g mk q
  obtain ⟨q0, q1, q2, q3⟩ := q
  exact ⟨q0, q1, q2, mx_E.moved (s := U) (U := U.calling g mk a) (State.WarmedH.refl U) (fun _ _ _ => rfl) q3⟩
theorem mx_gd_gd : GoodIn mx_gd mx_gd := fun w h => ⟨h, good_of_word (mx_gd_good h)⟩
theorem mx_ws_gd {M : mx_M} (h : mx_mok M) : GoodIn mx_gd (mx_ws M) := fun w hw => by
  rcases List.mem_cons.mp hw with rfl | hw
  · exact mx_gd_gd _ h.1
  · exact mx_gd_gd _ hw
theorem mx_opt (ρ : Nat → Nat) (v : Option Value) (r : List Value) : (v.toList ++ r).map (mx_rv ρ) = (v.map (mx_rv ρ)).toList ++ r.map (mx_rv ρ) := by cases v <;> rfl
section MXC
variable {D : va_G} {κ : Nat → ClassId} {base : Nat} {cst : Nat → Nat} {X : Nat × (Nat → Int32)} {p : Program} {l : Launch} {e : Env} {R : Room} {s : State} {m : MethodId} {args : Array Value} {below : List Frame} {meth : Method} {c : Code} {Q : State → Prop}
variable {M : mx_M} {n0 sl0 pc d : Nat} {L : mx_Lo} {S : List Value} {hp : mx_Hp} {f2 : mx_Fr} {call : mx_M → List Value → mx_Hp → mx_Rs → Prop}
theorem mx_size {n cells slots : Nat} {h : Nat → mx_C} {H : Heap} {locs : List Loc} {g : JFrame} (hsz : s.heap.size = base + n0) (hc : n0 + cells = n) (hn : n ≤ mx_B) (hP : va_P D mx_cls (mx_w (mx_ρ base cst) κ h n) H) (hS : va_S (fun q => base ≤ q) s.heap H locs) (k : H.size = base + n → W p l e R s m args below meth c H locs cells slots Q g) : W p l e R s m args below meth c H locs cells slots Q g := by
  intro T hT Xs
  have h3 := Xs.heapSize
  rw [hT] at h3
  have h4 : base + n ≤ H.size := by
    rcases Nat.eq_zero_or_pos n with z | z
    · have := hS.1
      omega
    · have h5 := (hP (n - 1) _ (mx_w_get (show n - 1 < n by omega))).lt
      simp only at h5
      rw [mx_ρ_lt (by omega)] at h5
      omega
  exact k (by omega) T hT Xs
theorem mx_after {H : Heap} {locs : List Loc} {ls : Array Slot} {cells slots mc ms : Nat} {a : Array Value} {st0 rest : List Value} {res : mx_Rs} (hr : va_Run p l e R s m args below meth c H locs cells slots mc ms (F0 m pc ls st0) rest (mx_Qc D κ base cst res a) (fun q => base ≤ q)) (hS : va_S (fun q => base ≤ q) s.heap H locs)
    (kk : ∀ (H1 : Heap) (locs1 : List Loc), va_P D mx_cls (mx_w (mx_ρ base cst) κ res.2.1 res.2.2.1) H1 → va_S (fun q => base ≤ q) s.heap H1 locs1 → W p l e R s m args below meth c H1 locs1 (cells + mc) (slots + ms) Q (F0 m (pc + 3) ls ((res.1.map (mx_rv (mx_ρ base cst))).toList ++ rest))) : W p l e R s m args below meth c H locs cells slots Q (F0 m pc ls st0) := by
  intro T hT Xs
  obtain ⟨w, st₀, t, T', L1, h0, X', hL, e1, e2, ⟨⟨hv, hP⟩, hz, hk⟩, st⟩ := hr T hT Xs
  cases hv
  rw [h0] at hz hk
  obtain ⟨t2, a1, b1⟩ := kk T'.heap (locs ++ L1) (by rw [e1]; exact hP)
    ⟨Nat.le_trans hS.1 (by rw [e1]; exact hz), fun q h1 h2 => by rw [e1, hk q (Nat.lt_of_lt_of_le h1 hS.1) h2]; exact hS.2.1 q h1 h2, fun q hq => by
      rcases List.mem_append.mp hq with h | h
      · exact hS.2.2 q h
      · exact hL q h⟩ T' rfl X'
  exact ⟨t2, st t2 a1, b1⟩
theorem mx_O_ok (hRf : 1 ≤ R.frames) (hRl : 100 ≤ R.locals) (hRc : hp.2.1 ≤ n0 + R.cells) (hRs : hp.2.2 ≤ sl0 + R.slots) (C : mx_Me D κ base cst X p s m args meth c M n0) (h : mx_stO M pc L S hp f2) (k : mx_Go D κ base cst p l e R s m args below meth c Q M n0 sl0 f2) : mx_Go D κ base cst p l e R s m args below meth c Q M n0 sl0 (pc, L, S, hp) := by
  obtain ⟨hx, hb, hml, hown, hts, hmn, hE, hsz⟩ := C
  intro H locs ls cells slots I
  obtain ⟨iL, iN, iP, iS, iC, iQ⟩ := id I
  simp only at iC iQ
  rcases h with ⟨idx, a, r, hd, w1, w2, w3, rfl, hr, rfl⟩ | ⟨idx, x, y, r, hd, w1, w2, w3, w4, rfl, hr, rfl⟩ | ⟨idx, x, y, r, hd, w1, w2, w3, w4, rfl, hr, rfl⟩
  · refine W.objInit hx hb hown (hts _ w1) (hts _ w2) (hts _ w3) rfl (iL.1.trans (iN.trans hml.symm)) rfl hd hRf ?_ (k H locs ls cells slots I)
    have := lv_room (m := m) (pc := pc) (ls := ls) (rest := ((Value.ref a :: r).map (mx_rv (mx_ρ base cst)))) (st := r.map (mx_rv (mx_ρ base cst))) (by rw [mx_cats]; exact hr)
    exact Nat.le_trans (Nat.add_le_add_right this 12) (by omega)
  · exact va_mmax hx hb (hml.trans (iN.symm.trans iL.1.symm)) hown (hts _ w1) (hts _ w2) (hts _ w3) (hts _ w4) hRf (by rw [mx_cats]; omega) (by omega) (by omega) hd (k H locs ls cells slots I)
  · exact va_mmin hx hb (hml.trans (iN.symm.trans iL.1.symm)) hown (hts _ w1) (hts _ w2) (hts _ w3) (hts _ w4) hRf (by rw [mx_cats]; omega) (by omega) (by omega) hd (k H locs ls cells slots I)
theorem mx_C_ok (hRf : d + 1 ≤ R.frames) (hRl : 100 * d + 100 ≤ R.locals) (hok : mx_Ok l D κ base cst X d call) (C : mx_Me D κ base cst X p s m args meth c M n0) (hB : f2.2.2.2.2.1 ≤ mx_B) (hRc : f2.2.2.2.2.1 ≤ n0 + R.cells) (hRs : f2.2.2.2.2.2 ≤ sl0 + R.slots) (h : mx_stC call M pc L S hp f2) (k : mx_Go D κ base cst p l e R s m args below meth c Q M n0 sl0 f2) : mx_Go D κ base cst p l e R s m args below meth c Q M n0 sl0 (pc, L, S, hp) := by
  obtain ⟨hx, hb, hml, hown, hts, hmn, hE, hsz⟩ := C
  intro H locs ls cells slots I
  obtain ⟨iL, iN, iP, iS, iC, iQ⟩ := id I
  obtain ⟨M2, as, r, idx, v, hp2, hM2, rfl, hr, hsl, hca, rfl, hcase⟩ := h
  simp only at hB hRc hRs iC iQ iL iN iP
  obtain ⟨⟨hmn1, hmn2⟩, hMet⟩ := hok M2 as hp (v, hp2) hca hM2
  simp only at hmn1 hmn2
  have hMet := hMet hB hsl
  simp only at hMet
  refine mx_size hsz iC (by omega) iP iS (fun hHs => ?_)
  have hPre : ∀ U : State, U.heap = H → s.WarmedH U.vm → mx_Pc D κ base cst X as hp (as.map (mx_rv (mx_ρ base cst))).toArray U := fun U hU hW => ⟨rfl, by rw [hU]; exact hHs, by rw [hU]; exact iP, by rw [hU]; exact hE.moved hW iS.2.1⟩
  have hroom : 2 * (F0 m pc ls ((as.reverse ++ r).map (mx_rv (mx_ρ base cst)))).monitorRoom + ((r.map (mx_rv (mx_ρ base cst))).map fun v => v.category).sum ≤ 8 := lv_room (by rw [mx_cats]; exact hr)
  have hfit : cells + (hp2.2.1 - hp.2.1) ≤ R.cells ∧ slots + (hp2.2.2 - hp.2.2) ≤ R.slots := ⟨by omega, by omega⟩
  have hR : (mx_rm d (hp2.2.1 - hp.2.1) (hp2.2.2 - hp.2.2)).frames + 1 ≤ R.frames ∧ 8 + (M2.2.2.1 + 11) + (mx_rm d (hp2.2.1 - hp.2.1) (hp2.2.2 - hp.2.2)).locals ≤ R.locals := ⟨hRf, by show 8 + (M2.2.2.1 + 11) + 100 * d ≤ R.locals; have := hM2.2.2.1; omega⟩
  have hgo : ∀ {a : Array Value}, va_Run p l e R s m args below meth c H locs cells slots (hp2.2.1 - hp.2.1) (hp2.2.2 - hp.2.2) (F0 m pc ls ((as.reverse ++ r).map (mx_rv (mx_ρ base cst)))) (r.map (mx_rv (mx_ρ base cst))) (mx_Qc D κ base cst (v, hp2) a) (fun q => base ≤ q) → W p l e R s m args below meth c H locs cells slots Q (F0 m pc ls ((as.reverse ++ r).map (mx_rv (mx_ρ base cst)))) := by
    intro a hrun
    refine mx_after hrun iS (fun H1 locs1 hP1 hS1 => ?_)
    have := k H1 locs1 ls (cells + (hp2.2.1 - hp.2.1)) (slots + (hp2.2.2 - hp.2.2)) ⟨iL, iN, hP1, hS1, by show n0 + (cells + (hp2.2.1 - hp.2.1)) = hp2.2.1; omega, by show sl0 + (slots + (hp2.2.2 - hp.2.2)) = hp2.2.2; omega⟩
    simp only [mx_opt] at this
    exact this
  have hLs : (F0 m pc ls ((as.reverse ++ r).map (mx_rv (mx_ρ base cst)))).locals.size = M.2.2.1 := iL.1.trans iN
  rcases hcase with ⟨b, As, rfl, hd, w1, w2, w3, hpar, hrecv⟩ | ⟨hd, w1, w2, hpar⟩ | ⟨host, hd, w1, w2, hpar⟩ | ⟨b, As, rfl, hd, w1, w2, hni, hnr, hpar⟩ | ⟨b, As, host, rfl, hd, w1, w2, hni, hnr, hpar⟩
  · have hst : (F0 m pc ls (((Value.ref b :: As).reverse ++ r).map (mx_rv (mx_ρ base cst)))).stack = (As.map (mx_rv (mx_ρ base cst))).reverse ++ .ref (mx_ρ base cst b) :: r.map (mx_rv (mx_ρ base cst)) := by
      simp [mx_rv]
    have hG : GoodIn mx_gd (wsV M.1.cls idx M2.1.cls M2.1 (mx_ws M2)) := by
      unfold wsV
      intro w hw
      rcases List.mem_append.mp hw with hw | hw
      · simp only [List.mem_cons, List.not_mem_nil, or_false] at hw
        rcases hw with rfl | rfl | rfl | rfl
        · exact mx_gd_gd _ w1
        · exact mx_gd_gd _ w2
        · exact mx_gd_gd _ w3
        · exact mx_gd_gd _ hM2.2.2.2.2
      · exact mx_ws_gd hM2 w hw
    have hrc : ∃ cellB : Cell, H[mx_ρ base cst b]? = some cellB ∧ cellB.vm.isStatics = false ∧ s.vm.findClass M2.1.cls = some cellB.cls := by
      rcases hrecv with ⟨ci, q, fs, hb1, hb2, hb3, hb4⟩ | ⟨j, hj, rfl, hcl⟩
      · rw [← hb4]
        exact va_recv hE.1 iP hb3 (q0 := b) (fs := fs.map (mx_rv (mx_ρ base cst))) (by rw [mx_w_get hb1, hb2]; rfl)
      · rw [hcl, mx_ρ_c]
        exact va_Orecv (hE.2.2.2.2.2.2.1.1 j hj).1 iS
    exact hgo (va_runV (As := As.map (mx_rv (mx_ρ base cst))) ⟨hx, hb, hml, hown, hts⟩ hMet (cwV As.length hts hG rfl rfl rfl ⟨rfl, hM2.2.2.2.1.1, hM2.2.2.2.1.2, hpar⟩ hR) ⟨mx_blind, hrc, hPre⟩ rfl (by simp) hLs hst hroom hd hfit)
  · have hst : (F0 m pc ls ((as.reverse ++ r).map (mx_rv (mx_ρ base cst)))).stack = (as.map (mx_rv (mx_ρ base cst))).reverse ++ r.map (mx_rv (mx_ρ base cst)) := by
      simp
    have hG : GoodIn mx_gd (va_wsS M.1.cls idx M2.1 (mx_ws M2)) := by
      unfold va_wsS
      intro w hw
      rcases List.mem_append.mp hw with hw | hw
      · simp only [List.mem_cons, List.not_mem_nil, or_false] at hw
        rcases hw with rfl | rfl | rfl
        · exact mx_gd_gd _ w1
        · exact mx_gd_gd _ w2
        · exact mx_gd_gd _ hM2.2.2.2.2
      · exact mx_ws_gd hM2 w hw
    exact hgo (va_runS (As := as.map (mx_rv (mx_ρ base cst))) ⟨hx, hb, hml, hown, hts⟩ hMet (va_cwS as.length hts hG rfl rfl rfl ⟨hM2.2.2.2.1.1, hM2.2.2.2.1.2, hpar⟩ hR) ⟨mx_blind, hPre⟩ rfl (by simp) hLs hst hroom hd hfit)
  · have hst : (F0 m pc ls ((as.reverse ++ r).map (mx_rv (mx_ρ base cst)))).stack = (as.map (mx_rv (mx_ρ base cst))).reverse ++ r.map (mx_rv (mx_ρ base cst)) := by
      simp
    exact hgo (va_runSN (As := as.map (mx_rv (mx_ρ base cst))) ⟨hx, hb, hml, hown, hts⟩ hMet ⟨va_cnB as.length hts (mx_ws_gd hM2) rfl rfl rfl (hE.2.1 _ w1) (hts _ hM2.2.2.2.2) ⟨hM2.2.2.2.1.1, hM2.2.2.2.1.2, hpar⟩ hR, hts _ w2, trivial⟩ ⟨mx_blind, hPre⟩ rfl (by simp) hLs hst hroom hd hfit)
  · have hst : (F0 m pc ls (((Value.ref b :: As).reverse ++ r).map (mx_rv (mx_ρ base cst)))).stack = (As.map (mx_rv (mx_ρ base cst))).reverse ++ .ref (mx_ρ base cst b) :: r.map (mx_rv (mx_ρ base cst)) := by
      simp [mx_rv]
    have hw0 : mx_ws M2 = Cond.code M2.1 M2.2.1 M2.2.2.1 none :: mx_gd := by unfold mx_ws; rw [hnr]
    exact hgo (va_runI (As := As.map (mx_rv (mx_ρ base cst))) ⟨hx, hb, hml, hown, hts⟩ hMet (cwI As.length hts (mx_ws_gd hM2) hw0 rfl rfl (hts _ hM2.2.2.2.2) (hts _ w1) (hts _ w2) hni ⟨hM2.2.2.2.1.1, hM2.2.2.2.1.2, hpar⟩ hR) ⟨mx_blind, hPre⟩ rfl (by simp) hLs hst hroom hd hfit)
  · have hst : (F0 m pc ls (((Value.ref b :: As).reverse ++ r).map (mx_rv (mx_ρ base cst)))).stack = (As.map (mx_rv (mx_ρ base cst))).reverse ++ .ref (mx_ρ base cst b) :: r.map (mx_rv (mx_ρ base cst)) := by
      simp [mx_rv]
    have hw0 : mx_ws M2 = Cond.code M2.1 M2.2.1 M2.2.2.1 none :: mx_gd := by unfold mx_ws; rw [hnr]
    exact hgo (va_runIN (As := As.map (mx_rv (mx_ρ base cst))) ⟨hx, hb, hml, hown, hts⟩ hMet ⟨va_cnB As.length hts (mx_ws_gd hM2) hw0 rfl rfl (hE.2.1 _ w1) (hts _ hM2.2.2.2.2) ⟨hM2.2.2.2.1.1, hM2.2.2.2.1.2, hpar⟩ hR, hni, hts _ w2⟩ ⟨mx_blind, hPre⟩ rfl (by simp) hLs hst hroom hd hfit)
end MXC
