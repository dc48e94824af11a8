theorem b_road {B : Nat → Int} {t h o : Int} {X : Nat → Nat → Prop} {S b' ki D : Nat} {any : Bool} {chx : Nat → Int} {okf : St → Int32 → Int32 → Prop} {xf : St → Int32 → Int32 → St} {k d : Nat} {c : Nat → Nat} {T0 : St} {R : Option (Nat → Nat)}
    (hb : sh b' = .inr 1) (hb2 : b' + 14 < 76) (hk : sh ki = .inr 3) (hk2 : ki + 1 < 80) (hW : WF B) (hS2 : S < 2 ^ (B 16).toNat) (hDS : ∀ e, D.testBit e = true → S.testBit e = true) (hD2 : D < 2 ^ (B 16).toNat) (hn : sn D 8 ≤ 4) (ht : 1 ≤ t ∧ t ≤ 60) (ho : o < 60 → 1 ≤ B 1) (hcx : ∀ e, e < 8 → D.testBit e = true → chP B (cnX B t h o X) e (chx e) ∧ chx e ≤ 900)
    (hS : SkK B t h o X S b' ki D any chx okf xf k) (hd : d < 8) (hm : D.testBit d = true) (hkk : sn D 8 - sn D d ≤ k + 1) {Kk : Int32 → St → Prop} {Q : St → Prop} (hK : ∀ v U, PoS B t h o (cnX B t h o X) S b' ki D any R (sn D d) T0 U → Kk v U) :
    ∀ v U, RdI B t h o X S b' ki D any chx T0 d c R v U → bdK okf xf (iz (sn D d)) (iz (csm B D d c)) (iz ((12 * d : Nat) : Int)) Kk Q (fun uv uU => RdI B t h o X S b' ki D any chx T0 d c R uv uU ∧ 12 - uv.toInt.toNat < 12 - v.toInt.toNat) v U := by
  rintro _ U ⟨i, b, hi, rfl, hP, hPo, hR⟩
  have hD := mem_lt hW hD2
  have h8 := hW.2.2.1
  have hd' := hD d hm
  have cb := ch_b hW hd'
  have sn4 : sn D d + 1 ≤ sn D 8 := sn_lt hm hd
  have hP0 := hP
  obtain ⟨p1, p2, p3, p4, p5, p6, p7, p8, p9⟩ := hP
  obtain ⟨sd82, ⟨_, _, _⟩, _, sdW⟩ := p1.2.2.2.2.1 d hd (hDS d hm)
  have r94 : U.2.2.1 94 (sn D d) = iz d := p2.2 d hd hm
  have ixs : (iz (sn D d : Int)).toNatClampNeg = sn D d := ix_nat (by omega)
  have nx1 : iz (sn D d : Int) + 1 = iz ((sn D d + 1 : Nat) : Int) := by rw [z_1, iz_add]; exact iz_inj (by omega)
  have ixs1 : (iz ((sn D d + 1 : Nat) : Int)).toNatClampNeg = sn D d + 1 := ix_nat (by omega)
  have nx : iz (i : Int) + 1 = iz ((i + 1 : Nat) : Int) := by rw [z_1, iz_add]; exact iz_inj (by omega)
  have csb := csm_b (c := c) hW hD2 d (fun e he hme => (p4 e he hme).1)
  have snd3 : sn D d ≤ 3 := by omega
  unfold bdK
  rw [ixs, r94, ix_nat (by omega), sd82, iz_le (by omega)]
  refine ⟨in_nat (by omega) (by omega), in_nat (by omega) (by omega), fun q => ?_, fun q => ?_⟩
  · have ei : i = chn B d := by omega
    have : pn B t h o X D any d i c b = b := pend_z (by omega)
    rw [this] at hR
    rw [← hR] at hK
    exact hK _ _ hPo
  have hi' : i < chn B d := by omega
  have ms : 12 - (iz ((i + 1 : Nat) : Int)).toInt.toNat < 12 - (iz (i : Int)).toInt.toNat := by rw [iz_t (by omega), iz_t (by omega)]; omega
  have cstb := cst_b hW hd' hi'
  have olt := opm_lt (t := t) (h := h) (o := o) (cn := cnX B t h o X) (D := D) (c := c) (d := d) hW hd'
  rw [p8 d hd hm (Nat.le_refl d), bt12 olt (by omega), nx, nx1, ixs1]
  -- the next seat
  obtain ⟨d2, y1, y2, y3, y4⟩ : ∃ d2, d < d2 ∧ d2 ≤ 8 ∧ (d2 < 8 → D.testBit d2 = true) ∧ sn D d2 = sn D d + 1 := by
    by_cases z : sn D d + 1 = sn D 8
    · exact ⟨8, hd, Nat.le_refl 8, fun z => by omega, z.symm⟩
    · obtain ⟨d2, g1, g2, g3⟩ := sn_ex (D := D) (a := sn D d + 1) 8 (by omega)
      refine ⟨d2, ?_, by omega, fun _ => g2, g3⟩
      rcases Nat.lt_or_ge d d2 with y | y
      · exact y
      · have := sn_mo (D := D) y; omega
  have gap := sn_gap (D := D) (d := d + 1) (e := d2) (by rw [sn_s, if_pos hm]; omega)
  have rs2 : rst D chx d2 = rst D chx (d + 1) := by
    have := rst_g (chx := chx) (d2 - (d + 1)) (fun x a1 a2 => gap x a1 (by omega))
    rw [show d + 1 + (d2 - (d + 1)) = d2 by omega] at this
    exact this
  have cs2 : csm B D d2 (upc c d i) = csm B D d c + cst B d i := by
    have := csm_sk (B := B) (D := D) (e := d + 1) (k := d2 - (d + 1)) (c := upc c d i) (fun x a1 a2 => gap x a1 (by omega))
    rw [show d + 1 + (d2 - (d + 1)) = d2 by omega] at this
    rw [this, csm_s, if_pos hm, upc_s, csm_cg (c2 := c) (fun x hx _ => upc_n c i (by omega))]
  -- skipping
  have vld : ∀ c2 : Nat → Nat, (∀ e, e < d + 1 → c2 e = upc c d i e) → (∀ e, d + 1 ≤ e → e < 8 → D.testBit e = true → c2 e < chn B e) → ∀ e, e < 8 → D.testBit e = true → c2 e < chn B e := fun c2 b1 b2 e he hme => by
    by_cases z : e < d + 1
    · rw [b1 e z]
      by_cases z2 : e = d
      · subst z2; rw [upc_s]; exact hi'
      · rw [upc_n c i z2]; exact (p4 e (by omega) hme).1
    · exact b2 e (by omega) he hme
  have skip : ∀ V : St, PrS B t h o (cnX B t h o X) S b' ki D any chx V d c b → PoS B t h o (cnX B t h o X) S b' ki D any b (sn D d) T0 V → (∀ c2 : Nat → Nat, (∀ e, e < d + 1 → c2 e = upc c d i e) → (∀ e, e < 8 → D.testBit e = true → c2 e < chn B e) → PLp B t h o X D 8 c2 → ∃ c0, b = some c0 ∧ (any = false → csm B D 8 c0 ≤ csm B D 8 c2)) → RdI B t h o X S b' ki D any chx T0 d c R (iz ((i + 1 : Nat) : Int)) V ∧ 12 - (iz ((i + 1 : Nat) : Int)).toInt.toNat < 12 - (iz (i : Int)).toInt.toNat := fun V a1 a2 a3 => by
    refine ⟨⟨i + 1, b, by omega, rfl, a1, a2, ?_⟩, ms⟩
    rw [← R_skip hi' (fun c2 b1 b2 b3 => a3 c2 b1 (vld c2 b1 b2) b3) hd]; exact hR
  have c2d : ∀ c2 : Nat → Nat, (∀ e, e < d + 1 → c2 e = upc c d i e) → c2 d = i ∧ ∀ x, x < d → c2 x = c x := fun c2 b1 => ⟨by rw [b1 d (by omega), upc_s], fun x hx => by rw [b1 x (by omega), upc_n c i (by omega)]⟩
  by_cases hbit : (opm B t h o (cnX B t h o X) D c d d).testBit i = true
  case neg =>
    have e0 : (if (opm B t h o (cnX B t h o X) D c d d).testBit i = true then (1 : Int32) else 0) = 0 := if_neg hbit
    rw [e0]
    refine ⟨in_nat (by omega) (by omega), fun _ => skip U hP0 hPo fun c2 b1 b2 b3 => ?_, fun z => absurd rfl z⟩
    obtain ⟨g1, g2⟩ := c2d c2 b1
    refine absurd (opm_t.2 ⟨hi', ?_, fun x hx hmx => ?_⟩) hbit
    · have := ((PL_iff hW hD2 ht b2).1 b3).1 d hd hm
      rw [g1] at this; exact this
    · have := pl_ag hW hD2 ht b2 b3 x d (by omega) hmx hd hm (by omega)
      rw [g1, g2 x hx] at this; exact this
  have e1 : (if (opm B t h o (cnX B t h o X) D c d d).testBit i = true then (1 : Int32) else 0) = 1 := if_pos hbit
  rw [e1]
  obtain ⟨_, hcn, hag⟩ := opm_t.1 hbit
  have wsd := sdW i hi'
  obtain ⟨yd1, yd2⟩ := WsQ_Y hcn wsd
  have swd := sh_wc (d := d) (c := i) hd (by omega)
  have ix2 : iz ((12 * d : Nat) : Int) + iz (i : Int) = iz ((12 * d + i : Nat) : Int) := by rw [iz_add]; exact iz_inj (by omega)
  rw [ix2, ix_nat (by omega), show 123 + 4 * (12 * d + i) = wc d i from rfl]
  refine ⟨in_nat (by omega) (by omega), fun z => absurd z (by decide), fun _ => ⟨in_nat (by omega) (by omega), jo ?_⟩⟩
  try dsimp only
  have r97 : U.2.2.1 97 (sn D d + 1) = iz (rst D chx d2) := by rw [← y4]; exact p3 d2 y2 y3
  have rstb : ∀ n e : Nat, e + n = 8 → 0 ≤ rst D chx e ∧ rst D chx e ≤ 900 * n := by
    intro n
    induction n with
    | zero =>
      intro e he
      have : e = 8 := by omega
      subst this
      have r8 : rst D chx 8 = 0 := by unfold rst; omega
      omega
    | succ n ih =>
      intro e he
      have h1 := ih (e + 1) (by omega)
      cases hme : D.testBit e with
      | true =>
        rw [rst_s hme]
        obtain ⟨g1, g2⟩ := hcx e (by omega) hme
        have : 0 ≤ chx e := by
          rcases g1.2 with ⟨c', w1, _, w3⟩ | ⟨w1, _⟩
          · have := cst_b hW (hD e hme) w1; omega
          · omega
        omega
      | false =>
        have := rst_g (D := D) (chx := chx) (d := e) 1 (fun x a1 a2 => by rw [show x = e by omega]; exact hme)
        omega
  have rb2 := rstb (8 - d2) d2 (by omega)
  have limb : 0 ≤ lim B D any b ∧ lim B D any b ≤ 1000000 := by
    cases hbb : b with
    | none => show (0 : Int) ≤ 1000000 ∧ (1000000 : Int) ≤ 1000000; omega
    | some c0 =>
      have := csm_b (c := c0) hW hD2 8 (fun e he hme => ((p9.2.2.2 c0 hbb).2 e he hme).1)
      show 0 ≤ (if any = true then 0 else csm B D 8 c0) ∧ (if any = true then 0 else csm B D 8 c0) ≤ 1000000
      split <;> omega
  rw [p9.2.1, wsd.2.1, r97, iz_add, iz_add, iz_le (by omega)]
  refine ⟨swd, in_nat (by omega) (by omega), fun zc => skip U hP0 hPo fun c2 b1 b2 b3 => ?_, fun zc => ?_⟩
  · -- it costs no less
    obtain ⟨g1, g2⟩ := c2d c2 b1
    have cns := ((PL_iff hW hD2 ht b2).1 b3).1
    have k1 := csm_rst (B := B) (D := D) (chx := chx) (c := c2) (8 - (d + 1)) (d + 1) (fun e a1 a2 a3 => (hcx e (by omega) a3).1.1 (c2 e) (b2 e (by omega) a3) (cns e (by omega) a3))
    rw [show d + 1 + (8 - (d + 1)) = 8 by omega, csm_s, if_pos hm, g1, csm_cg (c2 := c) (fun x hx _ => g2 x hx)] at k1
    have k2 : rst D chx (d + 1) = sm (fun e => if D.testBit e = true then chx e else 0) 8 - sm (fun e => if D.testBit e = true then chx e else 0) (d + 1) := rfl
    have k3 := csm_b (c := c2) hW hD2 8 b2
    cases hbb : b with
    | none =>
      rw [hbb] at zc
      have : lim B D any none = 1000000 := rfl
      omega
    | some c0 =>
      refine ⟨c0, rfl, fun ha => ?_⟩
      rw [hbb, ha] at zc
      have : lim B D false (some c0) = csm B D 8 c0 := rfl
      omega
  have hty := p7 hd
  have hroom := s_hasRoom hty yd2
  have c3 : ∀ w m : Nat, rsP B t (cnX B t h o X) d i w m → cnt B t (cnX B t h o X) D c d w m ≤ 3 := fun w m hr => by
    have := cnt_3 (B := B) (t := t) (cn := cnX B t h o X) (D := D) (c := c) (w := w) (m := m) hd hm hr.2
    omega
  refine ⟨⟨(by decide +kernel : ∀ a, a < 4 → sh (507 + 5 * a) = .inr 9) _ (by omega), shl10_3 swd, trivial⟩, fun zr => skip U hP0 hPo fun c2 b1 b2 b3 => ?_, fun zr => ?_⟩
  · -- no room
    obtain ⟨g1, g2⟩ := c2d c2 b1
    have PI := (PL_iff hW hD2 ht b2).1 b3
    refine absurd (fun w m hw hm' hr => ?_) (hroom.1 zr)
    rw [fll_i hW ho hm' (c3 w m hr)]
    have k1 := cnt_s (B := B) (t := t) (cn := cnX B t h o X) (D := D) (c := c) (i := i) (w := w) (m := m) hd hm y1 gap
    rw [bN_y hr] at k1
    have k2 := cnt_le (B := B) (t := t) (cn := cnX B t h o X) (D := D) (c := upc c d i) (c2 := c2) (d := d2) (d2 := 8) (w := w) (m := m) y2 (fun e he hme => by
      rcases Nat.lt_or_ge e (d + 1) with y | y
      · exact b1 e y
      · rw [gap e y he] at hme; cases hme)
    rw [cnt_8 (fun e he hme => ⟨b2 e he hme, PI.1 e he hme⟩)] at k2
    have k3 := PI.2.1 w m hw hm'
    omega
  have room : ∀ w m : Nat, w < 5 → m < 60 → rsP B t (cnX B t h o X) d i w m → ¬ fll B h o w m (cnt B t (cnX B t h o X) D c d w m) := Classical.byContradiction fun y => zr (hroom.2 y)
  obtain ⟨okl, l1, l2, l3, l4, l5, l6, l7⟩ := s_leaves (c := i) (op := opm B t h o (cnX B t h o X) D c d) hb hb2 hk hk2 hW hS2 hDS hn ht p1 p2 hd hm hi' hcn (fun e he hme hde => ⟨p8 e he hme (by omega), opm_lt hW (hD e hme)⟩)
  refine ⟨okl, ?_⟩
  generalize (x_pl_leavesOpen U (iz (sn D d : Int)) (iz ((12 * d + i : Nat) : Int))).1 = r at *
  generalize (x_pl_leavesOpen U (iz (sn D d : Int)) (iz ((12 * d + i : Nat) : Int))).2 = V at *
  have poV : PoS B t h o (cnX B t h o X) S b' ki D any b (sn D d) U V := by
    refine ⟨l1, ⟨by rw [l2]; exact p9.1, by rw [l2]; exact p9.2.1, fun z => by rw [l2]; exact p9.2.2.1 z, fun c0 e0 => ⟨by rw [l2]; exact (p9.2.2.2 c0 e0).1, fun e he hme => ⟨((p9.2.2.2 c0 e0).2 e he hme).1, by rw [l4 _ _ (by omega) (by omega)]; exact ((p9.2.2.2 c0 e0).2 e he hme).2⟩⟩⟩, fun j hj => l4 _ _ (by omega) (by omega), fun j z hj => l4 _ _ (by omega) (by omega), fun y z a1 a2 => l3 _ _ (by omega), fun z => l4 _ _ (by omega) (by omega), fun z => l4 _ _ (by omega) (by omega), by rw [l2]⟩
  have prV := PrS_b hn hP0 poV
  refine ⟨fun zl => skip V prV (PoS_t hPo poV (Nat.le_refl _)) fun c2 b1 b2 b3 => ?_, fun zl => ?_⟩
  · -- nothing stays open
    obtain ⟨g1, g2⟩ := c2d c2 b1
    refine absurd (l6.2 fun e he hme hde => ?_) (fun y => y zl)
    intro z0
    have t1 : (opm B t h o (cnX B t h o X) D c d e &&& agm B t h o (cnX B t h o X) d i e).testBit (c2 e) = true := by
      rw [Nat.testBit_and, Bool.and_eq_true, opm_t, agm_t]
      refine ⟨⟨b2 e he hme, ((PL_iff hW hD2 ht b2).1 b3).1 e he hme, fun x hx hmx => ?_⟩, b2 e he hme, ?_⟩
      · have := pl_ag hW hD2 ht b2 b3 x e (by omega) hmx he hme (by omega)
        rw [g2 x hx] at this; exact this
      · have := pl_ag hW hD2 ht b2 b3 d e hd hm he hme (by omega)
        rw [g1] at this; exact this
    rw [z0, Nat.zero_testBit] at t1
    cases t1
  have fin : ∀ G : St, PlQ G B t h o (cnX B t h o X) S b' ki → G.1 = V.1 → (∀ y z, y < 200 → ¬ (y = 95 ∧ z = sn D d) → G.2.2.1 y z = V.2.2.1 y z) → G.2.2.1 95 (sn D d) = iz ((12 * d + i : Nat) : Int) → (∀ y z, 507 ≤ y → y < 512 + 5 * sn D d → G.2.2.2 y z = V.2.2.2 y z) → (d2 < 8 → TyX G (507 + 5 * (sn D d + 1)) B h o (cnt B t (cnX B t h o X) D (upc c d i) d2)) →
      okf G (iz ((sn D d + 1 : Nat) : Int)) (iz (csm B D d c) + G.1 (wc d i) 5) ∧ (RdI B t h o X S b' ki D any chx T0 d c R (iz ((i + 1 : Nat) : Int)) (xf G (iz ((sn D d + 1 : Nat) : Int)) (iz (csm B D d c) + G.1 (wc d i) 5)) ∧ 12 - (iz ((i + 1 : Nat) : Int)).toInt.toNat < 12 - (iz (i : Int)).toInt.toNat) := by
    intro G g1 g2 g3 g4 g5 g6
    obtain ⟨v1, v2, v3, v4, v5, v6, v7, v8, v9⟩ := prV
    have bsG : BsQ G B D any b := ⟨by rw [g2]; exact v9.1, by rw [g2]; exact v9.2.1, fun z => by rw [g2]; exact v9.2.2.1 z, fun c0 e0 => ⟨by rw [g2]; exact (v9.2.2.2 c0 e0).1, fun e he hme => ⟨((v9.2.2.2 c0 e0).2 e he hme).1, by rw [g3 _ _ (by omega) (by omega)]; exact ((v9.2.2.2 c0 e0).2 e he hme).2⟩⟩⟩
    have poG : PoS B t h o (cnX B t h o X) S b' ki D any b (sn D d) V G := ⟨g1, bsG, fun j hj => g3 _ _ (by omega) (by omega), fun j z hj => g3 _ _ (by omega) (by omega), g5, fun z => g3 _ _ (by omega) (by omega), fun z => g3 _ _ (by omega) (by omega), by rw [g2]⟩
    have ed : ∀ e, e < d2 → D.testBit e = true → e ≤ d := fun e he hme => by
      rcases Nat.lt_or_ge d e with y | y
      · rw [gap e (by omega) he] at hme; cases hme
      · exact y
    have prG : PrS B t h o (cnX B t h o X) S b' ki D any chx G d2 (upc c d i) b := by
      refine ⟨g1, ⟨by rw [g2]; exact v2.1, fun e he hme => by rw [g3 _ _ (by omega) (by omega)]; exact v2.2 e he hme⟩, fun e a1 a2 => by rw [g3 _ _ (by omega) (by omega)]; exact v3 e a1 a2, fun e he hme => ?_, fun e f hef hf hme hmf => ?_, fun w m hw hm' => ?_, fun z => by rw [y4]; exact g6 z, fun e he hme hde => ?_, bsG⟩
      · by_cases z : e = d
        · subst z; rw [upc_s]; exact ⟨hi', hcn, g4⟩
        · have h1 := ed e he hme
          have h2 := sn_lt hme (show e < d by omega)
          rw [upc_n c i z, g3 _ _ (by omega) (by omega)]; exact v4 e (by omega) hme
      · have h1 := ed f hf hmf
        have h2 : e ≠ d := by omega
        by_cases z : f = d
        · subst z; rw [upc_s, upc_n c i h2]; exact hag e (by omega) hme
        · rw [upc_n c i z, upc_n c i h2]; exact v5 e f hef (by omega) hme hmf
      · rw [cnt_s hd hm y1 gap]
        by_cases z : rsP B t (cnX B t h o X) d i w m
        · have := room w m hw hm' z
          rw [fll_i hW ho hm' (c3 w m z)] at this
          rw [bN_y z]; omega
        · rw [bN_n z]; exact p6 w m hw hm'
      · rw [y4, g3 _ _ (by omega) (by omega), opm_s hm y1 gap]
        exact l7 zl e he hme (by omega)
    have cse : iz (csm B D d c) + G.1 (wc d i) 5 = iz (csm B D d2 (upc c d i)) := by rw [g2, l2, wsd.2.1, iz_add, cs2]
    rw [cse, ← y4]
    obtain ⟨ok, po⟩ := hS G d2 (upc c d i) b y2 y3 (by omega) prG (by rw [cs2]; omega)
    have po2 := PoS_t poG po (by omega)
    refine ⟨ok, ⟨i + 1, ex B t h o X D any d2 (upc c d i) b, by omega, rfl, PrS_b hn ⟨v1, v2, v3, v4, v5, v6, v7, v8, v9⟩ po2, PoS_t (PoS_t hPo poV (Nat.le_refl _)) po2 (Nat.le_refl _), ?_⟩, ms⟩
    rw [← ex_gap (d := d + 1) (by omega) y2 gap, ← pn_s hi']; exact hR
  have V94 : V.1 80 12 = iz (sn D 8) := by rw [l2]; exact p2.1
  have frG : Fr (fun y => y = 95) V (sA V 95 (sn D d) (iz ((12 * d + i : Nat) : Int))) := fr_sA fr_rfl rfl
  have plG : PlQ (sA V 95 (sn D d) (iz ((12 * d + i : Nat) : Int))) B t h o (cnX B t h o X) S b' ki := PlQ_fr hW hS2 hb2 hk2 l1 frG (fun y hy => by unfold sW; omega)
  have gA3 : ∀ y z, ¬ (y = 95 ∧ z = sn D d) → (sA V 95 (sn D d) (iz ((12 * d + i : Nat) : Int))).2.2.1 y z = V.2.2.1 y z := fun y z hy => by rw [gA_A, if_neg hy]
  have gA4 : (sA V 95 (sn D d) (iz ((12 * d + i : Nat) : Int))).2.2.1 95 (sn D d) = iz ((12 * d + i : Nat) : Int) := by rw [gA_A, if_pos ⟨rfl, rfl⟩]
  have gF : (sA V 95 (sn D d) (iz ((12 * d + i : Nat) : Int))).1 = V.1 := rfl
  have gL : (sA V 95 (sn D d) (iz ((12 * d + i : Nat) : Int))).2.2.2 = V.2.2.2 := rfl
  generalize sA V 95 (sn D d) (iz ((12 * d + i : Nat) : Int)) = G at *
  rw [gF, V94, iz_le (by omega), plG.2.1]
  unfold jn
  refine ⟨fun z => fin G plG gF (fun y z' _ hy => gA3 y z' hy) gA4 (fun y z' _ _ => by rw [gL]) (fun z2 => ?_), fun z => ?_⟩
  · have := sn_lt (y3 z2) z2
    omega
  · have ty2 : TyX G (507 + 5 * sn D d) B h o (cnt B t (cnX B t h o X) D c d) := by
      intro w m hw hm'
      rw [gL, l3 _ _ (by omega), l3 _ _ (by omega), l3 _ _ (by omega), l3 _ _ (by omega)]
      exact hty w m hw hm'
    have bi2 : BiX G (wc d i + 3) (rsP B t (cnX B t h o X) d i) := by
      intro w m hw hm'
      rw [gL, l3 _ _ (by unfold wc; omega)]
      exact yd2 w m hw hm'
    obtain ⟨oka, tya⟩ := s_add (a := 507 + 5 * (sn D d + 1)) (b := 507 + 5 * sn D d) (q := wc d i + 3) (ki := ki) ((by decide +kernel : ∀ a, a < 4 → sh (507 + 5 * a) = .inr 9) _ (by omega)) ((by decide +kernel : ∀ a, a < 4 → sh (507 + 5 * a) = .inr 9) _ (by omega)) (shl10_3 swd) hk (by omega) (by unfold wc; omega) (by omega) plG.2.2.2.1 ty2 bi2
    have fra : Fr _ G _ := fr_ta_add _ _ _ _ oka
    refine ⟨in_nat (by omega) (by omega), oka, ?_⟩
    have ec : ad1 (cnt B t (cnX B t h o X) D c d) (rsP B t (cnX B t h o X) d i) = cnt B t (cnX B t h o X) D (upc c d i) d2 := by
      funext w m
      rw [cnt_s hd hm y1 gap]
      rfl
    rw [ec] at tya
    refine fin _ (PlQ_fr hW hS2 hb2 hk2 plG fra (fun y hy => by unfold W_ta_add at hy; unfold sW; omega)) ?_ (fun y z' hy2 hy => ?_) ?_ (fun y z' h1 h2 => ?_) (fun _ => tya)
    · rw [← gF]
      funext y z'
      exact q_F fra (by unfold W_ta_add; omega)
    · rw [← gA3 y z' hy]; exact q_A fra (by unfold W_ta_add; omega)
    · rw [q_A fra (by unfold W_ta_add; omega)]; exact gA4
    · rw [q_L fra (by unfold W_ta_add; omega), gL]
