/-! ===== the planner's search ===== -/
section SKS
variable {B : Nat → Int} {t h o : Int} {X : Nat → Nat → Prop} {S b' ki D : Nat} {any : Bool} {chx : Nat → Int}
theorem d_8 {d : Nat} (h8 : d ≤ 8) (hm : d < 8 → D.testBit d = true) (he : sn D 8 ≤ sn D d) : d = 8 := by
  rcases Nat.lt_or_ge d 8 with y | y
  · have := sn_lt (hm y) y; omega
  · omega
theorem sk_0 (hb : sh b' = .inr 1) (hb2 : b' + 14 < 76) (hk : sh ki = .inr 3) (hk2 : ki + 1 < 80) (hW : WF B) (hS2 : S < 2 ^ (B 16).toNat) (hDS : ∀ e, D.testBit e = true → S.testBit e = true) (hD2 : D < 2 ^ (B 16).toNat) (hn : sn D 8 ≤ 4) (ht : 1 ≤ t ∧ t ≤ 60) (ho : o < 60 → 1 ≤ B 1) (hcx : ∀ e, e < 8 → D.testBit e = true → chP B (cnX B t h o X) e (chx e) ∧ chx e ≤ 900) : SkK B t h o X S b' ki D any chx ok_pl_seek0 x_pl_seek0 0 := by
  intro T d c b h8 hm hkk hP hg
  have e8 := d_8 h8 hm (by omega)
  subst e8
  obtain ⟨ok, po⟩ := s_keep hW hS2 hb2 hk2 hDS hD2 hn ht hP hg
  refine so_pl_seek0 (Q := PoS B t h o (cnX B t h o X) S b' ki D any (ex B t h o X D any 8 c b) (sn D 8) T) _ _ ?_
  unfold wp_pl_seek0
  rw [hP.2.1.1]
  exact ⟨fun z => absurd z (by rw [iz_lt (by omega)]; omega), fun _ => ⟨ok, po⟩⟩
theorem sk_1 (hb : sh b' = .inr 1) (hb2 : b' + 14 < 76) (hk : sh ki = .inr 3) (hk2 : ki + 1 < 80) (hW : WF B) (hS2 : S < 2 ^ (B 16).toNat) (hDS : ∀ e, D.testBit e = true → S.testBit e = true) (hD2 : D < 2 ^ (B 16).toNat) (hn : sn D 8 ≤ 4) (ht : 1 ≤ t ∧ t ≤ 60) (ho : o < 60 → 1 ≤ B 1) (hcx : ∀ e, e < 8 → D.testBit e = true → chP B (cnX B t h o X) e (chx e) ∧ chx e ≤ 900) : SkK B t h o X S b' ki D any chx ok_pl_seek1 x_pl_seek1 1 := by
  intro T d c b h8 hm hkk hP hg
  refine so_pl_seek1 (Q := PoS B t h o (cnX B t h o X) S b' ki D any (ex B t h o X D any d c b) (sn D d) T) _ _ ?_
  have sle := sn_mo (D := D) h8
  unfold wp_pl_seek1
  rw [hP.2.1.1, iz_lt (by omega)]
  refine ⟨fun z => ?_, fun z => ?_⟩
  · have hd : d < 8 := by
      rcases Nat.lt_or_ge d 8 with y | y
      · exact y
      · rw [show d = 8 by omega] at z; omega
    have hme := hm hd
    have h16 := mem_lt hW hD2 d hme
    have h88 := hW.2.2.1
    have e94 : T.2.2.1 94 (sn D d) = iz d := hP.2.1.2 d hd hme
    have e12 : iz (d : Int) * 12 = iz ((12 * d : Nat) : Int) := by rw [z_12, iz_mul]; exact iz_inj (by omega)
    refine ⟨in_nat (by omega) (by omega), jo ?_⟩
    rw [ix_nat (by omega), e94, e12]
    have hbr := b_road (T0 := T) (c := c) (R := ex B t h o X D any d c b) hb hb2 hk hk2 hW hS2 hDS hD2 hn ht ho hcx (sk_0 hb hb2 hk hk2 hW hS2 hDS hD2 hn ht ho hcx) hd hme (by omega) (Kk := fun _ U => PoS B t h o (cnX B t h o X) S b' ki D any (ex B t h o X D any d c b) (sn D d) T U) (Q := PoS B t h o (cnX B t h o X) S b' ki D any (ex B t h o X D any d c b) (sn D d) T) (fun _ _ hp => hp)
    rw [← bdK_1] at hbr
    refine wr_pl_seek1_27 _ _ _ (RdI B t h o X S b' ki D any chx T d c (ex B t h o X D any d c b)) (fun v U => 12 - v.toInt.toNat) hbr _ _ _ ?_ ?_
    · show 12 - (0 : Int32).toInt.toNat < 1000
      omega
    · exact ⟨0, b, by omega, rfl, hP, ⟨hP.1, hP.2.2.2.2.2.2.2.2, fun _ _ => rfl, fun _ _ _ => rfl, fun _ _ _ _ => rfl, fun _ => rfl, fun _ => rfl, rfl⟩, (ex_0 hd hme).symm⟩
  · have e8 := d_8 h8 hm (by omega)
    subst e8
    exact s_keep hW hS2 hb2 hk2 hDS hD2 hn ht hP hg
theorem sk_2 (hb : sh b' = .inr 1) (hb2 : b' + 14 < 76) (hk : sh ki = .inr 3) (hk2 : ki + 1 < 80) (hW : WF B) (hS2 : S < 2 ^ (B 16).toNat) (hDS : ∀ e, D.testBit e = true → S.testBit e = true) (hD2 : D < 2 ^ (B 16).toNat) (hn : sn D 8 ≤ 4) (ht : 1 ≤ t ∧ t ≤ 60) (ho : o < 60 → 1 ≤ B 1) (hcx : ∀ e, e < 8 → D.testBit e = true → chP B (cnX B t h o X) e (chx e) ∧ chx e ≤ 900) : SkK B t h o X S b' ki D any chx ok_pl_seek2 x_pl_seek2 2 := by
  intro T d c b h8 hm hkk hP hg
  refine so_pl_seek2 (Q := PoS B t h o (cnX B t h o X) S b' ki D any (ex B t h o X D any d c b) (sn D d) T) _ _ ?_
  have sle := sn_mo (D := D) h8
  unfold wp_pl_seek2
  rw [hP.2.1.1, iz_lt (by omega)]
  refine ⟨fun z => ?_, fun z => ?_⟩
  · have hd : d < 8 := by
      rcases Nat.lt_or_ge d 8 with y | y
      · exact y
      · rw [show d = 8 by omega] at z; omega
    have hme := hm hd
    have h16 := mem_lt hW hD2 d hme
    have h88 := hW.2.2.1
    have e94 : T.2.2.1 94 (sn D d) = iz d := hP.2.1.2 d hd hme
    have e12 : iz (d : Int) * 12 = iz ((12 * d : Nat) : Int) := by rw [z_12, iz_mul]; exact iz_inj (by omega)
    refine ⟨in_nat (by omega) (by omega), jo ?_⟩
    rw [ix_nat (by omega), e94, e12]
    have hbr := b_road (T0 := T) (c := c) (R := ex B t h o X D any d c b) hb hb2 hk hk2 hW hS2 hDS hD2 hn ht ho hcx (sk_1 hb hb2 hk hk2 hW hS2 hDS hD2 hn ht ho hcx) hd hme (by omega) (Kk := fun _ U => PoS B t h o (cnX B t h o X) S b' ki D any (ex B t h o X D any d c b) (sn D d) T U) (Q := PoS B t h o (cnX B t h o X) S b' ki D any (ex B t h o X D any d c b) (sn D d) T) (fun _ _ hp => hp)
    rw [← bdK_2] at hbr
    refine wr_pl_seek2_27 _ _ _ (RdI B t h o X S b' ki D any chx T d c (ex B t h o X D any d c b)) (fun v U => 12 - v.toInt.toNat) hbr _ _ _ ?_ ?_
    · show 12 - (0 : Int32).toInt.toNat < 1000
      omega
    · exact ⟨0, b, by omega, rfl, hP, ⟨hP.1, hP.2.2.2.2.2.2.2.2, fun _ _ => rfl, fun _ _ _ => rfl, fun _ _ _ _ => rfl, fun _ => rfl, fun _ => rfl, rfl⟩, (ex_0 hd hme).symm⟩
  · have e8 := d_8 h8 hm (by omega)
    subst e8
    exact s_keep hW hS2 hb2 hk2 hDS hD2 hn ht hP hg
theorem sk_3 (hb : sh b' = .inr 1) (hb2 : b' + 14 < 76) (hk : sh ki = .inr 3) (hk2 : ki + 1 < 80) (hW : WF B) (hS2 : S < 2 ^ (B 16).toNat) (hDS : ∀ e, D.testBit e = true → S.testBit e = true) (hD2 : D < 2 ^ (B 16).toNat) (hn : sn D 8 ≤ 4) (ht : 1 ≤ t ∧ t ≤ 60) (ho : o < 60 → 1 ≤ B 1) (hcx : ∀ e, e < 8 → D.testBit e = true → chP B (cnX B t h o X) e (chx e) ∧ chx e ≤ 900) : SkK B t h o X S b' ki D any chx ok_pl_seek3 x_pl_seek3 3 := by
  intro T d c b h8 hm hkk hP hg
  refine so_pl_seek3 (Q := PoS B t h o (cnX B t h o X) S b' ki D any (ex B t h o X D any d c b) (sn D d) T) _ _ ?_
  have sle := sn_mo (D := D) h8
  unfold wp_pl_seek3
  rw [hP.2.1.1, iz_lt (by omega)]
  refine ⟨fun z => ?_, fun z => ?_⟩
  · have hd : d < 8 := by
      rcases Nat.lt_or_ge d 8 with y | y
      · exact y
      · rw [show d = 8 by omega] at z; omega
    have hme := hm hd
    have h16 := mem_lt hW hD2 d hme
    have h88 := hW.2.2.1
    have e94 : T.2.2.1 94 (sn D d) = iz d := hP.2.1.2 d hd hme
    have e12 : iz (d : Int) * 12 = iz ((12 * d : Nat) : Int) := by rw [z_12, iz_mul]; exact iz_inj (by omega)
    refine ⟨in_nat (by omega) (by omega), jo ?_⟩
    rw [ix_nat (by omega), e94, e12]
    have hbr := b_road (T0 := T) (c := c) (R := ex B t h o X D any d c b) hb hb2 hk hk2 hW hS2 hDS hD2 hn ht ho hcx (sk_2 hb hb2 hk hk2 hW hS2 hDS hD2 hn ht ho hcx) hd hme (by omega) (Kk := fun _ U => PoS B t h o (cnX B t h o X) S b' ki D any (ex B t h o X D any d c b) (sn D d) T U) (Q := PoS B t h o (cnX B t h o X) S b' ki D any (ex B t h o X D any d c b) (sn D d) T) (fun _ _ hp => hp)
    rw [← bdK_3] at hbr
    refine wr_pl_seek3_27 _ _ _ (RdI B t h o X S b' ki D any chx T d c (ex B t h o X D any d c b)) (fun v U => 12 - v.toInt.toNat) hbr _ _ _ ?_ ?_
    · show 12 - (0 : Int32).toInt.toNat < 1000
      omega
    · exact ⟨0, b, by omega, rfl, hP, ⟨hP.1, hP.2.2.2.2.2.2.2.2, fun _ _ => rfl, fun _ _ _ => rfl, fun _ _ _ _ => rfl, fun _ => rfl, fun _ => rfl, rfl⟩, (ex_0 hd hme).symm⟩
  · have e8 := d_8 h8 hm (by omega)
    subst e8
    exact s_keep hW hS2 hb2 hk2 hDS hD2 hn ht hP hg
theorem sk_4 (hb : sh b' = .inr 1) (hb2 : b' + 14 < 76) (hk : sh ki = .inr 3) (hk2 : ki + 1 < 80) (hW : WF B) (hS2 : S < 2 ^ (B 16).toNat) (hDS : ∀ e, D.testBit e = true → S.testBit e = true) (hD2 : D < 2 ^ (B 16).toNat) (hn : sn D 8 ≤ 4) (ht : 1 ≤ t ∧ t ≤ 60) (ho : o < 60 → 1 ≤ B 1) (hcx : ∀ e, e < 8 → D.testBit e = true → chP B (cnX B t h o X) e (chx e) ∧ chx e ≤ 900) : SkK B t h o X S b' ki D any chx ok_pl_seek4 x_pl_seek4 4 := by
  intro T d c b h8 hm hkk hP hg
  refine so_pl_seek4 (Q := PoS B t h o (cnX B t h o X) S b' ki D any (ex B t h o X D any d c b) (sn D d) T) _ _ ?_
  have sle := sn_mo (D := D) h8
  unfold wp_pl_seek4
  rw [hP.2.1.1, iz_lt (by omega)]
  refine ⟨fun z => ?_, fun z => ?_⟩
  · have hd : d < 8 := by
      rcases Nat.lt_or_ge d 8 with y | y
      · exact y
      · rw [show d = 8 by omega] at z; omega
    have hme := hm hd
    have h16 := mem_lt hW hD2 d hme
    have h88 := hW.2.2.1
    have e94 : T.2.2.1 94 (sn D d) = iz d := hP.2.1.2 d hd hme
    have e12 : iz (d : Int) * 12 = iz ((12 * d : Nat) : Int) := by rw [z_12, iz_mul]; exact iz_inj (by omega)
    refine ⟨in_nat (by omega) (by omega), jo ?_⟩
    rw [ix_nat (by omega), e94, e12]
    have hbr := b_road (T0 := T) (c := c) (R := ex B t h o X D any d c b) hb hb2 hk hk2 hW hS2 hDS hD2 hn ht ho hcx (sk_3 hb hb2 hk hk2 hW hS2 hDS hD2 hn ht ho hcx) hd hme (by omega) (Kk := fun _ U => PoS B t h o (cnX B t h o X) S b' ki D any (ex B t h o X D any d c b) (sn D d) T U) (Q := PoS B t h o (cnX B t h o X) S b' ki D any (ex B t h o X D any d c b) (sn D d) T) (fun _ _ hp => hp)
    rw [← bdK_4] at hbr
    refine wr_pl_seek4_27 _ _ _ (RdI B t h o X S b' ki D any chx T d c (ex B t h o X D any d c b)) (fun v U => 12 - v.toInt.toNat) hbr _ _ _ ?_ ?_
    · show 12 - (0 : Int32).toInt.toNat < 1000
      omega
    · exact ⟨0, b, by omega, rfl, hP, ⟨hP.1, hP.2.2.2.2.2.2.2.2, fun _ _ => rfl, fun _ _ _ => rfl, fun _ _ _ _ => rfl, fun _ => rfl, fun _ => rfl, rfl⟩, (ex_0 hd hme).symm⟩
  · have e8 := d_8 h8 hm (by omega)
    subst e8
    exact s_keep hW hS2 hb2 hk2 hDS hD2 hn ht hP hg
end SKS
