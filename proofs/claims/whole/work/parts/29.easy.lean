/-! ===== pairs of calls that need no plans ===== -/
def irr (c : Nat) : Prop := c = 67100 ∨ (578 ≤ c ∧ c < 592) ∨ (594 ≤ c ∧ c < 599) ∨ c = 67131 ∨ c = 67139 ∨ (78 ≤ c ∧ c < 555) ∨ (18000 ≤ c ∧ c < 18018) ∨ (22300 ≤ c ∧ c < 65500) ∨ c = 5002 ∨ c = 5003 ∨ (564 ≤ c ∧ c < 571) ∨ (66400 ≤ c ∧ c < 66500)
theorem Inv_irr {W : Nat → Prop} {T T' : St} (h : Fr W T T') (n : ∀ c, W c → irr c) (i : Inv T) : Inv T' := by
  unfold irr at n
  exact ⟨iSh_fr h (fun c hc hw => by have := n c hw; omega) i.1, iTp_fr h (fun c hc hw => by have := n c hw; omega) i.2.1, iTr_fr h (fun c hc hw => by have := n c hw; omega) i.2.2.1, iBk_fr h (fun c hc hw => by have := n c hw; omega) i.2.2.2.1, iIm_fr h (fun c hc hw => by have := n c hw; omega) i.2.2.2.2⟩
theorem fr_1 {T : St} {a k : Nat} {x : Int32} : Fr (fun c => c = 10000 + 100 * a + k) T (sF T a k x) := fr_sF fr_rfl rfl
theorem fr_1A {T : St} {a k : Nat} {x : Int32} : Fr (fun c => c = a) T (sA T a k x) := fr_sA fr_rfl rfl
theorem Inv_t {T : St} (x : Int32) (i : Inv T) : Inv (sF T 571 0 x) := Inv_irr fr_1 (fun c hc => Or.inl hc) i
theorem i_status : P_status Inv := pw_status fun T hI => ⟨hI.1.1, Inv_t 0 hI⟩
theorem i_fault : P_fault Inv := pw_fault fun T hI => ⟨hI.2.1.1, Inv_t 0 hI⟩
theorem sh_one {T : St} {a : Int} (h : -2147483648 ≤ a ∧ a < 2147483648) : (x_sh_isOne T (iz a) = 0) ↔ ¬ (0 ≤ a ∧ a < 8) := by
  unfold x_sh_isOne
  simp (disch := omega) only [z_0, z_8, iz_lt, iz_le]
  by_cases h1 : a < 0
  · rw [if_pos h1]; exact ⟨fun _ => by omega, fun _ => rfl⟩
  · rw [if_neg h1]
    by_cases h2 : 8 ≤ a
    · rw [if_pos h2]; exact ⟨fun _ => by omega, fun _ => rfl⟩
    · rw [if_neg h2]
      refine ⟨fun q => absurd q (by decide), fun q => by omega⟩
theorem m_she {T : St} {a : Int} (h : -2147483648 ≤ a ∧ a < 2147483648) : (x_m_isSheet T (iz a) = 0) ↔ ¬ (0 ≤ a ∧ a < 8) := by
  unfold x_m_isSheet
  rw [lz_w h, y_0, y_7, m_in (by omega)]
  omega
theorem i_trace : P_trace Inv := pw_trace fun T hI p0 => by
  obtain ⟨a, ha, rfl⟩ := iz_ex p0
  obtain ⟨n, hn, h1, h2, h3⟩ := hI.2.2.1
  have tt := Inv_t 0 hI
  unfold wp_x_trace wp_m_trace
  rw [show (sF T 571 0 0).1 571 48 = T.1 571 48 from rfl, h1, h2, z_1, iz_sub, lz_w ha, lz_w (by omega), y_0, m_in (by omega), z_0, iz_lt (by omega), iz_le (by omega), iz_in (by omega), iz_n (by omega)]
  have h4 : ∀ h : a.toNat < n, T.2.2.1 556 a.toNat = T.2.2.1 601 a.toNat := fun h => h3 _ h
  refine ⟨fun c => ⟨fun c1 => ⟨rfl, tt⟩, fun c1 => absurd c1 (by omega)⟩, fun c => ⟨fun c1 => ⟨fun c2 => ⟨rfl, tt⟩, fun c2 => absurd c2 (by omega)⟩, fun c1 => ⟨by omega, fun c2 => absurd c2 (by omega), fun c2 => ⟨by omega, h4 (by omega), tt⟩⟩⟩⟩
-- sheets
theorem sh_mis {T : St} {a : Nat} {l : Int} (h : T.2.2.1 2 a = iz l) (ha : a < 8) (hl : -1 ≤ l ∧ l ≤ 2) : ok_sh_isMissing T (iz a) ∧ (x_sh_isMissing T (iz a) = 0 ↔ 0 ≤ l) := by
  unfold ok_sh_isMissing x_sh_isMissing
  simp (disch := omega) only [iz_in, iz_n, Int.toNat_natCast, h, z_1, iz_neg, iz_eq]
  refine ⟨⟨by omega, trivial⟩, ?_⟩
  by_cases c : l = -1
  · rw [if_pos c]; exact ⟨fun q => absurd q (by decide), fun q => by omega⟩
  · rw [if_neg c]; exact ⟨fun _ => by omega, fun _ => rfl⟩
theorem sh_rea {T : St} {a : Nat} {n i k : Int} (h : T.2.2.1 3 a = iz n) (ha : a < 8) (hn : 0 ≤ n ∧ n ≤ 40) (hi : -2147483648 ≤ i ∧ i < 2147483648) (hk : -2147483648 ≤ k ∧ k < 2147483648) : ok_sh_reaches T (iz a) (iz i) (iz k) ∧ (x_sh_reaches T (iz a) (iz i) (iz k) = 0 ↔ ¬ (0 ≤ i ∧ 0 ≤ k ∧ i + k ≤ n)) := by
  unfold ok_sh_reaches x_sh_reaches
  simp (disch := omega) only [iz_in, iz_n, Int.toNat_natCast, h, z_0, iz_sub, iz_lt]
  refine ⟨?_, ?_⟩
  · first | exact ⟨by omega, trivial⟩ | exact fun _ _ => ⟨by omega, fun _ => trivial⟩ | exact fun _ _ => ⟨by omega, trivial⟩
  by_cases c : i < 0
  · rw [if_pos c]; exact ⟨fun q => by omega, fun q => rfl⟩
  rw [if_neg c]
  by_cases c : k < 0
  · rw [if_pos c]; exact ⟨fun q => by omega, fun q => rfl⟩
  rw [if_neg c]
  by_cases c : n < k
  · rw [if_pos c]; exact ⟨fun q => by omega, fun q => rfl⟩
  rw [if_neg c]
  by_cases c : n - k < i
  · rw [if_pos c]; exact ⟨fun q => by omega, fun q => rfl⟩
  rw [if_neg c]
  exact ⟨fun q => absurd q (by decide), fun q => by omega⟩
theorem fr_m {T T' : St} {W : Nat → Prop} (h : Fr W T T') (i : Inv T) (n : ∀ c, W c → (irr c ∨ c = 10012 ∨ c = 67101 ∨ (2 ≤ c ∧ c < 4) ∨ (5 ≤ c ∧ c < 13) ∨ (572 ≤ c ∧ c < 575))) (hs : iSh T') : Inv T' := by
  unfold irr at n
  exact ⟨hs, iTp_fr h (fun c hc hw => by have := n c hw; omega) i.2.1, iTr_fr h (fun c hc hw => by have := n c hw; omega) i.2.2.1, iBk_fr h (fun c hc hw => by have := n c hw; omega) i.2.2.2.1, iIm_fr h (fun c hc hw => by have := n c hw; omega) i.2.2.2.2⟩
theorem fr_ww {W W2 : Nat → Prop} {T0 T1 T2 : St} (h : Fr W T0 T1) (h2 : Fr W2 T1 T2) : Fr (fun c => W c ∨ W2 c) T0 T2 := fr_tr (fr_le h fun c hc => Or.inl hc) h2 (fun c hc => Or.inr hc)
-- a finding on both sides
theorem Inv_fd {T : St} (x : Int32) (i : Inv T) : Inv (sF (sF (sF (sF T 0 12 x) 571 0 0) 571 1 0) 571 1 x) := by
  refine fr_m (fr_ww (fr_ww (fr_ww fr_1 fr_1) fr_1) fr_1) i (fun c hc => ?_) ⟨rfl, i.1.2⟩
  unfold irr
  omega
theorem Inv_ok {T T' : St} {W : Nat → Prop} (h : Fr W T T') (i : Inv T) (n : ∀ c, W c → (irr c ∨ c = 10012 ∨ c = 67101 ∨ (2 ≤ c ∧ c < 4) ∨ (5 ≤ c ∧ c < 13) ∨ (572 ≤ c ∧ c < 575))) (h1 : T'.1 0 12 = T'.1 571 1) (hs : ∀ s : Nat, s < 8 → T'.2.2.1 572 s = T'.2.2.1 2 s ∧ T'.2.2.1 573 s = T'.2.2.1 3 s ∧ (∃ l : Int, T'.2.2.1 2 s = iz l ∧ -1 ≤ l ∧ l ≤ 2) ∧ (∃ n : Int, T'.2.2.1 3 s = iz n ∧ 0 ≤ n ∧ n ≤ 40) ∧ ∀ i : Nat, i < 40 → T'.2.2.1 574 (40 * s + i) = T'.2.2.1 (5 + s) i) : Inv T' := fr_m h i n ⟨h1, hs⟩
theorem i_drop : P_drop Inv := pw_drop fun T hI p0 => by
  obtain ⟨a, ha, rfl⟩ := iz_ex p0
  have tt := Inv_t 0 hI
  unfold wp_x_drop wp_m_drop
  rw [sh_one ha]
  refine ⟨fun c => ⟨fun c1 => ⟨rfl, tt⟩, fun c1 => absurd c1 (by rw [m_she ha]; omega)⟩, fun c => ?_⟩
  obtain ⟨n, rfl⟩ : ∃ n : Nat, a = n := ⟨a.toNat, by omega⟩
  obtain ⟨s1, s2, ⟨l, s3, s4⟩, ⟨q, s5, s6⟩, s7⟩ := hI.1.2 n (by omega)
  obtain ⟨o1, o2⟩ := sh_mis s3 (by omega) s4
  refine ⟨o1, fun c1 => ⟨?_, fun c2 => absurd c2 (by rw [m_she ha]; omega), fun c2 => ⟨?_, fun c3 => ⟨?_, ?_⟩, fun c3 => absurd c3 ?_⟩⟩, fun c1 => ⟨fun c2 => absurd c2 (by rw [m_she ha]; omega), fun c2 => ⟨?_, fun c3 => absurd c3 ?_, fun c3 => ⟨rfl, Inv_fd 1 hI⟩⟩⟩⟩
  · unfold ok_sh_lose; rw [iz_in (by omega)]; exact ⟨by omega, trivial⟩
  · rw [iz_in (by omega)]; omega
  · show T.2.2.1 3 (iz n).toNatClampNeg = T.2.2.1 573 (iz n).toNatClampNeg
    rw [iz_n (by omega), Int.toNat_natCast]; exact s2.symm
  · show Inv (sA (sF (sF (sF (sA T 2 (iz n).toNatClampNeg (-1)) 0 12 0) 571 0 0) 571 1 0) 572 (iz n).toNatClampNeg (-1))
    rw [iz_n (by omega), Int.toNat_natCast]
    refine Inv_ok (fr_ww (fr_ww (fr_ww (fr_ww fr_1A fr_1) fr_1) fr_1) fr_1A) hI (fun c hc => by unfold irr; omega) rfl (fun s hs => ?_)
    obtain ⟨t1, t2, ⟨l', t3, t4⟩, t5, t6⟩ := hI.1.2 s hs
    refine ⟨?_, t2, ?_, t5, fun i hi => ?_⟩
    · show (if 572 = 572 ∧ s = n then (-1 : Int32) else if 572 = 2 ∧ s = n then -1 else T.2.2.1 572 s) = (if 2 = 572 ∧ s = n then (-1 : Int32) else if 2 = 2 ∧ s = n then -1 else T.2.2.1 2 s)
      by_cases e : s = n
      · simp [e]
      · simp [e, t1]
    · show ∃ l : Int, (if 2 = 572 ∧ s = n then (-1 : Int32) else if 2 = 2 ∧ s = n then -1 else T.2.2.1 2 s) = iz l ∧ _
      by_cases e : s = n
      · exact ⟨-1, by simp [e]; rfl, by omega⟩
      · exact ⟨l', by simp [e, t3], t4⟩
    · have e := t6 i hi
      show (if 574 = 572 ∧ 40 * s + i = n then (-1 : Int32) else if 574 = 2 ∧ 40 * s + i = n then -1 else T.2.2.1 574 (40 * s + i)) = (if 5 + s = 572 ∧ i = n then (-1 : Int32) else if 5 + s = 2 ∧ i = n then -1 else T.2.2.1 (5 + s) i)
      rw [if_neg (by omega), if_neg (by omega), if_neg (by omega), if_neg (by omega)]
      exact e
  · show ¬ ¬ 0 ≤ T.2.2.1 572 (iz n).toNatClampNeg
    rw [iz_n (by omega), Int.toNat_natCast, s1, s3, z_0, iz_le (by omega)]
    have := o2.1 c1; omega
  · rw [iz_in (by omega)]; omega
  · show ¬ 0 ≤ T.2.2.1 572 (iz n).toNatClampNeg
    rw [iz_n (by omega), Int.toNat_natCast, s1, s3, z_0, iz_le (by omega)]
    intro q; exact c1 (o2.2 q)

