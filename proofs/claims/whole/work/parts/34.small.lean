/-! ===== the reference's small methods ===== -/
theorem jnk {α : Type} {c : Prop} [Decidable c] {x y : α} {K0 : α → Prop} (h : K0 (if c then x else y)) : jn (fun K => (c → K x) ∧ (¬ c → K y)) K0 := by
  unfold jn
  refine ⟨fun q => ?_, fun q => ?_⟩
  · rw [if_pos q] at h; exact h
  · rw [if_neg q] at h; exact h
theorem if_iz {c : Prop} [Decidable c] {x y : Int} : (if c then iz x else iz y) = iz (if c then x else y) := by split <;> rfl
theorem le0 {a : Int} (h : -2147483648 ≤ a ∧ a < 2147483648) : ((0 : Int32) ≤ iz a) ↔ 0 ≤ a := by rw [z_0, iz_le (by omega)]
theorem lt0 {a : Int} (h : -2147483648 ≤ a ∧ a < 2147483648) : (iz a < (0 : Int32)) ↔ a < 0 := by rw [z_0, iz_lt (by omega)]
theorem ge0 {a : Int} (h : -2147483648 ≤ a ∧ a < 2147483648) : (iz a ≤ (0 : Int32)) ↔ a ≤ 0 := by rw [z_0, iz_le (by omega)]
theorem gt0 {a : Int} (h : -2147483648 ≤ a ∧ a < 2147483648) : ((0 : Int32) < iz a) ↔ 0 < a := by rw [z_0, iz_lt (by omega)]
theorem eq0 {a : Int} (h : -2147483648 ≤ a ∧ a < 2147483648) : (iz a = (0 : Int32)) ↔ a = 0 := by rw [z_0, iz_eq (by omega)]
theorem sub0 (x : Int32) : x - 0 = x := Int32.sub_zero x
theorem add0 (x : Int32) : x + 0 = x := Int32.add_zero x
section MP
variable {T : St} {B : Nat → Int}
theorem okd {z : Int} {k : Nat} (hz : 0 ≤ z ∧ z < 8) (hk : k < 5) : ok_m_dishOf T (iz z) (iz k) := by
  unfold ok_m_dishOf
  rw [z_18, z_5, iz_mul, iz_add, iz_add, iz_in (by omega)]
  exact ⟨by omega, trivial⟩
theorem md {z : Int} {k : Nat} (hM : MkX T B) (hz : 0 ≤ z ∧ z < 8) (hk : k < 5) : x_m_dishOf T (iz z) (iz k) = iz (B (18 + 5 * z.toNat + k)) := by
  unfold x_m_dishOf
  rw [z_18, z_5, iz_mul, iz_add, iz_add, iz_n (by omega), show (18 + 5 * z + (k : Int)).toNat = 18 + 5 * z.toNat + k by omega]
  exact hM _ (by omega)
theorem oks {z : Int} {k : Nat} (hz : 0 ≤ z ∧ z < 24) (hk : k < 6) : ok_m_stepOf T (iz z) (iz k) := by
  unfold ok_m_stepOf
  rw [z_58, z_6, iz_mul, iz_add, iz_add, iz_in (by omega)]
  exact ⟨by omega, trivial⟩
theorem ms {z : Int} {k : Nat} (hM : MkX T B) (hz : 0 ≤ z ∧ z < 24) (hk : k < 6) : x_m_stepOf T (iz z) (iz k) = iz (B (58 + 6 * z.toNat + k)) := by
  unfold x_m_stepOf
  rw [z_58, z_6, iz_mul, iz_add, iz_add, iz_n (by omega), show (58 + 6 * z + (k : Int)).toNat = 58 + 6 * z.toNat + k by omega]
  exact hM _ (by omega)
theorem okd0 {z : Int} (hz : 0 ≤ z ∧ z < 8) : ok_m_dishOf T (iz z) 0 := okd (k := 0) hz (by omega)
theorem okd1 {z : Int} (hz : 0 ≤ z ∧ z < 8) : ok_m_dishOf T (iz z) 1 := okd (k := 1) hz (by omega)
theorem okd2 {z : Int} (hz : 0 ≤ z ∧ z < 8) : ok_m_dishOf T (iz z) 2 := okd (k := 2) hz (by omega)
theorem okd3 {z : Int} (hz : 0 ≤ z ∧ z < 8) : ok_m_dishOf T (iz z) 3 := okd (k := 3) hz (by omega)
theorem okd4 {z : Int} (hz : 0 ≤ z ∧ z < 8) : ok_m_dishOf T (iz z) 4 := okd (k := 4) hz (by omega)
theorem md0 {z : Int} (hM : MkX T B) (hz : 0 ≤ z ∧ z < 8) : x_m_dishOf T (iz z) 0 = iz (bKeep B z.toNat) := md (k := 0) hM hz (by omega)
theorem md1 {z : Int} (hM : MkX T B) (hz : 0 ≤ z ∧ z < 8) : x_m_dishOf T (iz z) 1 = iz (bCold B z.toNat) := md (k := 1) hM hz (by omega)
theorem md2 {z : Int} (hM : MkX T B) (hz : 0 ≤ z ∧ z < 8) : x_m_dishOf T (iz z) 2 = iz (bPan B z.toNat) := md (k := 2) hM hz (by omega)
theorem md3 {z : Int} (hM : MkX T B) (hz : 0 ≤ z ∧ z < 8) : x_m_dishOf T (iz z) 3 = iz (bOwn B z.toNat) := md (k := 3) hM hz (by omega)
theorem md4 {z : Int} (hM : MkX T B) (hz : 0 ≤ z ∧ z < 8) : x_m_dishOf T (iz z) 4 = iz (bFst B z.toNat) := md (k := 4) hM hz (by omega)
theorem oks0 {z : Int} (hz : 0 ≤ z ∧ z < 24) : ok_m_stepOf T (iz z) 0 := oks (k := 0) hz (by omega)
theorem oks1 {z : Int} (hz : 0 ≤ z ∧ z < 24) : ok_m_stepOf T (iz z) 1 := oks (k := 1) hz (by omega)
theorem oks2 {z : Int} (hz : 0 ≤ z ∧ z < 24) : ok_m_stepOf T (iz z) 2 := oks (k := 2) hz (by omega)
theorem oks3 {z : Int} (hz : 0 ≤ z ∧ z < 24) : ok_m_stepOf T (iz z) 3 := oks (k := 3) hz (by omega)
theorem oks4 {z : Int} (hz : 0 ≤ z ∧ z < 24) : ok_m_stepOf T (iz z) 4 := oks (k := 4) hz (by omega)
theorem oks5 {z : Int} (hz : 0 ≤ z ∧ z < 24) : ok_m_stepOf T (iz z) 5 := oks (k := 5) hz (by omega)
theorem ms0 {z : Int} (hM : MkX T B) (hz : 0 ≤ z ∧ z < 24) : x_m_stepOf T (iz z) 0 = iz (kd B z.toNat) := ms (k := 0) hM hz (by omega)
theorem ms1 {z : Int} (hM : MkX T B) (hz : 0 ≤ z ∧ z < 24) : x_m_stepOf T (iz z) 1 = iz (lg B z.toNat) := ms (k := 1) hM hz (by omega)
theorem ms2 {z : Int} (hM : MkX T B) (hz : 0 ≤ z ∧ z < 24) : x_m_stepOf T (iz z) 2 = iz (wt B z.toNat) := ms (k := 2) hM hz (by omega)
theorem ms3 {z : Int} (hM : MkX T B) (hz : 0 ≤ z ∧ z < 24) : x_m_stepOf T (iz z) 3 = iz (sr B z.toNat) := ms (k := 3) hM hz (by omega)
theorem ms4 {z : Int} (hM : MkX T B) (hz : 0 ≤ z ∧ z < 24) : x_m_stepOf T (iz z) 4 = iz (on B z.toNat) := ms (k := 4) hM hz (by omega)
theorem ms5 {z : Int} (hM : MkX T B) (hz : 0 ≤ z ∧ z < 24) : x_m_stepOf T (iz z) 5 = iz (tw B z.toNat) := ms (k := 5) hM hz (by omega)
theorem s_waits {d k : Nat} (hM : MkX T B) (h : WF B) (hd : (d : Int) < B 16) (hk : k < 2) : ok_m_waitsOf T (iz d) (iz k) ∧ x_m_waitsOf T (iz d) (iz k) = iz (wts B d k) := by
  have h8 := h.2.2.1
  have h1 := wf_n h hd
  have h2 := wf_f h hd
  have e1 := md3 hM (z := (d : Int)) (by omega)
  have e2 := md4 hM (z := (d : Int)) (by omega)
  rw [Int.toNat_natCast] at e1 e2
  unfold ok_m_waitsOf x_m_waitsOf wts
  simp (disch := omega) only [e1, e2, z_1, iz_sub, iz_le, iz_add]
  refine ⟨⟨okd3 (by omega), fun c => ?_⟩, ?_⟩
  · have h3 := wf_fk h hd (k := k) (by omega)
    exact ⟨okd4 (by omega), oks2 (by omega), trivial⟩
  · by_cases c : bOwn B d - 1 ≤ (k : Int)
    · rw [if_pos c, if_neg (by omega)]
    · have h3 := wf_fk h hd (k := k) (by omega)
      rw [if_neg c, if_pos (by omega), ms2 hM (by omega), iz_add, show (bFst B d + (k : Int)).toNat = nF B d + k by omega]
theorem s_choices {d : Nat} (hM : MkX T B) (h : WF B) (hd : (d : Int) < B 16) : ok_m_choicesOf T (iz d) ∧ x_m_choicesOf T (iz d) = iz (chn B d) := by
  have h8 := h.2.2.1
  have a0 := s_waits hM h hd (k := 0) (by omega)
  have a1 := s_waits hM h hd (k := 1) (by omega)
  have e1 := md0 hM (z := (d : Int)) (by omega)
  rw [Int.toNat_natCast] at e1
  unfold ok_m_choicesOf x_m_choicesOf
  refine ⟨⟨okd0 (by omega), a0.1, a1.1, trivial⟩, ?_⟩
  have e2 : x_m_waitsOf T (iz d) 0 = iz (wts B d 0) := a0.2
  have e3 : x_m_waitsOf T (iz d) 1 = iz (wts B d 1) := a1.2
  rw [e1, e2, e3, z_1, iz_add, iz_mul, iz_mul, (ch_b h hd).2.2]
theorem s_big {m : Nat} {o : Int} (hM : MkX T B) (hm : m < 60) (ho : 0 ≤ o ∧ o ≤ 60) : x_m_bigOnes T (iz m) (iz o) = iz (B 1 - (if (m : Int) < o then 0 else 1)) := by
  unfold x_m_bigOnes
  simp (disch := omega) only [le0, lt0, ge0, gt0, eq0, sub0, add0, iz_le, iz_lt, iz_eq, iz_in, iz_n, iz_add, iz_sub, iz_mul, iz_neg, lz_w, lg_le0, lg_gt0, m_in, iz_t, Int.toNat_natCast, Int.reduceToNat, z_1, n_1, hM 1 (by omega)]
  split
  · rw [Int.sub_zero]
  · rfl
theorem awy_b {m : Nat} : ∀ n : Nat, 0 ≤ awy B m n ∧ awy B m n ≤ n := by
  intro n
  refine ⟨awy_nn n, ?_⟩
  have := sm_ub (f := fun i => if B (8 + 2 * i) ≤ m ∧ (m : Int) ≤ B (8 + 2 * i + 1) then 1 else 0) (u := 1) (fun i => by split <;> omega) n
  unfold awy
  omega
theorem s_hands {m : Nat} {h : Int} (hM : MkX T B) (hW : WF B) (hm : m < 60) (hh : 0 ≤ h ∧ h ≤ 9) : ok_m_handsAt T (iz m) (iz h) ∧ x_m_handsAt T (iz m) (iz h) = iz (if 0 ≤ h - awy B m (B 7).toNat then h - awy B m (B 7).toNat else 0) := by
  refine so_m_handsAt (Q := fun r => r = _) _ _ ?_
  unfold wp_m_handsAt
  have h7 := hW.2.1
  refine wr_m_handsAt_5 T (iz m) (iz h) (fun v3 v4 => ∃ i : Nat, (i : Int) ≤ B 7 ∧ v4 = iz i ∧ v3 = iz (h - awy B m i)) (fun v3 v4 => 4 - v4.toInt.toNat) ?_ _ _ _ ?_ ?_
  · rintro _ _ ⟨i, h1, rfl, rfl⟩
    have hb := awy_b (B := B) (m := m) i
    unfold bd_m_handsAt_5
    simp (disch := omega) only [le0, lt0, ge0, gt0, eq0, sub0, add0, iz_le, iz_lt, iz_eq, iz_in, iz_n, iz_add, iz_sub, iz_mul, iz_neg, lz_w, lg_le0, lg_gt0, m_in, iz_t, Int.toNat_natCast, Int.reduceToNat, z_1, z_2, z_8, n_7, hM 7 (by omega)]
    refine ⟨fun c => ?_, fun c => ⟨by omega, by omega, ?_⟩⟩
    · have e : (B 7).toNat = i := by omega
      rw [e]
      refine ⟨fun q => ?_, fun q => ?_⟩
      · rw [if_pos q]
      · rw [if_neg q]; rfl
    · have h2 := h7.2.2 i (by omega)
      simp (disch := omega) only [le0, lt0, ge0, gt0, eq0, sub0, add0, iz_le, iz_lt, iz_eq, iz_in, iz_n, iz_add, iz_sub, iz_mul, iz_neg, lz_w, lg_le0, lg_gt0, m_in, iz_t, Int.toNat_natCast, Int.reduceToNat, z_1, show (8 + 2 * (i : Int)).toNat = 8 + 2 * i by omega, show (8 + 2 * (i : Int) + 1).toNat = 8 + 2 * i + 1 by omega, hM (8 + 2 * i) (by omega), hM (8 + 2 * i + 1) (by omega)]
      have e : awy B m (i + 1) = awy B m i + (if B (8 + 2 * i) ≤ m ∧ (m : Int) ≤ B (8 + 2 * i + 1) then 1 else 0) := rfl
      refine ⟨fun q => ⟨⟨i + 1, by omega, iz_inj (by omega), iz_inj ?_⟩, ?_⟩, fun q => ⟨⟨i + 1, by omega, iz_inj (by omega), iz_inj ?_⟩, ?_⟩⟩
      · rw [e, if_neg q]; omega
      · omega
      · rw [e, if_pos (by omega)]; omega
      · omega
  · show 4 - (0 : Int32).toInt.toNat < 1000
    omega
  · exact ⟨0, by omega, rfl, iz_inj (by show h = h - 0; omega)⟩
end MP

