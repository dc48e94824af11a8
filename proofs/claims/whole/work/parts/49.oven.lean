/-! ===== a way and the oven ===== -/
def BkP (T : St) (b : Nat) (B : Nat → Int) : Prop := (∀ i, i < 7 → T.2.2.1 (b + 1) i = iz (B i)) ∧
  (T.1 b 4 = iz (B 16) ∧ ∀ d : Nat, (d : Int) < B 16 → T.2.2.1 (b + 4) d = iz (bKeep B d) ∧ T.2.2.1 (b + 5) d = iz (bCold B d) ∧ T.2.2.1 (b + 6) d = iz (bPan B d) ∧ T.2.2.1 (b + 7) d = iz (bOwn B d) ∧ T.2.2.1 (b + 8) d = iz (bFst B d)) ∧
  (∀ s : Nat, (s : Int) < B 17 → T.2.2.1 (b + 9) s = iz (kd B s - 1) ∧ T.2.2.1 (b + 10) s = iz (lg B s) ∧ T.2.2.1 (b + 11) s = iz (wt B s) ∧ T.2.2.1 (b + 12) s = iz (sr B s) ∧ T.2.2.1 (b + 13) s = iz (on B s) ∧ T.2.2.1 (b + 14) s = iz (tw B s))
theorem BkP_X {T : St} {b : Nat} {B : Nat → Int} (h : BkX T b B) : BkP T b B := ⟨h.1, h.2.2.1, h.2.2.2.1.2⟩
theorem BkP_fr {T U : St} {b : Nat} {B : Nat → Int} (h : BkP T b B) (hF : U.1 b 4 = T.1 b 4) (hA : ∀ c j, b < c → c < b + 15 → U.2.2.1 c j = T.2.2.1 c j) : BkP U b B := by
  obtain ⟨h1, h2, h3⟩ := h
  refine ⟨fun i hi => by rw [hA _ _ (by omega) (by omega)]; exact h1 i hi, ⟨by rw [hF]; exact h2.1, fun d hd => ?_⟩, fun s hs => ?_⟩
  · rw [hA (b + 4) d (by omega) (by omega), hA (b + 5) d (by omega) (by omega), hA (b + 6) d (by omega) (by omega), hA (b + 7) d (by omega) (by omega), hA (b + 8) d (by omega) (by omega)]
    exact h2.2 d hd
  · rw [hA (b + 9) s (by omega) (by omega), hA (b + 10) s (by omega) (by omega), hA (b + 11) s (by omega) (by omega), hA (b + 12) s (by omega) (by omega), hA (b + 13) s (by omega) (by omega), hA (b + 14) s (by omega) (by omega)]
    exact h3 s hs
theorem in_nat {n k : Nat} (h : k < n) (h2 : k < 1000000) : vp_in (iz (k : Int)) n := (iz_in (by omega)).2 (by omega)
theorem ix_nat {k : Nat} (h2 : k < 1000000) : (iz (k : Int)).toNatClampNeg = k := by rw [iz_n (by omega), Int.toNat_natCast]
section WO
variable {T : St} {b a : Nat} {B : Nat → Int}
theorem mul_b {x y n : Int} (hx : 0 ≤ x ∧ x ≤ 9) (hy : 0 ≤ y ∧ y ≤ n) : 0 ≤ x * y ∧ x * y ≤ 9 * n := ⟨Int.mul_nonneg hx.1 hy.1, Int.mul_le_mul hx.2 hy.2 hy.1 (by omega)⟩
theorem s_agree {s1 s2 : Nat} {b1 b2 : Int} (hb : sh b = .inr 1) (hP : BkP T b B) (hW : WF B) (h1 : (s1 : Int) < B 17) (h2 : (s2 : Int) < B 17) (k1 : kd B s1 = 2) (k2 : kd B s2 = 2) (c1 : -200 ≤ b1 ∧ b1 ≤ 200) (c2 : -200 ≤ b2 ∧ b2 ≤ 200) :
    ok_bk_heatsAgree T b (iz s1) (iz b1) (iz s2) (iz b2) ∧ (x_bk_heatsAgree T b (iz s1) (iz b1) (iz s2) (iz b2) = 0 ↔ ¬ agr (B 3) (B 4) b1 (b1 + lg B s1) (on B s1) (tw B s1) b2 (b2 + lg B s2) (on B s2) (tw B s2)) := by
  have k17 := wf_17 hW
  have kk := hW.1
  have w1 := hW.2.2.2.2.2.1 s1 h1
  have w2 := hW.2.2.2.2.2.1 s2 h2
  have o1 := w1.2.2.2.2.2.1 k1
  have o2 := w2.2.2.2.2.2.1 k2
  have l1 := w1.2.1
  have l2 := w2.2.1
  obtain ⟨_, p1, _, _, p2, p3⟩ := hP.2.2 s1 h1
  obtain ⟨_, q1, _, _, q2, q3⟩ := hP.2.2 s2 h2
  refine so_bk_heatsAgree (Q := fun r => r = 0 ↔ ¬ agr (B 3) (B 4) b1 (b1 + lg B s1) (on B s1) (tw B s1) b2 (b2 + lg B s2) (on B s2) (tw B s2)) _ _ _ _ _ ?_
  unfold wp_bk_heatsAgree jn
  try dsimp only
  rw [ix_nat (by omega), ix_nat (by omega), n_3, n_4, hP.1 3 (by omega), hP.1 4 (by omega), p1, p2, p3, q1, q2, q3, z_1, iz_add, iz_add, iz_sub, iz_sub, iz_sub, iz_sub, ← z_1, ge0 (by omega), ge0 (by omega)]
  have fin : ∀ x y : Int, -10000 ≤ x ∧ x ≤ 10000 → -10000 ≤ y ∧ y ≤ 10000 → (agr (B 3) (B 4) b1 (b1 + lg B s1) (on B s1) (tw B s1) b2 (b2 + lg B s2) (on B s2) (tw B s2) ↔ on B s2 ≤ tw B s1 + x ∧ on B s1 ≤ tw B s2 + y) → ((((iz (tw B s1) + iz x) < iz (on B s2)) → ((0 : Int32) = 0 ↔ ¬ agr (B 3) (B 4) b1 (b1 + lg B s1) (on B s1) (tw B s1) b2 (b2 + lg B s2) (on B s2) (tw B s2))) ∧ (¬ ((iz (tw B s1) + iz x) < iz (on B s2)) → ((((iz (tw B s2) + iz y) < iz (on B s1)) → ((0 : Int32) = 0 ↔ ¬ agr (B 3) (B 4) b1 (b1 + lg B s1) (on B s1) (tw B s1) b2 (b2 + lg B s2) (on B s2) (tw B s2))) ∧ (¬ ((iz (tw B s2) + iz y) < iz (on B s1)) → ((1 : Int32) = 0 ↔ ¬ agr (B 3) (B 4) b1 (b1 + lg B s1) (on B s1) (tw B s1) b2 (b2 + lg B s2) (on B s2) (tw B s2)))))) := by
    intro x y hx hy e
    rw [iz_add, iz_add, iz_lt (by omega), iz_lt (by omega), e]
    refine ⟨fun q => ⟨fun _ => by omega, fun _ => rfl⟩, fun q => ⟨fun q2 => ⟨fun _ => by omega, fun _ => rfl⟩, fun q2 => ⟨fun z => absurd z (by decide), fun z => by omega⟩⟩⟩
  refine ⟨hb, in_nat (by omega) (by omega), in_nat (by omega) (by omega), fun c => ⟨fun c' => ?_, fun c' => ?_⟩, fun c => ?_⟩
  · refine fin 0 0 (by omega) (by omega) ⟨fun z => ?_, fun z => ⟨fun y => by omega, fun y => by omega, fun _ _ => by omega⟩⟩
    have := z.2.2 (by omega) (by omega)
    omega
  · have m1 := mul_b (x := B 4) (y := b1 - (b2 + lg B s2 - 1)) (n := 500) (by omega) (by omega)
    have m2 := mul_b (x := B 3) (y := b1 - (b2 + lg B s2 - 1)) (n := 500) (by omega) (by omega)
    rw [iz_mul, iz_mul]
    refine fin _ _ (by omega) (by omega) ⟨fun z => ?_, fun z => ⟨fun y => by omega, fun y => by omega, fun _ _ => by omega⟩⟩
    have := z.2.1 (by omega)
    omega
  · have m1 := mul_b (x := B 4) (y := b2 - (b1 + lg B s1 - 1)) (n := 500) (by omega) (by omega)
    have m2 := mul_b (x := B 3) (y := b2 - (b1 + lg B s1 - 1)) (n := 500) (by omega) (by omega)
    rw [iz_mul, iz_mul]
    refine fin _ _ (by omega) (by omega) ⟨fun z => ?_, fun z => ⟨fun y => by omega, fun y => by omega, fun _ _ => by omega⟩⟩
    have := z.1 (by omega)
    omega
theorem s_warms {s : Nat} {b1 : Int} (hb : sh b = .inr 1) (hP : BkP T b B) (hW : WF B) (h1 : (s : Int) < B 17) (k1 : kd B s = 2) (c1 : 0 ≤ b1 ∧ b1 ≤ 200) : ok_bk_warmsBy T b (iz s) (iz b1) ∧ (x_bk_warmsBy T b (iz s) (iz b1) = 0 ↔ ¬ on B s ≤ B 3 * (b1 + 1)) := by
  have k17 := wf_17 hW
  have kk := hW.1
  have w1 := hW.2.2.2.2.2.1 s h1
  have o1 := w1.2.2.2.2.2.1 k1
  obtain ⟨_, p1, _, _, p2, p3⟩ := hP.2.2 s h1
  have m1 := mul_b (x := B 3) (y := b1 + 1) (n := 500) (by omega) (by omega)
  unfold ok_bk_warmsBy x_bk_warmsBy
  refine ⟨⟨hb, in_nat (by omega) (by omega), trivial⟩, ?_⟩
  rw [ix_nat (by omega), n_3, hP.1 3 (by omega), p2, z_1, iz_add, iz_mul, ← z_1]
  simp only [iz_lt (a := B 3 * (b1 + 1)) (b := on B s) (by omega)]
  by_cases q : B 3 * (b1 + 1) < on B s
  · rw [if_pos q]; exact ⟨fun _ => by omega, fun _ => rfl⟩
  · rw [if_neg q]; exact ⟨fun z => absurd z (by decide), fun z => by omega⟩
-- a way: which dish, when its steps begin
def WyB (T : St) (a d : Nat) (B : Nat → Int) (bb : Nat → Int) : Prop := T.1 a 3 = iz d ∧ ∀ k, k < nO B d → T.2.2.1 (a + 1) k = iz (bb k)
theorem s_warmed {d : Nat} {bb : Nat → Int} (hb : sh b = .inr 1) (ha : sh a = .inr 10) (hP : BkP T b B) (hW : WF B) (hd : (d : Int) < B 16) (hY : WyB T a d B bb) (hr : ∀ k, k < nO B d → 0 ≤ bb k ∧ bb k ≤ 200) : ok_wa_isWarmed T a b ∧ (x_wa_isWarmed T a b = 0 ↔ ¬ wrm B d bb) := by
  have h8 := hW.2.2.1
  have k17 := wf_17 hW
  have n1 := wf_n hW hd
  have f1 := wf_f hW hd
  obtain ⟨_, _, _, p7, p8⟩ := hP.2.1.2 d hd
  refine so_wa_isWarmed (Q := fun r => r = 0 ↔ ¬ wrm B d bb) _ _ ?_
  unfold wp_wa_isWarmed jn
  try dsimp only
  rw [hY.1, ix_nat (by omega), p8]
  refine ⟨hb, ha, in_nat (by omega) (by omega), ?_⟩
  refine wr_wa_isWarmed_12 T _ _ _ (fun v => ∃ k : Nat, k ≤ nO B d ∧ v = iz k ∧ ∀ j, j < k → kd B (nF B d + j) = 2 → on B (nF B d + j) ≤ B 3 * (bb j + 1)) (fun v => 3 - v.toInt.toNat) ?_ _ _ ?_ ?_
  · rintro _ ⟨k, h1, rfl, h2⟩
    unfold bd_wa_isWarmed_12
    rw [hY.1, ix_nat (by omega), p7, iz_le (by omega)]
    refine ⟨hb, ha, in_nat (by omega) (by omega), fun c => ⟨fun z => absurd z (by decide), fun z => absurd (fun j hj e => h2 j (by omega) e) z⟩, fun c => ?_⟩
    have fk := wf_fk hW hd (k := k) (by omega)
    obtain ⟨q9, _⟩ := hP.2.2 (nF B d + k) fk.1
    have e1 : iz (bFst B d) + iz (k : Int) = iz ((nF B d + k : Nat) : Int) := by rw [iz_add]; exact iz_inj (by omega)
    have kb := (wf_s hW hd (k := k) (by omega)).1
    rw [e1, ix_nat (by omega), ix_nat (by omega), q9, hY.2 k (by omega), show iz (kd B (nF B d + k) - 1) = 1 ↔ kd B (nF B d + k) = 2 by rw [z_1, iz_eq (by omega)]; omega]
    have nx : iz (k : Int) + 1 = iz ((k + 1 : Nat) : Int) := by rw [z_1, iz_add]; exact iz_inj (by omega)
    rw [nx]
    have ms : 3 - (iz ((k + 1 : Nat) : Int)).toInt.toNat < 3 - (iz (k : Int)).toInt.toNat := by rw [iz_t (by omega), iz_t (by omega)]; omega
    refine ⟨in_nat (by omega) (by omega), fun c2 => ?_, fun c2 => ⟨⟨k + 1, by omega, rfl, fun j hj e => ?_⟩, ms⟩⟩
    · obtain ⟨ok, ew⟩ := s_warms (b1 := bb k) hb hP hW fk.1 c2 (hr k (by omega))
      refine ⟨in_nat (by omega) (by omega), ok, fun c3 => ⟨fun _ z => (ew.1 c3) (z k (by omega) c2), fun _ => rfl⟩, fun c3 => ⟨⟨k + 1, by omega, rfl, fun j hj e => ?_⟩, ms⟩⟩
      by_cases q : j = k
      · subst q; exact Classical.byContradiction fun z => c3 (ew.2 z)
      · exact h2 j (by omega) e
    · by_cases q : j = k
      · subst q; exact absurd e c2
      · exact h2 j (by omega) e
  · show 3 - (0 : Int32).toInt.toNat < 1000
    omega
  · exact ⟨0, by omega, rfl, fun j hj => by omega⟩
theorem s_agrees {a2 d e : Nat} {bb b2 : Nat → Int} (hb : sh b = .inr 1) (ha : sh a = .inr 10) (ha2 : sh a2 = .inr 10) (hP : BkP T b B) (hW : WF B) (hd : (d : Int) < B 16) (he : (e : Int) < B 16) (hY : WyB T a d B bb) (hY2 : WyB T a2 e B b2) (hr : ∀ k, k < nO B d → -200 ≤ bb k ∧ bb k ≤ 200) (hr2 : ∀ k, k < nO B e → -200 ≤ b2 k ∧ b2 k ≤ 200) : ok_wa_agrees T a b a2 ∧ (x_wa_agrees T a b a2 = 0 ↔ ¬ agd B d e bb (lgs B d) b2 (lgs B e)) := by
  have h8 := hW.2.2.1
  have k17 := wf_17 hW
  have n1 := wf_n hW hd
  have f1 := wf_f hW hd
  have n2 := wf_n hW he
  have f2 := wf_f hW he
  obtain ⟨_, _, _, p7, p8⟩ := hP.2.1.2 d hd
  obtain ⟨_, _, _, q7, q8⟩ := hP.2.1.2 e he
  refine so_wa_agrees (Q := fun r => r = 0 ↔ ¬ agd B d e bb (lgs B d) b2 (lgs B e)) _ _ _ ?_
  unfold wp_wa_agrees jn
  try dsimp only
  rw [hY.1, hY2.1, ix_nat (by omega), ix_nat (by omega), p8, q8]
  refine ⟨hb, ha, in_nat (by omega) (by omega), ha2, in_nat (by omega) (by omega), ?_⟩
  refine wr_wa_agrees_24 T _ _ _ _ _ (fun v => ∃ k : Nat, k ≤ nO B d ∧ v = iz k ∧ ∀ i j, i < k → j < nO B e → kd B (nF B d + i) = 2 → kd B (nF B e + j) = 2 → agr (B 3) (B 4) (bb i) (bb i + lgs B d i) (on B (nF B d + i)) (tw B (nF B d + i)) (b2 j) (b2 j + lgs B e j) (on B (nF B e + j)) (tw B (nF B e + j))) (fun v => 3 - v.toInt.toNat) ?_ _ _ ?_ ?_
  · rintro _ ⟨k, h1, rfl, h2⟩
    unfold bd_wa_agrees_24
    rw [hY.1, ix_nat (by omega), p7, iz_le (by omega)]
    refine ⟨hb, ha, in_nat (by omega) (by omega), fun c => ⟨fun z => absurd z (by decide), fun z => absurd (fun i j hi hj e1 e2 => h2 i j (by omega) hj e1 e2) z⟩, fun c => ?_⟩
    have fk := wf_fk hW hd (k := k) (by omega)
    obtain ⟨q9, _⟩ := hP.2.2 (nF B d + k) fk.1
    have e1 : iz (bFst B d) + iz (k : Int) = iz ((nF B d + k : Nat) : Int) := by rw [iz_add]; exact iz_inj (by omega)
    have kb := (wf_s hW hd (k := k) (by omega)).1
    rw [e1, ix_nat (by omega), q9, show iz (kd B (nF B d + k) - 1) = 1 ↔ kd B (nF B d + k) = 2 by rw [z_1, iz_eq (by omega)]; omega]
    have nx : iz (k : Int) + 1 = iz ((k + 1 : Nat) : Int) := by rw [z_1, iz_add]; exact iz_inj (by omega)
    rw [nx]
    have ms : 3 - (iz ((k + 1 : Nat) : Int)).toInt.toNat < 3 - (iz (k : Int)).toInt.toNat := by rw [iz_t (by omega), iz_t (by omega)]; omega
    refine ⟨in_nat (by omega) (by omega), fun c2 => ?_, fun c2 => ⟨⟨k + 1, by omega, rfl, fun i j hi hj x1 x2 => ?_⟩, ms⟩⟩
    · refine wr_wa_agrees_57 T _ _ _ _ _ _ (fun v => ∃ l : Nat, l ≤ nO B e ∧ v = iz l ∧ ∀ j, j < l → kd B (nF B e + j) = 2 → agr (B 3) (B 4) (bb k) (bb k + lgs B d k) (on B (nF B d + k)) (tw B (nF B d + k)) (b2 j) (b2 j + lgs B e j) (on B (nF B e + j)) (tw B (nF B e + j))) (fun v => 3 - v.toInt.toNat) ?_ _ _ ?_ ?_
      · rintro _ ⟨l, g1, rfl, g2⟩
        unfold bd_wa_agrees_57
        rw [hY2.1, ix_nat (by omega), q7, iz_le (by omega)]
        refine ⟨hb, ha2, in_nat (by omega) (by omega), fun y => ⟨⟨k + 1, by omega, rfl, fun i j hi hj e1 e2 => ?_⟩, ms⟩, fun y => ?_⟩
        · by_cases q : i = k
          · subst q; exact g2 j (by omega) e2
          · exact h2 i j (by omega) hj e1 e2
        have fl := wf_fk hW he (k := l) (by omega)
        obtain ⟨r9, _⟩ := hP.2.2 (nF B e + l) fl.1
        have e3 : iz (bFst B e) + iz (l : Int) = iz ((nF B e + l : Nat) : Int) := by rw [iz_add]; exact iz_inj (by omega)
        have kb2 := (wf_s hW he (k := l) (by omega)).1
        have nx2 : iz (l : Int) + 1 = iz ((l + 1 : Nat) : Int) := by rw [z_1, iz_add]; exact iz_inj (by omega)
        have ms2 : 3 - (iz ((l + 1 : Nat) : Int)).toInt.toNat < 3 - (iz (l : Int)).toInt.toNat := by rw [iz_t (by omega), iz_t (by omega)]; omega
        rw [e1, e3, ix_nat (by omega), ix_nat (by omega), ix_nat (by omega), r9, hY.2 k (by omega), hY2.2 l (by omega), nx2]
        refine ⟨in_nat (by omega) (by omega), ?_⟩
        have cd : iz (kd B (nF B e + l) - 1) = 1 ↔ kd B (nF B e + l) = 2 := by rw [z_1, iz_eq (by omega)]; omega
        unfold jn
        rw [cd]
        refine ⟨fun y2 => ⟨fun z => absurd z (by decide), fun _ => ?_⟩, fun y2 => ⟨fun _ => ⟨⟨l + 1, by omega, rfl, fun j hj e4 => ?_⟩, ms2⟩, fun z => absurd rfl z⟩⟩
        · obtain ⟨ok, ea⟩ := s_agree (b1 := bb k) (b2 := b2 l) hb hP hW fk.1 fl.1 c2 y2 (hr k (by omega)) (hr2 l (by omega))
          refine ⟨ha, in_nat (by omega) (by omega), in_nat (by omega) (by omega), ok, fun y3 => ⟨fun _ z => (ea.1 y3) (z k l (by omega) (by omega) c2 y2), fun _ => rfl⟩, fun y3 => ⟨⟨l + 1, by omega, rfl, fun j hj e4 => ?_⟩, ms2⟩⟩
          by_cases q : j = l
          · subst q; exact Classical.byContradiction fun z => y3 (ea.2 z)
          · exact g2 j (by omega) e4
        · by_cases q : j = l
          · subst q; exact absurd e4 y2
          · exact g2 j (by omega) e4
      · show 3 - (0 : Int32).toInt.toNat < 1000
        omega
      · exact ⟨0, by omega, rfl, fun j hj => by omega⟩
    · by_cases q : i = k
      · subst q; exact absurd x1 c2
      · exact h2 i j (by omega) hj x1 x2
  · show 3 - (0 : Int32).toInt.toNat < 1000
    omega
  · exact ⟨0, by omega, rfl, fun i j hi => by omega⟩
end WO
