/-! ===== the pair count ===== -/
theorem s_present {T : St} {g : Nat → Int} (h : ∀ s, s < 8 → T.2.2.1 2 s = iz (g s) ∧ -1 ≤ g s ∧ g s ≤ 2) : ok_sh_present T ∧ x_sh_present T = iz (sm (fun s => if g s = -1 then 0 else 1) 8) := by
  refine so_sh_present (Q := fun r => r = iz (sm (fun s => if g s = -1 then 0 else 1) 8)) ?_
  unfold wp_sh_present
  refine wr_sh_present_4 T (fun v1 v2 => ∃ i : Nat, i ≤ 8 ∧ v2 = iz i ∧ v1 = iz (sm (fun s => if g s = -1 then 0 else 1) i)) (fun v1 v2 => 8 - v2.toInt.toNat) ?_ _ _ _ ?_ ?_
  · rintro _ _ ⟨i, h1, rfl, rfl⟩
    unfold bd_sh_present_4
    rw [z_8, iz_le (by omega)]
    refine ⟨fun c => ?_, fun c => ?_⟩
    · have e : i = 8 := by omega
      rw [e]
    · obtain ⟨a1, a2⟩ := h i (by omega)
      have nx : iz (i : Int) + 1 = iz ((i + 1 : Nat) : Int) := by rw [z_1, iz_add]; exact iz_inj (by omega)
      have ms : 8 - (iz ((i + 1 : Nat) : Int)).toInt.toNat < 8 - (iz (i : Int)).toInt.toNat := by rw [iz_t (by omega), iz_t (by omega)]; omega
      have e : sm (fun s => if g s = -1 then 0 else 1) (i + 1) = sm (fun s => if g s = -1 then 0 else 1) i + (if g i = -1 then 0 else 1) := rfl
      rw [ix_nat (by omega), a1, show (-1 : Int32) = iz (-1) from rfl, iz_eq (by omega), nx]
      refine ⟨in_nat (by omega) (by omega), fun q => ⟨⟨i + 1, by omega, rfl, iz_inj ?_⟩, ms⟩, fun q => ⟨⟨i + 1, by omega, rfl, ?_⟩, ms⟩⟩
      · rw [e, if_pos q]; omega
      · rw [e, if_neg q, z_1, iz_add]
  · show 8 - (0 : Int32).toInt.toNat < 1000
    omega
  · exact ⟨0, by omega, rfl, rfl⟩
theorem I_D {T : St} (hI : Inv T) : ∃ D : Nat, nB T 202 = D ∧ D < 256 ∧ ∀ d : Nat, (d : Int) < nB T 16 → T.2.2.1 (T.2.1 0 + 7) d = iz (nO (nB T) d : Int) ∧ bOwn (nB T) d = (nO (nB T) d : Int) := by
  rcases hI.2.2.2.1.2.2 with ⟨g1, g2, _⟩ | ⟨g1, g2, g3, _⟩
  · have e : ∀ j, j < 204 → nB T j = 0 := fun j hj => by
      unfold nB
      rw [g2 j hj]; rfl
    refine ⟨0, e 202 (by omega), by omega, fun d hd => ?_⟩
    rw [e 16 (by omega)] at hd; omega
  · obtain ⟨D, d1, d2, d3, d4⟩ := WF_D g2
    refine ⟨D, d1, D_256 g2 d3, fun d hd => ?_⟩
    have n3 := (wf_n g2 hd).2.2
    obtain ⟨_, _, _, p7, _⟩ := g3.2.2.1.2 d hd
    rw [p7, n3]; exact ⟨rfl, rfl⟩
theorem i_count : P_count Inv := pw_count fun T hI p0 => by
  obtain ⟨c, hc, rfl⟩ := iz_ex p0
  obtain ⟨h46, hM, ⟨h10, hn, _⟩, ⟨h4, hn16, hf⟩, h1, h17⟩ := I_cnt hI
  obtain ⟨hb, hb2⟩ := b_46 h46
  have tt := Inv_t 0 hI
  have hM2 : MkX (sF T 571 0 0) (nB T) := hM
  obtain ⟨D, hD1, hD, hO⟩ := I_D hI
  rw [hD1] at h17
  have e0 : (iz c = 0) ↔ c = 0 := eq0 (by omega)
  have e1 : (iz c = 1) ↔ c = 1 := by rw [z_1, iz_eq (by omega)]
  have e2 : (iz c = 2) ↔ c = 2 := by rw [z_2, iz_eq (by omega)]
  have e3 : (iz c = 3) ↔ c = 3 := by rw [z_3, iz_eq (by omega)]
  have e4 : (iz c = 4) ↔ c = 4 := by rw [z_4, iz_eq (by omega)]
  have e5 : (iz c = 5) ↔ c = 5 := by rw [z_5, iz_eq (by omega)]
  have e6 : (iz c = 6) ↔ c = 6 := by rw [z_6, iz_eq (by omega)]
  have e7 : (iz c = 7) ↔ c = 7 := by rw [z_7, iz_eq (by omega)]
  obtain ⟨od, xd⟩ := s_dsteps (D := D) hb hn16 h4 h17 hD (fun d hd => (hO d hd).1)
  obtain ⟨ob, eb⟩ := s_bits (T := sF T 571 0 0) hD
  obtain ⟨n, hn6, t1, t2, _⟩ := hI.2.1.2
  have hp : ∀ s, s < 8 → T.2.2.1 2 s = iz ((T.2.2.1 2 s).toInt) ∧ -1 ≤ (T.2.2.1 2 s).toInt ∧ (T.2.2.1 2 s).toInt ≤ 2 := fun s hs => by
    obtain ⟨_, _, ⟨l, s3, s4⟩, _⟩ := hI.1.2 s hs
    refine ⟨(iz_self _).symm, ?_⟩
    rw [s3, iz_t (by omega)]; exact s4
  obtain ⟨op, xp⟩ := s_present (T := T) (g := fun s => (T.2.2.1 2 s).toInt) hp
  have go : ∀ (r : Int32), (c = 0 → r = iz (sm (fun s => if (T.2.2.1 2 s).toInt = -1 then 0 else 1) 8)) → (c = 1 → r = iz (nB T 16)) → (c = 2 → r = iz (nB T 17)) → (c = 3 → r = iz (bc8 D)) → (c = 4 → r = iz (ps (nB T) D (nB T 16).toNat)) → (c = 5 → r = iz (nB T 7)) → (c = 6 → r = iz n) → (c = 7 → (T.1 571 7 = 0 → r = 60) ∧ (¬ T.1 571 7 = 0 → r = iz (nB T 203))) → (¬ (0 ≤ c ∧ c ≤ 7) → r = -1000001) → wp_m_count T (iz c) (fun q => r = q.1 ∧ Inv q.2) := by
    intro r g0 g1 g2 g3 g4 g5 g6 g7 g8
    unfold wp_m_count
    rw [e0, e1, e2, e3, e4, e5, e6, e7, n_16, n_17, n_7, show (202 : Int32).toNatClampNeg = 202 from rfl, show (203 : Int32).toNatClampNeg = 203 from rfl, hM2 16 (by omega), hM2 17 (by omega), hM2 7 (by omega), hM2 202 (by omega), hM2 203 (by omega), hD1, eb, show (sF T 571 0 0).1 571 9 = T.1 571 9 from rfl, t2, show (sF T 571 0 0).1 571 7 = T.1 571 7 from rfl]
    refine ⟨fun q => ?_, fun q0 => ⟨fun q => ⟨g1 q, tt⟩, fun q1 => ⟨fun q => ⟨g2 q, tt⟩, fun q2 => ⟨fun q => ⟨ob, g3 q, tt⟩, fun q3 => ⟨fun q => ?_, fun q4 => ⟨fun q => ⟨g5 q, tt⟩, fun q5 => ⟨fun q => ⟨g6 q, tt⟩, fun q6 => ⟨fun q => ⟨fun y => ⟨(g7 q).1 y, tt⟩, fun y => ⟨(g7 q).2 y, tt⟩⟩, fun q7 => ⟨g8 (by omega), tt⟩⟩⟩⟩⟩⟩⟩⟩⟩
    · rw [g0 q]
      refine wr_m_count_58 _ (fun v2 v3 U => U = sF T 571 0 0 ∧ ∃ i : Nat, i ≤ 8 ∧ v3 = iz i ∧ v2 = iz (sm (fun s => if (T.2.2.1 2 s).toInt = -1 then 0 else 1) i)) (fun v2 v3 U => 8 - v3.toInt.toNat) ?_ _ _ _ _ ?_ ?_
      · rintro _ _ _ ⟨rfl, i, h1, rfl, rfl⟩
        unfold bd_m_count_58
        rw [z_8, iz_le (by omega)]
        refine ⟨fun c => ?_, fun c => ?_⟩
        · have e : i = 8 := by omega
          rw [e]; exact ⟨rfl, tt⟩
        · obtain ⟨a1, a2⟩ := hp i (by omega)
          have a3 := (hI.1.2 i (by omega)).1
          have nx : iz (i : Int) + 1 = iz ((i + 1 : Nat) : Int) := by rw [z_1, iz_add]; exact iz_inj (by omega)
          have ms : 8 - (iz ((i + 1 : Nat) : Int)).toInt.toNat < 8 - (iz (i : Int)).toInt.toNat := by rw [iz_t (by omega), iz_t (by omega)]; omega
          have e : sm (fun s => if (T.2.2.1 2 s).toInt = -1 then 0 else 1) (i + 1) = sm (fun s => if (T.2.2.1 2 s).toInt = -1 then 0 else 1) i + (if (T.2.2.1 2 i).toInt = -1 then 0 else 1) := rfl
          rw [ix_nat (by omega), show (sF T 571 0 0).2.2.1 572 i = T.2.2.1 572 i from rfl, a3, a1, lt0 (by omega), nx]
          refine ⟨in_nat (by omega) (by omega), fun q => ⟨⟨rfl, i + 1, by omega, rfl, ?_⟩, ms⟩, fun q => ⟨⟨rfl, i + 1, by omega, rfl, ?_⟩, ms⟩⟩
          · rw [e, if_pos (by omega), add0]; exact iz_inj (by omega)
          · rw [e, if_neg (by omega), z_1, iz_add]
      · show 8 - (0 : Int32).toInt.toNat < 1000
        omega
      · exact ⟨rfl, 0, by omega, rfl, rfl⟩
    · rw [g4 q]
      refine wr_m_count_119 _ (fun v2 v3 U => U = sF T 571 0 0 ∧ ∃ e : Nat, (e : Int) ≤ nB T 16 ∧ v3 = iz e ∧ v2 = iz (ps (nB T) D e)) (fun v2 v3 U => 8 - v3.toInt.toNat) ?_ _ _ _ _ ?_ ?_
      · rintro _ _ _ ⟨rfl, e, h1, rfl, rfl⟩
        unfold bd_m_count_119
        rw [n_16, show (202 : Int32).toNatClampNeg = 202 from rfl, hM2 16 (by omega), hM2 202 (by omega), hD1, iz_le (by omega)]
        refine ⟨fun c => ?_, fun c => ?_⟩
        · have : (nB T 16).toNat = e := by omega
          rw [this]; exact ⟨rfl, tt⟩
        · have he : e < 8 := by omega
          have hbt : (((iz (D : Int)) >>> (iz (e : Int) &&& 31)) &&& 1) = if D.testBit e then (1 : Int32) else 0 := bt_t D hD e he
          have nx : iz (e : Int) + 1 = iz ((e + 1 : Nat) : Int) := by rw [z_1, iz_add]; exact iz_inj (by omega)
          have ms : 8 - (iz ((e + 1 : Nat) : Int)).toInt.toNat < 8 - (iz (e : Int)).toInt.toNat := by rw [iz_t (by omega), iz_t (by omega)]; omega
          rw [hbt, nx, md3 hM2 (by omega), Int.toNat_natCast, (hO e (by omega)).2, iz_add]
          cases hme : D.testBit e with
          | false =>
            refine ⟨fun z => absurd z (by decide), fun _ => ⟨⟨rfl, e + 1, by omega, rfl, ?_⟩, ms⟩⟩
            rw [ps_s, hme, add0]; rfl
          | true =>
            refine ⟨fun _ => ⟨okd3 (by omega), jo ⟨⟨rfl, e + 1, by omega, rfl, iz_inj ?_⟩, ms⟩⟩, fun z => absurd rfl z⟩
            rw [ps_s, hme, if_pos rfl]; omega
      · show 8 - (0 : Int32).toInt.toNat < 1000
        omega
      · exact ⟨rfl, 0, by omega, rfl, rfl⟩
  have h18 : (T.1 571 7 = 0 → T.1 (T.2.1 0) 18 = 60) ∧ (¬ T.1 571 7 = 0 → T.1 (T.2.1 0) 18 = iz (nB T 203)) := by
    rcases hI.2.2.2.1.2.2 with ⟨g1, _, _, _, _, _, g7⟩ | ⟨g1, g2, g3, _⟩
    · exact ⟨fun _ => g7, fun y => absurd g1 y⟩
    · exact ⟨fun y => by rw [g1] at y; exact absurd y (by decide), fun _ => g3.2.2.2.2.2⟩
  unfold wp_x_count
  rw [e0, e1, e2, e3, e4, e5, e6, e7, h4, h10, h17, bc_x hD, xd, h1, t1, xp]
  have no : ∀ {k : Int} {P : Prop}, c = k → ∀ j : Int, k ≠ j → c = j → P := fun h j hj h2 => absurd (h.symm.trans h2) hj
  refine ⟨fun q => ⟨op, go _ (fun _ => rfl) (no q _ (by decide)) (no q _ (by decide)) (no q _ (by decide)) (no q _ (by decide)) (no q _ (by decide)) (no q _ (by decide)) (no q _ (by decide)) (fun y => absurd (by omega) y)⟩, fun q0 => ⟨fun q => ⟨hb, go _ (no q _ (by decide)) (fun _ => rfl) (no q _ (by decide)) (no q _ (by decide)) (no q _ (by decide)) (no q _ (by decide)) (no q _ (by decide)) (no q _ (by decide)) (fun y => absurd (by omega) y)⟩, fun q1 => ⟨fun q => ⟨hb, go _ (no q _ (by decide)) (no q _ (by decide)) (fun _ => rfl) (no q _ (by decide)) (no q _ (by decide)) (no q _ (by decide)) (no q _ (by decide)) (no q _ (by decide)) (fun y => absurd (by omega) y)⟩, fun q2 => ⟨fun q => ⟨hb, go _ (no q _ (by decide)) (no q _ (by decide)) (no q _ (by decide)) (fun _ => rfl) (no q _ (by decide)) (no q _ (by decide)) (no q _ (by decide)) (no q _ (by decide)) (fun y => absurd (by omega) y)⟩, fun q3 => ⟨fun q => ⟨od, hb, go _ (no q _ (by decide)) (no q _ (by decide)) (no q _ (by decide)) (no q _ (by decide)) (fun _ => rfl) (no q _ (by decide)) (no q _ (by decide)) (no q _ (by decide)) (fun y => absurd (by omega) y)⟩, fun q4 => ⟨fun q => ⟨hb, go _ (no q _ (by decide)) (no q _ (by decide)) (no q _ (by decide)) (no q _ (by decide)) (no q _ (by decide)) (fun _ => rfl) (no q _ (by decide)) (no q _ (by decide)) (fun y => absurd (by omega) y)⟩, fun q5 => ⟨fun q => go _ (no q _ (by decide)) (no q _ (by decide)) (no q _ (by decide)) (no q _ (by decide)) (no q _ (by decide)) (no q _ (by decide)) (fun _ => rfl) (no q _ (by decide)) (fun y => absurd (by omega) y), fun q6 => ⟨fun q => ⟨hb, go _ (no q _ (by decide)) (no q _ (by decide)) (no q _ (by decide)) (no q _ (by decide)) (no q _ (by decide)) (no q _ (by decide)) (no q _ (by decide)) (fun _ => h18) (fun y => absurd (by omega) y)⟩, fun q7 => go _ (fun y => absurd y q0) (fun y => absurd y q1) (fun y => absurd y q2) (fun y => absurd y q3) (fun y => absurd y q4) (fun y => absurd y q5) (fun y => absurd y q6) (fun y => absurd y q7) (fun _ => rfl)⟩⟩⟩⟩⟩⟩⟩⟩
