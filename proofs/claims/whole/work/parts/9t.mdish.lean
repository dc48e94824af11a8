/-! ===== the reference reads a dish ===== -/
section REF
variable {tp : Nat → Nat} {n : Nat} {V : St} {S : Nat × Nat × (Nat → Int)}
theorem m_dish {d c : Nat} (h : MR tp n V S) (h0 : S.1 = 0) (h16 : S.2.2 16 = d) (h17 : S.2.2 17 = c) (hd : d ≤ 8) (hc : c ≤ 3 * d) : ok_m_readDish V ∧ MR tp n (x_m_readDish V) (p_dish tp n S) := by
  refine so_m_readDish (Q := fun U => MR tp n U (p_dish tp n S)) ?_
  unfold wp_m_readDish
  refine jnk ?_
  rw [n16, MR_v h h0 (by omega), h16, z_8]
  have e8 : (iz (d : Int) = iz 8) ↔ d = 8 := by rw [iz_eq (by omega)]; omega
  by_cases y : d = 8
  · rw [if_pos (e8.2 y)]
    have hb : MR tp n (x_m_bad V 3) (a_fl 3 S) := MR_bad (k := 3) h (by omega)
    have f := fl_B (k := 3) (S := S) (by omega)
    obtain ⟨o1, r1⟩ := MR_m1 hb
    rw [fz_nx f] at r1
    refine ⟨o1, jo ?_⟩
    generalize x_m_must (x_m_bad V 3) 1 = V1 at *
    generalize V1.2.2.1 576 16 = I1 at *
    obtain ⟨o2, r2⟩ := MR_num (j := 0) (p0 := 18 + 5 * I1) (lo := 0) (hi := 2) (l := 0) (e := 2) r1 (fun z => absurd z f) (fun z => absurd z f) ⟨rfl, by omega⟩
    rw [fz_nm f] at r2
    obtain ⟨o3, r3⟩ := MR_num (j := 0) (p0 := 18 + 5 * I1 + 1) (lo := 0) (hi := 9) (l := 0) (e := 9) r2 (fun z => absurd z f) (fun z => absurd z f) ⟨rfl, by omega⟩
    rw [fz_nm f] at r3
    obtain ⟨o4, r4⟩ := MR_num (j := 0) (p0 := 18 + 5 * I1 + 2) (lo := 0) (hi := 1) (l := 0) (e := 1) r3 (fun z => absurd z f) (fun z => absurd z f) ⟨rfl, by omega⟩
    rw [fz_nm f] at r4
    obtain ⟨o5, r5⟩ := MR_me r4
    rw [fz_sg f] at r5
    refine ⟨o2, o3, o4, jo ⟨o5, ?_⟩⟩
    rw [MR_00 r5]
    refine ⟨fun z => absurd z f, fun _ => ?_⟩
    unfold p_dish
    rw [if_pos (by omega)]
    exact r5
  · rw [if_neg (fun q => y (e8.1 q))]
    have hd8 : d < 8 := by omega
    have ep : p_dish tp n S = p_d4 (p_d3 tp n d (p_d2 d (p_d1 tp n d S))) := by
      unfold p_dish; rw [if_neg (by omega), h16, Int.toNat_natCast]
    obtain ⟨o1, r1⟩ := MR_m1 h
    have x0 : (a_nx tp n S).1 = 0 := nx_B.2.2 h0
    have v16 : (x_m_must V 1).2.2.1 576 16 = iz d := by rw [MR_v r1 x0 (by omega), nx_B.1, h16]
    refine ⟨o1, jo ?_⟩
    rw [v16]
    generalize x_m_must V 1 = V1 at *
    have i0 : 18 + 5 * iz (d : Int) = iz ((18 + 5 * d + 0 : Nat) : Int) := by rw [z_5, iz_mul, z_18, iz_add]; exact iz_inj (by omega)
    have i1 : iz ((18 + 5 * d + 0 : Nat) : Int) + 1 = iz ((18 + 5 * d + 1 : Nat) : Int) := by rw [z_1, iz_add]; rfl
    have i2 : iz ((18 + 5 * d + 0 : Nat) : Int) + 2 = iz ((18 + 5 * d + 2 : Nat) : Int) := by rw [z_2, iz_add]; rfl
    have i3 : iz ((18 + 5 * d + 0 : Nat) : Int) + 3 = iz ((18 + 5 * d + 3 : Nat) : Int) := by rw [z_3, iz_add]; rfl
    have i4 : iz ((18 + 5 * d + 0 : Nat) : Int) + 4 = iz ((18 + 5 * d + 4 : Nat) : Int) := by rw [z_4, iz_add]; rfl
    rw [i0, i1, i2, i3, i4, ix_nat (by omega), ix_nat (by omega)]
    obtain ⟨o2, r2⟩ := MR_num (j := 18 + 5 * d + 0) (p0 := iz ((18 + 5 * d + 0 : Nat) : Int)) (lo := 0) (hi := 2) (l := 0) (e := 2) r1 (fun _ => ⟨rfl, by omega⟩) (fun _ => ⟨rfl, by omega⟩) ⟨rfl, by omega⟩
    obtain ⟨o3, r3⟩ := MR_num (j := 18 + 5 * d + 1) (p0 := iz ((18 + 5 * d + 1 : Nat) : Int)) (lo := 0) (hi := 9) (l := 0) (e := 9) r2 (fun _ => ⟨rfl, by omega⟩) (fun _ => ⟨rfl, by omega⟩) ⟨rfl, by omega⟩
    obtain ⟨o4, r4⟩ := MR_num (j := 18 + 5 * d + 2) (p0 := iz ((18 + 5 * d + 2 : Nat) : Int)) (lo := 0) (hi := 1) (l := 0) (e := 1) r3 (fun _ => ⟨rfl, by omega⟩) (fun _ => ⟨rfl, by omega⟩) ⟨rfl, by omega⟩
    obtain ⟨o5, r5⟩ := MR_me r4
    have e1 : a_sg tp n (a_nm tp n (18 + 5 * d + 2) 0 1 (a_nm tp n (18 + 5 * d + 1) 0 9 (a_nm tp n (18 + 5 * d + 0) 0 2 (a_nx tp n S)))) = p_d1 tp n d S := rfl
    rw [e1] at r5
    refine ⟨o2, o3, o4, jo ⟨o5, ?_⟩⟩
    generalize x_m_mustEnd (x_m_number (x_m_number (x_m_number V1 (iz ((18 + 5 * d + 0 : Nat) : Int)) 0 2) (iz ((18 + 5 * d + 1 : Nat) : Int)) 0 9) (iz ((18 + 5 * d + 2 : Nat) : Int)) 0 1) = V2 at *
    rw [MR_00 r5, ep]
    refine ⟨fun z => ⟨in_nat (by omega) (by omega), jo ⟨in_nat (by omega) (by omega), ?_⟩⟩, fun z => ?_⟩
    · have J := d2_J (tp := tp) (n := n) (S := S) hd8 h17
      have r6 : MR tp n (sA (sA V2 576 (18 + 5 * d + 4) (V2.2.2.1 576 17)) 576 (18 + 5 * d + 3) 0) (p_d2 d (p_d1 tp n d S)) := by
        unfold p_d2
        exact MR_set (MR_set r5 (fun w => ⟨rfl, MR_v r5 w (by omega)⟩)) (fun _ => ⟨rfl, rfl⟩)
      rw [n17]
      generalize sA (sA V2 576 (18 + 5 * d + 4) (V2.2.2.1 576 17)) 576 (18 + 5 * d + 3) 0 = V3 at *
      have x2 : (p_d2 d (p_d1 tp n d S)).1 = 0 := st_B.1.2 (st_B.1.2 z)
      have bx : (p_d2 d (p_d1 tp n d S)).1 = 0 → (p_d2 d (p_d1 tp n d S)).2.2 (18 + 5 * d + 3) = 0 := fun _ => by unfold p_d2; rw [st_B.2 (st_B.1.2 z), upB_s]
      generalize p_d2 d (p_d1 tp n d S) = X at *
      obtain ⟨ok, ek⟩ := s_knW r6.1 r6.2.1 r6.2.2.1
      have k5 := kw_5 (tp := tp) (n := n) (q := X.2.1)
      refine ⟨ok, jo (jnk ?_)⟩
      rw [ek]
      have en : (iz (if X.1 = 0 ∧ kw tp n X.2.1 ≠ 0 then (kw tp n X.2.1 : Int) else -1000000) = -1000000) ↔ (X.1 = 0 ∧ kw tp n X.2.1 = 0) := by
        rw [show (-1000000 : Int32) = iz (-1000000) from rfl]
        by_cases q : kw tp n X.2.1 = 0
        · rw [if_neg (fun u => u.2 q)]; exact ⟨fun _ => ⟨x2, q⟩, fun _ => rfl⟩
        · rw [if_pos ⟨x2, q⟩, iz_eq (by omega)]; exact ⟨fun u => absurd u (by omega), fun u => absurd u.2 q⟩
      have r7 : MR tp n (if iz (if X.1 = 0 ∧ kw tp n X.2.1 ≠ 0 then (kw tp n X.2.1 : Int) else -1000000) = -1000000 then x_m_bad V3 1 else V3) (if X.1 = 0 ∧ kw tp n X.2.1 = 0 then a_fl 1 X else X) := by
        by_cases q : X.1 = 0 ∧ kw tp n X.2.1 = 0
        · rw [if_pos (en.2 q), if_pos q]; exact MR_bad (k := 1) r6 (by omega)
        · rw [if_neg (fun u => q (en.1 u)), if_neg q]; exact r6
      generalize (if iz (if X.1 = 0 ∧ kw tp n X.2.1 ≠ 0 then (kw tp n X.2.1 : Int) else -1000000) = -1000000 then x_m_bad V3 1 else V3) = V4 at *
      refine wr_m_readDish_115 (iz d) _ (fun v3 T => ∃ (v : Nat) (S' : Nat × Nat × (Nat → Int)), v ≤ 4 ∧ MR tp n T S' ∧ (S'.1 = 0 → v3 = iz (if S'.1 = 0 ∧ kw tp n S'.2.1 ≠ 0 then (kw tp n S'.2.1 : Int) else -1000000)) ∧ p_d3 tp n d X = p_sl tp n d (4 - v) S' ∧ (S'.1 = 0 → v ≤ 3 ∧ S'.2.2 (18 + 5 * d + 3) = v ∧ S'.2.2 17 = ((c + v : Nat) : Int) ∧ S'.2.2 16 = d)) (fun _ T => if T.1 571 16 = 0 then 5 - ((T.2.2.1 576 (18 + 5 * d + 3)).toInt).toNat else 0) ?_ _ _ _ ?_ ⟨0, _, by omega, r7, fun w => ?_, rfl, fun w => ?_⟩
      · rintro v3 T ⟨v, S', v1, rt, v2, v4, v5⟩
        unfold bd_m_readDish_115
        have fin : p_d3 tp n d X = S' → (fun U => MR tp n U (p_d4 (p_d3 tp n d X))) (sA T 576 16 ((T.2.2.1 576 16) + 1)) := fun q => by
          try dsimp only
          rw [q]
          unfold p_d4
          exact MR_set rt (fun w => ⟨rfl, by rw [MR_v rt w (by omega), z_1, iz_add]⟩)
        refine ⟨fun w0 => ?_, fun w0 => fin ?_⟩
        · have w := (MR_0 rt).1 w0
          obtain ⟨w1, w2, w3, w4⟩ := v5 w
          have k6 := kw_5 (tp := tp) (n := n) (q := S'.2.1)
          rw [v2 w]
          by_cases q : kw tp n S'.2.1 = 0
          · rw [if_neg (fun u => u.2 q)]
            refine ⟨fun _ => fin ?_, fun u => absurd rfl u⟩
            rw [v4, show 4 - v = (4 - v - 1) + 1 by omega]
            exact if_neg (fun u => u.2 q)
          · rw [if_pos ⟨w, q⟩, show (-1000000 : Int32) = iz (-1000000) from rfl, iz_eq (by omega)]
            refine ⟨fun u => absurd u (by omega), fun _ => ?_⟩
            obtain ⟨os, rs⟩ := m_step (k := kw tp n S'.2.1) (d := d) (c := c) (v := v) rt w (by omega) hd8 w3 w2 w1 hc
            obtain ⟨oq, eq⟩ := s_knW rs.1 rs.2.1 rs.2.2.1
            refine ⟨os, oq, jo ⟨⟨v + 1, _, by omega, rs, fun _ => eq, ?_, fun u => ?_⟩, ?_⟩⟩
            · rw [v4, show 4 - v = (4 - (v + 1)) + 1 by omega]
              exact if_pos ⟨w, q⟩
            · obtain ⟨_, g1, g2, g3, g4, _⟩ := step_B (by omega) w3 hd8 u
              refine ⟨by omega, by omega, by omega, ?_⟩
              rw [g4 16 (by omega) (by omega) (by omega)]; exact w4
            · have m0 : (if T.1 571 16 = 0 then 5 - ((T.2.2.1 576 (18 + 5 * d + 3)).toInt).toNat else 0) = 5 - v := by
                rw [if_pos ((MR_0 rt).2 w), MR_v rt w (by omega), w2, iz_t (by omega), Int.toNat_natCast]
              show (if (x_m_readStep T (iz (kw tp n S'.2.1)) (iz d)).1 571 16 = 0 then 5 - (((x_m_readStep T (iz (kw tp n S'.2.1)) (iz d)).2.2.1 576 (18 + 5 * d + 3)).toInt).toNat else 0) < (if T.1 571 16 = 0 then 5 - ((T.2.2.1 576 (18 + 5 * d + 3)).toInt).toNat else 0)
              rw [m0]
              by_cases u : (p_step tp n (kw tp n S'.2.1) d S').1 = 0
              · obtain ⟨_, g1, g2, g3, g4, _⟩ := step_B (by omega) w3 hd8 u
                rw [if_pos ((MR_0 rs).2 u), MR_v rs u (by omega), g3, w2, iz_t (by omega)]; omega
              · rw [if_neg (fun t => u ((MR_0 rs).1 t))]; omega
        · rw [v4, fz_sl (fun q => w0 ((MR_0 rt).2 q))]
      · show (if V4.1 571 16 = 0 then 5 - ((V4.2.2.1 576 (18 + 5 * d + 3)).toInt).toNat else 0) < 1000
        split <;> omega
      · by_cases q : X.1 = 0 ∧ kw tp n X.2.1 = 0
        · rw [if_pos q] at w; exact absurd w (fl_B (by omega))
        · rw [if_neg q]
      · by_cases q : X.1 = 0 ∧ kw tp n X.2.1 = 0
        · rw [if_pos q] at w; exact absurd w (fl_B (by omega))
        · rw [if_neg q]
          obtain ⟨v, _, _, g17, g3, _, _, _, _, gx, _⟩ := J x2
          have b1 : X.2.2 (18 + 5 * d + 3) = 0 := bx x2
          have : v = 0 := by omega
          subst this
          exact ⟨by omega, by omega, by omega, by rw [gx 16 (by omega) (by omega) (by omega)]; exact h16⟩
    · have e2 : p_d2 d (p_d1 tp n d S) = p_d1 tp n d S := by unfold p_d2; rw [fz_st z, fz_st z]
      have e3 : p_d3 tp n d (p_d1 tp n d S) = p_d1 tp n d S := by unfold p_d3; rw [if_neg (fun q => z q.1), fz_sl z]
      rw [e2, e3]
      unfold p_d4
      rw [fz_st z]
      exact r5
end REF
