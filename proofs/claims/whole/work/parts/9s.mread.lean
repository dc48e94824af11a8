/-! ===== the reference reads aways, steps, dishes ===== -/
section REF
variable {tp : Nat → Nat} {n : Nat} {V : St} {S : Nat × Nat × (Nat → Int)}
theorem MR_v {j : Nat} (h : MR tp n V S) (h0 : S.1 = 0) (hj : j < 204) : V.2.2.1 576 j = iz (S.2.2 j) := h.2.2.2.2 h0 j hj
theorem n7 : (7 : Int32).toNatClampNeg = 7 := rfl
theorem n16 : (16 : Int32).toNatClampNeg = 16 := rfl
theorem n17 : (17 : Int32).toNatClampNeg = 17 := rfl
theorem m_away {c : Nat} (h : MR tp n V S) (h0 : S.1 = 0) (h7 : S.2.2 7 = c) (hc : c ≤ 4) : ok_m_readAway V ∧ MR tp n (x_m_readAway V) (p_away tp n S) := by
  refine so_m_readAway (Q := fun U => MR tp n U (p_away tp n S)) ?_
  unfold wp_m_readAway
  refine jnk ?_
  rw [n7, MR_v h h0 (by omega), h7, z_4]
  have e4 : (iz (c : Int) = iz 4) ↔ c = 4 := by rw [iz_eq (by omega)]; omega
  have hb : MR tp n (x_m_bad V 3) (a_fl 3 S) := MR_bad (k := 3) h (by omega)
  have r0 : MR tp n (if iz (c : Int) = iz 4 then x_m_bad V 3 else V) (if c = 4 then a_fl 3 S else S) := by
    by_cases y : c = 4
    · rw [if_pos (e4.2 y), if_pos y]; exact hb
    · rw [if_neg (fun q => y (e4.1 q)), if_neg y]; exact h
  have s0 : (if c = 4 then a_fl 3 S else S).1 = 0 → c < 4 ∧ (if c = 4 then a_fl 3 S else S) = S := fun y => by
    by_cases z : c = 4
    · rw [if_pos z] at y; exact absurd y (fl_B (by omega))
    · rw [if_neg z]; exact ⟨by omega, rfl⟩
  have eq : p_away tp n S = a_st 7 (S.2.2 7 + 1) (a_sg tp n (p_aw2 tp n c (if c = 4 then a_fl 3 S else S))) := by
    unfold p_away
    by_cases z : c = 4
    · rw [if_pos (by omega), if_pos z]
      have f := fl_B (k := 3) (S := S) (by omega)
      have g1 : p_aw1 tp n c (a_fl 3 S) = a_fl 3 S := by unfold p_aw1; rw [fz_nx f, fz_nm f]
      have g2 : p_aw2 tp n c (a_fl 3 S) = a_fl 3 S := by unfold p_aw2; rw [g1, fz_nm f]
      rw [g2, fz_sg f, fz_st f]
    · rw [if_neg (by omega), if_neg z, h7, Int.toNat_natCast]
  rw [eq]
  generalize (if iz (c : Int) = iz 4 then x_m_bad V 3 else V) = V0 at *
  generalize hS0 : (if c = 4 then a_fl 3 S else S) = S0 at *
  obtain ⟨o1, r1⟩ := MR_m1 r0
  generalize x_m_must V0 1 = V1 at *
  have i1 : (a_nx tp n S0).1 = 0 → 8 + 2 * V1.2.2.1 576 7 = iz ((8 + 2 * c : Nat) : Int) ∧ 8 + 2 * c < 204 := fun y => by
    have z := s0 (nx_B.2.1 y)
    rw [MR_v r1 y (by omega), nx_B.1, z.2, h7, z_2, iz_mul, z_8, iz_add]
    exact ⟨iz_inj (by omega), by omega⟩
  refine ⟨o1, jo ?_⟩
  generalize 8 + 2 * V1.2.2.1 576 7 = I1 at *
  obtain ⟨o2, r2⟩ := MR_num (j := 8 + 2 * c) (p0 := I1) (lo := 0) (hi := 59) (l := 0) (e := 59) r1 i1 (fun _ => ⟨rfl, by omega⟩) ⟨rfl, by omega⟩
  have e2 : a_nm tp n (8 + 2 * c) 0 59 (a_nx tp n S0) = p_aw1 tp n c S0 := rfl
  rw [e2] at r2
  have b2 : (p_aw1 tp n c S0).1 = 0 → (I1 = iz ((8 + 2 * c : Nat) : Int) ∧ 8 + 2 * c < 200) ∧ 0 ≤ (p_aw1 tp n c S0).2.2 (8 + 2 * c) ∧ (p_aw1 tp n c S0).2.2 (8 + 2 * c) ≤ 59 := fun y => by
    rw [← e2] at y ⊢
    obtain ⟨y1, v, v1, v2, v3⟩ := nm_B y
    have z := s0 (nx_B.2.1 y1)
    rw [v3, upB_s]
    exact ⟨⟨(i1 y1).1, by omega⟩, v1, v2⟩
  generalize x_m_number V1 I1 0 59 = V2 at *
  have key : ∀ lo : Int32, ((p_aw1 tp n c S0).1 = 0 → lo = iz ((p_aw1 tp n c S0).2.2 (8 + 2 * c))) → (ok_m_number V2 (I1 + 1) lo 59) ∧ (ok_m_mustEnd (x_m_number V2 (I1 + 1) lo 59)) ∧ (((((x_m_mustEnd (x_m_number V2 (I1 + 1) lo 59)).1 571 16) = 0) → MR tp n (sA (x_m_mustEnd (x_m_number V2 (I1 + 1) lo 59)) 576 7 (((x_m_mustEnd (x_m_number V2 (I1 + 1) lo 59)).2.2.1 576 7) + 1)) (a_st 7 (S.2.2 7 + 1) (a_sg tp n (p_aw2 tp n c S0)))) ∧ (¬ (((x_m_mustEnd (x_m_number V2 (I1 + 1) lo 59)).1 571 16) = 0) → MR tp n (sA (x_m_mustEnd (x_m_number V2 (I1 + 1) lo 59)) 576 7 (((x_m_mustEnd (x_m_number V2 (I1 + 1) lo 59)).2.2.1 576 7) + 0)) (a_st 7 (S.2.2 7 + 1) (a_sg tp n (p_aw2 tp n c S0))))) := by
    intro lo hlo
    obtain ⟨o3, r3⟩ := MR_num (j := 8 + 2 * c + 1) (p0 := I1 + 1) (lo := lo) (hi := 59) (l := (p_aw1 tp n c S0).2.2 (8 + 2 * c)) (e := 59) r2 (fun y => ⟨by rw [(b2 y).1.1, z_1, iz_add]; rfl, by have := (b2 y).1.2; omega⟩) (fun y => ⟨hlo y, by have := b2 y; omega⟩) ⟨rfl, by omega⟩
    have e3 : a_nm tp n (8 + 2 * c + 1) ((p_aw1 tp n c S0).2.2 (8 + 2 * c)) 59 (p_aw1 tp n c S0) = p_aw2 tp n c S0 := rfl
    obtain ⟨o4, r4⟩ := MR_me r3
    have b4 : (a_sg tp n (p_aw2 tp n c S0)).1 = 0 → (a_sg tp n (p_aw2 tp n c S0)).2.2 7 = S.2.2 7 := fun y => by
      have y3 := sg_B.2 y
      rw [sg_B.1]
      rw [← e3] at y3 ⊢
      obtain ⟨y2, w, _, _, w3⟩ := nm_B y3
      rw [← e2] at y2
      obtain ⟨y1, v, _, _, v3⟩ := nm_B y2
      rw [w3, ← e2, v3, upB_n (by omega), upB_n (by omega), nx_B.1, (s0 (nx_B.2.1 y1)).2]
    rw [e3] at r4
    generalize x_m_mustEnd (x_m_number V2 (I1 + 1) lo 59) = V4 at *
    rw [MR_0 r4]
    refine ⟨o3, o4, fun y => MR_set r4 (fun _ => ⟨rfl, ?_⟩), fun y => MR_set r4 (fun z => absurd z y)⟩
    rw [MR_v r4 y (by omega), b4 y, z_1, iz_add]
  rw [MR_0 r2]
  refine ⟨o2, jo ⟨fun y => ?_, fun y => ?_⟩⟩
  · rw [(b2 y).1.1, ix_nat (by have := (b2 y).1.2; omega), ← (b2 y).1.1]
    refine ⟨by rw [(b2 y).1.1]; exact in_nat (by have := (b2 y).1.2; omega) (by have := (b2 y).1.2; omega), key _ (fun _ => MR_v r2 y (by have := (b2 y).1.2; omega))⟩
  · exact key _ (fun z => absurd z y)
theorem m_step {k d c v : Nat} (h : MR tp n V S) (h0 : S.1 = 0) (hk : 1 ≤ k ∧ k ≤ 5) (hd : d < 8) (h17 : S.2.2 17 = ((c + v : Nat) : Int)) (ho : S.2.2 (18 + 5 * d + 3) = v) (hv : v ≤ 3) (hc : c ≤ 3 * d) : ok_m_readStep V (iz k) (iz d) ∧ MR tp n (x_m_readStep V (iz k) (iz d)) (p_step tp n k d S) := by
  refine so_m_readStep (Q := fun U => MR tp n U (p_step tp n k d S)) _ _ ?_
  unfold wp_m_readStep
  have iq : (18 + 5 * iz (d : Int)) + 3 = iz ((18 + 5 * d + 3 : Nat) : Int) := by rw [z_5, iz_mul, z_18, iz_add, z_3, iz_add]; exact iz_inj (by omega)
  rw [iq, ix_nat (by omega)]
  refine ⟨in_nat (by omega) (by omega), jnk ?_⟩
  rw [MR_v h h0 (by omega), ho, z_3]
  have e3 : (iz (v : Int) = iz 3) ↔ v = 3 := by rw [iz_eq (by omega)]; omega
  by_cases y : v = 3
  · rw [if_pos (e3.2 y)]
    have hb : MR tp n (x_m_bad V (iz 3)) (a_fl 3 S) := MR_bad (k := 3) h (by omega)
    have f := fl_B (k := 3) (S := S) (by omega)
    obtain ⟨o1, r1⟩ := MR_m1 hb
    rw [fz_nx f] at r1
    rw [MR_00 r1]
    refine ⟨o1, fun z => absurd z f, fun _ => ?_⟩
    unfold p_step
    rw [if_pos (by omega)]
    exact r1
  · rw [if_neg (fun q => y (e3.1 q))]
    have ep : p_step tp n k d S = p_s6 d (a_sg tp n (p_s5 tp n k (c + v) (a_nx tp n S))) := by
      unfold p_step; rw [if_neg (by omega), h17, Int.toNat_natCast]
    obtain ⟨o1, r1⟩ := MR_m1 h
    have x0 : (a_nx tp n S).1 = 0 := nx_B.2.2 h0
    rw [MR_00 r1]
    refine ⟨o1, fun _ => ?_, fun z => absurd x0 z⟩
    rw [n17, MR_v r1 x0 (by omega), nx_B.1, h17, z_6, iz_mul, z_58, iz_add]
    generalize x_m_must V 1 = V1 at *
    generalize hX : a_nx tp n S = X at *
    obtain ⟨s, hs⟩ : ∃ s : Nat, s = c + v := ⟨_, rfl⟩
    rw [← hs] at ep
    have i0 : iz (58 + 6 * ((c + v : Nat) : Int)) = iz ((58 + 6 * s + 0 : Nat) : Int) := iz_inj (by omega)
    rw [i0]
    have hs24 : s < 24 := by omega
    have i1 : iz ((58 + 6 * s + 0 : Nat) : Int) + 1 = iz ((58 + 6 * s + 1 : Nat) : Int) := by rw [z_1, iz_add]; rfl
    have i2 : iz ((58 + 6 * s + 0 : Nat) : Int) + 2 = iz ((58 + 6 * s + 2 : Nat) : Int) := by rw [z_2, iz_add]; rfl
    have i3 : iz ((58 + 6 * s + 0 : Nat) : Int) + iz 3 = iz ((58 + 6 * s + 3 : Nat) : Int) := by rw [iz_add]; rfl
    have i4 : iz ((58 + 6 * s + 0 : Nat) : Int) + 4 = iz ((58 + 6 * s + 4 : Nat) : Int) := by rw [z_4, iz_add]; rfl
    have i5 : iz ((58 + 6 * s + 0 : Nat) : Int) + 5 = iz ((58 + 6 * s + 5 : Nat) : Int) := by rw [z_5, iz_add]; rfl
    refine jo ⟨in_nat (by omega) (by omega), jnk ?_⟩
    rw [i1, i2, i3, i4, i5, ix_nat (by omega), ix_nat (by omega), ix_nat (by omega), ix_nat (by omega)]
    have q1 : iz (k : Int) = 1 ↔ k = 1 := by rw [z_1, iz_eq (by omega)]; omega
    have q2 : iz (k : Int) = 2 ↔ k = 2 := by rw [z_2, iz_eq (by omega)]; omega
    have q3 : iz (k : Int) = iz 3 ↔ k = 3 := by rw [iz_eq (by omega)]; omega
    have q5 : iz (k : Int) = 5 ↔ k = 5 := by rw [z_5, iz_eq (by omega)]; omega
    have ej : (if iz (k : Int) = iz 3 then (2 : Int32) else 0) = iz (if k = 3 then 2 else 0) := by
      by_cases w : k = 3
      · rw [if_pos (q3.2 w), if_pos w]; rfl
      · rw [if_neg (fun q => w (q3.1 q)), if_neg w]; rfl
    rw [ej]
    refine ⟨in_nat (by omega) (by omega), jo ⟨in_nat (by omega) (by omega), in_nat (by omega) (by omega), jo ?_⟩⟩
    have rs1 : MR tp n (sA (sA (sA (sA V1 576 (58 + 6 * s + 0) (iz k)) 576 (58 + 6 * s + 3) (iz (if k = 3 then 2 else 0))) 576 (58 + 6 * s + 4) (-1000000)) 576 (58 + 6 * s + 5) (-1000000)) (p_s1 k s X) := by
      unfold p_s1
      exact MR_set (MR_set (MR_set (MR_set r1 (fun _ => ⟨rfl, rfl⟩)) (fun _ => ⟨rfl, rfl⟩)) (fun _ => ⟨rfl, rfl⟩)) (fun _ => ⟨rfl, rfl⟩)
    generalize sA (sA (sA (sA V1 576 (58 + 6 * s + 0) (iz k)) 576 (58 + 6 * s + 3) (iz (if k = 3 then 2 else 0))) 576 (58 + 6 * s + 4) (-1000000)) 576 (58 + 6 * s + 5) (-1000000) = V2 at *
    obtain ⟨ok1, rr1⟩ := MR_num (j := 58 + 6 * s + 1) (p0 := iz ((58 + 6 * s + 1 : Nat) : Int)) (lo := 1) (hi := 30) (l := 1) (e := 30) rs1 (fun _ => ⟨rfl, by omega⟩) (fun _ => ⟨rfl, by omega⟩) ⟨rfl, by omega⟩
    obtain ⟨ok2, rr2⟩ := MR_num (j := 58 + 6 * s + 2) (p0 := iz ((58 + 6 * s + 2 : Nat) : Int)) (lo := 0) (hi := 1) (l := 0) (e := 1) rr1 (fun _ => ⟨rfl, by omega⟩) (fun _ => ⟨rfl, by omega⟩) ⟨rfl, by omega⟩
    have e2 : a_nm tp n (58 + 6 * s + 2) 0 1 (a_nm tp n (58 + 6 * s + 1) 1 30 (p_s1 k s X)) = p_s2 tp n k s X := rfl
    rw [e2] at rr2
    refine ⟨ok1, ok2, ?_⟩
    generalize x_m_number (x_m_number V2 (iz ((58 + 6 * s + 1 : Nat) : Int)) 1 30) (iz ((58 + 6 * s + 2 : Nat) : Int)) 0 1 = V3 at *
    have fin : ∀ Z, MR tp n Z (p_s5 tp n k s X) → (ok_m_mustEnd Z) ∧ jn (fun (T17 : St) => (fun U => MR tp n U (p_step tp n k d S)) (sA T17 576 17 ((T17.2.2.1 576 17) + 1))) (sA (x_m_mustEnd Z) 576 (18 + 5 * d + 3) (((x_m_mustEnd Z).2.2.1 576 (18 + 5 * d + 3)) + 1)) := fun Z rz => by
      obtain ⟨oz, rz⟩ := MR_me rz
      refine ⟨oz, jo ?_⟩
      rw [ep]
      unfold p_s6
      have g1 := MR_set (j := 18 + 5 * d + 3) (i := 18 + 5 * d + 3) (v := ((x_m_mustEnd Z).2.2.1 576 (18 + 5 * d + 3)) + 1) (z := (a_sg tp n (p_s5 tp n k s X)).2.2 (18 + 5 * d + 3) + 1) rz (fun w => ⟨rfl, by rw [MR_v rz w (by omega), z_1, iz_add]⟩)
      exact MR_set g1 (fun w => ⟨rfl, by rw [MR_v g1 w (by omega), st_B.2 (st_B.1.1 w), upB_n (by omega), z_1, iz_add]⟩)
    refine jk1 (fun hh => ?_) (fun m1 m2 => ?_)
    · rw [q1, q2] at hh
      obtain ⟨ok3, rr3⟩ := MR_num (j := 58 + 6 * s + 3) (p0 := iz ((58 + 6 * s + 3 : Nat) : Int)) (lo := 0) (hi := 2) (l := 0) (e := 2) rr2 (fun _ => ⟨rfl, by omega⟩) (fun _ => ⟨rfl, by omega⟩) ⟨rfl, by omega⟩
      refine ⟨ok3, jnk ?_⟩
      have eh : (if iz (k : Int) = 1 then (1 : Int32) else 9) = iz (if k = 1 then 1 else 9) := by
        by_cases w : k = 1
        · rw [if_pos (q1.2 w), if_pos w]; rfl
        · rw [if_neg (fun q => w (q1.1 q)), if_neg w]; rfl
      rw [eh]
      obtain ⟨ok4, rr4⟩ := MR_num (j := 58 + 6 * s + 4) (p0 := iz ((58 + 6 * s + 4 : Nat) : Int)) (lo := 0) (hi := iz (if k = 1 then 1 else 9)) (l := 0) (e := if k = 1 then 1 else 9) rr3 (fun _ => ⟨rfl, by omega⟩) (fun _ => ⟨rfl, by omega⟩) ⟨rfl, by split <;> omega⟩
      have es3 : a_nm tp n (58 + 6 * s + 4) 0 (if k = 1 then 1 else 9) (a_nm tp n (58 + 6 * s + 3) 0 2 (p_s2 tp n k s X)) = p_s3 tp n k s X := by unfold p_s3; rw [if_pos hh]
      have b3 : (p_s3 tp n k s X).1 = 0 → 0 ≤ (p_s3 tp n k s X).2.2 (58 + 6 * s + 4) ∧ (p_s3 tp n k s X).2.2 (58 + 6 * s + 4) ≤ 9 := fun w => by
        rw [← es3] at w ⊢
        obtain ⟨_, u, u1, u2, u3⟩ := nm_B w
        rw [u3, upB_s]
        exact ⟨u1, by split at u2 <;> omega⟩
      rw [es3] at rr4
      refine ⟨ok4, jo ?_⟩
      generalize x_m_number (x_m_number V3 (iz ((58 + 6 * s + 3 : Nat) : Int)) 0 2) (iz ((58 + 6 * s + 4 : Nat) : Int)) 0 (iz (if k = 1 then 1 else 9)) = V4 at *
      have n5 : ¬ iz (k : Int) = 5 := fun w => by have := q5.1 w; omega
      by_cases w : k = 2
      · have e5 : p_s5 tp n k s X = a_nm tp n (58 + 6 * s + 5) ((p_s3 tp n k s X).2.2 (58 + 6 * s + 4)) 9 (p_s3 tp n k s X) := by unfold p_s5 p_s4; rw [if_neg (by omega), if_pos w]
        have g5 : ∀ lo : Int32, ((p_s3 tp n k s X).1 = 0 → lo = iz ((p_s3 tp n k s X).2.2 (58 + 6 * s + 4))) → ok_m_number V4 (iz ((58 + 6 * s + 5 : Nat) : Int)) lo 9 ∧ MR tp n (x_m_number V4 (iz ((58 + 6 * s + 5 : Nat) : Int)) lo 9) (p_s5 tp n k s X) := fun lo hl => by
          rw [e5]
          exact MR_num rr4 (fun _ => ⟨rfl, by omega⟩) (fun z => ⟨hl z, by have := b3 z; omega⟩) ⟨rfl, by omega⟩
        rw [MR_0 rr4]
        refine jo ⟨fun _ => ⟨fun z => ?_, fun z => ?_⟩, fun q => absurd (q2.2 w) q⟩
        · obtain ⟨oo, rr5⟩ := g5 (V4.2.2.1 576 (58 + 6 * s + 4)) (fun _ => MR_v rr4 z (by omega))
          exact ⟨oo, jo ⟨fun q => absurd q n5, fun _ => fin _ rr5⟩⟩
        · obtain ⟨oo, rr5⟩ := g5 0 (fun q => absurd q z)
          exact ⟨oo, jo ⟨fun q => absurd q n5, fun _ => fin _ rr5⟩⟩
      · have e5 : p_s5 tp n k s X = p_s3 tp n k s X := by unfold p_s5 p_s4; rw [if_neg (by omega), if_neg w]
        rw [← e5] at rr4
        exact jo ⟨fun q => absurd (q2.1 q) w, fun _ => jo ⟨fun q => absurd q n5, fun _ => fin _ rr4⟩⟩
    · have l1 : ¬ k = 1 := fun w => m1 (q1.2 w)
      have l2 : ¬ k = 2 := fun w => m2 (q2.2 w)
      have e4 : p_s4 tp n k s X = p_s2 tp n k s X := by unfold p_s4 p_s3; rw [if_neg l2, if_neg (by omega)]
      refine jo ⟨fun q => absurd q m2, fun _ => jo ⟨fun q => ?_, fun q => ?_⟩⟩
      · obtain ⟨oo, rr5⟩ := MR_num (j := 58 + 6 * s + 4) (p0 := iz ((58 + 6 * s + 4 : Nat) : Int)) (lo := 0) (hi := 9) (l := 0) (e := 9) rr2 (fun _ => ⟨rfl, by omega⟩) (fun _ => ⟨rfl, by omega⟩) ⟨rfl, by omega⟩
        have e5 : p_s5 tp n k s X = a_nm tp n (58 + 6 * s + 4) 0 9 (p_s2 tp n k s X) := by unfold p_s5; rw [if_pos (q5.1 q), e4]
        rw [← e5] at rr5
        exact ⟨oo, fin _ rr5⟩
      · have e5 : p_s5 tp n k s X = p_s2 tp n k s X := by unfold p_s5; rw [if_neg (fun w => q (q5.2 w)), e4]
        rw [← e5] at rr2
        exact fin _ rr2
end REF
