/-! ===== sheets and the tape ===== -/
theorem i_sheet : P_sheet Inv := pw_sheet fun T hI p0 p1 p2 => by
  obtain ⟨a, ha, rfl⟩ := iz_ex p0
  obtain ⟨l, hl, rfl⟩ := iz_ex p1
  obtain ⟨n, hn, rfl⟩ := iz_ex p2
  have tt := Inv_t 0 hI
  have bad : ¬ (0 ≤ a ∧ a < 8 ∧ 0 ≤ l ∧ l ≤ 2 ∧ n ≤ 40) → wp_m_sheet T (iz a) (iz l) (iz n) (fun q => (-1000001) = q.1 ∧ Inv q.2) := by
    intro hb
    unfold wp_m_sheet
    rw [m_she ha, lz_w hl, y_0, y_2, m_in (by omega), z_40, iz_le (by omega)]
    exact ⟨fun _ => ⟨rfl, tt⟩, fun _ => ⟨fun _ => ⟨rfl, tt⟩, fun _ => ⟨fun _ => absurd hb (by omega), fun _ => ⟨rfl, tt⟩⟩⟩⟩
  unfold wp_x_sheet
  rw [sh_one ha, z_0, z_3, z_40, iz_lt (by omega), iz_le (by omega), iz_le (by omega), iz_le (by omega)]
  refine ⟨fun c => bad (by omega), fun c => ⟨fun c1 => bad (by omega), fun c1 => ⟨fun c2 => bad (by omega), fun c2 => ⟨fun c3 => ⟨fun c4 => ?_, fun c4 => ?_⟩, fun c3 => bad (by omega)⟩⟩⟩⟩
  · obtain ⟨k, rfl⟩ : ∃ k : Nat, a = k := ⟨a.toNat, by omega⟩
    have i1 : vp_in (iz k) 8 := (iz_in (by omega)).2 (by omega)
    have i2 : (iz (k : Int)).toNatClampNeg = k := by rw [iz_n (by omega), Int.toNat_natCast]
    refine ⟨?_, ?_⟩
    · unfold ok_sh_lay
      refine ⟨i1, ?_⟩
      have := shr4 i1
      first | exact ⟨by unfold ok_fillI; rw [aln_eq this]; exact this, trivial⟩ | (unfold ok_fillI; rw [aln_eq this]; exact this)
    · show wp_m_sheet _ _ _ _ _
      unfold wp_m_sheet
      rw [m_she ha, lz_w hl, y_0, y_2, m_in (by omega), z_40, iz_le (by omega), z_0, iz_le (by omega), i2, ← z_0]
      refine ⟨fun q => absurd q (by omega), fun _ => ⟨fun q => absurd q (by omega), fun _ => ⟨fun _ => ⟨fun _ => ⟨i1, ?_⟩, fun q => absurd q (by omega)⟩, fun q => absurd q (by omega)⟩⟩⟩
      unfold x_x_fine x_sh_lay x_fillI
      simp only [i2]
      have hal : aln (5 + k) = 40 := by
        have := shr4 i1
        rw [i2] at this
        exact aln_eq this
      simp only [hal]
      unfold jn
      refine wr_m_sheet_65 (iz k) (iz l) (iz n) (fun v U => ∃ j : Nat, j ≤ 40 ∧ v = iz j ∧ Fr (fun c => c = 2 ∨ c = 3 ∨ c = 5 + k ∨ c = 10012 ∨ c = 67100 ∨ c = 67101 ∨ c = 572 ∨ c = 573 ∨ c = 574) T U ∧ U.1 0 12 = 0 ∧ U.1 571 1 = 0 ∧ (∀ s, U.2.2.1 2 s = if s = k then iz l else T.2.2.1 2 s) ∧ (∀ s, U.2.2.1 3 s = if s = k then iz n else T.2.2.1 3 s) ∧ (∀ s, U.2.2.1 572 s = if s = k then iz l else T.2.2.1 572 s) ∧ (∀ s, U.2.2.1 573 s = if s = k then iz n else T.2.2.1 573 s) ∧ (∀ x, U.2.2.1 (5 + k) x = if x < 40 then 0 else T.2.2.1 (5 + k) x) ∧ (∀ x, U.2.2.1 574 x = if 40 * k ≤ x ∧ x < 40 * k + j then 0 else T.2.2.1 574 x)) (fun v U => 40 - v.toInt.toNat) ?_ _ _ _ ?_ ?_
      · rintro v U ⟨j, j1, rfl, j2, j3, j4, j5, j6, j7, j8, j9, j10⟩
        unfold bd_m_sheet_65
        simp (disch := omega) only [z_40, z_1, iz_le, iz_mul, iz_add, iz_in, iz_n, iz_t]
        refine ⟨fun c => ⟨by first | trivial | rfl, ?_⟩, fun c => ⟨by omega, ⟨j + 1, by omega, iz_inj (by omega), ?_, j3, j4, j5, j6, j7, j8, fun x => by rw [gA_A, if_neg (by omega)]; exact j9 x, fun x => ?_⟩, by omega⟩⟩
        · refine Inv_ok j2 hI (fun c hc => by unfold irr; omega) (by rw [j3, j4]) (fun s hs => ?_)
          obtain ⟨t1, t2, t3, t5, t6⟩ := hI.1.2 s hs
          rw [j5, j6, j7, j8]
          by_cases e : s = k
          · simp only [e, if_true]
            refine ⟨trivial, trivial, ⟨l, rfl, by omega⟩, ⟨n, rfl, by omega⟩, fun x hx => ?_⟩
            rw [j9, j10, if_pos (by omega), if_pos hx]
          · simp only [e, if_false]
            refine ⟨t1, t2, t3, t5, fun x hx => ?_⟩
            rw [j10, if_neg (by omega), q_A j2 (by omega)]
            exact t6 x hx
        · exact fr_tr j2 fr_1A (fun c hc => by omega)
        · rw [gA_A]
          simp only [true_and, j10]
          by_cases e : x = ((40 * (k : Int) + j)).toNat
          · rw [if_pos e, if_pos (by omega)]
          · rw [if_neg e]
            by_cases e2 : 40 * k ≤ x ∧ x < 40 * k + j
            · rw [if_pos e2, if_pos (by omega)]
            · rw [if_neg e2, if_neg (by omega)]
      · show 40 - (0 : Int32).toInt.toNat < 1000
        omega
      · refine ⟨0, by omega, rfl, ?_, rfl, rfl, fun s => ?_, fun s => ?_, fun s => ?_, fun s => ?_, fun s => ?_, fun s => ?_⟩
        · refine fr_sA (fr_sA (fr_sF (fr_sF (fr_sF (fr_sAr (fr_sA (fr_sA fr_rfl ?_) ?_) ?_) ?_) ?_) ?_) ?_) ?_ <;> omega
        all_goals (simp only [gA_A, gF_A, gAr_A]; simp)
        all_goals (try (intros; omega))
        all_goals (try (repeat' split) <;> first | rfl | omega)
  · show wp_m_sheet _ _ _ _ _
    unfold wp_m_sheet
    rw [m_she ha, lz_w hl, y_0, y_2, m_in (by omega), z_40, iz_le (by omega), z_0, iz_le (by omega)]
    exact ⟨fun q => absurd q (by omega), fun _ => ⟨fun q => absurd q (by omega), fun _ => ⟨fun _ => ⟨fun q => absurd q (by omega), fun _ => ⟨rfl, Inv_fd 4 hI⟩⟩, fun q => absurd q (by omega)⟩⟩⟩
def kp (l : Int) (v : Int32) : Int32 := if l = 0 then v.toInt8.toInt32 else if l = 1 then v.toInt16.toInt32 else v
theorem i_set : P_set Inv := pw_set fun T hI p0 p1 v => by
  obtain ⟨a, ha, rfl⟩ := iz_ex p0
  obtain ⟨i, hi, rfl⟩ := iz_ex p1
  have tt := Inv_t 0 hI
  unfold wp_x_set wp_m_set
  rw [sh_one ha]
  refine ⟨fun c => ⟨fun c1 => ⟨rfl, tt⟩, fun c1 => absurd c1 (by rw [m_she ha]; omega)⟩, fun c => ?_⟩
  obtain ⟨n, rfl⟩ : ∃ n : Nat, a = n := ⟨a.toNat, by omega⟩
  have i1 : vp_in (iz n) 8 := (iz_in (by omega)).2 (by omega)
  have i2 : (iz (n : Int)).toNatClampNeg = n := by rw [iz_n (by omega), Int.toNat_natCast]
  obtain ⟨s1, s2, ⟨l, s3, s4⟩, ⟨q, s5, s6⟩, s7⟩ := hI.1.2 n (by omega)
  obtain ⟨o1, o2⟩ := sh_mis s3 (by omega) s4
  obtain ⟨o3, o4⟩ := sh_rea (i := i) (k := 1) s5 (by omega) s6 hi (by omega)
  have hin : ∀ U : St, (x_m_in U (iz i).toInt64 0 ((iz q - 1).toInt64) = 0) ↔ ¬ (0 ≤ i ∧ i ≤ q - 1) := fun U => by
    rw [z_1, iz_sub, lz_w hi, lz_w (by omega), y_0, m_in (by omega)]
  refine ⟨o1, fun c1 => ⟨o3, fun c2 => ?_, fun c2 => ⟨?_, ?_⟩⟩, fun c1 => ?_⟩
  · -- no such place
    refine ⟨fun q => absurd q (by rw [m_she ha]; omega), fun _ => ⟨i1, fun _ => ⟨fun _ => ⟨rfl, Inv_fd 2 hI⟩, fun c3 => absurd c3 ?_⟩, fun c3 => absurd c3 ?_⟩⟩
    · refine fun h => h ?_
      show x_m_in _ (iz i).toInt64 0 ((T.2.2.1 573 (iz n).toNatClampNeg - 1).toInt64) = 0
      rw [i2, s2, s5, hin]
      have := o4.1 c2
      omega
    · show ¬ ¬ 0 ≤ T.2.2.1 572 (iz n).toNatClampNeg
      rw [i2, s1, s3, z_0, iz_le (by omega)]
      have := o2.1 c1; omega
  · have : 0 ≤ i ∧ i + 1 ≤ q := Classical.byContradiction fun h => c2 (o4.2 (by omega))
    unfold ok_sh_write
    have j1 : vp_in (iz i) 40 := (iz_in (by omega)).2 (by omega)
    first
      | exact ⟨i1, fun _ => ⟨i1, j1, trivial⟩, fun _ => ⟨fun _ => ⟨i1, j1, trivial⟩, fun _ => ⟨i1, j1, trivial⟩⟩⟩
      | (unfold jn; simp [i1, j1])
  · have hr : 0 ≤ i ∧ i + 1 ≤ q := Classical.byContradiction fun h => c2 (o4.2 (by omega))
    obtain ⟨r, rfl⟩ : ∃ r : Nat, i = r := ⟨i.toNat, by omega⟩
    have i3 : (iz (r : Int)).toNatClampNeg = r := by rw [iz_n (by omega), Int.toNat_natCast]
    have hw : x_sh_write T (iz n) (iz r) v = (kp l v, sA T (5 + n) r (kp l v)) := by
      unfold x_sh_write jn kp
      simp (disch := omega) only [i2, i3, s3, z_0, z_1, iz_eq]
      by_cases e : l = 0
      · rw [if_pos e, if_pos e]
      · rw [if_neg e, if_neg e]
        by_cases e : l = 1
        · rw [if_pos e, if_pos e]
        · rw [if_neg e, if_neg e]
    rw [hw]
    refine ⟨fun q => absurd q (by rw [m_she ha]; omega), fun _ => ⟨i1, fun _ => ⟨fun c3 => absurd c3 ?_, fun _ => ?_⟩, fun c3 => absurd c3 ?_⟩⟩
    · have e2 : (sF (sF (x_x_fine (sA T (5 + n) r (kp l v)) (kp l v)).2 571 0 0) 571 1 0).2.2.1 573 (iz n).toNatClampNeg = iz q := by
        rw [i2, ← s5, ← s2]
        show (if 573 = 5 + n ∧ n = r then _ else T.2.2.1 573 n) = _
        rw [if_neg (by omega)]
      show ¬ x_m_in _ (iz r).toInt64 0 (((sF (sF (x_x_fine (sA T (5 + n) r (kp l v)) (kp l v)).2 571 0 0) 571 1 0).2.2.1 573 (iz n).toNatClampNeg - 1).toInt64) = 0
      rw [e2, hin]
      omega
    · have ix : ((40 : Int32) * iz n + iz r).toNatClampNeg = 40 * n + r := by
        rw [z_40, iz_mul, iz_add, iz_n (by omega)]; omega
      have fin : vp_in ((40 : Int32) * iz n + iz r) 320 ∧ kp l v = (sA (sF (sF (x_x_fine (sA T (5 + n) r (kp l v)) (kp l v)).2 571 0 0) 571 1 0) 574 (40 * n + r) (kp l v)).2.2.1 574 (40 * n + r) ∧ Inv (sA (sF (sF (x_x_fine (sA T (5 + n) r (kp l v)) (kp l v)).2 571 0 0) 571 1 0) 574 (40 * n + r) (kp l v)) := by
        refine ⟨?_, ?_, ?_⟩
        · rw [z_40, iz_mul, iz_add, iz_in (by omega)]; omega
        · rw [gA_A, if_pos ⟨rfl, rfl⟩]
        · unfold x_x_fine
          refine Inv_ok (fr_ww (fr_ww (fr_ww (fr_ww fr_1A fr_1) fr_1) fr_1) fr_1A) hI (fun c hc => by unfold irr; omega) rfl (fun s hs => ?_)
          obtain ⟨t1, t2, t3, t5, t6⟩ := hI.1.2 s hs
          simp only [gA_A, gF_A, true_and]
          refine ⟨?_, ?_, ?_, ?_, fun x hx => ?_⟩
          · rw [if_neg (by omega), if_neg (by omega), if_neg (by omega), if_neg (by omega)]; exact t1
          · rw [if_neg (by omega), if_neg (by omega), if_neg (by omega), if_neg (by omega)]; exact t2
          · rw [if_neg (by omega), if_neg (by omega)]; exact t3
          · rw [if_neg (by omega), if_neg (by omega)]; exact t5
          · have e := t6 x hx
            by_cases e2 : s = n ∧ x = r
            · rw [if_pos (by omega), if_neg (by omega), if_pos (by omega)]
            · rw [if_neg (by omega), if_neg (by omega), if_neg (by omega), if_neg (by omega)]; exact e
      have e1 : (sF (sF (x_x_fine (sA T (5 + n) r (kp l v)) (kp l v)).2 571 0 0) 571 1 0).2.2.1 572 (iz n).toNatClampNeg = iz l := by
        rw [i2, ← s3, ← s1]
        show (if 572 = 5 + n ∧ n = r then _ else T.2.2.1 572 n) = _
        rw [if_neg (by omega)]
      show jn _ _
      unfold jn
      rw [e1, ix, z_0, z_1, iz_eq (by omega), iz_eq (by omega), ← z_0]
      refine ⟨fun d => ?_, fun d => ⟨fun d2 => ?_, fun d2 => ?_⟩⟩
      · have hk : kp l v = v.toInt8.toInt32 := if_pos d
        rw [← hk]; exact fin
      · have hk : kp l v = v.toInt16.toInt32 := by unfold kp; rw [if_neg d, if_pos d2]
        rw [← hk]; exact fin
      · have hk : kp l v = v := by unfold kp; rw [if_neg d, if_neg d2]
        rw [hk] at fin ⊢
        exact fin
    · show ¬ ¬ 0 ≤ (if 572 = 5 + n ∧ (iz n).toNatClampNeg = r then _ else T.2.2.1 572 (iz n).toNatClampNeg)
      rw [if_neg (by omega), i2, s1, s3, z_0, iz_le (by omega)]
      have := o2.1 c1; omega
  · refine ⟨fun q => absurd q (by rw [m_she ha]; omega), fun _ => ⟨i1, fun c3 => absurd c3 ?_, fun _ => ⟨rfl, Inv_fd 1 hI⟩⟩⟩
    show ¬ 0 ≤ T.2.2.1 572 (iz n).toNatClampNeg
    rw [i2, s1, s3, z_0, iz_le (by omega)]
    intro q; exact c1 (o2.2 q)

