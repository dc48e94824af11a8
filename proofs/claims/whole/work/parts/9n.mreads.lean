/-! ===== the same steps, of the reference ===== -/
section PRN
variable {tp : Nat → Nat} {n : Nat}
def MR (tp : Nat → Nat) (n : Nat) (V : St) (S : Nat × Nat × (Nat → Int)) : Prop := tkM tp n S.2.1 V ∧ V.1 571 16 = iz S.1 ∧ S.1 < 10 ∧ (S.1 ≠ 0 → V.1 571 17 = iz (tpl tp n S.2.1)) ∧ (S.1 = 0 → ∀ j, j < 204 → V.2.2.1 576 j = iz (S.2.2 j))
variable {V : St} {S : Nat × Nat × (Nat → Int)}
theorem MR_0 (h : MR tp n V S) : V.1 571 16 = 0 ↔ S.1 = 0 := by
  have := h.2.2.1
  rw [h.2.1, eq0 (by omega)]; omega
theorem MR_00 (h : MR tp n V S) : V.1 571 16 ≤ 0 ↔ S.1 = 0 := by
  have := h.2.2.1
  rw [h.2.1, z_0, iz_le (by omega)]; omega
theorem tkM_fr {U : St} {q : Nat} {W : Nat → Prop} (f : Fr W U V) (nw : ∀ c, (c = 577 ∨ (67111 ≤ c ∧ c < 67116)) → ¬ W c) (h : tkM tp n q U) : tkM tp n q V := by
  obtain ⟨⟨h0, h1, h2⟩, hq, u3, u4, u5, u6⟩ := h
  refine ⟨⟨h0, by rw [q_F f (nw _ (by omega))]; exact h1, fun j hj => by rw [q_A f (nw _ (by omega))]; exact h2 j hj⟩, hq, ?_, ?_, ?_, ?_⟩
  · rw [q_F f (nw _ (by omega))]; exact u3
  · rw [q_F f (nw _ (by omega))]; exact u4
  · rw [q_F f (nw _ (by omega))]; exact u5
  · rw [q_F f (nw _ (by omega))]; exact u6
theorem MR_bad {k : Nat} (h : MR tp n V S) (hk : 1 ≤ k ∧ k < 10) : MR tp n (x_m_bad V (iz k)) (a_fl k S) := by
  refine so_m_bad (Q := fun U => MR tp n U (a_fl k S)) _ ?_
  unfold wp_m_bad a_fl
  rw [MR_0 h]
  refine ⟨fun y => ?_, fun y => ?_⟩
  · rw [if_pos y]
    refine ⟨tkM_fr (fr_ww fr_1 fr_1) (fun c hc hw => by omega) h.1, ?_, hk.2, fun _ => ?_, fun z => absurd z (by show ¬ k = 0; omega)⟩
    · rw [gF_F, if_neg (by omega), gF_F, if_pos ⟨rfl, rfl⟩]
    · rw [gF_F, if_pos ⟨rfl, rfl⟩, gF_F, if_neg (by omega)]; exact h.1.2.2.1
  · rw [if_neg y]; exact h
theorem MR_nx (h : MR tp n V S) : ok_m_next V ∧ (S.1 = 0 → MR tp n (x_m_next V) (a_nx tp n S)) := by
  obtain ⟨h1, h2, h3, h4, h5⟩ := h
  obtain ⟨hU, hq, u14, u12, u15, u13⟩ := h1
  have tb := t_be (tp := tp) hU.1 hq
  obtain ⟨ok, x1, x2, x3, x4⟩ := s_next hU tb.2.2.2 u12
  have f := fr_m_next ok
  have nf : ∀ c k, ¬ (c = 571 ∧ 12 ≤ k ∧ k < 16) → k < 100 → (x_m_next V).1 c k = V.1 c k := fun c k y z => q_F f (by unfold W_m_next; omega)
  have na : ∀ c k, c < 10000 → (x_m_next V).2.2.1 c k = V.2.2.1 c k := fun c k y => q_A f (by unfold W_m_next; omega)
  refine ⟨ok, fun y => ?_⟩
  unfold a_nx
  rw [if_pos y]
  refine ⟨⟨⟨hU.1, ?_, fun j hj => ?_⟩, tb.2.2.2, x1, x2, x3, x4⟩, ?_, by show 0 < 10; omega, fun z => absurd rfl z, fun _ j hj => ?_⟩
  · rw [nf _ _ (by omega) (by omega)]; exact hU.2.1
  · rw [na _ _ (by omega)]; exact hU.2.2 j hj
  · rw [nf _ _ (by omega) (by omega), h2, y]
  · rw [na _ _ (by omega)]; exact h5 y j hj
theorem MR_m1 (h : MR tp n V S) : ok_m_must V 1 ∧ MR tp n (x_m_must V 1) (a_nx tp n S) := by
  refine so_m_must (Q := fun U => MR tp n U (a_nx tp n S)) _ ?_
  unfold wp_m_must
  obtain ⟨ok, ha⟩ := MR_nx h
  refine jnk ?_
  rw [if_neg (by decide), MR_0 h]
  refine ⟨fun y => ⟨ok, ha y⟩, fun y => ?_⟩
  unfold a_nx; rw [if_neg y]; exact h
theorem MR_m0 (h : MR tp n V S) : ok_m_must V 0 ∧ MR tp n (x_m_must V 0) (a_fl 1 S) := by
  refine so_m_must (Q := fun U => MR tp n U (a_fl 1 S)) _ ?_
  unfold wp_m_must
  have hb := MR_bad (k := 1) h (by omega)
  have hb : MR tp n (x_m_bad V 1) (a_fl 1 S) := hb
  refine jnk ?_
  rw [if_pos rfl, MR_0 hb]
  refine ⟨fun y => ?_, fun y => hb⟩
  exfalso
  unfold a_fl at y
  by_cases z : S.1 = 0
  · rw [if_pos z] at y; exact absurd (show (1 : Nat) = 0 from y) (by decide)
  · rw [if_neg z] at y; exact z y
theorem MR_me (h : MR tp n V S) : ok_m_mustEnd V ∧ MR tp n (x_m_mustEnd V) (a_sg tp n S) := by
  refine so_m_mustEnd (Q := fun U => MR tp n U (a_sg tp n S)) ?_
  have t4 := tso_4 (tp := tp) (n := n) (q := S.2.1)
  unfold wp_m_mustEnd a_sg
  obtain ⟨o1, h1⟩ := MR_m1 h
  obtain ⟨o0, h0⟩ := MR_m0 h
  unfold a_nx at h1
  unfold a_fl at h0
  rw [MR_0 h, h.1.2.2.2.2.2, (tcd_2 t4).2.2.1]
  refine ⟨fun y => ⟨fun z => ⟨o1, ?_⟩, fun z => ⟨o0, ?_⟩⟩, fun y => ?_⟩
  · rw [if_pos y] at h1
    rw [if_pos y, if_pos z]; exact h1
  · rw [if_pos y] at h0
    rw [if_pos y, if_neg z]; exact h0
  · rw [if_neg y]; exact h
theorem MR_set {j i : Nat} {v : Int32} {z : Int} (h : MR tp n V S) (hi : S.1 = 0 → i = j ∧ v = iz z) : MR tp n (sA V 576 i v) (a_st j z S) := by
  unfold a_st
  have t : tkM tp n S.2.1 (sA V 576 i v) := tkM_fr fr_1A (fun c hc hw => by omega) h.1
  by_cases y : S.1 = 0
  · rw [if_pos y]
    obtain ⟨rfl, rfl⟩ := hi y
    refine ⟨t, by rw [gA_F, h.2.1, y], by show 0 < 10; omega, fun w => absurd rfl w, fun _ x hx => ?_⟩
    show (if 576 = 576 ∧ x = i then iz z else V.2.2.1 576 x) = iz (if x = i then z else S.2.2 x)
    by_cases e : x = i
    · rw [if_pos ⟨rfl, e⟩, if_pos e]
    · rw [if_neg (fun q => e q.2), if_neg e]; exact h.2.2.2.2 y x hx
  · rw [if_neg y]
    exact ⟨t, h.2.1, h.2.2.1, h.2.2.2.1, fun z => absurd z y⟩
theorem MR_num {j : Nat} {p0 lo hi : Int32} {l e : Int} (h : MR tp n V S) (hp : S.1 = 0 → p0 = iz j ∧ j < 204) (hl : S.1 = 0 → lo = iz l ∧ -1000000 ≤ l ∧ l ≤ 1000000) (he : hi = iz e ∧ -1000000 ≤ e ∧ e ≤ 1000000) : ok_m_number V p0 lo hi ∧ MR tp n (x_m_number V p0 lo hi) (a_nm tp n j l e S) := by
  refine so_m_number (Q := fun U => MR tp n U (a_nm tp n j l e S)) _ _ _ ?_
  have t4 := tso_4 (tp := tp) (n := n) (q := S.2.1)
  obtain ⟨tk, h16, h10, h17, hB⟩ := id h
  obtain ⟨hU, hq, u14, u12, u15, u13⟩ := id tk
  have hn := hU.1
  have tb := t_be (tp := tp) hn hq
  unfold wp_m_number
  rw [MR_00 h]
  refine ⟨fun y => ?_, fun y => by unfold a_nm; rw [if_neg y]; exact h⟩
  obtain ⟨rfl, hj⟩ := hp y
  obtain ⟨rfl, hl⟩ := hl y
  obtain ⟨rfl, he⟩ := he
  obtain ⟨o1, h1⟩ := MR_m1 h
  obtain ⟨o0, h0⟩ := MR_m0 h
  have hb : MR tp n (x_m_bad V 2) (a_fl 2 S) := MR_bad (k := 2) h (by omega)
  obtain ⟨o2, h2⟩ := MR_m1 hb
  unfold a_nx at h1 h2
  unfold a_fl at h0 hb h2
  rw [if_pos y] at h1 h0 hb h2
  rw [if_neg (by show ¬ 2 = 0; omega)] at h2
  refine wr_m_number_17 _ _ _ (fun v4 v5 T => T = V ∧ ∃ k : Nat, tpl tp n S.2.1 + k ≤ tbe tp n S.2.1 ∧ v5 = iz ((tpl tp n S.2.1 + k : Nat) : Int) ∧ v4 = iz (tvl tp (tpl tp n S.2.1) k)) (fun _ v5 _ => (601 - v5.toInt).toNat) ?_ _ _ _ _ (by show (601 - (V.1 571 14).toInt).toNat < 1000; rw [u14, iz_t (by omega)]; omega) ⟨rfl, 0, by omega, by rw [u14]; rfl, rfl⟩
  rintro _ _ T ⟨rfl, k, k1, rfl, rfl⟩
  unfold bd_m_number_17
  rw [u15, u13, iz_le (by omega), (tcd_2 t4).2.1]
  have e3 : (iz (tcd (tso tp n S.2.1)) = 3 ↔ tso tp n S.2.1 = 2) := (tcd_2 t4).2.1
  have hbt : (x_m_bad T 2).1 571 13 = iz (tcd (tso tp n S.2.1)) := hb.1.2.2.2.2.2
  have n2 : ¬ tso tp n S.2.1 = 2 → ∀ v4 : Int32, jn (fun (KJ1 : St → Prop) => (((T.1 571 13 = 3) → ((((x_m_in T ((v4 : Int32).toInt64) ((iz l : Int32).toInt64) ((iz e : Int32).toInt64)) = 0) → KJ1 (x_m_bad T 2)) ∧ (¬ ((x_m_in T ((v4 : Int32).toInt64) ((iz l : Int32).toInt64) ((iz e : Int32).toInt64)) = 0) → KJ1 T))) ∧ (¬ (T.1 571 13 = 3) → KJ1 T))) (fun (T301 : St) => jn (fun (KJ2 : Int32 → Prop) => ((((T301.1 571 13) = 3) → KJ2 1) ∧ (¬ ((T301.1 571 13) = 3) → KJ2 0))) (fun (j2_s1 : Int32) => (ok_m_must T301 j2_s1) ∧ (((((x_m_must T301 j2_s1).1 571 16) = 0) → (vp_in (iz j) 204) ∧ MR tp n (sA (x_m_must T301 j2_s1) 576 (iz j : Int32).toNatClampNeg v4) (a_nm tp n j l e S)) ∧ (¬ (((x_m_must T301 j2_s1).1 571 16) = 0) → MR tp n (x_m_must T301 j2_s1) (a_nm tp n j l e S))))) := by
    intro z v4
    refine ⟨fun w => absurd (e3.1 (by rw [← u13]; exact w)) z, fun _ => ?_⟩
    refine jnk ?_
    rw [u13, if_neg (fun w => z (e3.1 w))]
    refine ⟨o0, ?_⟩
    rw [MR_0 h0]
    refine ⟨fun w => absurd (show (1 : Nat) = 0 from w) (by decide), fun _ => ?_⟩
    unfold a_nm; rw [if_pos y, if_neg z]; exact h0
  refine ⟨fun g => ?_, fun g => ⟨fun z => ⟨in_nat (by omega) (by omega), jo ⟨⟨rfl, k + 1, by omega, by rw [z_1, iz_add]; rfl, ?_⟩, ?_⟩⟩, fun z => n2 z _⟩⟩
  · by_cases z : tso tp n S.2.1 = 2
    · have vb := va_b hn hq z
      have ek : k = tbe tp n S.2.1 - tpl tp n S.2.1 := by omega
      have ev : tvl tp (tpl tp n S.2.1) k = tva tp n S.2.1 := by rw [ek]; rfl
      rw [ev]
      dsimp only
      rw [u13, e3, lz_w (by omega), lz_w (by omega), lz_w (by omega), m_in (by omega)]
      refine ⟨fun _ => ⟨fun w => ?_, fun w => ?_⟩, fun w => absurd z w⟩
      · refine jnk ?_
        rw [hbt, if_pos (e3.2 z)]
        refine ⟨o2, ?_⟩
        rw [MR_0 h2]
        refine ⟨fun u => absurd (show (2 : Nat) = 0 from u) (by decide), fun _ => ?_⟩
        unfold a_nm; rw [if_pos y, if_pos z, if_neg w]; exact h2
      · refine jnk ?_
        rw [u13, if_pos (e3.2 z)]
        refine ⟨o1, ?_⟩
        rw [MR_0 h1]
        refine ⟨fun _ => ⟨in_nat (by omega) (by omega), ?_⟩, fun u => absurd rfl u⟩
        have := MR_set (j := j) (i := (iz j : Int32).toNatClampNeg) (v := iz (tva tp n S.2.1)) (z := tva tp n S.2.1) h1 (fun _ => ⟨ix_nat (by omega), rfl⟩)
        unfold a_st at this
        unfold a_nm
        rw [if_pos rfl] at this
        rw [if_pos y, if_pos z, if_pos (Classical.byContradiction w)]
        exact this
    · exact n2 z _
  · obtain ⟨b1, b2⟩ := hU.2.2 (tpl tp n S.2.1 + k) (by omega)
    rw [ix_nat (by omega), b2, z_10, iz_mul, iz_add, z_48, iz_sub]
    rfl
  · try dsimp only
    rw [z_1, iz_add, iz_t (by omega), iz_t (by omega)]; omega
end PRN
