/-! ===== a way chosen ===== -/
section CHO
variable {T U : St} {a b d c k : Nat} {B : Nat → Int} {t e x : Int}
theorem b_choose {p1 p2 : Int32} {Kk : Int32 → Int32 → St → Prop} {Q : St → Prop} {N : Int32 → Int32 → St → Prop} (hb : sh b = .inr 1) (ha : sh a = .inr 10) (hab : b + 14 < a) (hP : BkP U b B) (hW : WF B) (hd : (d : Int) < B 16) (hc : c < chn B d) (hk : k < nO B d) (h5 : U.1 a 5 = iz x)
    (hN : ∀ U' : St, U'.1 a 5 = iz (x + (if kd B (nF B d + k) = 5 then on B (nF B d + k) * lg B (nF B d + k) else 0)) → (∀ y z, ¬ (y = a ∧ z = 5) → U'.1 y z = U.1 y z) → U'.2.1 = U.2.1 → U'.2.2.2 = U.2.2.2 → U'.2.2.1 (a + 1) k = iz (e - wv B d c k - lg B (nF B d + k)) → U'.2.2.1 (a + 2) k = iz (lg B (nF B d + k)) → (∀ y z, ¬ (y = a + 1 ∧ z = k) → ¬ (y = a + 2 ∧ z = k) → U'.2.2.1 y z = U.2.2.1 y z) → N (iz (e - wv B d c k - lg B (nF B d + k))) (iz ((k : Int) - 1)) U') :
    bd_wa_choose_41 a b p1 p2 (iz (cW1 B d c)) (iz (cW2 B d c)) (iz (bFst B d)) Kk Q N (iz e) (iz k) U := by
  have h8 := hW.2.2.1
  have k17 := wf_17 hW
  have n1 := wf_n hW hd
  have f1 := wf_f hW hd
  have fk := wf_fk hW hd hk
  have h5' := ch_e hW hd hc
  obtain ⟨q9, q10, _, _, q13, _⟩ := hP.2.2 (nF B d + k) fk.1
  have e1 : iz (bFst B d) + iz (k : Int) = iz ((nF B d + k : Nat) : Int) := by rw [iz_add]; exact iz_inj (by omega)
  obtain ⟨kb, lb', _⟩ := wf_s hW hd hk
  have W : ∀ K0 : Int32 → Prop, K0 (iz (wv B d c k)) → jn (fun K => ((iz (k : Int) = 0) → K (iz (cW1 B d c))) ∧ (¬ (iz (k : Int) = 0) → ((iz (k : Int) = 1 → K (iz (cW2 B d c))) ∧ (¬ iz (k : Int) = 1 → K 0)))) K0 := by
    intro K0 h
    unfold jn
    rw [eq0 (by omega), z_1, iz_eq (by omega)]
    refine ⟨fun q => ?_, fun q => ⟨fun q2 => ?_, fun q2 => ?_⟩⟩
    · have : wv B d c k = cW1 B d c := by
        unfold wv
        by_cases z : k + 1 = nO B d
        · rw [if_pos z]
          have := wts_1 hW hd (by omega)
          omega
        · rw [if_neg z, if_pos (by omega)]
      rw [this] at h; exact h
    · have : wv B d c k = cW2 B d c := by
        unfold wv
        by_cases z : k + 1 = nO B d
        · rw [if_pos z]
          have := wts_2 hW hd (by omega)
          omega
        · rw [if_neg z, if_neg (by omega)]
      rw [this] at h; exact h
    · have : wv B d c k = 0 := by unfold wv; rw [if_pos (by omega)]
      rw [this] at h; exact h
  unfold bd_wa_choose_41
  refine ⟨fun q => absurd q (by rw [lt0 (by omega)]; omega), fun _ => ⟨ha, hb, ?_, in_nat (by omega) (by omega), jo ?_⟩⟩
  · rw [e1]; exact in_nat (by omega) (by omega)
  rw [e1, ix_nat (by omega), ix_nat (by omega), q10]
  refine W _ ?_
  try dsimp only
  have r1 : (sA U (a + 2) k (iz (lg B (nF B d + k)))).2.2.1 (a + 2) k = iz (lg B (nF B d + k)) := by rw [gA_A, if_pos ⟨rfl, rfl⟩]
  rw [r1, iz_add, iz_sub, show e - (lg B (nF B d + k) + wv B d c k) = e - wv B d c k - lg B (nF B d + k) by omega]
  generalize hv : e - wv B d c k - lg B (nF B d + k) = v at *
  refine jo ?_
  try dsimp only
  have n1' : iz (k : Int) + -1 = iz ((k : Int) - 1) := by rw [show (-1 : Int32) = iz (-1) from rfl, iz_add]; exact iz_inj (by omega)
  have R9 : (sA (sA U (a + 2) k (iz (lg B (nF B d + k)))) (a + 1) k (iz v)).2.2.1 (b + 9) (nF B d + k) = iz (kd B (nF B d + k) - 1) := by rw [gA_A, if_neg (by omega), gA_A, if_neg (by omega)]; exact q9
  have R13 : (sA (sA U (a + 2) k (iz (lg B (nF B d + k)))) (a + 1) k (iz v)).2.2.1 (b + 13) (nF B d + k) = iz (on B (nF B d + k)) := by rw [gA_A, if_neg (by omega), gA_A, if_neg (by omega)]; exact q13
  have R2 : (sA (sA U (a + 2) k (iz (lg B (nF B d + k)))) (a + 1) k (iz v)).2.2.1 (a + 2) k = iz (lg B (nF B d + k)) := by rw [gA_A, if_neg (by omega)]; exact r1
  have R1 : (sA (sA U (a + 2) k (iz (lg B (nF B d + k)))) (a + 1) k (iz v)).2.2.1 (a + 1) k = iz v := by rw [gA_A, if_pos ⟨rfl, rfl⟩]
  have RF : (sA (sA U (a + 2) k (iz (lg B (nF B d + k)))) (a + 1) k (iz v)).1 = U.1 := rfl
  have RO : ∀ y z, ¬ (y = a + 1 ∧ z = k) → ¬ (y = a + 2 ∧ z = k) → (sA (sA U (a + 2) k (iz (lg B (nF B d + k)))) (a + 1) k (iz v)).2.2.1 y z = U.2.2.1 y z := fun y z h1 h2 => by rw [gA_A, if_neg h1, gA_A, if_neg h2]
  rw [R9, R13, R2, RF, h5, n1', show iz (kd B (nF B d + k) - 1) = 4 ↔ kd B (nF B d + k) = 5 by rw [z_4, iz_eq (by omega)]; omega, iz_mul, iz_add]
  refine ⟨fun q => ?_, fun q => ?_⟩
  · refine hN _ ?_ (fun y z h => ?_) rfl rfl R1 R2 RO
    · rw [gF_F, if_pos ⟨rfl, rfl⟩, if_pos q]
    · rw [gF_F, if_neg h]; rfl
  · refine hN _ ?_ (fun y z h => rfl) rfl rfl R1 R2 RO
    rw [if_neg q, RF, h5]; exact iz_inj (by omega)
def canA (B : Nat → Int) (t : Int) (d c : Nat) : Prop := 0 ≤ bg B t d c 0 ∧ wrm B d (bg B t d c) ∧ agd B d d (bg B t d c) (lgs B d) (bg B t d c) (lgs B d)
def u1P (B : Nat → Int) (t : Int) (d c : Nat) (w m : Nat) : Prop := ud B w d (bg B t d c) (lgs B d) m = 1
def ChQ (T : St) (a : Nat) (B : Nat → Int) (t : Int) (d c : Nat) (U : St) : Prop :=
  U.1 a 3 = iz d ∧ U.1 a 5 = iz (cW1 B d c + cW2 B d c + lsr B d (nO B d)) ∧ (∀ k, k < nO B d → U.2.2.1 (a + 1) k = iz (bg B t d c k)) ∧ ((U.1 a 6 = 1 ∧ canA B t d c ∧ BiX U (a + 3) (u1P B t d c)) ∨ (U.1 a 6 = 0 ∧ ¬ canA B t d c)) ∧
  (∀ y z, y ≠ a → U.1 y z = T.1 y z) ∧ U.2.1 = T.2.1 ∧ (∀ y z, y ≠ a + 1 → y ≠ a + 2 → U.2.2.1 y z = T.2.2.1 y z) ∧ ∀ y z, y ≠ a + 3 → U.2.2.2 y z = T.2.2.2 y z
theorem s_choose (hb : sh b = .inr 1) (ha : sh a = .inr 10) (hab : b + 14 < a) (hP : BkP T b B) (hW : WF B) (hd : (d : Int) < B 16) (hc : c < chn B d) (ht : 1 ≤ t ∧ t ≤ 60) : ok_wa_choose T a b (iz d) (iz (t - cE B d c)) (iz (cW1 B d c)) (iz (cW2 B d c)) ∧ ChQ T a B t d c (x_wa_choose T a b (iz d) (iz (t - cE B d c)) (iz (cW1 B d c)) (iz (cW2 B d c))) := by
  have h8 := hW.2.2.1
  have n1 := wf_n hW hd
  have f1 := wf_f hW hd
  obtain ⟨_, _, _, p7, p8⟩ := hP.2.1.2 d hd
  refine so_wa_choose (Q := ChQ T a B t d c) _ _ _ _ _ _ ?_
  unfold wp_wa_choose jn
  try dsimp only
  have g1 : (sF T a 3 (iz (d : Int))).1 a 3 = iz d := by rw [gF_F, if_pos ⟨rfl, rfl⟩]
  have g2 : (sF (sF T a 3 (iz (d : Int))) a 5 (iz (cW1 B d c) + iz (cW2 B d c))).1 a 3 = iz d := by rw [gF_F, if_neg (by omega)]; exact g1
  have g3 : (sF (sF T a 3 (iz (d : Int))) a 5 (iz (cW1 B d c) + iz (cW2 B d c))).1 a 5 = iz (cW1 B d c + cW2 B d c) := by rw [gF_F, if_pos ⟨rfl, rfl⟩, iz_add]
  have g4 : ∀ y z, y ≠ a → (sF (sF T a 3 (iz (d : Int))) a 5 (iz (cW1 B d c) + iz (cW2 B d c))).1 y z = T.1 y z := fun y z h => by rw [gF_F, if_neg (fun w => h w.1), gF_F, if_neg (fun w => h w.1)]
  have g5 : (sF (sF T a 3 (iz (d : Int))) a 5 (iz (cW1 B d c) + iz (cW2 B d c))).2 = T.2 := rfl
  rw [g1, g2, ix_nat (by omega), show (sF T a 3 (iz (d : Int))).2.2.1 = T.2.2.1 from rfl, g5, p7, p8]
  generalize sF (sF T a 3 (iz (d : Int))) a 5 (iz (cW1 B d c) + iz (cW2 B d c)) = G at *
  refine ⟨ha, hb, in_nat (by omega) (by omega), in_nat (by omega) (by omega), ?_⟩
  rw [z_1, iz_sub, ← z_1]
  refine wr_wa_choose_41 _ _ _ _ _ _ _ (fun v7 v8 V => ∃ j : Nat, j ≤ nO B d ∧ v8 = iz ((nO B d : Int) - 1 - j) ∧ v7 = iz (bg B t d c (nO B d - j)) ∧ V.1 a 3 = iz d ∧ V.1 a 5 = iz (cW1 B d c + cW2 B d c + lsr B d j) ∧ (∀ y z, y ≠ a → V.1 y z = T.1 y z) ∧ V.2.1 = T.2.1 ∧ V.2.2.2 = T.2.2.2 ∧ (∀ y z, y ≠ a + 1 → y ≠ a + 2 → V.2.2.1 y z = T.2.2.1 y z) ∧ ∀ k, nO B d - j ≤ k → k < nO B d → V.2.2.1 (a + 1) k = iz (bg B t d c k) ∧ V.2.2.1 (a + 2) k = iz (lgs B d k)) (fun v7 v8 V => (v8.toInt + 1).toNat) ?_ _ _ _ _ ?_ ?_
  · rintro _ _ V ⟨j, j1, rfl, rfl, v3, v5, v6, v7, v8, v9, v10⟩
    have hPV : BkP V b B := BkP_fr hP (v6 _ _ (by omega)) (fun y z h1 h2 => v9 y z (by omega) (by omega))
    by_cases q : j < nO B d
    · obtain ⟨k, hk⟩ : ∃ k, k = nO B d - 1 - j := ⟨_, rfl⟩
      have ek : (nO B d : Int) - 1 - j = (k : Int) := by omega
      have ek2 : nO B d - j = k + 1 := by omega
      have ek3 : nO B d - (j + 1) = k := by omega
      have hs := bg_s (B := B) (t := t) (c := c) (d := d) (k := k) (by omega)
      rw [ek, ek2]
      rw [ek2] at v10
      refine b_choose hb ha hab hPV hW hd hc (by omega) v5 (fun U' w1 w2 w3 w4 w5 w6 w7 => ?_)
      rw [← hs] at w5 ⊢
      refine ⟨⟨j + 1, by omega, iz_inj (by omega), by rw [ek3], ?_, ?_, fun y z h => ?_, w3.trans v7, w4.trans v8, fun y z h1 h2 => ?_, fun k' h1 h2 => ?_⟩, ?_⟩
      · rw [w2 _ _ (by omega)]; exact v3
      · rw [w1, hk]; exact iz_inj (by show _ = cW1 B d c + cW2 B d c + (lsr B d j + _); omega)
      · rw [w2 _ _ (by omega)]; exact v6 y z h
      · rw [w7 _ _ (by omega) (by omega)]; exact v9 y z h1 h2
      · by_cases e : k' = k
        · subst e; exact ⟨w5, w6⟩
        · rw [w7 _ _ (by omega) (by omega), w7 _ _ (by omega) (by omega)]; exact v10 k' (by omega) h2
      · have := bg_r hW hd hc ht (k := k) (by omega)
        rw [iz_t (by omega), iz_t (by omega)]; omega
    · have ej : j = nO B d := by omega
      subst ej
      rw [Nat.sub_self] at v10 ⊢
      unfold bd_wa_choose_41
      refine ⟨fun _ => ?_, fun z => absurd z (by rw [lt0 (by omega)]; omega)⟩
      have bb := fun k (hk : k ≤ nO B d) => bg_r hW hd hc ht (k := k) hk
      have b0 := bb 0 (by omega)
      have yb : WyB V a d B (bg B t d c) := ⟨v3, fun k hk => (v10 k (by omega) hk).1⟩
      have fin0 : ¬ canA B t d c → (((((sF V a 6 0).1 a 6) = 0) → ChQ T a B t d c (sF V a 6 0)) ∧ (¬ (((sF V a 6 0).1 a 6) = 0) → (ok_wa_lay (sF V a 6 0) a b) ∧ ChQ T a B t d c (x_wa_lay (sF V a 6 0) a b))) := by
        intro nc
        have e0 : (sF V a 6 0).1 a 6 = 0 := by rw [gF_F, if_pos ⟨rfl, rfl⟩]
        refine ⟨fun _ => ⟨?_, ?_, fun k hk => (v10 k (by omega) hk).1, Or.inr ⟨e0, nc⟩, fun y z h => ?_, v7, v9, fun y z h => by rw [show (sF V a 6 0).2.2.2 = V.2.2.2 from rfl, v8]⟩, fun z => absurd e0 z⟩
        · rw [gF_F, if_neg (by omega)]; exact v3
        · rw [gF_F, if_neg (by omega)]; exact v5
        · rw [gF_F, if_neg (fun w => h w.1)]; exact v6 y z h
      refine ⟨fun z => fin0 ?_, fun z => ?_⟩
      · rw [lt0 (by omega)] at z
        intro q; have := q.1; omega
      · rw [lt0 (by omega)] at z
        have in0 : 0 ≤ bg B t d c 0 := by omega
        have hin := fun k (hk : k < nO B d) => bg_in hW hd hc ht in0 hk
        obtain ⟨ok1, w1⟩ := s_warmed hb ha hPV hW hd yb (fun k hk => by have := hin k hk; omega)
        obtain ⟨ok2, w2⟩ := s_agrees hb ha ha hPV hW hd hd yb yb (fun k hk => by have := bb k (by omega); omega) (fun k hk => by have := bb k (by omega); omega)
        refine ⟨ok1, fun z1 => fin0 (fun q => (w1.1 z1) q.2.1), fun z1 => ⟨ok2, fun z2 => fin0 (fun q => (w2.1 z2) q.2.2), fun z2 => ?_⟩⟩
        have cn : canA B t d c := ⟨in0, Classical.byContradiction fun y => z1 (w1.2 y), Classical.byContradiction fun y => z2 (w2.2 y)⟩
        have e1 : (sF V a 6 1).1 a 6 = 1 := by rw [gF_F, if_pos ⟨rfl, rfl⟩]
        refine ⟨fun y => absurd (e1.symm.trans y) (by decide), fun _ => ?_⟩
        have hPV2 : BkP (sF V a 6 1) b B := BkP_fr hPV (by rw [gF_F, if_neg (by omega)]) (fun _ _ _ _ => rfl)
        have yb2 : WyB (sF V a 6 1) a d B (bg B t d c) := ⟨by rw [gF_F, if_neg (by omega)]; exact v3, fun k hk => (v10 k (by omega) hk).1⟩
        obtain ⟨ok3, ⟨l1, l2, l3⟩, l4, l5⟩ := s_wlay (ll := lgs B d) hb ha hPV2 hW hd yb2 (fun k hk => (v10 k (by omega) hk).2) (sq_bg hW hd hc ht in0)
        refine ⟨ok3, ?_, ?_, fun k hk => ?_, Or.inl ⟨?_, cn, l5⟩, fun y z h => ?_, l2.trans v7, fun y z h1 h2 => ?_, fun y z h => ?_⟩
        · rw [l1]; exact yb2.1
        · rw [l1, gF_F, if_neg (by omega)]; exact v5
        · rw [l3]; exact yb2.2 k hk
        · rw [l1]; exact e1
        · rw [l1, gF_F, if_neg (fun w => h w.1)]; exact v6 y z h
        · rw [l3]; exact v9 y z h1 h2
        · rw [l4 y z h]; show V.2.2.2 y z = _; rw [v8]
  · rw [iz_t (by omega)]; omega
  · refine ⟨0, by omega, iz_inj (by omega), ?_, g2, ?_, g4, by rw [show G.2.1 = T.2.1 from congrArg Prod.fst g5], by rw [show G.2.2.2 = T.2.2.2 from congrArg (fun p => p.2.2) g5], fun y z _ _ => by rw [show G.2.2.1 = T.2.2.1 from congrArg (fun p => p.2.1) g5], fun k h1 h2 => by omega⟩
    · rw [Nat.sub_zero, bg_n]
    · rw [g3]; exact iz_inj (by show _ = cW1 B d c + cW2 B d c + 0; omega)
end CHO
