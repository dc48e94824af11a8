/-! ===== a step more, a pan more ===== -/
section AD
variable {T U : St} {B : Nat → Int} {s l β k : Nat} {la : Int} {f : Nat → Nat → Int}
theorem b_addStep {Kk : Int32 → St → Prop} {Q : St → Prop} {N : Int32 → St → Prop} (hM : MkX U B) (hS : WFs B s) (hs : s < 24) (hl : l ≤ 4) (hk : (k : Int) < la) (hb : (β : Int) + la ≤ 60)
    (g0 : U.2.2.1 579 (60 * l + (β + k)) = iz (f 0 (β + k))) (g1 : U.2.2.1 578 (60 * l + (β + k)) = iz (f 1 (β + k))) (g2 : U.2.2.1 580 (60 * l + (β + k)) = iz (f 2 (β + k))) (g3 : U.2.2.1 581 (60 * l + (β + k)) = iz (f 3 (β + k))) (g5 : U.2.2.1 583 (60 * l + (β + k)) = iz (f 5 (β + k))) (g6 : U.2.2.1 584 (60 * l + (β + k)) = iz (f 6 (β + k)))
    (r5 : 0 ≤ f 5 (β + k) ∧ f 5 (β + k) ≤ 9 ∧ 0 ≤ f 6 (β + k) ∧ f 6 (β + k) ≤ 9)
    (hN : ∀ U' : St, (∀ c j, j ≠ 60 * l + (β + k) → U'.2.2.1 c j = U.2.2.1 c j) → (∀ c j, c < 578 ∨ 585 ≤ c → U'.2.2.1 c j = U.2.2.1 c j) →
      U'.2.2.1 579 (60 * l + (β + k)) = iz (f 0 (β + k) + (if kd B s = 1 then 1 else 0)) → U'.2.2.1 578 (60 * l + (β + k)) = iz (f 1 (β + k) + (if kd B s = 1 ∧ on B s = 1 then 1 else 0)) → U'.2.2.1 580 (60 * l + (β + k)) = iz (f 2 (β + k) + (if kd B s = 2 then 1 else 0)) →
      U'.2.2.1 581 (60 * l + (β + k)) = iz (f 3 (β + k) + (if sr B s = 2 ∨ (sr B s = 1 ∧ k = 0) then 1 else 0)) → U'.2.2.1 582 (60 * l + (β + k)) = U.2.2.1 582 (60 * l + (β + k)) → U'.2.2.1 583 (60 * l + (β + k)) = iz (if kd B s = 2 then max (f 5 (β + k)) (on B s) else f 5 (β + k)) → U'.2.2.1 584 (60 * l + (β + k)) = iz (if kd B s = 2 then min (f 6 (β + k)) (tw B s) else f 6 (β + k)) → N (iz ((k + 1 : Nat) : Int)) U') :
    bd_m_addStep_11 (iz l) (iz s) (iz β) (iz la) (iz (kd B s)) Kk Q N (iz k) U := by
  have ei : (60 * (l : Int) + (β : Int) + (k : Int)).toNat = 60 * l + (β + k) := by omega
  have e3 := ms3 hM (z := (s : Int)) (by omega)
  have e4 := ms4 hM (z := (s : Int)) (by omega)
  have e5 := ms5 hM (z := (s : Int)) (by omega)
  rw [Int.toNat_natCast] at e3 e4 e5
  obtain ⟨k1, k2, k3, k4, k5, k6, k7, k8, k9⟩ := hS
  have hsr : sr B s = 0 ∨ sr B s = 1 ∨ sr B s = 2 := by omega
  have hkd : kd B s = 1 ∨ kd B s = 2 ∨ kd B s = 3 ∨ kd B s = 4 ∨ kd B s = 5 := by omega
  have o3 : ∀ V : St, ok_m_stepOf V (iz s) 3 := fun V => oks3 (by omega)
  have o4 : ∀ V : St, ok_m_stepOf V (iz s) 4 := fun V => oks4 (by omega)
  have o5 : ∀ V : St, ok_m_stepOf V (iz s) 5 := fun V => oks5 (by omega)
  have nk : iz ((k : Int) + 1) = iz ((k + 1 : Nat) : Int) := rfl
  unfold bd_m_addStep_11
  refine ⟨fun c => absurd c (by rw [iz_le (by omega)]; omega), fun c => ?_⟩
  rcases hkd with e | e | e | e | e
  · have hon : on B s = 0 ∨ on B s = 1 := by have := k5 e; omega
    rcases hon with eo | eo <;> rcases hsr with er | er | er <;> simp (disch := omega) [jn, e, eo, er, e3, e4, e5, o3, o4, o5, st_sA, gA_A, g0, g1, g2, g3, g5, g6, ei, nk, le0, lt0, ge0, gt0, eq0, sub0, add0, iz_le, iz_lt, iz_eq, iz_in, iz_n, iz_add, iz_sub, iz_mul, iz_neg, lz_w, lg_le0, lg_gt0, m_in, iz_t, Int.toNat_natCast, Int.reduceToNat, z_1, z_2, z_60] <;> repeat' (first | apply And.intro | intro _)
    all_goals first | omega | (refine hN _ (fun c j hj => ?_) (fun c j hc => ?_) ?_ ?_ ?_ ?_ ?_ ?_ ?_ <;> first | (simp [gA_A, hj]; done) | (simp only [gA_A]; (repeat rw [if_neg (by omega)]); done) | (first | (simp [gA_A, e, eo, er, g0, g1, g2, g3, g5, g6]; done) | (simp [gA_A, e, eo, er, g0, g1, g2, g3, g5, g6]; exact iz_inj (by first | omega | (split <;> omega)))))
  · have hk6 := k6 e
    rcases hsr with er | er | er <;> simp (disch := omega) [jn, e, er, e3, e4, e5, o3, o4, o5, st_sA, gA_A, g0, g1, g2, g3, g5, g6, ei, nk, le0, lt0, ge0, gt0, eq0, sub0, add0, iz_le, iz_lt, iz_eq, iz_in, iz_n, iz_add, iz_sub, iz_mul, iz_neg, lz_w, lg_le0, lg_gt0, m_in, iz_t, Int.toNat_natCast, Int.reduceToNat, z_1, z_2, z_60] <;> repeat' (first | apply And.intro | intro _)
    all_goals first | omega | (refine hN _ (fun c j hj => ?_) (fun c j hc => ?_) ?_ ?_ ?_ ?_ ?_ ?_ ?_ <;> first | (simp [gA_A, hj]; done) | (simp only [gA_A]; (repeat rw [if_neg (by omega)]); done) | (first | (simp [gA_A, e, er, g0, g1, g2, g3, g5, g6]; done) | (simp [gA_A, e, er, g0, g1, g2, g3, g5, g6]; exact iz_inj (by first | omega | (split <;> omega)))))
  · have er := (k7 e).1
    simp (disch := omega) [jn, e, er, e3, e4, e5, o3, o4, o5, st_sA, gA_A, g0, g1, g2, g3, g5, g6, ei, nk, le0, lt0, ge0, gt0, eq0, sub0, add0, iz_le, iz_lt, iz_eq, iz_in, iz_n, iz_add, iz_sub, iz_mul, iz_neg, lz_w, lg_le0, lg_gt0, m_in, iz_t, Int.toNat_natCast, Int.reduceToNat, z_1, z_2, z_60] <;> repeat' (first | apply And.intro | intro _)
    all_goals first | omega | (refine hN _ (fun c j hj => ?_) (fun c j hc => ?_) ?_ ?_ ?_ ?_ ?_ ?_ ?_ <;> first | (simp [gA_A, hj]; done) | (simp only [gA_A]; (repeat rw [if_neg (by omega)]); done) | (first | (simp [gA_A, e, er, g0, g1, g2, g3, g5, g6]; done) | (simp [gA_A, e, er, g0, g1, g2, g3, g5, g6]; exact iz_inj (by first | omega | (split <;> omega)))))
  · have er := (k8 e).1
    simp (disch := omega) [jn, e, er, e3, e4, e5, o3, o4, o5, st_sA, gA_A, g0, g1, g2, g3, g5, g6, ei, nk, le0, lt0, ge0, gt0, eq0, sub0, add0, iz_le, iz_lt, iz_eq, iz_in, iz_n, iz_add, iz_sub, iz_mul, iz_neg, lz_w, lg_le0, lg_gt0, m_in, iz_t, Int.toNat_natCast, Int.reduceToNat, z_1, z_2, z_60] <;> repeat' (first | apply And.intro | intro _)
    all_goals first | omega | (refine hN _ (fun c j hj => ?_) (fun c j hc => ?_) ?_ ?_ ?_ ?_ ?_ ?_ ?_ <;> first | (simp [gA_A, hj]; done) | (simp only [gA_A]; (repeat rw [if_neg (by omega)]); done) | (first | (simp [gA_A, e, er, g0, g1, g2, g3, g5, g6]; done) | (simp [gA_A, e, er, g0, g1, g2, g3, g5, g6]; exact iz_inj (by first | omega | (split <;> omega)))))
  · have er := (k9 e).1
    simp (disch := omega) [jn, e, er, e3, e4, e5, o3, o4, o5, st_sA, gA_A, g0, g1, g2, g3, g5, g6, ei, nk, le0, lt0, ge0, gt0, eq0, sub0, add0, iz_le, iz_lt, iz_eq, iz_in, iz_n, iz_add, iz_sub, iz_mul, iz_neg, lz_w, lg_le0, lg_gt0, m_in, iz_t, Int.toNat_natCast, Int.reduceToNat, z_1, z_2, z_60] <;> repeat' (first | apply And.intro | intro _)
    all_goals first | omega | (refine hN _ (fun c j hj => ?_) (fun c j hc => ?_) ?_ ?_ ?_ ?_ ?_ ?_ ?_ <;> first | (simp [gA_A, hj]; done) | (simp only [gA_A]; (repeat rw [if_neg (by omega)]); done) | (first | (simp [gA_A, e, er, g0, g1, g2, g3, g5, g6]; done) | (simp [gA_A, e, er, g0, g1, g2, g3, g5, g6]; exact iz_inj (by first | omega | (split <;> omega)))))
end AD
