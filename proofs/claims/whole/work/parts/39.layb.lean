/-! ===== a choice laid out, by the reference ===== -/
def gk (μ : Int) (F : Nat → Int) (b : Nat → Int) (k : Nat) : Prop := if 0 < μ ∧ F k < μ then b k = F k else μ ≤ b k
def wsr (B : Nat → Int) (d c : Nat) : Nat → Int
  | 0 => 0
  | j + 1 => wsr B d c j + wv B d c (nO B d - 1 - j)
theorem wsr_n {B : Nat → Int} {d c : Nat} (h : WF B) (hd : (d : Int) < B 16) (hc : c < chn B d) : wsr B d c (nO B d) = cW1 B d c + cW2 B d c := by
  have h1 := ch_e h hd hc
  have h4 := wf_n h hd
  rcases (show nO B d = 1 ∨ nO B d = 2 ∨ nO B d = 3 by omega) with e | e | e
  · have a1 := wts_1 h hd (by omega)
    have a2 := wts_2 h hd (by omega)
    have : wv B d c 0 = 0 := if_pos (by omega)
    rw [e]
    show 0 + wv B d c (nO B d - 1 - 0) = _
    rw [e]
    show 0 + wv B d c 0 = _
    omega
  · have a2 := wts_2 h hd (by omega)
    have b1 : wv B d c 1 = 0 := if_pos (by omega)
    have b0 : wv B d c 0 = cW1 B d c := by unfold wv; rw [if_neg (by omega), if_pos rfl]
    rw [e]
    show 0 + wv B d c (nO B d - 1 - 0) + wv B d c (nO B d - 1 - 1) = _
    rw [e]
    show 0 + wv B d c 1 + wv B d c 0 = _
    omega
  · have b2 : wv B d c 2 = 0 := if_pos (by omega)
    have b1 : wv B d c 1 = cW2 B d c := by unfold wv; rw [if_neg (by omega), if_neg (by omega)]
    have b0 : wv B d c 0 = cW1 B d c := by unfold wv; rw [if_neg (by omega), if_pos rfl]
    rw [e]
    show 0 + wv B d c (nO B d - 1 - 0) + wv B d c (nO B d - 1 - 1) + wv B d c (nO B d - 1 - 2) = _
    rw [e]
    show 0 + wv B d c 2 + wv B d c 1 + wv B d c 0 = _
    omega
theorem jo {α : Type} {f : α → Prop} {x : α} (h : f x) : jn f x := h
section LB
variable {U : St} {B : Nat → Int} {a d c k : Nat} {t μ e w lo : Int} {F : Nat → Int}
theorem b_layB {l5 l6 : Int32} {Kk : Int32 → Int32 → Int32 → Int32 → Int32 → St → Prop} {Q : Int32 × St → Prop} {N : Int32 → Int32 → Int32 → Int32 → Int32 → St → Prop} (hM : MkX U B) (hW : WF B) (hd : (d : Int) < B 16) (hc : c < chn B d) (ha : a < 4) (hk : k < nO B d)
    (hm : U.1 571 32 = iz μ) (hμ : 0 ≤ μ ∧ μ ≤ 60) (hF : U.2.2.1 591 (3 * a + k) = iz (F k)) (hFb : -2147483648 ≤ F k ∧ F k < 2147483648) (he : -200 ≤ e ∧ e ≤ 100) (g : Bool) {b : Nat → Int} (hb : b k = e - wv B d c k - lg B (nF B d + k))
    (hN : ∀ g' : Bool, (g' = true ↔ g = true ∧ gk μ F b k) → N (iz (e - wv B d c k - lg B (nF B d + k))) (iz (w + wv B d c k)) (iz (lo + (if kd B (nF B d + k) = 5 then on B (nF B d + k) * lg B (nF B d + k) else 0))) (if g' then 1 else 0) (iz ((k : Int) - 1)) (sA U 588 (3 * a + k) (iz (e - wv B d c k - lg B (nF B d + k))))) :
    bd_m_layBegins_92 (iz a) (iz t) (iz d) (iz (bOwn B d)) l5 l6 (iz (cW1 B d c)) (iz (cW2 B d c)) Kk Q N (iz e) (iz w) (iz lo) (if g then 1 else 0) (iz k) U := by
  have h8 := hW.2.2.1
  have h1 := wf_n hW hd
  have h2 := wf_f hW hd
  have h3 := wf_fk hW hd hk
  have h4 := wf_s hW hd hk
  have h5 := ch_e hW hd hc
  have h6 := wts_b hW hd 0
  have h7 := wts_b hW hd 1
  have h9 := wv_b hW hd hc hk
  have ei : (3 * (a : Int) + (k : Int)).toNat = 3 * a + k := by omega
  have e4 := md4 hM (z := (d : Int)) (by omega)
  rw [Int.toNat_natCast] at e4
  have es : bFst B d + (k : Int) = ((nF B d + k : Nat) : Int) := by omega
  have s0 := ms0 hM (z := ((nF B d + k : Nat) : Int)) (by omega)
  have s1 := ms1 hM (z := ((nF B d + k : Nat) : Int)) (by omega)
  have s4 := ms4 hM (z := ((nF B d + k : Nat) : Int)) (by omega)
  rw [Int.toNat_natCast] at s0 s1 s4
  have o0 : ∀ V : St, ok_m_stepOf V (iz ((nF B d + k : Nat) : Int)) 0 := fun V => oks0 (by omega)
  have o1 : ∀ V : St, ok_m_stepOf V (iz ((nF B d + k : Nat) : Int)) 1 := fun V => oks1 (by omega)
  have o4 : ∀ V : St, ok_m_stepOf V (iz ((nF B d + k : Nat) : Int)) 4 := fun V => oks4 (by omega)
  have od : ∀ V : St, ok_m_dishOf V (iz d) 4 := fun V => okd4 (by omega)
  have l1 := h4.2.1
  have kb := h4.1
  obtain ⟨vv, hv⟩ : ∃ vv, vv = wv B d c k := ⟨_, rfl⟩
  obtain ⟨ll, hl⟩ : ∃ ll, ll = lg B (nF B d + k) := ⟨_, rfl⟩
  rw [← hv, ← hl] at hb hN
  rw [← hl] at s1 l1
  rw [← hv] at h9
  have W : ∀ K0 : Int32 → Prop, K0 (iz vv) → jn (fun K => ((iz k = iz (bOwn B d) - 1) → K 0) ∧ (¬ (iz k = iz (bOwn B d) - 1) → ((iz k = 0 → K (iz (cW1 B d c))) ∧ (¬ iz k = 0 → K (iz (cW2 B d c)))))) K0 := by
    intro K0 h
    unfold jn
    rw [z_1, iz_sub, iz_eq (by omega), eq0 (by omega)]
    refine ⟨fun q => ?_, fun q => ⟨fun q2 => ?_, fun q2 => ?_⟩⟩
    · have : vv = 0 := by rw [hv]; exact if_pos (by omega)
      rw [this] at h; exact h
    · have : vv = cW1 B d c := by rw [hv]; unfold wv; rw [if_neg (by omega), if_pos (by omega)]
      rw [this] at h; exact h
    · have : vv = cW2 B d c := by rw [hv]; unfold wv; rw [if_neg (by omega), if_neg (by omega)]
      rw [this] at h; exact h
  unfold bd_m_layBegins_92
  refine ⟨fun q => absurd q (by rw [lt0 (by omega)]; omega), fun _ => ⟨od U, ?_⟩⟩
  rw [e4, iz_add, es]
  refine jo (W _ ?_)
  try dsimp only
  rw [s1, iz_sub, iz_sub, z_3, iz_mul, iz_add, iz_n (by omega), ei, st_sA (by omega), st_sA (by omega), st_sA (by omega), s0, s1, s4]
  refine ⟨o1 U, (iz_in (by omega)).2 (by omega), ?_⟩
  have rd : (sA U 588 (3 * a + k) (iz (e - vv - ll))).2.2.1 588 (3 * a + k) = iz (e - vv - ll) := by rw [gA_A, if_pos ⟨rfl, rfl⟩]
  have rf : (sA U 588 (3 * a + k) (iz (e - vv - ll))).2.2.1 591 (3 * a + k) = iz (F k) := by rw [gA_A, if_neg (by omega)]; exact hF
  have rm : (sA U 588 (3 * a + k) (iz (e - vv - ll))).1 571 32 = iz μ := hm
  refine jo ?_
  try dsimp only
  rw [rd, rf, rm]
  refine ⟨o0 _, ?_⟩
  have rest : ∀ x : Int, x = (if kd B (nF B d + k) = 5 then on B (nF B d + k) * ll else 0) →
      (((if g then (1 : Int32) else 0) = 0 → N (iz (e - vv - ll)) (iz w + iz vv) (iz lo + iz x) 0 (iz k + -1) (sA U 588 (3 * a + k) (iz (e - vv - ll)))) ∧ (¬ (if g then (1 : Int32) else 0) = 0 → jn (fun (KJ3 : Prop) => (((iz μ ≤ 0) → KJ3) ∧ (¬ (iz μ ≤ 0) → (((iz μ ≤ iz (F k)) → KJ3) ∧ (¬ (iz μ ≤ iz (F k)) → (((iz (e - vv - ll) = iz (F k)) → N (iz (e - vv - ll)) (iz w + iz vv) (iz lo + iz x) 1 (iz k + -1) (sA U 588 (3 * a + k) (iz (e - vv - ll)))) ∧ (¬ (iz (e - vv - ll) = iz (F k)) → N (iz (e - vv - ll)) (iz w + iz vv) (iz lo + iz x) 0 (iz k + -1) (sA U 588 (3 * a + k) (iz (e - vv - ll)))))))))) ((((iz (e - vv - ll) < iz μ) → N (iz (e - vv - ll)) (iz w + iz vv) (iz lo + iz x) 0 (iz k + -1) (sA U 588 (3 * a + k) (iz (e - vv - ll)))) ∧ (¬ (iz (e - vv - ll) < iz μ) → N (iz (e - vv - ll)) (iz w + iz vv) (iz lo + iz x) 1 (iz k + -1) (sA U 588 (3 * a + k) (iz (e - vv - ll)))))))) := by
    intro x hx
    have n1 : (-1 : Int32) = iz (-1) := rfl
    rw [n1, iz_add, iz_add, iz_add, hx, ge0 (by omega), iz_le (by omega), iz_eq (by omega), iz_lt (by omega), show (k : Int) + -1 = k - 1 by omega]
    have NN : ∀ g' : Bool, (g' = true ↔ g = true ∧ gk μ F b k) → N (iz (e - vv - ll)) (iz (w + vv)) (iz (lo + (if kd B (nF B d + k) = 5 then on B (nF B d + k) * ll else 0))) (if g' then 1 else 0) (iz ((k : Int) - 1)) (sA U 588 (3 * a + k) (iz (e - vv - ll))) := hN
    have gp : gk μ F b k ↔ if 0 < μ ∧ F k < μ then b k = F k else μ ≤ b k := Iff.rfl
    refine ⟨fun q => ?_, fun q => ?_⟩
    · have : g = false := by cases g with
        | false => rfl
        | true => exact absurd q (by decide)
      exact NN false (by rw [this]; simp)
    · have g1 : g = true := by cases g with
        | false => exact absurd rfl q
        | true => rfl
      unfold jn
      refine ⟨fun q1 => ?_, fun q1 => ⟨fun q2 => ?_, fun q2 => ⟨fun q3 => ?_, fun q3 => ?_⟩⟩⟩
      · rw [if_neg (by omega)] at gp
        refine ⟨fun q2 => NN false ?_, fun q2 => NN true ?_⟩
        · simp only [g1, gp]; simp; omega
        · simp only [g1, gp]; simp; omega
      · rw [if_neg (by omega)] at gp
        refine ⟨fun q2 => NN false ?_, fun q2 => NN true ?_⟩
        · simp only [g1, gp]; simp; omega
        · simp only [g1, gp]; simp; omega
      · rw [if_pos (by omega)] at gp
        refine NN true ?_
        simp only [g1, gp]; simp; omega
      · rw [if_pos (by omega)] at gp
        refine NN false ?_
        simp only [g1, gp]; simp; omega
  unfold jn
  refine ⟨fun q => ⟨o4 _, o1 _, ?_⟩, fun q => ?_⟩
  · rw [iz_mul]
    rw [z_5, iz_eq (by omega)] at q
    exact rest _ (if_pos q).symm
  · rw [z_5, iz_eq (by omega)] at q
    exact rest 0 (if_neg q).symm
end LB
