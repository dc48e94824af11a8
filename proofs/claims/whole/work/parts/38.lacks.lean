/-! ===== what lacks first, by the reference ===== -/
def pv (g : Nat → Int) : Nat → Int
  | 0 => 0
  | m + 1 => g m
theorem hL_pv {c : Int} {lo : Nat → Int} : ∀ m, hL c lo m = max (lo m) (pv (hL c lo) m - c) := by
  intro m
  cases m <;> rfl
theorem hM_pv {c : Int} {hi : Nat → Int} : ∀ m, hM c hi m = min (hi m) (pv (hM c hi) m + c) := by
  intro m
  cases m <;> rfl
section LK
variable {T : St} {B : Nat → Int} {l m : Nat} {h o : Int} {f : Nat → Nat → Int}
theorem b_lacks {Kk : Int32 → Int32 → Int32 → Prop} {Q : Int32 → Prop} {N : Int32 → Int32 → Int32 → Prop} (hM' : MkX T B) (hW : WF B) (hl : l ≤ 4) (hh : 0 ≤ h ∧ h ≤ 9) (ho : 0 ≤ o ∧ o ≤ 60) (hm : m < 60) (hf : Lv T l f)
    (hb : 0 ≤ f 0 m ∧ f 0 m ≤ 1000 ∧ 0 ≤ f 1 m ∧ f 1 m ≤ 1000 ∧ 0 ≤ f 2 m ∧ f 2 m ≤ 1000 ∧ 0 ≤ f 3 m ∧ f 3 m ≤ 1000 ∧ 0 ≤ f 4 m ∧ f 4 m ≤ 1000 ∧ 0 ≤ f 5 m ∧ f 5 m ≤ 9 ∧ 0 ≤ f 6 m ∧ f 6 m ≤ 9)
    {p q : Int} (hp : p = pv (hL (B 4) (f 5)) m) (hq : q = pv (hM (B 3) (f 6)) m) (hpb : 0 ≤ p ∧ p ≤ 9) (hqb : 0 ≤ q ∧ q ≤ 9)
    (hN : ∀ x y : Int, x = hL (B 4) (f 5) m → y = hM (B 3) (f 6) m → lkw B h o f m = 0 → N (iz x) (iz y) (iz ((m + 1 : Nat) : Int))) (hQ : ∀ w : Int, 0 < w → lkw B h o f m = w → Q (iz (10 * (m : Int) + w))) :
    bd_m_lacks_9 T (iz l) (iz h) (iz o) Kk Q N (iz p) (iz q) (iz m) := by
  obtain ⟨g0, g1, g2, g3, g4, g5, g6⟩ := hf m hm
  have ei : (60 * (l : Int) + (m : Int)).toNat = 60 * l + m := by omega
  obtain ⟨oh, eh⟩ := s_hands hM' hW hm hh
  have eb := s_big hM' hm ho
  have k1 := hW.1
  have G0 : gv B h o 0 m = B 0 + (B 1 - (if (m : Int) < o then 0 else 1)) := rfl
  have G1 : gv B h o 1 m = B 1 - (if (m : Int) < o then 0 else 1) := rfl
  have G2 : gv B h o 2 m = B 2 := rfl
  have G3 : gv B h o 3 m = (if 0 ≤ h - awy B m (B 7).toNat then h - awy B m (B 7).toNat else 0) := rfl
  have G4 : gv B h o 4 m = B 6 := rfl
  have HL := hL_pv (c := B 4) (lo := f 5) m
  have HM := hM_pv (c := B 3) (hi := f 6) m
  rw [← hp] at HL
  rw [← hq] at HM
  have hba : -1 ≤ B 1 - (if (m : Int) < o then 0 else 1) ∧ B 1 - (if (m : Int) < o then 0 else 1) ≤ 3 := by split <;> omega
  have hab : 0 ≤ (if 0 ≤ h - awy B m (B 7).toNat then h - awy B m (B 7).toNat else 0) ∧ (if 0 ≤ h - awy B m (B 7).toNat then h - awy B m (B 7).toNat else 0) ≤ 9 := by have := awy_nn (B := B) (m := m) (B 7).toNat; split <;> omega
  generalize (B 1 - (if (m : Int) < o then 0 else 1)) = bb at *
  generalize (if 0 ≤ h - awy B m (B 7).toNat then h - awy B m (B 7).toNat else 0) = ha at *
  have nk : iz ((m : Int) + 1) = iz ((m + 1 : Nat) : Int) := rfl
  have r0 := hM' 0 (by omega)
  have r2 := hM' 2 (by omega)
  have r3 := hM' 3 (by omega)
  have r4 := hM' 4 (by omega)
  have r6 := hM' 6 (by omega)
  have W : lkw B h o f m = if bb < f 1 m then 1 else if B 0 + bb < f 0 m then 2 else if B 2 < f 2 m then 3 else if hM (B 3) (f 6) m < hL (B 4) (f 5) m then 4 else if ha < f 3 m then 5 else if B 6 < f 4 m then 6 else 0 := by
    unfold lkw
    rw [G0, G1, G2, G3, G4]
  clear G0 G1 G2 G3 G4
  unfold bd_m_lacks_9
  simp only [n_0, n_2, n_3, n_4, n_6, r0, r2, r3, r4, r6, eh, eb]
  refine ⟨fun c => absurd c (by rw [z_60, iz_le (by omega)]; omega), fun c => ⟨?_, ?_⟩⟩
  · rw [z_60, iz_mul, iz_add, iz_in (by omega)]; omega
  rw [z_60, iz_mul, iz_add, iz_n (by omega), ei, g0, g1, g2, g3, g4, g5, g6]
  refine jnk ?_
  rw [iz_sub, if_iz, show (if iz (p - B 4) ≤ iz (f 5 m) then f 5 m else p - B 4) = hL (B 4) (f 5) m by rw [HL]; simp only [iz_le (a := p - B 4) (b := f 5 m) (by omega)]; split <;> omega]
  refine jnk ?_
  rw [show iz q + iz (B 3) = iz (q + B 3) from iz_add _ _, if_iz, show (if iz (f 6 m) ≤ iz (q + B 3) then f 6 m else q + B 3) = hM (B 3) (f 6) m by rw [HM]; simp only [iz_le (a := f 6 m) (b := q + B 3) (by omega)]; split <;> omega]
  have b1 : 0 ≤ hL (B 4) (f 5) m ∧ hL (B 4) (f 5) m ≤ 9 := by omega
  have b2 : 0 ≤ hM (B 3) (f 6) m ∧ hM (B 3) (f 6) m ≤ 18 := by omega
  generalize hL (B 4) (f 5) m = HLm at *
  generalize hM (B 3) (f 6) m = HMm at *
  clear HL HM hp hq hpb hqb hf hh ho eh eb
  unfold jn
  rw [iz_add, iz_le (by omega), iz_le (by omega), iz_le (by omega), iz_le (by omega), iz_le (by omega), iz_le (by omega)]
  have Q2 : ∀ w : Nat, 0 < w → w < 7 → lkw B h o f m = w → Q (10 * iz m + iz w) := fun w h1 h2 e => by
    have := hQ w (by omega) e
    rw [z_10, iz_mul, iz_add]
    exact this
  refine ⟨fun c1 => ⟨fun c2 => ⟨fun c3 => ⟨fun c4 => ⟨oh, fun c5 => ⟨fun c6 => ?_, fun c6 => ?_⟩, fun c5 => ?_⟩, fun c4 => ?_⟩, fun c3 => ?_⟩, fun c2 => ?_⟩, fun c1 => ?_⟩
  · refine ⟨fun _ => ?_, fun z => absurd z (by decide)⟩
    rw [z_1, iz_add]
    exact hN _ _ rfl rfl (by rw [W, if_neg (by omega), if_neg (by omega), if_neg (by omega), if_neg (by omega), if_neg (by omega), if_neg (by omega)])
  · exact ⟨fun z => absurd z (by decide), fun _ => Q2 6 (by omega) (by omega) (by rw [W, if_neg (by omega), if_neg (by omega), if_neg (by omega), if_neg (by omega), if_neg (by omega), if_pos (by omega)]; rfl)⟩
  · exact ⟨fun z => absurd z (by decide), fun _ => Q2 5 (by omega) (by omega) (by rw [W, if_neg (by omega), if_neg (by omega), if_neg (by omega), if_neg (by omega), if_pos (by omega)]; rfl)⟩
  · exact ⟨fun z => absurd z (by decide), fun _ => Q2 4 (by omega) (by omega) (by rw [W, if_neg (by omega), if_neg (by omega), if_neg (by omega), if_pos (by omega)]; rfl)⟩
  · exact ⟨fun z => absurd z (by decide), fun _ => Q2 3 (by omega) (by omega) (by rw [W, if_neg (by omega), if_neg (by omega), if_pos (by omega)]; rfl)⟩
  · exact ⟨fun z => absurd z (by decide), fun _ => Q2 2 (by omega) (by omega) (by rw [W, if_neg (by omega), if_pos (by omega)]; rfl)⟩
  · exact ⟨fun z => absurd z (by decide), fun _ => Q2 1 (by omega) (by omega) (by rw [W, if_pos (by omega)]; rfl)⟩
theorem s_lacks (hX : MkX T B) (hW : WF B) (hl : l ≤ 4) (hh : 0 ≤ h ∧ h ≤ 9) (ho : 0 ≤ o ∧ o ≤ 60) (hf : Lv T l f)
    (hb : ∀ m, m < 60 → (∀ w, w < 5 → 0 ≤ f w m ∧ f w m ≤ 1000) ∧ 0 ≤ f 5 m ∧ f 5 m ≤ 9 ∧ 0 ≤ f 6 m ∧ f 6 m ≤ 9) :
    ok_m_lacks T (iz l) (iz h) (iz o) ∧ x_m_lacks T (iz l) (iz h) (iz o) = iz (lkr (lkw B h o f) 60 0) := by
  refine so_m_lacks (Q := fun r => r = _) _ _ _ ?_
  unfold wp_m_lacks
  have k1 := hW.1
  refine wr_m_lacks_9 T _ _ _ (fun v4 v5 v6 => ∃ m : Nat, m ≤ 60 ∧ v6 = iz m ∧ v4 = iz (pv (hL (B 4) (f 5)) m) ∧ v5 = iz (pv (hM (B 3) (f 6)) m) ∧ lkr (lkw B h o f) 60 0 = lkr (lkw B h o f) (60 - m) m) (fun v4 v5 v6 => 60 - v6.toInt.toNat) ?_ _ _ _ _ ?_ ?_
  · rintro _ _ _ ⟨m, h1, rfl, rfl, rfl, h2⟩
    by_cases q : m < 60
    · have hp : 0 ≤ pv (hL (B 4) (f 5)) m ∧ pv (hL (B 4) (f 5)) m ≤ 9 := by
        cases m with
        | zero => exact ⟨Int.le_refl 0, show (0 : Int) ≤ 9 by omega⟩
        | succ m => exact hL_b (by omega) m (fun k hk => by have := (hb k (by omega)).2; omega)
      have hq : 0 ≤ pv (hM (B 3) (f 6)) m ∧ pv (hM (B 3) (f 6)) m ≤ 9 := by
        cases m with
        | zero => exact ⟨Int.le_refl 0, show (0 : Int) ≤ 9 by omega⟩
        | succ m => exact hM_b (by omega) m (fun k hk => by have := (hb k (by omega)).2; omega)
      have hb' := hb m q
      have e : 60 - m = (60 - (m + 1)) + 1 := by omega
      rw [e] at h2
      have h2' : lkr (lkw B h o f) 60 0 = if 0 < lkw B h o f m then 10 * (m : Int) + lkw B h o f m else lkr (lkw B h o f) (60 - (m + 1)) (m + 1) := h2
      refine b_lacks hX hW hl hh ho q hf ⟨(hb'.1 0 (by omega)).1, (hb'.1 0 (by omega)).2, (hb'.1 1 (by omega)).1, (hb'.1 1 (by omega)).2, (hb'.1 2 (by omega)).1, (hb'.1 2 (by omega)).2, (hb'.1 3 (by omega)).1, (hb'.1 3 (by omega)).2, (hb'.1 4 (by omega)).1, (hb'.1 4 (by omega)).2, hb'.2⟩ rfl rfl hp hq (fun x y hx hy hw => ?_) (fun w hw e2 => ?_)
      · refine ⟨⟨m + 1, by omega, rfl, by rw [hx]; rfl, by rw [hy]; rfl, ?_⟩, ?_⟩
        · rw [h2', hw, if_neg (by omega)]
        · show 60 - (iz ((m + 1 : Nat) : Int)).toInt.toNat < 60 - (iz m).toInt.toNat
          rw [iz_t (by omega), iz_t (by omega)]
          omega
      · show iz _ = iz _
        rw [h2', e2, if_pos hw]
    · unfold bd_m_lacks_9
      refine ⟨fun c => ?_, fun c => absurd c (by rw [z_60, iz_le (by omega)]; omega)⟩
      show (-1000000 : Int32) = _
      rw [h2, show 60 - m = 0 by omega]
      rfl
  · show 60 - (0 : Int32).toInt.toNat < 1000
    omega
  · exact ⟨0, by omega, rfl, rfl, rfl, rfl⟩
end LK
