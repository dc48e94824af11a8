/-! ===== ways unlike a row, struck ===== -/
def lkI (B : Nat → Int) (t μ : Int) (c0 : Nat → Nat) (D i d c : Nat) : Prop := ∀ k, k < nO B d → ps B D d + k < i → gk μ (fun k => bg B t d (c0 d) k) (bg B t d c) k
def lkX (B : Nat → Int) (t μ : Int) (c0 : Nat → Nat) (d c : Nat) : Prop := ∀ k, k < nO B d → gk μ (fun k => bg B t d (c0 d) k) (bg B t d c) k
theorem lk_s {B : Nat → Int} {t μ : Int} {c0 : Nat → Nat} {D d k c : Nat} (hd : D.testBit d = true) (hk : k < nO B d) : lkI B t μ c0 D (ps B D d + k + 1) d c ↔ lkI B t μ c0 D (ps B D d + k) d c ∧ gk μ (fun k => bg B t d (c0 d) k) (bg B t d c) k := by
  refine ⟨fun h => ⟨fun j h1 h2 => h j h1 (by omega), h k hk (by omega)⟩, fun h j h1 h2 => ?_⟩
  by_cases e : j = k
  · rw [e]; exact h.2
  · exact h.1 j h1 (by omega)
theorem lk_o {B : Nat → Int} {t μ : Int} {c0 : Nat → Nat} {D d k e c : Nat} (hd : D.testBit d = true) (he : D.testBit e = true) (hk : k < nO B d) (hn : e ≠ d) : lkI B t μ c0 D (ps B D d + k + 1) e c ↔ lkI B t μ c0 D (ps B D d + k) e c := by
  refine ⟨fun h j h1 h2 => h j h1 (by omega), fun h j h1 h2 => ?_⟩
  by_cases q : ps B D e + j = ps B D d + k
  · exact absurd (ps_in he hd h1 hk q).1 hn
  · exact h j h1 (by omega)
theorem s_strikeU {T : St} {B : Nat → Int} {t μ : Int} {cn : Nat → Nat → Prop} {c0 : Nat → Nat} {D b ki r : Nat} (hr : sh r = .inr 7) (hr2 : 527 ≤ r) (hb : sh b = .inr 1) (hb2 : b + 14 < 76) (hW : WF B) (hD2 : D < 2 ^ (B 16).toNat) (hn : sn D 8 ≤ 4) (ht : 1 ≤ t ∧ t ≤ 60) (hμ : 0 ≤ μ ∧ μ ≤ 60) (hP : BkP T b B) (hL : LayQ T B t cn D b ki) (hX : RowX T r B D) (hB : RowB T r B D (fun d => bg B t d (c0 d))) (hc0 : ∀ d, d < 8 → D.testBit d = true → c0 d < chn B d ∧ 0 ≤ bg B t d (c0 d) 0) :
    ok_pl_strikeUnlike T r (iz μ) ∧ (fun U => (∀ y z, z ≠ 6 → U.1 y z = T.1 y z) ∧ U.2 = T.2 ∧ LayQ U B t (fun d c => cn d c ∧ lkX B t μ c0 d c) D b ki) (x_pl_strikeUnlike T r (iz μ)) := by
  have hD := mem_lt hW hD2
  have h8 := hW.2.2.1
  have p12 := ps_3 hW hD2 8
  refine so_pl_strikeUnlike (Q := fun U => (∀ y z, z ≠ 6 → U.1 y z = T.1 y z) ∧ U.2 = T.2 ∧ LayQ U B t (fun d c => cn d c ∧ lkX B t μ c0 d c) D b ki) _ _ ?_
  unfold wp_pl_strikeUnlike
  refine wr_pl_strikeUnlike_2 _ _ (fun v U => ∃ i : Nat, i ≤ ps B D 8 ∧ v = iz i ∧ (∀ y z, z ≠ 6 → U.1 y z = T.1 y z) ∧ U.2 = T.2 ∧ ∀ d, d < 8 → D.testBit d = true → ∀ c, c < chn B d → WpQ U B t (cn d c ∧ lkI B t μ c0 D i d c) d c) (fun v U => 12 - v.toInt.toNat) ?_ _ _ _ ?_ ?_
  · rintro _ U ⟨i, hi, rfl, u1, u2, u3⟩
    have r2 : U.2.2.1 = T.2.2.1 := congrArg (fun p => p.2.1) u2
    have rR : U.2.1 = T.2.1 := congrArg (fun p => p.1) u2
    unfold bd_pl_strikeUnlike_2
    rw [u1 r 1 (by omega), hX.2.1, iz_le (by omega)]
    refine ⟨hr, fun q => ⟨u1, u2, by rw [rR]; exact hL.1, by rw [rR]; exact hL.2.1, fun d hd hm => ⟨by rw [r2]; exact (hL.2.2 d hd hm).1, fun c hc => WpQ_cg ?_ (u3 d hd hm c hc)⟩⟩, fun q => ?_⟩
    · have ei : i = ps B D 8 := by omega
      have pl := ps_lt (B := B) (D := D) (e := 8) hm hd
      exact ⟨fun y => ⟨y.1, fun k hk => y.2 k hk (by omega)⟩, fun y => ⟨y.1, fun k hk _ => y.2 k hk⟩⟩
    · obtain ⟨d, k, d1, d2, d3, rfl⟩ := ps_ex 8 (show i < ps B D 8 by omega)
      have hdB := hD d d2
      obtain ⟨n1, n2, n3⟩ := wf_n hW hdB
      obtain ⟨fk1, fk2⟩ := wf_fk hW hdB d3
      have f1 := (wf_f hW hdB).1
      have cb := ch_b hW hdB
      have sl := sn_lt (D := D) (e := 8) d2 d1
      obtain ⟨x1, x2⟩ := hX.2.2 d d1 d2
      obtain ⟨x3, x4, _⟩ := x2 k d3
      obtain ⟨_, _, _, _, p8⟩ := hP.2.1.2 d hdB
      obtain ⟨cc, c00⟩ := hc0 d d1 d2
      have hbk : T.2.2.1 (r + 5) (ps B D d + k) = iz (bg B t d (c0 d) k) := hB d d1 d2 k d3
      have bb := bg_in hW hdB cc ht c00 d3
      rw [rR, hL.1, ix_nat (by omega), r2, x3, x4, ix_nat (by omega), x1]
      refine ⟨in_nat (by omega) (by omega), in_nat (by omega) (by omega), jo ⟨hb, in_nat (by omega) (by omega), jo ?_⟩⟩
      try dsimp only
      rw [ix_nat (by omega), p8, iz_sub, show ((nF B d + k : Nat) : Int) - bFst B d = (k : Int) by omega]
      have nx : iz ((ps B D d + k : Nat) : Int) + 1 = iz ((ps B D d + k + 1 : Nat) : Int) := by rw [z_1, iz_add]; exact iz_inj (by omega)
      have ms : 12 - (iz ((ps B D d + k + 1 : Nat) : Int)).toInt.toNat < 12 - (iz ((ps B D d + k : Nat) : Int)).toInt.toNat := by rw [iz_t (by omega), iz_t (by omega)]; omega
      rw [nx]
      refine wr_pl_strikeUnlike_45 _ _ _ _ _ (fun v V => ∃ j : Nat, j ≤ chn B d ∧ v = iz j ∧ (∀ y z, z ≠ 6 → V.1 y z = T.1 y z) ∧ V.2 = T.2 ∧ ∀ e, e < 8 → D.testBit e = true → ∀ c, c < chn B e → ((e ≠ d ∨ c < j) → WpQ V B t (cn e c ∧ lkI B t μ c0 D (ps B D d + k + 1) e c) e c) ∧ (e = d → j ≤ c → WpQ V B t (cn e c ∧ lkI B t μ c0 D (ps B D d + k) e c) e c)) (fun v V => 12 - v.toInt.toNat) ?_ _ _ _ ?_ ?_
      · rintro _ V ⟨j, hj, rfl, v1, v2, v3⟩
        have s2 : V.2.2.1 = T.2.2.1 := congrArg (fun p => p.2.1) v2
        unfold bd_pl_strikeUnlike_45
        rw [ix_nat (by omega), s2, (hL.2.2 d d1 d2).1, iz_le (by omega)]
        refine ⟨in_nat (by omega) (by omega), fun q => ⟨⟨ps B D d + k + 1, by omega, rfl, v1, v2, fun e he hme c hc => (v3 e he hme c hc).1 ?_⟩, ms⟩, fun q => ?_⟩
        · by_cases y : e = d
          · subst y; exact Or.inr (by omega)
          · exact Or.inl y
        · have hjc : j < chn B d := by omega
          have ew : iz (d : Int) * 12 + iz (j : Int) = iz ((12 * d + j : Nat) : Int) := by rw [z_12, iz_mul, iz_add]; exact iz_inj (by omega)
          have nj : iz (j : Int) + 1 = iz ((j + 1 : Nat) : Int) := by rw [z_1, iz_add]; exact iz_inj (by omega)
          have mj : 12 - (iz ((j + 1 : Nat) : Int)).toInt.toNat < 12 - (iz (j : Int)).toInt.toNat := by rw [iz_t (by omega), iz_t (by omega)]; omega
          have wj := (v3 d d1 d2 j hjc).2 rfl (Nat.le_refl _)
          have bj := bg_r hW hdB hjc ht (Nat.le_of_lt d3)
          have wA := wj.2.2.2.1 k d3
          rw [ew, ix_nat (k := 12 * d + j) (by omega), nj]
          refine ⟨in_nat (by omega) (by omega), jo ?_⟩
          show sh (wc d j) = .inr 10 ∧ _
          refine ⟨sh_wc d1 (by omega), in_nat (by omega) (by omega), jo ?_⟩
          rw [s2] at wA
          rw [ix_nat (k := k) (by omega), ix_nat (k := ps B D d + k) (by omega), show 123 + 4 * (12 * d + j) = wc d j from rfl, wA, hbk, iz_le (by omega), iz_lt (by omega), iz_eq (by omega)]
          have oth : ∀ (V' : St), (∀ y z, ¬ (y = wc d j ∧ z = 6) → V'.1 y z = V.1 y z) → V'.2 = V.2 → ∀ e, e < 8 → D.testBit e = true → ∀ c, c < chn B e → ¬ (e = d ∧ c = j) → ∀ cn', WpQ V B t cn' e c → WpQ V' B t cn' e c := by
            intro V' a1 a2 e he hme c hc hne cn' w
            have ce := ch_b hW (hD e hme)
            exact WpQ_eq w (fun z => a1 _ _ (by unfold wc; omega)) (fun z => by rw [show V'.2.2.1 = V.2.2.1 from congrArg (fun p => p.2.1) a2]) (fun z => by rw [show V'.2.2.2 = V.2.2.2 from congrArg (fun p => p.2.2) a2])
          have keep : gk μ (fun k => bg B t d (c0 d) k) (bg B t d j) k → (∃ j' : Nat, j' ≤ chn B d ∧ iz ((j + 1 : Nat) : Int) = iz j' ∧ (∀ y z, z ≠ 6 → V.1 y z = T.1 y z) ∧ V.2 = T.2 ∧ ∀ e, e < 8 → D.testBit e = true → ∀ c, c < chn B e → ((e ≠ d ∨ c < j') → WpQ V B t (cn e c ∧ lkI B t μ c0 D (ps B D d + k + 1) e c) e c) ∧ (e = d → j' ≤ c → WpQ V B t (cn e c ∧ lkI B t μ c0 D (ps B D d + k) e c) e c)) := by
            intro hg
            refine ⟨j + 1, by omega, rfl, v1, v2, fun e he hme c hc => ⟨fun y => ?_, fun y1 y2 => (v3 e he hme c hc).2 y1 (by omega)⟩⟩
            by_cases ec : e = d ∧ c = j
            · obtain ⟨rfl, rfl⟩ := ec
              refine WpQ_cg ?_ wj
              rw [lk_s d2 d3]
              exact ⟨fun y => ⟨y.1, y.2, hg⟩, fun y => ⟨y.1, y.2.1⟩⟩
            · exact (v3 e he hme c hc).1 (by omega)
          have drop : ¬ gk μ (fun k => bg B t d (c0 d) k) (bg B t d j) k → (∃ j' : Nat, j' ≤ chn B d ∧ iz ((j + 1 : Nat) : Int) = iz j' ∧ (∀ y z, z ≠ 6 → (sF V (wc d j) 6 0).1 y z = T.1 y z) ∧ (sF V (wc d j) 6 0).2 = T.2 ∧ ∀ e, e < 8 → D.testBit e = true → ∀ c, c < chn B e → ((e ≠ d ∨ c < j') → WpQ (sF V (wc d j) 6 0) B t (cn e c ∧ lkI B t μ c0 D (ps B D d + k + 1) e c) e c) ∧ (e = d → j' ≤ c → WpQ (sF V (wc d j) 6 0) B t (cn e c ∧ lkI B t μ c0 D (ps B D d + k) e c) e c)) := by
            intro hg
            have oth' := oth (sF V (wc d j) 6 0) (fun y z h => by rw [gF_F, if_neg h]) rfl
            refine ⟨j + 1, by omega, rfl, fun y z hz => by rw [gF_F, if_neg (fun w => hz w.2)]; exact v1 y z hz, v2, fun e he hme c hc => ⟨fun y => ?_, fun y1 y2 => oth' e he hme c hc (by omega) _ ((v3 e he hme c hc).2 y1 (by omega))⟩⟩
            by_cases ec : e = d ∧ c = j
            · obtain ⟨rfl, rfl⟩ := ec
              obtain ⟨a1, a2, a3, a4, a5⟩ := wj
              exact ⟨by rw [gF_F, if_neg (by omega)]; exact a1, by rw [gF_F, if_neg (by omega)]; exact a2, by rw [gF_F, if_neg (by omega)]; exact a3, a4, Or.inr ⟨by rw [gF_F, if_pos ⟨rfl, rfl⟩], fun y => hg ((lk_s d2 d3).1 y.2).2⟩⟩
            · exact oth' e he hme c hc ec _ ((v3 e he hme c hc).1 (by omega))
          refine ⟨hr, in_nat (by omega) (by omega), jo ⟨fun z1 => ⟨fun z2 => ⟨fun _ => ⟨drop ?_, mj⟩, fun y => absurd rfl y⟩, fun z2 => ⟨fun y => absurd y (by decide), fun _ => ⟨keep ?_, mj⟩⟩⟩, fun z1 => ⟨fun z2 => ⟨fun y => absurd y (by decide), fun _ => ⟨keep ?_, mj⟩⟩, fun z2 => ⟨fun _ => ⟨drop ?_, mj⟩, fun y => absurd rfl y⟩⟩⟩⟩
          · unfold gk; dsimp only; rw [if_neg (by omega)]; omega
          · unfold gk; dsimp only; rw [if_neg (by omega)]; omega
          · unfold gk; dsimp only; rw [if_pos (by omega)]; exact z2
          · unfold gk; dsimp only; rw [if_pos (by omega)]; exact z2
      · show 12 - (0 : Int32).toInt.toNat < 1000
        omega
      · refine ⟨0, by omega, rfl, u1, u2, fun e he hme c hc => ⟨fun y => WpQ_cg ?_ (u3 e he hme c hc), fun _ _ => u3 e he hme c hc⟩⟩
        have hne : e ≠ d := by rcases y with y | y; exact y; exact absurd y (Nat.not_lt_zero _)
        rw [lk_o d2 hme d3 hne]
  · show 12 - (0 : Int32).toInt.toNat < 1000
    omega
  · exact ⟨0, Nat.zero_le _, rfl, fun _ _ _ => rfl, rfl, fun d hd hm c hc => WpQ_cg ⟨fun y => ⟨y, fun k _ h => absurd h (Nat.not_lt_zero _)⟩, fun y => y.1⟩ ((hL.2.2 d hd hm).2 c hc)⟩
