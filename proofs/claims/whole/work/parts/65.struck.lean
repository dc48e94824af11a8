/-! ===== lay, strike, settle; the pair seven ===== -/
theorem sF_id {T : St} {a k : Nat} {x : Int32} (h : T.1 a k = x) : sF T a k x = T := by
  unfold sF
  have : u2 T.1 a k x = T.1 := by
    funext y z
    unfold u2
    by_cases q : y = a ∧ z = k
    · rw [if_pos q, q.1, q.2, h]
    · rw [if_neg q]
  rw [this]
theorem WpQ_cg {T : St} {B : Nat → Int} {t : Int} {p q : Prop} {d c : Nat} (h : p ↔ q) (hY : WpQ T B t p d c) : WpQ T B t q d c := by
  have : p = q := propext h
  rw [← this]; exact hY
theorem s_pset {T : St} {B : Nat → Int} {t h o : Int} {cn : Nat → Nat → Prop} {b ki D : Nat} (hb : sh b = .inr 1) (hb2 : b + 14 < 76) (hk2 : ki + 1 < 80) (hW : WF B) (hD2 : D < 2 ^ (B 16).toNat) (hP : BkP T b B) (hK : KitX T ki B h o) (hL : LayQ T B t cn D b ki) : ok_pl_settle T (iz D) ∧ PlQ (x_pl_settle T (iz D)) B t h o cn D b ki := by
  have hD := mem_lt hW hD2
  obtain ⟨ok, u1, u2, u3⟩ := s_settle (cn := cn) hb hb2 hP hL.1 hW hD2 hL.2.2
  have fr : Fr _ T _ := fr_pl_settle _ ok
  refine ⟨ok, by rw [u2]; exact hL.1, by rw [u2]; exact hL.2.1, BkP_fr hP (by rw [u1]) (fun y z h1 h2 => q_A fr (by unfold W_pl_settle; omega)), KitX_fr fr (by unfold W_pl_settle; omega) hK, fun d hd hm => ?_, fun d e c h1 h2 h3 h4 h5 h6 => ?_⟩
  · obtain ⟨a1, a2, a3, a4, _⟩ := u3 d hd hm
    exact ⟨a1, a2, a3, a4⟩
  · obtain ⟨_, _, _, _, a5⟩ := u3 d h1 h2
    have cb := ch_b hW (hD d h2)
    have := a5 (8 * c + e) (by omega)
    rw [show 96 * d + (8 * c + e) = 96 * d + 8 * c + e by omega] at this
    exact Or.inl this
theorem LayQ_cg {T : St} {B : Nat → Int} {t : Int} {p q : Nat → Nat → Prop} {D b ki : Nat} (h : ∀ d c, p d c ↔ q d c) (hL : LayQ T B t p D b ki) : LayQ T B t q D b ki := ⟨hL.1, hL.2.1, fun d hd hm => ⟨(hL.2.2 d hd hm).1, fun c hc => WpQ_cg (h d c) ((hL.2.2 d hd hm).2 c hc)⟩⟩
-- ways that are early, struck
theorem s_strikeE {T : St} {B : Nat → Int} {t : Int} {cn : Nat → Nat → Prop} {D b ki : Nat} (hW : WF B) (hD2 : D < 2 ^ (B 16).toNat) (hL : LayQ T B t cn D b ki) : ok_pl_strikeEarly T ∧ (fun U => (∀ y z, z ≠ 6 → U.1 y z = T.1 y z) ∧ U.2 = T.2 ∧ LayQ U B t (fun d c => cn d c ∧ cE B d c = 0) D b ki) (x_pl_strikeEarly T) := by
  have hD := mem_lt hW hD2
  have h8 := hW.2.2.1
  refine so_pl_strikeEarly (Q := fun U => (∀ y z, z ≠ 6 → U.1 y z = T.1 y z) ∧ U.2 = T.2 ∧ LayQ U B t (fun d c => cn d c ∧ cE B d c = 0) D b ki) ?_
  unfold wp_pl_strikeEarly
  refine wr_pl_strikeEarly_2 (fun v U => ∃ i : Nat, i ≤ 96 ∧ v = iz i ∧ (∀ y z, z ≠ 6 → U.1 y z = T.1 y z) ∧ U.2 = T.2 ∧ ∀ d, d < 8 → D.testBit d = true → ∀ c, c < chn B d → (12 * d + c < i → WpQ U B t (cn d c ∧ cE B d c = 0) d c) ∧ (i ≤ 12 * d + c → WpQ U B t (cn d c) d c)) (fun v U => 96 - v.toInt.toNat) ?_ _ _ _ ?_ ?_
  · rintro _ U ⟨i, hi, rfl, u1, u2, u3⟩
    have r2 : U.2.2.1 = T.2.2.1 := congrArg (fun p => p.2.1) u2
    unfold bd_pl_strikeEarly_2
    rw [show Int32.ofNat 96 = iz 96 from rfl, iz_le (by omega), ix_nat (by omega)]
    have nx : iz (i : Int) + 1 = iz ((i + 1 : Nat) : Int) := by rw [z_1, iz_add]; exact iz_inj (by omega)
    rw [nx]
    have ms : i < 96 → 96 - (iz ((i + 1 : Nat) : Int)).toInt.toNat < 96 - (iz (i : Int)).toInt.toNat := fun _ => by rw [iz_t (by omega), iz_t (by omega)]; omega
    have wce : ∀ d c, 12 * d + c = i → 123 + 4 * i = wc d c := fun d c e => by unfold wc; omega
    refine ⟨fun q => ⟨u1, u2, by rw [u2]; exact hL.1, by rw [u2]; exact hL.2.1, fun d hd hm => ⟨by rw [r2]; exact (hL.2.2 d hd hm).1, fun c hc => (u3 d hd hm c hc).1 (by have := ch_b hW (hD d hm); have := hD d hm; omega)⟩⟩, fun q => ⟨in_nat (by omega) (by omega), fun z => ⟨⟨i + 1, by omega, rfl, u1, u2, fun d hd hm c hc => ⟨fun y => ?_, fun y => (u3 d hd hm c hc).2 (by omega)⟩⟩, ms (by omega)⟩, fun z => ⟨⟨i + 1, by omega, rfl, fun y z' hz => by rw [gF_F, if_neg (fun w => hz w.2)]; exact u1 y z' hz, u2, fun d hd hm c hc => ⟨fun y => ?_, fun y => ?_⟩⟩, ms (by omega)⟩⟩⟩
    · by_cases e : 12 * d + c = i
      · have w1 := (u3 d hd hm c hc).2 (by omega)
        have ce := (ch_e hW (hD d hm) hc).1
        have hkb := (wf_d hW (hD d hm)).1
        rw [wce d c e, w1.2.1, ge0 (by omega)] at z
        exact WpQ_cg ⟨fun y => ⟨y, by omega⟩, fun y => y.1⟩ w1
      · exact (u3 d hd hm c hc).1 (by omega)
    · by_cases e : 12 * d + c = i
      · have w1 := (u3 d hd hm c hc).2 (by omega)
        have ce := (ch_e hW (hD d hm) hc).1
        have hkb := (wf_d hW (hD d hm)).1
        rw [wce d c e] at z ⊢
        rw [w1.2.1, ge0 (by omega)] at z
        obtain ⟨a1, a2, a3, a4, a5⟩ := w1
        exact ⟨by rw [gF_F, if_neg (by omega)]; exact a1, by rw [gF_F, if_neg (by omega)]; exact a2, by rw [gF_F, if_neg (by omega)]; exact a3, a4, Or.inr ⟨by rw [gF_F, if_pos ⟨rfl, rfl⟩], fun y => by omega⟩⟩
      · have cb := ch_b hW (hD d hm)
        refine WpQ_eq ((u3 d hd hm c hc).1 (by omega)) (fun z' => ?_) (fun _ => rfl) (fun _ => rfl)
        rw [gF_F, if_neg (by unfold wc; omega)]
    · have cb := ch_b hW (hD d hm)
      refine WpQ_eq ((u3 d hd hm c hc).2 (by omega)) (fun z' => ?_) (fun _ => rfl) (fun _ => rfl)
      rw [gF_F, if_neg (by unfold wc; omega)]
  · show 96 - (0 : Int32).toInt.toNat < 1000
    omega
  · exact ⟨0, by omega, rfl, fun _ _ _ => rfl, rfl, fun d hd hm c hc => ⟨fun y => by omega, fun _ => (hL.2.2 d hd hm).2 c hc⟩⟩
-- what is there
theorem b_46 {b : Nat} (h : b = 46 ∨ b = 61) : sh b = .inr 1 ∧ b + 14 < 76 := by
  rcases h with rfl | rfl <;> exact ⟨by decide, by omega⟩
def tB (t : Int) : Prop := 1 ≤ t ∧ t ≤ 60
theorem x_time {T : St} {t : Int} (h : -2147483648 ≤ t ∧ t < 2147483648) : (x_x_isTime T (iz t) = 0) ↔ ¬ (1 ≤ t ∧ t ≤ 60) := by
  unfold x_x_isTime
  simp (disch := omega) only [z_1, z_60, iz_lt, iz_le]
  by_cases h1 : t < 1
  · rw [if_pos h1]; exact ⟨fun _ => by omega, fun _ => rfl⟩
  · rw [if_neg h1]
    by_cases h2 : 60 < t
    · first | (rw [if_pos h2]; exact ⟨fun _ => by omega, fun _ => rfl⟩) | (rw [if_neg (by omega)]; exact ⟨fun _ => by omega, fun _ => rfl⟩)
    · first | (rw [if_neg h2]; exact ⟨fun z => absurd z (by decide), fun z => by omega⟩) | (rw [if_pos (by omega)]; exact ⟨fun z => absurd z (by decide), fun z => by omega⟩)
theorem m_by {T : St} {t : Int} (h : -2147483648 ≤ t ∧ t < 2147483648) : (x_m_isBy T (iz t) = 0) ↔ ¬ (1 ≤ t ∧ t ≤ 60) := by
  unfold x_m_isBy
  rw [lz_w h, y_1, y_60, m_in (by omega)]
-- refused, or a book is there
theorem x_ref {T : St} (hI : Inv T) (p : Int32) : ok_x_refusal T p ∧ (p = 0 → x_x_refusal T p = -1000001) ∧ (¬ p = 0 → T.1 571 7 = 0 → x_x_refusal T p = -1000002) ∧ (¬ p = 0 → ¬ T.1 571 7 = 0 → x_x_refusal T p = 0) := by
  obtain ⟨h1, _, h3⟩ := hI.2.2.2.1
  have hb := b_46 (b := T.2.1 0) (by rcases h1 with h | h <;> simp [h.1])
  unfold ok_x_refusal x_x_refusal ok_bk_isRead x_bk_isRead
  refine ⟨fun _ => ⟨⟨hb.1, trivial⟩, hb.1, trivial⟩, fun z => if_pos z, fun z z2 => ?_, fun z z2 => ?_⟩
  · rw [if_neg z]
    rcases h3 with g | g
    · rw [if_pos (if_pos (by rw [g.2.2.2.1]; decide))]
    · rw [g.1] at z2; exact absurd z2 (by decide)
  · rw [if_neg z]
    rcases h3 with g | g
    · exact absurd g.1 z2
    · have h16 := g.2.1.2.2.1
      have e : ¬ T.1 (T.2.1 0) 4 ≤ 0 := by rw [g.2.2.1.2.2.1.1, ge0 (by omega)]; omega
      rw [if_neg (by rw [if_neg e]; decide)]
-- all that a book gives
theorem I_there {T : St} (hI : Inv T) (h7 : ¬ T.1 571 7 = 0) : WF (nB T) ∧ BkX T (T.2.1 0) (nB T) ∧ KitX T 76 (nB T) (nB T 5) (nB T 203) ∧ MkX T (nB T) ∧ (T.2.1 0 = 46 ∨ T.2.1 0 = 61) := by
  obtain ⟨h1, _, h3⟩ := hI.2.2.2.1
  rcases h3 with g | g
  · exact absurd g.1 h7
  · exact ⟨g.2.1, g.2.2.1, g.2.2.2.1, fun j _ => (iz_self _).symm, by rcases h1 with h | h <;> simp [h.1]⟩
