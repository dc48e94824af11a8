/-! ===== a way laid out as bits ===== -/
theorem gL_A2 {T : St} {a k : Nat} {y : Int64} {c j : Nat} : (sL T a k y).2.2.1 c j = T.2.2.1 c j := rfl
theorem sp_T {T U : St} {p q : Int32} : x_x_span T p q = x_x_span U p q := rfl
section WL
variable {T U : St} {a b d k : Nat} {B : Nat → Int} {bb ll : Nat → Int}
theorem b_wlay {Kk : Int32 → St → Prop} {Q : St → Prop} {N : Int32 → St → Prop} (hb : sh b = .inr 1) (ha : sh a = .inr 10) (hP : BkP U b B) (hW : WF B) (hd : (d : Int) < B 16) (hk : k < nO B d) (hY : U.2.2.1 (a + 1) k = iz (bb k)) (hL : U.2.2.1 (a + 2) k = iz (ll k))
    (hN : ∀ U' : St, eqA U U' → (∀ c j, c ≠ a + 3 → U'.2.2.2 c j = U.2.2.2 c j) → U'.2.2.2 (a + 3) 0 = (if kd B (nF B d + k) = 1 then U.2.2.2 (a + 3) 0 ||| x_x_span U (iz (bb k)) (iz (ll k)) else U.2.2.2 (a + 3) 0) → U'.2.2.2 (a + 3) 1 = (if kd B (nF B d + k) = 1 ∧ on B (nF B d + k) = 1 then U.2.2.2 (a + 3) 1 ||| x_x_span U (iz (bb k)) (iz (ll k)) else U.2.2.2 (a + 3) 1) → U'.2.2.2 (a + 3) 2 = (if kd B (nF B d + k) = 2 then U.2.2.2 (a + 3) 2 ||| x_x_span U (iz (bb k)) (iz (ll k)) else U.2.2.2 (a + 3) 2) → U'.2.2.2 (a + 3) 3 = (if sr B (nF B d + k) = 1 then U.2.2.2 (a + 3) 3 ||| x_x_span U (iz (bb k)) (iz 1) else if sr B (nF B d + k) = 2 then U.2.2.2 (a + 3) 3 ||| x_x_span U (iz (bb k)) (iz (ll k)) else U.2.2.2 (a + 3) 3) → U'.2.2.2 (a + 3) 4 = U.2.2.2 (a + 3) 4 → N (iz ((k + 1 : Nat) : Int)) U') :
    bd_wa_lay_33 a b (iz (bFst B d)) (iz (bOwn B d - 1)) Kk Q N (iz k) U := by
  have h8 := hW.2.2.1
  have k17 := wf_17 hW
  have n1 := wf_n hW hd
  have f1 := wf_f hW hd
  have fk := wf_fk hW hd hk
  obtain ⟨q9, _, _, q12, q13, _⟩ := hP.2.2 (nF B d + k) fk.1
  have e1 : iz (bFst B d) + iz (k : Int) = iz ((nF B d + k : Nat) : Int) := by rw [iz_add]; exact iz_inj (by omega)
  obtain ⟨kb, _, _, sb, o1, o2, o3, o4, o5⟩ := wf_s hW hd hk
  have nx : iz (k : Int) + 1 = iz ((k + 1 : Nat) : Int) := by rw [z_1, iz_add]; exact iz_inj (by omega)
  have ob : -1000000 ≤ on B (nF B d + k) ∧ on B (nF B d + k) ≤ 9 := by
    rcases (show kd B (nF B d + k) = 1 ∨ kd B (nF B d + k) = 2 ∨ kd B (nF B d + k) = 3 ∨ kd B (nF B d + k) = 4 ∨ kd B (nF B d + k) = 5 by omega) with e | e | e | e | e
    · have := o1 e; omega
    · have := o2 e; omega
    · have := o3 e; omega
    · have := o4 e; omega
    · have := o5 e; omega
  have c0 : iz (kd B (nF B d + k) - 1) = 0 ↔ kd B (nF B d + k) = 1 := by rw [eq0 (by omega)]; omega
  have c1 : iz (kd B (nF B d + k) - 1) = 1 ↔ kd B (nF B d + k) = 2 := by rw [z_1, iz_eq (by omega)]; omega
  have c2 : iz (on B (nF B d + k)) = 1 ↔ on B (nF B d + k) = 1 := by rw [z_1, iz_eq (by omega)]
  have c3 : iz (sr B (nF B d + k)) = 1 ↔ sr B (nF B d + k) = 1 := by rw [z_1, iz_eq (by omega)]
  have c4 : iz (sr B (nF B d + k)) = 2 ↔ sr B (nF B d + k) = 2 := by rw [z_2, iz_eq (by omega)]
  unfold bd_wa_lay_33
  refine ⟨fun c => absurd c (by rw [iz_lt (by omega)]; omega), fun _ => ⟨ha, in_nat (by omega) (by omega), ?_⟩⟩
  refine jo ?_
  try dsimp only
  rw [e1, ix_nat (by omega), ix_nat (by omega), hY, hL, q9, q12, nx]
  refine ⟨hb, in_nat (by omega) (by omega), jo (jo ?_)⟩
  try dsimp only
  generalize hS : x_x_span U (iz (bb k)) (iz (ll k)) = S at *
  have hS1 : ∀ V : St, x_x_span V (iz (bb k)) 1 = x_x_span U (iz (bb k)) (iz 1) := fun V => rfl
  generalize x_x_span U (iz (bb k)) (iz 1) = S1 at *
  have hsr : sr B (nF B d + k) = 0 ∨ sr B (nF B d + k) = 1 ∨ sr B (nF B d + k) = 2 := by omega
  unfold jn
  simp only [c0, c1, c3, c4, gL_A2, q13, c2, hY, hS1, n_0, n_1, n_2, n_3]
  have dn : ∀ U' : St, eqA U U' → (∀ c j, c ≠ a + 3 → U'.2.2.2 c j = U.2.2.2 c j) → U'.2.2.2 (a + 3) 0 = (if kd B (nF B d + k) = 1 then U.2.2.2 (a + 3) 0 ||| S else U.2.2.2 (a + 3) 0) → U'.2.2.2 (a + 3) 1 = (if kd B (nF B d + k) = 1 ∧ on B (nF B d + k) = 1 then U.2.2.2 (a + 3) 1 ||| S else U.2.2.2 (a + 3) 1) → U'.2.2.2 (a + 3) 2 = (if kd B (nF B d + k) = 2 then U.2.2.2 (a + 3) 2 ||| S else U.2.2.2 (a + 3) 2) → U'.2.2.2 (a + 3) 3 = (if sr B (nF B d + k) = 1 then U.2.2.2 (a + 3) 3 ||| S1 else if sr B (nF B d + k) = 2 then U.2.2.2 (a + 3) 3 ||| S else U.2.2.2 (a + 3) 3) → U'.2.2.2 (a + 3) 4 = U.2.2.2 (a + 3) 4 → N (iz ((k + 1 : Nat) : Int)) U' := hN
  rcases (show kd B (nF B d + k) = 1 ∨ kd B (nF B d + k) = 2 ∨ (¬ kd B (nF B d + k) = 1 ∧ ¬ kd B (nF B d + k) = 2) by omega) with e | e | ⟨e, e'⟩
  · have ne : ¬ kd B (nF B d + k) = 2 := by omega
    by_cases eo : on B (nF B d + k) = 1 <;> rcases hsr with er | er | er <;> simp [e, eo, er] <;> (refine dn _ ⟨rfl, rfl, rfl⟩ (fun c j hc => by simp [gL_L, hc]) ?_ ?_ ?_ ?_ ?_ <;> simp [gL_L, e, eo, er])
  · have ne : ¬ kd B (nF B d + k) = 1 := by omega
    rcases hsr with er | er | er <;> simp [e, er] <;> (refine dn _ ⟨rfl, rfl, rfl⟩ (fun c j hc => by simp [gL_L, hc]) ?_ ?_ ?_ ?_ ?_ <;> simp [gL_L, e, er])
  · rcases hsr with er | er | er <;> simp [e, e', er] <;> (refine dn _ ⟨rfl, rfl, rfl⟩ (fun c j hc => by simp [gL_L, hc]) ?_ ?_ ?_ ?_ ?_ <;> simp [gL_L, e, e', er])
end WL
theorem ub_s0 {B : Nat → Int} {s m : Nat} {x y : Int} : (ub B 0 s x y m = 1 ↔ kd B s = 1 ∧ x ≤ m ∧ (m : Int) < x + y) ∧ (ub B 1 s x y m = 1 ↔ (kd B s = 1 ∧ on B s = 1) ∧ x ≤ m ∧ (m : Int) < x + y) ∧ (ub B 2 s x y m = 1 ↔ kd B s = 2 ∧ x ≤ m ∧ (m : Int) < x + y) ∧ (ub B 3 s x y m = 1 ↔ (sr B s = 2 ∨ (sr B s = 1 ∧ (m : Int) = x)) ∧ x ≤ m ∧ (m : Int) < x + y) := by
  refine ⟨?_, ?_, ?_, ?_⟩
  · show (if kd B s = 1 ∧ x ≤ m ∧ (m : Int) < x + y then (1 : Int) else 0) = 1 ↔ _
    split <;> simp_all
  · show (if (kd B s = 1 ∧ on B s = 1) ∧ x ≤ m ∧ (m : Int) < x + y then (1 : Int) else 0) = 1 ↔ _
    split <;> simp_all
  · show (if kd B s = 2 ∧ x ≤ m ∧ (m : Int) < x + y then (1 : Int) else 0) = 1 ↔ _
    split <;> simp_all
  · show (if (sr B s = 2 ∨ (sr B s = 1 ∧ (m : Int) = x)) ∧ x ≤ m ∧ (m : Int) < x + y then (1 : Int) else 0) = 1 ↔ _
    constructor
    · intro q
      by_cases z : (sr B s = 2 ∨ (sr B s = 1 ∧ (m : Int) = x)) ∧ x ≤ m ∧ (m : Int) < x + y
      · exact z
      · rw [if_neg z] at q; exact absurd q (by omega)
    · intro q; rw [if_pos q]
section WL2
variable {T : St} {a b d : Nat} {B : Nat → Int} {bb ll : Nat → Int}
def LyQ (T : St) (a : Nat) (P : Nat → Nat → Prop) (U : St) : Prop := eqA T U ∧ (∀ c j, c ≠ a + 3 → U.2.2.2 c j = T.2.2.2 c j) ∧ BiX U (a + 3) P
theorem s_wlay (hb : sh b = .inr 1) (ha : sh a = .inr 10) (hP : BkP T b B) (hW : WF B) (hd : (d : Int) < B 16) (hY : WyB T a d B bb) (hL : ∀ k, k < nO B d → T.2.2.1 (a + 2) k = iz (ll k)) (hs : sq B d bb ll) :
    ok_wa_lay T a b ∧ LyQ T a (fun w m => ud B w d bb ll m = 1) (x_wa_lay T a b) := by
  have h8 := hW.2.2.1
  have k17 := wf_17 hW
  have n1 := wf_n hW hd
  have f1 := wf_f hW hd
  have s3 := shl10_3 ha
  obtain ⟨_, _, p6, p7, p8⟩ := hP.2.1.2 d hd
  refine so_wa_lay (Q := LyQ T a (fun w m => ud B w d bb ll m = 1)) _ _ ?_
  unfold wp_wa_lay jn x_fillJ
  have hal : aln (a + 3) = 5 := aln_eq s3
  try dsimp only
  rw [show (sLr T (a + 3) (fun j => if j < aln (a + 3) then 0 else T.2.2.2 (a + 3) j)).1 = T.1 from rfl, show (sLr T (a + 3) (fun j => if j < aln (a + 3) then 0 else T.2.2.2 (a + 3) j)).2.2.1 = T.2.2.1 from rfl, hY.1, ix_nat (by omega), p7, p8, z_1, iz_sub, ← z_1]
  refine ⟨ha, by unfold ok_fillJ; rw [hal]; exact s3, hb, in_nat (by omega) (by omega), ?_⟩
  refine wr_wa_lay_33 _ _ _ _ (fun v U => ∃ i : Nat, i ≤ nO B d ∧ v = iz i ∧ eqA T U ∧ (∀ c j, c ≠ a + 3 → U.2.2.2 c j = T.2.2.2 c j) ∧ (∀ m, lb (U.2.2.2 (a + 3) 4) m = false) ∧ ∀ w m : Nat, w < 4 → m < 64 → (lb (U.2.2.2 (a + 3) w) m = true ↔ ∃ k, k < i ∧ ub B w (nF B d + k) (bb k) (ll k) m = 1)) (fun v U => 3 - v.toInt.toNat) ?_ _ _ _ ?_ ?_
  · rintro _ U ⟨i, h1, rfl, ⟨u1, u2, u3⟩, u4, u5, u6⟩
    by_cases q : i < nO B d
    · have hr := hs.1 i q
      have lgb := hr
      refine b_wlay hb ha (BkP_fr hP (by rw [u1]) (fun c j _ _ => by rw [u3])) hW hd q (by rw [u3]; exact hY.2 i q) (by rw [u3]; exact hL i q) (fun U' e1 e2 e3 e4 e5 e6 e7 => ?_)
      have sp1 := fun m => sp_b (T := U) (a := bb i) (n := ll i) (by omega) (by omega) m
      have sp2 := fun m => sp_b (T := U) (a := bb i) (n := 1) (by omega) (by omega) m
      refine ⟨⟨i + 1, by omega, rfl, ⟨e1.1.trans u1, e1.2.1.trans u2, e1.2.2.trans u3⟩, fun c j hc => by rw [e2 c j hc]; exact u4 c j hc, fun m => by rw [e7]; exact u5 m, fun w m hw hm => ?_⟩, ?_⟩
      · have ex : ∀ p : Nat → Prop, (∃ k, k < i + 1 ∧ p k) ↔ (∃ k, k < i ∧ p k) ∨ p i := fun p => ⟨fun ⟨k, hk, hp⟩ => by
          by_cases e : k = i
          · subst e; exact Or.inr hp
          · exact Or.inl ⟨k, by omega, hp⟩, fun z => by
          rcases z with ⟨k, hk, hp⟩ | hp
          · exact ⟨k, by omega, hp⟩
          · exact ⟨i, by omega, hp⟩⟩
        obtain ⟨b0, b1, b2, b3⟩ := ub_s0 (B := B) (s := nF B d + i) (m := m) (x := bb i) (y := ll i)
        have sr2 := (wf_s hW hd q).2.2.2.1
        rw [ex]
        rcases (show w = 0 ∨ w = 1 ∨ w = 2 ∨ w = 3 by omega) with rfl | rfl | rfl | rfl
        · rw [e3, b0, ← u6 0 m (by omega) hm]
          by_cases z : kd B (nF B d + i) = 1
          · rw [if_pos z, lbt_or, sp1 m]; simp only [z, true_and]; constructor <;> intro y <;> rcases y with y | y <;> first | exact Or.inl y | exact Or.inr (by omega)
          · rw [if_neg z]; simp only [z, false_and, or_false]
        · rw [e4, b1, ← u6 1 m (by omega) hm]
          by_cases z : kd B (nF B d + i) = 1 ∧ on B (nF B d + i) = 1
          · rw [if_pos z, lbt_or, sp1 m]; simp only [z, true_and]; constructor <;> intro y <;> rcases y with y | y <;> first | exact Or.inl y | exact Or.inr (by omega)
          · rw [if_neg z]; simp only [z, false_and, or_false]
        · rw [e5, b2, ← u6 2 m (by omega) hm]
          by_cases z : kd B (nF B d + i) = 2
          · rw [if_pos z, lbt_or, sp1 m]; simp only [z, true_and]; constructor <;> intro y <;> rcases y with y | y <;> first | exact Or.inl y | exact Or.inr (by omega)
          · rw [if_neg z]; simp only [z, false_and, or_false]
        · rw [e6, b3, ← u6 3 m (by omega) hm]
          by_cases z : sr B (nF B d + i) = 1
          · rw [if_pos z, lbt_or, sp2 m]
            constructor <;> intro y <;> rcases y with y | y <;> first | exact Or.inl y | exact Or.inr (by omega)
          · rw [if_neg z]
            by_cases z2 : sr B (nF B d + i) = 2
            · rw [if_pos z2, lbt_or, sp1 m]
              constructor <;> intro y <;> rcases y with y | y <;> first | exact Or.inl y | exact Or.inr (by omega)
            · rw [if_neg z2]
              constructor
              · exact Or.inl
              · intro y
                rcases y with y | y
                · exact y
                · exact absurd y.1 (by omega)
      · rw [iz_t (by omega), iz_t (by omega)]; omega
    · have ei : i = nO B d := by omega
      subst ei
      have hw4 : ∀ U' : St, (∀ w, w < 4 → U'.2.2.2 (a + 3) w = U.2.2.2 (a + 3) w) → ∀ w m : Nat, w < 4 → m < 64 → (lb (U'.2.2.2 (a + 3) w) m = true ↔ m < 60 ∧ ud B w d bb ll m = 1) := by
        intro U' hU w m hw hm
        rw [hU w hw, u6 w m hw hm, (ud_1 hs hw).2]
        constructor
        · rintro ⟨k, hk, e⟩
          have := ub_1 e
          have := hs.1 k hk
          exact ⟨by omega, k, hk, e⟩
        · exact fun z => z.2
      unfold bd_wa_lay_33
      refine ⟨fun _ => ?_, fun c => absurd c (by rw [iz_lt (by omega)]; omega)⟩
      dsimp only
      rw [u1, hY.1, ix_nat (by omega), u3, p6, show iz (bPan B d) = 1 ↔ bPan B d = 1 by rw [z_1, iz_eq (by have := (wf_d hW hd).2.2.1; omega)]]
      have l1 := hs.1 (nO B d - 1) (by omega)
      have e0 : bb 0 ≤ bb (nO B d - 1) := by
        rcases (show nO B d = 1 ∨ nO B d = 2 ∨ nO B d = 3 by omega) with e | e | e
        · rw [e]; exact Int.le_refl _
        · have a1 := hs.2 0 (by omega)
          have a2 := hs.1 0 (by omega)
          rw [e]; show bb 0 ≤ bb 1; simp only [Nat.zero_add] at a1; omega
        · have a1 := hs.2 0 (by omega)
          have a2 := hs.1 0 (by omega)
          have a3 := hs.2 1 (by omega)
          have a4 := hs.1 1 (by omega)
          rw [e]; show bb 0 ≤ bb 2; simp only [Nat.zero_add, Nat.reduceAdd] at a1 a3; omega
      refine ⟨in_nat (by omega) (by omega), fun c => ⟨?_, ?_⟩, fun c => ?_⟩
      · rw [iz_in (by omega)]; omega
      · have i2 : (iz (bOwn B d - 1)).toNatClampNeg = nO B d - 1 := by rw [iz_n (by omega)]; omega
        rw [n_0, n_4, i2, hY.2 0 (by omega), hY.2 _ (by omega), hL _ (by omega), iz_add, iz_sub]
        have hp0 := hs.1 0 (by omega)
        have sp3 := fun m => sp_b (T := U) (a := bb 0) (n := bb (nO B d - 1) + ll (nO B d - 1) - bb 0) (by omega) (by omega) m
        refine ⟨⟨u1, u2, u3⟩, fun c j hc => ?_, fun w m hw hm => ?_⟩
        · rw [gL_L, if_neg (fun z => hc z.1)]; exact u4 c j hc
        · by_cases z : w = 4
          · subst z
            show _ ↔ m < 60 ∧ ud B 4 d bb ll m = 1
            rw [gL_L, if_pos ⟨rfl, rfl⟩, sp3 m, ud_4.2]
            constructor
            · intro y; exact ⟨by omega, c, by omega, by omega⟩
            · intro y; omega
          · exact hw4 _ (fun w' hw' => by rw [gL_L, if_neg (by omega)]) w m (by omega) hm
      · refine ⟨⟨u1, u2, u3⟩, u4, fun w m hw hm => ?_⟩
        by_cases z : w = 4
        · subst z
          show _ ↔ m < 60 ∧ ud B 4 d bb ll m = 1
          rw [u5 m, ud_4.2]
          exact ⟨fun y => (by cases y), fun y => absurd y.2.1 c⟩
        · exact hw4 U (fun _ _ => rfl) w m (by omega) hm
  · show 3 - (0 : Int32).toInt.toNat < 1000
    omega
  · refine ⟨0, by omega, rfl, ⟨rfl, rfl, rfl⟩, fun c j hc => ?_, fun m => ?_, fun w m hw hm => ?_⟩
    · rw [gLr_L, if_neg hc]
    · rw [gLr_L, if_pos rfl, hal, if_pos (by omega)]; exact lb_0 m
    · rw [gLr_L, if_pos rfl, hal, if_pos (by omega), lb_0]
      exact ⟨fun z => (by cases z), fun ⟨k, hk, _⟩ => by omega⟩
end WL2
