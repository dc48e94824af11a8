def W_m_drop (T : St) (p0 : Int32) : Nat → Prop := fun c => (572 ≤ c ∧ c < 573) ∨ (67100 ≤ c ∧ c < 67102)
theorem fr_m_drop {T : St} (p0 : Int32) (kk : ok_m_drop T p0) : FrP (W_m_drop T p0) T (x_m_drop T p0) := by
  unfold ok_m_drop at kk
  have hW : ∀ c, W_m_drop T p0 c → W_m_drop T p0 c := fun _ h => h
  have hT : Fr (W_m_drop T p0) T T := fr_rfl
  unfold x_m_drop
  refine fr_if (Q := (FrP (W_m_drop T p0) T)) (fun c9_1 => ?_) (fun c9_1 => ?_)
  · exact frp_i (fr_sF hT (hW _ (by unfold W_m_drop; omega)))
  · have kk := kk c9_1
    obtain ⟨q1, kk⟩ := kk
    have gq1 := in_lt q1
    refine fr_if (Q := (FrP (W_m_drop T p0) T)) (fun c26_2 => ?_) (fun c26_2 => ?_)
    · exact frp_i (fr_sA (fr_sF (fr_sF hT (hW _ (by unfold W_m_drop; omega))) (hW _ (by unfold W_m_drop; omega))) (hW _ (by unfold W_m_drop; omega)))
    · exact frp_i (fr_tr (fr_sF (fr_sF hT (hW _ (by unfold W_m_drop; omega))) (hW _ (by unfold W_m_drop; omega))) (frp_o (fr_m_finding 1)) (fun c h => hW c (by unfold W_m_finding at h; unfold W_m_drop; omega)))
def WL_m_feed_40 (l1 : Int64) (l3 : Int32) : Nat → Prop := fun c => (577 ≤ c ∧ c < 578) ∨ (67109 ≤ c ∧ c < 67110)
theorem fr_m_feed_40 {W : Nat → Prop} {T0 : St} (l1 : Int64) (l3 : Int32) {K : Int32 → St → Int32 × St} {Kk : Int32 → St → Prop} (hW : ∀ c, WL_m_feed_40 l1 l3 c → W c) (hk : ∀ (v4 : Int32) (T : St), Fr W T0 T → Kk v4 T → (FrP W T0) (K v4 T)) : ∀ (f : Nat) (v4 : Int32) (T : St), Fr W T0 T → ok_m_feed_40 l1 l3 Kk f v4 T → (FrP W T0) (x_m_feed_40 l1 l3 K f v4 T) := by
  intro f
  induction f with
  | zero => intro v4 T hT kk; exact kk.elim
  | succ f ih =>
    intro v4 T hT kk
    rw [ok_m_feed_40] at kk
    rw [x_m_feed_40]
    refine fr_if (Q := (FrP W T0)) (fun c42_3 => ?_) (fun c42_3 => ?_)
    · have kk := kk.1 c42_3
      exact hk v4 T hT kk
    · have kk := kk.2 c42_3
      obtain ⟨q1, kk⟩ := kk
      have gq1 := in_lt q1
      refine fr_nT (Q := (FrP W T0)) (fr_sA hT (hW _ (by unfold WL_m_feed_40; omega))) kk (fun T1 hT1 kk => ?_)
      exact ih (v4 + (-1)) (sF T1 571 9 ((T1.1 571 9) + 1)) (fr_sF hT1 (hW _ (by unfold WL_m_feed_40; omega))) kk
def W_m_feed (T : St) (p0 : Int64) (p1 : Int32) : Nat → Prop := fun c => (577 ≤ c ∧ c < 578) ∨ (67100 ≤ c ∧ c < 67101) ∨ (67109 ≤ c ∧ c < 67110)
theorem fr_m_feed {T : St} (p0 : Int64) (p1 : Int32) (kk : ok_m_feed T p0 p1) : FrP (W_m_feed T p0 p1) T (x_m_feed T p0 p1) := by
  unfold ok_m_feed at kk
  have hW : ∀ c, W_m_feed T p0 p1 c → W_m_feed T p0 p1 c := fun _ h => h
  have hT : Fr (W_m_feed T p0 p1) T T := fr_rfl
  unfold x_m_feed
  refine fr_if (Q := (FrP (W_m_feed T p0 p1) T)) (fun c14_1 => ?_) (fun c14_1 => ?_)
  · exact frp_i (fr_sF hT (hW _ (by unfold W_m_feed; omega)))
  · have kk := kk c14_1
    refine fr_if (Q := (FrP (W_m_feed T p0 p1) T)) (fun c29_2 => ?_) (fun c29_2 => ?_)
    · have kk := kk c29_2
      refine fr_m_feed_40 p0 p1 (fun c h => hW c (by unfold WL_m_feed_40 at h; unfold W_m_feed; omega)) (fun w1_4 T201 hT201 kk => ?_) 1000 (p1 - 1) (sF T 571 0 0) (fr_sF hT (hW _ (by unfold W_m_feed; omega))) kk
      exact frp_i hT201
    · exact frp_i (fr_sF hT (hW _ (by unfold W_m_feed; omega)))
def WL_m_next_0  : Nat → Prop := fun c => (67112 ≤ c ∧ c < 67113)
theorem fr_m_next_0 {W : Nat → Prop} {T0 : St}  {K : St → St} {Kk : St → Prop} (hW : ∀ c, WL_m_next_0  c → W c) (hk : ∀  (T : St), Fr W T0 T → Kk  T → (Fr W T0) (K  T)) : ∀ (f : Nat)  (T : St), Fr W T0 T → ok_m_next_0  Kk f  T → (Fr W T0) (x_m_next_0  K f  T) := by
  intro f
  induction f with
  | zero => intro  T hT kk; exact kk.elim
  | succ f ih =>
    intro  T hT kk
    rw [ok_m_next_0] at kk
    rw [x_m_next_0]
    obtain ⟨q1, kk⟩ := kk
    refine fr_jn (Q := (Fr W T0)) (J := fun (KJ1 : St) (OJ1 : Prop) => OJ1 → (Fr W T0) (KJ1)) kk (fun  kk => ?_) (fun KJ1 OJ1 hJ1 kk => ?_)
    · skip
      exact ih  (sF T 571 12 ((T.1 571 12) + 1)) (fr_sF hT (hW _ (by unfold WL_m_next_0; omega))) kk
    · skip
      refine fr_if (Q := (Fr W T0)) (fun c10_3 => ?_) (fun c10_3 => ?_)
      · have kk := kk.1 c10_3
        exact hJ1  kk
      · have kk := kk.2 c10_3
        refine fr_if (Q := (Fr W T0)) (fun c23_4 => ?_) (fun c23_4 => ?_)
        · have kk := kk.1 c23_4
          exact hJ1  kk
        · have kk := kk.2 c23_4
          exact hk  T hT kk
def WL_m_next_119 (l1 : Int32) : Nat → Prop := fun c => (67112 ≤ c ∧ c < 67113)
theorem fr_m_next_119 {W : Nat → Prop} {T0 : St} (l1 : Int32) {K : St → St} {Kk : St → Prop} (hW : ∀ c, WL_m_next_119 l1 c → W c) (hk : ∀  (T : St), Fr W T0 T → Kk  T → (Fr W T0) (K  T)) : ∀ (f : Nat)  (T : St), Fr W T0 T → ok_m_next_119 l1 Kk f  T → (Fr W T0) (x_m_next_119 l1 K f  T) := by
  intro f
  induction f with
  | zero => intro  T hT kk; exact kk.elim
  | succ f ih =>
    intro  T hT kk
    rw [ok_m_next_119] at kk
    rw [x_m_next_119]
    obtain ⟨q3, kk⟩ := kk
    refine fr_if (Q := (Fr W T0)) (fun c130_9 => ?_) (fun c130_9 => ?_)
    · have kk := kk.1 c130_9
      exact hk  T hT kk
    · have kk := kk.2 c130_9
      exact ih  (sF T 571 12 ((T.1 571 12) + 1)) (fr_sF hT (hW _ (by unfold WL_m_next_119; omega))) kk
def WL_m_next_77 (l1 : Int32) : Nat → Prop := fun c => (67112 ≤ c ∧ c < 67113)
theorem fr_m_next_77 {W : Nat → Prop} {T0 : St} (l1 : Int32) {K : St → St} {Kk : St → Prop} (hW : ∀ c, WL_m_next_77 l1 c → W c) (hk : ∀  (T : St), Fr W T0 T → Kk  T → (Fr W T0) (K  T)) : ∀ (f : Nat)  (T : St), Fr W T0 T → ok_m_next_77 l1 Kk f  T → (Fr W T0) (x_m_next_77 l1 K f  T) := by
  intro f
  induction f with
  | zero => intro  T hT kk; exact kk.elim
  | succ f ih =>
    intro  T hT kk
    rw [ok_m_next_77] at kk
    rw [x_m_next_77]
    obtain ⟨q4, kk⟩ := kk
    refine fr_if (Q := (Fr W T0)) (fun c88_11 => ?_) (fun c88_11 => ?_)
    · have kk := kk.1 c88_11
      exact hk  T hT kk
    · have kk := kk.2 c88_11
      exact ih  (sF T 571 12 ((T.1 571 12) + 1)) (fr_sF hT (hW _ (by unfold WL_m_next_77; omega))) kk
def W_m_next (T : St)  : Nat → Prop := fun c => (67112 ≤ c ∧ c < 67116)
theorem fr_m_next {T : St}  (kk : ok_m_next T ) : Fr (W_m_next T ) T (x_m_next T ) := by
  unfold ok_m_next at kk
  have hW : ∀ c, W_m_next T  c → W_m_next T  c := fun _ h => h
  have hT : Fr (W_m_next T ) T T := fr_rfl
  unfold x_m_next
  refine fr_m_next_0  (fun c h => hW c (by unfold WL_m_next_0 at h; unfold W_m_next; omega)) (fun  T201 hT201 kk => ?_) 1000  T hT kk
  obtain ⟨q2, kk⟩ := kk
  refine fr_n (Q := (Fr (W_m_next T ) T)) kk (fun i1 kk => ?_)
  refine fr_jn0 (Q := (Fr (W_m_next T ) T)) (J := fun (KJ2 : St → St) => ∀ (T302 : St), Fr (W_m_next T ) T T302 → (Fr (W_m_next T ) T) (KJ2 T302)) (fun T302 hT302 => ?_) (fun KJ2 hJ2 => ?_)
  · skip
    exact (fr_sF hT302 (hW _ (by unfold W_m_next; omega)))
  · skip
    refine fr_if (Q := (Fr (W_m_next T ) T)) (fun c59_12 => ?_) (fun c59_12 => ?_)
    · exact hJ2 (sF (sF T201 571 14 (T201.1 571 12)) 571 13 1) (fr_sF (fr_sF hT201 (hW _ (by unfold W_m_next; omega))) (hW _ (by unfold W_m_next; omega)))
    · have kk := kk c59_12
      refine fr_if (Q := (Fr (W_m_next T ) T)) (fun c74_13 => ?_) (fun c74_13 => ?_)
      · have kk := kk.1 c74_13
        refine fr_if (Q := (Fr (W_m_next T ) T)) (fun c116_14 => ?_) (fun c116_14 => ?_)
        · refine fr_nT0 (Q := (Fr (W_m_next T ) T)) (fr_sF (fr_sF hT201 (hW _ (by unfold W_m_next; omega))) (hW _ (by unfold W_m_next; omega))) (fun T3 hT3 => ?_)
          refine fr_if (Q := (Fr (W_m_next T ) T)) (fun c185_15 => ?_) (fun c185_15 => ?_)
          · exact hJ2 (sF T3 571 13 4) (fr_sF hT3 (hW _ (by unfold W_m_next; omega)))
          · exact hJ2 (sF T3 571 13 0) (fr_sF hT3 (hW _ (by unfold W_m_next; omega)))
        · have kk := kk c116_14
          refine fr_m_next_119 i1 (fun c h => hW c (by unfold WL_m_next_119 at h; unfold W_m_next; omega)) (fun  T204 hT204 kk => ?_) 1000  (sF T201 571 14 (T201.1 571 12)) (fr_sF hT201 (hW _ (by unfold W_m_next; omega))) kk
          refine fr_if (Q := (Fr (W_m_next T ) T)) (fun c157_16 => ?_) (fun c157_16 => ?_)
          · exact hJ2 (sF T204 571 13 3) (fr_sF hT204 (hW _ (by unfold W_m_next; omega)))
          · exact hJ2 (sF T204 571 13 0) (fr_sF hT204 (hW _ (by unfold W_m_next; omega)))
      · have kk := kk.2 c74_13
        refine fr_m_next_77 i1 (fun c h => hW c (by unfold WL_m_next_77 at h; unfold W_m_next; omega)) (fun  T205 hT205 kk => ?_) 1000  (sF T201 571 14 (T201.1 571 12)) (fr_sF hT201 (hW _ (by unfold W_m_next; omega))) kk
        exact hJ2 (sF T205 571 13 2) (fr_sF hT205 (hW _ (by unfold W_m_next; omega)))
def W_m_bad (T : St) (p0 : Int32) : Nat → Prop := fun c => (67116 ≤ c ∧ c < 67118)
theorem fr_m_bad {T : St} (p0 : Int32) : Fr (W_m_bad T p0) T (x_m_bad T p0) := by
  have hW : ∀ c, W_m_bad T p0 c → W_m_bad T p0 c := fun _ h => h
  have hT : Fr (W_m_bad T p0) T T := fr_rfl
  unfold x_m_bad
  refine fr_if (Q := (Fr (W_m_bad T p0) T)) (fun c4_1 => ?_) (fun c4_1 => ?_)
  · exact (fr_sF (fr_sF hT (hW _ (by unfold W_m_bad; omega))) (hW _ (by unfold W_m_bad; omega)))
  · exact hT
def W_m_must (T : St) (p0 : Int32) : Nat → Prop := fun c => (67112 ≤ c ∧ c < 67118)
theorem fr_m_must {T : St} (p0 : Int32) (kk : ok_m_must T p0) : Fr (W_m_must T p0) T (x_m_must T p0) := by
  unfold ok_m_must at kk
  have hW : ∀ c, W_m_must T p0 c → W_m_must T p0 c := fun _ h => h
  have hT : Fr (W_m_must T p0) T T := fr_rfl
  unfold x_m_must
  refine fr_jn (Q := (Fr (W_m_must T p0) T)) (J := fun (KJ1 : St → St) (OJ1 : St → Prop) => ∀ (T301 : St), Fr (W_m_must T p0) T T301 → OJ1 T301 → (Fr (W_m_must T p0) T) (KJ1 T301)) kk (fun T301 hT301 kk => ?_) (fun KJ1 OJ1 hJ1 kk => ?_)
  · skip
    refine fr_if (Q := (Fr (W_m_must T p0) T)) (fun c13_2 => ?_) (fun c13_2 => ?_)
    · have kk := kk c13_2
      obtain ⟨q1, kk⟩ := kk
      exact (fr_tr hT301 ((fr_m_next  q1)) (fun c h => hW c (by unfold W_m_next at h; unfold W_m_must; omega)))
    · exact hT301
  · skip
    refine fr_if (Q := (Fr (W_m_must T p0) T)) (fun c1_3 => ?_) (fun c1_3 => ?_)
    · have kk := kk.1 c1_3
      exact hJ1 (x_m_bad T 1) (fr_tr hT ((fr_m_bad 1)) (fun c h => hW c (by unfold W_m_bad at h; unfold W_m_must; omega))) kk
    · have kk := kk.2 c1_3
      exact hJ1 T hT kk
def WL_m_number_17 (l1 : Int32) (l2 : Int32) (l3 : Int32) : Nat → Prop := fun c => c < 0
theorem fr_m_number_17 {W : Nat → Prop} {T0 : St} (l1 : Int32) (l2 : Int32) (l3 : Int32) {K : Int32 → Int32 → St → St} {Kk : Int32 → Int32 → St → Prop} (hW : ∀ c, WL_m_number_17 l1 l2 l3 c → W c) (hk : ∀ (v4 : Int32) (v5 : Int32) (T : St), Fr W T0 T → Kk v4 v5 T → (Fr W T0) (K v4 v5 T)) : ∀ (f : Nat) (v4 : Int32) (v5 : Int32) (T : St), Fr W T0 T → ok_m_number_17 l1 l2 l3 Kk f v4 v5 T → (Fr W T0) (x_m_number_17 l1 l2 l3 K f v4 v5 T) := by
  intro f
  induction f with
  | zero => intro v4 v5 T hT kk; exact kk.elim
  | succ f ih =>
    intro v4 v5 T hT kk
    rw [ok_m_number_17] at kk
    rw [x_m_number_17]
    refine fr_if (Q := (Fr W T0)) (fun c23_2 => ?_) (fun c23_2 => ?_)
    · have kk := kk.1 c23_2
      exact hk v4 v5 T hT kk
    · have kk := kk.2 c23_2
      refine fr_if (Q := (Fr W T0)) (fun c31_3 => ?_) (fun c31_3 => ?_)
      · have kk := kk.1 c31_3
        obtain ⟨q1, kk⟩ := kk
        have gq1 := in_lt q1
        refine fr_n (Q := (Fr W T0)) kk (fun i1 kk => ?_)
        exact ih i1 (v5 + 1) T hT kk
      · have kk := kk.2 c31_3
        exact hk v4 v5 T hT kk
def W_m_number (T : St) (p0 : Int32) (p1 : Int32) (p2 : Int32) : Nat → Prop := fun c => (576 ≤ c ∧ c < 577) ∨ (67112 ≤ c ∧ c < 67118)
theorem fr_m_number {T : St} (p0 : Int32) (p1 : Int32) (p2 : Int32) (kk : ok_m_number T p0 p1 p2) : Fr (W_m_number T p0 p1 p2) T (x_m_number T p0 p1 p2) := by
  unfold ok_m_number at kk
  have hW : ∀ c, W_m_number T p0 p1 p2 c → W_m_number T p0 p1 p2 c := fun _ h => h
  have hT : Fr (W_m_number T p0 p1 p2) T T := fr_rfl
  unfold x_m_number
  refine fr_if (Q := (Fr (W_m_number T p0 p1 p2) T)) (fun c4_1 => ?_) (fun c4_1 => ?_)
  · have kk := kk c4_1
    refine fr_m_number_17 p0 p1 p2 (fun c h => hW c (by unfold WL_m_number_17 at h; unfold W_m_number; omega)) (fun w1_4 w1_5 T201 hT201 kk => ?_) 1000 0 (T.1 571 14) T hT kk
    refine fr_jn (Q := (Fr (W_m_number T p0 p1 p2) T)) (J := fun (KJ1 : St → St) (OJ1 : St → Prop) => ∀ (T301 : St), Fr (W_m_number T p0 p1 p2) T T301 → OJ1 T301 → (Fr (W_m_number T p0 p1 p2) T) (KJ1 T301)) kk (fun T301 hT301 kk => ?_) (fun KJ1 OJ1 hJ1 kk => ?_)
    · skip
      refine fr_jn (Q := (Fr (W_m_number T p0 p1 p2) T)) (J := fun (KJ2 : Int32 → St) (OJ2 : Int32 → Prop) => ∀ (j2_s1 : Int32), OJ2 j2_s1 → (Fr (W_m_number T p0 p1 p2) T) (KJ2 j2_s1)) kk (fun j2_s1 kk => ?_) (fun KJ2 OJ2 hJ2 kk => ?_)
      · skip
        obtain ⟨q2, kk⟩ := kk
        refine fr_if (Q := (Fr (W_m_number T p0 p1 p2) T)) (fun c105_7 => ?_) (fun c105_7 => ?_)
        · have kk := kk c105_7
          obtain ⟨q3, kk⟩ := kk
          have gq3 := in_lt q3
          exact (fr_sA (fr_tr hT301 ((fr_m_must j2_s1 q2)) (fun c h => hW c (by unfold W_m_must at h; unfold W_m_number; omega))) (hW _ (by unfold W_m_number; omega)))
        · exact (fr_tr hT301 ((fr_m_must j2_s1 q2)) (fun c h => hW c (by unfold W_m_must at h; unfold W_m_number; omega)))
      · skip
        refine fr_if (Q := (Fr (W_m_number T p0 p1 p2) T)) (fun c90_8 => ?_) (fun c90_8 => ?_)
        · have kk := kk.1 c90_8
          exact hJ2 1 kk
        · have kk := kk.2 c90_8
          exact hJ2 0 kk
    · skip
      refine fr_if (Q := (Fr (W_m_number T p0 p1 p2) T)) (fun c63_9 => ?_) (fun c63_9 => ?_)
      · have kk := kk.1 c63_9
        refine fr_if (Q := (Fr (W_m_number T p0 p1 p2) T)) (fun c76_10 => ?_) (fun c76_10 => ?_)
        · have kk := kk.1 c76_10
          exact hJ1 (x_m_bad T201 2) (fr_tr hT201 ((fr_m_bad 2)) (fun c h => hW c (by unfold W_m_bad at h; unfold W_m_number; omega))) kk
        · have kk := kk.2 c76_10
          exact hJ1 T201 hT201 kk
      · have kk := kk.2 c63_9
        exact hJ1 T201 hT201 kk
  · exact hT
def W_m_mustEnd (T : St)  : Nat → Prop := fun c => (67112 ≤ c ∧ c < 67118)
theorem fr_m_mustEnd {T : St}  (kk : ok_m_mustEnd T ) : Fr (W_m_mustEnd T ) T (x_m_mustEnd T ) := by
  unfold ok_m_mustEnd at kk
  have hW : ∀ c, W_m_mustEnd T  c → W_m_mustEnd T  c := fun _ h => h
  have hT : Fr (W_m_mustEnd T ) T T := fr_rfl
  unfold x_m_mustEnd
  refine fr_if (Q := (Fr (W_m_mustEnd T ) T)) (fun c4_1 => ?_) (fun c4_1 => ?_)
  · have kk := kk c4_1
    refine fr_if (Q := (Fr (W_m_mustEnd T ) T)) (fun c13_2 => ?_) (fun c13_2 => ?_)
    · have kk := kk.1 c13_2
      obtain ⟨q2, kk⟩ := kk
      exact (fr_tr hT ((fr_m_must 1 q2)) (fun c h => hW c (by unfold W_m_must at h; unfold W_m_mustEnd; omega)))
    · have kk := kk.2 c13_2
      obtain ⟨q1, kk⟩ := kk
      exact (fr_tr hT ((fr_m_must 0 q1)) (fun c h => hW c (by unfold W_m_must at h; unfold W_m_mustEnd; omega)))
  · exact hT
def W_m_readAway (T : St)  : Nat → Prop := fun c => (576 ≤ c ∧ c < 577) ∨ (67112 ≤ c ∧ c < 67118)
theorem fr_m_readAway {T : St}  (kk : ok_m_readAway T ) : Fr (W_m_readAway T ) T (x_m_readAway T ) := by
  unfold ok_m_readAway at kk
  have hW : ∀ c, W_m_readAway T  c → W_m_readAway T  c := fun _ h => h
  have hT : Fr (W_m_readAway T ) T T := fr_rfl
  unfold x_m_readAway
  refine fr_jn (Q := (Fr (W_m_readAway T ) T)) (J := fun (KJ1 : St → St) (OJ1 : St → Prop) => ∀ (T301 : St), Fr (W_m_readAway T ) T T301 → OJ1 T301 → (Fr (W_m_readAway T ) T) (KJ1 T301)) kk (fun T301 hT301 kk => ?_) (fun KJ1 OJ1 hJ1 kk => ?_)
  · skip
    obtain ⟨q1, kk⟩ := kk
    refine fr_n (Q := (Fr (W_m_readAway T ) T)) kk (fun i1 kk => ?_)
    obtain ⟨q2, kk⟩ := kk
    refine fr_jn (Q := (Fr (W_m_readAway T ) T)) (J := fun (KJ2 : Int32 → St) (OJ2 : Int32 → Prop) => ∀ (j2_s2 : Int32), OJ2 j2_s2 → (Fr (W_m_readAway T ) T) (KJ2 j2_s2)) kk (fun j2_s2 kk => ?_) (fun KJ2 OJ2 hJ2 kk => ?_)
    · skip
      obtain ⟨q4, kk⟩ := kk
      obtain ⟨q5, kk⟩ := kk
      refine fr_if (Q := (Fr (W_m_readAway T ) T)) (fun c84_3 => ?_) (fun c84_3 => ?_)
      · exact (fr_sA (fr_tr (fr_tr (fr_tr (fr_tr hT301 ((fr_m_must 1 q1)) (fun c h => hW c (by unfold W_m_must at h; unfold W_m_readAway; omega))) ((fr_m_number i1 0 59 q2)) (fun c h => hW c (by unfold W_m_number at h; unfold W_m_readAway; omega))) ((fr_m_number (i1 + 1) j2_s2 59 q4)) (fun c h => hW c (by unfold W_m_number at h; unfold W_m_readAway; omega))) ((fr_m_mustEnd  q5)) (fun c h => hW c (by unfold W_m_mustEnd at h; unfold W_m_readAway; omega))) (hW _ (by unfold W_m_readAway; omega)))
      · exact (fr_sA (fr_tr (fr_tr (fr_tr (fr_tr hT301 ((fr_m_must 1 q1)) (fun c h => hW c (by unfold W_m_must at h; unfold W_m_readAway; omega))) ((fr_m_number i1 0 59 q2)) (fun c h => hW c (by unfold W_m_number at h; unfold W_m_readAway; omega))) ((fr_m_number (i1 + 1) j2_s2 59 q4)) (fun c h => hW c (by unfold W_m_number at h; unfold W_m_readAway; omega))) ((fr_m_mustEnd  q5)) (fun c h => hW c (by unfold W_m_mustEnd at h; unfold W_m_readAway; omega))) (hW _ (by unfold W_m_readAway; omega)))
    · skip
      refine fr_if (Q := (Fr (W_m_readAway T ) T)) (fun c50_4 => ?_) (fun c50_4 => ?_)
      · have kk := kk.1 c50_4
        obtain ⟨q6, kk⟩ := kk
        have gq6 := in_lt q6
        exact hJ2 ((x_m_number (x_m_must T301 1) i1 0 59).2.2.1 576 (i1 : Int32).toNatClampNeg) kk
      · have kk := kk.2 c50_4
        exact hJ2 0 kk
  · skip
    refine fr_if (Q := (Fr (W_m_readAway T ) T)) (fun c8_5 => ?_) (fun c8_5 => ?_)
    · have kk := kk.1 c8_5
      exact hJ1 (x_m_bad T 3) (fr_tr hT ((fr_m_bad 3)) (fun c h => hW c (by unfold W_m_bad at h; unfold W_m_readAway; omega))) kk
    · have kk := kk.2 c8_5
      exact hJ1 T hT kk
def W_m_readStep (T : St) (p0 : Int32) (p1 : Int32) : Nat → Prop := fun c => (576 ≤ c ∧ c < 577) ∨ (67112 ≤ c ∧ c < 67118)
theorem fr_m_readStep {T : St} (p0 : Int32) (p1 : Int32) (kk : ok_m_readStep T p0 p1) : Fr (W_m_readStep T p0 p1) T (x_m_readStep T p0 p1) := by
  unfold ok_m_readStep at kk
  have hW : ∀ c, W_m_readStep T p0 p1 c → W_m_readStep T p0 p1 c := fun _ h => h
  have hT : Fr (W_m_readStep T p0 p1) T T := fr_rfl
  unfold x_m_readStep
  obtain ⟨q1, kk⟩ := kk
  have gq1 := in_lt q1
  refine fr_jn (Q := (Fr (W_m_readStep T p0 p1) T)) (J := fun (KJ1 : St → St) (OJ1 : St → Prop) => ∀ (T301 : St), Fr (W_m_readStep T p0 p1) T T301 → OJ1 T301 → (Fr (W_m_readStep T p0 p1) T) (KJ1 T301)) kk (fun T301 hT301 kk => ?_) (fun KJ1 OJ1 hJ1 kk => ?_)
  · skip
    obtain ⟨q2, kk⟩ := kk
    refine fr_if (Q := (Fr (W_m_readStep T p0 p1) T)) (fun c33_2 => ?_) (fun c33_2 => ?_)
    · have kk := kk c33_2
      refine fr_n (Q := (Fr (W_m_readStep T p0 p1) T)) kk (fun i1 kk => ?_)
      obtain ⟨q3, kk⟩ := kk
      have gq3 := in_lt q3
      refine fr_jn (Q := (Fr (W_m_readStep T p0 p1) T)) (J := fun (KJ2 : Int32 → St) (OJ2 : Int32 → Prop) => ∀ (j2_s2 : Int32), OJ2 j2_s2 → (Fr (W_m_readStep T p0 p1) T) (KJ2 j2_s2)) kk (fun j2_s2 kk => ?_) (fun KJ2 OJ2 hJ2 kk => ?_)
      · skip
        obtain ⟨q4, kk⟩ := kk
        have gq4 := in_lt q4
        refine fr_nT (Q := (Fr (W_m_readStep T p0 p1) T)) (fr_sA (fr_sA (fr_tr hT301 ((fr_m_must 1 q2)) (fun c h => hW c (by unfold W_m_must at h; unfold W_m_readStep; omega))) (hW _ (by unfold W_m_readStep; omega))) (hW _ (by unfold W_m_readStep; omega))) kk (fun T2 hT2 kk => ?_)
        obtain ⟨q5, kk⟩ := kk
        have gq5 := in_lt q5
        obtain ⟨q6, kk⟩ := kk
        have gq6 := in_lt q6
        refine fr_nT (Q := (Fr (W_m_readStep T p0 p1) T)) (fr_sA (fr_sA hT2 (hW _ (by unfold W_m_readStep; omega))) (hW _ (by unfold W_m_readStep; omega))) kk (fun T3 hT3 kk => ?_)
        obtain ⟨q7, kk⟩ := kk
        obtain ⟨q8, kk⟩ := kk
        refine fr_jn (Q := (Fr (W_m_readStep T p0 p1) T)) (J := fun (KJ3 : St) (OJ3 : Prop) => OJ3 → (Fr (W_m_readStep T p0 p1) T) (KJ3)) kk (fun  kk => ?_) (fun KJ3 OJ3 hJ3 kk => ?_)
        · skip
          obtain ⟨q20, kk⟩ := kk
          refine fr_jn (Q := (Fr (W_m_readStep T p0 p1) T)) (J := fun (KJ4 : Int32 → St) (OJ4 : Int32 → Prop) => ∀ (j4_s3 : Int32), OJ4 j4_s3 → (Fr (W_m_readStep T p0 p1) T) (KJ4 j4_s3)) kk (fun j4_s3 kk => ?_) (fun KJ4 OJ4 hJ4 kk => ?_)
          · skip
            obtain ⟨q21, kk⟩ := kk
            refine fr_nT (Q := (Fr (W_m_readStep T p0 p1) T)) (fr_tr (fr_tr (fr_tr (fr_tr hT3 ((fr_m_number (i1 + 1) 1 30 q7)) (fun c h => hW c (by unfold W_m_number at h; unfold W_m_readStep; omega))) ((fr_m_number (i1 + 2) 0 1 q8)) (fun c h => hW c (by unfold W_m_number at h; unfold W_m_readStep; omega))) ((fr_m_number (i1 + 3) 0 2 q20)) (fun c h => hW c (by unfold W_m_number at h; unfold W_m_readStep; omega))) ((fr_m_number (i1 + 4) 0 j4_s3 q21)) (fun c h => hW c (by unfold W_m_number at h; unfold W_m_readStep; omega))) kk (fun T14 hT14 kk => ?_)
            refine fr_jn (Q := (Fr (W_m_readStep T p0 p1) T)) (J := fun (KJ5 : St → St) (OJ5 : St → Prop) => ∀ (T305 : St), Fr (W_m_readStep T p0 p1) T T305 → OJ5 T305 → (Fr (W_m_readStep T p0 p1) T) (KJ5 T305)) kk (fun T305 hT305 kk => ?_) (fun KJ5 OJ5 hJ5 kk => ?_)
            · skip
              refine fr_jn (Q := (Fr (W_m_readStep T p0 p1) T)) (J := fun (KJ6 : St → St) (OJ6 : St → Prop) => ∀ (T306 : St), Fr (W_m_readStep T p0 p1) T T306 → OJ6 T306 → (Fr (W_m_readStep T p0 p1) T) (KJ6 T306)) kk (fun T306 hT306 kk => ?_) (fun KJ6 OJ6 hJ6 kk => ?_)
              · skip
                obtain ⟨q25, kk⟩ := kk
                refine fr_nT0 (Q := (Fr (W_m_readStep T p0 p1) T)) (fr_sA (fr_tr hT306 ((fr_m_mustEnd  q25)) (fun c h => hW c (by unfold W_m_mustEnd at h; unfold W_m_readStep; omega))) (hW _ (by unfold W_m_readStep; omega))) (fun T15 hT15 => ?_)
                exact (fr_sA hT15 (hW _ (by unfold W_m_readStep; omega)))
              · skip
                refine fr_if (Q := (Fr (W_m_readStep T p0 p1) T)) (fun c199_15 => ?_) (fun c199_15 => ?_)
                · have kk := kk.1 c199_15
                  obtain ⟨q26, kk⟩ := kk
                  exact hJ6 (x_m_number T305 (i1 + 4) 0 9) (fr_tr hT305 ((fr_m_number (i1 + 4) 0 9 q26)) (fun c h => hW c (by unfold W_m_number at h; unfold W_m_readStep; omega))) kk
                · have kk := kk.2 c199_15
                  exact hJ6 T305 hT305 kk
            · skip
              refine fr_if (Q := (Fr (W_m_readStep T p0 p1) T)) (fun c164_16 => ?_) (fun c164_16 => ?_)
              · have kk := kk.1 c164_16
                refine fr_if (Q := (Fr (W_m_readStep T p0 p1) T)) (fun c176_17 => ?_) (fun c176_17 => ?_)
                · have kk := kk.1 c176_17
                  obtain ⟨q28, kk⟩ := kk
                  exact hJ5 (x_m_number T14 (i1 + 5) (T14.2.2.1 576 (i1 + 4 : Int32).toNatClampNeg) 9) (fr_tr hT14 ((fr_m_number (i1 + 5) (T14.2.2.1 576 (i1 + 4 : Int32).toNatClampNeg) 9 q28)) (fun c h => hW c (by unfold W_m_number at h; unfold W_m_readStep; omega))) kk
                · have kk := kk.2 c176_17
                  obtain ⟨q27, kk⟩ := kk
                  exact hJ5 (x_m_number T14 (i1 + 5) 0 9) (fr_tr hT14 ((fr_m_number (i1 + 5) 0 9 q27)) (fun c h => hW c (by unfold W_m_number at h; unfold W_m_readStep; omega))) kk
              · have kk := kk.2 c164_16
                exact hJ5 T14 hT14 kk
          · skip
            refine fr_if (Q := (Fr (W_m_readStep T p0 p1) T)) (fun c150_18 => ?_) (fun c150_18 => ?_)
            · have kk := kk.1 c150_18
              exact hJ4 1 kk
            · have kk := kk.2 c150_18
              exact hJ4 9 kk
        · skip
          refine fr_if (Q := (Fr (W_m_readStep T p0 p1) T)) (fun c124_19 => ?_) (fun c124_19 => ?_)
          · have kk := kk.1 c124_19
            exact hJ3  kk
          · have kk := kk.2 c124_19
            refine fr_if (Q := (Fr (W_m_readStep T p0 p1) T)) (fun c129_20 => ?_) (fun c129_20 => ?_)
            · have kk := kk.1 c129_20
              exact hJ3  kk
            · have kk := kk.2 c129_20
              refine fr_jn (Q := (Fr (W_m_readStep T p0 p1) T)) (J := fun (KJ7 : St → St) (OJ7 : St → Prop) => ∀ (T307 : St), Fr (W_m_readStep T p0 p1) T T307 → OJ7 T307 → (Fr (W_m_readStep T p0 p1) T) (KJ7 T307)) kk (fun T307 hT307 kk => ?_) (fun KJ7 OJ7 hJ7 kk => ?_)
              · skip
                refine fr_jn (Q := (Fr (W_m_readStep T p0 p1) T)) (J := fun (KJ8 : St → St) (OJ8 : St → Prop) => ∀ (T308 : St), Fr (W_m_readStep T p0 p1) T T308 → OJ8 T308 → (Fr (W_m_readStep T p0 p1) T) (KJ8 T308)) kk (fun T308 hT308 kk => ?_) (fun KJ8 OJ8 hJ8 kk => ?_)
                · skip
                  obtain ⟨q32, kk⟩ := kk
                  refine fr_nT0 (Q := (Fr (W_m_readStep T p0 p1) T)) (fr_sA (fr_tr hT308 ((fr_m_mustEnd  q32)) (fun c h => hW c (by unfold W_m_mustEnd at h; unfold W_m_readStep; omega))) (hW _ (by unfold W_m_readStep; omega))) (fun T17 hT17 => ?_)
                  exact (fr_sA hT17 (hW _ (by unfold W_m_readStep; omega)))
                · skip
                  refine fr_if (Q := (Fr (W_m_readStep T p0 p1) T)) (fun c199_24 => ?_) (fun c199_24 => ?_)
                  · have kk := kk.1 c199_24
                    obtain ⟨q33, kk⟩ := kk
                    exact hJ8 (x_m_number T307 (i1 + 4) 0 9) (fr_tr hT307 ((fr_m_number (i1 + 4) 0 9 q33)) (fun c h => hW c (by unfold W_m_number at h; unfold W_m_readStep; omega))) kk
                  · have kk := kk.2 c199_24
                    exact hJ8 T307 hT307 kk
              · skip
                refine fr_if (Q := (Fr (W_m_readStep T p0 p1) T)) (fun c164_25 => ?_) (fun c164_25 => ?_)
                · have kk := kk.1 c164_25
                  refine fr_if (Q := (Fr (W_m_readStep T p0 p1) T)) (fun c176_26 => ?_) (fun c176_26 => ?_)
                  · have kk := kk.1 c176_26
                    obtain ⟨q35, kk⟩ := kk
                    refine fr_nT (Q := (Fr (W_m_readStep T p0 p1) T)) (fr_tr (fr_tr (fr_tr hT3 ((fr_m_number (i1 + 1) 1 30 q7)) (fun c h => hW c (by unfold W_m_number at h; unfold W_m_readStep; omega))) ((fr_m_number (i1 + 2) 0 1 q8)) (fun c h => hW c (by unfold W_m_number at h; unfold W_m_readStep; omega))) ((fr_m_number (i1 + 5) ((x_m_number (x_m_number T3 (i1 + 1) 1 30) (i1 + 2) 0 1).2.2.1 576 (i1 + 4 : Int32).toNatClampNeg) 9 q35)) (fun c h => hW c (by unfold W_m_number at h; unfold W_m_readStep; omega))) kk (fun T18 hT18 kk => ?_)
                    exact hJ7 T18 hT18 kk
                  · have kk := kk.2 c176_26
                    obtain ⟨q34, kk⟩ := kk
                    exact hJ7 (x_m_number (x_m_number (x_m_number T3 (i1 + 1) 1 30) (i1 + 2) 0 1) (i1 + 5) 0 9) (fr_tr (fr_tr (fr_tr hT3 ((fr_m_number (i1 + 1) 1 30 q7)) (fun c h => hW c (by unfold W_m_number at h; unfold W_m_readStep; omega))) ((fr_m_number (i1 + 2) 0 1 q8)) (fun c h => hW c (by unfold W_m_number at h; unfold W_m_readStep; omega))) ((fr_m_number (i1 + 5) 0 9 q34)) (fun c h => hW c (by unfold W_m_number at h; unfold W_m_readStep; omega))) kk
                · have kk := kk.2 c164_25
                  exact hJ7 (x_m_number (x_m_number T3 (i1 + 1) 1 30) (i1 + 2) 0 1) (fr_tr (fr_tr hT3 ((fr_m_number (i1 + 1) 1 30 q7)) (fun c h => hW c (by unfold W_m_number at h; unfold W_m_readStep; omega))) ((fr_m_number (i1 + 2) 0 1 q8)) (fun c h => hW c (by unfold W_m_number at h; unfold W_m_readStep; omega))) kk
      · skip
        refine fr_if (Q := (Fr (W_m_readStep T p0 p1) T)) (fun c70_27 => ?_) (fun c70_27 => ?_)
        · have kk := kk.1 c70_27
          exact hJ2 2 kk
        · have kk := kk.2 c70_27
          exact hJ2 0 kk
    · exact (fr_tr hT301 ((fr_m_must 1 q2)) (fun c h => hW c (by unfold W_m_must at h; unfold W_m_readStep; omega)))
  · skip
    refine fr_if (Q := (Fr (W_m_readStep T p0 p1) T)) (fun c16_28 => ?_) (fun c16_28 => ?_)
    · have kk := kk.1 c16_28
      exact hJ1 (x_m_bad T 3) (fr_tr hT ((fr_m_bad 3)) (fun c h => hW c (by unfold W_m_bad at h; unfold W_m_readStep; omega))) kk
    · have kk := kk.2 c16_28
      exact hJ1 T hT kk
def WL_m_readDish_115 (l1 : Int32) (l2 : Int32) : Nat → Prop := fun c => (576 ≤ c ∧ c < 577) ∨ (67112 ≤ c ∧ c < 67118)
theorem fr_m_readDish_115 {W : Nat → Prop} {T0 : St} (l1 : Int32) (l2 : Int32) {K : Int32 → St → St} {Kk : Int32 → St → Prop} (hW : ∀ c, WL_m_readDish_115 l1 l2 c → W c) (hk : ∀ (v3 : Int32) (T : St), Fr W T0 T → Kk v3 T → (Fr W T0) (K v3 T)) : ∀ (f : Nat) (v3 : Int32) (T : St), Fr W T0 T → ok_m_readDish_115 l1 l2 Kk f v3 T → (Fr W T0) (x_m_readDish_115 l1 l2 K f v3 T) := by
  intro f
  induction f with
  | zero => intro v3 T hT kk; exact kk.elim
  | succ f ih =>
    intro v3 T hT kk
    rw [ok_m_readDish_115] at kk
    rw [x_m_readDish_115]
    refine fr_if (Q := (Fr W T0)) (fun c119_4 => ?_) (fun c119_4 => ?_)
    · have kk := kk.1 c119_4
      refine fr_if (Q := (Fr W T0)) (fun c125_5 => ?_) (fun c125_5 => ?_)
      · have kk := kk.1 c125_5
        exact hk v3 T hT kk
      · have kk := kk.2 c125_5
        obtain ⟨q9, kk⟩ := kk
        obtain ⟨q10, kk⟩ := kk
        refine fr_n (Q := (Fr W T0)) kk (fun i5 kk => ?_)
        exact ih i5 (x_m_readStep T v3 l1) (fr_tr hT ((fr_m_readStep v3 l1 q9)) (fun c h => hW c (by unfold W_m_readStep at h; unfold WL_m_readDish_115; omega))) kk
    · have kk := kk.2 c119_4
      exact hk v3 T hT kk
def W_m_readDish (T : St)  : Nat → Prop := fun c => (576 ≤ c ∧ c < 577) ∨ (67112 ≤ c ∧ c < 67118)
theorem fr_m_readDish {T : St}  (kk : ok_m_readDish T ) : Fr (W_m_readDish T ) T (x_m_readDish T ) := by
  unfold ok_m_readDish at kk
  have hW : ∀ c, W_m_readDish T  c → W_m_readDish T  c := fun _ h => h
  have hT : Fr (W_m_readDish T ) T T := fr_rfl
  unfold x_m_readDish
  refine fr_jn (Q := (Fr (W_m_readDish T ) T)) (J := fun (KJ1 : St → St) (OJ1 : St → Prop) => ∀ (T301 : St), Fr (W_m_readDish T ) T T301 → OJ1 T301 → (Fr (W_m_readDish T ) T) (KJ1 T301)) kk (fun T301 hT301 kk => ?_) (fun KJ1 OJ1 hJ1 kk => ?_)
  · skip
    obtain ⟨q1, kk⟩ := kk
    refine fr_n (Q := (Fr (W_m_readDish T ) T)) kk (fun i1 kk => ?_)
    obtain ⟨q2, kk⟩ := kk
    obtain ⟨q3, kk⟩ := kk
    obtain ⟨q4, kk⟩ := kk
    refine fr_nT (Q := (Fr (W_m_readDish T ) T)) (fr_tr (fr_tr (fr_tr (fr_tr hT301 ((fr_m_must 1 q1)) (fun c h => hW c (by unfold W_m_must at h; unfold W_m_readDish; omega))) ((fr_m_number (18 + (5 * i1)) 0 2 q2)) (fun c h => hW c (by unfold W_m_number at h; unfold W_m_readDish; omega))) ((fr_m_number ((18 + (5 * i1)) + 1) 0 9 q3)) (fun c h => hW c (by unfold W_m_number at h; unfold W_m_readDish; omega))) ((fr_m_number ((18 + (5 * i1)) + 2) 0 1 q4)) (fun c h => hW c (by unfold W_m_number at h; unfold W_m_readDish; omega))) kk (fun T2 hT2 kk => ?_)
    obtain ⟨q5, kk⟩ := kk
    refine fr_if (Q := (Fr (W_m_readDish T ) T)) (fun c71_2 => ?_) (fun c71_2 => ?_)
    · have kk := kk c71_2
      obtain ⟨q6, kk⟩ := kk
      have gq6 := in_lt q6
      refine fr_nT (Q := (Fr (W_m_readDish T ) T)) (fr_sA (fr_tr hT2 ((fr_m_mustEnd  q5)) (fun c h => hW c (by unfold W_m_mustEnd at h; unfold W_m_readDish; omega))) (hW _ (by unfold W_m_readDish; omega))) kk (fun T3 hT3 kk => ?_)
      obtain ⟨q7, kk⟩ := kk
      have gq7 := in_lt q7
      obtain ⟨q8, kk⟩ := kk
      refine fr_n (Q := (Fr (W_m_readDish T ) T)) kk (fun i4 kk => ?_)
      refine fr_jn (Q := (Fr (W_m_readDish T ) T)) (J := fun (KJ2 : St → St) (OJ2 : St → Prop) => ∀ (T302 : St), Fr (W_m_readDish T ) T T302 → OJ2 T302 → (Fr (W_m_readDish T ) T) (KJ2 T302)) kk (fun T302 hT302 kk => ?_) (fun KJ2 OJ2 hJ2 kk => ?_)
      · skip
        refine fr_m_readDish_115 i1 (18 + (5 * i1)) (fun c h => hW c (by unfold WL_m_readDish_115 at h; unfold W_m_readDish; omega)) (fun w1_3 T201 hT201 kk => ?_) 1000 i4 T302 hT302 kk
        exact (fr_sA hT201 (hW _ (by unfold W_m_readDish; omega)))
      · skip
        refine fr_if (Q := (Fr (W_m_readDish T ) T)) (fun c107_6 => ?_) (fun c107_6 => ?_)
        · have kk := kk.1 c107_6
          exact hJ2 (x_m_bad (sA T3 576 ((18 + (5 * i1)) + 3 : Int32).toNatClampNeg 0) 1) (fr_tr (fr_sA hT3 (hW _ (by unfold W_m_readDish; omega))) ((fr_m_bad 1)) (fun c h => hW c (by unfold W_m_bad at h; unfold W_m_readDish; omega))) kk
        · have kk := kk.2 c107_6
          exact hJ2 (sA T3 576 ((18 + (5 * i1)) + 3 : Int32).toNatClampNeg 0) (fr_sA hT3 (hW _ (by unfold W_m_readDish; omega))) kk
    · exact (fr_tr hT2 ((fr_m_mustEnd  q5)) (fun c h => hW c (by unfold W_m_mustEnd at h; unfold W_m_readDish; omega)))
  · skip
    refine fr_if (Q := (Fr (W_m_readDish T ) T)) (fun c9_7 => ?_) (fun c9_7 => ?_)
    · have kk := kk.1 c9_7
      exact hJ1 (x_m_bad T 3) (fr_tr hT ((fr_m_bad 3)) (fun c h => hW c (by unfold W_m_bad at h; unfold W_m_readDish; omega))) kk
    · have kk := kk.2 c9_7
      exact hJ1 T hT kk
def W_m_fault (T : St)  : Nat → Prop := fun c => (67100 ≤ c ∧ c < 67101)
theorem fr_m_fault {T : St}  : FrP (W_m_fault T ) T (x_m_fault T ) := by
  have hW : ∀ c, W_m_fault T  c → W_m_fault T  c := fun _ h => h
  have hT : Fr (W_m_fault T ) T T := fr_rfl
  unfold x_m_fault
  exact frp_i (fr_sF hT (hW _ (by unfold W_m_fault; omega)))
def W_m_dish (T : St) (p0 : Int32) (p1 : Int32) : Nat → Prop := fun c => (67100 ≤ c ∧ c < 67101)
theorem fr_m_dish {T : St} (p0 : Int32) (p1 : Int32) (kk : ok_m_dish T p0 p1) : FrP (W_m_dish T p0 p1) T (x_m_dish T p0 p1) := by
  unfold ok_m_dish at kk
  have hW : ∀ c, W_m_dish T p0 p1 c → W_m_dish T p0 p1 c := fun _ h => h
  have hT : Fr (W_m_dish T p0 p1) T T := fr_rfl
  unfold x_m_dish
  refine fr_if (Q := (FrP (W_m_dish T p0 p1) T)) (fun c10_1 => ?_) (fun c10_1 => ?_)
  · exact frp_i (fr_sF hT (hW _ (by unfold W_m_dish; omega)))
  · have kk := kk c10_1
    refine fr_if (Q := (FrP (W_m_dish T p0 p1) T)) (fun c22_2 => ?_) (fun c22_2 => ?_)
    · exact frp_i (fr_sF hT (hW _ (by unfold W_m_dish; omega)))
    · have kk := kk c22_2
      refine fr_if (Q := (FrP (W_m_dish T p0 p1) T)) (fun c32_3 => ?_) (fun c32_3 => ?_)
      · have kk := kk.1 c32_3
        obtain ⟨q2, kk⟩ := kk
        exact frp_i (fr_sF hT (hW _ (by unfold W_m_dish; omega)))
      · have kk := kk.2 c32_3
        obtain ⟨q1, kk⟩ := kk
        exact frp_i (fr_sF hT (hW _ (by unfold W_m_dish; omega)))
def W_m_step (T : St) (p0 : Int32) (p1 : Int32) : Nat → Prop := fun c => (67100 ≤ c ∧ c < 67101)
theorem fr_m_step {T : St} (p0 : Int32) (p1 : Int32) (kk : ok_m_step T p0 p1) : FrP (W_m_step T p0 p1) T (x_m_step T p0 p1) := by
  unfold ok_m_step at kk
  have hW : ∀ c, W_m_step T p0 p1 c → W_m_step T p0 p1 c := fun _ h => h
  have hT : Fr (W_m_step T p0 p1) T T := fr_rfl
  unfold x_m_step
  refine fr_if (Q := (FrP (W_m_step T p0 p1) T)) (fun c10_1 => ?_) (fun c10_1 => ?_)
  · exact frp_i (fr_sF hT (hW _ (by unfold W_m_step; omega)))
  · have kk := kk c10_1
    refine fr_if (Q := (FrP (W_m_step T p0 p1) T)) (fun c22_2 => ?_) (fun c22_2 => ?_)
    · exact frp_i (fr_sF hT (hW _ (by unfold W_m_step; omega)))
    · have kk := kk c22_2
      obtain ⟨q1, kk⟩ := kk
      exact frp_i (fr_sF hT (hW _ (by unfold W_m_step; omega)))
def W_m_gives (T : St) (p0 : Int32) (p1 : Int32) : Nat → Prop := fun c => (67100 ≤ c ∧ c < 67101)
theorem fr_m_gives {T : St} (p0 : Int32) (p1 : Int32) (kk : ok_m_gives T p0 p1) : FrP (W_m_gives T p0 p1) T (x_m_gives T p0 p1) := by
  unfold ok_m_gives at kk
  have hW : ∀ c, W_m_gives T p0 p1 c → W_m_gives T p0 p1 c := fun _ h => h
  have hT : Fr (W_m_gives T p0 p1) T T := fr_rfl
  unfold x_m_gives
  refine fr_if (Q := (FrP (W_m_gives T p0 p1) T)) (fun c9_1 => ?_) (fun c9_1 => ?_)
  · exact frp_i (fr_sF hT (hW _ (by unfold W_m_gives; omega)))
  · have kk := kk c9_1
    refine fr_if (Q := (FrP (W_m_gives T p0 p1) T)) (fun c19_2 => ?_) (fun c19_2 => ?_)
    · exact frp_i (fr_sF hT (hW _ (by unfold W_m_gives; omega)))
    · have kk := kk c19_2
      refine fr_if (Q := (FrP (W_m_gives T p0 p1) T)) (fun c31_3 => ?_) (fun c31_3 => ?_)
      · exact frp_i (fr_sF hT (hW _ (by unfold W_m_gives; omega)))
      · have kk := kk c31_3
        refine fr_if (Q := (FrP (W_m_gives T p0 p1) T)) (fun s38_4_0 => ?_) (fun s38_4_0 => ?_)
        · exact frp_i (fr_sF hT (hW _ (by unfold W_m_gives; omega)))
        · have kk := kk s38_4_0
          refine fr_if (Q := (FrP (W_m_gives T p0 p1) T)) (fun s38_4_1 => ?_) (fun s38_4_1 => ?_)
          · exact frp_i (fr_sF hT (hW _ (by unfold W_m_gives; omega)))
          · have kk := kk s38_4_1
            refine fr_if (Q := (FrP (W_m_gives T p0 p1) T)) (fun s38_4_2 => ?_) (fun s38_4_2 => ?_)
            · exact frp_i (fr_sF hT (hW _ (by unfold W_m_gives; omega)))
            · have kk := kk s38_4_2
              refine fr_if (Q := (FrP (W_m_gives T p0 p1) T)) (fun s38_4_3 => ?_) (fun s38_4_3 => ?_)
              · have kk := kk s38_4_3
                obtain ⟨q1, kk⟩ := kk
                exact frp_i (fr_sF hT (hW _ (by unfold W_m_gives; omega)))
              · exact frp_i (fr_sF hT (hW _ (by unfold W_m_gives; omega)))
def WL_m_clearLevel_2  : Nat → Prop := fun c => (578 ≤ c ∧ c < 585)
theorem fr_m_clearLevel_2 {W : Nat → Prop} {T0 : St}  {K : Int32 → St → St} {Kk : Int32 → St → Prop} (hW : ∀ c, WL_m_clearLevel_2  c → W c) (hk : ∀ (v1 : Int32) (T : St), Fr W T0 T → Kk v1 T → (Fr W T0) (K v1 T)) : ∀ (f : Nat) (v1 : Int32) (T : St), Fr W T0 T → ok_m_clearLevel_2  Kk f v1 T → (Fr W T0) (x_m_clearLevel_2  K f v1 T) := by
  intro f
  induction f with
  | zero => intro v1 T hT kk; exact kk.elim
  | succ f ih =>
    intro v1 T hT kk
    rw [ok_m_clearLevel_2] at kk
    rw [x_m_clearLevel_2]
    refine fr_if (Q := (Fr W T0)) (fun c5_1 => ?_) (fun c5_1 => ?_)
    · have kk := kk.1 c5_1
      exact hk v1 T hT kk
    · have kk := kk.2 c5_1
      obtain ⟨q1, kk⟩ := kk
      have gq1 := in_lt q1
      refine fr_nT (Q := (Fr W T0)) (fr_sA (fr_sA (fr_sA hT (hW _ (by unfold WL_m_clearLevel_2; omega))) (hW _ (by unfold WL_m_clearLevel_2; omega))) (hW _ (by unfold WL_m_clearLevel_2; omega))) kk (fun T1 hT1 kk => ?_)
      refine fr_nT (Q := (Fr W T0)) (fr_sA (fr_sA (fr_sA hT1 (hW _ (by unfold WL_m_clearLevel_2; omega))) (hW _ (by unfold WL_m_clearLevel_2; omega))) (hW _ (by unfold WL_m_clearLevel_2; omega))) kk (fun T2 hT2 kk => ?_)
      exact ih (v1 + 1) (sA T2 584 (v1 : Int32).toNatClampNeg 9) (fr_sA hT2 (hW _ (by unfold WL_m_clearLevel_2; omega))) kk
def W_m_clearLevel (T : St)  : Nat → Prop := fun c => (578 ≤ c ∧ c < 585)
theorem fr_m_clearLevel {T : St}  (kk : ok_m_clearLevel T ) : Fr (W_m_clearLevel T ) T (x_m_clearLevel T ) := by
  unfold ok_m_clearLevel at kk
  have hW : ∀ c, W_m_clearLevel T  c → W_m_clearLevel T  c := fun _ h => h
  have hT : Fr (W_m_clearLevel T ) T T := fr_rfl
  unfold x_m_clearLevel
  refine fr_m_clearLevel_2  (fun c h => hW c (by unfold WL_m_clearLevel_2 at h; unfold W_m_clearLevel; omega)) (fun w1_1 T201 hT201 kk => ?_) 1000 0 T hT kk
  exact hT201
def WL_m_copyLevel_5 (l1 : Int32) : Nat → Prop := fun c => (578 ≤ c ∧ c < 585)
theorem fr_m_copyLevel_5 {W : Nat → Prop} {T0 : St} (l1 : Int32) {K : Int32 → St → St} {Kk : Int32 → St → Prop} (hW : ∀ c, WL_m_copyLevel_5 l1 c → W c) (hk : ∀ (v2 : Int32) (T : St), Fr W T0 T → Kk v2 T → (Fr W T0) (K v2 T)) : ∀ (f : Nat) (v2 : Int32) (T : St), Fr W T0 T → ok_m_copyLevel_5 l1 Kk f v2 T → (Fr W T0) (x_m_copyLevel_5 l1 K f v2 T) := by
  intro f
  induction f with
  | zero => intro v2 T hT kk; exact kk.elim
  | succ f ih =>
    intro v2 T hT kk
    rw [ok_m_copyLevel_5] at kk
    rw [x_m_copyLevel_5]
    refine fr_if (Q := (Fr W T0)) (fun c13_1 => ?_) (fun c13_1 => ?_)
    · have kk := kk.1 c13_1
      exact hk v2 T hT kk
    · have kk := kk.2 c13_1
      obtain ⟨q1, kk⟩ := kk
      have gq1 := in_lt q1
      obtain ⟨q2, kk⟩ := kk
      have gq2 := in_lt q2
      refine fr_nT (Q := (Fr W T0)) (fr_sA (fr_sA hT (hW _ (by unfold WL_m_copyLevel_5; omega))) (hW _ (by unfold WL_m_copyLevel_5; omega))) kk (fun T1 hT1 kk => ?_)
      refine fr_nT (Q := (Fr W T0)) (fr_sA (fr_sA hT1 (hW _ (by unfold WL_m_copyLevel_5; omega))) (hW _ (by unfold WL_m_copyLevel_5; omega))) kk (fun T2 hT2 kk => ?_)
      refine fr_nT (Q := (Fr W T0)) (fr_sA (fr_sA hT2 (hW _ (by unfold WL_m_copyLevel_5; omega))) (hW _ (by unfold WL_m_copyLevel_5; omega))) kk (fun T3 hT3 kk => ?_)
      exact ih (v2 + 1) (sA T3 584 (v2 : Int32).toNatClampNeg (T3.2.2.1 584 (v2 - 60 : Int32).toNatClampNeg)) (fr_sA hT3 (hW _ (by unfold WL_m_copyLevel_5; omega))) kk
def W_m_copyLevel (T : St) (p0 : Int32) : Nat → Prop := fun c => (578 ≤ c ∧ c < 585)
theorem fr_m_copyLevel {T : St} (p0 : Int32) (kk : ok_m_copyLevel T p0) : Fr (W_m_copyLevel T p0) T (x_m_copyLevel T p0) := by
  unfold ok_m_copyLevel at kk
  have hW : ∀ c, W_m_copyLevel T p0 c → W_m_copyLevel T p0 c := fun _ h => h
  have hT : Fr (W_m_copyLevel T p0) T T := fr_rfl
  unfold x_m_copyLevel
  refine fr_m_copyLevel_5 p0 (fun c h => hW c (by unfold WL_m_copyLevel_5 at h; unfold W_m_copyLevel; omega)) (fun w1_2 T201 hT201 kk => ?_) 1000 (60 * p0) T hT kk
  exact hT201
def WL_m_addStep_11 (l1 : Int32) (l2 : Int32) (l3 : Int32) (l4 : Int32) (l5 : Int32) : Nat → Prop := fun c => (578 ≤ c ∧ c < 582) ∨ (583 ≤ c ∧ c < 585)
theorem fr_m_addStep_11 {W : Nat → Prop} {T0 : St} (l1 : Int32) (l2 : Int32) (l3 : Int32) (l4 : Int32) (l5 : Int32) {K : Int32 → St → St} {Kk : Int32 → St → Prop} (hW : ∀ c, WL_m_addStep_11 l1 l2 l3 l4 l5 c → W c) (hk : ∀ (v6 : Int32) (T : St), Fr W T0 T → Kk v6 T → (Fr W T0) (K v6 T)) : ∀ (f : Nat) (v6 : Int32) (T : St), Fr W T0 T → ok_m_addStep_11 l1 l2 l3 l4 l5 Kk f v6 T → (Fr W T0) (x_m_addStep_11 l1 l2 l3 l4 l5 K f v6 T) := by
  intro f
  induction f with
  | zero => intro v6 T hT kk; exact kk.elim
  | succ f ih =>
    intro v6 T hT kk
    rw [ok_m_addStep_11] at kk
    rw [x_m_addStep_11]
    refine fr_if (Q := (Fr W T0)) (fun c15_1 => ?_) (fun c15_1 => ?_)
    · have kk := kk.1 c15_1
      exact hk v6 T hT kk
    · have kk := kk.2 c15_1
      refine fr_n (Q := (Fr W T0)) kk (fun i1 kk => ?_)
      obtain ⟨q2, kk⟩ := kk
      have gq2 := in_lt q2
      refine fr_jn (Q := (Fr W T0)) (J := fun (KJ1 : Int32 → St) (OJ1 : Int32 → Prop) => ∀ (j1_s3 : Int32), OJ1 j1_s3 → (Fr W T0) (KJ1 j1_s3)) kk (fun j1_s3 kk => ?_) (fun KJ1 OJ1 hJ1 kk => ?_)
      · skip
        refine fr_jn (Q := (Fr W T0)) (J := fun (KJ2 : St) (OJ2 : Prop) => OJ2 → (Fr W T0) (KJ2)) kk (fun  kk => ?_) (fun KJ2 OJ2 hJ2 kk => ?_)
        · skip
          refine fr_nT (Q := (Fr W T0)) (fr_sA (fr_sA hT (hW _ (by unfold WL_m_addStep_11; omega))) (hW _ (by unfold WL_m_addStep_11; omega))) kk (fun T21 hT21 kk => ?_)
          refine fr_jn (Q := (Fr W T0)) (J := fun (KJ3 : St → St) (OJ3 : St → Prop) => ∀ (T303 : St), Fr W T0 T303 → OJ3 T303 → (Fr W T0) (KJ3 T303)) kk (fun T303 hT303 kk => ?_) (fun KJ3 OJ3 hJ3 kk => ?_)
          · skip
            obtain ⟨q15, kk⟩ := kk
            refine fr_jn (Q := (Fr W T0)) (J := fun (KJ4 : St) (OJ4 : Prop) => OJ4 → (Fr W T0) (KJ4)) kk (fun  kk => ?_) (fun KJ4 OJ4 hJ4 kk => ?_)
            · skip
              exact ih (v6 + 1) (sA T303 581 (i1 : Int32).toNatClampNeg ((T303.2.2.1 581 (i1 : Int32).toNatClampNeg) + 1)) (fr_sA hT303 (hW _ (by unfold WL_m_addStep_11; omega))) kk
            · skip
              refine fr_if (Q := (Fr W T0)) (fun c191_31 => ?_) (fun c191_31 => ?_)
              · have kk := kk.1 c191_31
                exact hJ4  kk
              · have kk := kk.2 c191_31
                refine fr_jn (Q := (Fr W T0)) (J := fun (KJ5 : St) (OJ5 : Prop) => OJ5 → (Fr W T0) (KJ5)) kk (fun  kk => ?_) (fun KJ5 OJ5 hJ5 kk => ?_)
                · skip
                  exact ih (v6 + 1) (sA T303 581 (i1 : Int32).toNatClampNeg ((T303.2.2.1 581 (i1 : Int32).toNatClampNeg) + 0)) (fr_sA hT303 (hW _ (by unfold WL_m_addStep_11; omega))) kk
                · skip
                  refine fr_if (Q := (Fr W T0)) (fun c201_34 => ?_) (fun c201_34 => ?_)
                  · have kk := kk.1 c201_34
                    refine fr_if (Q := (Fr W T0)) (fun c206_35 => ?_) (fun c206_35 => ?_)
                    · have kk := kk.1 c206_35
                      exact hJ4  kk
                    · have kk := kk.2 c206_35
                      exact hJ5  kk
                  · have kk := kk.2 c201_34
                    exact hJ5  kk
          · skip
            refine fr_if (Q := (Fr W T0)) (fun c84_36 => ?_) (fun c84_36 => ?_)
            · have kk := kk.1 c84_36
              obtain ⟨q16, kk⟩ := kk
              refine fr_jn (Q := (Fr W T0)) (J := fun (KJ6 : Int32 → St) (OJ6 : Int32 → Prop) => ∀ (j6_s2 : Int32), OJ6 j6_s2 → (Fr W T0) (KJ6 j6_s2)) kk (fun j6_s2 kk => ?_) (fun KJ6 OJ6 hJ6 kk => ?_)
              · skip
                refine fr_nT (Q := (Fr W T0)) (fr_sA (fr_sA hT21 (hW _ (by unfold WL_m_addStep_11; omega))) (hW _ (by unfold WL_m_addStep_11; omega))) kk (fun T24 hT24 kk => ?_)
                obtain ⟨q17, kk⟩ := kk
                refine fr_if (Q := (Fr W T0)) (fun c156_38 => ?_) (fun c156_38 => ?_)
                · have kk := kk.1 c156_38
                  exact hJ3 (sA T24 584 (i1 : Int32).toNatClampNeg (T24.2.2.1 584 (i1 : Int32).toNatClampNeg)) (fr_sA hT24 (hW _ (by unfold WL_m_addStep_11; omega))) kk
                · have kk := kk.2 c156_38
                  exact hJ3 (sA T24 584 (i1 : Int32).toNatClampNeg (x_m_stepOf T24 l2 5)) (fr_sA hT24 (hW _ (by unfold WL_m_addStep_11; omega))) kk
              · skip
                refine fr_if (Q := (Fr W T0)) (fun c117_39 => ?_) (fun c117_39 => ?_)
                · have kk := kk.1 c117_39
                  exact hJ6 ((sA T21 580 (i1 : Int32).toNatClampNeg ((T21.2.2.1 580 (i1 : Int32).toNatClampNeg) + 1)).2.2.1 583 (i1 : Int32).toNatClampNeg) kk
                · have kk := kk.2 c117_39
                  exact hJ6 (x_m_stepOf (sA T21 580 (i1 : Int32).toNatClampNeg ((T21.2.2.1 580 (i1 : Int32).toNatClampNeg) + 1)) l2 4) kk
            · have kk := kk.2 c84_36
              exact hJ3 T21 hT21 kk
        · skip
          refine fr_if (Q := (Fr W T0)) (fun c61_40 => ?_) (fun c61_40 => ?_)
          · have kk := kk.1 c61_40
            obtain ⟨q18, kk⟩ := kk
            refine fr_if (Q := (Fr W T0)) (fun c71_41 => ?_) (fun c71_41 => ?_)
            · have kk := kk.1 c71_41
              refine fr_nT (Q := (Fr W T0)) (fr_sA (fr_sA hT (hW _ (by unfold WL_m_addStep_11; omega))) (hW _ (by unfold WL_m_addStep_11; omega))) kk (fun T25 hT25 kk => ?_)
              refine fr_jn (Q := (Fr W T0)) (J := fun (KJ7 : St → St) (OJ7 : St → Prop) => ∀ (T307 : St), Fr W T0 T307 → OJ7 T307 → (Fr W T0) (KJ7 T307)) kk (fun T307 hT307 kk => ?_) (fun KJ7 OJ7 hJ7 kk => ?_)
              · skip
                obtain ⟨q22, kk⟩ := kk
                refine fr_jn (Q := (Fr W T0)) (J := fun (KJ8 : St) (OJ8 : Prop) => OJ8 → (Fr W T0) (KJ8)) kk (fun  kk => ?_) (fun KJ8 OJ8 hJ8 kk => ?_)
                · skip
                  exact ih (v6 + 1) (sA T307 581 (i1 : Int32).toNatClampNeg ((T307.2.2.1 581 (i1 : Int32).toNatClampNeg) + 1)) (fr_sA hT307 (hW _ (by unfold WL_m_addStep_11; omega))) kk
                · skip
                  refine fr_if (Q := (Fr W T0)) (fun c191_49 => ?_) (fun c191_49 => ?_)
                  · have kk := kk.1 c191_49
                    exact hJ8  kk
                  · have kk := kk.2 c191_49
                    refine fr_jn (Q := (Fr W T0)) (J := fun (KJ9 : St) (OJ9 : Prop) => OJ9 → (Fr W T0) (KJ9)) kk (fun  kk => ?_) (fun KJ9 OJ9 hJ9 kk => ?_)
                    · skip
                      exact ih (v6 + 1) (sA T307 581 (i1 : Int32).toNatClampNeg ((T307.2.2.1 581 (i1 : Int32).toNatClampNeg) + 0)) (fr_sA hT307 (hW _ (by unfold WL_m_addStep_11; omega))) kk
                    · skip
                      refine fr_if (Q := (Fr W T0)) (fun c201_52 => ?_) (fun c201_52 => ?_)
                      · have kk := kk.1 c201_52
                        refine fr_if (Q := (Fr W T0)) (fun c206_53 => ?_) (fun c206_53 => ?_)
                        · have kk := kk.1 c206_53
                          exact hJ8  kk
                        · have kk := kk.2 c206_53
                          exact hJ9  kk
                      · have kk := kk.2 c201_52
                        exact hJ9  kk
              · skip
                refine fr_if (Q := (Fr W T0)) (fun c84_54 => ?_) (fun c84_54 => ?_)
                · have kk := kk.1 c84_54
                  obtain ⟨q23, kk⟩ := kk
                  refine fr_jn (Q := (Fr W T0)) (J := fun (KJ10 : Int32 → St) (OJ10 : Int32 → Prop) => ∀ (j10_s2 : Int32), OJ10 j10_s2 → (Fr W T0) (KJ10 j10_s2)) kk (fun j10_s2 kk => ?_) (fun KJ10 OJ10 hJ10 kk => ?_)
                  · skip
                    refine fr_nT (Q := (Fr W T0)) (fr_sA (fr_sA hT25 (hW _ (by unfold WL_m_addStep_11; omega))) (hW _ (by unfold WL_m_addStep_11; omega))) kk (fun T28 hT28 kk => ?_)
                    obtain ⟨q24, kk⟩ := kk
                    refine fr_if (Q := (Fr W T0)) (fun c156_56 => ?_) (fun c156_56 => ?_)
                    · have kk := kk.1 c156_56
                      exact hJ7 (sA T28 584 (i1 : Int32).toNatClampNeg (T28.2.2.1 584 (i1 : Int32).toNatClampNeg)) (fr_sA hT28 (hW _ (by unfold WL_m_addStep_11; omega))) kk
                    · have kk := kk.2 c156_56
                      exact hJ7 (sA T28 584 (i1 : Int32).toNatClampNeg (x_m_stepOf T28 l2 5)) (fr_sA hT28 (hW _ (by unfold WL_m_addStep_11; omega))) kk
                  · skip
                    refine fr_if (Q := (Fr W T0)) (fun c117_57 => ?_) (fun c117_57 => ?_)
                    · have kk := kk.1 c117_57
                      exact hJ10 ((sA T25 580 (i1 : Int32).toNatClampNeg ((T25.2.2.1 580 (i1 : Int32).toNatClampNeg) + 1)).2.2.1 583 (i1 : Int32).toNatClampNeg) kk
                    · have kk := kk.2 c117_57
                      exact hJ10 (x_m_stepOf (sA T25 580 (i1 : Int32).toNatClampNeg ((T25.2.2.1 580 (i1 : Int32).toNatClampNeg) + 1)) l2 4) kk
                · have kk := kk.2 c84_54
                  exact hJ7 T25 hT25 kk
            · have kk := kk.2 c71_41
              exact hJ2  kk
          · have kk := kk.2 c61_40
            exact hJ2  kk
      · skip
        refine fr_if (Q := (Fr W T0)) (fun c40_58 => ?_) (fun c40_58 => ?_)
        · have kk := kk.1 c40_58
          exact hJ1 1 kk
        · have kk := kk.2 c40_58
          exact hJ1 0 kk
def W_m_addStep (T : St) (p0 : Int32) (p1 : Int32) (p2 : Int32) (p3 : Int32) : Nat → Prop := fun c => (578 ≤ c ∧ c < 582) ∨ (583 ≤ c ∧ c < 585)
theorem fr_m_addStep {T : St} (p0 : Int32) (p1 : Int32) (p2 : Int32) (p3 : Int32) (kk : ok_m_addStep T p0 p1 p2 p3) : Fr (W_m_addStep T p0 p1 p2 p3) T (x_m_addStep T p0 p1 p2 p3) := by
  unfold ok_m_addStep at kk
  have hW : ∀ c, W_m_addStep T p0 p1 p2 p3 c → W_m_addStep T p0 p1 p2 p3 c := fun _ h => h
  have hT : Fr (W_m_addStep T p0 p1 p2 p3) T T := fr_rfl
  unfold x_m_addStep
  obtain ⟨q1, kk⟩ := kk
  refine fr_m_addStep_11 p0 p1 p2 p3 (x_m_stepOf T p1 0) (fun c h => hW c (by unfold WL_m_addStep_11 at h; unfold W_m_addStep; omega)) (fun w1_6 T201 hT201 kk => ?_) 1000 0 T hT kk
  exact hT201
def WL_m_addPan_8 (l1 : Int32) (l2 : Int32) (l3 : Int32) : Nat → Prop := fun c => (582 ≤ c ∧ c < 583)
theorem fr_m_addPan_8 {W : Nat → Prop} {T0 : St} (l1 : Int32) (l2 : Int32) (l3 : Int32) {K : Int32 → St → St} {Kk : Int32 → St → Prop} (hW : ∀ c, WL_m_addPan_8 l1 l2 l3 c → W c) (hk : ∀ (v4 : Int32) (T : St), Fr W T0 T → Kk v4 T → (Fr W T0) (K v4 T)) : ∀ (f : Nat) (v4 : Int32) (T : St), Fr W T0 T → ok_m_addPan_8 l1 l2 l3 Kk f v4 T → (Fr W T0) (x_m_addPan_8 l1 l2 l3 K f v4 T) := by
  intro f
  induction f with
  | zero => intro v4 T hT kk; exact kk.elim
  | succ f ih =>
    intro v4 T hT kk
    rw [ok_m_addPan_8] at kk
    rw [x_m_addPan_8]
    refine fr_if (Q := (Fr W T0)) (fun c16_1 => ?_) (fun c16_1 => ?_)
    · have kk := kk.1 c16_1
      exact hk v4 T hT kk
    · have kk := kk.2 c16_1
      obtain ⟨q1, kk⟩ := kk
      have gq1 := in_lt q1
      exact ih (v4 + 1) (sA T 582 (v4 : Int32).toNatClampNeg ((T.2.2.1 582 (v4 : Int32).toNatClampNeg) + 1)) (fr_sA hT (hW _ (by unfold WL_m_addPan_8; omega))) kk
def W_m_addPan (T : St) (p0 : Int32) (p1 : Int32) (p2 : Int32) : Nat → Prop := fun c => (582 ≤ c ∧ c < 583)
theorem fr_m_addPan {T : St} (p0 : Int32) (p1 : Int32) (p2 : Int32) (kk : ok_m_addPan T p0 p1 p2) : Fr (W_m_addPan T p0 p1 p2) T (x_m_addPan T p0 p1 p2) := by
  unfold ok_m_addPan at kk
  have hW : ∀ c, W_m_addPan T p0 p1 p2 c → W_m_addPan T p0 p1 p2 c := fun _ h => h
  have hT : Fr (W_m_addPan T p0 p1 p2) T T := fr_rfl
  unfold x_m_addPan
  refine fr_m_addPan_8 p0 p1 p2 (fun c h => hW c (by unfold WL_m_addPan_8 at h; unfold W_m_addPan; omega)) (fun w1_4 T201 hT201 kk => ?_) 1000 ((60 * p0) + p1) T hT kk
  exact hT201
def WL_m_layBegins_92 (l1 : Int32) (l2 : Int32) (l3 : Int32) (l4 : Int32) (l5 : Int32) (l6 : Int32) (l7 : Int32) (l8 : Int32) : Nat → Prop := fun c => (588 ≤ c ∧ c < 589)
theorem fr_m_layBegins_92 {W : Nat → Prop} {T0 : St} (l1 : Int32) (l2 : Int32) (l3 : Int32) (l4 : Int32) (l5 : Int32) (l6 : Int32) (l7 : Int32) (l8 : Int32) {K : Int32 → Int32 → Int32 → Int32 → Int32 → St → Int32 × St} {Kk : Int32 → Int32 → Int32 → Int32 → Int32 → St → Prop} (hW : ∀ c, WL_m_layBegins_92 l1 l2 l3 l4 l5 l6 l7 l8 c → W c) (hk : ∀ (v9 : Int32) (v10 : Int32) (v11 : Int32) (v12 : Int32) (v13 : Int32) (T : St), Fr W T0 T → Kk v9 v10 v11 v12 v13 T → (FrP W T0) (K v9 v10 v11 v12 v13 T)) : ∀ (f : Nat) (v9 : Int32) (v10 : Int32) (v11 : Int32) (v12 : Int32) (v13 : Int32) (T : St), Fr W T0 T → ok_m_layBegins_92 l1 l2 l3 l4 l5 l6 l7 l8 Kk f v9 v10 v11 v12 v13 T → (FrP W T0) (x_m_layBegins_92 l1 l2 l3 l4 l5 l6 l7 l8 K f v9 v10 v11 v12 v13 T) := by
  intro f
  induction f with
  | zero => intro v9 v10 v11 v12 v13 T hT kk; exact kk.elim
  | succ f ih =>
    intro v9 v10 v11 v12 v13 T hT kk
    rw [ok_m_layBegins_92] at kk
    rw [x_m_layBegins_92]
    refine fr_if (Q := (FrP W T0)) (fun c94_1 => ?_) (fun c94_1 => ?_)
    · have kk := kk.1 c94_1
      exact hk v9 v10 v11 v12 v13 T hT kk
    · have kk := kk.2 c94_1
      obtain ⟨q8, kk⟩ := kk
      refine fr_n (Q := (FrP W T0)) kk (fun i8 kk => ?_)
      refine fr_jn (Q := (FrP W T0)) (J := fun (KJ1 : Int32 → Int32 × St) (OJ1 : Int32 → Prop) => ∀ (j1_s0 : Int32), OJ1 j1_s0 → (FrP W T0) (KJ1 j1_s0)) kk (fun j1_s0 kk => ?_) (fun KJ1 OJ1 hJ1 kk => ?_)
      · skip
        obtain ⟨q9, kk⟩ := kk
        obtain ⟨q10, kk⟩ := kk
        have gq10 := in_lt q10
        refine fr_n (Q := (FrP W T0)) kk (fun i9 kk => ?_)
        obtain ⟨q11, kk⟩ := kk
        refine fr_jn (Q := (FrP W T0)) (J := fun (KJ2 : Int32 → Int32 × St) (OJ2 : Int32 → Prop) => ∀ (j2_s1 : Int32), OJ2 j2_s1 → (FrP W T0) (KJ2 j2_s1)) kk (fun j2_s1 kk => ?_) (fun KJ2 OJ2 hJ2 kk => ?_)
        · skip
          refine fr_if (Q := (FrP W T0)) (fun c216_5 => ?_) (fun c216_5 => ?_)
          · have kk := kk.1 c216_5
            exact ih i9 (v10 + j1_s0) (v11 + j2_s1) 0 (v13 + (-1)) (sA T 588 ((3 * l1) + v13 : Int32).toNatClampNeg ((v9 - j1_s0) - (x_m_stepOf T i8 1))) (fr_sA hT (hW _ (by unfold WL_m_layBegins_92; omega))) kk
          · have kk := kk.2 c216_5
            refine fr_jn (Q := (FrP W T0)) (J := fun (KJ3 : Int32 × St) (OJ3 : Prop) => OJ3 → (FrP W T0) (KJ3)) kk (fun  kk => ?_) (fun KJ3 OJ3 hJ3 kk => ?_)
            · skip
              refine fr_if (Q := (FrP W T0)) (fun c269_9 => ?_) (fun c269_9 => ?_)
              · have kk := kk.1 c269_9
                exact ih i9 (v10 + j1_s0) (v11 + j2_s1) 0 (v13 + (-1)) (sA T 588 ((3 * l1) + v13 : Int32).toNatClampNeg ((v9 - j1_s0) - (x_m_stepOf T i8 1))) (fr_sA hT (hW _ (by unfold WL_m_layBegins_92; omega))) kk
              · have kk := kk.2 c269_9
                exact ih i9 (v10 + j1_s0) (v11 + j2_s1) 1 (v13 + (-1)) (sA T 588 ((3 * l1) + v13 : Int32).toNatClampNeg ((v9 - j1_s0) - (x_m_stepOf T i8 1))) (fr_sA hT (hW _ (by unfold WL_m_layBegins_92; omega))) kk
            · skip
              refine fr_if (Q := (FrP W T0)) (fun c223_10 => ?_) (fun c223_10 => ?_)
              · have kk := kk.1 c223_10
                exact hJ3  kk
              · have kk := kk.2 c223_10
                refine fr_if (Q := (FrP W T0)) (fun c241_11 => ?_) (fun c241_11 => ?_)
                · have kk := kk.1 c241_11
                  exact hJ3  kk
                · have kk := kk.2 c241_11
                  refine fr_if (Q := (FrP W T0)) (fun c257_12 => ?_) (fun c257_12 => ?_)
                  · have kk := kk.1 c257_12
                    exact ih i9 (v10 + j1_s0) (v11 + j2_s1) 1 (v13 + (-1)) (sA T 588 ((3 * l1) + v13 : Int32).toNatClampNeg ((v9 - j1_s0) - (x_m_stepOf T i8 1))) (fr_sA hT (hW _ (by unfold WL_m_layBegins_92; omega))) kk
                  · have kk := kk.2 c257_12
                    exact ih i9 (v10 + j1_s0) (v11 + j2_s1) 0 (v13 + (-1)) (sA T 588 ((3 * l1) + v13 : Int32).toNatClampNeg ((v9 - j1_s0) - (x_m_stepOf T i8 1))) (fr_sA hT (hW _ (by unfold WL_m_layBegins_92; omega))) kk
        · skip
          refine fr_if (Q := (FrP W T0)) (fun c189_13 => ?_) (fun c189_13 => ?_)
          · have kk := kk.1 c189_13
            obtain ⟨q14, kk⟩ := kk
            obtain ⟨q15, kk⟩ := kk
            exact hJ2 ((x_m_stepOf (sA T 588 ((3 * l1) + v13 : Int32).toNatClampNeg ((v9 - j1_s0) - (x_m_stepOf T i8 1))) i8 4) * (x_m_stepOf (sA T 588 ((3 * l1) + v13 : Int32).toNatClampNeg ((v9 - j1_s0) - (x_m_stepOf T i8 1))) i8 1)) kk
          · have kk := kk.2 c189_13
            exact hJ2 0 kk
      · skip
        refine fr_if (Q := (FrP W T0)) (fun c114_14 => ?_) (fun c114_14 => ?_)
        · have kk := kk.1 c114_14
          exact hJ1 0 kk
        · have kk := kk.2 c114_14
          refine fr_if (Q := (FrP W T0)) (fun c123_15 => ?_) (fun c123_15 => ?_)
          · have kk := kk.1 c123_15
            exact hJ1 l7 kk
          · have kk := kk.2 c123_15
            exact hJ1 l8 kk
def W_m_layBegins (T : St) (p0 : Int32) (p1 : Int32) : Nat → Prop := fun c => (587 ≤ c ∧ c < 589)
theorem fr_m_layBegins {T : St} (p0 : Int32) (p1 : Int32) (kk : ok_m_layBegins T p0 p1) : FrP (W_m_layBegins T p0 p1) T (x_m_layBegins T p0 p1) := by
  unfold ok_m_layBegins at kk
  have hW : ∀ c, W_m_layBegins T p0 p1 c → W_m_layBegins T p0 p1 c := fun _ h => h
  have hT : Fr (W_m_layBegins T p0 p1) T T := fr_rfl
  unfold x_m_layBegins
  obtain ⟨q1, kk⟩ := kk
  have gq1 := in_lt q1
  refine fr_n (Q := (FrP (W_m_layBegins T p0 p1) T)) kk (fun i1 kk => ?_)
  obtain ⟨q2, kk⟩ := kk
  obtain ⟨q3, kk⟩ := kk
  have gq3 := in_lt q3
  refine fr_n (Q := (FrP (W_m_layBegins T p0 p1) T)) kk (fun i2 kk => ?_)
  obtain ⟨q4, kk⟩ := kk
  obtain ⟨q5, kk⟩ := kk
  refine fr_n (Q := (FrP (W_m_layBegins T p0 p1) T)) kk (fun i3 kk => ?_)
  refine fr_n (Q := (FrP (W_m_layBegins T p0 p1) T)) kk (fun i4 kk => ?_)
  obtain ⟨q6, kk⟩ := kk
  obtain ⟨q7, kk⟩ := kk
  refine fr_n (Q := (FrP (W_m_layBegins T p0 p1) T)) kk (fun i5 kk => ?_)
  refine fr_n (Q := (FrP (W_m_layBegins T p0 p1) T)) kk (fun i6 kk => ?_)
  refine fr_n (Q := (FrP (W_m_layBegins T p0 p1) T)) kk (fun i7 kk => ?_)
  refine fr_m_layBegins_92 p0 p1 i1 (x_m_dishOf T i1 3) i4 i3 i5 i6 (fun c h => hW c (by unfold WL_m_layBegins_92 at h; unfold W_m_layBegins; omega)) (fun w1_9 w1_10 w1_11 w1_12 w1_13 T201 hT201 kk => ?_) 1000 (p1 - i3) 0 0 1 i7 T hT kk
  obtain ⟨q16, kk⟩ := kk
  obtain ⟨q17, kk⟩ := kk
  have gq17 := in_lt q17
  refine fr_nT0 (Q := (FrP (W_m_layBegins T p0 p1) T)) (fr_sA hT201 (hW _ (by unfold W_m_layBegins; omega))) (fun T10 hT10 => ?_)
  refine fr_if (Q := (FrP (W_m_layBegins T p0 p1) T)) (fun c317_16 => ?_) (fun c317_16 => ?_)
  · exact frp_i hT10
  · refine fr_if (Q := (FrP (W_m_layBegins T p0 p1) T)) (fun c322_17 => ?_) (fun c322_17 => ?_)
    · exact frp_i hT10
    · exact frp_i hT10
def WL_m_fits_38 (l1 : Int32) (l2 : Int32) (l3 : Int32) (l4 : Int32) (l5 : Int32) (l6 : Int32) : Nat → Prop := fun c => (578 ≤ c ∧ c < 582) ∨ (583 ≤ c ∧ c < 585)
theorem fr_m_fits_38 {W : Nat → Prop} {T0 : St} (l1 : Int32) (l2 : Int32) (l3 : Int32) (l4 : Int32) (l5 : Int32) (l6 : Int32) {K : Int32 → St → Int32 × St} {Kk : Int32 → St → Prop} (hW : ∀ c, WL_m_fits_38 l1 l2 l3 l4 l5 l6 c → W c) (hk : ∀ (v7 : Int32) (T : St), Fr W T0 T → Kk v7 T → (FrP W T0) (K v7 T)) : ∀ (f : Nat) (v7 : Int32) (T : St), Fr W T0 T → ok_m_fits_38 l1 l2 l3 l4 l5 l6 Kk f v7 T → (FrP W T0) (x_m_fits_38 l1 l2 l3 l4 l5 l6 K f v7 T) := by
  intro f
  induction f with
  | zero => intro v7 T hT kk; exact kk.elim
  | succ f ih =>
    intro v7 T hT kk
    rw [ok_m_fits_38] at kk
    rw [x_m_fits_38]
    refine fr_if (Q := (FrP W T0)) (fun c42_2 => ?_) (fun c42_2 => ?_)
    · have kk := kk.1 c42_2
      exact hk v7 T hT kk
    · have kk := kk.2 c42_2
      obtain ⟨q5, kk⟩ := kk
      refine fr_n (Q := (FrP W T0)) kk (fun i3 kk => ?_)
      obtain ⟨q6, kk⟩ := kk
      have gq6 := in_lt q6
      obtain ⟨q7, kk⟩ := kk
      obtain ⟨q8, kk⟩ := kk
      refine fr_nT (Q := (FrP W T0)) (fr_tr hT ((fr_m_addStep (l1 + 1) i3 (T.2.2.1 588 ((3 * l1) + v7 : Int32).toNatClampNeg) (x_m_stepOf T i3 1) q8)) (fun c h => hW c (by unfold W_m_addStep at h; unfold WL_m_fits_38; omega))) kk (fun T4 hT4 kk => ?_)
      exact ih (v7 + 1) T4 hT4 kk
def W_m_fits (T : St) (p0 : Int32) (p1 : Int32) (p2 : Int32) (p3 : Int32) : Nat → Prop := fun c => (578 ≤ c ∧ c < 585) ∨ (587 ≤ c ∧ c < 589)
theorem fr_m_fits {T : St} (p0 : Int32) (p1 : Int32) (p2 : Int32) (p3 : Int32) (kk : ok_m_fits T p0 p1 p2 p3) : FrP (W_m_fits T p0 p1 p2 p3) T (x_m_fits T p0 p1 p2 p3) := by
  unfold ok_m_fits at kk
  have hW : ∀ c, W_m_fits T p0 p1 p2 p3 c → W_m_fits T p0 p1 p2 p3 c := fun _ h => h
  have hT : Fr (W_m_fits T p0 p1 p2 p3) T T := fr_rfl
  unfold x_m_fits
  obtain ⟨q1, kk⟩ := kk
  refine fr_if (Q := (FrP (W_m_fits T p0 p1 p2 p3) T)) (fun c6_1 => ?_) (fun c6_1 => ?_)
  · exact frp_i (fr_tr hT (frp_o (fr_m_layBegins p0 p1 q1)) (fun c h => hW c (by unfold W_m_layBegins at h; unfold W_m_fits; omega)))
  · have kk := kk c6_1
    obtain ⟨q2, kk⟩ := kk
    have gq2 := in_lt q2
    refine fr_n (Q := (FrP (W_m_fits T p0 p1 p2 p3) T)) kk (fun i1 kk => ?_)
    obtain ⟨q3, kk⟩ := kk
    refine fr_n (Q := (FrP (W_m_fits T p0 p1 p2 p3) T)) kk (fun i2 kk => ?_)
    obtain ⟨q4, kk⟩ := kk
    refine fr_m_fits_38 p0 p1 p2 p3 i1 i2 (fun c h => hW c (by unfold WL_m_fits_38 at h; unfold W_m_fits; omega)) (fun w1_7 T201 hT201 kk => ?_) 1000 0 (x_m_copyLevel ((x_m_layBegins T p0 p1).2) (p0 + 1)) (fr_tr (fr_tr hT (frp_o (fr_m_layBegins p0 p1 q1)) (fun c h => hW c (by unfold W_m_layBegins at h; unfold W_m_fits; omega))) ((fr_m_copyLevel (p0 + 1) q4)) (fun c h => hW c (by unfold W_m_copyLevel at h; unfold W_m_fits; omega))) kk
    obtain ⟨q9, kk⟩ := kk
    refine fr_n (Q := (FrP (W_m_fits T p0 p1 p2 p3) T)) kk (fun i5 kk => ?_)
    obtain ⟨q10, kk⟩ := kk
    refine fr_jn (Q := (FrP (W_m_fits T p0 p1 p2 p3) T)) (J := fun (KJ1 : St → Int32 × St) (OJ1 : St → Prop) => ∀ (T301 : St), Fr (W_m_fits T p0 p1 p2 p3) T T301 → OJ1 T301 → (FrP (W_m_fits T p0 p1 p2 p3) T) (KJ1 T301)) kk (fun T301 hT301 kk => ?_) (fun KJ1 OJ1 hJ1 kk => ?_)
    · skip
      obtain ⟨q15, kk⟩ := kk
      refine fr_if (Q := (FrP (W_m_fits T p0 p1 p2 p3) T)) (fun c163_4 => ?_) (fun c163_4 => ?_)
      · exact frp_i hT301
      · exact frp_i hT301
    · skip
      refine fr_if (Q := (FrP (W_m_fits T p0 p1 p2 p3) T)) (fun c112_5 => ?_) (fun c112_5 => ?_)
      · have kk := kk.1 c112_5
        obtain ⟨q16, kk⟩ := kk
        have gq16 := in_lt q16
        obtain ⟨q17, kk⟩ := kk
        have gq17 := in_lt q17
        obtain ⟨q18, kk⟩ := kk
        obtain ⟨q19, kk⟩ := kk
        refine fr_nT (Q := (FrP (W_m_fits T p0 p1 p2 p3) T)) (fr_tr hT201 ((fr_m_addPan (p0 + 1) (T201.2.2.1 588 (3 * p0 : Int32).toNatClampNeg) ((T201.2.2.1 588 (((3 * p0) + i2) - 1 : Int32).toNatClampNeg) + (x_m_stepOf T201 i5 1)) q19)) (fun c h => hW c (by unfold W_m_addPan at h; unfold W_m_fits; omega))) kk (fun T7 hT7 kk => ?_)
        exact hJ1 T7 hT7 kk
      · have kk := kk.2 c112_5
        exact hJ1 T201 hT201 kk
