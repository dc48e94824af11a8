/-! ===== the reference reads a book ===== -/
def WmB (c : Nat) : Prop := c = 576 ∨ c = 67100 ∨ c = 67109 ∨ (67111 ≤ c ∧ c < 67118)
def WmC (c : Nat) : Prop := WmB c ∨ c = 575 ∨ c = 67107 ∨ c = 67110 ∨ c = 67132 ∨ c = 67134
section REF
variable {tp : Nat → Nat} {n : Nat} {V : St} {S : Nat × Nat × (Nat → Int)}
def mbQ (tp : Nat → Nat) (n : Nat) (V : St) (r : Int32 × St) : Prop :=
  (¬ (p_all tp n).1 = 0 → r.1 = iz (-1000100 - (tpl tp n (p_all tp n).2.1 : Int)) ∧ r.2.1 571 10 = iz (p_all tp n).1 ∧ r.2.1 571 9 = 0 ∧ Fr (fun c => WmB c ∨ c = 67110) V r.2) ∧
  ((p_all tp n).1 = 0 → r.1 = iz ((p_all tp n).2.2 16) ∧ (∀ j, j < 204 → r.2.2.2.1 575 j = iz (upB (upB (p_all tp n).2.2 202 1) 203 60 j)) ∧ r.2.1 571 7 = 1 ∧ r.2.1 571 32 = 0 ∧ r.2.1 571 34 = -1000000 ∧ r.2.1 571 9 = 0 ∧ r.2.1 571 10 = V.1 571 10 ∧ Fr WmC V r.2)
theorem chk_dl {S : Nat × Nat × (Nat → Int)} : p_dl tp n 9 (p_pd tp n S) = p_dl tp n 10 (if S.1 = 0 ∧ ¬ (iw tp n 2 S.2.1 = true) then a_fl 1 S else S) := by
  by_cases y : S.1 = 0
  · by_cases z : iw tp n 2 S.2.1 = true
    · rw [if_neg (fun q => q.2 z)]
      show _ = (if S.1 = 0 ∧ tso tp n S.2.1 ≠ 0 then p_dl tp n 9 (p_pd tp n S) else S)
      rw [if_pos ⟨y, by rw [(iw_P.1 z).1]; decide⟩]
    · rw [if_pos ⟨y, z⟩, fz_dl (fl_B (by omega))]
      have : p_pd tp n S = a_fl 1 S := by unfold p_pd; rw [if_pos y, if_neg z]
      rw [this, fz_dl (fl_B (by omega))]
  · rw [if_neg (fun q => y q.1), fz_dl y]
    have : p_pd tp n S = S := by unfold p_pd; rw [if_neg y]
    rw [this, fz_dl y]
theorem mb_last {Y : St} (hn : n ≤ 600) (ry : MR tp n Y (p_all tp n)) (Fy : Fr WmB V Y) (Y9 : Y.1 571 9 = 0) : ((((Y.1 571 16) ≤ 0) → wp_m_book_246  (fun w5_1 T205 => mbQ tp n V ((x_m_forget (sF T205 571 7 1)).2.2.1 575 (16 : Int32).toNatClampNeg, x_m_forget (sF T205 571 7 1))) (mbQ tp n V) 1000 0 (sA (sA Y 576 (202 : Int32).toNatClampNeg 1) 576 (203 : Int32).toNatClampNeg 60)) ∧ (¬ ((Y.1 571 16) ≤ 0) → mbQ tp n V ((-1000100) - ((sF Y 571 10 (Y.1 571 16)).1 571 17), sF Y 571 10 (Y.1 571 16)))) := by
  have tb := t_be (tp := tp) hn ry.1.2.1
  rw [MR_00 ry]
  refine ⟨fun q => ?_, fun q => ⟨fun _ => ⟨?_, ?_, ?_, ?_⟩, fun u => absurd u q⟩⟩
  · have rz : ∀ j, j < 204 → (sA (sA Y 576 (202 : Int32).toNatClampNeg 1) 576 (203 : Int32).toNatClampNeg 60).2.2.1 576 j = iz (upB (upB (p_all tp n).2.2 202 1) 203 60 j) := fun j hj => by
      rw [n_202, n_203, gA_A, gA_A]
      unfold upB
      by_cases a : j = 203
      · rw [if_pos ⟨rfl, a⟩, if_pos a]; rfl
      · rw [if_neg (fun t => a t.2), if_neg a]
        by_cases b : j = 202
        · rw [if_pos ⟨rfl, b⟩, if_pos b]; rfl
        · rw [if_neg (fun t => b t.2), if_neg b]; exact MR_v ry q hj
    have Fz : Fr WmB V (sA (sA Y 576 (202 : Int32).toNatClampNeg 1) 576 (203 : Int32).toNatClampNeg 60) := fr_sA (fr_sA Fy (by unfold WmB; omega)) (by unfold WmB; omega)
    have Z9 : (sA (sA Y 576 (202 : Int32).toNatClampNeg 1) 576 (203 : Int32).toNatClampNeg 60).1 571 9 = 0 := Y9
    generalize sA (sA Y 576 (202 : Int32).toNatClampNeg 1) 576 (203 : Int32).toNatClampNeg 60 = Z0 at *
    refine wr_m_book_246 (fun v1 T => ∃ i : Nat, v1 = iz i ∧ i ≤ 204 ∧ Fr (fun c => c = 575) Z0 T ∧ ∀ j, j < i → T.2.2.1 575 j = Z0.2.2.1 576 j) (fun v1 _ => (300 - v1.toInt).toNat) ?_ _ _ _ (by decide) ⟨0, rfl, by omega, fr_rfl, fun j hj => absurd hj (by omega)⟩
    rintro _ T6 ⟨i, rfl, i1, f6, g6⟩
    unfold bd_m_book_246
    rw [z_204, iz_le (by omega)]
    refine ⟨fun y => ?_, fun y => ⟨in_nat (by omega) (by omega), ⟨i + 1, by rw [z_1, iz_add]; rfl, by omega, fr_sA f6 rfl, fun j hj => ?_⟩, ?_⟩⟩
    · refine ⟨fun u => absurd q u, fun _ => ⟨?_, fun j hj => ?_, rfl, rfl, rfl, ?_, ?_, ?_⟩⟩
      · show T6.2.2.1 575 16 = _
        rw [g6 16 (by omega), rz 16 (by omega), upB_n (by omega), upB_n (by omega)]
      · show T6.2.2.1 575 j = _
        rw [g6 j (by omega), rz j hj]
      · show T6.1 571 9 = 0
        rw [q_F f6 (by omega)]; exact Z9
      · show T6.1 571 10 = V.1 571 10
        rw [q_F f6 (by omega), q_F Fz (by unfold WmB; omega)]
      · exact fr_sF (fr_sF (fr_sF (fr_tr (fr_le Fz (fun c hc => Or.inl hc)) f6 (fun c hc => by unfold WmC; omega)) (by unfold WmC; omega)) (by unfold WmC; omega)) (by unfold WmC; omega)
    · rw [gA_A, ix_nat (by omega)]
      by_cases a : j = i
      · rw [if_pos ⟨rfl, a⟩, a, q_A f6 (by omega)]
      · rw [if_neg (fun u => a u.2)]; exact g6 j (by omega)
    · show (300 - (iz (i : Int) + 1).toInt).toNat < (300 - (iz (i : Int)).toInt).toNat
      rw [z_1, iz_add, iz_t (by omega), iz_t (by omega)]; omega
  · show (-1000100 : Int32) - (sF Y 571 10 (Y.1 571 16)).1 571 17 = _
    rw [gF_F, if_neg (by omega), ry.2.2.2.1 q, show (-1000100 : Int32) = iz (-1000100) from rfl, iz_sub]
  · show (sF Y 571 10 (Y.1 571 16)).1 571 10 = _
    rw [gF_F, if_pos ⟨rfl, rfl⟩]; exact ry.2.1
  · show (sF Y 571 10 (Y.1 571 16)).1 571 9 = 0
    rw [gF_F, if_neg (by omega)]; exact Y9
  · exact fr_sF (fr_le Fy (fun c hc => Or.inl hc)) (Or.inr rfl)
theorem mb_tail {Z : St} {S5 : Nat × Nat × (Nat → Int)} {l1 : Int32} (hn : n ≤ 600) (rz : MR tp n Z (if S5.1 = 0 ∧ ¬ (iw tp n 2 S5.2.1 = true) then a_fl 1 S5 else S5)) (Fz : Fr WmB V Z) (Z9 : Z.1 571 9 = 0) (eA : p_all tp n = p_dl tp n 10 (if S5.1 = 0 ∧ ¬ (iw tp n 2 S5.2.1 = true) then a_fl 1 S5 else S5)) (v3 : S5.1 = 0 → S5.2.2 16 = 0 ∧ S5.2.2 17 = 0) : wp_m_book_164 l1 (fun  T204 => jn (fun (KJ5 : St → Prop) => ((((T204.1 571 16) = 0) → ((((T204.1 571 13) = 1) → KJ5 T204) ∧ (¬ ((T204.1 571 13) = 1) → KJ5 (x_m_bad T204 1)))) ∧ (¬ ((T204.1 571 16) = 0) → KJ5 T204))) (fun (T305 : St) => ((((T305.1 571 16) ≤ 0) → wp_m_book_246  (fun w5_1 T205 => mbQ tp n V ((x_m_forget (sF T205 571 7 1)).2.2.1 575 (16 : Int32).toNatClampNeg, x_m_forget (sF T205 571 7 1))) (mbQ tp n V) 1000 0 (sA (sA T305 576 (202 : Int32).toNatClampNeg 1) 576 (203 : Int32).toNatClampNeg 60)) ∧ (¬ ((T305.1 571 16) ≤ 0) → mbQ tp n V ((-1000100) - ((sF T305 571 10 (T305.1 571 16)).1 571 17), sF T305 571 10 (T305.1 571 16)))))) (mbQ tp n V) 1000  Z := by
  have last : ∀ Y : St, MR tp n Y (p_all tp n) → Fr WmB V Y → Y.1 571 9 = 0 → ((((Y.1 571 16) ≤ 0) → wp_m_book_246  (fun w5_1 T205 => mbQ tp n V ((x_m_forget (sF T205 571 7 1)).2.2.1 575 (16 : Int32).toNatClampNeg, x_m_forget (sF T205 571 7 1))) (mbQ tp n V) 1000 0 (sA (sA Y 576 (202 : Int32).toNatClampNeg 1) 576 (203 : Int32).toNatClampNeg 60)) ∧ (¬ ((Y.1 571 16) ≤ 0) → mbQ tp n V ((-1000100) - ((sF Y 571 10 (Y.1 571 16)).1 571 17), sF Y 571 10 (Y.1 571 16)))) := fun Y a b c => mb_last hn a b c
  refine wr_m_book_164 l1 (fun T => ∃ (v e : Nat) (X : Nat × Nat × (Nat → Int)), v ≤ 10 ∧ MR tp n T X ∧ Fr WmB V T ∧ T.1 571 9 = 0 ∧ p_all tp n = p_dl tp n (10 - v) X ∧ (X.1 = 0 → X.2.2 16 = v ∧ X.2.2 17 = e ∧ v ≤ 8 ∧ e ≤ 3 * v)) (fun T => if T.1 571 16 = 0 then 20 - ((T.2.2.1 576 16).toInt).toNat else 0) ?_ _ _ ?_ ⟨0, 0, _, by omega, rz, Fz, Z9, eA, fun w => ?_⟩
  · rintro T6 ⟨v6, e6, X, u1, r6, F6, S9, u2, u3⟩
    unfold bd_m_book_164
    obtain ⟨ow6, _, _, ed6⟩ := s_mw r6.1 r6.2.1 r6.2.2.1
    refine ⟨ow6, fun w0 => ?_, fun w0 => ?_⟩
    · have w := ed6.1 w0
      obtain ⟨w1, w2, w3, w4⟩ := u3 w.1
      obtain ⟨oa, ra⟩ := m_dish r6 w.1 w1 w2 w3 w4
      have fa := fr_m_readDish oa
      have dB : (p_dish tp n X).1 = 0 → v6 < 8 ∧ ∃ e : Nat, (p_dish tp n X).2.2 16 = ((v6 + 1 : Nat) : Int) ∧ (p_dish tp n X).2.2 17 = (e : Int) ∧ e ≤ 3 * (v6 + 1) := fun q => by
        obtain ⟨a8, X2, x0, J, ee⟩ := dish_B w1 w2 w3 q
        obtain ⟨vv, _, v3', g17, _⟩ := J x0
        refine ⟨a8, e6 + vv, ?_, ?_, by omega⟩
        · rw [ee, upB_s]
        · rw [ee, upB_n (by omega)]; exact g17
      have eq : p_pd tp n X = p_dish tp n X := by unfold p_pd; rw [if_pos w.1, if_pos w.2]
      have so1 : tso tp n X.2.1 ≠ 0 := by rw [(iw_P.1 w.2).1]; decide
      have e10 : p_all tp n = p_dl tp n (10 - (v6 + 1)) (p_dish tp n X) := by
        rw [u2, show 10 - v6 = (10 - (v6 + 1)) + 1 by omega, ← eq]
        exact if_pos ⟨w.1, so1⟩
      refine ⟨oa, ?_, ?_⟩
      · by_cases q : (p_dish tp n X).1 = 0
        · obtain ⟨a8, e7, b1, b2, b3⟩ := dB q
          exact ⟨v6 + 1, e7, _, by omega, ra, fr_tr F6 fa (fun c hc => by unfold W_m_readDish at hc; unfold WmB; omega), by rw [q_F fa (by unfold W_m_readDish; omega)]; exact S9, e10, fun _ => ⟨b1, b2, by omega, b3⟩⟩
        · exact ⟨v6 + 1, 0, _, by omega, ra, fr_tr F6 fa (fun c hc => by unfold W_m_readDish at hc; unfold WmB; omega), by rw [q_F fa (by unfold W_m_readDish; omega)]; exact S9, e10, fun t => absurd t q⟩
      · show (if (x_m_readDish T6).1 571 16 = 0 then 20 - (((x_m_readDish T6).2.2.1 576 16).toInt).toNat else 0) < (if T6.1 571 16 = 0 then 20 - ((T6.2.2.1 576 16).toInt).toNat else 0)
        rw [if_pos ((MR_0 r6).2 w.1), MR_v r6 w.1 (by omega), w1, iz_t (by omega), Int.toNat_natCast]
        by_cases u : (p_dish tp n X).1 = 0
        · obtain ⟨a8, e7, b1, b2, b3⟩ := dB u
          rw [if_pos ((MR_0 ra).2 u), MR_v ra u (by omega), b1, iz_t (by omega)]; omega
        · rw [if_neg (fun t => u ((MR_0 ra).1 t))]; omega
    · have t4 := tso_4 (tp := tp) (n := n) (q := X.2.1)
      have hb6 : MR tp n (x_m_bad T6 1) (a_fl 1 X) := MR_bad (k := 1) r6 (by omega)
      have fb6 : Fr _ T6 (x_m_bad T6 1) := fr_m_bad 1
      refine jo ⟨fun q => ⟨fun u => last T6 ?_ F6 S9, fun u => last _ ?_ (fr_tr F6 fb6 (fun c hc => by unfold W_m_bad at hc; unfold WmB; omega)) (by rw [q_F fb6 (by unfold W_m_bad; omega)]; exact S9)⟩, fun q => last T6 ?_ F6 S9⟩
      · rw [r6.1.2.2.2.2.2, (tcd_2 t4).2.2.2] at u
        have : p_all tp n = X := by
          rw [u2]
          cases (10 - v6) with
          | zero => rfl
          | succ m => exact if_neg (fun t => t.2 u)
        rw [this]; exact r6
      · have q' := (MR_0 r6).1 q
        rw [r6.1.2.2.2.2.2, (tcd_2 t4).2.2.2] at u
        obtain ⟨w1, w2, w3, w4⟩ := u3 q'
        have : p_all tp n = a_fl 1 X := by
          rw [u2, show 10 - v6 = (10 - v6 - 1) + 1 by omega]
          show (if X.1 = 0 ∧ tso tp n X.2.1 ≠ 0 then p_dl tp n (10 - v6 - 1) (p_pd tp n X) else X) = _
          rw [if_pos ⟨q', u⟩]
          have e1 : p_pd tp n X = a_fl 1 X := by unfold p_pd; rw [if_pos q', if_neg (fun t => w0 (ed6.2 ⟨q', t⟩))]
          rw [e1, fz_dl (fl_B (by omega))]
        rw [this]; exact hb6
      · have q' : ¬ X.1 = 0 := fun t => q ((MR_0 r6).2 t)
        have : p_all tp n = X := by rw [u2, fz_dl q']
        rw [this]; exact r6
  · show (if Z.1 571 16 = 0 then 20 - ((Z.2.2.1 576 16).toInt).toNat else 0) < 1000
    split <;> omega
  · by_cases t : S5.1 = 0 ∧ ¬ (iw tp n 2 S5.2.1 = true)
    · rw [if_pos t] at w; exact absurd w (fl_B (by omega))
    · rw [if_neg t] at w ⊢
      have := v3 w
      omega
theorem s_mbook (hn : n ≤ 600) (h9 : V.1 571 9 = iz n) (ht : ∀ j, j < n → tp j < 256 ∧ V.2.2.1 577 j = iz (tp j)) : ok_m_book V ∧ mbQ tp n V (x_m_book V) := by
  refine so_m_book (Q := mbQ tp n V) ?_
  unfold wp_m_book
  refine wr_m_book_30 (fun v1 T => ∃ i : Nat, v1 = iz i ∧ i ≤ 204 ∧ Fr WmB V T ∧ T.1 571 11 = iz n ∧ T.1 571 12 = 0 ∧ T.1 571 16 = 0 ∧ T.1 571 9 = 0 ∧ ∀ j, j < i → T.2.2.1 576 j = 0) (fun v1 _ => (300 - v1.toInt).toNat) ?_ _ _ _ (by decide) ⟨0, rfl, by omega, ?_, ?_, rfl, rfl, rfl, fun j hj => absurd hj (by omega)⟩
  · rintro _ T ⟨i, rfl, i1, ff, f11, f12, f16, f9, fz⟩
    unfold bd_m_book_30
    rw [z_204, iz_le (by omega)]
    refine ⟨fun y => ?_, fun y => ⟨in_nat (by omega) (by omega), ⟨i + 1, by rw [z_1, iz_add]; rfl, by omega, fr_sA ff (by unfold WmB; omega), f11, f12, f16, f9, fun j hj => ?_⟩, ?_⟩⟩
    · have hT : TM tp n T := ⟨hn, f11, fun j hj => by rw [q_A ff (by unfold WmB; omega)]; exact ht j hj⟩
      obtain ⟨on, x1, x2, x3, x4⟩ := s_next (q := 0) hT (by omega) f12
      have fn := fr_m_next on
      have r0 : MR tp n (x_m_next T) (0, 0, fun _ => 0) := by
        refine ⟨⟨⟨hn, by rw [q_F fn (by unfold W_m_next; omega)]; exact f11, fun j hj => by rw [q_A fn (by unfold W_m_next; omega)]; exact hT.2.2 j hj⟩, by show 0 ≤ n; omega, x1, x2, x3, x4⟩, by rw [q_F fn (by unfold W_m_next; omega)]; exact f16, by show 0 < 10; omega, fun w => absurd rfl w, fun _ j hj => ?_⟩
        rw [q_A fn (by unfold W_m_next; omega)]; exact fz j (by omega)
      have F1 : Fr WmB V (x_m_next T) := fr_tr ff fn (fun c hc => by unfold W_m_next at hc; unfold WmB; omega)
      have N9 : (x_m_next T).1 571 9 = 0 := by rw [q_F fn (by unfold W_m_next; omega)]; exact f9
      refine ⟨on, ?_⟩
      generalize x_m_next T = T1 at *
      obtain ⟨ow, ew, _, _⟩ := s_mw r0.1 r0.2.1 r0.2.2.1
      have rm : ok_m_must T1 (if lg_cmp (x_m_word T1) 30233771112949102 = 0 then 1 else 0) ∧ MR tp n (x_m_must T1 (if lg_cmp (x_m_word T1) 30233771112949102 = 0 then 1 else 0)) (a_wd tp n 0 (0, 0, fun _ => 0)) := by
        by_cases q : iw tp n 0 0 = true
        · rw [if_pos (ew.2 ⟨rfl, q⟩)]
          have e : a_wd tp n 0 (0, 0, fun _ => 0) = a_nx tp n (0, 0, fun _ => 0) := by unfold a_wd a_nx; rw [if_pos rfl, if_pos rfl, if_pos q]
          rw [e]; exact MR_m1 r0
        · rw [if_neg (fun u => q (ew.1 u).2)]
          have e : a_wd tp n 0 (0, 0, fun _ => 0) = a_fl 1 (0, 0, fun _ => 0) := by unfold a_wd a_fl; rw [if_pos rfl, if_pos rfl, if_neg q]
          rw [e]; exact MR_m0 r0
      refine ⟨ow, jnk ⟨rm.1, ?_⟩⟩
      have F2 : Fr WmB V (x_m_must T1 (if lg_cmp (x_m_word T1) 30233771112949102 = 0 then 1 else 0)) := fr_tr F1 (fr_m_must _ rm.1) (fun c hc => by unfold W_m_must at hc; unfold WmB; omega)
      have r2 := rm.2
      have M9 : (x_m_must T1 (if lg_cmp (x_m_word T1) 30233771112949102 = 0 then 1 else 0)).1 571 9 = 0 := by rw [q_F (fr_m_must _ rm.1) (by unfold W_m_must; omega)]; exact N9
      clear rm
      generalize x_m_must T1 (if lg_cmp (x_m_word T1) 30233771112949102 = 0 then 1 else 0) = T2 at *
      refine wr_m_book_76 (fun v1 T => ∃ i : Nat, v1 = iz i ∧ i ≤ 7 ∧ MR tp n T (p_kn tp n i (a_wd tp n 0 (0, 0, fun _ => 0))) ∧ Fr WmB V T ∧ T.1 571 9 = 0) (fun v1 _ => (300 - v1.toInt).toNat) ?_ _ _ _ (by decide) ⟨0, rfl, by omega, r2, F2, M9⟩
      rintro _ T3 ⟨i, rfl, i1, r3, F3, P9⟩
      unfold bd_m_book_76
      rw [z_7, iz_le (by omega)]
      refine ⟨fun y2 => ?_, fun y2 => jnk ?_⟩
      · have : i = 7 := by omega
        subst this
        obtain ⟨om, r4⟩ := MR_me r3
        have F4 : Fr WmB V (x_m_mustEnd T3) := fr_tr F3 (fr_m_mustEnd om) (fun c hc => by unfold W_m_mustEnd at hc; unfold WmB; omega)
        have Q9 : (x_m_mustEnd T3).1 571 9 = 0 := by rw [q_F (fr_m_mustEnd om) (by unfold W_m_mustEnd; omega)]; exact P9
        refine ⟨om, ?_⟩
        have r4 : MR tp n (x_m_mustEnd T3) (p_kit tp n (0, 0, fun _ => 0)) := r4
        generalize x_m_mustEnd T3 = T4 at *
        refine wr_m_book_123 _ (fun T => ∃ (v : Nat) (S' : Nat × Nat × (Nat → Int)), v ≤ 5 ∧ MR tp n T S' ∧ Fr WmB V T ∧ T.1 571 9 = 0 ∧ p_al tp n 5 (p_kit tp n (0, 0, fun _ => 0)) = p_al tp n (5 - v) S' ∧ (S'.1 = 0 → S'.2.2 7 = v ∧ v ≤ 4 ∧ S'.2.2 16 = 0 ∧ S'.2.2 17 = 0)) (fun T => if T.1 571 16 = 0 then 10 - ((T.2.2.1 576 7).toInt).toNat else 0) ?_ _ _ ?_ ⟨0, _, by omega, r4, F4, Q9, rfl, fun w => by rw [kit_0 w 7 (by omega), kit_0 w 16 (by omega), kit_0 w 17 (by omega)]; exact ⟨rfl, by omega, rfl, rfl⟩⟩
        · rintro T5 ⟨v, S5, v1, r5, F5, R9, v2, v3⟩
          unfold bd_m_book_123
          obtain ⟨ow5, _, ew5, ed5⟩ := s_mw r5.1 r5.2.1 r5.2.2.1
          refine ⟨ow5, fun w0 => ?_, fun w0 => ?_⟩
          · have w := ew5.1 w0
            obtain ⟨w1, w2, w3, w4⟩ := v3 w.1
            obtain ⟨oa, ra⟩ := m_away r5 w.1 w1 (by omega)
            have fa := fr_m_readAway oa
            refine ⟨oa, ⟨v + 1, _, by omega, ra, fr_tr F5 fa (fun c hc => by unfold W_m_readAway at hc; unfold WmB; omega), by rw [q_F fa (by unfold W_m_readAway; omega)]; exact R9, ?_, fun q => ?_⟩, ?_⟩
            · rw [v2, show 5 - v = (5 - (v + 1)) + 1 by omega]; exact if_pos w
            · obtain ⟨_, g1, a, a', _, _, _, g2⟩ := away_B q (by omega)
              rw [g2, upB_s, upB_n (by omega), upB_n (by omega), upB_n (by omega), upB_n (by omega), upB_n (by omega), upB_n (by omega)]
              omega
            · show (if (x_m_readAway T5).1 571 16 = 0 then 10 - (((x_m_readAway T5).2.2.1 576 7).toInt).toNat else 0) < (if T5.1 571 16 = 0 then 10 - ((T5.2.2.1 576 7).toInt).toNat else 0)
              rw [if_pos ((MR_0 r5).2 w.1), MR_v r5 w.1 (by omega), w1, iz_t (by omega), Int.toNat_natCast]
              by_cases u : (p_away tp n S5).1 = 0
              · obtain ⟨_, g1, a, a', _, _, _, g2⟩ := away_B u (by omega)
                rw [if_pos ((MR_0 ra).2 u), MR_v ra u (by omega), g2, upB_s, iz_t (by omega)]; omega
              · rw [if_neg (fun t => u ((MR_0 ra).1 t))]; omega
          · have eS : p_al tp n 5 (p_kit tp n (0, 0, fun _ => 0)) = S5 := by
              rw [v2]
              cases (5 - v) with
              | zero => rfl
              | succ m => exact if_neg (fun q => w0 (ew5.2 q))
            have eA : p_all tp n = p_dl tp n 10 (if S5.1 = 0 ∧ ¬ (iw tp n 2 S5.2.1 = true) then a_fl 1 S5 else S5) := by
              unfold p_all; rw [eS]; exact chk_dl
            have hb : MR tp n (x_m_bad T5 1) (a_fl 1 S5) := MR_bad (k := 1) r5 (by omega)
            have fb : Fr _ T5 (x_m_bad T5 1) := fr_m_bad 1
            have more : ∀ Z : St, MR tp n Z (if S5.1 = 0 ∧ ¬ (iw tp n 2 S5.2.1 = true) then a_fl 1 S5 else S5) → Fr WmB V Z → Z.1 571 9 = 0 → ∀ l1 : Int32, wp_m_book_164 l1 (fun  T204 => jn (fun (KJ5 : St → Prop) => ((((T204.1 571 16) = 0) → ((((T204.1 571 13) = 1) → KJ5 T204) ∧ (¬ ((T204.1 571 13) = 1) → KJ5 (x_m_bad T204 1)))) ∧ (¬ ((T204.1 571 16) = 0) → KJ5 T204))) (fun (T305 : St) => ((((T305.1 571 16) ≤ 0) → wp_m_book_246  (fun w5_1 T205 => mbQ tp n V ((x_m_forget (sF T205 571 7 1)).2.2.1 575 (16 : Int32).toNatClampNeg, x_m_forget (sF T205 571 7 1))) (mbQ tp n V) 1000 0 (sA (sA T305 576 (202 : Int32).toNatClampNeg 1) 576 (203 : Int32).toNatClampNeg 60)) ∧ (¬ ((T305.1 571 16) ≤ 0) → mbQ tp n V ((-1000100) - ((sF T305 571 10 (T305.1 571 16)).1 571 17), sF T305 571 10 (T305.1 571 16)))))) (mbQ tp n V) 1000  Z := fun Z rz Fz Z9 l1 => mb_tail hn rz Fz Z9 eA (fun w => ⟨(v3 w).2.2.1, (v3 w).2.2.2⟩)
            refine jo ⟨fun q => ⟨ow5, fun u => more T5 ?_ F5 R9 _, fun u => more _ ?_ (fr_tr F5 fb (fun c hc => by unfold W_m_bad at hc; unfold WmB; omega)) (by rw [q_F fb (by unfold W_m_bad; omega)]; exact R9) _⟩, fun q => more T5 ?_ F5 R9 _⟩
            · rw [if_neg (fun t => t.2 (ed5.1 u).2)]; exact r5
            · rw [if_pos ⟨(MR_0 r5).1 q, fun t => u (ed5.2 ⟨(MR_0 r5).1 q, t⟩)⟩]; exact hb
            · rw [if_neg (fun t => q ((MR_0 r5).2 t.1))]; exact r5
        · show (if T4.1 571 16 = 0 then 10 - ((T4.2.2.1 576 7).toInt).toNat else 0) < 1000
          split <;> omega
      · have ej : (if iz (i : Int) = 5 then (1 : Int32) else 0) = iz (klo i) := by
          unfold klo
          by_cases q : i = 5
          · rw [if_pos (by rw [q]; rfl), if_pos q]; rfl
          · rw [if_neg (by rw [z_5, iz_eq (by omega)]; omega), if_neg q]; rfl
        rw [ej]
        have kb := kl_b (k := i)
        have go : ∀ hi : Int32, hi = iz (khi i) → ok_m_number T3 (iz i) (iz (klo i)) hi ∧ (∃ j : Nat, iz (i : Int) + 1 = iz j ∧ j ≤ 7 ∧ MR tp n (x_m_number T3 (iz i) (iz (klo i)) hi) (p_kn tp n j (a_wd tp n 0 (0, 0, fun _ => 0))) ∧ Fr WmB V (x_m_number T3 (iz i) (iz (klo i)) hi) ∧ (x_m_number T3 (iz i) (iz (klo i)) hi).1 571 9 = 0) ∧ (300 - (iz (i : Int) + 1).toInt).toNat < (300 - (iz (i : Int)).toInt).toNat := by
          intro hi hh
          obtain ⟨oo, rr⟩ := MR_num (j := i) (p0 := iz i) (lo := iz (klo i)) (hi := hi) (l := klo i) (e := khi i) r3 (fun _ => ⟨rfl, by omega⟩) (fun _ => ⟨rfl, kb.1⟩) ⟨hh, kb.2⟩
          have fm := fr_m_number _ _ _ oo
          refine ⟨oo, ⟨i + 1, by rw [z_1, iz_add]; rfl, by omega, rr, fr_tr F3 fm (fun c hc => by unfold W_m_number at hc; unfold WmB; omega), by rw [q_F fm (by unfold W_m_number; omega)]; exact P9⟩, ?_⟩
          rw [z_1, iz_add, iz_t (by omega), iz_t (by omega)]; omega
        refine jk1 (fun q => go 3 ?_) (fun q1 q2 => go 9 ?_)
        · rw [z_3, iz_lt (by omega), z_5, iz_eq (by omega)] at q
          unfold khi; rw [if_pos (by omega)]; rfl
        · rw [z_3, iz_lt (by omega)] at q1
          rw [z_5, iz_eq (by omega)] at q2
          unfold khi; rw [if_neg (by omega)]; rfl
    · rw [gA_A, ix_nat (by omega)]
      by_cases q : j = i
      · rw [if_pos ⟨rfl, q⟩]
      · rw [if_neg (fun u => q u.2)]; exact fz j (by omega)
    · show (300 - (iz (i : Int) + 1).toInt).toNat < (300 - (iz (i : Int)).toInt).toNat
      rw [z_1, iz_add, iz_t (by omega), iz_t (by omega)]; omega
  · exact fr_sF (fr_sF (fr_sF (fr_sF (fr_sF fr_rfl (by unfold WmB; omega)) (by unfold WmB; omega)) (by unfold WmB; omega)) (by unfold WmB; omega)) (by unfold WmB; omega)
  · show V.1 571 9 = iz n
    exact h9
end REF
