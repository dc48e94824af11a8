/-! ===== the steps of a dinner, as the class counts them ===== -/
theorem s_dsteps {T : St} {b D : Nat} {B : Nat → Int} (hb : sh b = .inr 1) (h16 : 0 ≤ B 16 ∧ B 16 ≤ 8) (h4 : T.1 b 4 = iz (B 16)) (h17 : T.1 b 17 = iz D) (hD : D < 256) (hO : ∀ d : Nat, (d : Int) < B 16 → T.2.2.1 (b + 7) d = iz (nO B d : Int)) : ok_bk_dinnerSteps T b ∧ x_bk_dinnerSteps T b = iz (ps B D (B 16).toNat) := by
  refine so_bk_dinnerSteps (Q := fun r => r = iz (ps B D (B 16).toNat)) _ ?_
  unfold wp_bk_dinnerSteps
  refine wr_bk_dinnerSteps_4 T b (fun v1 v2 => ∃ e : Nat, (e : Int) ≤ B 16 ∧ v2 = iz e ∧ v1 = iz (ps B D e)) (fun v1 v2 => 8 - v2.toInt.toNat) ?_ _ _ _ ?_ ?_
  · rintro _ _ ⟨e, h1, rfl, rfl⟩
    unfold bd_bk_dinnerSteps_4
    rw [h4, h17, iz_le (by omega)]
    refine ⟨hb, fun c => ?_, fun c => ?_⟩
    · have : (B 16).toNat = e := by omega
      rw [this]
    · have he : e < 8 := by omega
      have hbt : (((iz (D : Int)) >>> (iz (e : Int) &&& 31)) &&& 1) = if D.testBit e then (1 : Int32) else 0 := bt_t D hD e he
      have nx : iz (e : Int) + 1 = iz ((e + 1 : Nat) : Int) := by rw [z_1, iz_add]; exact iz_inj (by omega)
      have ms : 8 - (iz ((e + 1 : Nat) : Int)).toInt.toNat < 8 - (iz (e : Int)).toInt.toNat := by rw [iz_t (by omega), iz_t (by omega)]; omega
      rw [hbt, nx, ix_nat (by omega), hO e (by omega), iz_add]
      cases hme : D.testBit e with
      | false =>
        refine ⟨fun _ => ⟨⟨e + 1, by omega, rfl, ?_⟩, ms⟩, fun z => absurd rfl z⟩
        rw [ps_s, hme]; rfl
      | true =>
        refine ⟨fun z => absurd z (by decide), fun _ => ⟨in_nat (by omega) (by omega), jo ⟨⟨e + 1, by omega, rfl, iz_inj ?_⟩, ms⟩⟩⟩
        rw [ps_s, hme, if_pos rfl]; omega
  · show 8 - (0 : Int32).toInt.toNat < 1000
    omega
  · exact ⟨0, by omega, rfl, rfl⟩
