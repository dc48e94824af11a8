/-! ===== locals that are not known may be known ===== -/
def mx_Le (a b : mx_Lo) : Prop := a.length = b.length ∧ ∀ (i : Nat) (v : Value), a[i]? = some (some v) → b[i]? = some (some v)
theorem mx_Le.rf (a : mx_Lo) : mx_Le a a := ⟨rfl, fun _ _ h => h⟩
theorem le_0 : mx_Le [] [] := ⟨rfl, fun _ _ h => h⟩
theorem le_s {x : Option Value} {a b : mx_Lo} (h : mx_Le a b) : mx_Le (x :: a) (x :: b) := by
  refine ⟨by simp [h.1], fun i v hv => ?_⟩
  cases i with
  | zero => exact hv
  | succ i => exact h.2 i v (by simpa using hv)
theorem le_n {x : Option Value} {a b : mx_Lo} (h : mx_Le a b) : mx_Le (none :: a) (x :: b) := by
  refine ⟨by simp [h.1], fun i v hv => ?_⟩
  cases i with
  | zero => simp at hv
  | succ i => exact h.2 i v (by simpa using hv)
theorem mx_kill_keep {L : mx_Lo} {i j : Nat} {v : Value} (h : L[j]? = some (some v)) (hn : ¬ (j + 1 = i ∧ v.category = 2)) : (mx_kill L i)[j]? = some (some v) := by
  unfold mx_kill
  split
  · exact h
  · rename_i i k
    split
    · rename_i w hw
      split
      · rename_i hc
        by_cases e : k = j
        · subst e
          rw [hw] at h
          cases h
          exact absurd ⟨rfl, hc⟩ hn
        · rw [List.getElem?_set_ne e]
          exact h
      · exact h
    · exact h
theorem mx_s1_at {L : mx_Lo} {i : Nat} {v : Value} (h : i < L.length) : (mx_s1 L i v)[i]? = some (some v) := by
  unfold mx_s1
  rw [List.getElem?_set_self (by rw [mx_kill_len]; exact h)]
theorem mx_s1_keep {L : mx_Lo} {i j : Nat} {v w : Value} (hj : j ≠ i) (h : L[j]? = some (some w)) (hn : ¬ (j + 1 = i ∧ w.category = 2)) : (mx_s1 L i v)[j]? = some (some w) := by
  unfold mx_s1
  rw [List.getElem?_set_ne (fun z => hj z.symm)]
  exact mx_kill_keep h hn
theorem mx_Le.s1 {L K : mx_Lo} (h : mx_Le L K) (i : Nat) (v : Value) : mx_Le (mx_s1 L i v) (mx_s1 K i v) := by
  refine ⟨by rw [mx_s1_len, mx_s1_len, h.1], fun j w hw => ?_⟩
  have hl : j < K.length := by
    have := (List.getElem?_eq_some_iff.mp hw).1
    rw [mx_s1_len, h.1] at this
    exact this
  rcases mx_s1_get hw with ⟨rfl, rfl⟩ | ⟨h1, h2, h3⟩
  · exact mx_s1_at hl
  · exact mx_s1_keep h1 (h.2 j w h2) h3
theorem mx_Le.s2 {L K : mx_Lo} (h : mx_Le L K) (i : Nat) (v : Value) : mx_Le (mx_s2 L i v) (mx_s2 K i v) := by
  refine ⟨by rw [mx_s2_len, mx_s2_len, h.1], fun j w hw => ?_⟩
  have hl : j < K.length := by
    have := (List.getElem?_eq_some_iff.mp hw).1
    rw [mx_s2_len, h.1] at this
    exact this
  unfold mx_s2
  rcases mx_s2_get hw with ⟨rfl, rfl⟩ | ⟨h1, h1b, h2, h3⟩
  · rw [List.getElem?_set_ne (by omega)]
    exact mx_s1_at hl
  · rw [List.getElem?_set_ne (fun z => h1b z.symm)]
    exact mx_s1_keep h1 (h.2 j w h2) h3
theorem mx_go_of {α : Type} {pc t : Nat} {off : Int} {k : Nat → Option α} (ht : (pc : Int) + off = (t : Int)) : mx_go pc off k = k t := by
  unfold mx_go
  rw [if_pos (by omega), ht]
  rfl
theorem mx_li_of {α : Type} {L : mx_Lo} {i : Nat} {x : Int32} {k : Int32 → Option α} (h : L[i]? = some (some (.int x))) : mx_li L i k = k x := by unfold mx_li; rw [h]
theorem mx_ll_of {α : Type} {L : mx_Lo} {i : Nat} {x : Int64} {k : Int64 → Option α} (h : L[i]? = some (some (.long x))) : mx_ll L i k = k x := by unfold mx_ll; rw [h]
theorem mx_lr_of {α : Type} {L : mx_Lo} {i : Nat} {x : Nat} {k : Nat → Option α} (h : L[i]? = some (some (.ref x))) : mx_lr L i k = k x := by unfold mx_lr; rw [h]
theorem mx_pure_le {pc pc2 : Nat} {L K L2 : mx_Lo} {S S2 : List Value} {i : Instr} (hle : mx_Le L K) (h : mx_pure pc L S i = some (pc2, L2, S2)) : ∃ K2, mx_pure pc K S i = some (pc2, K2, S2) ∧ mx_Le L2 K2 := by
  unfold mx_pure at h
  split at h
  · cases h; exact ⟨K, rfl, hle⟩
  · cases h; exact ⟨K, rfl, hle⟩
  · cases h; exact ⟨K, rfl, hle⟩
  · cases h; exact ⟨K, rfl, hle⟩
  · obtain ⟨x, hx, h⟩ := mx_li_inv h; cases h; exact ⟨K, mx_li_of (hle.2 _ _ hx), hle⟩
  · obtain ⟨x, hx, h⟩ := mx_li_inv h; cases h; exact ⟨K, mx_li_of (hle.2 _ _ hx), hle⟩
  · obtain ⟨x, hx, h⟩ := mx_ll_inv h; cases h; exact ⟨K, mx_ll_of (hle.2 _ _ hx), hle⟩
  · obtain ⟨x, hx, h⟩ := mx_ll_inv h; cases h; exact ⟨K, mx_ll_of (hle.2 _ _ hx), hle⟩
  · obtain ⟨x, hx, h⟩ := mx_lr_inv h; cases h; exact ⟨K, mx_lr_of (hle.2 _ _ hx), hle⟩
  · obtain ⟨x, hx, h⟩ := mx_lr_inv h; cases h; exact ⟨K, mx_lr_of (hle.2 _ _ hx), hle⟩
  · obtain ⟨x, r, rfl, g⟩ := mx_1i_inv h; split at g
    · rename_i hc; cases g; exact ⟨_, if_pos (by rw [← hle.1]; exact hc), hle.s1 _ _⟩
    · cases g
  · obtain ⟨x, r, rfl, g⟩ := mx_1i_inv h; split at g
    · rename_i hc; cases g; exact ⟨_, if_pos (by rw [← hle.1]; exact hc), hle.s1 _ _⟩
    · cases g
  · obtain ⟨x, r, rfl, g⟩ := mx_1l_inv h; split at g
    · rename_i hc; cases g; exact ⟨_, if_pos (by rw [← hle.1]; exact hc), hle.s2 _ _⟩
    · cases g
  · obtain ⟨x, r, rfl, g⟩ := mx_1l_inv h; split at g
    · rename_i hc; cases g; exact ⟨_, if_pos (by rw [← hle.1]; exact hc), hle.s2 _ _⟩
    · cases g
  · obtain ⟨x, r, rfl, g⟩ := mx_1r_inv h; split at g
    · rename_i hc; cases g; exact ⟨_, if_pos (by rw [← hle.1]; exact hc), hle.s1 _ _⟩
    · cases g
  · obtain ⟨x, r, rfl, g⟩ := mx_1r_inv h; split at g
    · rename_i hc; cases g; exact ⟨_, if_pos (by rw [← hle.1]; exact hc), hle.s1 _ _⟩
    · cases g
  · obtain ⟨x, hx, h⟩ := mx_li_inv h; split at h
    · rename_i hc; cases h; exact ⟨_, (mx_li_of (hle.2 _ _ hx)).trans (if_pos (by rw [← hle.1]; exact hc)), hle.s1 _ _⟩
    · cases h
  · obtain ⟨y, x, r, rfl, g⟩ := mx_2i_inv h; cases g; exact ⟨K, rfl, hle⟩
  · obtain ⟨y, x, r, rfl, g⟩ := mx_2i_inv h; cases g; exact ⟨K, rfl, hle⟩
  · obtain ⟨y, x, r, rfl, g⟩ := mx_2i_inv h; cases g; exact ⟨K, rfl, hle⟩
  · obtain ⟨y, x, r, rfl, g⟩ := mx_2i_inv h; cases g; exact ⟨K, rfl, hle⟩
  · obtain ⟨y, x, r, rfl, g⟩ := mx_2i_inv h; cases g; exact ⟨K, rfl, hle⟩
  · obtain ⟨y, x, r, rfl, g⟩ := mx_2i_inv h; cases g; exact ⟨K, rfl, hle⟩
  · obtain ⟨y, x, r, rfl, g⟩ := mx_2i_inv h; cases g; exact ⟨K, rfl, hle⟩
  · obtain ⟨y, x, r, rfl, g⟩ := mx_2i_inv h; cases g; exact ⟨K, rfl, hle⟩
  · obtain ⟨y, x, r, rfl, g⟩ := mx_2i_inv h; cases g; exact ⟨K, rfl, hle⟩
  · obtain ⟨y, x, r, rfl, g⟩ := mx_2i_inv h; split at g
    · cases g
    · rename_i hc; cases g; exact ⟨K, if_neg hc, hle⟩
  · obtain ⟨y, x, r, rfl, g⟩ := mx_2i_inv h; split at g
    · cases g
    · rename_i hc; cases g; exact ⟨K, if_neg hc, hle⟩
  · obtain ⟨x, r, rfl, g⟩ := mx_1i_inv h; cases g; exact ⟨K, rfl, hle⟩
  · obtain ⟨y, x, r, rfl, g⟩ := mx_2l_inv h; cases g; exact ⟨K, rfl, hle⟩
  · obtain ⟨y, x, r, rfl, g⟩ := mx_2l_inv h; cases g; exact ⟨K, rfl, hle⟩
  · obtain ⟨y, x, r, rfl, g⟩ := mx_2l_inv h; cases g; exact ⟨K, rfl, hle⟩
  · obtain ⟨y, x, r, rfl, g⟩ := mx_2l_inv h; cases g; exact ⟨K, rfl, hle⟩
  · obtain ⟨y, x, r, rfl, g⟩ := mx_2l_inv h; cases g; exact ⟨K, rfl, hle⟩
  · obtain ⟨y, x, r, rfl, g⟩ := mx_il_inv h; cases g; exact ⟨K, rfl, hle⟩
  · obtain ⟨y, x, r, rfl, g⟩ := mx_il_inv h; cases g; exact ⟨K, rfl, hle⟩
  · obtain ⟨y, x, r, rfl, g⟩ := mx_2l_inv h; cases g; exact ⟨K, rfl, hle⟩
  · obtain ⟨x, r, rfl, g⟩ := mx_1i_inv h; cases g; exact ⟨K, rfl, hle⟩
  · obtain ⟨x, r, rfl, g⟩ := mx_1l_inv h; cases g; exact ⟨K, rfl, hle⟩
  · obtain ⟨x, r, rfl, g⟩ := mx_1i_inv h; cases g; exact ⟨K, rfl, hle⟩
  · obtain ⟨x, r, rfl, g⟩ := mx_1i_inv h; cases g; exact ⟨K, rfl, hle⟩
  · obtain ⟨x, r, rfl, g⟩ := mx_1i_inv h; cases g; exact ⟨K, rfl, hle⟩
  · obtain ⟨x, r, rfl, g⟩ := mx_1v_inv h; split at g
    · rename_i hc; cases g; exact ⟨K, if_pos hc, hle⟩
    · cases g
  · obtain ⟨x, r, rfl, g⟩ := mx_1v_inv h; split at g
    · rename_i hc; cases g; exact ⟨K, if_pos hc, hle⟩
    · cases g
  · obtain ⟨x, r, rfl, g⟩ := mx_1v_inv h; split at g
    · rename_i hc; cases g; exact ⟨K, if_pos hc, hle⟩
    · obtain ⟨w, r, rfl, g2⟩ := mx_1v_inv g; split at g2
      · rename_i hc; cases g2; exact ⟨K, (if_neg (by assumption)).trans (if_pos hc), hle⟩
      · cases g2
  · obtain ⟨t, ht, h⟩ := mx_go_inv h; cases h; exact ⟨K, by simp only [mx_pure, mx_1i, mx_2i]; exact mx_go_of ht, hle⟩
  · obtain ⟨x, r, rfl, g⟩ := mx_1i_inv h; obtain ⟨t, ht, g⟩ := mx_go_inv g; cases g; exact ⟨K, by simp only [mx_pure, mx_1i, mx_2i]; exact mx_go_of ht, hle⟩
  · obtain ⟨y, x, r, rfl, g⟩ := mx_2i_inv h; obtain ⟨t, ht, g⟩ := mx_go_inv g; cases g; exact ⟨K, by simp only [mx_pure, mx_1i, mx_2i]; exact mx_go_of ht, hle⟩
  · cases h
theorem mx_step_le {X : Nat × (Nat → Int32)} {call : mx_M → List Value → mx_Hp → mx_Rs → Prop} {M : mx_M} {pc : Nat} {L K : mx_Lo} {S : List Value} {hp : mx_Hp} {f2 : mx_Fr} (hle : mx_Le L K) (h : mx_step X call M (pc, L, S, hp) f2) : ∃ K2, mx_step X call M (pc, K, S, hp) (f2.1, K2, f2.2.2) ∧ mx_Le f2.2.1 K2 := by
  rcases h with h | h | h | h | h | h | h | h | h | h
  · obtain ⟨i, h1, h2, h3⟩ := h
    obtain ⟨K2, g1, g2⟩ := mx_pure_le hle h2
    exact ⟨K2, Or.inl ⟨i, h1, g1, h3⟩, g2⟩
  · obtain ⟨a0, a1, a2, a3, a4, a5, a6, a7, h0, h1, h2, rfl⟩ := h
    exact ⟨K, Or.inr (Or.inl (⟨a0, a1, a2, a3, a4, a5, a6, a7, h0, h1, h2, rfl⟩)), hle⟩
  · rcases h with ⟨a0, a1, h0, h1, rfl⟩ | ⟨a0, a1, h0, h1, rfl⟩ | ⟨a0, a1, h0, h1, rfl⟩ | ⟨a0, a1, h0, h1, h2, rfl⟩ | ⟨a0, a1, a2, h0, h1, h2, rfl⟩ | ⟨a0, h0, h1, rfl⟩ | ⟨a0, h0, h1, rfl⟩
    · exact ⟨K, Or.inr (Or.inr (Or.inl (Or.inl ⟨a0, a1, h0, h1, rfl⟩))), hle⟩
    · exact ⟨K, Or.inr (Or.inr (Or.inl (Or.inr (Or.inl ⟨a0, a1, h0, h1, rfl⟩)))), hle⟩
    · exact ⟨K, Or.inr (Or.inr (Or.inl (Or.inr (Or.inr (Or.inl ⟨a0, a1, h0, h1, rfl⟩))))), hle⟩
    · exact ⟨K, Or.inr (Or.inr (Or.inl (Or.inr (Or.inr (Or.inr (Or.inl ⟨a0, a1, h0, h1, h2, rfl⟩)))))), hle⟩
    · exact ⟨K, Or.inr (Or.inr (Or.inl (Or.inr (Or.inr (Or.inr (Or.inr (Or.inl ⟨a0, a1, a2, h0, h1, h2, rfl⟩))))))), hle⟩
    · exact ⟨K, Or.inr (Or.inr (Or.inl (Or.inr (Or.inr (Or.inr (Or.inr (Or.inr (Or.inl ⟨a0, h0, h1, rfl⟩)))))))), hle⟩
    · exact ⟨K, Or.inr (Or.inr (Or.inl (Or.inr (Or.inr (Or.inr (Or.inr (Or.inr (Or.inr (⟨a0, h0, h1, rfl⟩))))))))), hle⟩
  · rcases h with ⟨a0, a1, a2, a3, a4, a5, a6, h0, h1, h2, h3, h4, h5, h6, rfl⟩ | ⟨a0, a1, a2, h0, h1, h2, ⟨h3, rfl⟩ | ⟨h3, rfl⟩⟩
    · exact ⟨K, Or.inr (Or.inr (Or.inr (Or.inl (Or.inl ⟨a0, a1, a2, a3, a4, a5, a6, h0, h1, h2, h3, h4, h5, h6, rfl⟩)))), hle⟩
    · exact ⟨K, Or.inr (Or.inr (Or.inr (Or.inl (Or.inr ⟨a0, a1, a2, h0, h1, h2, Or.inl ⟨h3, rfl⟩⟩)))), hle⟩
    · exact ⟨K, Or.inr (Or.inr (Or.inr (Or.inl (Or.inr ⟨a0, a1, a2, h0, h1, h2, Or.inr ⟨h3, rfl⟩⟩)))), hle⟩
  · rcases h with ⟨a0, a1, a2, a3, a4, h0, h1, h2, h3, h4, h5, rfl⟩ | ⟨a0, a1, a2, a3, a4, h0, h1, h2, h3, h4, h5, rfl⟩ | ⟨a0, a1, a2, a3, a4, h0, h1, h2, h3, h4, h5, rfl⟩ | ⟨a0, a1, a2, a3, a4, a5, a6, h0, h1, h2, h3, h4, h5, h6, h7, h8, rfl⟩ | ⟨a0, a1, a2, a3, a4, h0, h1, h2, h3, h4, h5, h6, rfl⟩ | ⟨a0, a1, a2, a3, h0, h1, h2, h3, rfl⟩ | ⟨a0, a1, a2, h0, h1, h2, rfl⟩ | ⟨a0, a1, a2, h0, h1, h2, h3, rfl⟩ | ⟨a0, a1, h0, h1, h2, rfl⟩ | ⟨a0, a1, h0, h1, h2, rfl⟩ | ⟨a0, h0, h1, rfl⟩
    · exact ⟨K, Or.inr (Or.inr (Or.inr (Or.inr (Or.inl (Or.inl ⟨a0, a1, a2, a3, a4, h0, h1, h2, h3, h4, h5, rfl⟩))))), hle⟩
    · exact ⟨K, Or.inr (Or.inr (Or.inr (Or.inr (Or.inl (Or.inr (Or.inl ⟨a0, a1, a2, a3, a4, h0, h1, h2, h3, h4, h5, rfl⟩)))))), hle⟩
    · exact ⟨K, Or.inr (Or.inr (Or.inr (Or.inr (Or.inl (Or.inr (Or.inr (Or.inl ⟨a0, a1, a2, a3, a4, h0, h1, h2, h3, h4, h5, rfl⟩))))))), hle⟩
    · exact ⟨K, Or.inr (Or.inr (Or.inr (Or.inr (Or.inl (Or.inr (Or.inr (Or.inr (Or.inl ⟨a0, a1, a2, a3, a4, a5, a6, h0, h1, h2, h3, h4, h5, h6, h7, h8, rfl⟩)))))))), hle⟩
    · exact ⟨K, Or.inr (Or.inr (Or.inr (Or.inr (Or.inl (Or.inr (Or.inr (Or.inr (Or.inr (Or.inl ⟨a0, a1, a2, a3, a4, h0, h1, h2, h3, h4, h5, h6, rfl⟩))))))))), hle⟩
    · exact ⟨K, Or.inr (Or.inr (Or.inr (Or.inr (Or.inl (Or.inr (Or.inr (Or.inr (Or.inr (Or.inr (Or.inl ⟨a0, a1, a2, a3, h0, h1, h2, h3, rfl⟩)))))))))), hle⟩
    · exact ⟨K, Or.inr (Or.inr (Or.inr (Or.inr (Or.inl (Or.inr (Or.inr (Or.inr (Or.inr (Or.inr (Or.inr (Or.inl ⟨a0, a1, a2, h0, h1, h2, rfl⟩))))))))))), hle⟩
    · exact ⟨K, Or.inr (Or.inr (Or.inr (Or.inr (Or.inl (Or.inr (Or.inr (Or.inr (Or.inr (Or.inr (Or.inr (Or.inr (Or.inl ⟨a0, a1, a2, h0, h1, h2, h3, rfl⟩)))))))))))), hle⟩
    · exact ⟨K, Or.inr (Or.inr (Or.inr (Or.inr (Or.inl (Or.inr (Or.inr (Or.inr (Or.inr (Or.inr (Or.inr (Or.inr (Or.inr (Or.inl ⟨a0, a1, h0, h1, h2, rfl⟩))))))))))))), hle⟩
    · exact ⟨K, Or.inr (Or.inr (Or.inr (Or.inr (Or.inl (Or.inr (Or.inr (Or.inr (Or.inr (Or.inr (Or.inr (Or.inr (Or.inr (Or.inr (Or.inl ⟨a0, a1, h0, h1, h2, rfl⟩)))))))))))))), hle⟩
    · exact ⟨K, Or.inr (Or.inr (Or.inr (Or.inr (Or.inl (Or.inr (Or.inr (Or.inr (Or.inr (Or.inr (Or.inr (Or.inr (Or.inr (Or.inr (Or.inr (⟨a0, h0, h1, rfl⟩))))))))))))))), hle⟩
  · rcases h with ⟨a0, a1, a2, a3, a4, a5, a6, h0, h1, h2, h3, h4, h5, h6, h7, rfl⟩ | ⟨a0, a1, a2, a3, a4, a5, h0, h1, h2, h3, h4, rfl⟩ | ⟨a0, a1, a2, a3, a4, a5, h0, h1, h2, h3, h4, rfl⟩ | ⟨a0, a1, a2, a3, a4, a5, h0, h1, h2, h3, h4, rfl⟩ | ⟨a0, a1, a2, a3, a4, a5, a6, a7, a8, a9, h0, h1, h2, h3, h4, h5, h6, h7, h8, h9, rfl⟩ | ⟨a0, a1, a2, a3, a4, a5, a6, a7, a8, a9, a10, h0, h1, h2, h3, h4, h5, h6, h7, h8, h9, h10, h11, h12, h13, h14, h15, rfl⟩
    · exact ⟨K, Or.inr (Or.inr (Or.inr (Or.inr (Or.inr (Or.inl (Or.inl ⟨a0, a1, a2, a3, a4, a5, a6, h0, h1, h2, h3, h4, h5, h6, h7, rfl⟩)))))), hle⟩
    · exact ⟨K, Or.inr (Or.inr (Or.inr (Or.inr (Or.inr (Or.inl (Or.inr (Or.inl ⟨a0, a1, a2, a3, a4, a5, h0, h1, h2, h3, h4, rfl⟩))))))), hle⟩
    · exact ⟨K, Or.inr (Or.inr (Or.inr (Or.inr (Or.inr (Or.inl (Or.inr (Or.inr (Or.inl ⟨a0, a1, a2, a3, a4, a5, h0, h1, h2, h3, h4, rfl⟩)))))))), hle⟩
    · exact ⟨K, Or.inr (Or.inr (Or.inr (Or.inr (Or.inr (Or.inl (Or.inr (Or.inr (Or.inr (Or.inl ⟨a0, a1, a2, a3, a4, a5, h0, h1, h2, h3, h4, rfl⟩))))))))), hle⟩
    · exact ⟨K, Or.inr (Or.inr (Or.inr (Or.inr (Or.inr (Or.inl (Or.inr (Or.inr (Or.inr (Or.inr (Or.inl ⟨a0, a1, a2, a3, a4, a5, a6, a7, a8, a9, h0, h1, h2, h3, h4, h5, h6, h7, h8, h9, rfl⟩)))))))))), hle⟩
    · exact ⟨K, Or.inr (Or.inr (Or.inr (Or.inr (Or.inr (Or.inl (Or.inr (Or.inr (Or.inr (Or.inr (Or.inr (⟨a0, a1, a2, a3, a4, a5, a6, a7, a8, a9, a10, h0, h1, h2, h3, h4, h5, h6, h7, h8, h9, h10, h11, h12, h13, h14, h15, rfl⟩))))))))))), hle⟩
  · rcases h with ⟨a0, a1, a2, h0, h1, h2, h3, h4, rfl⟩ | ⟨a0, a1, a2, a3, a4, h0, h1, h2, h3, h4, h5, h6, h7, rfl⟩ | ⟨a0, a1, a2, a3, a4, a5, h0, h1, h2, h3, h4, h5, h6, h7, h8, rfl⟩
    · exact ⟨K, Or.inr (Or.inr (Or.inr (Or.inr (Or.inr (Or.inr (Or.inl (Or.inl ⟨a0, a1, a2, h0, h1, h2, h3, h4, rfl⟩))))))), hle⟩
    · exact ⟨K, Or.inr (Or.inr (Or.inr (Or.inr (Or.inr (Or.inr (Or.inl (Or.inr (Or.inl ⟨a0, a1, a2, a3, a4, h0, h1, h2, h3, h4, h5, h6, h7, rfl⟩)))))))), hle⟩
    · exact ⟨K, Or.inr (Or.inr (Or.inr (Or.inr (Or.inr (Or.inr (Or.inl (Or.inr (Or.inr (⟨a0, a1, a2, a3, a4, a5, h0, h1, h2, h3, h4, h5, h6, h7, h8, rfl⟩))))))))), hle⟩
  · obtain ⟨a0, a1, a2, a3, a4, a5, a6, h0, h1, h2, h3, h4, h5, h6, h7, h8, h9, h10, rfl⟩ := h
    exact ⟨K, Or.inr (Or.inr (Or.inr (Or.inr (Or.inr (Or.inr (Or.inr (Or.inl (⟨a0, a1, a2, a3, a4, a5, a6, h0, h1, h2, h3, h4, h5, h6, h7, h8, h9, h10, rfl⟩)))))))), hle⟩
  · rcases h with ⟨a0, a1, a2, h0, h1, h2, h3, h4, h5, rfl⟩ | ⟨a0, a1, a2, a3, h0, h1, h2, h3, h4, h5, h6, rfl⟩ | ⟨a0, a1, a2, a3, h0, h1, h2, h3, h4, h5, h6, rfl⟩
    · exact ⟨K, Or.inr (Or.inr (Or.inr (Or.inr (Or.inr (Or.inr (Or.inr (Or.inr (Or.inl (Or.inl ⟨a0, a1, a2, h0, h1, h2, h3, h4, h5, rfl⟩))))))))), hle⟩
    · exact ⟨K, Or.inr (Or.inr (Or.inr (Or.inr (Or.inr (Or.inr (Or.inr (Or.inr (Or.inl (Or.inr (Or.inl ⟨a0, a1, a2, a3, h0, h1, h2, h3, h4, h5, h6, rfl⟩)))))))))), hle⟩
    · exact ⟨K, Or.inr (Or.inr (Or.inr (Or.inr (Or.inr (Or.inr (Or.inr (Or.inr (Or.inl (Or.inr (Or.inr (⟨a0, a1, a2, a3, h0, h1, h2, h3, h4, h5, h6, rfl⟩))))))))))), hle⟩
  · obtain ⟨M2, as, r, idx, v, hp2, a1, a2, a3, a4, a5, rfl, a7⟩ := h
    exact ⟨K, Or.inr (Or.inr (Or.inr (Or.inr (Or.inr (Or.inr (Or.inr (Or.inr (Or.inr (⟨M2, as, r, idx, v, hp2, a1, a2, a3, a4, a5, rfl, a7⟩))))))))), hle⟩
theorem mx_run_le {X : Nat × (Nat → Int32)} {call : mx_M → List Value → mx_Hp → mx_Rs → Prop} {M : mx_M} : ∀ (k : Nat) (pc : Nat) (L K : mx_Lo) (S : List Value) (hp : mx_Hp) (res : mx_Rs), mx_Le L K → mx_run X call M k (pc, L, S, hp) res → mx_run X call M k (pc, K, S, hp) res := by
  intro k
  induction k with
  | zero => intro pc L K S hp res _ h; exact h.elim
  | succ k ih =>
    intro pc L K S hp res hle h
    rcases h with h | ⟨f2, h1, h2⟩
    · exact Or.inl h
    · obtain ⟨K2, g1, g2⟩ := mx_step_le hle h1
      obtain ⟨pc2, L2, S2, hp2⟩ := f2
      exact Or.inr ⟨(pc2, K2, S2, hp2), g1, ih pc2 L2 K2 S2 hp2 res g2 h2⟩
theorem r_le {X : Nat × (Nat → Int32)} {d pc : Nat} {M : mx_M} {L K : mx_Lo} {S : List Value} {T T2 : St} {v : Option Value} (hle : mx_Le L K) (k : tR X d M pc L S T v T2) : tR X d M pc K S T v T2 := by
  obtain ⟨j, hj⟩ := k
  exact ⟨j, mx_run_le j pc L K S _ _ hle hj⟩
