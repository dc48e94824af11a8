/-! ===== instructions that touch no cell ===== -/
def mx_c0 (c : Jvm.ClassFile.Cond) (x : Int32) : Bool := match c with
  | .eq => decide (x = 0)
  | .ne => decide (¬ x = 0)
  | .lt => decide (x < 0)
  | .ge => decide (0 ≤ x)
  | .gt => decide (0 < x)
  | .le => decide (x ≤ 0)
def mx_c2 (c : Jvm.ClassFile.Cond) (x y : Int32) : Bool := match c with
  | .eq => decide (x = y)
  | .ne => decide (¬ x = y)
  | .lt => decide (x < y)
  | .ge => decide (y ≤ x)
  | .gt => decide (y < x)
  | .le => decide (x ≤ y)
def mx_pure (pc : Nat) (L : mx_Lo) (S : List Value) (i : Instr) : Option (Nat × mx_Lo × List Value) := match i with
  | .iconst n => some (pc + 1, L, .int (Int32.ofInt n) :: S)
  | .bipush n => some (pc + 2, L, .int (Int8.ofInt n).toInt32 :: S)
  | .sipush n => some (pc + 3, L, .int (Int16.ofInt n).toInt32 :: S)
  | .lconst n => some (pc + 1, L, .long (Int64.ofNat (n : Nat)) :: S)
  | .iload_n n => mx_li L (n : Nat) fun x => some (pc + 1, L, .int x :: S)
  | .iload n => mx_li L n fun x => some (pc + 2, L, .int x :: S)
  | .lload_n n => mx_ll L (n : Nat) fun x => some (pc + 1, L, .long x :: S)
  | .lload n => mx_ll L n fun x => some (pc + 2, L, .long x :: S)
  | .aload_n n => mx_lr L (n : Nat) fun x => some (pc + 1, L, .ref x :: S)
  | .aload n => mx_lr L n fun x => some (pc + 2, L, .ref x :: S)
  | .istore_n n => mx_1i S fun x r => if (n : Nat) < L.length then some (pc + 1, mx_s1 L (n : Nat) (.int x), r) else none
  | .istore n => mx_1i S fun x r => if n < L.length then some (pc + 2, mx_s1 L n (.int x), r) else none
  | .lstore_n n => mx_1l S fun x r => if (n : Nat) + 1 < L.length then some (pc + 1, mx_s2 L (n : Nat) (.long x), r) else none
  | .lstore n => mx_1l S fun x r => if n + 1 < L.length then some (pc + 2, mx_s2 L n (.long x), r) else none
  | .astore_n n => mx_1r S fun x r => if (n : Nat) < L.length then some (pc + 1, mx_s1 L (n : Nat) (.ref x), r) else none
  | .astore n => mx_1r S fun x r => if n < L.length then some (pc + 2, mx_s1 L n (.ref x), r) else none
  | .iinc n z => mx_li L n fun x => if n < L.length then some (pc + 3, mx_s1 L n (.int (x + Int32.ofInt z)), S) else none
  | .iadd => mx_2i S fun y x r => some (pc + 1, L, .int (x + y) :: r)
  | .isub => mx_2i S fun y x r => some (pc + 1, L, .int (x - y) :: r)
  | .imul => mx_2i S fun y x r => some (pc + 1, L, .int (x * y) :: r)
  | .iand => mx_2i S fun y x r => some (pc + 1, L, .int (x &&& y) :: r)
  | .ior => mx_2i S fun y x r => some (pc + 1, L, .int (x ||| y) :: r)
  | .ixor => mx_2i S fun y x r => some (pc + 1, L, .int (x ^^^ y) :: r)
  | .ishl => mx_2i S fun y x r => some (pc + 1, L, .int (x <<< (y &&& 31)) :: r)
  | .ishr => mx_2i S fun y x r => some (pc + 1, L, .int (x >>> (y &&& 31)) :: r)
  | .iushr => mx_2i S fun y x r => some (pc + 1, L, .int (x.toUInt32 >>> (y.toUInt32 &&& Int32.toUInt32 31)).toInt32 :: r)
  | .idiv => mx_2i S fun y x r => if y = 0 then none else some (pc + 1, L, .int (x / y) :: r)
  | .irem => mx_2i S fun y x r => if y = 0 then none else some (pc + 1, L, .int (x - x / y * y) :: r)
  | .ineg => mx_1i S fun x r => some (pc + 1, L, .int (-x) :: r)
  | .ladd => mx_2l S fun y x r => some (pc + 1, L, .long (x + y) :: r)
  | .lsub => mx_2l S fun y x r => some (pc + 1, L, .long (x - y) :: r)
  | .land => mx_2l S fun y x r => some (pc + 1, L, .long (x &&& y) :: r)
  | .lor => mx_2l S fun y x r => some (pc + 1, L, .long (x ||| y) :: r)
  | .lxor => mx_2l S fun y x r => some (pc + 1, L, .long (x ^^^ y) :: r)
  | .lshl => mx_il S fun y x r => some (pc + 1, L, .long (x <<< (y.toInt64 &&& 63)) :: r)
  | .lshr => mx_il S fun y x r => some (pc + 1, L, .long (x >>> (y.toInt64 &&& 63)) :: r)
  | .lcmp => mx_2l S fun y x r => some (pc + 1, L, .int (lg_cmp x y) :: r)
  | .i2l => mx_1i S fun x r => some (pc + 1, L, .long x.toInt64 :: r)
  | .l2i => mx_1l S fun x r => some (pc + 1, L, .int x.toInt32 :: r)
  | .i2b => mx_1i S fun x r => some (pc + 1, L, .int x.toInt8.toInt32 :: r)
  | .i2s => mx_1i S fun x r => some (pc + 1, L, .int x.toInt16.toInt32 :: r)
  | .i2c => mx_1i S fun x r => some (pc + 1, L, .int (x.toUInt32 % 65536).toInt32 :: r)
  | .dup => mx_1v S fun v r => if v.category = 1 then some (pc + 1, L, v :: v :: r) else none
  | .pop => mx_1v S fun v r => if v.category = 1 then some (pc + 1, L, r) else none
  | .dup2 => mx_1v S fun v r => if v.category = 2 then some (pc + 1, L, v :: v :: r) else mx_1v r fun w r => if v.category = 1 ∧ w.category = 1 then some (pc + 1, L, v :: w :: v :: w :: r) else none
  | .goto off => mx_go pc off fun t => some (t, L, S)
  | .ifCond c off => mx_1i S fun x r => mx_go pc off fun t => some (if mx_c0 c x then t else pc + 3, L, r)
  | .if_icmp c off => mx_2i S fun y x r => mx_go pc off fun t => some (if mx_c2 c x y then t else pc + 3, L, r)
  | _ => none
def mx_len (i : Instr) : Nat := match i with
  | .iconst _ => 1
  | .bipush _ => 2
  | .sipush _ => 3
  | .lconst _ => 1
  | .iload_n _ => 1
  | .iload _ => 2
  | .lload_n _ => 1
  | .lload _ => 2
  | .aload_n _ => 1
  | .aload _ => 2
  | .istore_n _ => 1
  | .istore _ => 2
  | .lstore_n _ => 1
  | .lstore _ => 2
  | .astore_n _ => 1
  | .astore _ => 2
  | .iinc _ _ => 3
  | .iadd => 1
  | .isub => 1
  | .imul => 1
  | .iand => 1
  | .ior => 1
  | .ixor => 1
  | .ishl => 1
  | .ishr => 1
  | .iushr => 1
  | .idiv => 1
  | .irem => 1
  | .ineg => 1
  | .ladd => 1
  | .lsub => 1
  | .land => 1
  | .lor => 1
  | .lxor => 1
  | .lshl => 1
  | .lshr => 1
  | .lcmp => 1
  | .i2l => 1
  | .l2i => 1
  | .i2b => 1
  | .i2s => 1
  | .i2c => 1
  | .dup => 1
  | .pop => 1
  | .dup2 => 1
  | .goto _ => 3
  | .ifCond _ _ => 3
  | .if_icmp _ _ => 3
  | _ => 0
section MXP
variable {p : Program} {l : Launch} {e : Env} {R : Room} {s : State} {m : MethodId} {args : Array Value} {below : List Frame} {meth : Method} {c : Code} {H : Heap} {locs : List Loc} {cells slots : Nat} {Q : State → Prop}
variable {cc : ByteArray} {ls : Array Slot} {ρ : Nat → Nat}
theorem mx_if (hexec : p.tables.exec = Jvm.exec) (hb : c.code = cc) {pc t : Nat} {off : Int} {cd : Jvm.ClassFile.Cond} {x : Int32} {rest : List Value} (hd : decode cc pc = .ok (.ifCond cd off, 3)) (ht : (pc : Int) + off = (t : Int)) (k : W p l e R s m args below meth c H locs cells slots Q (F0 m (if mx_c0 cd x then t else pc + 3) ls rest)) : W p l e R s m args below meth c H locs cells slots Q (F0 m pc ls (.int x :: rest)) := by
  cases cd
  · refine lv_if_eq hexec hb hd ht (fun h => ?_) (fun h => ?_)
    · rw [if_pos (show mx_c0 .eq x = true from decide_eq_true h)] at k; exact k
    · rw [if_neg (show ¬ mx_c0 .eq x = true from fun z => h (of_decide_eq_true z))] at k; exact k
  · refine lv_if_ne hexec hb hd ht (fun h => ?_) (fun h => ?_)
    · rw [if_pos (by simpa [mx_c0] using h)] at k; exact k
    · rw [if_neg (by simpa [mx_c0] using h)] at k; exact k
  · refine lv_if_lt hexec hb hd ht (fun h => ?_) (fun h => ?_)
    · rw [if_pos (show mx_c0 .lt x = true from decide_eq_true h)] at k; exact k
    · rw [if_neg (show ¬ mx_c0 .lt x = true from fun z => h (of_decide_eq_true z))] at k; exact k
  · refine lv_if_ge hexec hb hd ht (fun h => ?_) (fun h => ?_)
    · rw [if_pos (show mx_c0 .ge x = true from decide_eq_true h)] at k; exact k
    · rw [if_neg (show ¬ mx_c0 .ge x = true from fun z => h (of_decide_eq_true z))] at k; exact k
  · refine lv_if_gt hexec hb hd ht (fun h => ?_) (fun h => ?_)
    · rw [if_pos (show mx_c0 .gt x = true from decide_eq_true h)] at k; exact k
    · rw [if_neg (show ¬ mx_c0 .gt x = true from fun z => h (of_decide_eq_true z))] at k; exact k
  · refine lv_if_le hexec hb hd ht (fun h => ?_) (fun h => ?_)
    · rw [if_pos (show mx_c0 .le x = true from decide_eq_true h)] at k; exact k
    · rw [if_neg (show ¬ mx_c0 .le x = true from fun z => h (of_decide_eq_true z))] at k; exact k
theorem mx_icmp (hexec : p.tables.exec = Jvm.exec) (hb : c.code = cc) {pc t : Nat} {off : Int} {cd : Jvm.ClassFile.Cond} {x y : Int32} {rest : List Value} (hd : decode cc pc = .ok (.if_icmp cd off, 3)) (ht : (pc : Int) + off = (t : Int)) (k : W p l e R s m args below meth c H locs cells slots Q (F0 m (if mx_c2 cd x y then t else pc + 3) ls rest)) : W p l e R s m args below meth c H locs cells slots Q (F0 m pc ls (.int y :: .int x :: rest)) := by
  cases cd
  · refine lv_icmp_eq hexec hb hd ht (fun h => ?_) (fun h => ?_)
    · rw [if_pos (show mx_c2 .eq x y = true from decide_eq_true h)] at k; exact k
    · rw [if_neg (show ¬ mx_c2 .eq x y = true from fun z => h (of_decide_eq_true z))] at k; exact k
  · refine lv_icmp_ne hexec hb hd ht (fun h => ?_) (fun h => ?_)
    · rw [if_pos (by simpa [mx_c2] using h)] at k; exact k
    · rw [if_neg (by simpa [mx_c2] using h)] at k; exact k
  · refine lv_icmp_lt hexec hb hd ht (fun h => ?_) (fun h => ?_)
    · rw [if_pos (show mx_c2 .lt x y = true from decide_eq_true h)] at k; exact k
    · rw [if_neg (show ¬ mx_c2 .lt x y = true from fun z => h (of_decide_eq_true z))] at k; exact k
  · refine lv_icmp_ge hexec hb hd ht (fun h => ?_) (fun h => ?_)
    · rw [if_pos (show mx_c2 .ge x y = true from decide_eq_true h)] at k; exact k
    · rw [if_neg (show ¬ mx_c2 .ge x y = true from fun z => h (of_decide_eq_true z))] at k; exact k
  · refine lv_icmp_gt hexec hb hd ht (fun h => ?_) (fun h => ?_)
    · rw [if_pos (show mx_c2 .gt x y = true from decide_eq_true h)] at k; exact k
    · rw [if_neg (show ¬ mx_c2 .gt x y = true from fun z => h (of_decide_eq_true z))] at k; exact k
  · refine lv_icmp_le hexec hb hd ht (fun h => ?_) (fun h => ?_)
    · rw [if_pos (show mx_c2 .le x y = true from decide_eq_true h)] at k; exact k
    · rw [if_neg (show ¬ mx_c2 .le x y = true from fun z => h (of_decide_eq_true z))] at k; exact k
theorem mx_pure_ok (hexec : p.tables.exec = Jvm.exec) (hb : c.code = cc) {pc pc2 : Nat} {L L2 : mx_Lo} {S S2 : List Value} {i : Instr} (hd : decode cc pc = .ok (i, mx_len i)) (h : mx_pure pc L S i = some (pc2, L2, S2)) (hL : mx_L ρ ls L)
    (k : ∀ ls2 : Array Slot, mx_L ρ ls2 L2 → W p l e R s m args below meth c H locs cells slots Q (F0 m pc2 ls2 (S2.map (mx_rv ρ)))) : W p l e R s m args below meth c H locs cells slots Q (F0 m pc ls (S.map (mx_rv ρ))) := by
  unfold mx_pure at h
  split at h
  · cases h; exact lv_iconst hexec hb hd rfl (k ls hL)
  · cases h; exact lv_bipush hexec hb hd rfl (k ls hL)
  · cases h; exact lv_sipush hexec hb hd rfl (k ls hL)
  · cases h; exact lv_lconst hexec hb hd rfl (k ls hL)
  · obtain ⟨x, hx, h⟩ := mx_li_inv h; cases h; exact lv_iload_n hexec hb hd rfl (hL.at hx) (k ls hL)
  · obtain ⟨x, hx, h⟩ := mx_li_inv h; cases h; exact lv_iload hexec hb hd (hL.at hx) (k ls hL)
  · obtain ⟨x, hx, h⟩ := mx_ll_inv h; cases h; exact lv_lload_n hexec hb hd rfl (hL.at hx) (k ls hL)
  · obtain ⟨x, hx, h⟩ := mx_ll_inv h; cases h; exact lv_lload hexec hb hd (hL.at hx) (k ls hL)
  · obtain ⟨x, hx, h⟩ := mx_lr_inv h; cases h; exact lv_aload_n hexec hb hd rfl (hL.at hx) (k ls hL)
  · obtain ⟨x, hx, h⟩ := mx_lr_inv h; cases h; exact lv_aload hexec hb hd (hL.at hx) (k ls hL)
  · obtain ⟨x, r, rfl, g⟩ := mx_1i_inv h; split at g
    · rename_i hc; cases g; exact lv_istore_n hexec hb hd rfl hL hc rfl (fun ls2 h2 => k ls2 (mx_L.s1 h2))
    · cases g
  · obtain ⟨x, r, rfl, g⟩ := mx_1i_inv h; split at g
    · rename_i hc; cases g; exact lv_istore hexec hb hd hL hc rfl (fun ls2 h2 => k ls2 (mx_L.s1 h2))
    · cases g
  · obtain ⟨x, r, rfl, g⟩ := mx_1l_inv h; split at g
    · rename_i hc; cases g; exact lv_lstore_n hexec hb hd rfl hL hc rfl (fun ls2 h2 => k ls2 (mx_L.s2 h2))
    · cases g
  · obtain ⟨x, r, rfl, g⟩ := mx_1l_inv h; split at g
    · rename_i hc; cases g; exact lv_lstore hexec hb hd hL hc rfl (fun ls2 h2 => k ls2 (mx_L.s2 h2))
    · cases g
  · obtain ⟨x, r, rfl, g⟩ := mx_1r_inv h; split at g
    · rename_i hc; cases g; exact lv_astore_n hexec hb hd rfl hL hc rfl (fun ls2 h2 => k ls2 (mx_L.s1 h2))
    · cases g
  · obtain ⟨x, r, rfl, g⟩ := mx_1r_inv h; split at g
    · rename_i hc; cases g; exact lv_astore hexec hb hd hL hc rfl (fun ls2 h2 => k ls2 (mx_L.s1 h2))
    · cases g
  · obtain ⟨x, hx, h⟩ := mx_li_inv h; split at h
    · rename_i hc; cases h; obtain ⟨j, hj⟩ := List.getElem?_of_mem (mx_prs_mem.mpr ⟨.int x, hx, rfl⟩ : (_, mx_rv ρ (.int x)) ∈ mx_prs ρ L); exact lv_iinc hexec hb hd hL (k := j) hj rfl hc rfl (fun ls2 h2 => k ls2 (mx_L.s1 h2))
    · cases h
  · obtain ⟨y, x, r, rfl, g⟩ := mx_2i_inv h; cases g; exact lv_iadd hexec hb hd (k ls hL)
  · obtain ⟨y, x, r, rfl, g⟩ := mx_2i_inv h; cases g; exact lv_isub hexec hb hd (k ls hL)
  · obtain ⟨y, x, r, rfl, g⟩ := mx_2i_inv h; cases g; exact lv_imul hexec hb hd (k ls hL)
  · obtain ⟨y, x, r, rfl, g⟩ := mx_2i_inv h; cases g; exact lv_iand hexec hb hd (k ls hL)
  · obtain ⟨y, x, r, rfl, g⟩ := mx_2i_inv h; cases g; exact lv_ior hexec hb hd (k ls hL)
  · obtain ⟨y, x, r, rfl, g⟩ := mx_2i_inv h; cases g; exact lv_ixor hexec hb hd (k ls hL)
  · obtain ⟨y, x, r, rfl, g⟩ := mx_2i_inv h; cases g; exact lv_ishl hexec hb hd (k ls hL)
  · obtain ⟨y, x, r, rfl, g⟩ := mx_2i_inv h; cases g; exact lv_ishr hexec hb hd (k ls hL)
  · obtain ⟨y, x, r, rfl, g⟩ := mx_2i_inv h; cases g; exact lv_iushr hexec hb hd rfl (k ls hL)
  · obtain ⟨y, x, r, rfl, g⟩ := mx_2i_inv h; split at g
    · cases g
    · rename_i hc; cases g; exact lv_idiv hexec hb hd hc (k ls hL)
  · obtain ⟨y, x, r, rfl, g⟩ := mx_2i_inv h; split at g
    · cases g
    · rename_i hc; cases g; exact lv_irem hexec hb hd hc (k ls hL)
  · obtain ⟨x, r, rfl, g⟩ := mx_1i_inv h; cases g; exact lv_ineg hexec hb hd (k ls hL)
  · obtain ⟨y, x, r, rfl, g⟩ := mx_2l_inv h; cases g; exact lv_ladd hexec hb hd (k ls hL)
  · obtain ⟨y, x, r, rfl, g⟩ := mx_2l_inv h; cases g; exact lv_lsub hexec hb hd (k ls hL)
  · obtain ⟨y, x, r, rfl, g⟩ := mx_2l_inv h; cases g; exact lv_land hexec hb hd (k ls hL)
  · obtain ⟨y, x, r, rfl, g⟩ := mx_2l_inv h; cases g; exact lv_lor hexec hb hd (k ls hL)
  · obtain ⟨y, x, r, rfl, g⟩ := mx_2l_inv h; cases g; exact lv_lxor hexec hb hd (k ls hL)
  · obtain ⟨y, x, r, rfl, g⟩ := mx_il_inv h; cases g; exact lv_lshl hexec hb hd rfl (k ls hL)
  · obtain ⟨y, x, r, rfl, g⟩ := mx_il_inv h; cases g; exact lv_lshr hexec hb hd rfl (k ls hL)
  · obtain ⟨y, x, r, rfl, g⟩ := mx_2l_inv h; cases g; exact W.lcmp hexec hb hd (k ls hL)
  · obtain ⟨x, r, rfl, g⟩ := mx_1i_inv h; cases g; exact lv_i2l hexec hb hd rfl (k ls hL)
  · obtain ⟨x, r, rfl, g⟩ := mx_1l_inv h; cases g; exact lv_l2i hexec hb hd rfl (k ls hL)
  · obtain ⟨x, r, rfl, g⟩ := mx_1i_inv h; cases g; exact lv_i2b hexec hb hd rfl (k ls hL)
  · obtain ⟨x, r, rfl, g⟩ := mx_1i_inv h; cases g; exact lv_i2s hexec hb hd rfl (k ls hL)
  · obtain ⟨x, r, rfl, g⟩ := mx_1i_inv h; cases g; exact lv_i2c hexec hb hd rfl (k ls hL)
  · obtain ⟨x, r, rfl, g⟩ := mx_1v_inv h; split at g
    · rename_i hc; cases g; exact lv_dup hexec hb hd (by rw [mx_rv_cat]; exact hc) (k ls hL)
    · cases g
  · obtain ⟨x, r, rfl, g⟩ := mx_1v_inv h; split at g
    · rename_i hc; cases g; exact lv_pop hexec hb hd (by rw [mx_rv_cat]; exact hc) (k ls hL)
    · cases g
  · obtain ⟨x, r, rfl, g⟩ := mx_1v_inv h; split at g
    · rename_i hc; cases g; exact lv_dup2_2 hexec hb hd (by rw [mx_rv_cat]; exact hc) (k ls hL)
    · obtain ⟨w, r, rfl, g2⟩ := mx_1v_inv g; split at g2
      · rename_i hc; cases g2; exact lv_dup2_11 hexec hb hd (by rw [mx_rv_cat]; exact hc.1) (by rw [mx_rv_cat]; exact hc.2) (k ls hL)
      · cases g2
  · obtain ⟨t, ht, h⟩ := mx_go_inv h; cases h; exact lv_goto hexec hb hd ht (k ls hL)
  · obtain ⟨x, r, rfl, g⟩ := mx_1i_inv h; obtain ⟨t, ht, g⟩ := mx_go_inv g; cases g; exact mx_if hexec hb hd ht (k ls hL)
  · obtain ⟨y, x, r, rfl, g⟩ := mx_2i_inv h; obtain ⟨t, ht, g⟩ := mx_go_inv g; cases g; exact mx_icmp hexec hb hd ht (k ls hL)
  · cases h
theorem mx_pure_len {pc pc2 : Nat} {L L2 : mx_Lo} {S S2 : List Value} {i : Instr} (h : mx_pure pc L S i = some (pc2, L2, S2)) : L2.length = L.length := by
  unfold mx_pure at h
  split at h
  · cases h; simp [mx_s1_len, mx_s2_len]
  · cases h; simp [mx_s1_len, mx_s2_len]
  · cases h; simp [mx_s1_len, mx_s2_len]
  · cases h; simp [mx_s1_len, mx_s2_len]
  · obtain ⟨x, hx, h⟩ := mx_li_inv h; cases h; simp [mx_s1_len, mx_s2_len]
  · obtain ⟨x, hx, h⟩ := mx_li_inv h; cases h; simp [mx_s1_len, mx_s2_len]
  · obtain ⟨x, hx, h⟩ := mx_ll_inv h; cases h; simp [mx_s1_len, mx_s2_len]
  · obtain ⟨x, hx, h⟩ := mx_ll_inv h; cases h; simp [mx_s1_len, mx_s2_len]
  · obtain ⟨x, hx, h⟩ := mx_lr_inv h; cases h; simp [mx_s1_len, mx_s2_len]
  · obtain ⟨x, hx, h⟩ := mx_lr_inv h; cases h; simp [mx_s1_len, mx_s2_len]
  · obtain ⟨x, r, rfl, g⟩ := mx_1i_inv h; split at g
    · cases g; simp [mx_s1_len, mx_s2_len]
    · cases g
  · obtain ⟨x, r, rfl, g⟩ := mx_1i_inv h; split at g
    · cases g; simp [mx_s1_len, mx_s2_len]
    · cases g
  · obtain ⟨x, r, rfl, g⟩ := mx_1l_inv h; split at g
    · cases g; simp [mx_s1_len, mx_s2_len]
    · cases g
  · obtain ⟨x, r, rfl, g⟩ := mx_1l_inv h; split at g
    · cases g; simp [mx_s1_len, mx_s2_len]
    · cases g
  · obtain ⟨x, r, rfl, g⟩ := mx_1r_inv h; split at g
    · cases g; simp [mx_s1_len, mx_s2_len]
    · cases g
  · obtain ⟨x, r, rfl, g⟩ := mx_1r_inv h; split at g
    · cases g; simp [mx_s1_len, mx_s2_len]
    · cases g
  · obtain ⟨x, hx, h⟩ := mx_li_inv h; split at h
    · cases h; simp [mx_s1_len, mx_s2_len]
    · cases h
  · obtain ⟨y, x, r, rfl, g⟩ := mx_2i_inv h; cases g; simp [mx_s1_len, mx_s2_len]
  · obtain ⟨y, x, r, rfl, g⟩ := mx_2i_inv h; cases g; simp [mx_s1_len, mx_s2_len]
  · obtain ⟨y, x, r, rfl, g⟩ := mx_2i_inv h; cases g; simp [mx_s1_len, mx_s2_len]
  · obtain ⟨y, x, r, rfl, g⟩ := mx_2i_inv h; cases g; simp [mx_s1_len, mx_s2_len]
  · obtain ⟨y, x, r, rfl, g⟩ := mx_2i_inv h; cases g; simp [mx_s1_len, mx_s2_len]
  · obtain ⟨y, x, r, rfl, g⟩ := mx_2i_inv h; cases g; simp [mx_s1_len, mx_s2_len]
  · obtain ⟨y, x, r, rfl, g⟩ := mx_2i_inv h; cases g; simp [mx_s1_len, mx_s2_len]
  · obtain ⟨y, x, r, rfl, g⟩ := mx_2i_inv h; cases g; simp [mx_s1_len, mx_s2_len]
  · obtain ⟨y, x, r, rfl, g⟩ := mx_2i_inv h; cases g; simp [mx_s1_len, mx_s2_len]
  · obtain ⟨y, x, r, rfl, g⟩ := mx_2i_inv h; split at g
    · cases g
    · cases g; simp [mx_s1_len, mx_s2_len]
  · obtain ⟨y, x, r, rfl, g⟩ := mx_2i_inv h; split at g
    · cases g
    · cases g; simp [mx_s1_len, mx_s2_len]
  · obtain ⟨x, r, rfl, g⟩ := mx_1i_inv h; cases g; simp [mx_s1_len, mx_s2_len]
  · obtain ⟨y, x, r, rfl, g⟩ := mx_2l_inv h; cases g; simp [mx_s1_len, mx_s2_len]
  · obtain ⟨y, x, r, rfl, g⟩ := mx_2l_inv h; cases g; simp [mx_s1_len, mx_s2_len]
  · obtain ⟨y, x, r, rfl, g⟩ := mx_2l_inv h; cases g; simp [mx_s1_len, mx_s2_len]
  · obtain ⟨y, x, r, rfl, g⟩ := mx_2l_inv h; cases g; simp [mx_s1_len, mx_s2_len]
  · obtain ⟨y, x, r, rfl, g⟩ := mx_2l_inv h; cases g; simp [mx_s1_len, mx_s2_len]
  · obtain ⟨y, x, r, rfl, g⟩ := mx_il_inv h; cases g; simp [mx_s1_len, mx_s2_len]
  · obtain ⟨y, x, r, rfl, g⟩ := mx_il_inv h; cases g; simp [mx_s1_len, mx_s2_len]
  · obtain ⟨y, x, r, rfl, g⟩ := mx_2l_inv h; cases g; simp [mx_s1_len, mx_s2_len]
  · obtain ⟨x, r, rfl, g⟩ := mx_1i_inv h; cases g; simp [mx_s1_len, mx_s2_len]
  · obtain ⟨x, r, rfl, g⟩ := mx_1l_inv h; cases g; simp [mx_s1_len, mx_s2_len]
  · obtain ⟨x, r, rfl, g⟩ := mx_1i_inv h; cases g; simp [mx_s1_len, mx_s2_len]
  · obtain ⟨x, r, rfl, g⟩ := mx_1i_inv h; cases g; simp [mx_s1_len, mx_s2_len]
  · obtain ⟨x, r, rfl, g⟩ := mx_1i_inv h; cases g; simp [mx_s1_len, mx_s2_len]
  · obtain ⟨x, r, rfl, g⟩ := mx_1v_inv h; split at g
    · cases g; simp [mx_s1_len, mx_s2_len]
    · cases g
  · obtain ⟨x, r, rfl, g⟩ := mx_1v_inv h; split at g
    · cases g; simp [mx_s1_len, mx_s2_len]
    · cases g
  · obtain ⟨x, r, rfl, g⟩ := mx_1v_inv h; split at g
    · cases g; simp [mx_s1_len, mx_s2_len]
    · obtain ⟨w, r, rfl, g2⟩ := mx_1v_inv g; split at g2
      · cases g2; simp [mx_s1_len, mx_s2_len]
      · cases g2
  · obtain ⟨t, ht, h⟩ := mx_go_inv h; cases h; simp [mx_s1_len, mx_s2_len]
  · obtain ⟨x, r, rfl, g⟩ := mx_1i_inv h; obtain ⟨t, ht, g⟩ := mx_go_inv g; cases g; simp [mx_s1_len, mx_s2_len]
  · obtain ⟨y, x, r, rfl, g⟩ := mx_2i_inv h; obtain ⟨t, ht, g⟩ := mx_go_inv g; cases g; simp [mx_s1_len, mx_s2_len]
  · cases h
end MXP
