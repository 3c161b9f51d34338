def Nn (f : Nat → Int32) (k w : Nat) : Prop := f k = nI (tn (f k)) ∧ tn (f k) < w
theorem ba_zero {le : Nat → Int32} {x : Int32} {b : Nat} (h : ∃ j, b ≤ j ∧ j ≤ b + 0 ∧ le j = x) : le b = x := by
  obtain ⟨j, h1, h2, h3⟩ := h
  have : j = b := by omega
  rw [← this]; exact h3
theorem ba_succ {le : Nat → Int32} {x : Int32} {b k : Nat} (h : ∃ j, b ≤ j ∧ j ≤ b + (k + 1) ∧ le j = x) (hn : ¬ le b = x) : ∃ j, b + 1 ≤ j ∧ j ≤ b + 1 + k ∧ le j = x := by
  obtain ⟨j, h1, h2, h3⟩ := h
  have : j ≠ b := fun e => hn (by rw [← e]; exact h3)
  exact ⟨j, by omega, by omega, h3⟩

theorem d_MO_blockAt_0 : decode b_MO_blockAt 0 = .ok (.iconst 0, 1) := by decide +kernel
theorem d_MO_blockAt_1 : decode b_MO_blockAt 1 = .ok (.istore_n 2, 1) := by decide +kernel
theorem d_MO_blockAt_2 : decode b_MO_blockAt 2 = .ok (.aload_n 0, 1) := by decide +kernel
theorem d_MO_blockAt_3 : decode b_MO_blockAt 3 = .ok (.getfield 35, 3) := by decide +kernel
theorem d_MO_blockAt_6 : decode b_MO_blockAt 6 = .ok (.iload_n 2, 1) := by decide +kernel
theorem d_MO_blockAt_7 : decode b_MO_blockAt 7 = .ok (.iaload, 1) := by decide +kernel
theorem d_MO_blockAt_8 : decode b_MO_blockAt 8 = .ok (.iload_n 1, 1) := by decide +kernel
theorem d_MO_blockAt_9 : decode b_MO_blockAt 9 = .ok (.if_icmp .eq 9, 3) := by decide +kernel
theorem d_MO_blockAt_12 : decode b_MO_blockAt 12 = .ok (.iinc 2 1, 3) := by decide +kernel
theorem d_MO_blockAt_15 : decode b_MO_blockAt 15 = .ok (.goto (-13), 3) := by decide +kernel
theorem d_MO_blockAt_18 : decode b_MO_blockAt 18 = .ok (.iload_n 2, 1) := by decide +kernel
theorem d_MO_blockAt_19 : decode b_MO_blockAt 19 = .ok (.ireturn, 1) := by decide +kernel
def lp_MO_blockAt (le : Nat → Int32) (v : Int32) : Nat → Nat → Nat
  | 0, b => b
  | kf + 1, b => (if le b = v then b else (lp_MO_blockAt le v kf (b + 1)))
def f_MO_blockAt (bc : Nat) (le : Nat → Int32) (v : Int32) : Nat := lp_MO_blockAt le v (bc - 1) 0
set_option maxHeartbeats 1000000 in
set_option maxRecDepth 100000 in
theorem c_MO_blockAt (l : Launch) (D : va_G) (cI cZ : ClassId) (a q_op q_arg q_handler q_depth q_over q_flatOp q_flatArg q_flatHandler q_leader q_last q_height q_state q_begin q_drawn q_order q_starters q_emitted q_locals q_stack : Nat) (x_count x_handlers x_flatCount x_flatHandlers x_blockCount x_g x_ran x_ended x_result x_steps x_emits x_top x_at : Int32) (bc : Nat) (le : Nat → Int32) (v : Int32) (hb32 : bc ≤ 32) (hex : ∃ j, 0 ≤ j ∧ j ≤ 0 + (bc - 1) ∧ le j = v) (hb1 : 1 ≤ bc) : MG l y_MO_blockAt w_MO_blockAt (rmK 0 0) D classes (tyz cI cZ) E0 [.ref a, .int v] [(a, .inr (7, [.int x_count, .ref q_op, .ref q_arg, .int x_handlers, .ref q_handler, .ref q_depth, .ref q_over, .int x_flatCount, .ref q_flatOp, .ref q_flatArg, .int x_flatHandlers, .ref q_flatHandler, .int x_blockCount, .ref q_leader, .ref q_last, .ref q_height, .ref q_state, .ref q_begin, .ref q_drawn, .ref q_order, .int x_g, .ref q_starters, .int x_ran, .int x_ended, .int x_result, .int x_steps, .int x_emits, .ref q_emitted, .ref q_locals, .ref q_stack, .int x_top, .int x_at])), (q_leader, .inl (cI, 32, .inl le))] (RI D classes (tyz cI cZ) (nI (f_MO_blockAt bc le v)) [(a, .inr (7, [.int x_count, .ref q_op, .ref q_arg, .int x_handlers, .ref q_handler, .ref q_depth, .ref q_over, .int x_flatCount, .ref q_flatOp, .ref q_flatArg, .int x_flatHandlers, .ref q_flatHandler, .int x_blockCount, .ref q_leader, .ref q_last, .ref q_height, .ref q_state, .ref q_begin, .ref q_drawn, .ref q_order, .int x_g, .ref q_starters, .int x_ran, .int x_ended, .int x_result, .int x_steps, .int x_emits, .ref q_emitted, .ref q_locals, .ref q_stack, .int x_top, .int x_at])), (q_leader, .inl (cI, 32, .inl le))]) := by
  refine MG.of (cc := b_MO_blockAt) (maxL := 3) (ret := (some .int)) (own := "FlowFlattenerModel") rfl (by decide) rfl (Nat.le_of_ble_eq_true rfl) ?_
  intro p e s m below meth c A ls S hr hlocks hA hP hK hD hS hE hl
  have hx := S.1
  have hb := S.2.1
  have hl : lv_has ls 3 [(0, .ref a), (1, .int v)] := hl
  refine lv_iconst (v := nI 0) hx hb d_MO_blockAt_0 (by decide) ?_
  refine lv_istore_n (lv' := [(2, .int (nI 0)), (0, .ref a), (1, .int v)]) hx hb d_MO_blockAt_1 rfl hl (by decide) rfl (fun ls hl => ?_)
  have LP2 : ∀ (kf : Nat) (b : Nat), (b + kf + 1 = bc) → (∃ j, b ≤ j ∧ j ≤ b + kf ∧ le j = v) → lp_MO_blockAt le v kf b = f_MO_blockAt bc le v → ∀ (ls : Array Slot) (H : Heap) (locs : List Loc), lv_has ls 3 [(0, .ref a), (1, .int v), (2, .int (nI b))] → va_P D classes [(a, .inr (7, [.int x_count, .ref q_op, .ref q_arg, .int x_handlers, .ref q_handler, .ref q_depth, .ref q_over, .int x_flatCount, .ref q_flatOp, .ref q_flatArg, .int x_flatHandlers, .ref q_flatHandler, .int x_blockCount, .ref q_leader, .ref q_last, .ref q_height, .ref q_state, .ref q_begin, .ref q_drawn, .ref q_order, .int x_g, .ref q_starters, .int x_ran, .int x_ended, .int x_result, .int x_steps, .int x_emits, .ref q_emitted, .ref q_locals, .ref q_stack, .int x_top, .int x_at])), (q_leader, .inl (cI, 32, .inl le))] H → va_D A [(a, .inr (7, [.int x_count, .ref q_op, .ref q_arg, .int x_handlers, .ref q_handler, .ref q_depth, .ref q_over, .int x_flatCount, .ref q_flatOp, .ref q_flatArg, .int x_flatHandlers, .ref q_flatHandler, .int x_blockCount, .ref q_leader, .ref q_last, .ref q_height, .ref q_state, .ref q_begin, .ref q_drawn, .ref q_order, .int x_g, .ref q_starters, .int x_ran, .int x_ended, .int x_result, .int x_steps, .int x_emits, .ref q_emitted, .ref q_locals, .ref q_stack, .int x_top, .int x_at])), (q_leader, .inl (cI, 32, .inl le))] → va_S A s.heap H locs → W p l e (rmK 0 0) s m [.ref a, .int v].toArray below meth c H locs 0 0 (MQ below (RI D classes (tyz cI cZ) (nI (f_MO_blockAt bc le v)) [(a, .inr (7, [.int x_count, .ref q_op, .ref q_arg, .int x_handlers, .ref q_handler, .ref q_depth, .ref q_over, .int x_flatCount, .ref q_flatOp, .ref q_flatArg, .int x_flatHandlers, .ref q_flatHandler, .int x_blockCount, .ref q_leader, .ref q_last, .ref q_height, .ref q_state, .ref q_begin, .ref q_drawn, .ref q_order, .int x_g, .ref q_starters, .int x_ran, .int x_ended, .int x_result, .int x_steps, .int x_emits, .ref q_emitted, .ref q_locals, .ref q_stack, .int x_top, .int x_at])), (q_leader, .inl (cI, 32, .inl le))] A) [.ref a, .int v].toArray s 0 0 A) (F0 m 2 ls []) := by
    intro kf
    induction kf with
    | zero =>
      intro b hk he hF2 ls H locs hl hP hD hS
      refine lv_aload_n hx hb d_MO_blockAt_2 rfl (lv_at hl 0 rfl) ?_
      refine k_get (v := .ref q_leader) S in_MO hK hP 0 rfl rfl 13 (by decide) ql_MO_35 rfl d_MO_blockAt_3 ?_
      refine lv_iload_n hx hb d_MO_blockAt_6 rfl (lv_at hl 2 rfl) ?_
      refine k_ld (k := b) hx hb hK hP 1 0 rfl rfl rfl (by omega) (by decide) d_MO_blockAt_7 ?_
      refine lv_iload_n hx hb d_MO_blockAt_8 rfl (lv_at hl 1 rfl) ?_
      refine lv_icmp_eq (tgt := 18) hx hb d_MO_blockAt_9 (by decide) (fun h9_1 => ?_) (fun h9_1 => absurd (ba_zero he) h9_1)
      refine lv_iload_n hx hb d_MO_blockAt_18 rfl (lv_at hl 2 rfl) ?_
      exact k_iret hx hb hr hlocks hK hP hD hS (by rw [← hF2, lp_MO_blockAt]) rfl d_MO_blockAt_19
    | succ kf ih =>
      intro b hk he hF2 ls H locs hl hP hD hS
      refine lv_aload_n hx hb d_MO_blockAt_2 rfl (lv_at hl 0 rfl) ?_
      refine k_get (v := .ref q_leader) S in_MO hK hP 0 rfl rfl 13 (by decide) ql_MO_35 rfl d_MO_blockAt_3 ?_
      refine lv_iload_n hx hb d_MO_blockAt_6 rfl (lv_at hl 2 rfl) ?_
      refine k_ld (k := b) hx hb hK hP 1 0 rfl rfl rfl (by omega) (by decide) d_MO_blockAt_7 ?_
      refine lv_iload_n hx hb d_MO_blockAt_8 rfl (lv_at hl 1 rfl) ?_
      refine lv_icmp_eq (tgt := 18) hx hb d_MO_blockAt_9 (by decide) (fun h9_2 => ?_) (fun h9_2 => ?_)
      · skip
        refine lv_iload_n hx hb d_MO_blockAt_18 rfl (lv_at hl 2 rfl) ?_
        exact k_iret hx hb hr hlocks hK hP hD hS (by rw [← hF2, lp_MO_blockAt, if_pos h9_2]) rfl d_MO_blockAt_19
      · skip
        refine lv_iinc (k := 2) (v := nI (b + 1)) (lv' := [(2, .int (nI (b + 1))), (0, .ref a), (1, .int v)]) hx hb d_MO_blockAt_12 hl rfl (nc_add rfl (by decide)) (by decide) rfl (fun ls hl => ?_)
        refine lv_goto (tgt := 2) hx hb d_MO_blockAt_15 (by decide) ?_
        have e9 : lp_MO_blockAt le v (kf + 1) b = lp_MO_blockAt le v kf (b + 1) := by rw [lp_MO_blockAt, if_neg h9_2]
        rw [e9] at hF2
        exact ih (b + 1) (by omega) (ba_succ he (by assumption)) hF2 _ _ _ (lv_sub hl [1, 2, 0] rfl) hP hD hS
  exact LP2 (bc - 1) 0 (by omega) hex (by rw [f_MO_blockAt]) _ _ _ (lv_sub hl [1, 2, 0] rfl) hP hD hS

theorem d_MO_draw_0 : decode b_MO_draw 0 = .ok (.aload_n 0, 1) := by decide +kernel
theorem d_MO_draw_1 : decode b_MO_draw 1 = .ok (.aload_n 0, 1) := by decide +kernel
theorem d_MO_draw_2 : decode b_MO_draw 2 = .ok (.getfield 122, 3) := by decide +kernel
theorem d_MO_draw_5 : decode b_MO_draw 5 = .ok (.ldc 125, 2) := by decide +kernel
theorem d_MO_draw_7 : decode b_MO_draw 7 = .ok (.imul, 1) := by decide +kernel
theorem d_MO_draw_8 : decode b_MO_draw 8 = .ok (.ldc 126, 2) := by decide +kernel
theorem d_MO_draw_10 : decode b_MO_draw 10 = .ok (.iadd, 1) := by decide +kernel
theorem d_MO_draw_11 : decode b_MO_draw 11 = .ok (.putfield 122, 3) := by decide +kernel
theorem d_MO_draw_14 : decode b_MO_draw 14 = .ok (.aload_n 0, 1) := by decide +kernel
theorem d_MO_draw_15 : decode b_MO_draw 15 = .ok (.getfield 122, 3) := by decide +kernel
theorem d_MO_draw_18 : decode b_MO_draw 18 = .ok (.bipush 8, 2) := by decide +kernel
theorem d_MO_draw_20 : decode b_MO_draw 20 = .ok (.iushr, 1) := by decide +kernel
theorem d_MO_draw_21 : decode b_MO_draw 21 = .ok (.ireturn, 1) := by decide +kernel
set_option maxHeartbeats 1000000 in
set_option maxRecDepth 100000 in
theorem c_MO_draw (l : Launch) (D : va_G) (cI cZ : ClassId) (a q_op q_arg q_handler q_depth q_over q_flatOp q_flatArg q_flatHandler q_leader q_last q_height q_state q_begin q_drawn q_order q_starters q_emitted q_locals q_stack : Nat) (x_count x_handlers x_flatCount x_flatHandlers x_blockCount x_ran x_ended x_result x_steps x_emits x_top x_at : Int32) (gg : Int32) : MG l y_MO_draw w_MO_draw (rmK 0 0) D classes (tyz cI cZ) E0 [.ref a] [(a, .inr (7, [.int x_count, .ref q_op, .ref q_arg, .int x_handlers, .ref q_handler, .ref q_depth, .ref q_over, .int x_flatCount, .ref q_flatOp, .ref q_flatArg, .int x_flatHandlers, .ref q_flatHandler, .int x_blockCount, .ref q_leader, .ref q_last, .ref q_height, .ref q_state, .ref q_begin, .ref q_drawn, .ref q_order, .int gg, .ref q_starters, .int x_ran, .int x_ended, .int x_result, .int x_steps, .int x_emits, .ref q_emitted, .ref q_locals, .ref q_stack, .int x_top, .int x_at]))] (RI D classes (tyz cI cZ) (dr (gn gg)) [(a, .inr (7, [.int x_count, .ref q_op, .ref q_arg, .int x_handlers, .ref q_handler, .ref q_depth, .ref q_over, .int x_flatCount, .ref q_flatOp, .ref q_flatArg, .int x_flatHandlers, .ref q_flatHandler, .int x_blockCount, .ref q_leader, .ref q_last, .ref q_height, .ref q_state, .ref q_begin, .ref q_drawn, .ref q_order, .int (gn gg), .ref q_starters, .int x_ran, .int x_ended, .int x_result, .int x_steps, .int x_emits, .ref q_emitted, .ref q_locals, .ref q_stack, .int x_top, .int x_at]))]) := by
  refine MG.of (cc := b_MO_draw) (maxL := 1) (ret := (some .int)) (own := "FlowFlattenerModel") rfl (by decide) rfl (Nat.le_of_ble_eq_true rfl) ?_
  intro p e s m below meth c A ls S hr hlocks hA hP hK hD hS hE hl
  have hx := S.1
  have hb := S.2.1
  have hl : lv_has ls 1 [(0, .ref a)] := hl
  refine lv_aload_n hx hb d_MO_draw_0 rfl (lv_at hl 0 rfl) ?_
  refine lv_aload_n hx hb d_MO_draw_1 rfl (lv_at hl 0 rfl) ?_
  refine k_get (v := .int gg) S in_MO hK hP 0 rfl rfl 20 (by decide) ql_MO_122 rfl d_MO_draw_2 ?_
  refine lv_ldc hx hb S.2.2.2.1 (S.2.2.2.2 _ ql_MO_125) d_MO_draw_5 ?_
  refine lv_imul hx hb d_MO_draw_7 ?_
  refine lv_ldc hx hb S.2.2.2.1 (S.2.2.2.2 _ ql_MO_126) d_MO_draw_8 ?_
  refine lv_iadd hx hb d_MO_draw_10 ?_
  refine k_top (y := gn gg) (gn_eq gg).symm ?_
  refine k_put (v := .int (gn gg)) (ws' := [(a, .inr (7, [.int x_count, .ref q_op, .ref q_arg, .int x_handlers, .ref q_handler, .ref q_depth, .ref q_over, .int x_flatCount, .ref q_flatOp, .ref q_flatArg, .int x_flatHandlers, .ref q_flatHandler, .int x_blockCount, .ref q_leader, .ref q_last, .ref q_height, .ref q_state, .ref q_begin, .ref q_drawn, .ref q_order, .int (gn gg), .ref q_starters, .int x_ran, .int x_ended, .int x_result, .int x_steps, .int x_emits, .ref q_emitted, .ref q_locals, .ref q_stack, .int x_top, .int x_at]))]) S in_MO ty_MO nm_MO hK hP hD hS 0 rfl rfl 20 (by decide) ql_MO_122 rfl rfl rfl rfl (Nat.le_of_ble_eq_true rfl) rfl d_MO_draw_11 (fun H locs hP hD hS => ?_)
  refine lv_aload_n hx hb d_MO_draw_14 rfl (lv_at hl 0 rfl) ?_
  refine k_get (v := .int (gn gg)) S in_MO hK hP 0 rfl rfl 20 (by decide) ql_MO_122 rfl d_MO_draw_15 ?_
  refine lv_bipush (v := 8) hx hb d_MO_draw_18 (by decide) ?_
  refine lv_iushr (v := ((gn gg).toUInt32 >>> ((8 : Int32).toUInt32 &&& Int32.toUInt32 31)).toInt32) hx hb d_MO_draw_20 rfl ?_
  refine k_top (y := dr (gn gg)) (dr_eq (gn gg)).symm ?_
  exact k_iret hx hb hr hlocks hK hP hD hS rfl rfl d_MO_draw_21

theorem d_MO_taken_0 : decode b_MO_taken 0 = .ok (.iconst 0, 1) := by decide +kernel
theorem d_MO_taken_1 : decode b_MO_taken 1 = .ok (.istore_n 2, 1) := by decide +kernel
theorem d_MO_taken_2 : decode b_MO_taken 2 = .ok (.iconst 0, 1) := by decide +kernel
theorem d_MO_taken_3 : decode b_MO_taken 3 = .ok (.istore_n 3, 1) := by decide +kernel
theorem d_MO_taken_4 : decode b_MO_taken 4 = .ok (.iload_n 3, 1) := by decide +kernel
theorem d_MO_taken_5 : decode b_MO_taken 5 = .ok (.iload_n 1, 1) := by decide +kernel
theorem d_MO_taken_6 : decode b_MO_taken 6 = .ok (.if_icmp .ge 34, 3) := by decide +kernel
theorem d_MO_taken_9 : decode b_MO_taken 9 = .ok (.iload_n 2, 1) := by decide +kernel
theorem d_MO_taken_10 : decode b_MO_taken 10 = .ok (.ifCond .ne 18, 3) := by decide +kernel
theorem d_MO_taken_13 : decode b_MO_taken 13 = .ok (.aload_n 0, 1) := by decide +kernel
theorem d_MO_taken_14 : decode b_MO_taken 14 = .ok (.getfield 44, 3) := by decide +kernel
theorem d_MO_taken_17 : decode b_MO_taken 17 = .ok (.iload_n 3, 1) := by decide +kernel
theorem d_MO_taken_18 : decode b_MO_taken 18 = .ok (.iaload, 1) := by decide +kernel
theorem d_MO_taken_19 : decode b_MO_taken 19 = .ok (.aload_n 0, 1) := by decide +kernel
theorem d_MO_taken_20 : decode b_MO_taken 20 = .ok (.getfield 44, 3) := by decide +kernel
theorem d_MO_taken_23 : decode b_MO_taken 23 = .ok (.iload_n 1, 1) := by decide +kernel
theorem d_MO_taken_24 : decode b_MO_taken 24 = .ok (.iaload, 1) := by decide +kernel
theorem d_MO_taken_25 : decode b_MO_taken 25 = .ok (.if_icmp .ne 7, 3) := by decide +kernel
theorem d_MO_taken_28 : decode b_MO_taken 28 = .ok (.iconst 1, 1) := by decide +kernel
theorem d_MO_taken_29 : decode b_MO_taken 29 = .ok (.goto 4, 3) := by decide +kernel
theorem d_MO_taken_32 : decode b_MO_taken 32 = .ok (.iconst 0, 1) := by decide +kernel
theorem d_MO_taken_33 : decode b_MO_taken 33 = .ok (.istore_n 2, 1) := by decide +kernel
theorem d_MO_taken_34 : decode b_MO_taken 34 = .ok (.iinc 3 1, 3) := by decide +kernel
theorem d_MO_taken_37 : decode b_MO_taken 37 = .ok (.goto (-33), 3) := by decide +kernel
theorem d_MO_taken_40 : decode b_MO_taken 40 = .ok (.iload_n 2, 1) := by decide +kernel
theorem d_MO_taken_41 : decode b_MO_taken 41 = .ok (.ireturn, 1) := by decide +kernel
def lp_MO_taken (b : Nat) (st : Nat → Int32) : Nat → Nat → Int32 → Int32
  | 0, i, t => t
  | kf + 1, i, t => (if t = 0 then (if st i = st b then (lp_MO_taken b st kf (i + 1) 1) else (lp_MO_taken b st kf (i + 1) 0)) else (lp_MO_taken b st kf (i + 1) 1))
def f_MO_taken (b : Nat) (st : Nat → Int32) : Int32 := lp_MO_taken b st b 0 0
theorem z_taken (b : Nat) (st : Nat → Int32) : ∀ (kf i : Nat) (t : Int32), t = 0 ∨ t = 1 → lp_MO_taken b st kf i t = 0 ∨ lp_MO_taken b st kf i t = 1 := by
  intro kf
  induction kf with
  | zero => intro i t h; exact h
  | succ kf ih =>
    intro i t h
    rw [lp_MO_taken]
    split
    · split
      · exact ih _ _ (Or.inr rfl)
      · exact ih _ _ (Or.inl rfl)
    · exact ih _ _ (Or.inr rfl)
set_option maxHeartbeats 1000000 in
set_option maxRecDepth 100000 in
theorem c_MO_taken (l : Launch) (D : va_G) (cI cZ : ClassId) (a q_op q_arg q_handler q_depth q_over q_flatOp q_flatArg q_flatHandler q_leader q_last q_height q_state q_begin q_drawn q_order q_starters q_emitted q_locals q_stack : Nat) (x_count x_handlers x_flatCount x_flatHandlers x_blockCount x_g x_ran x_ended x_result x_steps x_emits x_top x_at : Int32) (b : Nat) (st : Nat → Int32) (hb : b < 32) : MG l y_MO_taken w_MO_taken (rmK 0 0) D classes (tyz cI cZ) E0 [.ref a, .int (nI b)] [(a, .inr (7, [.int x_count, .ref q_op, .ref q_arg, .int x_handlers, .ref q_handler, .ref q_depth, .ref q_over, .int x_flatCount, .ref q_flatOp, .ref q_flatArg, .int x_flatHandlers, .ref q_flatHandler, .int x_blockCount, .ref q_leader, .ref q_last, .ref q_height, .ref q_state, .ref q_begin, .ref q_drawn, .ref q_order, .int x_g, .ref q_starters, .int x_ran, .int x_ended, .int x_result, .int x_steps, .int x_emits, .ref q_emitted, .ref q_locals, .ref q_stack, .int x_top, .int x_at])), (q_state, .inl (cI, 32, .inl st))] (RI D classes (tyz cI cZ) (f_MO_taken b st) [(a, .inr (7, [.int x_count, .ref q_op, .ref q_arg, .int x_handlers, .ref q_handler, .ref q_depth, .ref q_over, .int x_flatCount, .ref q_flatOp, .ref q_flatArg, .int x_flatHandlers, .ref q_flatHandler, .int x_blockCount, .ref q_leader, .ref q_last, .ref q_height, .ref q_state, .ref q_begin, .ref q_drawn, .ref q_order, .int x_g, .ref q_starters, .int x_ran, .int x_ended, .int x_result, .int x_steps, .int x_emits, .ref q_emitted, .ref q_locals, .ref q_stack, .int x_top, .int x_at])), (q_state, .inl (cI, 32, .inl st))]) := by
  refine MG.of (cc := b_MO_taken) (maxL := 4) (ret := (some .boolean)) (own := "FlowFlattenerModel") rfl (by decide) rfl (Nat.le_of_ble_eq_true rfl) ?_
  intro p e s m below meth c A ls S hr hlocks hA hP hK hD hS hE hl
  have hx := S.1
  have hb := S.2.1
  have hl : lv_has ls 4 [(0, .ref a), (1, .int (nI b))] := hl
  refine lv_iconst (v := 0) hx hb d_MO_taken_0 (by decide) ?_
  refine lv_istore_n (lv' := [(2, .int 0), (0, .ref a), (1, .int (nI b))]) hx hb d_MO_taken_1 rfl hl (by decide) rfl (fun ls hl => ?_)
  refine lv_iconst (v := nI 0) hx hb d_MO_taken_2 (by decide) ?_
  refine lv_istore_n (lv' := [(3, .int (nI 0)), (2, .int 0), (0, .ref a), (1, .int (nI b))]) hx hb d_MO_taken_3 rfl hl (by decide) rfl (fun ls hl => ?_)
  have LP4 : ∀ (kf : Nat) (i : Nat) (t : Int32), (i + kf = b) → ∀ (ls : Array Slot) (H : Heap) (locs : List Loc), lv_has ls 4 [(0, .ref a), (1, .int (nI b)), (2, .int t), (3, .int (nI i))] → va_P D classes [(a, .inr (7, [.int x_count, .ref q_op, .ref q_arg, .int x_handlers, .ref q_handler, .ref q_depth, .ref q_over, .int x_flatCount, .ref q_flatOp, .ref q_flatArg, .int x_flatHandlers, .ref q_flatHandler, .int x_blockCount, .ref q_leader, .ref q_last, .ref q_height, .ref q_state, .ref q_begin, .ref q_drawn, .ref q_order, .int x_g, .ref q_starters, .int x_ran, .int x_ended, .int x_result, .int x_steps, .int x_emits, .ref q_emitted, .ref q_locals, .ref q_stack, .int x_top, .int x_at])), (q_state, .inl (cI, 32, .inl st))] H → va_D A [(a, .inr (7, [.int x_count, .ref q_op, .ref q_arg, .int x_handlers, .ref q_handler, .ref q_depth, .ref q_over, .int x_flatCount, .ref q_flatOp, .ref q_flatArg, .int x_flatHandlers, .ref q_flatHandler, .int x_blockCount, .ref q_leader, .ref q_last, .ref q_height, .ref q_state, .ref q_begin, .ref q_drawn, .ref q_order, .int x_g, .ref q_starters, .int x_ran, .int x_ended, .int x_result, .int x_steps, .int x_emits, .ref q_emitted, .ref q_locals, .ref q_stack, .int x_top, .int x_at])), (q_state, .inl (cI, 32, .inl st))] → va_S A s.heap H locs → (∀ (ls : Array Slot) (H : Heap) (locs : List Loc), lv_has ls 4 [(0, .ref a), (1, .int (nI b)), (2, .int (lp_MO_taken b st kf i t))] → va_P D classes [(a, .inr (7, [.int x_count, .ref q_op, .ref q_arg, .int x_handlers, .ref q_handler, .ref q_depth, .ref q_over, .int x_flatCount, .ref q_flatOp, .ref q_flatArg, .int x_flatHandlers, .ref q_flatHandler, .int x_blockCount, .ref q_leader, .ref q_last, .ref q_height, .ref q_state, .ref q_begin, .ref q_drawn, .ref q_order, .int x_g, .ref q_starters, .int x_ran, .int x_ended, .int x_result, .int x_steps, .int x_emits, .ref q_emitted, .ref q_locals, .ref q_stack, .int x_top, .int x_at])), (q_state, .inl (cI, 32, .inl st))] H → va_D A [(a, .inr (7, [.int x_count, .ref q_op, .ref q_arg, .int x_handlers, .ref q_handler, .ref q_depth, .ref q_over, .int x_flatCount, .ref q_flatOp, .ref q_flatArg, .int x_flatHandlers, .ref q_flatHandler, .int x_blockCount, .ref q_leader, .ref q_last, .ref q_height, .ref q_state, .ref q_begin, .ref q_drawn, .ref q_order, .int x_g, .ref q_starters, .int x_ran, .int x_ended, .int x_result, .int x_steps, .int x_emits, .ref q_emitted, .ref q_locals, .ref q_stack, .int x_top, .int x_at])), (q_state, .inl (cI, 32, .inl st))] → va_S A s.heap H locs → W p l e (rmK 0 0) s m [.ref a, .int (nI b)].toArray below meth c H locs 0 0 (MQ below (RI D classes (tyz cI cZ) (f_MO_taken b st) [(a, .inr (7, [.int x_count, .ref q_op, .ref q_arg, .int x_handlers, .ref q_handler, .ref q_depth, .ref q_over, .int x_flatCount, .ref q_flatOp, .ref q_flatArg, .int x_flatHandlers, .ref q_flatHandler, .int x_blockCount, .ref q_leader, .ref q_last, .ref q_height, .ref q_state, .ref q_begin, .ref q_drawn, .ref q_order, .int x_g, .ref q_starters, .int x_ran, .int x_ended, .int x_result, .int x_steps, .int x_emits, .ref q_emitted, .ref q_locals, .ref q_stack, .int x_top, .int x_at])), (q_state, .inl (cI, 32, .inl st))] A) [.ref a, .int (nI b)].toArray s 0 0 A) (F0 m 40 ls [])) → W p l e (rmK 0 0) s m [.ref a, .int (nI b)].toArray below meth c H locs 0 0 (MQ below (RI D classes (tyz cI cZ) (f_MO_taken b st) [(a, .inr (7, [.int x_count, .ref q_op, .ref q_arg, .int x_handlers, .ref q_handler, .ref q_depth, .ref q_over, .int x_flatCount, .ref q_flatOp, .ref q_flatArg, .int x_flatHandlers, .ref q_flatHandler, .int x_blockCount, .ref q_leader, .ref q_last, .ref q_height, .ref q_state, .ref q_begin, .ref q_drawn, .ref q_order, .int x_g, .ref q_starters, .int x_ran, .int x_ended, .int x_result, .int x_steps, .int x_emits, .ref q_emitted, .ref q_locals, .ref q_stack, .int x_top, .int x_at])), (q_state, .inl (cI, 32, .inl st))] A) [.ref a, .int (nI b)].toArray s 0 0 A) (F0 m 4 ls []) := by
    intro kf
    induction kf with
    | zero =>
      intro i t hk ls H locs hl hP hD hS kk
      refine lv_iload_n hx hb d_MO_taken_4 rfl (lv_at hl 3 rfl) ?_
      refine lv_iload_n hx hb d_MO_taken_5 rfl (lv_at hl 1 rfl) ?_
      refine n_icmp_ge (tgt := 40) (x := i) (y := b) hx hb rfl rfl (by omega) (by omega) d_MO_taken_6 (by decide) (fun h6_1 => ?_) (fun h6_1 => absurd h6_1 (by omega))
      have e9 : lp_MO_taken b st 0 i t = t := by rw [lp_MO_taken]
      rw [e9] at kk
      exact kk _ _ _ (lv_sub hl [0, 1, 2] rfl) hP hD hS
    | succ kf ih =>
      intro i t hk ls H locs hl hP hD hS kk
      refine lv_iload_n hx hb d_MO_taken_4 rfl (lv_at hl 3 rfl) ?_
      refine lv_iload_n hx hb d_MO_taken_5 rfl (lv_at hl 1 rfl) ?_
      refine n_icmp_ge (tgt := 40) (x := i) (y := b) hx hb rfl rfl (by omega) (by omega) d_MO_taken_6 (by decide) (fun h6_2 => absurd h6_2 (by omega)) (fun h6_2 => ?_)
      refine lv_iload_n hx hb d_MO_taken_9 rfl (lv_at hl 2 rfl) ?_
      refine lv_if_ne (tgt := 28) hx hb d_MO_taken_10 (by decide) (fun h10_3 => ?_) (fun h10_3 => ?_)
      · skip
        refine lv_iconst (v := 1) hx hb d_MO_taken_28 (by decide) ?_
        refine lv_goto (tgt := 33) hx hb d_MO_taken_29 (by decide) ?_
        refine lv_istore_n (lv' := [(2, .int 1), (0, .ref a), (1, .int (nI b)), (3, .int (nI i))]) hx hb d_MO_taken_33 rfl hl (by decide) rfl (fun ls hl => ?_)
        refine lv_iinc (k := 3) (v := nI (i + 1)) (lv' := [(3, .int (nI (i + 1))), (2, .int 1), (0, .ref a), (1, .int (nI b))]) hx hb d_MO_taken_34 hl rfl (nc_add rfl (by decide)) (by decide) rfl (fun ls hl => ?_)
        refine lv_goto (tgt := 4) hx hb d_MO_taken_37 (by decide) ?_
        have e9 : lp_MO_taken b st (kf + 1) i t = lp_MO_taken b st kf (i + 1) 1 := by rw [lp_MO_taken, if_neg h10_3]
        rw [e9] at kk
        exact ih (i + 1) 1 (by omega) _ _ _ (lv_sub hl [2, 3, 1, 0] rfl) hP hD hS kk
      · skip
        refine lv_aload_n hx hb d_MO_taken_13 rfl (lv_at hl 0 rfl) ?_
        refine k_get (v := .ref q_state) S in_MO hK hP 0 rfl rfl 16 (by decide) ql_MO_44 rfl d_MO_taken_14 ?_
        refine lv_iload_n hx hb d_MO_taken_17 rfl (lv_at hl 3 rfl) ?_
        refine k_ld (k := i) hx hb hK hP 1 0 rfl rfl rfl (by omega) (by decide) d_MO_taken_18 ?_
        refine lv_aload_n hx hb d_MO_taken_19 rfl (lv_at hl 0 rfl) ?_
        refine k_get (v := .ref q_state) S in_MO hK hP 0 rfl rfl 16 (by decide) ql_MO_44 rfl d_MO_taken_20 ?_
        refine lv_iload_n hx hb d_MO_taken_23 rfl (lv_at hl 1 rfl) ?_
        refine k_ld (k := b) hx hb hK hP 1 0 rfl rfl rfl (by omega) (by decide) d_MO_taken_24 ?_
        refine lv_icmp_ne (tgt := 32) hx hb d_MO_taken_25 (by decide) (fun h25_4 => ?_) (fun h25_4 => ?_)
        · skip
          refine lv_iconst (v := 0) hx hb d_MO_taken_32 (by decide) ?_
          refine lv_istore_n (lv' := [(2, .int 0), (0, .ref a), (1, .int (nI b)), (3, .int (nI i))]) hx hb d_MO_taken_33 rfl hl (by decide) rfl (fun ls hl => ?_)
          refine lv_iinc (k := 3) (v := nI (i + 1)) (lv' := [(3, .int (nI (i + 1))), (2, .int 0), (0, .ref a), (1, .int (nI b))]) hx hb d_MO_taken_34 hl rfl (nc_add rfl (by decide)) (by decide) rfl (fun ls hl => ?_)
          refine lv_goto (tgt := 4) hx hb d_MO_taken_37 (by decide) ?_
          have e9 : lp_MO_taken b st (kf + 1) i t = lp_MO_taken b st kf (i + 1) 0 := by rw [lp_MO_taken, if_pos h10_3, if_neg h25_4]
          rw [e9] at kk
          exact ih (i + 1) 0 (by omega) _ _ _ (lv_sub hl [2, 3, 1, 0] rfl) hP hD hS kk
        · skip
          refine lv_iconst (v := 1) hx hb d_MO_taken_28 (by decide) ?_
          refine lv_goto (tgt := 33) hx hb d_MO_taken_29 (by decide) ?_
          refine lv_istore_n (lv' := [(2, .int 1), (0, .ref a), (1, .int (nI b)), (3, .int (nI i))]) hx hb d_MO_taken_33 rfl hl (by decide) rfl (fun ls hl => ?_)
          refine lv_iinc (k := 3) (v := nI (i + 1)) (lv' := [(3, .int (nI (i + 1))), (2, .int 1), (0, .ref a), (1, .int (nI b))]) hx hb d_MO_taken_34 hl rfl (nc_add rfl (by decide)) (by decide) rfl (fun ls hl => ?_)
          refine lv_goto (tgt := 4) hx hb d_MO_taken_37 (by decide) ?_
          have e9 : lp_MO_taken b st (kf + 1) i t = lp_MO_taken b st kf (i + 1) 1 := by rw [lp_MO_taken, if_pos h10_3, if_pos h25_4]
          rw [e9] at kk
          exact ih (i + 1) 1 (by omega) _ _ _ (lv_sub hl [2, 3, 1, 0] rfl) hP hD hS kk
  refine LP4 b 0 0 (by omega) _ _ _ (lv_sub hl [2, 3, 1, 0] rfl) hP hD hS (fun ls H locs hl hP hD hS => ?_)
  refine lv_iload_n hx hb d_MO_taken_40 rfl (lv_at hl 2 rfl) ?_
  exact k_zret hx hb hr hlocks hK hP hD hS (z_taken b st b 0 0 (Or.inl rfl)) (by rw [f_MO_taken]) rfl d_MO_taken_41

theorem d_MO_rank_0 : decode b_MO_rank 0 = .ok (.iconst 0, 1) := by decide +kernel
theorem d_MO_rank_1 : decode b_MO_rank 1 = .ok (.istore_n 2, 1) := by decide +kernel
theorem d_MO_rank_2 : decode b_MO_rank 2 = .ok (.iconst 0, 1) := by decide +kernel
theorem d_MO_rank_3 : decode b_MO_rank 3 = .ok (.istore_n 3, 1) := by decide +kernel
theorem d_MO_rank_4 : decode b_MO_rank 4 = .ok (.iload_n 3, 1) := by decide +kernel
theorem d_MO_rank_5 : decode b_MO_rank 5 = .ok (.aload_n 0, 1) := by decide +kernel
theorem d_MO_rank_6 : decode b_MO_rank 6 = .ok (.getfield 116, 3) := by decide +kernel
theorem d_MO_rank_9 : decode b_MO_rank 9 = .ok (.if_icmp .ge 32, 3) := by decide +kernel
theorem d_MO_rank_12 : decode b_MO_rank 12 = .ok (.aload_n 0, 1) := by decide +kernel
theorem d_MO_rank_13 : decode b_MO_rank 13 = .ok (.getfield 44, 3) := by decide +kernel
theorem d_MO_rank_16 : decode b_MO_rank 16 = .ok (.iload_n 3, 1) := by decide +kernel
theorem d_MO_rank_17 : decode b_MO_rank 17 = .ok (.iaload, 1) := by decide +kernel
theorem d_MO_rank_18 : decode b_MO_rank 18 = .ok (.aload_n 0, 1) := by decide +kernel
theorem d_MO_rank_19 : decode b_MO_rank 19 = .ok (.getfield 44, 3) := by decide +kernel
theorem d_MO_rank_22 : decode b_MO_rank 22 = .ok (.iload_n 1, 1) := by decide +kernel
theorem d_MO_rank_23 : decode b_MO_rank 23 = .ok (.iaload, 1) := by decide +kernel
theorem d_MO_rank_24 : decode b_MO_rank 24 = .ok (.if_icmp .ge 9, 3) := by decide +kernel
theorem d_MO_rank_27 : decode b_MO_rank 27 = .ok (.iload_n 2, 1) := by decide +kernel
theorem d_MO_rank_28 : decode b_MO_rank 28 = .ok (.iconst 1, 1) := by decide +kernel
theorem d_MO_rank_29 : decode b_MO_rank 29 = .ok (.iadd, 1) := by decide +kernel
theorem d_MO_rank_30 : decode b_MO_rank 30 = .ok (.goto 4, 3) := by decide +kernel
theorem d_MO_rank_33 : decode b_MO_rank 33 = .ok (.iload_n 2, 1) := by decide +kernel
theorem d_MO_rank_34 : decode b_MO_rank 34 = .ok (.istore_n 2, 1) := by decide +kernel
theorem d_MO_rank_35 : decode b_MO_rank 35 = .ok (.iinc 3 1, 3) := by decide +kernel
theorem d_MO_rank_38 : decode b_MO_rank 38 = .ok (.goto (-34), 3) := by decide +kernel
theorem d_MO_rank_41 : decode b_MO_rank 41 = .ok (.iload_n 2, 1) := by decide +kernel
theorem d_MO_rank_42 : decode b_MO_rank 42 = .ok (.ireturn, 1) := by decide +kernel
def lp_MO_rank (b : Nat) (st : Nat → Int32) : Nat → Nat → Nat → Nat
  | 0, i, t => t
  | kf + 1, i, t => (if st b ≤ st i then (lp_MO_rank b st kf (i + 1) t) else (lp_MO_rank b st kf (i + 1) (t + 1)))
def f_MO_rank (b : Nat) (bc : Nat) (st : Nat → Int32) : Nat := lp_MO_rank b st bc 0 0
set_option maxHeartbeats 1000000 in
set_option maxRecDepth 100000 in
theorem c_MO_rank (l : Launch) (D : va_G) (cI cZ : ClassId) (a q_op q_arg q_handler q_depth q_over q_flatOp q_flatArg q_flatHandler q_leader q_last q_height q_state q_begin q_drawn q_order q_starters q_emitted q_locals q_stack : Nat) (x_count x_handlers x_flatCount x_flatHandlers x_g x_ran x_ended x_result x_steps x_emits x_top x_at : Int32) (b bc : Nat) (st : Nat → Int32) (hb : b < 32) (hb32 : bc ≤ 32) : MG l y_MO_rank w_MO_rank (rmK 0 0) D classes (tyz cI cZ) E0 [.ref a, .int (nI b)] [(a, .inr (7, [.int x_count, .ref q_op, .ref q_arg, .int x_handlers, .ref q_handler, .ref q_depth, .ref q_over, .int x_flatCount, .ref q_flatOp, .ref q_flatArg, .int x_flatHandlers, .ref q_flatHandler, .int (nI bc), .ref q_leader, .ref q_last, .ref q_height, .ref q_state, .ref q_begin, .ref q_drawn, .ref q_order, .int x_g, .ref q_starters, .int x_ran, .int x_ended, .int x_result, .int x_steps, .int x_emits, .ref q_emitted, .ref q_locals, .ref q_stack, .int x_top, .int x_at])), (q_state, .inl (cI, 32, .inl st))] (RI D classes (tyz cI cZ) (nI (f_MO_rank b bc st)) [(a, .inr (7, [.int x_count, .ref q_op, .ref q_arg, .int x_handlers, .ref q_handler, .ref q_depth, .ref q_over, .int x_flatCount, .ref q_flatOp, .ref q_flatArg, .int x_flatHandlers, .ref q_flatHandler, .int (nI bc), .ref q_leader, .ref q_last, .ref q_height, .ref q_state, .ref q_begin, .ref q_drawn, .ref q_order, .int x_g, .ref q_starters, .int x_ran, .int x_ended, .int x_result, .int x_steps, .int x_emits, .ref q_emitted, .ref q_locals, .ref q_stack, .int x_top, .int x_at])), (q_state, .inl (cI, 32, .inl st))]) := by
  refine MG.of (cc := b_MO_rank) (maxL := 4) (ret := (some .int)) (own := "FlowFlattenerModel") rfl (by decide) rfl (Nat.le_of_ble_eq_true rfl) ?_
  intro p e s m below meth c A ls S hr hlocks hA hP hK hD hS hE hl
  have hx := S.1
  have hb := S.2.1
  have hl : lv_has ls 4 [(0, .ref a), (1, .int (nI b))] := hl
  refine lv_iconst (v := nI 0) hx hb d_MO_rank_0 (by decide) ?_
  refine lv_istore_n (lv' := [(2, .int (nI 0)), (0, .ref a), (1, .int (nI b))]) hx hb d_MO_rank_1 rfl hl (by decide) rfl (fun ls hl => ?_)
  refine lv_iconst (v := nI 0) hx hb d_MO_rank_2 (by decide) ?_
  refine lv_istore_n (lv' := [(3, .int (nI 0)), (2, .int (nI 0)), (0, .ref a), (1, .int (nI b))]) hx hb d_MO_rank_3 rfl hl (by decide) rfl (fun ls hl => ?_)
  have LP4 : ∀ (kf : Nat) (i : Nat) (t : Nat), (i + kf = bc) → ∀ (ls : Array Slot) (H : Heap) (locs : List Loc), lv_has ls 4 [(0, .ref a), (1, .int (nI b)), (2, .int (nI t)), (3, .int (nI i))] → va_P D classes [(a, .inr (7, [.int x_count, .ref q_op, .ref q_arg, .int x_handlers, .ref q_handler, .ref q_depth, .ref q_over, .int x_flatCount, .ref q_flatOp, .ref q_flatArg, .int x_flatHandlers, .ref q_flatHandler, .int (nI bc), .ref q_leader, .ref q_last, .ref q_height, .ref q_state, .ref q_begin, .ref q_drawn, .ref q_order, .int x_g, .ref q_starters, .int x_ran, .int x_ended, .int x_result, .int x_steps, .int x_emits, .ref q_emitted, .ref q_locals, .ref q_stack, .int x_top, .int x_at])), (q_state, .inl (cI, 32, .inl st))] H → va_D A [(a, .inr (7, [.int x_count, .ref q_op, .ref q_arg, .int x_handlers, .ref q_handler, .ref q_depth, .ref q_over, .int x_flatCount, .ref q_flatOp, .ref q_flatArg, .int x_flatHandlers, .ref q_flatHandler, .int (nI bc), .ref q_leader, .ref q_last, .ref q_height, .ref q_state, .ref q_begin, .ref q_drawn, .ref q_order, .int x_g, .ref q_starters, .int x_ran, .int x_ended, .int x_result, .int x_steps, .int x_emits, .ref q_emitted, .ref q_locals, .ref q_stack, .int x_top, .int x_at])), (q_state, .inl (cI, 32, .inl st))] → va_S A s.heap H locs → (∀ (ls : Array Slot) (H : Heap) (locs : List Loc), lv_has ls 4 [(0, .ref a), (1, .int (nI b)), (2, .int (nI (lp_MO_rank b st kf i t)))] → va_P D classes [(a, .inr (7, [.int x_count, .ref q_op, .ref q_arg, .int x_handlers, .ref q_handler, .ref q_depth, .ref q_over, .int x_flatCount, .ref q_flatOp, .ref q_flatArg, .int x_flatHandlers, .ref q_flatHandler, .int (nI bc), .ref q_leader, .ref q_last, .ref q_height, .ref q_state, .ref q_begin, .ref q_drawn, .ref q_order, .int x_g, .ref q_starters, .int x_ran, .int x_ended, .int x_result, .int x_steps, .int x_emits, .ref q_emitted, .ref q_locals, .ref q_stack, .int x_top, .int x_at])), (q_state, .inl (cI, 32, .inl st))] H → va_D A [(a, .inr (7, [.int x_count, .ref q_op, .ref q_arg, .int x_handlers, .ref q_handler, .ref q_depth, .ref q_over, .int x_flatCount, .ref q_flatOp, .ref q_flatArg, .int x_flatHandlers, .ref q_flatHandler, .int (nI bc), .ref q_leader, .ref q_last, .ref q_height, .ref q_state, .ref q_begin, .ref q_drawn, .ref q_order, .int x_g, .ref q_starters, .int x_ran, .int x_ended, .int x_result, .int x_steps, .int x_emits, .ref q_emitted, .ref q_locals, .ref q_stack, .int x_top, .int x_at])), (q_state, .inl (cI, 32, .inl st))] → va_S A s.heap H locs → W p l e (rmK 0 0) s m [.ref a, .int (nI b)].toArray below meth c H locs 0 0 (MQ below (RI D classes (tyz cI cZ) (nI (f_MO_rank b bc st)) [(a, .inr (7, [.int x_count, .ref q_op, .ref q_arg, .int x_handlers, .ref q_handler, .ref q_depth, .ref q_over, .int x_flatCount, .ref q_flatOp, .ref q_flatArg, .int x_flatHandlers, .ref q_flatHandler, .int (nI bc), .ref q_leader, .ref q_last, .ref q_height, .ref q_state, .ref q_begin, .ref q_drawn, .ref q_order, .int x_g, .ref q_starters, .int x_ran, .int x_ended, .int x_result, .int x_steps, .int x_emits, .ref q_emitted, .ref q_locals, .ref q_stack, .int x_top, .int x_at])), (q_state, .inl (cI, 32, .inl st))] A) [.ref a, .int (nI b)].toArray s 0 0 A) (F0 m 41 ls [])) → W p l e (rmK 0 0) s m [.ref a, .int (nI b)].toArray below meth c H locs 0 0 (MQ below (RI D classes (tyz cI cZ) (nI (f_MO_rank b bc st)) [(a, .inr (7, [.int x_count, .ref q_op, .ref q_arg, .int x_handlers, .ref q_handler, .ref q_depth, .ref q_over, .int x_flatCount, .ref q_flatOp, .ref q_flatArg, .int x_flatHandlers, .ref q_flatHandler, .int (nI bc), .ref q_leader, .ref q_last, .ref q_height, .ref q_state, .ref q_begin, .ref q_drawn, .ref q_order, .int x_g, .ref q_starters, .int x_ran, .int x_ended, .int x_result, .int x_steps, .int x_emits, .ref q_emitted, .ref q_locals, .ref q_stack, .int x_top, .int x_at])), (q_state, .inl (cI, 32, .inl st))] A) [.ref a, .int (nI b)].toArray s 0 0 A) (F0 m 4 ls []) := by
    intro kf
    induction kf with
    | zero =>
      intro i t hk ls H locs hl hP hD hS kk
      refine lv_iload_n hx hb d_MO_rank_4 rfl (lv_at hl 3 rfl) ?_
      refine lv_aload_n hx hb d_MO_rank_5 rfl (lv_at hl 0 rfl) ?_
      refine k_get (v := .int (nI bc)) S in_MO hK hP 0 rfl rfl 12 (by decide) ql_MO_116 rfl d_MO_rank_6 ?_
      refine n_icmp_ge (tgt := 41) (x := i) (y := bc) hx hb rfl rfl (by omega) (by omega) d_MO_rank_9 (by decide) (fun h9_1 => ?_) (fun h9_1 => absurd h9_1 (by omega))
      have e9 : lp_MO_rank b st 0 i t = t := by rw [lp_MO_rank]
      rw [e9] at kk
      exact kk _ _ _ (lv_sub hl [0, 1, 2] rfl) hP hD hS
    | succ kf ih =>
      intro i t hk ls H locs hl hP hD hS kk
      refine lv_iload_n hx hb d_MO_rank_4 rfl (lv_at hl 3 rfl) ?_
      refine lv_aload_n hx hb d_MO_rank_5 rfl (lv_at hl 0 rfl) ?_
      refine k_get (v := .int (nI bc)) S in_MO hK hP 0 rfl rfl 12 (by decide) ql_MO_116 rfl d_MO_rank_6 ?_
      refine n_icmp_ge (tgt := 41) (x := i) (y := bc) hx hb rfl rfl (by omega) (by omega) d_MO_rank_9 (by decide) (fun h9_2 => absurd h9_2 (by omega)) (fun h9_2 => ?_)
      refine lv_aload_n hx hb d_MO_rank_12 rfl (lv_at hl 0 rfl) ?_
      refine k_get (v := .ref q_state) S in_MO hK hP 0 rfl rfl 16 (by decide) ql_MO_44 rfl d_MO_rank_13 ?_
      refine lv_iload_n hx hb d_MO_rank_16 rfl (lv_at hl 3 rfl) ?_
      refine k_ld (k := i) hx hb hK hP 1 0 rfl rfl rfl (by omega) (by decide) d_MO_rank_17 ?_
      refine lv_aload_n hx hb d_MO_rank_18 rfl (lv_at hl 0 rfl) ?_
      refine k_get (v := .ref q_state) S in_MO hK hP 0 rfl rfl 16 (by decide) ql_MO_44 rfl d_MO_rank_19 ?_
      refine lv_iload_n hx hb d_MO_rank_22 rfl (lv_at hl 1 rfl) ?_
      refine k_ld (k := b) hx hb hK hP 1 0 rfl rfl rfl (by omega) (by decide) d_MO_rank_23 ?_
      refine lv_icmp_ge (tgt := 33) hx hb d_MO_rank_24 (by decide) (fun h24_3 => ?_) (fun h24_3 => ?_)
      · skip
        refine lv_iload_n hx hb d_MO_rank_33 rfl (lv_at hl 2 rfl) ?_
        refine lv_istore_n (lv' := [(2, .int (nI t)), (0, .ref a), (1, .int (nI b)), (3, .int (nI i))]) hx hb d_MO_rank_34 rfl hl (by decide) rfl (fun ls hl => ?_)
        refine lv_iinc (k := 3) (v := nI (i + 1)) (lv' := [(3, .int (nI (i + 1))), (2, .int (nI t)), (0, .ref a), (1, .int (nI b))]) hx hb d_MO_rank_35 hl rfl (nc_add rfl (by decide)) (by decide) rfl (fun ls hl => ?_)
        refine lv_goto (tgt := 4) hx hb d_MO_rank_38 (by decide) ?_
        have e9 : lp_MO_rank b st (kf + 1) i t = lp_MO_rank b st kf (i + 1) t := by rw [lp_MO_rank, if_pos h24_3]
        rw [e9] at kk
        exact ih (i + 1) t (by omega) _ _ _ (lv_sub hl [2, 3, 1, 0] rfl) hP hD hS kk
      · skip
        refine lv_iload_n hx hb d_MO_rank_27 rfl (lv_at hl 2 rfl) ?_
        refine lv_iconst (v := 1) hx hb d_MO_rank_28 (by decide) ?_
        refine lv_iadd hx hb d_MO_rank_29 ?_
        refine k_top (y := nI (t + 1)) (nc_add rfl (by decide)) ?_
        refine lv_goto (tgt := 34) hx hb d_MO_rank_30 (by decide) ?_
        refine lv_istore_n (lv' := [(2, .int (nI (t + 1))), (0, .ref a), (1, .int (nI b)), (3, .int (nI i))]) hx hb d_MO_rank_34 rfl hl (by decide) rfl (fun ls hl => ?_)
        refine lv_iinc (k := 3) (v := nI (i + 1)) (lv' := [(3, .int (nI (i + 1))), (2, .int (nI (t + 1))), (0, .ref a), (1, .int (nI b))]) hx hb d_MO_rank_35 hl rfl (nc_add rfl (by decide)) (by decide) rfl (fun ls hl => ?_)
        refine lv_goto (tgt := 4) hx hb d_MO_rank_38 (by decide) ?_
        have e9 : lp_MO_rank b st (kf + 1) i t = lp_MO_rank b st kf (i + 1) (t + 1) := by rw [lp_MO_rank, if_neg h24_3]
        rw [e9] at kk
        exact ih (i + 1) (t + 1) (by omega) _ _ _ (lv_sub hl [2, 3, 1, 0] rfl) hP hD hS kk
  refine LP4 bc 0 0 (by omega) _ _ _ (lv_sub hl [2, 3, 1, 0] rfl) hP hD hS (fun ls H locs hl hP hD hS => ?_)
  refine lv_iload_n hx hb d_MO_rank_41 rfl (lv_at hl 2 rfl) ?_
  exact k_iret hx hb hr hlocks hK hP hD hS (by rw [f_MO_rank]) rfl d_MO_rank_42

theorem d_MO_junkLength_0 : decode b_MO_junkLength 0 = .ok (.aload_n 0, 1) := by decide +kernel
theorem d_MO_junkLength_1 : decode b_MO_junkLength 1 = .ok (.getfield 41, 3) := by decide +kernel
theorem d_MO_junkLength_4 : decode b_MO_junkLength 4 = .ok (.iload_n 1, 1) := by decide +kernel
theorem d_MO_junkLength_5 : decode b_MO_junkLength 5 = .ok (.iaload, 1) := by decide +kernel
theorem d_MO_junkLength_6 : decode b_MO_junkLength 6 = .ok (.iconst 3, 1) := by decide +kernel
theorem d_MO_junkLength_7 : decode b_MO_junkLength 7 = .ok (.iadd, 1) := by decide +kernel
theorem d_MO_junkLength_8 : decode b_MO_junkLength 8 = .ok (.ireturn, 1) := by decide +kernel
set_option maxHeartbeats 1000000 in
set_option maxRecDepth 100000 in
theorem c_MO_junkLength (l : Launch) (D : va_G) (cI cZ : ClassId) (a q_op q_arg q_handler q_depth q_over q_flatOp q_flatArg q_flatHandler q_leader q_last q_height q_state q_begin q_drawn q_order q_starters q_emitted q_locals q_stack : Nat) (x_count x_handlers x_flatCount x_flatHandlers x_blockCount x_g x_ran x_ended x_result x_steps x_emits x_top x_at : Int32) (b : Nat) (he : Nat → Int32) (hb : b < 32) (hhe : Nn he b 5) : MG l y_MO_junkLength w_MO_junkLength (rmK 0 0) D classes (tyz cI cZ) E0 [.ref a, .int (nI b)] [(a, .inr (7, [.int x_count, .ref q_op, .ref q_arg, .int x_handlers, .ref q_handler, .ref q_depth, .ref q_over, .int x_flatCount, .ref q_flatOp, .ref q_flatArg, .int x_flatHandlers, .ref q_flatHandler, .int x_blockCount, .ref q_leader, .ref q_last, .ref q_height, .ref q_state, .ref q_begin, .ref q_drawn, .ref q_order, .int x_g, .ref q_starters, .int x_ran, .int x_ended, .int x_result, .int x_steps, .int x_emits, .ref q_emitted, .ref q_locals, .ref q_stack, .int x_top, .int x_at])), (q_height, .inl (cI, 32, .inl he))] (RI D classes (tyz cI cZ) (nI (tn (he b) + 3)) [(a, .inr (7, [.int x_count, .ref q_op, .ref q_arg, .int x_handlers, .ref q_handler, .ref q_depth, .ref q_over, .int x_flatCount, .ref q_flatOp, .ref q_flatArg, .int x_flatHandlers, .ref q_flatHandler, .int x_blockCount, .ref q_leader, .ref q_last, .ref q_height, .ref q_state, .ref q_begin, .ref q_drawn, .ref q_order, .int x_g, .ref q_starters, .int x_ran, .int x_ended, .int x_result, .int x_steps, .int x_emits, .ref q_emitted, .ref q_locals, .ref q_stack, .int x_top, .int x_at])), (q_height, .inl (cI, 32, .inl he))]) := by
  refine MG.of (cc := b_MO_junkLength) (maxL := 2) (ret := (some .int)) (own := "FlowFlattenerModel") rfl (by decide) rfl (Nat.le_of_ble_eq_true rfl) ?_
  intro p e s m below meth c A ls S hr hlocks hA hP hK hD hS hE hl
  have hx := S.1
  have hb := S.2.1
  have hl : lv_has ls 2 [(0, .ref a), (1, .int (nI b))] := hl
  refine lv_aload_n hx hb d_MO_junkLength_0 rfl (lv_at hl 0 rfl) ?_
  refine k_get (v := .ref q_height) S in_MO hK hP 0 rfl rfl 15 (by decide) ql_MO_41 rfl d_MO_junkLength_1 ?_
  refine lv_iload_n hx hb d_MO_junkLength_4 rfl (lv_at hl 1 rfl) ?_
  refine k_ld (k := b) hx hb hK hP 1 0 rfl rfl rfl (by omega) (by decide) d_MO_junkLength_5 ?_
  refine k_top (y := nI (tn (he b))) hhe.1 ?_
  refine lv_iconst (v := 3) hx hb d_MO_junkLength_6 (by decide) ?_
  refine lv_iadd hx hb d_MO_junkLength_7 ?_
  refine k_top (y := nI (tn (he b) + 3)) (nc_add rfl (by decide)) ?_
  exact k_iret hx hb hr hlocks hK hP hD hS rfl rfl d_MO_junkLength_8

theorem d_MO_leadLength_0 : decode b_MO_leadLength 0 = .ok (.aload_n 0, 1) := by decide +kernel
theorem d_MO_leadLength_1 : decode b_MO_leadLength 1 = .ok (.getfield 41, 3) := by decide +kernel
theorem d_MO_leadLength_4 : decode b_MO_leadLength 4 = .ok (.iload_n 1, 1) := by decide +kernel
theorem d_MO_leadLength_5 : decode b_MO_leadLength 5 = .ok (.iaload, 1) := by decide +kernel
theorem d_MO_leadLength_6 : decode b_MO_leadLength 6 = .ok (.iconst 5, 1) := by decide +kernel
theorem d_MO_leadLength_7 : decode b_MO_leadLength 7 = .ok (.iadd, 1) := by decide +kernel
theorem d_MO_leadLength_8 : decode b_MO_leadLength 8 = .ok (.ireturn, 1) := by decide +kernel
set_option maxHeartbeats 1000000 in
set_option maxRecDepth 100000 in
theorem c_MO_leadLength (l : Launch) (D : va_G) (cI cZ : ClassId) (a q_op q_arg q_handler q_depth q_over q_flatOp q_flatArg q_flatHandler q_leader q_last q_height q_state q_begin q_drawn q_order q_starters q_emitted q_locals q_stack : Nat) (x_count x_handlers x_flatCount x_flatHandlers x_blockCount x_g x_ran x_ended x_result x_steps x_emits x_top x_at : Int32) (b : Nat) (he : Nat → Int32) (hb : b < 32) (hhe : Nn he b 5) : MG l y_MO_leadLength w_MO_leadLength (rmK 0 0) D classes (tyz cI cZ) E0 [.ref a, .int (nI b)] [(a, .inr (7, [.int x_count, .ref q_op, .ref q_arg, .int x_handlers, .ref q_handler, .ref q_depth, .ref q_over, .int x_flatCount, .ref q_flatOp, .ref q_flatArg, .int x_flatHandlers, .ref q_flatHandler, .int x_blockCount, .ref q_leader, .ref q_last, .ref q_height, .ref q_state, .ref q_begin, .ref q_drawn, .ref q_order, .int x_g, .ref q_starters, .int x_ran, .int x_ended, .int x_result, .int x_steps, .int x_emits, .ref q_emitted, .ref q_locals, .ref q_stack, .int x_top, .int x_at])), (q_height, .inl (cI, 32, .inl he))] (RI D classes (tyz cI cZ) (nI (tn (he b) + 5)) [(a, .inr (7, [.int x_count, .ref q_op, .ref q_arg, .int x_handlers, .ref q_handler, .ref q_depth, .ref q_over, .int x_flatCount, .ref q_flatOp, .ref q_flatArg, .int x_flatHandlers, .ref q_flatHandler, .int x_blockCount, .ref q_leader, .ref q_last, .ref q_height, .ref q_state, .ref q_begin, .ref q_drawn, .ref q_order, .int x_g, .ref q_starters, .int x_ran, .int x_ended, .int x_result, .int x_steps, .int x_emits, .ref q_emitted, .ref q_locals, .ref q_stack, .int x_top, .int x_at])), (q_height, .inl (cI, 32, .inl he))]) := by
  refine MG.of (cc := b_MO_leadLength) (maxL := 2) (ret := (some .int)) (own := "FlowFlattenerModel") rfl (by decide) rfl (Nat.le_of_ble_eq_true rfl) ?_
  intro p e s m below meth c A ls S hr hlocks hA hP hK hD hS hE hl
  have hx := S.1
  have hb := S.2.1
  have hl : lv_has ls 2 [(0, .ref a), (1, .int (nI b))] := hl
  refine lv_aload_n hx hb d_MO_leadLength_0 rfl (lv_at hl 0 rfl) ?_
  refine k_get (v := .ref q_height) S in_MO hK hP 0 rfl rfl 15 (by decide) ql_MO_41 rfl d_MO_leadLength_1 ?_
  refine lv_iload_n hx hb d_MO_leadLength_4 rfl (lv_at hl 1 rfl) ?_
  refine k_ld (k := b) hx hb hK hP 1 0 rfl rfl rfl (by omega) (by decide) d_MO_leadLength_5 ?_
  refine k_top (y := nI (tn (he b))) hhe.1 ?_
  refine lv_iconst (v := 5) hx hb d_MO_leadLength_6 (by decide) ?_
  refine lv_iadd hx hb d_MO_leadLength_7 ?_
  refine k_top (y := nI (tn (he b) + 5)) (nc_add rfl (by decide)) ?_
  exact k_iret hx hb hr hlocks hK hP hD hS rfl rfl d_MO_leadLength_8

theorem d_MO_conditionLength_0 : decode b_MO_conditionLength 0 = .ok (.aload_n 0, 1) := by decide +kernel
theorem d_MO_conditionLength_1 : decode b_MO_conditionLength 1 = .ok (.getfield 50, 3) := by decide +kernel
theorem d_MO_conditionLength_4 : decode b_MO_conditionLength 4 = .ok (.iconst 4, 1) := by decide +kernel
theorem d_MO_conditionLength_5 : decode b_MO_conditionLength 5 = .ok (.iload_n 1, 1) := by decide +kernel
theorem d_MO_conditionLength_6 : decode b_MO_conditionLength 6 = .ok (.imul, 1) := by decide +kernel
theorem d_MO_conditionLength_7 : decode b_MO_conditionLength 7 = .ok (.iaload, 1) := by decide +kernel
theorem d_MO_conditionLength_8 : decode b_MO_conditionLength 8 = .ok (.iconst 4, 1) := by decide +kernel
theorem d_MO_conditionLength_9 : decode b_MO_conditionLength 9 = .ok (.irem, 1) := by decide +kernel
theorem d_MO_conditionLength_10 : decode b_MO_conditionLength 10 = .ok (.istore_n 2, 1) := by decide +kernel
theorem d_MO_conditionLength_11 : decode b_MO_conditionLength 11 = .ok (.iload_n 2, 1) := by decide +kernel
theorem d_MO_conditionLength_12 : decode b_MO_conditionLength 12 = .ok (.ifCond .ne 7, 3) := by decide +kernel
theorem d_MO_conditionLength_15 : decode b_MO_conditionLength 15 = .ok (.iconst 0, 1) := by decide +kernel
theorem d_MO_conditionLength_16 : decode b_MO_conditionLength 16 = .ok (.goto 31, 3) := by decide +kernel
theorem d_MO_conditionLength_19 : decode b_MO_conditionLength 19 = .ok (.iload_n 2, 1) := by decide +kernel
theorem d_MO_conditionLength_20 : decode b_MO_conditionLength 20 = .ok (.iconst 1, 1) := by decide +kernel
theorem d_MO_conditionLength_21 : decode b_MO_conditionLength 21 = .ok (.if_icmp .ne 8, 3) := by decide +kernel
theorem d_MO_conditionLength_24 : decode b_MO_conditionLength 24 = .ok (.bipush 8, 2) := by decide +kernel
theorem d_MO_conditionLength_26 : decode b_MO_conditionLength 26 = .ok (.goto 15, 3) := by decide +kernel
theorem d_MO_conditionLength_29 : decode b_MO_conditionLength 29 = .ok (.iload_n 2, 1) := by decide +kernel
theorem d_MO_conditionLength_30 : decode b_MO_conditionLength 30 = .ok (.iconst 2, 1) := by decide +kernel
theorem d_MO_conditionLength_31 : decode b_MO_conditionLength 31 = .ok (.if_icmp .ne 8, 3) := by decide +kernel
theorem d_MO_conditionLength_34 : decode b_MO_conditionLength 34 = .ok (.bipush 9, 2) := by decide +kernel
theorem d_MO_conditionLength_36 : decode b_MO_conditionLength 36 = .ok (.goto 5, 3) := by decide +kernel
theorem d_MO_conditionLength_39 : decode b_MO_conditionLength 39 = .ok (.bipush 13, 2) := by decide +kernel
theorem d_MO_conditionLength_41 : decode b_MO_conditionLength 41 = .ok (.aload_n 0, 1) := by decide +kernel
theorem d_MO_conditionLength_42 : decode b_MO_conditionLength 42 = .ok (.iload_n 1, 1) := by decide +kernel
theorem d_MO_conditionLength_43 : decode b_MO_conditionLength 43 = .ok (.invokevirtual 136, 3) := by decide +kernel
theorem d_MO_conditionLength_46 : decode b_MO_conditionLength 46 = .ok (.iadd, 1) := by decide +kernel
theorem d_MO_conditionLength_47 : decode b_MO_conditionLength 47 = .ok (.ireturn, 1) := by decide +kernel
def f_MO_conditionLength (b : Nat) (he : Nat → Int32) (dw : Nat → Int32) : Nat := (if (dw (4 * b)) - (dw (4 * b)) / 4 * 4 = 0 then 0 else (if (dw (4 * b)) - (dw (4 * b)) / 4 * 4 = 1 then 8 + (tn (he b) + 3) else (if (dw (4 * b)) - (dw (4 * b)) / 4 * 4 = 2 then 9 + (tn (he b) + 3) else 13 + (tn (he b) + 3))))
set_option maxHeartbeats 1000000 in
set_option maxRecDepth 100000 in
theorem c_MO_conditionLength (l : Launch) (D : va_G) (cI cZ : ClassId) (a q_op q_arg q_handler q_depth q_over q_flatOp q_flatArg q_flatHandler q_leader q_last q_height q_state q_begin q_drawn q_order q_starters q_emitted q_locals q_stack : Nat) (x_count x_handlers x_flatCount x_flatHandlers x_blockCount x_g x_ran x_ended x_result x_steps x_emits x_top x_at : Int32) (b : Nat) (he dw : Nat → Int32) (hb : b < 32) (hhe : Nn he b 5) : MG l y_MO_conditionLength w_MO_conditionLength (rmK 1 21) D classes (tyz cI cZ) E0 [.ref a, .int (nI b)] [(a, .inr (7, [.int x_count, .ref q_op, .ref q_arg, .int x_handlers, .ref q_handler, .ref q_depth, .ref q_over, .int x_flatCount, .ref q_flatOp, .ref q_flatArg, .int x_flatHandlers, .ref q_flatHandler, .int x_blockCount, .ref q_leader, .ref q_last, .ref q_height, .ref q_state, .ref q_begin, .ref q_drawn, .ref q_order, .int x_g, .ref q_starters, .int x_ran, .int x_ended, .int x_result, .int x_steps, .int x_emits, .ref q_emitted, .ref q_locals, .ref q_stack, .int x_top, .int x_at])), (q_height, .inl (cI, 32, .inl he)), (q_drawn, .inl (cI, 128, .inl dw))] (RI D classes (tyz cI cZ) (nI (f_MO_conditionLength b he dw)) [(a, .inr (7, [.int x_count, .ref q_op, .ref q_arg, .int x_handlers, .ref q_handler, .ref q_depth, .ref q_over, .int x_flatCount, .ref q_flatOp, .ref q_flatArg, .int x_flatHandlers, .ref q_flatHandler, .int x_blockCount, .ref q_leader, .ref q_last, .ref q_height, .ref q_state, .ref q_begin, .ref q_drawn, .ref q_order, .int x_g, .ref q_starters, .int x_ran, .int x_ended, .int x_result, .int x_steps, .int x_emits, .ref q_emitted, .ref q_locals, .ref q_stack, .int x_top, .int x_at])), (q_height, .inl (cI, 32, .inl he)), (q_drawn, .inl (cI, 128, .inl dw))]) := by
  refine MG.of (cc := b_MO_conditionLength) (maxL := 3) (ret := (some .int)) (own := "FlowFlattenerModel") rfl (by decide) rfl (Nat.le_of_ble_eq_true rfl) ?_
  intro p e s m below meth c A ls S hr hlocks hA hP hK hD hS hE hl
  have hx := S.1
  have hb := S.2.1
  have hl : lv_has ls 3 [(0, .ref a), (1, .int (nI b))] := hl
  refine lv_aload_n hx hb d_MO_conditionLength_0 rfl (lv_at hl 0 rfl) ?_
  refine k_get (v := .ref q_drawn) S in_MO hK hP 0 rfl rfl 18 (by decide) ql_MO_50 rfl d_MO_conditionLength_1 ?_
  refine lv_iconst (v := 4) hx hb d_MO_conditionLength_4 (by decide) ?_
  refine lv_iload_n hx hb d_MO_conditionLength_5 rfl (lv_at hl 1 rfl) ?_
  refine lv_imul hx hb d_MO_conditionLength_6 ?_
  refine k_top (y := nI (4 * b)) (nc_mul (by decide) rfl) ?_
  refine k_ld (k := 4 * b) hx hb hK hP 2 0 rfl rfl rfl (by omega) (by decide) d_MO_conditionLength_7 ?_
  refine lv_iconst (v := 4) hx hb d_MO_conditionLength_8 (by decide) ?_
  refine lv_irem hx hb d_MO_conditionLength_9 (by decide) ?_
  refine lv_istore_n (lv' := [(2, .int ((dw (4 * b)) - (dw (4 * b)) / 4 * 4)), (0, .ref a), (1, .int (nI b))]) hx hb d_MO_conditionLength_10 rfl hl (by decide) rfl (fun ls hl => ?_)
  refine lv_iload_n hx hb d_MO_conditionLength_11 rfl (lv_at hl 0 rfl) ?_
  refine lv_if_ne (tgt := 19) hx hb d_MO_conditionLength_12 (by decide) (fun h12_1 => ?_) (fun h12_1 => ?_)
  · skip
    refine lv_iload_n hx hb d_MO_conditionLength_19 rfl (lv_at hl 0 rfl) ?_
    refine lv_iconst (v := 1) hx hb d_MO_conditionLength_20 (by decide) ?_
    refine lv_icmp_ne (tgt := 29) hx hb d_MO_conditionLength_21 (by decide) (fun h21_2 => ?_) (fun h21_2 => ?_)
    · skip
      refine lv_iload_n hx hb d_MO_conditionLength_29 rfl (lv_at hl 0 rfl) ?_
      refine lv_iconst (v := 2) hx hb d_MO_conditionLength_30 (by decide) ?_
      refine lv_icmp_ne (tgt := 39) hx hb d_MO_conditionLength_31 (by decide) (fun h31_3 => ?_) (fun h31_3 => ?_)
      · skip
        refine lv_bipush (v := 13) hx hb d_MO_conditionLength_39 (by decide) ?_
        refine lv_aload_n hx hb d_MO_conditionLength_41 rfl (lv_at hl 1 rfl) ?_
        refine lv_iload_n hx hb d_MO_conditionLength_42 rfl (lv_at hl 2 rfl) ?_
        refine k_goi (ws' := [(a, .inr (7, [.int x_count, .ref q_op, .ref q_arg, .int x_handlers, .ref q_handler, .ref q_depth, .ref q_over, .int x_flatCount, .ref q_flatOp, .ref q_flatArg, .int x_flatHandlers, .ref q_flatHandler, .int x_blockCount, .ref q_leader, .ref q_last, .ref q_height, .ref q_state, .ref q_begin, .ref q_drawn, .ref q_order, .int x_g, .ref q_starters, .int x_ran, .int x_ended, .int x_result, .int x_steps, .int x_emits, .ref q_emitted, .ref q_locals, .ref q_stack, .int x_top, .int x_at])), (q_height, .inl (cI, 32, .inl he)), (q_drawn, .inl (cI, 128, .inl dw))]) (wr := [(q_drawn, .inl (cI, 128, .inl dw))]) (k_runV (q0 := 0) (As := [.int (nI b)]) (rest := [.int 13]) (n := 1) S (c_MO_junkLength l D cI cZ a q_op q_arg q_handler q_depth q_over q_flatOp q_flatArg q_flatHandler q_leader q_last q_height q_state q_begin q_drawn q_order q_starters q_emitted q_locals q_stack x_count x_handlers x_flatCount x_flatHandlers x_blockCount x_g x_ran x_ended x_result x_steps x_emits x_top x_at b he (by omega) hhe) E0_b E0_t ql_MO_136 qi_MO_junkLength qs_MO_junkLength qn_MO qc_MO_junkLength (by decide +kernel) rfl ⟨rfl, rfl⟩ ⟨Nat.le_of_ble_eq_true rfl, Nat.le_of_ble_eq_true rfl⟩ hK hP hD [0, 1] rfl (by decide) rfl rfl hl.1 rfl (Nat.le_of_ble_eq_true rfl) d_MO_conditionLength_43 ⟨Nat.zero_le _, Nat.zero_le _⟩) hP hD hS hA [0, 1] [2] [1, 2, 0] rfl rfl (by decide) (by decide) rfl (by decide) (fun H locs hP hD hS => ?_)
        refine lv_iadd hx hb d_MO_conditionLength_46 ?_
        refine k_top (y := nI (13 + (tn (he b) + 3))) (nc_add (by decide) rfl) ?_
        exact k_iret hx hb hr hlocks hK hP hD hS (by rw [f_MO_conditionLength, if_neg h12_1, if_neg h21_2, if_neg h31_3]) rfl d_MO_conditionLength_47
      · skip
        refine lv_bipush (v := 9) hx hb d_MO_conditionLength_34 (by decide) ?_
        refine lv_goto (tgt := 41) hx hb d_MO_conditionLength_36 (by decide) ?_
        refine lv_aload_n hx hb d_MO_conditionLength_41 rfl (lv_at hl 1 rfl) ?_
        refine lv_iload_n hx hb d_MO_conditionLength_42 rfl (lv_at hl 2 rfl) ?_
        refine k_goi (ws' := [(a, .inr (7, [.int x_count, .ref q_op, .ref q_arg, .int x_handlers, .ref q_handler, .ref q_depth, .ref q_over, .int x_flatCount, .ref q_flatOp, .ref q_flatArg, .int x_flatHandlers, .ref q_flatHandler, .int x_blockCount, .ref q_leader, .ref q_last, .ref q_height, .ref q_state, .ref q_begin, .ref q_drawn, .ref q_order, .int x_g, .ref q_starters, .int x_ran, .int x_ended, .int x_result, .int x_steps, .int x_emits, .ref q_emitted, .ref q_locals, .ref q_stack, .int x_top, .int x_at])), (q_height, .inl (cI, 32, .inl he)), (q_drawn, .inl (cI, 128, .inl dw))]) (wr := [(q_drawn, .inl (cI, 128, .inl dw))]) (k_runV (q0 := 0) (As := [.int (nI b)]) (rest := [.int 9]) (n := 1) S (c_MO_junkLength l D cI cZ a q_op q_arg q_handler q_depth q_over q_flatOp q_flatArg q_flatHandler q_leader q_last q_height q_state q_begin q_drawn q_order q_starters q_emitted q_locals q_stack x_count x_handlers x_flatCount x_flatHandlers x_blockCount x_g x_ran x_ended x_result x_steps x_emits x_top x_at b he (by omega) hhe) E0_b E0_t ql_MO_136 qi_MO_junkLength qs_MO_junkLength qn_MO qc_MO_junkLength (by decide +kernel) rfl ⟨rfl, rfl⟩ ⟨Nat.le_of_ble_eq_true rfl, Nat.le_of_ble_eq_true rfl⟩ hK hP hD [0, 1] rfl (by decide) rfl rfl hl.1 rfl (Nat.le_of_ble_eq_true rfl) d_MO_conditionLength_43 ⟨Nat.zero_le _, Nat.zero_le _⟩) hP hD hS hA [0, 1] [2] [1, 2, 0] rfl rfl (by decide) (by decide) rfl (by decide) (fun H locs hP hD hS => ?_)
        refine lv_iadd hx hb d_MO_conditionLength_46 ?_
        refine k_top (y := nI (9 + (tn (he b) + 3))) (nc_add (by decide) rfl) ?_
        exact k_iret hx hb hr hlocks hK hP hD hS (by rw [f_MO_conditionLength, if_neg h12_1, if_neg h21_2, if_pos h31_3]) rfl d_MO_conditionLength_47
    · skip
      refine lv_bipush (v := 8) hx hb d_MO_conditionLength_24 (by decide) ?_
      refine lv_goto (tgt := 41) hx hb d_MO_conditionLength_26 (by decide) ?_
      refine lv_aload_n hx hb d_MO_conditionLength_41 rfl (lv_at hl 1 rfl) ?_
      refine lv_iload_n hx hb d_MO_conditionLength_42 rfl (lv_at hl 2 rfl) ?_
      refine k_goi (ws' := [(a, .inr (7, [.int x_count, .ref q_op, .ref q_arg, .int x_handlers, .ref q_handler, .ref q_depth, .ref q_over, .int x_flatCount, .ref q_flatOp, .ref q_flatArg, .int x_flatHandlers, .ref q_flatHandler, .int x_blockCount, .ref q_leader, .ref q_last, .ref q_height, .ref q_state, .ref q_begin, .ref q_drawn, .ref q_order, .int x_g, .ref q_starters, .int x_ran, .int x_ended, .int x_result, .int x_steps, .int x_emits, .ref q_emitted, .ref q_locals, .ref q_stack, .int x_top, .int x_at])), (q_height, .inl (cI, 32, .inl he)), (q_drawn, .inl (cI, 128, .inl dw))]) (wr := [(q_drawn, .inl (cI, 128, .inl dw))]) (k_runV (q0 := 0) (As := [.int (nI b)]) (rest := [.int 8]) (n := 1) S (c_MO_junkLength l D cI cZ a q_op q_arg q_handler q_depth q_over q_flatOp q_flatArg q_flatHandler q_leader q_last q_height q_state q_begin q_drawn q_order q_starters q_emitted q_locals q_stack x_count x_handlers x_flatCount x_flatHandlers x_blockCount x_g x_ran x_ended x_result x_steps x_emits x_top x_at b he (by omega) hhe) E0_b E0_t ql_MO_136 qi_MO_junkLength qs_MO_junkLength qn_MO qc_MO_junkLength (by decide +kernel) rfl ⟨rfl, rfl⟩ ⟨Nat.le_of_ble_eq_true rfl, Nat.le_of_ble_eq_true rfl⟩ hK hP hD [0, 1] rfl (by decide) rfl rfl hl.1 rfl (Nat.le_of_ble_eq_true rfl) d_MO_conditionLength_43 ⟨Nat.zero_le _, Nat.zero_le _⟩) hP hD hS hA [0, 1] [2] [1, 2, 0] rfl rfl (by decide) (by decide) rfl (by decide) (fun H locs hP hD hS => ?_)
      refine lv_iadd hx hb d_MO_conditionLength_46 ?_
      refine k_top (y := nI (8 + (tn (he b) + 3))) (nc_add (by decide) rfl) ?_
      exact k_iret hx hb hr hlocks hK hP hD hS (by rw [f_MO_conditionLength, if_neg h12_1, if_pos h21_2]) rfl d_MO_conditionLength_47
  · skip
    refine lv_iconst (v := nI 0) hx hb d_MO_conditionLength_15 (by decide) ?_
    refine lv_goto (tgt := 47) hx hb d_MO_conditionLength_16 (by decide) ?_
    exact k_iret hx hb hr hlocks hK hP hD hS (by rw [f_MO_conditionLength, if_pos h12_1]) rfl d_MO_conditionLength_47

theorem d_MO_bodyAt_0 : decode b_MO_bodyAt 0 = .ok (.aload_n 0, 1) := by decide +kernel
theorem d_MO_bodyAt_1 : decode b_MO_bodyAt 1 = .ok (.getfield 47, 3) := by decide +kernel
theorem d_MO_bodyAt_4 : decode b_MO_bodyAt 4 = .ok (.iload_n 1, 1) := by decide +kernel
theorem d_MO_bodyAt_5 : decode b_MO_bodyAt 5 = .ok (.iaload, 1) := by decide +kernel
theorem d_MO_bodyAt_6 : decode b_MO_bodyAt 6 = .ok (.aload_n 0, 1) := by decide +kernel
theorem d_MO_bodyAt_7 : decode b_MO_bodyAt 7 = .ok (.getfield 41, 3) := by decide +kernel
theorem d_MO_bodyAt_10 : decode b_MO_bodyAt 10 = .ok (.iload_n 1, 1) := by decide +kernel
theorem d_MO_bodyAt_11 : decode b_MO_bodyAt 11 = .ok (.iaload, 1) := by decide +kernel
theorem d_MO_bodyAt_12 : decode b_MO_bodyAt 12 = .ok (.iadd, 1) := by decide +kernel
theorem d_MO_bodyAt_13 : decode b_MO_bodyAt 13 = .ok (.aload_n 0, 1) := by decide +kernel
theorem d_MO_bodyAt_14 : decode b_MO_bodyAt 14 = .ok (.iload_n 1, 1) := by decide +kernel
theorem d_MO_bodyAt_15 : decode b_MO_bodyAt 15 = .ok (.invokevirtual 139, 3) := by decide +kernel
theorem d_MO_bodyAt_18 : decode b_MO_bodyAt 18 = .ok (.iadd, 1) := by decide +kernel
theorem d_MO_bodyAt_19 : decode b_MO_bodyAt 19 = .ok (.ireturn, 1) := by decide +kernel
set_option maxHeartbeats 1000000 in
set_option maxRecDepth 100000 in
theorem c_MO_bodyAt (l : Launch) (D : va_G) (cI cZ : ClassId) (a q_op q_arg q_handler q_depth q_over q_flatOp q_flatArg q_flatHandler q_leader q_last q_height q_state q_begin q_drawn q_order q_starters q_emitted q_locals q_stack : Nat) (x_count x_handlers x_flatCount x_flatHandlers x_blockCount x_g x_ran x_ended x_result x_steps x_emits x_top x_at : Int32) (b : Nat) (he dw fi : Nat → Int32) (hb : b < 32) (hhe : Nn he b 5) (hfi : Nn fi b 1601) : MG l y_MO_bodyAt w_MO_bodyAt (rmK 2 43) D classes (tyz cI cZ) E0 [.ref a, .int (nI b)] [(a, .inr (7, [.int x_count, .ref q_op, .ref q_arg, .int x_handlers, .ref q_handler, .ref q_depth, .ref q_over, .int x_flatCount, .ref q_flatOp, .ref q_flatArg, .int x_flatHandlers, .ref q_flatHandler, .int x_blockCount, .ref q_leader, .ref q_last, .ref q_height, .ref q_state, .ref q_begin, .ref q_drawn, .ref q_order, .int x_g, .ref q_starters, .int x_ran, .int x_ended, .int x_result, .int x_steps, .int x_emits, .ref q_emitted, .ref q_locals, .ref q_stack, .int x_top, .int x_at])), (q_height, .inl (cI, 32, .inl he)), (q_drawn, .inl (cI, 128, .inl dw)), (q_begin, .inl (cI, 32, .inl fi))] (RI D classes (tyz cI cZ) (nI (tn (fi b) + tn (he b) + f_MO_conditionLength b he dw)) [(a, .inr (7, [.int x_count, .ref q_op, .ref q_arg, .int x_handlers, .ref q_handler, .ref q_depth, .ref q_over, .int x_flatCount, .ref q_flatOp, .ref q_flatArg, .int x_flatHandlers, .ref q_flatHandler, .int x_blockCount, .ref q_leader, .ref q_last, .ref q_height, .ref q_state, .ref q_begin, .ref q_drawn, .ref q_order, .int x_g, .ref q_starters, .int x_ran, .int x_ended, .int x_result, .int x_steps, .int x_emits, .ref q_emitted, .ref q_locals, .ref q_stack, .int x_top, .int x_at])), (q_height, .inl (cI, 32, .inl he)), (q_drawn, .inl (cI, 128, .inl dw)), (q_begin, .inl (cI, 32, .inl fi))]) := by
  refine MG.of (cc := b_MO_bodyAt) (maxL := 2) (ret := (some .int)) (own := "FlowFlattenerModel") rfl (by decide) rfl (Nat.le_of_ble_eq_true rfl) ?_
  intro p e s m below meth c A ls S hr hlocks hA hP hK hD hS hE hl
  have hx := S.1
  have hb := S.2.1
  have hl : lv_has ls 2 [(0, .ref a), (1, .int (nI b))] := hl
  refine lv_aload_n hx hb d_MO_bodyAt_0 rfl (lv_at hl 0 rfl) ?_
  refine k_get (v := .ref q_begin) S in_MO hK hP 0 rfl rfl 17 (by decide) ql_MO_47 rfl d_MO_bodyAt_1 ?_
  refine lv_iload_n hx hb d_MO_bodyAt_4 rfl (lv_at hl 1 rfl) ?_
  refine k_ld (k := b) hx hb hK hP 3 0 rfl rfl rfl (by omega) (by decide) d_MO_bodyAt_5 ?_
  refine k_top (y := nI (tn (fi b))) hfi.1 ?_
  refine lv_aload_n hx hb d_MO_bodyAt_6 rfl (lv_at hl 0 rfl) ?_
  refine k_get (v := .ref q_height) S in_MO hK hP 0 rfl rfl 15 (by decide) ql_MO_41 rfl d_MO_bodyAt_7 ?_
  refine lv_iload_n hx hb d_MO_bodyAt_10 rfl (lv_at hl 1 rfl) ?_
  refine k_ld (k := b) hx hb hK hP 1 0 rfl rfl rfl (by omega) (by decide) d_MO_bodyAt_11 ?_
  refine k_top (y := nI (tn (he b))) hhe.1 ?_
  refine lv_iadd hx hb d_MO_bodyAt_12 ?_
  refine k_top (y := nI (tn (fi b) + (tn (he b)))) (nc_add rfl rfl) ?_
  refine lv_aload_n hx hb d_MO_bodyAt_13 rfl (lv_at hl 0 rfl) ?_
  refine lv_iload_n hx hb d_MO_bodyAt_14 rfl (lv_at hl 1 rfl) ?_
  refine k_goi (ws' := [(a, .inr (7, [.int x_count, .ref q_op, .ref q_arg, .int x_handlers, .ref q_handler, .ref q_depth, .ref q_over, .int x_flatCount, .ref q_flatOp, .ref q_flatArg, .int x_flatHandlers, .ref q_flatHandler, .int x_blockCount, .ref q_leader, .ref q_last, .ref q_height, .ref q_state, .ref q_begin, .ref q_drawn, .ref q_order, .int x_g, .ref q_starters, .int x_ran, .int x_ended, .int x_result, .int x_steps, .int x_emits, .ref q_emitted, .ref q_locals, .ref q_stack, .int x_top, .int x_at])), (q_height, .inl (cI, 32, .inl he)), (q_drawn, .inl (cI, 128, .inl dw)), (q_begin, .inl (cI, 32, .inl fi))]) (wr := [(q_begin, .inl (cI, 32, .inl fi))]) (k_runV (q0 := 0) (As := [.int (nI b)]) (rest := [.int (nI (tn (fi b) + (tn (he b))))]) (n := 1) S (c_MO_conditionLength l D cI cZ a q_op q_arg q_handler q_depth q_over q_flatOp q_flatArg q_flatHandler q_leader q_last q_height q_state q_begin q_drawn q_order q_starters q_emitted q_locals q_stack x_count x_handlers x_flatCount x_flatHandlers x_blockCount x_g x_ran x_ended x_result x_steps x_emits x_top x_at b he dw (by omega) hhe) E0_b E0_t ql_MO_139 qi_MO_conditionLength qs_MO_conditionLength qn_MO qc_MO_conditionLength (by decide +kernel) rfl ⟨rfl, rfl⟩ ⟨Nat.le_of_ble_eq_true rfl, Nat.le_of_ble_eq_true rfl⟩ hK hP hD [0, 1, 2] rfl (by decide) rfl rfl hl.1 rfl (Nat.le_of_ble_eq_true rfl) d_MO_bodyAt_15 ⟨Nat.zero_le _, Nat.zero_le _⟩) hP hD hS hA [0, 1, 2] [3] [1, 2, 3, 0] rfl rfl (by decide) (by decide) rfl (by decide) (fun H locs hP hD hS => ?_)
  refine lv_iadd hx hb d_MO_bodyAt_18 ?_
  refine k_top (y := nI (tn (fi b) + (tn (he b)) + (f_MO_conditionLength b he dw))) (nc_add rfl rfl) ?_
  exact k_iret hx hb hr hlocks hK hP hD hS rfl rfl d_MO_bodyAt_19

theorem d_MO_bodyLength_0 : decode b_MO_bodyLength 0 = .ok (.aload_n 0, 1) := by decide +kernel
theorem d_MO_bodyLength_1 : decode b_MO_bodyLength 1 = .ok (.getfield 38, 3) := by decide +kernel
theorem d_MO_bodyLength_4 : decode b_MO_bodyLength 4 = .ok (.iload_n 1, 1) := by decide +kernel
theorem d_MO_bodyLength_5 : decode b_MO_bodyLength 5 = .ok (.iaload, 1) := by decide +kernel
theorem d_MO_bodyLength_6 : decode b_MO_bodyLength 6 = .ok (.aload_n 0, 1) := by decide +kernel
theorem d_MO_bodyLength_7 : decode b_MO_bodyLength 7 = .ok (.getfield 35, 3) := by decide +kernel
theorem d_MO_bodyLength_10 : decode b_MO_bodyLength 10 = .ok (.iload_n 1, 1) := by decide +kernel
theorem d_MO_bodyLength_11 : decode b_MO_bodyLength 11 = .ok (.iaload, 1) := by decide +kernel
theorem d_MO_bodyLength_12 : decode b_MO_bodyLength 12 = .ok (.isub, 1) := by decide +kernel
theorem d_MO_bodyLength_13 : decode b_MO_bodyLength 13 = .ok (.aload_n 0, 1) := by decide +kernel
theorem d_MO_bodyLength_14 : decode b_MO_bodyLength 14 = .ok (.getfield 7, 3) := by decide +kernel
theorem d_MO_bodyLength_17 : decode b_MO_bodyLength 17 = .ok (.aload_n 0, 1) := by decide +kernel
theorem d_MO_bodyLength_18 : decode b_MO_bodyLength 18 = .ok (.getfield 38, 3) := by decide +kernel
theorem d_MO_bodyLength_21 : decode b_MO_bodyLength 21 = .ok (.iload_n 1, 1) := by decide +kernel
theorem d_MO_bodyLength_22 : decode b_MO_bodyLength 22 = .ok (.iaload, 1) := by decide +kernel
theorem d_MO_bodyLength_23 : decode b_MO_bodyLength 23 = .ok (.iaload, 1) := by decide +kernel
theorem d_MO_bodyLength_24 : decode b_MO_bodyLength 24 = .ok (.invokestatic 73, 3) := by decide +kernel
theorem d_MO_bodyLength_27 : decode b_MO_bodyLength 27 = .ok (.ifCond .eq 7, 3) := by decide +kernel
theorem d_MO_bodyLength_30 : decode b_MO_bodyLength 30 = .ok (.iconst 0, 1) := by decide +kernel
theorem d_MO_bodyLength_31 : decode b_MO_bodyLength 31 = .ok (.goto 4, 3) := by decide +kernel
theorem d_MO_bodyLength_34 : decode b_MO_bodyLength 34 = .ok (.iconst 1, 1) := by decide +kernel
theorem d_MO_bodyLength_35 : decode b_MO_bodyLength 35 = .ok (.iadd, 1) := by decide +kernel
theorem d_MO_bodyLength_36 : decode b_MO_bodyLength 36 = .ok (.ireturn, 1) := by decide +kernel
def f_MO_bodyLength (b : Nat) (f : Nat → Int32) (le : Nat → Int32) (la : Nat → Int32) : Nat := (if f_MO_jumps (f (tn (la b))) = 0 then tn (la b) - (tn (le b)) + 1 else tn (la b) - (tn (le b)) + 0)
set_option maxHeartbeats 1000000 in
set_option maxRecDepth 100000 in
theorem c_MO_bodyLength (l : Launch) (D : va_G) (cI cZ : ClassId) (a q_op q_arg q_handler q_depth q_over q_flatOp q_flatArg q_flatHandler q_leader q_last q_height q_state q_begin q_drawn q_order q_starters q_emitted q_locals q_stack : Nat) (x_count x_handlers x_flatCount x_flatHandlers x_blockCount x_g x_ran x_ended x_result x_steps x_emits x_top x_at : Int32) (b : Nat) (f le la : Nat → Int32) (hb : b < 32) (hle : Nn le b 32) (hla : Nn la b 32) (hll : tn (le b) ≤ tn (la b)) : MG l y_MO_bodyLength w_MO_bodyLength (rmK 1 20) D classes (tyz cI cZ) E0 [.ref a, .int (nI b)] [(a, .inr (7, [.int x_count, .ref q_op, .ref q_arg, .int x_handlers, .ref q_handler, .ref q_depth, .ref q_over, .int x_flatCount, .ref q_flatOp, .ref q_flatArg, .int x_flatHandlers, .ref q_flatHandler, .int x_blockCount, .ref q_leader, .ref q_last, .ref q_height, .ref q_state, .ref q_begin, .ref q_drawn, .ref q_order, .int x_g, .ref q_starters, .int x_ran, .int x_ended, .int x_result, .int x_steps, .int x_emits, .ref q_emitted, .ref q_locals, .ref q_stack, .int x_top, .int x_at])), (q_op, .inl (cI, 32, .inl f)), (q_leader, .inl (cI, 32, .inl le)), (q_last, .inl (cI, 32, .inl la))] (RI D classes (tyz cI cZ) (nI (f_MO_bodyLength b f le la)) [(a, .inr (7, [.int x_count, .ref q_op, .ref q_arg, .int x_handlers, .ref q_handler, .ref q_depth, .ref q_over, .int x_flatCount, .ref q_flatOp, .ref q_flatArg, .int x_flatHandlers, .ref q_flatHandler, .int x_blockCount, .ref q_leader, .ref q_last, .ref q_height, .ref q_state, .ref q_begin, .ref q_drawn, .ref q_order, .int x_g, .ref q_starters, .int x_ran, .int x_ended, .int x_result, .int x_steps, .int x_emits, .ref q_emitted, .ref q_locals, .ref q_stack, .int x_top, .int x_at])), (q_op, .inl (cI, 32, .inl f)), (q_leader, .inl (cI, 32, .inl le)), (q_last, .inl (cI, 32, .inl la))]) := by
  refine MG.of (cc := b_MO_bodyLength) (maxL := 2) (ret := (some .int)) (own := "FlowFlattenerModel") rfl (by decide) rfl (Nat.le_of_ble_eq_true rfl) ?_
  intro p e s m below meth c A ls S hr hlocks hA hP hK hD hS hE hl
  have hx := S.1
  have hb := S.2.1
  have hl : lv_has ls 2 [(0, .ref a), (1, .int (nI b))] := hl
  refine lv_aload_n hx hb d_MO_bodyLength_0 rfl (lv_at hl 0 rfl) ?_
  refine k_get (v := .ref q_last) S in_MO hK hP 0 rfl rfl 14 (by decide) ql_MO_38 rfl d_MO_bodyLength_1 ?_
  refine lv_iload_n hx hb d_MO_bodyLength_4 rfl (lv_at hl 1 rfl) ?_
  refine k_ld (k := b) hx hb hK hP 3 0 rfl rfl rfl (by omega) (by decide) d_MO_bodyLength_5 ?_
  refine k_top (y := nI (tn (la b))) hla.1 ?_
  refine lv_aload_n hx hb d_MO_bodyLength_6 rfl (lv_at hl 0 rfl) ?_
  refine k_get (v := .ref q_leader) S in_MO hK hP 0 rfl rfl 13 (by decide) ql_MO_35 rfl d_MO_bodyLength_7 ?_
  refine lv_iload_n hx hb d_MO_bodyLength_10 rfl (lv_at hl 1 rfl) ?_
  refine k_ld (k := b) hx hb hK hP 2 0 rfl rfl rfl (by omega) (by decide) d_MO_bodyLength_11 ?_
  refine k_top (y := nI (tn (le b))) hle.1 ?_
  refine lv_isub hx hb d_MO_bodyLength_12 ?_
  refine k_top (y := nI (tn (la b) - (tn (le b)))) (nc_sub rfl rfl hll) ?_
  refine lv_aload_n hx hb d_MO_bodyLength_13 rfl (lv_at hl 0 rfl) ?_
  refine k_get (v := .ref q_op) S in_MO hK hP 0 rfl rfl 1 (by decide) ql_MO_7 rfl d_MO_bodyLength_14 ?_
  refine lv_aload_n hx hb d_MO_bodyLength_17 rfl (lv_at hl 0 rfl) ?_
  refine k_get (v := .ref q_last) S in_MO hK hP 0 rfl rfl 14 (by decide) ql_MO_38 rfl d_MO_bodyLength_18 ?_
  refine lv_iload_n hx hb d_MO_bodyLength_21 rfl (lv_at hl 1 rfl) ?_
  refine k_ld (k := b) hx hb hK hP 3 0 rfl rfl rfl (by omega) (by decide) d_MO_bodyLength_22 ?_
  refine k_top (y := nI (tn (la b))) hla.1 ?_
  refine k_ld (k := tn (la b)) hx hb hK hP 1 0 rfl rfl rfl hla.2 (by decide) d_MO_bodyLength_23 ?_
  refine k_goi (ws' := [(a, .inr (7, [.int x_count, .ref q_op, .ref q_arg, .int x_handlers, .ref q_handler, .ref q_depth, .ref q_over, .int x_flatCount, .ref q_flatOp, .ref q_flatArg, .int x_flatHandlers, .ref q_flatHandler, .int x_blockCount, .ref q_leader, .ref q_last, .ref q_height, .ref q_state, .ref q_begin, .ref q_drawn, .ref q_order, .int x_g, .ref q_starters, .int x_ran, .int x_ended, .int x_result, .int x_steps, .int x_emits, .ref q_emitted, .ref q_locals, .ref q_stack, .int x_top, .int x_at])), (q_op, .inl (cI, 32, .inl f)), (q_leader, .inl (cI, 32, .inl le)), (q_last, .inl (cI, 32, .inl la))]) (wr := [(a, .inr (7, [.int x_count, .ref q_op, .ref q_arg, .int x_handlers, .ref q_handler, .ref q_depth, .ref q_over, .int x_flatCount, .ref q_flatOp, .ref q_flatArg, .int x_flatHandlers, .ref q_flatHandler, .int x_blockCount, .ref q_leader, .ref q_last, .ref q_height, .ref q_state, .ref q_begin, .ref q_drawn, .ref q_order, .int x_g, .ref q_starters, .int x_ran, .int x_ended, .int x_result, .int x_steps, .int x_emits, .ref q_emitted, .ref q_locals, .ref q_stack, .int x_top, .int x_at])), (q_op, .inl (cI, 32, .inl f)), (q_leader, .inl (cI, 32, .inl le)), (q_last, .inl (cI, 32, .inl la))]) (k_runS (As := [.int (f (tn (la b)))]) (rest := [.int (nI (tn (la b) - (tn (le b))))]) (n := 1) S (c_MO_jumps l D cI cZ (f (tn (la b)))) E0_b E0_t ql_MO_73 qt_MO_jumps qn_MO qc_MO_jumps (by decide +kernel) rfl ⟨rfl, rfl⟩ ⟨Nat.le_of_ble_eq_true rfl, Nat.le_of_ble_eq_true rfl⟩ hK hP hD [] rfl (by decide) hl.1 rfl (Nat.le_of_ble_eq_true rfl) d_MO_bodyLength_24 ⟨Nat.zero_le _, Nat.zero_le _⟩) hP hD hS hA [] [0, 1, 2, 3] [0, 1, 2, 3] rfl rfl (by decide) (by decide) rfl (by decide) (fun H locs hP hD hS => ?_)
  refine lv_if_eq (tgt := 34) hx hb d_MO_bodyLength_27 (by decide) (fun h27_1 => ?_) (fun h27_1 => ?_)
  · skip
    refine lv_iconst (v := nI 1) hx hb d_MO_bodyLength_34 (by decide) ?_
    refine lv_iadd hx hb d_MO_bodyLength_35 ?_
    refine k_top (y := nI (tn (la b) - (tn (le b)) + 1)) (nc_add rfl rfl) ?_
    exact k_iret hx hb hr hlocks hK hP hD hS (by rw [f_MO_bodyLength, if_pos h27_1]) rfl d_MO_bodyLength_36
  · skip
    refine lv_iconst (v := nI 0) hx hb d_MO_bodyLength_30 (by decide) ?_
    refine lv_goto (tgt := 35) hx hb d_MO_bodyLength_31 (by decide) ?_
    refine lv_iadd hx hb d_MO_bodyLength_35 ?_
    refine k_top (y := nI (tn (la b) - (tn (le b)) + 0)) (nc_add rfl rfl) ?_
    exact k_iret hx hb hr hlocks hK hP hD hS (by rw [f_MO_bodyLength, if_neg h27_1]) rfl d_MO_bodyLength_36

theorem d_MO_write_0 : decode b_MO_write 0 = .ok (.aload_n 0, 1) := by decide +kernel
theorem d_MO_write_1 : decode b_MO_write 1 = .ok (.getfield 26, 3) := by decide +kernel
theorem d_MO_write_4 : decode b_MO_write 4 = .ok (.aload_n 0, 1) := by decide +kernel
theorem d_MO_write_5 : decode b_MO_write 5 = .ok (.getfield 157, 3) := by decide +kernel
theorem d_MO_write_8 : decode b_MO_write 8 = .ok (.iload_n 1, 1) := by decide +kernel
theorem d_MO_write_9 : decode b_MO_write 9 = .ok (.iastore, 1) := by decide +kernel
theorem d_MO_write_10 : decode b_MO_write 10 = .ok (.aload_n 0, 1) := by decide +kernel
theorem d_MO_write_11 : decode b_MO_write 11 = .ok (.getfield 29, 3) := by decide +kernel
theorem d_MO_write_14 : decode b_MO_write 14 = .ok (.aload_n 0, 1) := by decide +kernel
theorem d_MO_write_15 : decode b_MO_write 15 = .ok (.getfield 157, 3) := by decide +kernel
theorem d_MO_write_18 : decode b_MO_write 18 = .ok (.iload_n 2, 1) := by decide +kernel
theorem d_MO_write_19 : decode b_MO_write 19 = .ok (.iastore, 1) := by decide +kernel
theorem d_MO_write_20 : decode b_MO_write 20 = .ok (.aload_n 0, 1) := by decide +kernel
theorem d_MO_write_21 : decode b_MO_write 21 = .ok (.dup, 1) := by decide +kernel
theorem d_MO_write_22 : decode b_MO_write 22 = .ok (.getfield 157, 3) := by decide +kernel
theorem d_MO_write_25 : decode b_MO_write 25 = .ok (.iconst 1, 1) := by decide +kernel
theorem d_MO_write_26 : decode b_MO_write 26 = .ok (.iadd, 1) := by decide +kernel
theorem d_MO_write_27 : decode b_MO_write 27 = .ok (.putfield 157, 3) := by decide +kernel
theorem d_MO_write_30 : decode b_MO_write 30 = .ok (.return_, 1) := by decide +kernel
set_option maxHeartbeats 1000000 in
set_option maxRecDepth 100000 in
theorem c_MO_write (l : Launch) (D : va_G) (cI cZ : ClassId) (a q_op q_arg q_handler q_depth q_over q_flatOp q_flatArg q_flatHandler q_leader q_last q_height q_state q_begin q_drawn q_order q_starters q_emitted q_locals q_stack : Nat) (x_count x_handlers x_flatHandlers x_blockCount x_g x_ran x_ended x_result x_steps x_emits x_top x_at : Int32) (fq : Nat) (fo fa : Nat → Int32) (o b : Int32) (hfq : fq < 1600) : MG l y_MO_write w_MO_write (rmK 0 0) D classes (tyz cI cZ) E0 [.ref a, .int o, .int b] [(a, .inr (7, [.int x_count, .ref q_op, .ref q_arg, .int x_handlers, .ref q_handler, .ref q_depth, .ref q_over, .int (nI fq), .ref q_flatOp, .ref q_flatArg, .int x_flatHandlers, .ref q_flatHandler, .int x_blockCount, .ref q_leader, .ref q_last, .ref q_height, .ref q_state, .ref q_begin, .ref q_drawn, .ref q_order, .int x_g, .ref q_starters, .int x_ran, .int x_ended, .int x_result, .int x_steps, .int x_emits, .ref q_emitted, .ref q_locals, .ref q_stack, .int x_top, .int x_at])), (q_flatOp, .inl (cI, 1600, .inl fo)), (q_flatArg, .inl (cI, 1600, .inl fa))] (RV D classes (tyz cI cZ) [(a, .inr (7, [.int x_count, .ref q_op, .ref q_arg, .int x_handlers, .ref q_handler, .ref q_depth, .ref q_over, .int (nI (fq + 1)), .ref q_flatOp, .ref q_flatArg, .int x_flatHandlers, .ref q_flatHandler, .int x_blockCount, .ref q_leader, .ref q_last, .ref q_height, .ref q_state, .ref q_begin, .ref q_drawn, .ref q_order, .int x_g, .ref q_starters, .int x_ran, .int x_ended, .int x_result, .int x_steps, .int x_emits, .ref q_emitted, .ref q_locals, .ref q_stack, .int x_top, .int x_at])), (q_flatOp, .inl (cI, 1600, .inl (upd fo fq o))), (q_flatArg, .inl (cI, 1600, .inl (upd fa fq b)))]) := by
  refine MG.of (cc := b_MO_write) (maxL := 3) (ret := none) (own := "FlowFlattenerModel") rfl (by decide) rfl (Nat.le_of_ble_eq_true rfl) ?_
  intro p e s m below meth c A ls S hr hlocks hA hP hK hD hS hE hl
  have hx := S.1
  have hb := S.2.1
  have hl : lv_has ls 3 [(0, .ref a), (1, .int o), (2, .int b)] := hl
  refine lv_aload_n hx hb d_MO_write_0 rfl (lv_at hl 0 rfl) ?_
  refine k_get (v := .ref q_flatOp) S in_MO hK hP 0 rfl rfl 8 (by decide) ql_MO_26 rfl d_MO_write_1 ?_
  refine lv_aload_n hx hb d_MO_write_4 rfl (lv_at hl 0 rfl) ?_
  refine k_get (v := .int (nI fq)) S in_MO hK hP 0 rfl rfl 7 (by decide) ql_MO_157 rfl d_MO_write_5 ?_
  refine lv_iload_n hx hb d_MO_write_8 rfl (lv_at hl 1 rfl) ?_
  refine k_st (k := fq) (x := o) (ws' := [(a, .inr (7, [.int x_count, .ref q_op, .ref q_arg, .int x_handlers, .ref q_handler, .ref q_depth, .ref q_over, .int (nI fq), .ref q_flatOp, .ref q_flatArg, .int x_flatHandlers, .ref q_flatHandler, .int x_blockCount, .ref q_leader, .ref q_last, .ref q_height, .ref q_state, .ref q_begin, .ref q_drawn, .ref q_order, .int x_g, .ref q_starters, .int x_ran, .int x_ended, .int x_result, .int x_steps, .int x_emits, .ref q_emitted, .ref q_locals, .ref q_stack, .int x_top, .int x_at])), (q_flatOp, .inl (cI, 1600, .inl (upd fo fq o))), (q_flatArg, .inl (cI, 1600, .inl fa))]) hx hb hK hP hD hS 1 0 rfl rfl rfl (by omega) (by decide) rfl d_MO_write_9 (fun H locs hP hD hS => ?_)
  refine lv_aload_n hx hb d_MO_write_10 rfl (lv_at hl 0 rfl) ?_
  refine k_get (v := .ref q_flatArg) S in_MO hK hP 0 rfl rfl 9 (by decide) ql_MO_29 rfl d_MO_write_11 ?_
  refine lv_aload_n hx hb d_MO_write_14 rfl (lv_at hl 0 rfl) ?_
  refine k_get (v := .int (nI fq)) S in_MO hK hP 0 rfl rfl 7 (by decide) ql_MO_157 rfl d_MO_write_15 ?_
  refine lv_iload_n hx hb d_MO_write_18 rfl (lv_at hl 2 rfl) ?_
  refine k_st (k := fq) (x := b) (ws' := [(a, .inr (7, [.int x_count, .ref q_op, .ref q_arg, .int x_handlers, .ref q_handler, .ref q_depth, .ref q_over, .int (nI fq), .ref q_flatOp, .ref q_flatArg, .int x_flatHandlers, .ref q_flatHandler, .int x_blockCount, .ref q_leader, .ref q_last, .ref q_height, .ref q_state, .ref q_begin, .ref q_drawn, .ref q_order, .int x_g, .ref q_starters, .int x_ran, .int x_ended, .int x_result, .int x_steps, .int x_emits, .ref q_emitted, .ref q_locals, .ref q_stack, .int x_top, .int x_at])), (q_flatOp, .inl (cI, 1600, .inl (upd fo fq o))), (q_flatArg, .inl (cI, 1600, .inl (upd fa fq b)))]) hx hb hK hP hD hS 2 0 rfl rfl rfl (by omega) (by decide) rfl d_MO_write_19 (fun H locs hP hD hS => ?_)
  refine lv_aload_n hx hb d_MO_write_20 rfl (lv_at hl 0 rfl) ?_
  refine lv_dup hx hb d_MO_write_21 rfl ?_
  refine k_get (v := .int (nI fq)) S in_MO hK hP 0 rfl rfl 7 (by decide) ql_MO_157 rfl d_MO_write_22 ?_
  refine lv_iconst (v := 1) hx hb d_MO_write_25 (by decide) ?_
  refine lv_iadd hx hb d_MO_write_26 ?_
  refine k_top (y := nI (fq + 1)) (nc_add rfl (by decide)) ?_
  refine k_put (v := .int (nI (fq + 1))) (ws' := [(a, .inr (7, [.int x_count, .ref q_op, .ref q_arg, .int x_handlers, .ref q_handler, .ref q_depth, .ref q_over, .int (nI (fq + 1)), .ref q_flatOp, .ref q_flatArg, .int x_flatHandlers, .ref q_flatHandler, .int x_blockCount, .ref q_leader, .ref q_last, .ref q_height, .ref q_state, .ref q_begin, .ref q_drawn, .ref q_order, .int x_g, .ref q_starters, .int x_ran, .int x_ended, .int x_result, .int x_steps, .int x_emits, .ref q_emitted, .ref q_locals, .ref q_stack, .int x_top, .int x_at])), (q_flatOp, .inl (cI, 1600, .inl (upd fo fq o))), (q_flatArg, .inl (cI, 1600, .inl (upd fa fq b)))]) S in_MO ty_MO nm_MO hK hP hD hS 0 rfl rfl 7 (by decide) ql_MO_157 rfl rfl rfl rfl (Nat.le_of_ble_eq_true rfl) rfl d_MO_write_27 (fun H locs hP hD hS => ?_)
  exact k_vret hx hb hr hlocks hK hP hD hS rfl d_MO_write_30

theorem d_MO_square_0 : decode b_MO_square 0 = .ok (.aload_n 0, 1) := by decide +kernel
theorem d_MO_square_1 : decode b_MO_square 1 = .ok (.iconst 1, 1) := by decide +kernel
theorem d_MO_square_2 : decode b_MO_square 2 = .ok (.iload_n 1, 1) := by decide +kernel
theorem d_MO_square_3 : decode b_MO_square 3 = .ok (.invokevirtual 160, 3) := by decide +kernel
theorem d_MO_square_6 : decode b_MO_square 6 = .ok (.aload_n 0, 1) := by decide +kernel
theorem d_MO_square_7 : decode b_MO_square 7 = .ok (.bipush 9, 2) := by decide +kernel
theorem d_MO_square_9 : decode b_MO_square 9 = .ok (.iconst 0, 1) := by decide +kernel
theorem d_MO_square_10 : decode b_MO_square 10 = .ok (.invokevirtual 160, 3) := by decide +kernel
theorem d_MO_square_13 : decode b_MO_square 13 = .ok (.aload_n 0, 1) := by decide +kernel
theorem d_MO_square_14 : decode b_MO_square 14 = .ok (.iconst 5, 1) := by decide +kernel
theorem d_MO_square_15 : decode b_MO_square 15 = .ok (.iconst 0, 1) := by decide +kernel
theorem d_MO_square_16 : decode b_MO_square 16 = .ok (.invokevirtual 160, 3) := by decide +kernel
theorem d_MO_square_19 : decode b_MO_square 19 = .ok (.return_, 1) := by decide +kernel
def f_MO_square (fq : Nat) (fo : Nat → Int32) (fa : Nat → Int32) (v : Int32) : Nat × (Nat → Int32) × (Nat → Int32) := (((fq + 1) + 1) + 1, upd (upd (upd fo fq 1) (fq + 1) 9) ((fq + 1) + 1) 5, upd (upd (upd fa fq v) (fq + 1) 0) ((fq + 1) + 1) 0)
set_option maxHeartbeats 1000000 in
set_option maxRecDepth 100000 in
theorem c_MO_square (l : Launch) (D : va_G) (cI cZ : ClassId) (a q_op q_arg q_handler q_depth q_over q_flatOp q_flatArg q_flatHandler q_leader q_last q_height q_state q_begin q_drawn q_order q_starters q_emitted q_locals q_stack : Nat) (x_count x_handlers x_flatHandlers x_blockCount x_g x_ran x_ended x_result x_steps x_emits x_top x_at : Int32) (fq : Nat) (fo fa : Nat → Int32) (v : Int32) (hfq : fq + 3 ≤ 1600) : MG l y_MO_square w_MO_square (rmK 1 22) D classes (tyz cI cZ) E0 [.ref a, .int v] [(a, .inr (7, [.int x_count, .ref q_op, .ref q_arg, .int x_handlers, .ref q_handler, .ref q_depth, .ref q_over, .int (nI fq), .ref q_flatOp, .ref q_flatArg, .int x_flatHandlers, .ref q_flatHandler, .int x_blockCount, .ref q_leader, .ref q_last, .ref q_height, .ref q_state, .ref q_begin, .ref q_drawn, .ref q_order, .int x_g, .ref q_starters, .int x_ran, .int x_ended, .int x_result, .int x_steps, .int x_emits, .ref q_emitted, .ref q_locals, .ref q_stack, .int x_top, .int x_at])), (q_flatOp, .inl (cI, 1600, .inl fo)), (q_flatArg, .inl (cI, 1600, .inl fa))] (RV D classes (tyz cI cZ) [(a, .inr (7, [.int x_count, .ref q_op, .ref q_arg, .int x_handlers, .ref q_handler, .ref q_depth, .ref q_over, .int (nI ((f_MO_square fq fo fa v).1)), .ref q_flatOp, .ref q_flatArg, .int x_flatHandlers, .ref q_flatHandler, .int x_blockCount, .ref q_leader, .ref q_last, .ref q_height, .ref q_state, .ref q_begin, .ref q_drawn, .ref q_order, .int x_g, .ref q_starters, .int x_ran, .int x_ended, .int x_result, .int x_steps, .int x_emits, .ref q_emitted, .ref q_locals, .ref q_stack, .int x_top, .int x_at])), (q_flatOp, .inl (cI, 1600, .inl ((f_MO_square fq fo fa v).2.1))), (q_flatArg, .inl (cI, 1600, .inl ((f_MO_square fq fo fa v).2.2)))]) := by
  refine MG.of (cc := b_MO_square) (maxL := 2) (ret := none) (own := "FlowFlattenerModel") rfl (by decide) rfl (Nat.le_of_ble_eq_true rfl) ?_
  intro p e s m below meth c A ls S hr hlocks hA hP hK hD hS hE hl
  have hx := S.1
  have hb := S.2.1
  have hl : lv_has ls 2 [(0, .ref a), (1, .int v)] := hl
  refine lv_aload_n hx hb d_MO_square_0 rfl (lv_at hl 0 rfl) ?_
  refine lv_iconst (v := 1) hx hb d_MO_square_1 (by decide) ?_
  refine lv_iload_n hx hb d_MO_square_2 rfl (lv_at hl 1 rfl) ?_
  refine k_gov (ws' := [(a, .inr (7, [.int x_count, .ref q_op, .ref q_arg, .int x_handlers, .ref q_handler, .ref q_depth, .ref q_over, .int (nI (fq + 1)), .ref q_flatOp, .ref q_flatArg, .int x_flatHandlers, .ref q_flatHandler, .int x_blockCount, .ref q_leader, .ref q_last, .ref q_height, .ref q_state, .ref q_begin, .ref q_drawn, .ref q_order, .int x_g, .ref q_starters, .int x_ran, .int x_ended, .int x_result, .int x_steps, .int x_emits, .ref q_emitted, .ref q_locals, .ref q_stack, .int x_top, .int x_at])), (q_flatOp, .inl (cI, 1600, .inl (upd fo fq 1))), (q_flatArg, .inl (cI, 1600, .inl (upd fa fq v)))]) (wr := []) (k_runV (q0 := 0) (As := [.int 1, .int v]) (rest := []) (n := 2) S (c_MO_write l D cI cZ a q_op q_arg q_handler q_depth q_over q_flatOp q_flatArg q_flatHandler q_leader q_last q_height q_state q_begin q_drawn q_order q_starters q_emitted q_locals q_stack x_count x_handlers x_flatHandlers x_blockCount x_g x_ran x_ended x_result x_steps x_emits x_top x_at fq fo fa 1 v (by omega)) E0_b E0_t ql_MO_160 qi_MO_write qs_MO_write qn_MO qc_MO_write (by decide +kernel) rfl ⟨rfl, rfl⟩ ⟨Nat.le_of_ble_eq_true rfl, Nat.le_of_ble_eq_true rfl⟩ hK hP hD [0, 1, 2] rfl (by decide) rfl rfl hl.1 rfl (Nat.le_of_ble_eq_true rfl) d_MO_square_3 ⟨Nat.zero_le _, Nat.zero_le _⟩) hP hD hS hA [0, 1, 2] [] [0, 1, 2] rfl rfl (by decide) (by decide) rfl (by decide) (fun H locs hP hD hS => ?_)
  refine lv_aload_n hx hb d_MO_square_6 rfl (lv_at hl 0 rfl) ?_
  refine lv_bipush (v := 9) hx hb d_MO_square_7 (by decide) ?_
  refine lv_iconst (v := 0) hx hb d_MO_square_9 (by decide) ?_
  refine k_gov (ws' := [(a, .inr (7, [.int x_count, .ref q_op, .ref q_arg, .int x_handlers, .ref q_handler, .ref q_depth, .ref q_over, .int (nI ((fq + 1) + 1)), .ref q_flatOp, .ref q_flatArg, .int x_flatHandlers, .ref q_flatHandler, .int x_blockCount, .ref q_leader, .ref q_last, .ref q_height, .ref q_state, .ref q_begin, .ref q_drawn, .ref q_order, .int x_g, .ref q_starters, .int x_ran, .int x_ended, .int x_result, .int x_steps, .int x_emits, .ref q_emitted, .ref q_locals, .ref q_stack, .int x_top, .int x_at])), (q_flatOp, .inl (cI, 1600, .inl (upd (upd fo fq 1) (fq + 1) 9))), (q_flatArg, .inl (cI, 1600, .inl (upd (upd fa fq v) (fq + 1) 0)))]) (wr := []) (k_runV (q0 := 0) (As := [.int 9, .int 0]) (rest := []) (n := 2) S (c_MO_write l D cI cZ a q_op q_arg q_handler q_depth q_over q_flatOp q_flatArg q_flatHandler q_leader q_last q_height q_state q_begin q_drawn q_order q_starters q_emitted q_locals q_stack x_count x_handlers x_flatHandlers x_blockCount x_g x_ran x_ended x_result x_steps x_emits x_top x_at (fq + 1) (upd fo fq 1) (upd fa fq v) 9 0 (by omega)) E0_b E0_t ql_MO_160 qi_MO_write qs_MO_write qn_MO qc_MO_write (by decide +kernel) rfl ⟨rfl, rfl⟩ ⟨Nat.le_of_ble_eq_true rfl, Nat.le_of_ble_eq_true rfl⟩ hK hP hD [0, 1, 2] rfl (by decide) rfl rfl hl.1 rfl (Nat.le_of_ble_eq_true rfl) d_MO_square_10 ⟨Nat.zero_le _, Nat.zero_le _⟩) hP hD hS hA [0, 1, 2] [] [0, 1, 2] rfl rfl (by decide) (by decide) rfl (by decide) (fun H locs hP hD hS => ?_)
  refine lv_aload_n hx hb d_MO_square_13 rfl (lv_at hl 0 rfl) ?_
  refine lv_iconst (v := 5) hx hb d_MO_square_14 (by decide) ?_
  refine lv_iconst (v := 0) hx hb d_MO_square_15 (by decide) ?_
  refine k_gov (ws' := [(a, .inr (7, [.int x_count, .ref q_op, .ref q_arg, .int x_handlers, .ref q_handler, .ref q_depth, .ref q_over, .int (nI (((fq + 1) + 1) + 1)), .ref q_flatOp, .ref q_flatArg, .int x_flatHandlers, .ref q_flatHandler, .int x_blockCount, .ref q_leader, .ref q_last, .ref q_height, .ref q_state, .ref q_begin, .ref q_drawn, .ref q_order, .int x_g, .ref q_starters, .int x_ran, .int x_ended, .int x_result, .int x_steps, .int x_emits, .ref q_emitted, .ref q_locals, .ref q_stack, .int x_top, .int x_at])), (q_flatOp, .inl (cI, 1600, .inl (upd (upd (upd fo fq 1) (fq + 1) 9) ((fq + 1) + 1) 5))), (q_flatArg, .inl (cI, 1600, .inl (upd (upd (upd fa fq v) (fq + 1) 0) ((fq + 1) + 1) 0)))]) (wr := []) (k_runV (q0 := 0) (As := [.int 5, .int 0]) (rest := []) (n := 2) S (c_MO_write l D cI cZ a q_op q_arg q_handler q_depth q_over q_flatOp q_flatArg q_flatHandler q_leader q_last q_height q_state q_begin q_drawn q_order q_starters q_emitted q_locals q_stack x_count x_handlers x_flatHandlers x_blockCount x_g x_ran x_ended x_result x_steps x_emits x_top x_at ((fq + 1) + 1) (upd (upd fo fq 1) (fq + 1) 9) (upd (upd fa fq v) (fq + 1) 0) 5 0 (by omega)) E0_b E0_t ql_MO_160 qi_MO_write qs_MO_write qn_MO qc_MO_write (by decide +kernel) rfl ⟨rfl, rfl⟩ ⟨Nat.le_of_ble_eq_true rfl, Nat.le_of_ble_eq_true rfl⟩ hK hP hD [0, 1, 2] rfl (by decide) rfl rfl hl.1 rfl (Nat.le_of_ble_eq_true rfl) d_MO_square_16 ⟨Nat.zero_le _, Nat.zero_le _⟩) hP hD hS hA [0, 1, 2] [] [0, 1, 2] rfl rfl (by decide) (by decide) rfl (by decide) (fun H locs hP hD hS => ?_)
  exact k_vret hx hb hr hlocks hK hP hD hS (by rw [f_MO_square]) d_MO_square_19

theorem d_MO_lead_0 : decode b_MO_lead 0 = .ok (.aload_n 0, 1) := by decide +kernel
theorem d_MO_lead_1 : decode b_MO_lead 1 = .ok (.getfield 41, 3) := by decide +kernel
theorem d_MO_lead_4 : decode b_MO_lead 4 = .ok (.iload_n 2, 1) := by decide +kernel
theorem d_MO_lead_5 : decode b_MO_lead 5 = .ok (.iaload, 1) := by decide +kernel
theorem d_MO_lead_6 : decode b_MO_lead 6 = .ok (.istore_n 3, 1) := by decide +kernel
theorem d_MO_lead_7 : decode b_MO_lead 7 = .ok (.iload_n 3, 1) := by decide +kernel
theorem d_MO_lead_8 : decode b_MO_lead 8 = .ok (.ifCond .le 17, 3) := by decide +kernel
theorem d_MO_lead_11 : decode b_MO_lead 11 = .ok (.aload_n 0, 1) := by decide +kernel
theorem d_MO_lead_12 : decode b_MO_lead 12 = .ok (.iconst 2, 1) := by decide +kernel
theorem d_MO_lead_13 : decode b_MO_lead 13 = .ok (.iconst 4, 1) := by decide +kernel
theorem d_MO_lead_14 : decode b_MO_lead 14 = .ok (.iload_n 3, 1) := by decide +kernel
theorem d_MO_lead_15 : decode b_MO_lead 15 = .ok (.iadd, 1) := by decide +kernel
theorem d_MO_lead_16 : decode b_MO_lead 16 = .ok (.invokevirtual 160, 3) := by decide +kernel
theorem d_MO_lead_19 : decode b_MO_lead 19 = .ok (.iinc 3 (-1), 3) := by decide +kernel
theorem d_MO_lead_22 : decode b_MO_lead 22 = .ok (.goto (-15), 3) := by decide +kernel
theorem d_MO_lead_25 : decode b_MO_lead 25 = .ok (.aload_n 0, 1) := by decide +kernel
theorem d_MO_lead_26 : decode b_MO_lead 26 = .ok (.iconst 1, 1) := by decide +kernel
theorem d_MO_lead_27 : decode b_MO_lead 27 = .ok (.iconst 4, 1) := by decide +kernel
theorem d_MO_lead_28 : decode b_MO_lead 28 = .ok (.invokevirtual 160, 3) := by decide +kernel
theorem d_MO_lead_31 : decode b_MO_lead 31 = .ok (.aload_n 0, 1) := by decide +kernel
theorem d_MO_lead_32 : decode b_MO_lead 32 = .ok (.iconst 0, 1) := by decide +kernel
theorem d_MO_lead_33 : decode b_MO_lead 33 = .ok (.aload_n 0, 1) := by decide +kernel
theorem d_MO_lead_34 : decode b_MO_lead 34 = .ok (.getfield 44, 3) := by decide +kernel
theorem d_MO_lead_37 : decode b_MO_lead 37 = .ok (.iload_n 1, 1) := by decide +kernel
theorem d_MO_lead_38 : decode b_MO_lead 38 = .ok (.iaload, 1) := by decide +kernel
theorem d_MO_lead_39 : decode b_MO_lead 39 = .ok (.aload_n 0, 1) := by decide +kernel
theorem d_MO_lead_40 : decode b_MO_lead 40 = .ok (.getfield 44, 3) := by decide +kernel
theorem d_MO_lead_43 : decode b_MO_lead 43 = .ok (.iload_n 2, 1) := by decide +kernel
theorem d_MO_lead_44 : decode b_MO_lead 44 = .ok (.iaload, 1) := by decide +kernel
theorem d_MO_lead_45 : decode b_MO_lead 45 = .ok (.ixor, 1) := by decide +kernel
theorem d_MO_lead_46 : decode b_MO_lead 46 = .ok (.invokevirtual 160, 3) := by decide +kernel
theorem d_MO_lead_49 : decode b_MO_lead 49 = .ok (.aload_n 0, 1) := by decide +kernel
theorem d_MO_lead_50 : decode b_MO_lead 50 = .ok (.bipush 8, 2) := by decide +kernel
theorem d_MO_lead_52 : decode b_MO_lead 52 = .ok (.iconst 0, 1) := by decide +kernel
theorem d_MO_lead_53 : decode b_MO_lead 53 = .ok (.invokevirtual 160, 3) := by decide +kernel
theorem d_MO_lead_56 : decode b_MO_lead 56 = .ok (.aload_n 0, 1) := by decide +kernel
theorem d_MO_lead_57 : decode b_MO_lead 57 = .ok (.iconst 2, 1) := by decide +kernel
theorem d_MO_lead_58 : decode b_MO_lead 58 = .ok (.iconst 4, 1) := by decide +kernel
theorem d_MO_lead_59 : decode b_MO_lead 59 = .ok (.invokevirtual 160, 3) := by decide +kernel
theorem d_MO_lead_62 : decode b_MO_lead 62 = .ok (.aload_n 0, 1) := by decide +kernel
theorem d_MO_lead_63 : decode b_MO_lead 63 = .ok (.bipush 13, 2) := by decide +kernel
theorem d_MO_lead_65 : decode b_MO_lead 65 = .ok (.iconst 2, 1) := by decide +kernel
theorem d_MO_lead_66 : decode b_MO_lead 66 = .ok (.invokevirtual 160, 3) := by decide +kernel
theorem d_MO_lead_69 : decode b_MO_lead 69 = .ok (.return_, 1) := by decide +kernel
def lp_MO_lead  : Nat → Nat → (Nat → Int32) → (Nat → Int32) → Nat → (Nat → Int32) × (Nat → Int32) × Nat
  | 0, h, fo1, fa1, fq1 => (fo1, fa1, fq1)
  | kf + 1, h, fo1, fa1, fq1 => (lp_MO_lead kf (h - 1) (upd fo1 fq1 2) (upd fa1 fq1 (nI (4 + h))) (fq1 + 1))
def f_MO_lead (fq : Nat) (fo : Nat → Int32) (fa : Nat → Int32) (b : Nat) (t : Nat) (he : Nat → Int32) (st : Nat → Int32) : Nat × (Nat → Int32) × (Nat → Int32) := ((((((fq + tn (he t)) + 1) + 1) + 1) + 1) + 1, upd (upd (upd (upd (upd ((lp_MO_lead (tn (he t)) (tn (he t)) fo fa fq).1) (fq + tn (he t)) 1) ((fq + tn (he t)) + 1) 0) (((fq + tn (he t)) + 1) + 1) 8) ((((fq + tn (he t)) + 1) + 1) + 1) 2) (((((fq + tn (he t)) + 1) + 1) + 1) + 1) 13, upd (upd (upd (upd (upd ((lp_MO_lead (tn (he t)) (tn (he t)) fo fa fq).2.1) (fq + tn (he t)) 4) ((fq + tn (he t)) + 1) ((st b) ^^^ (st t))) (((fq + tn (he t)) + 1) + 1) 0) ((((fq + tn (he t)) + 1) + 1) + 1) 4) (((((fq + tn (he t)) + 1) + 1) + 1) + 1) 2)
theorem lead_cnt : ∀ (kf h : Nat) (fo fa : Nat → Int32) (fq : Nat), (lp_MO_lead kf h fo fa fq).2.2 = fq + kf := by
  intro kf
  induction kf with
  | zero => intro h fo fa fq; rfl
  | succ kf ih => intro h fo fa fq; rw [lp_MO_lead, ih]; omega
set_option maxHeartbeats 1000000 in
set_option maxRecDepth 100000 in
theorem c_MO_lead (l : Launch) (D : va_G) (cI cZ : ClassId) (a q_op q_arg q_handler q_depth q_over q_flatOp q_flatArg q_flatHandler q_leader q_last q_height q_state q_begin q_drawn q_order q_starters q_emitted q_locals q_stack : Nat) (x_count x_handlers x_flatHandlers x_blockCount x_g x_ran x_ended x_result x_steps x_emits x_top x_at : Int32) (fq : Nat) (fo fa : Nat → Int32) (b t : Nat) (he st : Nat → Int32) (hb : b < 32) (ht : t < 32) (hhe : Nn he t 5) (hfq : fq + 9 ≤ 1600) : MG l y_MO_lead w_MO_lead (rmK 1 22) D classes (tyz cI cZ) E0 [.ref a, .int (nI b), .int (nI t)] [(a, .inr (7, [.int x_count, .ref q_op, .ref q_arg, .int x_handlers, .ref q_handler, .ref q_depth, .ref q_over, .int (nI fq), .ref q_flatOp, .ref q_flatArg, .int x_flatHandlers, .ref q_flatHandler, .int x_blockCount, .ref q_leader, .ref q_last, .ref q_height, .ref q_state, .ref q_begin, .ref q_drawn, .ref q_order, .int x_g, .ref q_starters, .int x_ran, .int x_ended, .int x_result, .int x_steps, .int x_emits, .ref q_emitted, .ref q_locals, .ref q_stack, .int x_top, .int x_at])), (q_flatOp, .inl (cI, 1600, .inl fo)), (q_flatArg, .inl (cI, 1600, .inl fa)), (q_height, .inl (cI, 32, .inl he)), (q_state, .inl (cI, 32, .inl st))] (RV D classes (tyz cI cZ) [(a, .inr (7, [.int x_count, .ref q_op, .ref q_arg, .int x_handlers, .ref q_handler, .ref q_depth, .ref q_over, .int (nI ((f_MO_lead fq fo fa b t he st).1)), .ref q_flatOp, .ref q_flatArg, .int x_flatHandlers, .ref q_flatHandler, .int x_blockCount, .ref q_leader, .ref q_last, .ref q_height, .ref q_state, .ref q_begin, .ref q_drawn, .ref q_order, .int x_g, .ref q_starters, .int x_ran, .int x_ended, .int x_result, .int x_steps, .int x_emits, .ref q_emitted, .ref q_locals, .ref q_stack, .int x_top, .int x_at])), (q_flatOp, .inl (cI, 1600, .inl ((f_MO_lead fq fo fa b t he st).2.1))), (q_flatArg, .inl (cI, 1600, .inl ((f_MO_lead fq fo fa b t he st).2.2))), (q_height, .inl (cI, 32, .inl he)), (q_state, .inl (cI, 32, .inl st))]) := by
  refine MG.of (cc := b_MO_lead) (maxL := 4) (ret := none) (own := "FlowFlattenerModel") rfl (by decide) rfl (Nat.le_of_ble_eq_true rfl) ?_
  intro p e s m below meth c A ls S hr hlocks hA hP hK hD hS hE hl
  have hx := S.1
  have hb := S.2.1
  have hl : lv_has ls 4 [(0, .ref a), (1, .int (nI b)), (2, .int (nI t))] := hl
  refine lv_aload_n hx hb d_MO_lead_0 rfl (lv_at hl 0 rfl) ?_
  refine k_get (v := .ref q_height) S in_MO hK hP 0 rfl rfl 15 (by decide) ql_MO_41 rfl d_MO_lead_1 ?_
  refine lv_iload_n hx hb d_MO_lead_4 rfl (lv_at hl 2 rfl) ?_
  refine k_ld (k := t) hx hb hK hP 3 0 rfl rfl rfl (by omega) (by decide) d_MO_lead_5 ?_
  refine k_top (y := nI (tn (he t))) hhe.1 ?_
  refine lv_istore_n (lv' := [(3, .int (nI (tn (he t)))), (0, .ref a), (1, .int (nI b)), (2, .int (nI t))]) hx hb d_MO_lead_6 rfl hl (by decide) rfl (fun ls hl => ?_)
  have LP7 : ∀ (kf : Nat) (h : Nat) (fo1 : Nat → Int32) (fa1 : Nat → Int32) (fq1 : Nat), (h = kf) → (fq1 + kf + 5 ≤ 1600) → ∀ (ls : Array Slot) (H : Heap) (locs : List Loc), lv_has ls 4 [(0, .ref a), (1, .int (nI b)), (2, .int (nI t)), (3, .int (nI h))] → va_P D classes [(a, .inr (7, [.int x_count, .ref q_op, .ref q_arg, .int x_handlers, .ref q_handler, .ref q_depth, .ref q_over, .int (nI fq1), .ref q_flatOp, .ref q_flatArg, .int x_flatHandlers, .ref q_flatHandler, .int x_blockCount, .ref q_leader, .ref q_last, .ref q_height, .ref q_state, .ref q_begin, .ref q_drawn, .ref q_order, .int x_g, .ref q_starters, .int x_ran, .int x_ended, .int x_result, .int x_steps, .int x_emits, .ref q_emitted, .ref q_locals, .ref q_stack, .int x_top, .int x_at])), (q_flatOp, .inl (cI, 1600, .inl fo1)), (q_flatArg, .inl (cI, 1600, .inl fa1)), (q_height, .inl (cI, 32, .inl he)), (q_state, .inl (cI, 32, .inl st))] H → va_D A [(a, .inr (7, [.int x_count, .ref q_op, .ref q_arg, .int x_handlers, .ref q_handler, .ref q_depth, .ref q_over, .int (nI fq1), .ref q_flatOp, .ref q_flatArg, .int x_flatHandlers, .ref q_flatHandler, .int x_blockCount, .ref q_leader, .ref q_last, .ref q_height, .ref q_state, .ref q_begin, .ref q_drawn, .ref q_order, .int x_g, .ref q_starters, .int x_ran, .int x_ended, .int x_result, .int x_steps, .int x_emits, .ref q_emitted, .ref q_locals, .ref q_stack, .int x_top, .int x_at])), (q_flatOp, .inl (cI, 1600, .inl fo1)), (q_flatArg, .inl (cI, 1600, .inl fa1)), (q_height, .inl (cI, 32, .inl he)), (q_state, .inl (cI, 32, .inl st))] → va_S A s.heap H locs → (∀ (ls : Array Slot) (H : Heap) (locs : List Loc), lv_has ls 4 [(0, .ref a), (1, .int (nI b)), (2, .int (nI t))] → va_P D classes [(a, .inr (7, [.int x_count, .ref q_op, .ref q_arg, .int x_handlers, .ref q_handler, .ref q_depth, .ref q_over, .int (nI ((lp_MO_lead kf h fo1 fa1 fq1).2.2)), .ref q_flatOp, .ref q_flatArg, .int x_flatHandlers, .ref q_flatHandler, .int x_blockCount, .ref q_leader, .ref q_last, .ref q_height, .ref q_state, .ref q_begin, .ref q_drawn, .ref q_order, .int x_g, .ref q_starters, .int x_ran, .int x_ended, .int x_result, .int x_steps, .int x_emits, .ref q_emitted, .ref q_locals, .ref q_stack, .int x_top, .int x_at])), (q_flatOp, .inl (cI, 1600, .inl ((lp_MO_lead kf h fo1 fa1 fq1).1))), (q_flatArg, .inl (cI, 1600, .inl ((lp_MO_lead kf h fo1 fa1 fq1).2.1))), (q_height, .inl (cI, 32, .inl he)), (q_state, .inl (cI, 32, .inl st))] H → va_D A [(a, .inr (7, [.int x_count, .ref q_op, .ref q_arg, .int x_handlers, .ref q_handler, .ref q_depth, .ref q_over, .int (nI ((lp_MO_lead kf h fo1 fa1 fq1).2.2)), .ref q_flatOp, .ref q_flatArg, .int x_flatHandlers, .ref q_flatHandler, .int x_blockCount, .ref q_leader, .ref q_last, .ref q_height, .ref q_state, .ref q_begin, .ref q_drawn, .ref q_order, .int x_g, .ref q_starters, .int x_ran, .int x_ended, .int x_result, .int x_steps, .int x_emits, .ref q_emitted, .ref q_locals, .ref q_stack, .int x_top, .int x_at])), (q_flatOp, .inl (cI, 1600, .inl ((lp_MO_lead kf h fo1 fa1 fq1).1))), (q_flatArg, .inl (cI, 1600, .inl ((lp_MO_lead kf h fo1 fa1 fq1).2.1))), (q_height, .inl (cI, 32, .inl he)), (q_state, .inl (cI, 32, .inl st))] → va_S A s.heap H locs → W p l e (rmK 1 22) s m [.ref a, .int (nI b), .int (nI t)].toArray below meth c H locs 0 0 (MQ below (RV D classes (tyz cI cZ) [(a, .inr (7, [.int x_count, .ref q_op, .ref q_arg, .int x_handlers, .ref q_handler, .ref q_depth, .ref q_over, .int (nI ((f_MO_lead fq fo fa b t he st).1)), .ref q_flatOp, .ref q_flatArg, .int x_flatHandlers, .ref q_flatHandler, .int x_blockCount, .ref q_leader, .ref q_last, .ref q_height, .ref q_state, .ref q_begin, .ref q_drawn, .ref q_order, .int x_g, .ref q_starters, .int x_ran, .int x_ended, .int x_result, .int x_steps, .int x_emits, .ref q_emitted, .ref q_locals, .ref q_stack, .int x_top, .int x_at])), (q_flatOp, .inl (cI, 1600, .inl ((f_MO_lead fq fo fa b t he st).2.1))), (q_flatArg, .inl (cI, 1600, .inl ((f_MO_lead fq fo fa b t he st).2.2))), (q_height, .inl (cI, 32, .inl he)), (q_state, .inl (cI, 32, .inl st))] A) [.ref a, .int (nI b), .int (nI t)].toArray s 0 0 A) (F0 m 25 ls [])) → W p l e (rmK 1 22) s m [.ref a, .int (nI b), .int (nI t)].toArray below meth c H locs 0 0 (MQ below (RV D classes (tyz cI cZ) [(a, .inr (7, [.int x_count, .ref q_op, .ref q_arg, .int x_handlers, .ref q_handler, .ref q_depth, .ref q_over, .int (nI ((f_MO_lead fq fo fa b t he st).1)), .ref q_flatOp, .ref q_flatArg, .int x_flatHandlers, .ref q_flatHandler, .int x_blockCount, .ref q_leader, .ref q_last, .ref q_height, .ref q_state, .ref q_begin, .ref q_drawn, .ref q_order, .int x_g, .ref q_starters, .int x_ran, .int x_ended, .int x_result, .int x_steps, .int x_emits, .ref q_emitted, .ref q_locals, .ref q_stack, .int x_top, .int x_at])), (q_flatOp, .inl (cI, 1600, .inl ((f_MO_lead fq fo fa b t he st).2.1))), (q_flatArg, .inl (cI, 1600, .inl ((f_MO_lead fq fo fa b t he st).2.2))), (q_height, .inl (cI, 32, .inl he)), (q_state, .inl (cI, 32, .inl st))] A) [.ref a, .int (nI b), .int (nI t)].toArray s 0 0 A) (F0 m 7 ls []) := by
    intro kf
    induction kf with
    | zero =>
      intro h fo1 fa1 fq1 hk hfb ls H locs hl hP hD hS kk
      refine lv_iload_n hx hb d_MO_lead_7 rfl (lv_at hl 3 rfl) ?_
      refine n_if_le (tgt := 25) hx hb (by omega) d_MO_lead_8 (by decide) (fun h8_1 => ?_) (fun h8_1 => absurd h8_1 (by omega))
      have e9 : lp_MO_lead 0 h fo1 fa1 fq1 = (fo1, fa1, fq1) := by rw [lp_MO_lead]
      rw [e9] at kk
      exact kk _ _ _ (lv_sub hl [0, 1, 2] rfl) hP hD hS
    | succ kf ih =>
      intro h fo1 fa1 fq1 hk hfb ls H locs hl hP hD hS kk
      refine lv_iload_n hx hb d_MO_lead_7 rfl (lv_at hl 3 rfl) ?_
      refine n_if_le (tgt := 25) hx hb (by omega) d_MO_lead_8 (by decide) (fun h8_2 => absurd h8_2 (by omega)) (fun h8_2 => ?_)
      refine lv_aload_n hx hb d_MO_lead_11 rfl (lv_at hl 0 rfl) ?_
      refine lv_iconst (v := 2) hx hb d_MO_lead_12 (by decide) ?_
      refine lv_iconst (v := 4) hx hb d_MO_lead_13 (by decide) ?_
      refine lv_iload_n hx hb d_MO_lead_14 rfl (lv_at hl 3 rfl) ?_
      refine lv_iadd hx hb d_MO_lead_15 ?_
      refine k_top (y := nI (4 + h)) (nc_add (by decide) rfl) ?_
      refine k_gov (ws' := [(a, .inr (7, [.int x_count, .ref q_op, .ref q_arg, .int x_handlers, .ref q_handler, .ref q_depth, .ref q_over, .int (nI (fq1 + 1)), .ref q_flatOp, .ref q_flatArg, .int x_flatHandlers, .ref q_flatHandler, .int x_blockCount, .ref q_leader, .ref q_last, .ref q_height, .ref q_state, .ref q_begin, .ref q_drawn, .ref q_order, .int x_g, .ref q_starters, .int x_ran, .int x_ended, .int x_result, .int x_steps, .int x_emits, .ref q_emitted, .ref q_locals, .ref q_stack, .int x_top, .int x_at])), (q_flatOp, .inl (cI, 1600, .inl (upd fo1 fq1 2))), (q_flatArg, .inl (cI, 1600, .inl (upd fa1 fq1 (nI (4 + h))))), (q_height, .inl (cI, 32, .inl he)), (q_state, .inl (cI, 32, .inl st))]) (wr := [(q_height, .inl (cI, 32, .inl he)), (q_state, .inl (cI, 32, .inl st))]) (k_runV (q0 := 0) (As := [.int 2, .int (nI (4 + h))]) (rest := []) (n := 2) S (c_MO_write l D cI cZ a q_op q_arg q_handler q_depth q_over q_flatOp q_flatArg q_flatHandler q_leader q_last q_height q_state q_begin q_drawn q_order q_starters q_emitted q_locals q_stack x_count x_handlers x_flatHandlers x_blockCount x_g x_ran x_ended x_result x_steps x_emits x_top x_at fq1 fo1 fa1 2 (nI (4 + h)) (by omega)) E0_b E0_t ql_MO_160 qi_MO_write qs_MO_write qn_MO qc_MO_write (by decide +kernel) rfl ⟨rfl, rfl⟩ ⟨Nat.le_of_ble_eq_true rfl, Nat.le_of_ble_eq_true rfl⟩ hK hP hD [0, 1, 2] rfl (by decide) rfl rfl hl.1 rfl (Nat.le_of_ble_eq_true rfl) d_MO_lead_16 ⟨Nat.zero_le _, Nat.zero_le _⟩) hP hD hS hA [0, 1, 2] [3, 4] [2, 3, 4, 0, 1] rfl rfl (by decide) (by decide) rfl (by decide) (fun H locs hP hD hS => ?_)
      refine lv_iinc (k := 3) (v := nI (h - 1)) (lv' := [(3, .int (nI (h - 1))), (0, .ref a), (1, .int (nI b)), (2, .int (nI t))]) hx hb d_MO_lead_19 hl rfl (nc_dec (by omega)) (by decide) rfl (fun ls hl => ?_)
      refine lv_goto (tgt := 7) hx hb d_MO_lead_22 (by decide) ?_
      have e9 : lp_MO_lead (kf + 1) h fo1 fa1 fq1 = lp_MO_lead kf (h - 1) (upd fo1 fq1 2) (upd fa1 fq1 (nI (4 + h))) (fq1 + 1) := by rw [lp_MO_lead]
      rw [e9] at kk
      exact ih (h - 1) (upd fo1 fq1 2) (upd fa1 fq1 (nI (4 + h))) (fq1 + 1) (by omega) (by omega) _ _ _ (lv_sub hl [1, 2, 3, 0] rfl) hP hD hS kk
  refine LP7 (tn (he t)) (tn (he t)) fo fa fq rfl (by have := hhe.2; omega) _ _ _ (lv_sub hl [1, 2, 3, 0] rfl) hP hD hS (fun ls H locs hl hP hD hS => ?_)
  rw [lead_cnt] at hP hD
  have h25 := hhe.2
  refine lv_aload_n hx hb d_MO_lead_25 rfl (lv_at hl 0 rfl) ?_
  refine lv_iconst (v := 1) hx hb d_MO_lead_26 (by decide) ?_
  refine lv_iconst (v := 4) hx hb d_MO_lead_27 (by decide) ?_
  refine k_gov (ws' := [(a, .inr (7, [.int x_count, .ref q_op, .ref q_arg, .int x_handlers, .ref q_handler, .ref q_depth, .ref q_over, .int (nI ((fq + tn (he t)) + 1)), .ref q_flatOp, .ref q_flatArg, .int x_flatHandlers, .ref q_flatHandler, .int x_blockCount, .ref q_leader, .ref q_last, .ref q_height, .ref q_state, .ref q_begin, .ref q_drawn, .ref q_order, .int x_g, .ref q_starters, .int x_ran, .int x_ended, .int x_result, .int x_steps, .int x_emits, .ref q_emitted, .ref q_locals, .ref q_stack, .int x_top, .int x_at])), (q_flatOp, .inl (cI, 1600, .inl (upd ((lp_MO_lead (tn (he t)) (tn (he t)) fo fa fq).1) (fq + tn (he t)) 1))), (q_flatArg, .inl (cI, 1600, .inl (upd ((lp_MO_lead (tn (he t)) (tn (he t)) fo fa fq).2.1) (fq + tn (he t)) 4))), (q_height, .inl (cI, 32, .inl he)), (q_state, .inl (cI, 32, .inl st))]) (wr := [(q_height, .inl (cI, 32, .inl he)), (q_state, .inl (cI, 32, .inl st))]) (k_runV (q0 := 0) (As := [.int 1, .int 4]) (rest := []) (n := 2) S (c_MO_write l D cI cZ a q_op q_arg q_handler q_depth q_over q_flatOp q_flatArg q_flatHandler q_leader q_last q_height q_state q_begin q_drawn q_order q_starters q_emitted q_locals q_stack x_count x_handlers x_flatHandlers x_blockCount x_g x_ran x_ended x_result x_steps x_emits x_top x_at (fq + tn (he t)) ((lp_MO_lead (tn (he t)) (tn (he t)) fo fa fq).1) ((lp_MO_lead (tn (he t)) (tn (he t)) fo fa fq).2.1) 1 4 (by omega)) E0_b E0_t ql_MO_160 qi_MO_write qs_MO_write qn_MO qc_MO_write (by decide +kernel) rfl ⟨rfl, rfl⟩ ⟨Nat.le_of_ble_eq_true rfl, Nat.le_of_ble_eq_true rfl⟩ hK hP hD [0, 1, 2] rfl (by decide) rfl rfl hl.1 rfl (Nat.le_of_ble_eq_true rfl) d_MO_lead_28 ⟨Nat.zero_le _, Nat.zero_le _⟩) hP hD hS hA [0, 1, 2] [3, 4] [2, 3, 4, 0, 1] rfl rfl (by decide) (by decide) rfl (by decide) (fun H locs hP hD hS => ?_)
  refine lv_aload_n hx hb d_MO_lead_31 rfl (lv_at hl 0 rfl) ?_
  refine lv_iconst (v := 0) hx hb d_MO_lead_32 (by decide) ?_
  refine lv_aload_n hx hb d_MO_lead_33 rfl (lv_at hl 0 rfl) ?_
  refine k_get (v := .ref q_state) S in_MO hK hP 0 rfl rfl 16 (by decide) ql_MO_44 rfl d_MO_lead_34 ?_
  refine lv_iload_n hx hb d_MO_lead_37 rfl (lv_at hl 1 rfl) ?_
  refine k_ld (k := b) hx hb hK hP 4 0 rfl rfl rfl (by omega) (by decide) d_MO_lead_38 ?_
  refine lv_aload_n hx hb d_MO_lead_39 rfl (lv_at hl 0 rfl) ?_
  refine k_get (v := .ref q_state) S in_MO hK hP 0 rfl rfl 16 (by decide) ql_MO_44 rfl d_MO_lead_40 ?_
  refine lv_iload_n hx hb d_MO_lead_43 rfl (lv_at hl 2 rfl) ?_
  refine k_ld (k := t) hx hb hK hP 4 0 rfl rfl rfl (by omega) (by decide) d_MO_lead_44 ?_
  refine lv_ixor hx hb d_MO_lead_45 ?_
  refine k_gov (ws' := [(a, .inr (7, [.int x_count, .ref q_op, .ref q_arg, .int x_handlers, .ref q_handler, .ref q_depth, .ref q_over, .int (nI (((fq + tn (he t)) + 1) + 1)), .ref q_flatOp, .ref q_flatArg, .int x_flatHandlers, .ref q_flatHandler, .int x_blockCount, .ref q_leader, .ref q_last, .ref q_height, .ref q_state, .ref q_begin, .ref q_drawn, .ref q_order, .int x_g, .ref q_starters, .int x_ran, .int x_ended, .int x_result, .int x_steps, .int x_emits, .ref q_emitted, .ref q_locals, .ref q_stack, .int x_top, .int x_at])), (q_flatOp, .inl (cI, 1600, .inl (upd (upd ((lp_MO_lead (tn (he t)) (tn (he t)) fo fa fq).1) (fq + tn (he t)) 1) ((fq + tn (he t)) + 1) 0))), (q_flatArg, .inl (cI, 1600, .inl (upd (upd ((lp_MO_lead (tn (he t)) (tn (he t)) fo fa fq).2.1) (fq + tn (he t)) 4) ((fq + tn (he t)) + 1) ((st b) ^^^ (st t))))), (q_height, .inl (cI, 32, .inl he)), (q_state, .inl (cI, 32, .inl st))]) (wr := [(q_height, .inl (cI, 32, .inl he)), (q_state, .inl (cI, 32, .inl st))]) (k_runV (q0 := 0) (As := [.int 0, .int ((st b) ^^^ (st t))]) (rest := []) (n := 2) S (c_MO_write l D cI cZ a q_op q_arg q_handler q_depth q_over q_flatOp q_flatArg q_flatHandler q_leader q_last q_height q_state q_begin q_drawn q_order q_starters q_emitted q_locals q_stack x_count x_handlers x_flatHandlers x_blockCount x_g x_ran x_ended x_result x_steps x_emits x_top x_at ((fq + tn (he t)) + 1) (upd ((lp_MO_lead (tn (he t)) (tn (he t)) fo fa fq).1) (fq + tn (he t)) 1) (upd ((lp_MO_lead (tn (he t)) (tn (he t)) fo fa fq).2.1) (fq + tn (he t)) 4) 0 ((st b) ^^^ (st t)) (by omega)) E0_b E0_t ql_MO_160 qi_MO_write qs_MO_write qn_MO qc_MO_write (by decide +kernel) rfl ⟨rfl, rfl⟩ ⟨Nat.le_of_ble_eq_true rfl, Nat.le_of_ble_eq_true rfl⟩ hK hP hD [0, 1, 2] rfl (by decide) rfl rfl hl.1 rfl (Nat.le_of_ble_eq_true rfl) d_MO_lead_46 ⟨Nat.zero_le _, Nat.zero_le _⟩) hP hD hS hA [0, 1, 2] [3, 4] [2, 3, 4, 0, 1] rfl rfl (by decide) (by decide) rfl (by decide) (fun H locs hP hD hS => ?_)
  refine lv_aload_n hx hb d_MO_lead_49 rfl (lv_at hl 0 rfl) ?_
  refine lv_bipush (v := 8) hx hb d_MO_lead_50 (by decide) ?_
  refine lv_iconst (v := 0) hx hb d_MO_lead_52 (by decide) ?_
  refine k_gov (ws' := [(a, .inr (7, [.int x_count, .ref q_op, .ref q_arg, .int x_handlers, .ref q_handler, .ref q_depth, .ref q_over, .int (nI ((((fq + tn (he t)) + 1) + 1) + 1)), .ref q_flatOp, .ref q_flatArg, .int x_flatHandlers, .ref q_flatHandler, .int x_blockCount, .ref q_leader, .ref q_last, .ref q_height, .ref q_state, .ref q_begin, .ref q_drawn, .ref q_order, .int x_g, .ref q_starters, .int x_ran, .int x_ended, .int x_result, .int x_steps, .int x_emits, .ref q_emitted, .ref q_locals, .ref q_stack, .int x_top, .int x_at])), (q_flatOp, .inl (cI, 1600, .inl (upd (upd (upd ((lp_MO_lead (tn (he t)) (tn (he t)) fo fa fq).1) (fq + tn (he t)) 1) ((fq + tn (he t)) + 1) 0) (((fq + tn (he t)) + 1) + 1) 8))), (q_flatArg, .inl (cI, 1600, .inl (upd (upd (upd ((lp_MO_lead (tn (he t)) (tn (he t)) fo fa fq).2.1) (fq + tn (he t)) 4) ((fq + tn (he t)) + 1) ((st b) ^^^ (st t))) (((fq + tn (he t)) + 1) + 1) 0))), (q_height, .inl (cI, 32, .inl he)), (q_state, .inl (cI, 32, .inl st))]) (wr := [(q_height, .inl (cI, 32, .inl he)), (q_state, .inl (cI, 32, .inl st))]) (k_runV (q0 := 0) (As := [.int 8, .int 0]) (rest := []) (n := 2) S (c_MO_write l D cI cZ a q_op q_arg q_handler q_depth q_over q_flatOp q_flatArg q_flatHandler q_leader q_last q_height q_state q_begin q_drawn q_order q_starters q_emitted q_locals q_stack x_count x_handlers x_flatHandlers x_blockCount x_g x_ran x_ended x_result x_steps x_emits x_top x_at (((fq + tn (he t)) + 1) + 1) (upd (upd ((lp_MO_lead (tn (he t)) (tn (he t)) fo fa fq).1) (fq + tn (he t)) 1) ((fq + tn (he t)) + 1) 0) (upd (upd ((lp_MO_lead (tn (he t)) (tn (he t)) fo fa fq).2.1) (fq + tn (he t)) 4) ((fq + tn (he t)) + 1) ((st b) ^^^ (st t))) 8 0 (by omega)) E0_b E0_t ql_MO_160 qi_MO_write qs_MO_write qn_MO qc_MO_write (by decide +kernel) rfl ⟨rfl, rfl⟩ ⟨Nat.le_of_ble_eq_true rfl, Nat.le_of_ble_eq_true rfl⟩ hK hP hD [0, 1, 2] rfl (by decide) rfl rfl hl.1 rfl (Nat.le_of_ble_eq_true rfl) d_MO_lead_53 ⟨Nat.zero_le _, Nat.zero_le _⟩) hP hD hS hA [0, 1, 2] [3, 4] [2, 3, 4, 0, 1] rfl rfl (by decide) (by decide) rfl (by decide) (fun H locs hP hD hS => ?_)
  refine lv_aload_n hx hb d_MO_lead_56 rfl (lv_at hl 0 rfl) ?_
  refine lv_iconst (v := 2) hx hb d_MO_lead_57 (by decide) ?_
  refine lv_iconst (v := 4) hx hb d_MO_lead_58 (by decide) ?_
  refine k_gov (ws' := [(a, .inr (7, [.int x_count, .ref q_op, .ref q_arg, .int x_handlers, .ref q_handler, .ref q_depth, .ref q_over, .int (nI (((((fq + tn (he t)) + 1) + 1) + 1) + 1)), .ref q_flatOp, .ref q_flatArg, .int x_flatHandlers, .ref q_flatHandler, .int x_blockCount, .ref q_leader, .ref q_last, .ref q_height, .ref q_state, .ref q_begin, .ref q_drawn, .ref q_order, .int x_g, .ref q_starters, .int x_ran, .int x_ended, .int x_result, .int x_steps, .int x_emits, .ref q_emitted, .ref q_locals, .ref q_stack, .int x_top, .int x_at])), (q_flatOp, .inl (cI, 1600, .inl (upd (upd (upd (upd ((lp_MO_lead (tn (he t)) (tn (he t)) fo fa fq).1) (fq + tn (he t)) 1) ((fq + tn (he t)) + 1) 0) (((fq + tn (he t)) + 1) + 1) 8) ((((fq + tn (he t)) + 1) + 1) + 1) 2))), (q_flatArg, .inl (cI, 1600, .inl (upd (upd (upd (upd ((lp_MO_lead (tn (he t)) (tn (he t)) fo fa fq).2.1) (fq + tn (he t)) 4) ((fq + tn (he t)) + 1) ((st b) ^^^ (st t))) (((fq + tn (he t)) + 1) + 1) 0) ((((fq + tn (he t)) + 1) + 1) + 1) 4))), (q_height, .inl (cI, 32, .inl he)), (q_state, .inl (cI, 32, .inl st))]) (wr := [(q_height, .inl (cI, 32, .inl he)), (q_state, .inl (cI, 32, .inl st))]) (k_runV (q0 := 0) (As := [.int 2, .int 4]) (rest := []) (n := 2) S (c_MO_write l D cI cZ a q_op q_arg q_handler q_depth q_over q_flatOp q_flatArg q_flatHandler q_leader q_last q_height q_state q_begin q_drawn q_order q_starters q_emitted q_locals q_stack x_count x_handlers x_flatHandlers x_blockCount x_g x_ran x_ended x_result x_steps x_emits x_top x_at ((((fq + tn (he t)) + 1) + 1) + 1) (upd (upd (upd ((lp_MO_lead (tn (he t)) (tn (he t)) fo fa fq).1) (fq + tn (he t)) 1) ((fq + tn (he t)) + 1) 0) (((fq + tn (he t)) + 1) + 1) 8) (upd (upd (upd ((lp_MO_lead (tn (he t)) (tn (he t)) fo fa fq).2.1) (fq + tn (he t)) 4) ((fq + tn (he t)) + 1) ((st b) ^^^ (st t))) (((fq + tn (he t)) + 1) + 1) 0) 2 4 (by omega)) E0_b E0_t ql_MO_160 qi_MO_write qs_MO_write qn_MO qc_MO_write (by decide +kernel) rfl ⟨rfl, rfl⟩ ⟨Nat.le_of_ble_eq_true rfl, Nat.le_of_ble_eq_true rfl⟩ hK hP hD [0, 1, 2] rfl (by decide) rfl rfl hl.1 rfl (Nat.le_of_ble_eq_true rfl) d_MO_lead_59 ⟨Nat.zero_le _, Nat.zero_le _⟩) hP hD hS hA [0, 1, 2] [3, 4] [2, 3, 4, 0, 1] rfl rfl (by decide) (by decide) rfl (by decide) (fun H locs hP hD hS => ?_)
  refine lv_aload_n hx hb d_MO_lead_62 rfl (lv_at hl 0 rfl) ?_
  refine lv_bipush (v := 13) hx hb d_MO_lead_63 (by decide) ?_
  refine lv_iconst (v := 2) hx hb d_MO_lead_65 (by decide) ?_
  refine k_gov (ws' := [(a, .inr (7, [.int x_count, .ref q_op, .ref q_arg, .int x_handlers, .ref q_handler, .ref q_depth, .ref q_over, .int (nI ((((((fq + tn (he t)) + 1) + 1) + 1) + 1) + 1)), .ref q_flatOp, .ref q_flatArg, .int x_flatHandlers, .ref q_flatHandler, .int x_blockCount, .ref q_leader, .ref q_last, .ref q_height, .ref q_state, .ref q_begin, .ref q_drawn, .ref q_order, .int x_g, .ref q_starters, .int x_ran, .int x_ended, .int x_result, .int x_steps, .int x_emits, .ref q_emitted, .ref q_locals, .ref q_stack, .int x_top, .int x_at])), (q_flatOp, .inl (cI, 1600, .inl (upd (upd (upd (upd (upd ((lp_MO_lead (tn (he t)) (tn (he t)) fo fa fq).1) (fq + tn (he t)) 1) ((fq + tn (he t)) + 1) 0) (((fq + tn (he t)) + 1) + 1) 8) ((((fq + tn (he t)) + 1) + 1) + 1) 2) (((((fq + tn (he t)) + 1) + 1) + 1) + 1) 13))), (q_flatArg, .inl (cI, 1600, .inl (upd (upd (upd (upd (upd ((lp_MO_lead (tn (he t)) (tn (he t)) fo fa fq).2.1) (fq + tn (he t)) 4) ((fq + tn (he t)) + 1) ((st b) ^^^ (st t))) (((fq + tn (he t)) + 1) + 1) 0) ((((fq + tn (he t)) + 1) + 1) + 1) 4) (((((fq + tn (he t)) + 1) + 1) + 1) + 1) 2))), (q_height, .inl (cI, 32, .inl he)), (q_state, .inl (cI, 32, .inl st))]) (wr := [(q_height, .inl (cI, 32, .inl he)), (q_state, .inl (cI, 32, .inl st))]) (k_runV (q0 := 0) (As := [.int 13, .int 2]) (rest := []) (n := 2) S (c_MO_write l D cI cZ a q_op q_arg q_handler q_depth q_over q_flatOp q_flatArg q_flatHandler q_leader q_last q_height q_state q_begin q_drawn q_order q_starters q_emitted q_locals q_stack x_count x_handlers x_flatHandlers x_blockCount x_g x_ran x_ended x_result x_steps x_emits x_top x_at (((((fq + tn (he t)) + 1) + 1) + 1) + 1) (upd (upd (upd (upd ((lp_MO_lead (tn (he t)) (tn (he t)) fo fa fq).1) (fq + tn (he t)) 1) ((fq + tn (he t)) + 1) 0) (((fq + tn (he t)) + 1) + 1) 8) ((((fq + tn (he t)) + 1) + 1) + 1) 2) (upd (upd (upd (upd ((lp_MO_lead (tn (he t)) (tn (he t)) fo fa fq).2.1) (fq + tn (he t)) 4) ((fq + tn (he t)) + 1) ((st b) ^^^ (st t))) (((fq + tn (he t)) + 1) + 1) 0) ((((fq + tn (he t)) + 1) + 1) + 1) 4) 13 2 (by omega)) E0_b E0_t ql_MO_160 qi_MO_write qs_MO_write qn_MO qc_MO_write (by decide +kernel) rfl ⟨rfl, rfl⟩ ⟨Nat.le_of_ble_eq_true rfl, Nat.le_of_ble_eq_true rfl⟩ hK hP hD [0, 1, 2] rfl (by decide) rfl rfl hl.1 rfl (Nat.le_of_ble_eq_true rfl) d_MO_lead_66 ⟨Nat.zero_le _, Nat.zero_le _⟩) hP hD hS hA [0, 1, 2] [3, 4] [2, 3, 4, 0, 1] rfl rfl (by decide) (by decide) rfl (by decide) (fun H locs hP hD hS => ?_)
  exact k_vret hx hb hr hlocks hK hP hD hS (by rw [f_MO_lead]) d_MO_lead_69
