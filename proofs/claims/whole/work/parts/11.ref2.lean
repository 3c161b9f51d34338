theorem out_n {v : Int32} {k : Nat} (hk : k < 2 ^ 31) (h : f_MO_outside v (nI k) = 0) : v = nI (tn v) ∧ tn v ≤ k := by
  unfold f_MO_outside at h
  split at h
  · exact absurd h (by decide)
  · split at h
    · exact ⟨tn_eq (by assumption), tn_le (by assumption) hk (by assumption)⟩
    · exact absurd h (by decide)

theorem d_MO_length_0 : decode b_MO_length 0 = .ok (.iload_n 1, 1) := by decide +kernel
theorem d_MO_length_1 : decode b_MO_length 1 = .ok (.ifCond .eq 10, 3) := by decide +kernel
theorem d_MO_length_4 : decode b_MO_length 4 = .ok (.aload_n 0, 1) := by decide +kernel
theorem d_MO_length_5 : decode b_MO_length 5 = .ok (.getfield 157, 3) := by decide +kernel
theorem d_MO_length_8 : decode b_MO_length 8 = .ok (.goto 7, 3) := by decide +kernel
theorem d_MO_length_11 : decode b_MO_length 11 = .ok (.aload_n 0, 1) := by decide +kernel
theorem d_MO_length_12 : decode b_MO_length 12 = .ok (.getfield 77, 3) := by decide +kernel
theorem d_MO_length_15 : decode b_MO_length 15 = .ok (.ireturn, 1) := by decide +kernel
set_option maxHeartbeats 1000000 in
set_option maxRecDepth 100000 in
theorem c_MO_length0 (l : Launch) (D : va_G) (cI cZ : ClassId) (a q_op q_arg q_handler q_depth q_over q_flatOp q_flatArg q_flatHandler q_leader q_last q_height q_state q_begin q_drawn q_order q_starters q_emitted q_locals q_stack : Nat) (x_handlers x_flatCount x_flatHandlers x_blockCount x_g x_ran x_ended x_result x_steps x_emits x_top x_at : Int32) (n : Nat) : MG l y_MO_length w_MO_length (rmK 0 0) D classes (tyz cI cZ) E0 [.ref a, .int 0] [(a, .inr (7, [.int (nI n), .ref q_op, .ref q_arg, .int x_handlers, .ref q_handler, .ref q_depth, .ref q_over, .int x_flatCount, .ref q_flatOp, .ref q_flatArg, .int x_flatHandlers, .ref q_flatHandler, .int x_blockCount, .ref q_leader, .ref q_last, .ref q_height, .ref q_state, .ref q_begin, .ref q_drawn, .ref q_order, .int x_g, .ref q_starters, .int x_ran, .int x_ended, .int x_result, .int x_steps, .int x_emits, .ref q_emitted, .ref q_locals, .ref q_stack, .int x_top, .int x_at]))] (RI D classes (tyz cI cZ) (nI n) [(a, .inr (7, [.int (nI n), .ref q_op, .ref q_arg, .int x_handlers, .ref q_handler, .ref q_depth, .ref q_over, .int x_flatCount, .ref q_flatOp, .ref q_flatArg, .int x_flatHandlers, .ref q_flatHandler, .int x_blockCount, .ref q_leader, .ref q_last, .ref q_height, .ref q_state, .ref q_begin, .ref q_drawn, .ref q_order, .int x_g, .ref q_starters, .int x_ran, .int x_ended, .int x_result, .int x_steps, .int x_emits, .ref q_emitted, .ref q_locals, .ref q_stack, .int x_top, .int x_at]))]) := by
  refine MG.of (cc := b_MO_length) (maxL := 2) (ret := (some .int)) (own := "FlowFlattenerModel") rfl (by decide) rfl (Nat.le_of_ble_eq_true rfl) ?_
  intro p e s m below meth c A ls S hr hlocks hA hP hK hD hS hE hl
  have hx := S.1
  have hb := S.2.1
  have hl : lv_has ls 2 [(0, .ref a), (1, .int 0)] := hl
  refine lv_iload_n hx hb d_MO_length_0 rfl (lv_at hl 1 rfl) ?_
  refine lv_if_eq (tgt := 11) hx hb d_MO_length_1 (by decide) (fun h1_1 => ?_) (fun h1_1 => absurd h1_1 (by decide))
  refine lv_aload_n hx hb d_MO_length_11 rfl (lv_at hl 0 rfl) ?_
  refine k_get (v := .int (nI n)) S in_MO hK hP 0 rfl rfl 0 (by decide) ql_MO_77 rfl d_MO_length_12 ?_
  exact k_iret hx hb hr hlocks hK hP hD hS rfl rfl d_MO_length_15

theorem d_MO_isPlace_0 : decode b_MO_isPlace 0 = .ok (.iload_n 2, 1) := by decide +kernel
theorem d_MO_isPlace_1 : decode b_MO_isPlace 1 = .ok (.ifCond .lt 16, 3) := by decide +kernel
theorem d_MO_isPlace_4 : decode b_MO_isPlace 4 = .ok (.iload_n 2, 1) := by decide +kernel
theorem d_MO_isPlace_5 : decode b_MO_isPlace 5 = .ok (.aload_n 0, 1) := by decide +kernel
theorem d_MO_isPlace_6 : decode b_MO_isPlace 6 = .ok (.iload_n 1, 1) := by decide +kernel
theorem d_MO_isPlace_7 : decode b_MO_isPlace 7 = .ok (.invokevirtual 198, 3) := by decide +kernel
theorem d_MO_isPlace_10 : decode b_MO_isPlace 10 = .ok (.if_icmp .ge 7, 3) := by decide +kernel
theorem d_MO_isPlace_13 : decode b_MO_isPlace 13 = .ok (.iconst 1, 1) := by decide +kernel
theorem d_MO_isPlace_14 : decode b_MO_isPlace 14 = .ok (.goto 4, 3) := by decide +kernel
theorem d_MO_isPlace_17 : decode b_MO_isPlace 17 = .ok (.iconst 0, 1) := by decide +kernel
theorem d_MO_isPlace_18 : decode b_MO_isPlace 18 = .ok (.ireturn, 1) := by decide +kernel
def f_MO_isPlace0 (n : Nat) (v : Int32) : Int32 := (if v < 0 then 0 else (if nI n ≤ v then 0 else 1))
set_option maxHeartbeats 1000000 in
set_option maxRecDepth 100000 in
theorem c_MO_isPlace0 (l : Launch) (D : va_G) (cI cZ : ClassId) (a q_op q_arg q_handler q_depth q_over q_flatOp q_flatArg q_flatHandler q_leader q_last q_height q_state q_begin q_drawn q_order q_starters q_emitted q_locals q_stack : Nat) (x_handlers x_flatCount x_flatHandlers x_blockCount x_g x_ran x_ended x_result x_steps x_emits x_top x_at : Int32) (n : Nat) (v : Int32) : MG l y_MO_isPlace w_MO_isPlace (rmK 1 21) D classes (tyz cI cZ) E0 [.ref a, .int 0, .int v] [(a, .inr (7, [.int (nI n), .ref q_op, .ref q_arg, .int x_handlers, .ref q_handler, .ref q_depth, .ref q_over, .int x_flatCount, .ref q_flatOp, .ref q_flatArg, .int x_flatHandlers, .ref q_flatHandler, .int x_blockCount, .ref q_leader, .ref q_last, .ref q_height, .ref q_state, .ref q_begin, .ref q_drawn, .ref q_order, .int x_g, .ref q_starters, .int x_ran, .int x_ended, .int x_result, .int x_steps, .int x_emits, .ref q_emitted, .ref q_locals, .ref q_stack, .int x_top, .int x_at]))] (RI D classes (tyz cI cZ) (f_MO_isPlace0 n v) [(a, .inr (7, [.int (nI n), .ref q_op, .ref q_arg, .int x_handlers, .ref q_handler, .ref q_depth, .ref q_over, .int x_flatCount, .ref q_flatOp, .ref q_flatArg, .int x_flatHandlers, .ref q_flatHandler, .int x_blockCount, .ref q_leader, .ref q_last, .ref q_height, .ref q_state, .ref q_begin, .ref q_drawn, .ref q_order, .int x_g, .ref q_starters, .int x_ran, .int x_ended, .int x_result, .int x_steps, .int x_emits, .ref q_emitted, .ref q_locals, .ref q_stack, .int x_top, .int x_at]))]) := by
  refine MG.of (cc := b_MO_isPlace) (maxL := 3) (ret := (some .boolean)) (own := "FlowFlattenerModel") rfl (by decide) rfl (Nat.le_of_ble_eq_true rfl) ?_
  intro p e s m below meth c A ls S hr hlocks hA hP hK hD hS hE hl
  have hx := S.1
  have hb := S.2.1
  have hl : lv_has ls 3 [(0, .ref a), (1, .int 0), (2, .int v)] := hl
  refine lv_iload_n hx hb d_MO_isPlace_0 rfl (lv_at hl 2 rfl) ?_
  refine lv_if_lt (tgt := 17) hx hb d_MO_isPlace_1 (by decide) (fun h1_1 => ?_) (fun h1_1 => ?_)
  · skip
    refine lv_iconst (v := 0) hx hb d_MO_isPlace_17 (by decide) ?_
    exact k_zret hx hb hr hlocks hK hP hD hS (by decide) (by rw [f_MO_isPlace0, if_pos h1_1]) rfl d_MO_isPlace_18
  · skip
    refine lv_iload_n hx hb d_MO_isPlace_4 rfl (lv_at hl 2 rfl) ?_
    refine lv_aload_n hx hb d_MO_isPlace_5 rfl (lv_at hl 0 rfl) ?_
    refine lv_iload_n hx hb d_MO_isPlace_6 rfl (lv_at hl 1 rfl) ?_
    refine k_goi (ws' := [(a, .inr (7, [.int (nI n), .ref q_op, .ref q_arg, .int x_handlers, .ref q_handler, .ref q_depth, .ref q_over, .int x_flatCount, .ref q_flatOp, .ref q_flatArg, .int x_flatHandlers, .ref q_flatHandler, .int x_blockCount, .ref q_leader, .ref q_last, .ref q_height, .ref q_state, .ref q_begin, .ref q_drawn, .ref q_order, .int x_g, .ref q_starters, .int x_ran, .int x_ended, .int x_result, .int x_steps, .int x_emits, .ref q_emitted, .ref q_locals, .ref q_stack, .int x_top, .int x_at]))]) (wr := []) (k_runV (q0 := 0) (As := [.int 0]) (rest := [.int v]) (n := 1) S (c_MO_length0 l D cI cZ a q_op q_arg q_handler q_depth q_over q_flatOp q_flatArg q_flatHandler q_leader q_last q_height q_state q_begin q_drawn q_order q_starters q_emitted q_locals q_stack x_handlers x_flatCount x_flatHandlers x_blockCount x_g x_ran x_ended x_result x_steps x_emits x_top x_at n) E0_b E0_t ql_MO_198 qi_MO_length qs_MO_length qn_MO qc_MO_length (by decide +kernel) rfl ⟨rfl, rfl⟩ ⟨Nat.le_of_ble_eq_true rfl, Nat.le_of_ble_eq_true rfl⟩ hK hP hD [0] rfl (by decide) rfl rfl hl.1 rfl (Nat.le_of_ble_eq_true rfl) d_MO_isPlace_7 ⟨Nat.zero_le _, Nat.zero_le _⟩) hP hD hS hA [0] [] [0] rfl rfl (by decide) (by decide) rfl (by decide) (fun H locs hP hD hS => ?_)
    refine lv_icmp_ge (tgt := 17) hx hb d_MO_isPlace_10 (by decide) (fun h10_2 => ?_) (fun h10_2 => ?_)
    · skip
      refine lv_iconst (v := 0) hx hb d_MO_isPlace_17 (by decide) ?_
      exact k_zret hx hb hr hlocks hK hP hD hS (by decide) (by rw [f_MO_isPlace0, if_neg h1_1, if_pos h10_2]) rfl d_MO_isPlace_18
    · skip
      refine lv_iconst (v := 1) hx hb d_MO_isPlace_13 (by decide) ?_
      refine lv_goto (tgt := 18) hx hb d_MO_isPlace_14 (by decide) ?_
      exact k_zret hx hb hr hlocks hK hP hD hS (by decide) (by rw [f_MO_isPlace0, if_neg h1_1, if_neg h10_2]) rfl d_MO_isPlace_18

theorem isPlace_n0 {n : Nat} {v : Int32} (hn : n < 2 ^ 31) (h : ¬ f_MO_isPlace0 n v = 0) : v = nI (tn v) ∧ tn v < n := by
  unfold f_MO_isPlace0 at h
  split at h
  · exact absurd rfl h
  · split at h
    · exact absurd rfl h
    · exact ⟨tn_eq (by assumption), tn_lt (by assumption) hn (by assumption)⟩
theorem isPlace_y0 {n : Nat} {v : Int32} (hn : n < 2 ^ 31) (h : v = nI (tn v) ∧ tn v < n) : f_MO_isPlace0 n v = 1 := by
  unfold f_MO_isPlace0
  rw [h.1, if_neg (nI_pos (by omega)), if_neg (nI_ge h.2 hn)]

theorem d_MO_operation_0 : decode b_MO_operation 0 = .ok (.aload_n 0, 1) := by decide +kernel
theorem d_MO_operation_1 : decode b_MO_operation 1 = .ok (.iload_n 1, 1) := by decide +kernel
theorem d_MO_operation_2 : decode b_MO_operation 2 = .ok (.iload_n 2, 1) := by decide +kernel
theorem d_MO_operation_3 : decode b_MO_operation 3 = .ok (.invokevirtual 202, 3) := by decide +kernel
theorem d_MO_operation_6 : decode b_MO_operation 6 = .ok (.ifCond .ne 7, 3) := by decide +kernel
theorem d_MO_operation_9 : decode b_MO_operation 9 = .ok (.iconst (-1), 1) := by decide +kernel
theorem d_MO_operation_10 : decode b_MO_operation 10 = .ok (.goto 22, 3) := by decide +kernel
theorem d_MO_operation_13 : decode b_MO_operation 13 = .ok (.iload_n 1, 1) := by decide +kernel
theorem d_MO_operation_14 : decode b_MO_operation 14 = .ok (.ifCond .eq 12, 3) := by decide +kernel
theorem d_MO_operation_17 : decode b_MO_operation 17 = .ok (.aload_n 0, 1) := by decide +kernel
theorem d_MO_operation_18 : decode b_MO_operation 18 = .ok (.getfield 26, 3) := by decide +kernel
theorem d_MO_operation_21 : decode b_MO_operation 21 = .ok (.iload_n 2, 1) := by decide +kernel
theorem d_MO_operation_22 : decode b_MO_operation 22 = .ok (.iaload, 1) := by decide +kernel
theorem d_MO_operation_23 : decode b_MO_operation 23 = .ok (.goto 9, 3) := by decide +kernel
theorem d_MO_operation_26 : decode b_MO_operation 26 = .ok (.aload_n 0, 1) := by decide +kernel
theorem d_MO_operation_27 : decode b_MO_operation 27 = .ok (.getfield 7, 3) := by decide +kernel
theorem d_MO_operation_30 : decode b_MO_operation 30 = .ok (.iload_n 2, 1) := by decide +kernel
theorem d_MO_operation_31 : decode b_MO_operation 31 = .ok (.iaload, 1) := by decide +kernel
theorem d_MO_operation_32 : decode b_MO_operation 32 = .ok (.ireturn, 1) := by decide +kernel
def f_MO_operation0 (n : Nat) (f : Nat → Int32) (v : Int32) : Int32 := (if f_MO_isPlace0 n v = 0 then (-1) else f (tn v))
set_option maxHeartbeats 1000000 in
set_option maxRecDepth 100000 in
theorem c_MO_operation0 (l : Launch) (D : va_G) (cI cZ : ClassId) (a q_op q_arg q_handler q_depth q_over q_flatOp q_flatArg q_flatHandler q_leader q_last q_height q_state q_begin q_drawn q_order q_starters q_emitted q_locals q_stack : Nat) (x_handlers x_flatCount x_flatHandlers x_blockCount x_g x_ran x_ended x_result x_steps x_emits x_top x_at : Int32) (n zi : Nat) (f : Nat → Int32) (v : Int32) (hnz : n ≤ zi) (hzi : zi < 2 ^ 31) : MG l y_MO_operation w_MO_operation (rmK 2 43) D classes (tyz cI cZ) E0 [.ref a, .int 0, .int v] [(a, .inr (7, [.int (nI n), .ref q_op, .ref q_arg, .int x_handlers, .ref q_handler, .ref q_depth, .ref q_over, .int x_flatCount, .ref q_flatOp, .ref q_flatArg, .int x_flatHandlers, .ref q_flatHandler, .int x_blockCount, .ref q_leader, .ref q_last, .ref q_height, .ref q_state, .ref q_begin, .ref q_drawn, .ref q_order, .int x_g, .ref q_starters, .int x_ran, .int x_ended, .int x_result, .int x_steps, .int x_emits, .ref q_emitted, .ref q_locals, .ref q_stack, .int x_top, .int x_at])), (q_op, .inl (cI, zi, .inl f))] (RI D classes (tyz cI cZ) (f_MO_operation0 n f v) [(a, .inr (7, [.int (nI n), .ref q_op, .ref q_arg, .int x_handlers, .ref q_handler, .ref q_depth, .ref q_over, .int x_flatCount, .ref q_flatOp, .ref q_flatArg, .int x_flatHandlers, .ref q_flatHandler, .int x_blockCount, .ref q_leader, .ref q_last, .ref q_height, .ref q_state, .ref q_begin, .ref q_drawn, .ref q_order, .int x_g, .ref q_starters, .int x_ran, .int x_ended, .int x_result, .int x_steps, .int x_emits, .ref q_emitted, .ref q_locals, .ref q_stack, .int x_top, .int x_at])), (q_op, .inl (cI, zi, .inl f))]) := by
  refine MG.of (cc := b_MO_operation) (maxL := 3) (ret := (some .int)) (own := "FlowFlattenerModel") rfl (by decide) rfl (Nat.le_of_ble_eq_true rfl) ?_
  intro p e s m below meth c A ls S hr hlocks hA hP hK hD hS hE hl
  have hx := S.1
  have hb := S.2.1
  have hl : lv_has ls 3 [(0, .ref a), (1, .int 0), (2, .int v)] := hl
  refine lv_aload_n hx hb d_MO_operation_0 rfl (lv_at hl 0 rfl) ?_
  refine lv_iload_n hx hb d_MO_operation_1 rfl (lv_at hl 1 rfl) ?_
  refine lv_iload_n hx hb d_MO_operation_2 rfl (lv_at hl 2 rfl) ?_
  refine k_goi (ws' := [(a, .inr (7, [.int (nI n), .ref q_op, .ref q_arg, .int x_handlers, .ref q_handler, .ref q_depth, .ref q_over, .int x_flatCount, .ref q_flatOp, .ref q_flatArg, .int x_flatHandlers, .ref q_flatHandler, .int x_blockCount, .ref q_leader, .ref q_last, .ref q_height, .ref q_state, .ref q_begin, .ref q_drawn, .ref q_order, .int x_g, .ref q_starters, .int x_ran, .int x_ended, .int x_result, .int x_steps, .int x_emits, .ref q_emitted, .ref q_locals, .ref q_stack, .int x_top, .int x_at])), (q_op, .inl (cI, zi, .inl f))]) (wr := [(q_op, .inl (cI, zi, .inl f))]) (k_runV (q0 := 0) (As := [.int 0, .int v]) (rest := []) (n := 2) S (c_MO_isPlace0 l D cI cZ a q_op q_arg q_handler q_depth q_over q_flatOp q_flatArg q_flatHandler q_leader q_last q_height q_state q_begin q_drawn q_order q_starters q_emitted q_locals q_stack x_handlers x_flatCount x_flatHandlers x_blockCount x_g x_ran x_ended x_result x_steps x_emits x_top x_at n v) E0_b E0_t ql_MO_202 qi_MO_isPlace qs_MO_isPlace qn_MO qc_MO_isPlace (by decide +kernel) rfl ⟨rfl, rfl⟩ ⟨Nat.le_of_ble_eq_true rfl, Nat.le_of_ble_eq_true rfl⟩ hK hP hD [0] rfl (by decide) rfl rfl hl.1 rfl (Nat.le_of_ble_eq_true rfl) d_MO_operation_3 ⟨Nat.zero_le _, Nat.zero_le _⟩) hP hD hS hA [0] [1] [1, 0] rfl rfl (by decide) (by decide) rfl (by decide) (fun H locs hP hD hS => ?_)
  refine lv_if_ne (tgt := 13) hx hb d_MO_operation_6 (by decide) (fun h6_1 => ?_) (fun h6_1 => ?_)
  · skip
    refine lv_iload_n hx hb d_MO_operation_13 rfl (lv_at hl 1 rfl) ?_
    refine lv_if_eq (tgt := 26) hx hb d_MO_operation_14 (by decide) (fun h14_2 => ?_) (fun h14_2 => absurd h14_2 (by decide))
    refine lv_aload_n hx hb d_MO_operation_26 rfl (lv_at hl 0 rfl) ?_
    refine k_get (v := .ref q_op) S in_MO hK hP 0 rfl rfl 1 (by decide) ql_MO_7 rfl d_MO_operation_27 ?_
    refine lv_iload_n hx hb d_MO_operation_30 rfl (lv_at hl 2 rfl) ?_
    refine k_top (y := nI (tn v)) (isPlace_n0 (n := n) (v := v) (by omega) (by assumption)).1 ?_
    refine k_ld (k := tn v) hx hb hK hP 1 0 rfl rfl rfl (by have := (isPlace_n0 (n := n) (v := v) (by omega) (by assumption)).2; omega) (by omega) d_MO_operation_31 ?_
    exact k_iret hx hb hr hlocks hK hP hD hS (by rw [f_MO_operation0, if_neg h6_1]) rfl d_MO_operation_32
  · skip
    refine lv_iconst (v := (-1)) hx hb d_MO_operation_9 (by decide) ?_
    refine lv_goto (tgt := 32) hx hb d_MO_operation_10 (by decide) ?_
    exact k_iret hx hb hr hlocks hK hP hD hS (by rw [f_MO_operation0, if_pos h6_1]) rfl d_MO_operation_32

theorem d_MO_operand_0 : decode b_MO_operand 0 = .ok (.aload_n 0, 1) := by decide +kernel
theorem d_MO_operand_1 : decode b_MO_operand 1 = .ok (.iload_n 1, 1) := by decide +kernel
theorem d_MO_operand_2 : decode b_MO_operand 2 = .ok (.iload_n 2, 1) := by decide +kernel
theorem d_MO_operand_3 : decode b_MO_operand 3 = .ok (.invokevirtual 202, 3) := by decide +kernel
theorem d_MO_operand_6 : decode b_MO_operand 6 = .ok (.ifCond .ne 8, 3) := by decide +kernel
theorem d_MO_operand_9 : decode b_MO_operand 9 = .ok (.ldc 59, 2) := by decide +kernel
theorem d_MO_operand_11 : decode b_MO_operand 11 = .ok (.goto 22, 3) := by decide +kernel
theorem d_MO_operand_14 : decode b_MO_operand 14 = .ok (.iload_n 1, 1) := by decide +kernel
theorem d_MO_operand_15 : decode b_MO_operand 15 = .ok (.ifCond .eq 12, 3) := by decide +kernel
theorem d_MO_operand_18 : decode b_MO_operand 18 = .ok (.aload_n 0, 1) := by decide +kernel
theorem d_MO_operand_19 : decode b_MO_operand 19 = .ok (.getfield 29, 3) := by decide +kernel
theorem d_MO_operand_22 : decode b_MO_operand 22 = .ok (.iload_n 2, 1) := by decide +kernel
theorem d_MO_operand_23 : decode b_MO_operand 23 = .ok (.iaload, 1) := by decide +kernel
theorem d_MO_operand_24 : decode b_MO_operand 24 = .ok (.goto 9, 3) := by decide +kernel
theorem d_MO_operand_27 : decode b_MO_operand 27 = .ok (.aload_n 0, 1) := by decide +kernel
theorem d_MO_operand_28 : decode b_MO_operand 28 = .ok (.getfield 13, 3) := by decide +kernel
theorem d_MO_operand_31 : decode b_MO_operand 31 = .ok (.iload_n 2, 1) := by decide +kernel
theorem d_MO_operand_32 : decode b_MO_operand 32 = .ok (.iaload, 1) := by decide +kernel
theorem d_MO_operand_33 : decode b_MO_operand 33 = .ok (.ireturn, 1) := by decide +kernel
def f_MO_operand0 (n : Nat) (g : Nat → Int32) (v : Int32) : Int32 := (if f_MO_isPlace0 n v = 0 then (-2147483648) else g (tn v))
set_option maxHeartbeats 1000000 in
set_option maxRecDepth 100000 in
theorem c_MO_operand0 (l : Launch) (D : va_G) (cI cZ : ClassId) (a q_op q_arg q_handler q_depth q_over q_flatOp q_flatArg q_flatHandler q_leader q_last q_height q_state q_begin q_drawn q_order q_starters q_emitted q_locals q_stack : Nat) (x_handlers x_flatCount x_flatHandlers x_blockCount x_g x_ran x_ended x_result x_steps x_emits x_top x_at : Int32) (n zi : Nat) (g : Nat → Int32) (v : Int32) (hnz : n ≤ zi) (hzi : zi < 2 ^ 31) : MG l y_MO_operand w_MO_operand (rmK 2 43) D classes (tyz cI cZ) E0 [.ref a, .int 0, .int v] [(a, .inr (7, [.int (nI n), .ref q_op, .ref q_arg, .int x_handlers, .ref q_handler, .ref q_depth, .ref q_over, .int x_flatCount, .ref q_flatOp, .ref q_flatArg, .int x_flatHandlers, .ref q_flatHandler, .int x_blockCount, .ref q_leader, .ref q_last, .ref q_height, .ref q_state, .ref q_begin, .ref q_drawn, .ref q_order, .int x_g, .ref q_starters, .int x_ran, .int x_ended, .int x_result, .int x_steps, .int x_emits, .ref q_emitted, .ref q_locals, .ref q_stack, .int x_top, .int x_at])), (q_arg, .inl (cI, zi, .inl g))] (RI D classes (tyz cI cZ) (f_MO_operand0 n g v) [(a, .inr (7, [.int (nI n), .ref q_op, .ref q_arg, .int x_handlers, .ref q_handler, .ref q_depth, .ref q_over, .int x_flatCount, .ref q_flatOp, .ref q_flatArg, .int x_flatHandlers, .ref q_flatHandler, .int x_blockCount, .ref q_leader, .ref q_last, .ref q_height, .ref q_state, .ref q_begin, .ref q_drawn, .ref q_order, .int x_g, .ref q_starters, .int x_ran, .int x_ended, .int x_result, .int x_steps, .int x_emits, .ref q_emitted, .ref q_locals, .ref q_stack, .int x_top, .int x_at])), (q_arg, .inl (cI, zi, .inl g))]) := by
  refine MG.of (cc := b_MO_operand) (maxL := 3) (ret := (some .int)) (own := "FlowFlattenerModel") rfl (by decide) rfl (Nat.le_of_ble_eq_true rfl) ?_
  intro p e s m below meth c A ls S hr hlocks hA hP hK hD hS hE hl
  have hx := S.1
  have hb := S.2.1
  have hl : lv_has ls 3 [(0, .ref a), (1, .int 0), (2, .int v)] := hl
  refine lv_aload_n hx hb d_MO_operand_0 rfl (lv_at hl 0 rfl) ?_
  refine lv_iload_n hx hb d_MO_operand_1 rfl (lv_at hl 1 rfl) ?_
  refine lv_iload_n hx hb d_MO_operand_2 rfl (lv_at hl 2 rfl) ?_
  refine k_goi (ws' := [(a, .inr (7, [.int (nI n), .ref q_op, .ref q_arg, .int x_handlers, .ref q_handler, .ref q_depth, .ref q_over, .int x_flatCount, .ref q_flatOp, .ref q_flatArg, .int x_flatHandlers, .ref q_flatHandler, .int x_blockCount, .ref q_leader, .ref q_last, .ref q_height, .ref q_state, .ref q_begin, .ref q_drawn, .ref q_order, .int x_g, .ref q_starters, .int x_ran, .int x_ended, .int x_result, .int x_steps, .int x_emits, .ref q_emitted, .ref q_locals, .ref q_stack, .int x_top, .int x_at])), (q_arg, .inl (cI, zi, .inl g))]) (wr := [(q_arg, .inl (cI, zi, .inl g))]) (k_runV (q0 := 0) (As := [.int 0, .int v]) (rest := []) (n := 2) S (c_MO_isPlace0 l D cI cZ a q_op q_arg q_handler q_depth q_over q_flatOp q_flatArg q_flatHandler q_leader q_last q_height q_state q_begin q_drawn q_order q_starters q_emitted q_locals q_stack x_handlers x_flatCount x_flatHandlers x_blockCount x_g x_ran x_ended x_result x_steps x_emits x_top x_at n v) E0_b E0_t ql_MO_202 qi_MO_isPlace qs_MO_isPlace qn_MO qc_MO_isPlace (by decide +kernel) rfl ⟨rfl, rfl⟩ ⟨Nat.le_of_ble_eq_true rfl, Nat.le_of_ble_eq_true rfl⟩ hK hP hD [0] rfl (by decide) rfl rfl hl.1 rfl (Nat.le_of_ble_eq_true rfl) d_MO_operand_3 ⟨Nat.zero_le _, Nat.zero_le _⟩) hP hD hS hA [0] [1] [1, 0] rfl rfl (by decide) (by decide) rfl (by decide) (fun H locs hP hD hS => ?_)
  refine lv_if_ne (tgt := 14) hx hb d_MO_operand_6 (by decide) (fun h6_1 => ?_) (fun h6_1 => ?_)
  · skip
    refine lv_iload_n hx hb d_MO_operand_14 rfl (lv_at hl 1 rfl) ?_
    refine lv_if_eq (tgt := 27) hx hb d_MO_operand_15 (by decide) (fun h15_2 => ?_) (fun h15_2 => absurd h15_2 (by decide))
    refine lv_aload_n hx hb d_MO_operand_27 rfl (lv_at hl 0 rfl) ?_
    refine k_get (v := .ref q_arg) S in_MO hK hP 0 rfl rfl 2 (by decide) ql_MO_13 rfl d_MO_operand_28 ?_
    refine lv_iload_n hx hb d_MO_operand_31 rfl (lv_at hl 2 rfl) ?_
    refine k_top (y := nI (tn v)) (isPlace_n0 (n := n) (v := v) (by omega) (by assumption)).1 ?_
    refine k_ld (k := tn v) hx hb hK hP 1 0 rfl rfl rfl (by have := (isPlace_n0 (n := n) (v := v) (by omega) (by assumption)).2; omega) (by omega) d_MO_operand_32 ?_
    exact k_iret hx hb hr hlocks hK hP hD hS (by rw [f_MO_operand0, if_neg h6_1]) rfl d_MO_operand_33
  · skip
    refine lv_ldc hx hb S.2.2.2.1 (S.2.2.2.2 _ ql_MO_59) d_MO_operand_9 ?_
    refine lv_goto (tgt := 33) hx hb d_MO_operand_11 (by decide) ?_
    exact k_iret hx hb hr hlocks hK hP hD hS (by rw [f_MO_operand0, if_pos h6_1]) rfl d_MO_operand_33

theorem d_MO_handlerAt_0 : decode b_MO_handlerAt 0 = .ok (.iload_n 2, 1) := by decide +kernel
theorem d_MO_handlerAt_1 : decode b_MO_handlerAt 1 = .ok (.ifCond .lt 30, 3) := by decide +kernel
theorem d_MO_handlerAt_4 : decode b_MO_handlerAt 4 = .ok (.iload_n 2, 1) := by decide +kernel
theorem d_MO_handlerAt_5 : decode b_MO_handlerAt 5 = .ok (.iload_n 1, 1) := by decide +kernel
theorem d_MO_handlerAt_6 : decode b_MO_handlerAt 6 = .ok (.ifCond .eq 10, 3) := by decide +kernel
theorem d_MO_handlerAt_9 : decode b_MO_handlerAt 9 = .ok (.aload_n 0, 1) := by decide +kernel
theorem d_MO_handlerAt_10 : decode b_MO_handlerAt 10 = .ok (.getfield 177, 3) := by decide +kernel
theorem d_MO_handlerAt_13 : decode b_MO_handlerAt 13 = .ok (.goto 7, 3) := by decide +kernel
theorem d_MO_handlerAt_16 : decode b_MO_handlerAt 16 = .ok (.aload_n 0, 1) := by decide +kernel
theorem d_MO_handlerAt_17 : decode b_MO_handlerAt 17 = .ok (.getfield 80, 3) := by decide +kernel
theorem d_MO_handlerAt_20 : decode b_MO_handlerAt 20 = .ok (.if_icmp .ge 11, 3) := by decide +kernel
theorem d_MO_handlerAt_23 : decode b_MO_handlerAt 23 = .ok (.iload_n 3, 1) := by decide +kernel
theorem d_MO_handlerAt_24 : decode b_MO_handlerAt 24 = .ok (.iconst 2, 1) := by decide +kernel
theorem d_MO_handlerAt_25 : decode b_MO_handlerAt 25 = .ok (.invokestatic 83, 3) := by decide +kernel
theorem d_MO_handlerAt_28 : decode b_MO_handlerAt 28 = .ok (.ifCond .eq 5, 3) := by decide +kernel
theorem d_MO_handlerAt_31 : decode b_MO_handlerAt 31 = .ok (.iconst (-1), 1) := by decide +kernel
theorem d_MO_handlerAt_32 : decode b_MO_handlerAt 32 = .ok (.ireturn, 1) := by decide +kernel
theorem d_MO_handlerAt_33 : decode b_MO_handlerAt 33 = .ok (.iload_n 1, 1) := by decide +kernel
theorem d_MO_handlerAt_34 : decode b_MO_handlerAt 34 = .ok (.ifCond .eq 16, 3) := by decide +kernel
theorem d_MO_handlerAt_37 : decode b_MO_handlerAt 37 = .ok (.aload_n 0, 1) := by decide +kernel
theorem d_MO_handlerAt_38 : decode b_MO_handlerAt 38 = .ok (.getfield 32, 3) := by decide +kernel
theorem d_MO_handlerAt_41 : decode b_MO_handlerAt 41 = .ok (.iconst 3, 1) := by decide +kernel
theorem d_MO_handlerAt_42 : decode b_MO_handlerAt 42 = .ok (.iload_n 2, 1) := by decide +kernel
theorem d_MO_handlerAt_43 : decode b_MO_handlerAt 43 = .ok (.imul, 1) := by decide +kernel
theorem d_MO_handlerAt_44 : decode b_MO_handlerAt 44 = .ok (.iload_n 3, 1) := by decide +kernel
theorem d_MO_handlerAt_45 : decode b_MO_handlerAt 45 = .ok (.iadd, 1) := by decide +kernel
theorem d_MO_handlerAt_46 : decode b_MO_handlerAt 46 = .ok (.iaload, 1) := by decide +kernel
theorem d_MO_handlerAt_47 : decode b_MO_handlerAt 47 = .ok (.goto 13, 3) := by decide +kernel
theorem d_MO_handlerAt_50 : decode b_MO_handlerAt 50 = .ok (.aload_n 0, 1) := by decide +kernel
theorem d_MO_handlerAt_51 : decode b_MO_handlerAt 51 = .ok (.getfield 16, 3) := by decide +kernel
theorem d_MO_handlerAt_54 : decode b_MO_handlerAt 54 = .ok (.iconst 3, 1) := by decide +kernel
theorem d_MO_handlerAt_55 : decode b_MO_handlerAt 55 = .ok (.iload_n 2, 1) := by decide +kernel
theorem d_MO_handlerAt_56 : decode b_MO_handlerAt 56 = .ok (.imul, 1) := by decide +kernel
theorem d_MO_handlerAt_57 : decode b_MO_handlerAt 57 = .ok (.iload_n 3, 1) := by decide +kernel
theorem d_MO_handlerAt_58 : decode b_MO_handlerAt 58 = .ok (.iadd, 1) := by decide +kernel
theorem d_MO_handlerAt_59 : decode b_MO_handlerAt 59 = .ok (.iaload, 1) := by decide +kernel
theorem d_MO_handlerAt_60 : decode b_MO_handlerAt 60 = .ok (.ireturn, 1) := by decide +kernel
def f_MO_handlerAt0 (hn : Nat) (hd : Nat → Int32) (u : Int32) (v : Int32) : Int32 := (if u < 0 then (-1) else (if nI hn ≤ u then (-1) else (if f_MO_outside v 2 = 0 then hd (3 * (tn u) + (tn v)) else (-1))))
set_option maxHeartbeats 1000000 in
set_option maxRecDepth 100000 in
theorem c_MO_handlerAt0 (l : Launch) (D : va_G) (cI cZ : ClassId) (a q_op q_arg q_handler q_depth q_over q_flatOp q_flatArg q_flatHandler q_leader q_last q_height q_state q_begin q_drawn q_order q_starters q_emitted q_locals q_stack : Nat) (x_count x_flatCount x_flatHandlers x_blockCount x_g x_ran x_ended x_result x_steps x_emits x_top x_at : Int32) (hn z : Nat) (hd : Nat → Int32) (u v : Int32) (hz : 3 * hn ≤ z) (hz2 : z < 2 ^ 31) : MG l y_MO_handlerAt w_MO_handlerAt (rmK 1 21) D classes (tyz cI cZ) E0 [.ref a, .int 0, .int u, .int v] [(a, .inr (7, [.int x_count, .ref q_op, .ref q_arg, .int (nI hn), .ref q_handler, .ref q_depth, .ref q_over, .int x_flatCount, .ref q_flatOp, .ref q_flatArg, .int x_flatHandlers, .ref q_flatHandler, .int x_blockCount, .ref q_leader, .ref q_last, .ref q_height, .ref q_state, .ref q_begin, .ref q_drawn, .ref q_order, .int x_g, .ref q_starters, .int x_ran, .int x_ended, .int x_result, .int x_steps, .int x_emits, .ref q_emitted, .ref q_locals, .ref q_stack, .int x_top, .int x_at])), (q_handler, .inl (cI, z, .inl hd))] (RI D classes (tyz cI cZ) (f_MO_handlerAt0 hn hd u v) [(a, .inr (7, [.int x_count, .ref q_op, .ref q_arg, .int (nI hn), .ref q_handler, .ref q_depth, .ref q_over, .int x_flatCount, .ref q_flatOp, .ref q_flatArg, .int x_flatHandlers, .ref q_flatHandler, .int x_blockCount, .ref q_leader, .ref q_last, .ref q_height, .ref q_state, .ref q_begin, .ref q_drawn, .ref q_order, .int x_g, .ref q_starters, .int x_ran, .int x_ended, .int x_result, .int x_steps, .int x_emits, .ref q_emitted, .ref q_locals, .ref q_stack, .int x_top, .int x_at])), (q_handler, .inl (cI, z, .inl hd))]) := by
  refine MG.of (cc := b_MO_handlerAt) (maxL := 4) (ret := (some .int)) (own := "FlowFlattenerModel") rfl (by decide) rfl (Nat.le_of_ble_eq_true rfl) ?_
  intro p e s m below meth c A ls S hr hlocks hA hP hK hD hS hE hl
  have hx := S.1
  have hb := S.2.1
  have hl : lv_has ls 4 [(0, .ref a), (1, .int 0), (2, .int u), (3, .int v)] := hl
  refine lv_iload_n hx hb d_MO_handlerAt_0 rfl (lv_at hl 2 rfl) ?_
  refine lv_if_lt (tgt := 31) hx hb d_MO_handlerAt_1 (by decide) (fun h1_1 => ?_) (fun h1_1 => ?_)
  · skip
    refine lv_iconst (v := (-1)) hx hb d_MO_handlerAt_31 (by decide) ?_
    exact k_iret hx hb hr hlocks hK hP hD hS (by rw [f_MO_handlerAt0, if_pos h1_1]) rfl d_MO_handlerAt_32
  · skip
    refine lv_iload_n hx hb d_MO_handlerAt_4 rfl (lv_at hl 2 rfl) ?_
    refine lv_iload_n hx hb d_MO_handlerAt_5 rfl (lv_at hl 1 rfl) ?_
    refine lv_if_eq (tgt := 16) hx hb d_MO_handlerAt_6 (by decide) (fun h6_2 => ?_) (fun h6_2 => absurd h6_2 (by decide))
    refine lv_aload_n hx hb d_MO_handlerAt_16 rfl (lv_at hl 0 rfl) ?_
    refine k_get (v := .int (nI hn)) S in_MO hK hP 0 rfl rfl 3 (by decide) ql_MO_80 rfl d_MO_handlerAt_17 ?_
    refine lv_icmp_ge (tgt := 31) hx hb d_MO_handlerAt_20 (by decide) (fun h20_3 => ?_) (fun h20_3 => ?_)
    · skip
      refine lv_iconst (v := (-1)) hx hb d_MO_handlerAt_31 (by decide) ?_
      exact k_iret hx hb hr hlocks hK hP hD hS (by rw [f_MO_handlerAt0, if_neg h1_1, if_pos h20_3]) rfl d_MO_handlerAt_32
    · skip
      refine lv_iload_n hx hb d_MO_handlerAt_23 rfl (lv_at hl 3 rfl) ?_
      refine lv_iconst (v := 2) hx hb d_MO_handlerAt_24 (by decide) ?_
      refine k_goi (ws' := [(a, .inr (7, [.int x_count, .ref q_op, .ref q_arg, .int (nI hn), .ref q_handler, .ref q_depth, .ref q_over, .int x_flatCount, .ref q_flatOp, .ref q_flatArg, .int x_flatHandlers, .ref q_flatHandler, .int x_blockCount, .ref q_leader, .ref q_last, .ref q_height, .ref q_state, .ref q_begin, .ref q_drawn, .ref q_order, .int x_g, .ref q_starters, .int x_ran, .int x_ended, .int x_result, .int x_steps, .int x_emits, .ref q_emitted, .ref q_locals, .ref q_stack, .int x_top, .int x_at])), (q_handler, .inl (cI, z, .inl hd))]) (wr := [(a, .inr (7, [.int x_count, .ref q_op, .ref q_arg, .int (nI hn), .ref q_handler, .ref q_depth, .ref q_over, .int x_flatCount, .ref q_flatOp, .ref q_flatArg, .int x_flatHandlers, .ref q_flatHandler, .int x_blockCount, .ref q_leader, .ref q_last, .ref q_height, .ref q_state, .ref q_begin, .ref q_drawn, .ref q_order, .int x_g, .ref q_starters, .int x_ran, .int x_ended, .int x_result, .int x_steps, .int x_emits, .ref q_emitted, .ref q_locals, .ref q_stack, .int x_top, .int x_at])), (q_handler, .inl (cI, z, .inl hd))]) (k_runS (As := [.int v, .int 2]) (rest := []) (n := 2) S (c_MO_outside l D cI cZ v 2) E0_b E0_t ql_MO_83 qt_MO_outside qn_MO qc_MO_outside (by decide +kernel) rfl ⟨rfl, rfl⟩ ⟨Nat.le_of_ble_eq_true rfl, Nat.le_of_ble_eq_true rfl⟩ hK hP hD [] rfl (by decide) hl.1 rfl (Nat.le_of_ble_eq_true rfl) d_MO_handlerAt_25 ⟨Nat.zero_le _, Nat.zero_le _⟩) hP hD hS hA [] [0, 1] [0, 1] rfl rfl (by decide) (by decide) rfl (by decide) (fun H locs hP hD hS => ?_)
      refine lv_if_eq (tgt := 33) hx hb d_MO_handlerAt_28 (by decide) (fun h28_4 => ?_) (fun h28_4 => ?_)
      · skip
        refine lv_iload_n hx hb d_MO_handlerAt_33 rfl (lv_at hl 1 rfl) ?_
        refine lv_if_eq (tgt := 50) hx hb d_MO_handlerAt_34 (by decide) (fun h34_5 => ?_) (fun h34_5 => absurd h34_5 (by decide))
        refine lv_aload_n hx hb d_MO_handlerAt_50 rfl (lv_at hl 0 rfl) ?_
        refine k_get (v := .ref q_handler) S in_MO hK hP 0 rfl rfl 4 (by decide) ql_MO_16 rfl d_MO_handlerAt_51 ?_
        refine lv_iconst (v := 3) hx hb d_MO_handlerAt_54 (by decide) ?_
        refine lv_iload_n hx hb d_MO_handlerAt_55 rfl (lv_at hl 2 rfl) ?_
        refine k_top (y := nI (tn u)) (tn_eq (by assumption)) ?_
        refine lv_imul hx hb d_MO_handlerAt_56 ?_
        refine k_top (y := nI (3 * (tn u))) (nc_mul (by decide) rfl) ?_
        refine lv_iload_n hx hb d_MO_handlerAt_57 rfl (lv_at hl 3 rfl) ?_
        refine k_top (y := nI (tn v)) (out_n (v := v) (k := 2) (by decide) (by assumption)).1 ?_
        refine lv_iadd hx hb d_MO_handlerAt_58 ?_
        refine k_top (y := nI (3 * (tn u) + (tn v))) (nc_add rfl rfl) ?_
        refine k_ld (k := 3 * (tn u) + (tn v)) hx hb hK hP 1 0 rfl rfl rfl (by have h1 := tn_lt (n := hn) (x := u) (by assumption) (by omega) (by assumption); have h2 := (out_n (v := v) (k := 2) (by decide) (by assumption)).2; omega) (by omega) d_MO_handlerAt_59 ?_
        exact k_iret hx hb hr hlocks hK hP hD hS (by rw [f_MO_handlerAt0, if_neg h1_1, if_neg h20_3, if_pos h28_4]) rfl d_MO_handlerAt_60
      · skip
        refine lv_iconst (v := (-1)) hx hb d_MO_handlerAt_31 (by decide) ?_
        exact k_iret hx hb hr hlocks hK hP hD hS (by rw [f_MO_handlerAt0, if_neg h1_1, if_neg h20_3, if_neg h28_4]) rfl d_MO_handlerAt_32

set_option maxHeartbeats 1000000 in
set_option maxRecDepth 100000 in
theorem c_MO_length1 (l : Launch) (D : va_G) (cI cZ : ClassId) (a q_op q_arg q_handler q_depth q_over q_flatOp q_flatArg q_flatHandler q_leader q_last q_height q_state q_begin q_drawn q_order q_starters q_emitted q_locals q_stack : Nat) (x_count x_handlers x_flatHandlers x_blockCount x_g x_ran x_ended x_result x_steps x_emits x_top x_at : Int32) (n : Nat) : MG l y_MO_length w_MO_length (rmK 0 0) D classes (tyz cI cZ) E0 [.ref a, .int 1] [(a, .inr (7, [.int x_count, .ref q_op, .ref q_arg, .int x_handlers, .ref q_handler, .ref q_depth, .ref q_over, .int (nI n), .ref q_flatOp, .ref q_flatArg, .int x_flatHandlers, .ref q_flatHandler, .int x_blockCount, .ref q_leader, .ref q_last, .ref q_height, .ref q_state, .ref q_begin, .ref q_drawn, .ref q_order, .int x_g, .ref q_starters, .int x_ran, .int x_ended, .int x_result, .int x_steps, .int x_emits, .ref q_emitted, .ref q_locals, .ref q_stack, .int x_top, .int x_at]))] (RI D classes (tyz cI cZ) (nI n) [(a, .inr (7, [.int x_count, .ref q_op, .ref q_arg, .int x_handlers, .ref q_handler, .ref q_depth, .ref q_over, .int (nI n), .ref q_flatOp, .ref q_flatArg, .int x_flatHandlers, .ref q_flatHandler, .int x_blockCount, .ref q_leader, .ref q_last, .ref q_height, .ref q_state, .ref q_begin, .ref q_drawn, .ref q_order, .int x_g, .ref q_starters, .int x_ran, .int x_ended, .int x_result, .int x_steps, .int x_emits, .ref q_emitted, .ref q_locals, .ref q_stack, .int x_top, .int x_at]))]) := by
  refine MG.of (cc := b_MO_length) (maxL := 2) (ret := (some .int)) (own := "FlowFlattenerModel") rfl (by decide) rfl (Nat.le_of_ble_eq_true rfl) ?_
  intro p e s m below meth c A ls S hr hlocks hA hP hK hD hS hE hl
  have hx := S.1
  have hb := S.2.1
  have hl : lv_has ls 2 [(0, .ref a), (1, .int 1)] := hl
  refine lv_iload_n hx hb d_MO_length_0 rfl (lv_at hl 1 rfl) ?_
  refine lv_if_eq (tgt := 11) hx hb d_MO_length_1 (by decide) (fun h1_1 => absurd h1_1 (by decide)) (fun h1_1 => ?_)
  refine lv_aload_n hx hb d_MO_length_4 rfl (lv_at hl 0 rfl) ?_
  refine k_get (v := .int (nI n)) S in_MO hK hP 0 rfl rfl 7 (by decide) ql_MO_157 rfl d_MO_length_5 ?_
  refine lv_goto (tgt := 15) hx hb d_MO_length_8 (by decide) ?_
  exact k_iret hx hb hr hlocks hK hP hD hS rfl rfl d_MO_length_15

def f_MO_isPlace1 (n : Nat) (v : Int32) : Int32 := (if v < 0 then 0 else (if nI n ≤ v then 0 else 1))
set_option maxHeartbeats 1000000 in
set_option maxRecDepth 100000 in
theorem c_MO_isPlace1 (l : Launch) (D : va_G) (cI cZ : ClassId) (a q_op q_arg q_handler q_depth q_over q_flatOp q_flatArg q_flatHandler q_leader q_last q_height q_state q_begin q_drawn q_order q_starters q_emitted q_locals q_stack : Nat) (x_count x_handlers x_flatHandlers x_blockCount x_g x_ran x_ended x_result x_steps x_emits x_top x_at : Int32) (n : Nat) (v : Int32) : MG l y_MO_isPlace w_MO_isPlace (rmK 1 21) D classes (tyz cI cZ) E0 [.ref a, .int 1, .int v] [(a, .inr (7, [.int x_count, .ref q_op, .ref q_arg, .int x_handlers, .ref q_handler, .ref q_depth, .ref q_over, .int (nI n), .ref q_flatOp, .ref q_flatArg, .int x_flatHandlers, .ref q_flatHandler, .int x_blockCount, .ref q_leader, .ref q_last, .ref q_height, .ref q_state, .ref q_begin, .ref q_drawn, .ref q_order, .int x_g, .ref q_starters, .int x_ran, .int x_ended, .int x_result, .int x_steps, .int x_emits, .ref q_emitted, .ref q_locals, .ref q_stack, .int x_top, .int x_at]))] (RI D classes (tyz cI cZ) (f_MO_isPlace1 n v) [(a, .inr (7, [.int x_count, .ref q_op, .ref q_arg, .int x_handlers, .ref q_handler, .ref q_depth, .ref q_over, .int (nI n), .ref q_flatOp, .ref q_flatArg, .int x_flatHandlers, .ref q_flatHandler, .int x_blockCount, .ref q_leader, .ref q_last, .ref q_height, .ref q_state, .ref q_begin, .ref q_drawn, .ref q_order, .int x_g, .ref q_starters, .int x_ran, .int x_ended, .int x_result, .int x_steps, .int x_emits, .ref q_emitted, .ref q_locals, .ref q_stack, .int x_top, .int x_at]))]) := by
  refine MG.of (cc := b_MO_isPlace) (maxL := 3) (ret := (some .boolean)) (own := "FlowFlattenerModel") rfl (by decide) rfl (Nat.le_of_ble_eq_true rfl) ?_
  intro p e s m below meth c A ls S hr hlocks hA hP hK hD hS hE hl
  have hx := S.1
  have hb := S.2.1
  have hl : lv_has ls 3 [(0, .ref a), (1, .int 1), (2, .int v)] := hl
  refine lv_iload_n hx hb d_MO_isPlace_0 rfl (lv_at hl 2 rfl) ?_
  refine lv_if_lt (tgt := 17) hx hb d_MO_isPlace_1 (by decide) (fun h1_1 => ?_) (fun h1_1 => ?_)
  · skip
    refine lv_iconst (v := 0) hx hb d_MO_isPlace_17 (by decide) ?_
    exact k_zret hx hb hr hlocks hK hP hD hS (by decide) (by rw [f_MO_isPlace1, if_pos h1_1]) rfl d_MO_isPlace_18
  · skip
    refine lv_iload_n hx hb d_MO_isPlace_4 rfl (lv_at hl 2 rfl) ?_
    refine lv_aload_n hx hb d_MO_isPlace_5 rfl (lv_at hl 0 rfl) ?_
    refine lv_iload_n hx hb d_MO_isPlace_6 rfl (lv_at hl 1 rfl) ?_
    refine k_goi (ws' := [(a, .inr (7, [.int x_count, .ref q_op, .ref q_arg, .int x_handlers, .ref q_handler, .ref q_depth, .ref q_over, .int (nI n), .ref q_flatOp, .ref q_flatArg, .int x_flatHandlers, .ref q_flatHandler, .int x_blockCount, .ref q_leader, .ref q_last, .ref q_height, .ref q_state, .ref q_begin, .ref q_drawn, .ref q_order, .int x_g, .ref q_starters, .int x_ran, .int x_ended, .int x_result, .int x_steps, .int x_emits, .ref q_emitted, .ref q_locals, .ref q_stack, .int x_top, .int x_at]))]) (wr := []) (k_runV (q0 := 0) (As := [.int 1]) (rest := [.int v]) (n := 1) S (c_MO_length1 l D cI cZ a q_op q_arg q_handler q_depth q_over q_flatOp q_flatArg q_flatHandler q_leader q_last q_height q_state q_begin q_drawn q_order q_starters q_emitted q_locals q_stack x_count x_handlers x_flatHandlers x_blockCount x_g x_ran x_ended x_result x_steps x_emits x_top x_at n) E0_b E0_t ql_MO_198 qi_MO_length qs_MO_length qn_MO qc_MO_length (by decide +kernel) rfl ⟨rfl, rfl⟩ ⟨Nat.le_of_ble_eq_true rfl, Nat.le_of_ble_eq_true rfl⟩ hK hP hD [0] rfl (by decide) rfl rfl hl.1 rfl (Nat.le_of_ble_eq_true rfl) d_MO_isPlace_7 ⟨Nat.zero_le _, Nat.zero_le _⟩) hP hD hS hA [0] [] [0] rfl rfl (by decide) (by decide) rfl (by decide) (fun H locs hP hD hS => ?_)
    refine lv_icmp_ge (tgt := 17) hx hb d_MO_isPlace_10 (by decide) (fun h10_2 => ?_) (fun h10_2 => ?_)
    · skip
      refine lv_iconst (v := 0) hx hb d_MO_isPlace_17 (by decide) ?_
      exact k_zret hx hb hr hlocks hK hP hD hS (by decide) (by rw [f_MO_isPlace1, if_neg h1_1, if_pos h10_2]) rfl d_MO_isPlace_18
    · skip
      refine lv_iconst (v := 1) hx hb d_MO_isPlace_13 (by decide) ?_
      refine lv_goto (tgt := 18) hx hb d_MO_isPlace_14 (by decide) ?_
      exact k_zret hx hb hr hlocks hK hP hD hS (by decide) (by rw [f_MO_isPlace1, if_neg h1_1, if_neg h10_2]) rfl d_MO_isPlace_18

theorem isPlace_n1 {n : Nat} {v : Int32} (hn : n < 2 ^ 31) (h : ¬ f_MO_isPlace1 n v = 0) : v = nI (tn v) ∧ tn v < n := by
  unfold f_MO_isPlace1 at h
  split at h
  · exact absurd rfl h
  · split at h
    · exact absurd rfl h
    · exact ⟨tn_eq (by assumption), tn_lt (by assumption) hn (by assumption)⟩
theorem isPlace_y1 {n : Nat} {v : Int32} (hn : n < 2 ^ 31) (h : v = nI (tn v) ∧ tn v < n) : f_MO_isPlace1 n v = 1 := by
  unfold f_MO_isPlace1
  rw [h.1, if_neg (nI_pos (by omega)), if_neg (nI_ge h.2 hn)]

def f_MO_operation1 (n : Nat) (f : Nat → Int32) (v : Int32) : Int32 := (if f_MO_isPlace1 n v = 0 then (-1) else f (tn v))
set_option maxHeartbeats 1000000 in
set_option maxRecDepth 100000 in
theorem c_MO_operation1 (l : Launch) (D : va_G) (cI cZ : ClassId) (a q_op q_arg q_handler q_depth q_over q_flatOp q_flatArg q_flatHandler q_leader q_last q_height q_state q_begin q_drawn q_order q_starters q_emitted q_locals q_stack : Nat) (x_count x_handlers x_flatHandlers x_blockCount x_g x_ran x_ended x_result x_steps x_emits x_top x_at : Int32) (n zi : Nat) (f : Nat → Int32) (v : Int32) (hnz : n ≤ zi) (hzi : zi < 2 ^ 31) : MG l y_MO_operation w_MO_operation (rmK 2 43) D classes (tyz cI cZ) E0 [.ref a, .int 1, .int v] [(a, .inr (7, [.int x_count, .ref q_op, .ref q_arg, .int x_handlers, .ref q_handler, .ref q_depth, .ref q_over, .int (nI n), .ref q_flatOp, .ref q_flatArg, .int x_flatHandlers, .ref q_flatHandler, .int x_blockCount, .ref q_leader, .ref q_last, .ref q_height, .ref q_state, .ref q_begin, .ref q_drawn, .ref q_order, .int x_g, .ref q_starters, .int x_ran, .int x_ended, .int x_result, .int x_steps, .int x_emits, .ref q_emitted, .ref q_locals, .ref q_stack, .int x_top, .int x_at])), (q_flatOp, .inl (cI, zi, .inl f))] (RI D classes (tyz cI cZ) (f_MO_operation1 n f v) [(a, .inr (7, [.int x_count, .ref q_op, .ref q_arg, .int x_handlers, .ref q_handler, .ref q_depth, .ref q_over, .int (nI n), .ref q_flatOp, .ref q_flatArg, .int x_flatHandlers, .ref q_flatHandler, .int x_blockCount, .ref q_leader, .ref q_last, .ref q_height, .ref q_state, .ref q_begin, .ref q_drawn, .ref q_order, .int x_g, .ref q_starters, .int x_ran, .int x_ended, .int x_result, .int x_steps, .int x_emits, .ref q_emitted, .ref q_locals, .ref q_stack, .int x_top, .int x_at])), (q_flatOp, .inl (cI, zi, .inl f))]) := by
  refine MG.of (cc := b_MO_operation) (maxL := 3) (ret := (some .int)) (own := "FlowFlattenerModel") rfl (by decide) rfl (Nat.le_of_ble_eq_true rfl) ?_
  intro p e s m below meth c A ls S hr hlocks hA hP hK hD hS hE hl
  have hx := S.1
  have hb := S.2.1
  have hl : lv_has ls 3 [(0, .ref a), (1, .int 1), (2, .int v)] := hl
  refine lv_aload_n hx hb d_MO_operation_0 rfl (lv_at hl 0 rfl) ?_
  refine lv_iload_n hx hb d_MO_operation_1 rfl (lv_at hl 1 rfl) ?_
  refine lv_iload_n hx hb d_MO_operation_2 rfl (lv_at hl 2 rfl) ?_
  refine k_goi (ws' := [(a, .inr (7, [.int x_count, .ref q_op, .ref q_arg, .int x_handlers, .ref q_handler, .ref q_depth, .ref q_over, .int (nI n), .ref q_flatOp, .ref q_flatArg, .int x_flatHandlers, .ref q_flatHandler, .int x_blockCount, .ref q_leader, .ref q_last, .ref q_height, .ref q_state, .ref q_begin, .ref q_drawn, .ref q_order, .int x_g, .ref q_starters, .int x_ran, .int x_ended, .int x_result, .int x_steps, .int x_emits, .ref q_emitted, .ref q_locals, .ref q_stack, .int x_top, .int x_at])), (q_flatOp, .inl (cI, zi, .inl f))]) (wr := [(q_flatOp, .inl (cI, zi, .inl f))]) (k_runV (q0 := 0) (As := [.int 1, .int v]) (rest := []) (n := 2) S (c_MO_isPlace1 l D cI cZ a q_op q_arg q_handler q_depth q_over q_flatOp q_flatArg q_flatHandler q_leader q_last q_height q_state q_begin q_drawn q_order q_starters q_emitted q_locals q_stack x_count x_handlers x_flatHandlers x_blockCount x_g x_ran x_ended x_result x_steps x_emits x_top x_at n v) E0_b E0_t ql_MO_202 qi_MO_isPlace qs_MO_isPlace qn_MO qc_MO_isPlace (by decide +kernel) rfl ⟨rfl, rfl⟩ ⟨Nat.le_of_ble_eq_true rfl, Nat.le_of_ble_eq_true rfl⟩ hK hP hD [0] rfl (by decide) rfl rfl hl.1 rfl (Nat.le_of_ble_eq_true rfl) d_MO_operation_3 ⟨Nat.zero_le _, Nat.zero_le _⟩) hP hD hS hA [0] [1] [1, 0] rfl rfl (by decide) (by decide) rfl (by decide) (fun H locs hP hD hS => ?_)
  refine lv_if_ne (tgt := 13) hx hb d_MO_operation_6 (by decide) (fun h6_1 => ?_) (fun h6_1 => ?_)
  · skip
    refine lv_iload_n hx hb d_MO_operation_13 rfl (lv_at hl 1 rfl) ?_
    refine lv_if_eq (tgt := 26) hx hb d_MO_operation_14 (by decide) (fun h14_2 => absurd h14_2 (by decide)) (fun h14_2 => ?_)
    refine lv_aload_n hx hb d_MO_operation_17 rfl (lv_at hl 0 rfl) ?_
    refine k_get (v := .ref q_flatOp) S in_MO hK hP 0 rfl rfl 8 (by decide) ql_MO_26 rfl d_MO_operation_18 ?_
    refine lv_iload_n hx hb d_MO_operation_21 rfl (lv_at hl 2 rfl) ?_
    refine k_top (y := nI (tn v)) (isPlace_n1 (n := n) (v := v) (by omega) (by assumption)).1 ?_
    refine k_ld (k := tn v) hx hb hK hP 1 0 rfl rfl rfl (by have := (isPlace_n1 (n := n) (v := v) (by omega) (by assumption)).2; omega) (by omega) d_MO_operation_22 ?_
    refine lv_goto (tgt := 32) hx hb d_MO_operation_23 (by decide) ?_
    exact k_iret hx hb hr hlocks hK hP hD hS (by rw [f_MO_operation1, if_neg h6_1]) rfl d_MO_operation_32
  · skip
    refine lv_iconst (v := (-1)) hx hb d_MO_operation_9 (by decide) ?_
    refine lv_goto (tgt := 32) hx hb d_MO_operation_10 (by decide) ?_
    exact k_iret hx hb hr hlocks hK hP hD hS (by rw [f_MO_operation1, if_pos h6_1]) rfl d_MO_operation_32

def f_MO_operand1 (n : Nat) (g : Nat → Int32) (v : Int32) : Int32 := (if f_MO_isPlace1 n v = 0 then (-2147483648) else g (tn v))
set_option maxHeartbeats 1000000 in
set_option maxRecDepth 100000 in
theorem c_MO_operand1 (l : Launch) (D : va_G) (cI cZ : ClassId) (a q_op q_arg q_handler q_depth q_over q_flatOp q_flatArg q_flatHandler q_leader q_last q_height q_state q_begin q_drawn q_order q_starters q_emitted q_locals q_stack : Nat) (x_count x_handlers x_flatHandlers x_blockCount x_g x_ran x_ended x_result x_steps x_emits x_top x_at : Int32) (n zi : Nat) (g : Nat → Int32) (v : Int32) (hnz : n ≤ zi) (hzi : zi < 2 ^ 31) : MG l y_MO_operand w_MO_operand (rmK 2 43) D classes (tyz cI cZ) E0 [.ref a, .int 1, .int v] [(a, .inr (7, [.int x_count, .ref q_op, .ref q_arg, .int x_handlers, .ref q_handler, .ref q_depth, .ref q_over, .int (nI n), .ref q_flatOp, .ref q_flatArg, .int x_flatHandlers, .ref q_flatHandler, .int x_blockCount, .ref q_leader, .ref q_last, .ref q_height, .ref q_state, .ref q_begin, .ref q_drawn, .ref q_order, .int x_g, .ref q_starters, .int x_ran, .int x_ended, .int x_result, .int x_steps, .int x_emits, .ref q_emitted, .ref q_locals, .ref q_stack, .int x_top, .int x_at])), (q_flatArg, .inl (cI, zi, .inl g))] (RI D classes (tyz cI cZ) (f_MO_operand1 n g v) [(a, .inr (7, [.int x_count, .ref q_op, .ref q_arg, .int x_handlers, .ref q_handler, .ref q_depth, .ref q_over, .int (nI n), .ref q_flatOp, .ref q_flatArg, .int x_flatHandlers, .ref q_flatHandler, .int x_blockCount, .ref q_leader, .ref q_last, .ref q_height, .ref q_state, .ref q_begin, .ref q_drawn, .ref q_order, .int x_g, .ref q_starters, .int x_ran, .int x_ended, .int x_result, .int x_steps, .int x_emits, .ref q_emitted, .ref q_locals, .ref q_stack, .int x_top, .int x_at])), (q_flatArg, .inl (cI, zi, .inl g))]) := by
  refine MG.of (cc := b_MO_operand) (maxL := 3) (ret := (some .int)) (own := "FlowFlattenerModel") rfl (by decide) rfl (Nat.le_of_ble_eq_true rfl) ?_
  intro p e s m below meth c A ls S hr hlocks hA hP hK hD hS hE hl
  have hx := S.1
  have hb := S.2.1
  have hl : lv_has ls 3 [(0, .ref a), (1, .int 1), (2, .int v)] := hl
  refine lv_aload_n hx hb d_MO_operand_0 rfl (lv_at hl 0 rfl) ?_
  refine lv_iload_n hx hb d_MO_operand_1 rfl (lv_at hl 1 rfl) ?_
  refine lv_iload_n hx hb d_MO_operand_2 rfl (lv_at hl 2 rfl) ?_
  refine k_goi (ws' := [(a, .inr (7, [.int x_count, .ref q_op, .ref q_arg, .int x_handlers, .ref q_handler, .ref q_depth, .ref q_over, .int (nI n), .ref q_flatOp, .ref q_flatArg, .int x_flatHandlers, .ref q_flatHandler, .int x_blockCount, .ref q_leader, .ref q_last, .ref q_height, .ref q_state, .ref q_begin, .ref q_drawn, .ref q_order, .int x_g, .ref q_starters, .int x_ran, .int x_ended, .int x_result, .int x_steps, .int x_emits, .ref q_emitted, .ref q_locals, .ref q_stack, .int x_top, .int x_at])), (q_flatArg, .inl (cI, zi, .inl g))]) (wr := [(q_flatArg, .inl (cI, zi, .inl g))]) (k_runV (q0 := 0) (As := [.int 1, .int v]) (rest := []) (n := 2) S (c_MO_isPlace1 l D cI cZ a q_op q_arg q_handler q_depth q_over q_flatOp q_flatArg q_flatHandler q_leader q_last q_height q_state q_begin q_drawn q_order q_starters q_emitted q_locals q_stack x_count x_handlers x_flatHandlers x_blockCount x_g x_ran x_ended x_result x_steps x_emits x_top x_at n v) E0_b E0_t ql_MO_202 qi_MO_isPlace qs_MO_isPlace qn_MO qc_MO_isPlace (by decide +kernel) rfl ⟨rfl, rfl⟩ ⟨Nat.le_of_ble_eq_true rfl, Nat.le_of_ble_eq_true rfl⟩ hK hP hD [0] rfl (by decide) rfl rfl hl.1 rfl (Nat.le_of_ble_eq_true rfl) d_MO_operand_3 ⟨Nat.zero_le _, Nat.zero_le _⟩) hP hD hS hA [0] [1] [1, 0] rfl rfl (by decide) (by decide) rfl (by decide) (fun H locs hP hD hS => ?_)
  refine lv_if_ne (tgt := 14) hx hb d_MO_operand_6 (by decide) (fun h6_1 => ?_) (fun h6_1 => ?_)
  · skip
    refine lv_iload_n hx hb d_MO_operand_14 rfl (lv_at hl 1 rfl) ?_
    refine lv_if_eq (tgt := 27) hx hb d_MO_operand_15 (by decide) (fun h15_2 => absurd h15_2 (by decide)) (fun h15_2 => ?_)
    refine lv_aload_n hx hb d_MO_operand_18 rfl (lv_at hl 0 rfl) ?_
    refine k_get (v := .ref q_flatArg) S in_MO hK hP 0 rfl rfl 9 (by decide) ql_MO_29 rfl d_MO_operand_19 ?_
    refine lv_iload_n hx hb d_MO_operand_22 rfl (lv_at hl 2 rfl) ?_
    refine k_top (y := nI (tn v)) (isPlace_n1 (n := n) (v := v) (by omega) (by assumption)).1 ?_
    refine k_ld (k := tn v) hx hb hK hP 1 0 rfl rfl rfl (by have := (isPlace_n1 (n := n) (v := v) (by omega) (by assumption)).2; omega) (by omega) d_MO_operand_23 ?_
    refine lv_goto (tgt := 33) hx hb d_MO_operand_24 (by decide) ?_
    exact k_iret hx hb hr hlocks hK hP hD hS (by rw [f_MO_operand1, if_neg h6_1]) rfl d_MO_operand_33
  · skip
    refine lv_ldc hx hb S.2.2.2.1 (S.2.2.2.2 _ ql_MO_59) d_MO_operand_9 ?_
    refine lv_goto (tgt := 33) hx hb d_MO_operand_11 (by decide) ?_
    exact k_iret hx hb hr hlocks hK hP hD hS (by rw [f_MO_operand1, if_pos h6_1]) rfl d_MO_operand_33

def f_MO_handlerAt1 (hn : Nat) (hd : Nat → Int32) (u : Int32) (v : Int32) : Int32 := (if u < 0 then (-1) else (if nI hn ≤ u then (-1) else (if f_MO_outside v 2 = 0 then hd (3 * (tn u) + (tn v)) else (-1))))
set_option maxHeartbeats 1000000 in
set_option maxRecDepth 100000 in
theorem c_MO_handlerAt1 (l : Launch) (D : va_G) (cI cZ : ClassId) (a q_op q_arg q_handler q_depth q_over q_flatOp q_flatArg q_flatHandler q_leader q_last q_height q_state q_begin q_drawn q_order q_starters q_emitted q_locals q_stack : Nat) (x_count x_handlers x_flatCount x_blockCount x_g x_ran x_ended x_result x_steps x_emits x_top x_at : Int32) (hn z : Nat) (hd : Nat → Int32) (u v : Int32) (hz : 3 * hn ≤ z) (hz2 : z < 2 ^ 31) : MG l y_MO_handlerAt w_MO_handlerAt (rmK 1 21) D classes (tyz cI cZ) E0 [.ref a, .int 1, .int u, .int v] [(a, .inr (7, [.int x_count, .ref q_op, .ref q_arg, .int x_handlers, .ref q_handler, .ref q_depth, .ref q_over, .int x_flatCount, .ref q_flatOp, .ref q_flatArg, .int (nI hn), .ref q_flatHandler, .int x_blockCount, .ref q_leader, .ref q_last, .ref q_height, .ref q_state, .ref q_begin, .ref q_drawn, .ref q_order, .int x_g, .ref q_starters, .int x_ran, .int x_ended, .int x_result, .int x_steps, .int x_emits, .ref q_emitted, .ref q_locals, .ref q_stack, .int x_top, .int x_at])), (q_flatHandler, .inl (cI, z, .inl hd))] (RI D classes (tyz cI cZ) (f_MO_handlerAt1 hn hd u v) [(a, .inr (7, [.int x_count, .ref q_op, .ref q_arg, .int x_handlers, .ref q_handler, .ref q_depth, .ref q_over, .int x_flatCount, .ref q_flatOp, .ref q_flatArg, .int (nI hn), .ref q_flatHandler, .int x_blockCount, .ref q_leader, .ref q_last, .ref q_height, .ref q_state, .ref q_begin, .ref q_drawn, .ref q_order, .int x_g, .ref q_starters, .int x_ran, .int x_ended, .int x_result, .int x_steps, .int x_emits, .ref q_emitted, .ref q_locals, .ref q_stack, .int x_top, .int x_at])), (q_flatHandler, .inl (cI, z, .inl hd))]) := by
  refine MG.of (cc := b_MO_handlerAt) (maxL := 4) (ret := (some .int)) (own := "FlowFlattenerModel") rfl (by decide) rfl (Nat.le_of_ble_eq_true rfl) ?_
  intro p e s m below meth c A ls S hr hlocks hA hP hK hD hS hE hl
  have hx := S.1
  have hb := S.2.1
  have hl : lv_has ls 4 [(0, .ref a), (1, .int 1), (2, .int u), (3, .int v)] := hl
  refine lv_iload_n hx hb d_MO_handlerAt_0 rfl (lv_at hl 2 rfl) ?_
  refine lv_if_lt (tgt := 31) hx hb d_MO_handlerAt_1 (by decide) (fun h1_1 => ?_) (fun h1_1 => ?_)
  · skip
    refine lv_iconst (v := (-1)) hx hb d_MO_handlerAt_31 (by decide) ?_
    exact k_iret hx hb hr hlocks hK hP hD hS (by rw [f_MO_handlerAt1, if_pos h1_1]) rfl d_MO_handlerAt_32
  · skip
    refine lv_iload_n hx hb d_MO_handlerAt_4 rfl (lv_at hl 2 rfl) ?_
    refine lv_iload_n hx hb d_MO_handlerAt_5 rfl (lv_at hl 1 rfl) ?_
    refine lv_if_eq (tgt := 16) hx hb d_MO_handlerAt_6 (by decide) (fun h6_2 => absurd h6_2 (by decide)) (fun h6_2 => ?_)
    refine lv_aload_n hx hb d_MO_handlerAt_9 rfl (lv_at hl 0 rfl) ?_
    refine k_get (v := .int (nI hn)) S in_MO hK hP 0 rfl rfl 10 (by decide) ql_MO_177 rfl d_MO_handlerAt_10 ?_
    refine lv_goto (tgt := 20) hx hb d_MO_handlerAt_13 (by decide) ?_
    refine lv_icmp_ge (tgt := 31) hx hb d_MO_handlerAt_20 (by decide) (fun h20_3 => ?_) (fun h20_3 => ?_)
    · skip
      refine lv_iconst (v := (-1)) hx hb d_MO_handlerAt_31 (by decide) ?_
      exact k_iret hx hb hr hlocks hK hP hD hS (by rw [f_MO_handlerAt1, if_neg h1_1, if_pos h20_3]) rfl d_MO_handlerAt_32
    · skip
      refine lv_iload_n hx hb d_MO_handlerAt_23 rfl (lv_at hl 3 rfl) ?_
      refine lv_iconst (v := 2) hx hb d_MO_handlerAt_24 (by decide) ?_
      refine k_goi (ws' := [(a, .inr (7, [.int x_count, .ref q_op, .ref q_arg, .int x_handlers, .ref q_handler, .ref q_depth, .ref q_over, .int x_flatCount, .ref q_flatOp, .ref q_flatArg, .int (nI hn), .ref q_flatHandler, .int x_blockCount, .ref q_leader, .ref q_last, .ref q_height, .ref q_state, .ref q_begin, .ref q_drawn, .ref q_order, .int x_g, .ref q_starters, .int x_ran, .int x_ended, .int x_result, .int x_steps, .int x_emits, .ref q_emitted, .ref q_locals, .ref q_stack, .int x_top, .int x_at])), (q_flatHandler, .inl (cI, z, .inl hd))]) (wr := [(a, .inr (7, [.int x_count, .ref q_op, .ref q_arg, .int x_handlers, .ref q_handler, .ref q_depth, .ref q_over, .int x_flatCount, .ref q_flatOp, .ref q_flatArg, .int (nI hn), .ref q_flatHandler, .int x_blockCount, .ref q_leader, .ref q_last, .ref q_height, .ref q_state, .ref q_begin, .ref q_drawn, .ref q_order, .int x_g, .ref q_starters, .int x_ran, .int x_ended, .int x_result, .int x_steps, .int x_emits, .ref q_emitted, .ref q_locals, .ref q_stack, .int x_top, .int x_at])), (q_flatHandler, .inl (cI, z, .inl hd))]) (k_runS (As := [.int v, .int 2]) (rest := []) (n := 2) S (c_MO_outside l D cI cZ v 2) E0_b E0_t ql_MO_83 qt_MO_outside qn_MO qc_MO_outside (by decide +kernel) rfl ⟨rfl, rfl⟩ ⟨Nat.le_of_ble_eq_true rfl, Nat.le_of_ble_eq_true rfl⟩ hK hP hD [] rfl (by decide) hl.1 rfl (Nat.le_of_ble_eq_true rfl) d_MO_handlerAt_25 ⟨Nat.zero_le _, Nat.zero_le _⟩) hP hD hS hA [] [0, 1] [0, 1] rfl rfl (by decide) (by decide) rfl (by decide) (fun H locs hP hD hS => ?_)
      refine lv_if_eq (tgt := 33) hx hb d_MO_handlerAt_28 (by decide) (fun h28_4 => ?_) (fun h28_4 => ?_)
      · skip
        refine lv_iload_n hx hb d_MO_handlerAt_33 rfl (lv_at hl 1 rfl) ?_
        refine lv_if_eq (tgt := 50) hx hb d_MO_handlerAt_34 (by decide) (fun h34_5 => absurd h34_5 (by decide)) (fun h34_5 => ?_)
        refine lv_aload_n hx hb d_MO_handlerAt_37 rfl (lv_at hl 0 rfl) ?_
        refine k_get (v := .ref q_flatHandler) S in_MO hK hP 0 rfl rfl 11 (by decide) ql_MO_32 rfl d_MO_handlerAt_38 ?_
        refine lv_iconst (v := 3) hx hb d_MO_handlerAt_41 (by decide) ?_
        refine lv_iload_n hx hb d_MO_handlerAt_42 rfl (lv_at hl 2 rfl) ?_
        refine k_top (y := nI (tn u)) (tn_eq (by assumption)) ?_
        refine lv_imul hx hb d_MO_handlerAt_43 ?_
        refine k_top (y := nI (3 * (tn u))) (nc_mul (by decide) rfl) ?_
        refine lv_iload_n hx hb d_MO_handlerAt_44 rfl (lv_at hl 3 rfl) ?_
        refine k_top (y := nI (tn v)) (out_n (v := v) (k := 2) (by decide) (by assumption)).1 ?_
        refine lv_iadd hx hb d_MO_handlerAt_45 ?_
        refine k_top (y := nI (3 * (tn u) + (tn v))) (nc_add rfl rfl) ?_
        refine k_ld (k := 3 * (tn u) + (tn v)) hx hb hK hP 1 0 rfl rfl rfl (by have h1 := tn_lt (n := hn) (x := u) (by assumption) (by omega) (by assumption); have h2 := (out_n (v := v) (k := 2) (by decide) (by assumption)).2; omega) (by omega) d_MO_handlerAt_46 ?_
        refine lv_goto (tgt := 60) hx hb d_MO_handlerAt_47 (by decide) ?_
        exact k_iret hx hb hr hlocks hK hP hD hS (by rw [f_MO_handlerAt1, if_neg h1_1, if_neg h20_3, if_pos h28_4]) rfl d_MO_handlerAt_60
      · skip
        refine lv_iconst (v := (-1)) hx hb d_MO_handlerAt_31 (by decide) ?_
        exact k_iret hx hb hr hlocks hK hP hD hS (by rw [f_MO_handlerAt1, if_neg h1_1, if_neg h20_3, if_neg h28_4]) rfl d_MO_handlerAt_32

theorem d_MO_blocks_0 : decode b_MO_blocks 0 = .ok (.aload_n 0, 1) := by decide +kernel
theorem d_MO_blocks_1 : decode b_MO_blocks 1 = .ok (.getfield 116, 3) := by decide +kernel
theorem d_MO_blocks_4 : decode b_MO_blocks 4 = .ok (.ireturn, 1) := by decide +kernel
set_option maxHeartbeats 1000000 in
set_option maxRecDepth 100000 in
theorem c_MO_blocks (l : Launch) (D : va_G) (cI cZ : ClassId) (a q_op q_arg q_handler q_depth q_over q_flatOp q_flatArg q_flatHandler q_leader q_last q_height q_state q_begin q_drawn q_order q_starters q_emitted q_locals q_stack : Nat) (x_count x_handlers x_flatCount x_flatHandlers x_g x_ran x_ended x_result x_steps x_emits x_top x_at : Int32) (bc : Nat) : MG l y_MO_blocks w_MO_blocks (rmK 0 0) D classes (tyz cI cZ) E0 [.ref a] [(a, .inr (7, [.int x_count, .ref q_op, .ref q_arg, .int x_handlers, .ref q_handler, .ref q_depth, .ref q_over, .int x_flatCount, .ref q_flatOp, .ref q_flatArg, .int x_flatHandlers, .ref q_flatHandler, .int (nI bc), .ref q_leader, .ref q_last, .ref q_height, .ref q_state, .ref q_begin, .ref q_drawn, .ref q_order, .int x_g, .ref q_starters, .int x_ran, .int x_ended, .int x_result, .int x_steps, .int x_emits, .ref q_emitted, .ref q_locals, .ref q_stack, .int x_top, .int x_at]))] (RI D classes (tyz cI cZ) (nI bc) [(a, .inr (7, [.int x_count, .ref q_op, .ref q_arg, .int x_handlers, .ref q_handler, .ref q_depth, .ref q_over, .int x_flatCount, .ref q_flatOp, .ref q_flatArg, .int x_flatHandlers, .ref q_flatHandler, .int (nI bc), .ref q_leader, .ref q_last, .ref q_height, .ref q_state, .ref q_begin, .ref q_drawn, .ref q_order, .int x_g, .ref q_starters, .int x_ran, .int x_ended, .int x_result, .int x_steps, .int x_emits, .ref q_emitted, .ref q_locals, .ref q_stack, .int x_top, .int x_at]))]) := by
  refine MG.of (cc := b_MO_blocks) (maxL := 1) (ret := (some .int)) (own := "FlowFlattenerModel") rfl (by decide) rfl (Nat.le_of_ble_eq_true rfl) ?_
  intro p e s m below meth c A ls S hr hlocks hA hP hK hD hS hE hl
  have hx := S.1
  have hb := S.2.1
  have hl : lv_has ls 1 [(0, .ref a)] := hl
  refine lv_aload_n hx hb d_MO_blocks_0 rfl (lv_at hl 0 rfl) ?_
  refine k_get (v := .int (nI bc)) S in_MO hK hP 0 rfl rfl 12 (by decide) ql_MO_116 rfl d_MO_blocks_1 ?_
  exact k_iret hx hb hr hlocks hK hP hD hS rfl rfl d_MO_blocks_4

theorem d_MO_block_0 : decode b_MO_block 0 = .ok (.iload_n 1, 1) := by decide +kernel
theorem d_MO_block_1 : decode b_MO_block 1 = .ok (.ifCond .lt 11, 3) := by decide +kernel
theorem d_MO_block_4 : decode b_MO_block 4 = .ok (.iload_n 1, 1) := by decide +kernel
theorem d_MO_block_5 : decode b_MO_block 5 = .ok (.aload_n 0, 1) := by decide +kernel
theorem d_MO_block_6 : decode b_MO_block 6 = .ok (.getfield 116, 3) := by decide +kernel
theorem d_MO_block_9 : decode b_MO_block 9 = .ok (.if_icmp .lt 5, 3) := by decide +kernel
theorem d_MO_block_12 : decode b_MO_block 12 = .ok (.iconst (-1), 1) := by decide +kernel
theorem d_MO_block_13 : decode b_MO_block 13 = .ok (.ireturn, 1) := by decide +kernel
theorem d_MO_block_14 : decode b_MO_block 14 = .ok (.iload_n 2, 1) := by decide +kernel
theorem d_MO_block_15 : decode b_MO_block 15 = .ok (.ifCond .ne 12, 3) := by decide +kernel
theorem d_MO_block_18 : decode b_MO_block 18 = .ok (.aload_n 0, 1) := by decide +kernel
theorem d_MO_block_19 : decode b_MO_block 19 = .ok (.getfield 44, 3) := by decide +kernel
theorem d_MO_block_22 : decode b_MO_block 22 = .ok (.iload_n 1, 1) := by decide +kernel
theorem d_MO_block_23 : decode b_MO_block 23 = .ok (.iaload, 1) := by decide +kernel
theorem d_MO_block_24 : decode b_MO_block 24 = .ok (.goto 32, 3) := by decide +kernel
theorem d_MO_block_27 : decode b_MO_block 27 = .ok (.iload_n 2, 1) := by decide +kernel
theorem d_MO_block_28 : decode b_MO_block 28 = .ok (.iconst 1, 1) := by decide +kernel
theorem d_MO_block_29 : decode b_MO_block 29 = .ok (.if_icmp .ne 12, 3) := by decide +kernel
theorem d_MO_block_32 : decode b_MO_block 32 = .ok (.aload_n 0, 1) := by decide +kernel
theorem d_MO_block_33 : decode b_MO_block 33 = .ok (.getfield 47, 3) := by decide +kernel
theorem d_MO_block_36 : decode b_MO_block 36 = .ok (.iload_n 1, 1) := by decide +kernel
theorem d_MO_block_37 : decode b_MO_block 37 = .ok (.iaload, 1) := by decide +kernel
theorem d_MO_block_38 : decode b_MO_block 38 = .ok (.goto 18, 3) := by decide +kernel
theorem d_MO_block_41 : decode b_MO_block 41 = .ok (.iload_n 2, 1) := by decide +kernel
theorem d_MO_block_42 : decode b_MO_block 42 = .ok (.iconst 2, 1) := by decide +kernel
theorem d_MO_block_43 : decode b_MO_block 43 = .ok (.if_icmp .ne 12, 3) := by decide +kernel
theorem d_MO_block_46 : decode b_MO_block 46 = .ok (.aload_n 0, 1) := by decide +kernel
theorem d_MO_block_47 : decode b_MO_block 47 = .ok (.getfield 35, 3) := by decide +kernel
theorem d_MO_block_50 : decode b_MO_block 50 = .ok (.iload_n 1, 1) := by decide +kernel
theorem d_MO_block_51 : decode b_MO_block 51 = .ok (.iaload, 1) := by decide +kernel
theorem d_MO_block_52 : decode b_MO_block 52 = .ok (.goto 4, 3) := by decide +kernel
theorem d_MO_block_55 : decode b_MO_block 55 = .ok (.iconst (-1), 1) := by decide +kernel
theorem d_MO_block_56 : decode b_MO_block 56 = .ok (.ireturn, 1) := by decide +kernel
def f_MO_block (bc : Nat) (le : Nat → Int32) (st : Nat → Int32) (fi : Nat → Int32) (u : Int32) (v : Int32) : Int32 := (if u < 0 then (-1) else (if u < nI bc then (if v = 0 then st (tn u) else (if v = 1 then fi (tn u) else (if v = 2 then le (tn u) else (-1)))) else (-1)))
set_option maxHeartbeats 1000000 in
set_option maxRecDepth 100000 in
theorem c_MO_block (l : Launch) (D : va_G) (cI cZ : ClassId) (a q_op q_arg q_handler q_depth q_over q_flatOp q_flatArg q_flatHandler q_leader q_last q_height q_state q_begin q_drawn q_order q_starters q_emitted q_locals q_stack : Nat) (x_count x_handlers x_flatCount x_flatHandlers x_g x_ran x_ended x_result x_steps x_emits x_top x_at : Int32) (bc : Nat) (le st fi : Nat → Int32) (u v : Int32) (hb32 : bc ≤ 32) : MG l y_MO_block w_MO_block (rmK 0 0) D classes (tyz cI cZ) E0 [.ref a, .int u, .int v] [(a, .inr (7, [.int x_count, .ref q_op, .ref q_arg, .int x_handlers, .ref q_handler, .ref q_depth, .ref q_over, .int x_flatCount, .ref q_flatOp, .ref q_flatArg, .int x_flatHandlers, .ref q_flatHandler, .int (nI bc), .ref q_leader, .ref q_last, .ref q_height, .ref q_state, .ref q_begin, .ref q_drawn, .ref q_order, .int x_g, .ref q_starters, .int x_ran, .int x_ended, .int x_result, .int x_steps, .int x_emits, .ref q_emitted, .ref q_locals, .ref q_stack, .int x_top, .int x_at])), (q_leader, .inl (cI, 32, .inl le)), (q_state, .inl (cI, 32, .inl st)), (q_begin, .inl (cI, 32, .inl fi))] (RI D classes (tyz cI cZ) (f_MO_block bc le st fi u v) [(a, .inr (7, [.int x_count, .ref q_op, .ref q_arg, .int x_handlers, .ref q_handler, .ref q_depth, .ref q_over, .int x_flatCount, .ref q_flatOp, .ref q_flatArg, .int x_flatHandlers, .ref q_flatHandler, .int (nI bc), .ref q_leader, .ref q_last, .ref q_height, .ref q_state, .ref q_begin, .ref q_drawn, .ref q_order, .int x_g, .ref q_starters, .int x_ran, .int x_ended, .int x_result, .int x_steps, .int x_emits, .ref q_emitted, .ref q_locals, .ref q_stack, .int x_top, .int x_at])), (q_leader, .inl (cI, 32, .inl le)), (q_state, .inl (cI, 32, .inl st)), (q_begin, .inl (cI, 32, .inl fi))]) := by
  refine MG.of (cc := b_MO_block) (maxL := 3) (ret := (some .int)) (own := "FlowFlattenerModel") rfl (by decide) rfl (Nat.le_of_ble_eq_true rfl) ?_
  intro p e s m below meth c A ls S hr hlocks hA hP hK hD hS hE hl
  have hx := S.1
  have hb := S.2.1
  have hl : lv_has ls 3 [(0, .ref a), (1, .int u), (2, .int v)] := hl
  refine lv_iload_n hx hb d_MO_block_0 rfl (lv_at hl 1 rfl) ?_
  refine lv_if_lt (tgt := 12) hx hb d_MO_block_1 (by decide) (fun h1_1 => ?_) (fun h1_1 => ?_)
  · skip
    refine lv_iconst (v := (-1)) hx hb d_MO_block_12 (by decide) ?_
    exact k_iret hx hb hr hlocks hK hP hD hS (by rw [f_MO_block, if_pos h1_1]) rfl d_MO_block_13
  · skip
    refine lv_iload_n hx hb d_MO_block_4 rfl (lv_at hl 1 rfl) ?_
    refine lv_aload_n hx hb d_MO_block_5 rfl (lv_at hl 0 rfl) ?_
    refine k_get (v := .int (nI bc)) S in_MO hK hP 0 rfl rfl 12 (by decide) ql_MO_116 rfl d_MO_block_6 ?_
    refine lv_icmp_lt (tgt := 14) hx hb d_MO_block_9 (by decide) (fun h9_2 => ?_) (fun h9_2 => ?_)
    · skip
      refine lv_iload_n hx hb d_MO_block_14 rfl (lv_at hl 2 rfl) ?_
      refine lv_if_ne (tgt := 27) hx hb d_MO_block_15 (by decide) (fun h15_3 => ?_) (fun h15_3 => ?_)
      · skip
        refine lv_iload_n hx hb d_MO_block_27 rfl (lv_at hl 2 rfl) ?_
        refine lv_iconst (v := 1) hx hb d_MO_block_28 (by decide) ?_
        refine lv_icmp_ne (tgt := 41) hx hb d_MO_block_29 (by decide) (fun h29_4 => ?_) (fun h29_4 => ?_)
        · skip
          refine lv_iload_n hx hb d_MO_block_41 rfl (lv_at hl 2 rfl) ?_
          refine lv_iconst (v := 2) hx hb d_MO_block_42 (by decide) ?_
          refine lv_icmp_ne (tgt := 55) hx hb d_MO_block_43 (by decide) (fun h43_5 => ?_) (fun h43_5 => ?_)
          · skip
            refine lv_iconst (v := (-1)) hx hb d_MO_block_55 (by decide) ?_
            exact k_iret hx hb hr hlocks hK hP hD hS (by rw [f_MO_block, if_neg h1_1, if_pos h9_2, if_neg h15_3, if_neg h29_4, if_neg h43_5]) rfl d_MO_block_56
          · skip
            refine lv_aload_n hx hb d_MO_block_46 rfl (lv_at hl 0 rfl) ?_
            refine k_get (v := .ref q_leader) S in_MO hK hP 0 rfl rfl 13 (by decide) ql_MO_35 rfl d_MO_block_47 ?_
            refine lv_iload_n hx hb d_MO_block_50 rfl (lv_at hl 1 rfl) ?_
            refine k_top (y := nI (tn u)) (tn_eq (by assumption)) ?_
            refine k_ld (k := tn u) hx hb hK hP 1 0 rfl rfl rfl (by have := tn_lt2 (n := bc) (x := u) (by assumption) (by omega) (by assumption); omega) (by decide) d_MO_block_51 ?_
            refine lv_goto (tgt := 56) hx hb d_MO_block_52 (by decide) ?_
            exact k_iret hx hb hr hlocks hK hP hD hS (by rw [f_MO_block, if_neg h1_1, if_pos h9_2, if_neg h15_3, if_neg h29_4, if_pos h43_5]) rfl d_MO_block_56
        · skip
          refine lv_aload_n hx hb d_MO_block_32 rfl (lv_at hl 0 rfl) ?_
          refine k_get (v := .ref q_begin) S in_MO hK hP 0 rfl rfl 17 (by decide) ql_MO_47 rfl d_MO_block_33 ?_
          refine lv_iload_n hx hb d_MO_block_36 rfl (lv_at hl 1 rfl) ?_
          refine k_top (y := nI (tn u)) (tn_eq (by assumption)) ?_
          refine k_ld (k := tn u) hx hb hK hP 3 0 rfl rfl rfl (by have := tn_lt2 (n := bc) (x := u) (by assumption) (by omega) (by assumption); omega) (by decide) d_MO_block_37 ?_
          refine lv_goto (tgt := 56) hx hb d_MO_block_38 (by decide) ?_
          exact k_iret hx hb hr hlocks hK hP hD hS (by rw [f_MO_block, if_neg h1_1, if_pos h9_2, if_neg h15_3, if_pos h29_4]) rfl d_MO_block_56
      · skip
        refine lv_aload_n hx hb d_MO_block_18 rfl (lv_at hl 0 rfl) ?_
        refine k_get (v := .ref q_state) S in_MO hK hP 0 rfl rfl 16 (by decide) ql_MO_44 rfl d_MO_block_19 ?_
        refine lv_iload_n hx hb d_MO_block_22 rfl (lv_at hl 1 rfl) ?_
        refine k_top (y := nI (tn u)) (tn_eq (by assumption)) ?_
        refine k_ld (k := tn u) hx hb hK hP 2 0 rfl rfl rfl (by have := tn_lt2 (n := bc) (x := u) (by assumption) (by omega) (by assumption); omega) (by decide) d_MO_block_23 ?_
        refine lv_goto (tgt := 56) hx hb d_MO_block_24 (by decide) ?_
        exact k_iret hx hb hr hlocks hK hP hD hS (by rw [f_MO_block, if_neg h1_1, if_pos h9_2, if_pos h15_3]) rfl d_MO_block_56
    · skip
      refine lv_iconst (v := (-1)) hx hb d_MO_block_12 (by decide) ?_
      exact k_iret hx hb hr hlocks hK hP hD hS (by rw [f_MO_block, if_neg h1_1, if_neg h9_2]) rfl d_MO_block_13

theorem d_MO_starter_0 : decode b_MO_starter 0 = .ok (.iload_n 1, 1) := by decide +kernel
theorem d_MO_starter_1 : decode b_MO_starter 1 = .ok (.iconst 3, 1) := by decide +kernel
theorem d_MO_starter_2 : decode b_MO_starter 2 = .ok (.invokestatic 83, 3) := by decide +kernel
theorem d_MO_starter_5 : decode b_MO_starter 5 = .ok (.ifCond .eq 5, 3) := by decide +kernel
theorem d_MO_starter_8 : decode b_MO_starter 8 = .ok (.iconst 0, 1) := by decide +kernel
theorem d_MO_starter_9 : decode b_MO_starter 9 = .ok (.ireturn, 1) := by decide +kernel
theorem d_MO_starter_10 : decode b_MO_starter 10 = .ok (.aload_n 0, 1) := by decide +kernel
theorem d_MO_starter_11 : decode b_MO_starter 11 = .ok (.getfield 56, 3) := by decide +kernel
theorem d_MO_starter_14 : decode b_MO_starter 14 = .ok (.iload_n 1, 1) := by decide +kernel
theorem d_MO_starter_15 : decode b_MO_starter 15 = .ok (.iload_n 2, 1) := by decide +kernel
theorem d_MO_starter_16 : decode b_MO_starter 16 = .ok (.iastore, 1) := by decide +kernel
theorem d_MO_starter_17 : decode b_MO_starter 17 = .ok (.iconst 1, 1) := by decide +kernel
theorem d_MO_starter_18 : decode b_MO_starter 18 = .ok (.ireturn, 1) := by decide +kernel
def f_MO_starter (sa : Nat → Int32) (u : Int32) (v : Int32) : Int32 × (Nat → Int32) := (if f_MO_outside u 3 = 0 then (1, upd sa (tn u) v) else (0, sa))
set_option maxHeartbeats 1000000 in
set_option maxRecDepth 100000 in
theorem c_MO_starter (l : Launch) (D : va_G) (cI cZ : ClassId) (a q_op q_arg q_handler q_depth q_over q_flatOp q_flatArg q_flatHandler q_leader q_last q_height q_state q_begin q_drawn q_order q_starters q_emitted q_locals q_stack : Nat) (x_count x_handlers x_flatCount x_flatHandlers x_blockCount x_g x_ran x_ended x_result x_steps x_emits x_top x_at : Int32) (sa : Nat → Int32) (u v : Int32) : MG l y_MO_starter w_MO_starter (rmK 1 21) D classes (tyz cI cZ) E0 [.ref a, .int u, .int v] [(a, .inr (7, [.int x_count, .ref q_op, .ref q_arg, .int x_handlers, .ref q_handler, .ref q_depth, .ref q_over, .int x_flatCount, .ref q_flatOp, .ref q_flatArg, .int x_flatHandlers, .ref q_flatHandler, .int x_blockCount, .ref q_leader, .ref q_last, .ref q_height, .ref q_state, .ref q_begin, .ref q_drawn, .ref q_order, .int x_g, .ref q_starters, .int x_ran, .int x_ended, .int x_result, .int x_steps, .int x_emits, .ref q_emitted, .ref q_locals, .ref q_stack, .int x_top, .int x_at])), (q_starters, .inl (cI, 4, .inl sa))] (RI D classes (tyz cI cZ) ((f_MO_starter sa u v).1) [(a, .inr (7, [.int x_count, .ref q_op, .ref q_arg, .int x_handlers, .ref q_handler, .ref q_depth, .ref q_over, .int x_flatCount, .ref q_flatOp, .ref q_flatArg, .int x_flatHandlers, .ref q_flatHandler, .int x_blockCount, .ref q_leader, .ref q_last, .ref q_height, .ref q_state, .ref q_begin, .ref q_drawn, .ref q_order, .int x_g, .ref q_starters, .int x_ran, .int x_ended, .int x_result, .int x_steps, .int x_emits, .ref q_emitted, .ref q_locals, .ref q_stack, .int x_top, .int x_at])), (q_starters, .inl (cI, 4, .inl ((f_MO_starter sa u v).2)))]) := by
  refine MG.of (cc := b_MO_starter) (maxL := 3) (ret := (some .boolean)) (own := "FlowFlattenerModel") rfl (by decide) rfl (Nat.le_of_ble_eq_true rfl) ?_
  intro p e s m below meth c A ls S hr hlocks hA hP hK hD hS hE hl
  have hx := S.1
  have hb := S.2.1
  have hl : lv_has ls 3 [(0, .ref a), (1, .int u), (2, .int v)] := hl
  refine lv_iload_n hx hb d_MO_starter_0 rfl (lv_at hl 1 rfl) ?_
  refine lv_iconst (v := 3) hx hb d_MO_starter_1 (by decide) ?_
  refine k_goi (ws' := [(a, .inr (7, [.int x_count, .ref q_op, .ref q_arg, .int x_handlers, .ref q_handler, .ref q_depth, .ref q_over, .int x_flatCount, .ref q_flatOp, .ref q_flatArg, .int x_flatHandlers, .ref q_flatHandler, .int x_blockCount, .ref q_leader, .ref q_last, .ref q_height, .ref q_state, .ref q_begin, .ref q_drawn, .ref q_order, .int x_g, .ref q_starters, .int x_ran, .int x_ended, .int x_result, .int x_steps, .int x_emits, .ref q_emitted, .ref q_locals, .ref q_stack, .int x_top, .int x_at])), (q_starters, .inl (cI, 4, .inl sa))]) (wr := [(a, .inr (7, [.int x_count, .ref q_op, .ref q_arg, .int x_handlers, .ref q_handler, .ref q_depth, .ref q_over, .int x_flatCount, .ref q_flatOp, .ref q_flatArg, .int x_flatHandlers, .ref q_flatHandler, .int x_blockCount, .ref q_leader, .ref q_last, .ref q_height, .ref q_state, .ref q_begin, .ref q_drawn, .ref q_order, .int x_g, .ref q_starters, .int x_ran, .int x_ended, .int x_result, .int x_steps, .int x_emits, .ref q_emitted, .ref q_locals, .ref q_stack, .int x_top, .int x_at])), (q_starters, .inl (cI, 4, .inl sa))]) (k_runS (As := [.int u, .int 3]) (rest := []) (n := 2) S (c_MO_outside l D cI cZ u 3) E0_b E0_t ql_MO_83 qt_MO_outside qn_MO qc_MO_outside (by decide +kernel) rfl ⟨rfl, rfl⟩ ⟨Nat.le_of_ble_eq_true rfl, Nat.le_of_ble_eq_true rfl⟩ hK hP hD [] rfl (by decide) hl.1 rfl (Nat.le_of_ble_eq_true rfl) d_MO_starter_2 ⟨Nat.zero_le _, Nat.zero_le _⟩) hP hD hS hA [] [0, 1] [0, 1] rfl rfl (by decide) (by decide) rfl (by decide) (fun H locs hP hD hS => ?_)
  refine lv_if_eq (tgt := 10) hx hb d_MO_starter_5 (by decide) (fun h5_1 => ?_) (fun h5_1 => ?_)
  · skip
    refine lv_aload_n hx hb d_MO_starter_10 rfl (lv_at hl 0 rfl) ?_
    refine k_get (v := .ref q_starters) S in_MO hK hP 0 rfl rfl 21 (by decide) ql_MO_56 rfl d_MO_starter_11 ?_
    refine lv_iload_n hx hb d_MO_starter_14 rfl (lv_at hl 1 rfl) ?_
    refine k_top (y := nI (tn u)) (out_n (v := u) (k := 3) (by decide) (by assumption)).1 ?_
    refine lv_iload_n hx hb d_MO_starter_15 rfl (lv_at hl 2 rfl) ?_
    refine k_st (k := tn u) (x := v) (ws' := [(a, .inr (7, [.int x_count, .ref q_op, .ref q_arg, .int x_handlers, .ref q_handler, .ref q_depth, .ref q_over, .int x_flatCount, .ref q_flatOp, .ref q_flatArg, .int x_flatHandlers, .ref q_flatHandler, .int x_blockCount, .ref q_leader, .ref q_last, .ref q_height, .ref q_state, .ref q_begin, .ref q_drawn, .ref q_order, .int x_g, .ref q_starters, .int x_ran, .int x_ended, .int x_result, .int x_steps, .int x_emits, .ref q_emitted, .ref q_locals, .ref q_stack, .int x_top, .int x_at])), (q_starters, .inl (cI, 4, .inl (upd sa (tn u) v)))]) hx hb hK hP hD hS 1 0 rfl rfl rfl (by have := (out_n (v := u) (k := 3) (by decide) (by assumption)).2; omega) (by decide) rfl d_MO_starter_16 (fun H locs hP hD hS => ?_)
    refine lv_iconst (v := 1) hx hb d_MO_starter_17 (by decide) ?_
    exact k_zret hx hb hr hlocks hK hP hD hS (by decide) (by rw [f_MO_starter, if_pos h5_1]) (by rw [f_MO_starter, if_pos h5_1]) d_MO_starter_18
  · skip
    refine lv_iconst (v := 0) hx hb d_MO_starter_8 (by decide) ?_
    exact k_zret hx hb hr hlocks hK hP hD hS (by decide) (by rw [f_MO_starter, if_neg h5_1]) (by rw [f_MO_starter, if_neg h5_1]) d_MO_starter_9

theorem d_MO_result_0 : decode b_MO_result 0 = .ok (.aload_n 0, 1) := by decide +kernel
theorem d_MO_result_1 : decode b_MO_result 1 = .ok (.getfield 60, 3) := by decide +kernel
theorem d_MO_result_4 : decode b_MO_result 4 = .ok (.ireturn, 1) := by decide +kernel
set_option maxHeartbeats 1000000 in
set_option maxRecDepth 100000 in
theorem c_MO_result (l : Launch) (D : va_G) (cI cZ : ClassId) (a q_op q_arg q_handler q_depth q_over q_flatOp q_flatArg q_flatHandler q_leader q_last q_height q_state q_begin q_drawn q_order q_starters q_emitted q_locals q_stack : Nat) (x_count x_handlers x_flatCount x_flatHandlers x_blockCount x_g x_ran x_ended x_result x_steps x_emits x_top x_at : Int32) : MG l y_MO_result w_MO_result (rmK 0 0) D classes (tyz cI cZ) E0 [.ref a] [(a, .inr (7, [.int x_count, .ref q_op, .ref q_arg, .int x_handlers, .ref q_handler, .ref q_depth, .ref q_over, .int x_flatCount, .ref q_flatOp, .ref q_flatArg, .int x_flatHandlers, .ref q_flatHandler, .int x_blockCount, .ref q_leader, .ref q_last, .ref q_height, .ref q_state, .ref q_begin, .ref q_drawn, .ref q_order, .int x_g, .ref q_starters, .int x_ran, .int x_ended, .int x_result, .int x_steps, .int x_emits, .ref q_emitted, .ref q_locals, .ref q_stack, .int x_top, .int x_at]))] (RI D classes (tyz cI cZ) x_result [(a, .inr (7, [.int x_count, .ref q_op, .ref q_arg, .int x_handlers, .ref q_handler, .ref q_depth, .ref q_over, .int x_flatCount, .ref q_flatOp, .ref q_flatArg, .int x_flatHandlers, .ref q_flatHandler, .int x_blockCount, .ref q_leader, .ref q_last, .ref q_height, .ref q_state, .ref q_begin, .ref q_drawn, .ref q_order, .int x_g, .ref q_starters, .int x_ran, .int x_ended, .int x_result, .int x_steps, .int x_emits, .ref q_emitted, .ref q_locals, .ref q_stack, .int x_top, .int x_at]))]) := by
  refine MG.of (cc := b_MO_result) (maxL := 1) (ret := (some .int)) (own := "FlowFlattenerModel") rfl (by decide) rfl (Nat.le_of_ble_eq_true rfl) ?_
  intro p e s m below meth c A ls S hr hlocks hA hP hK hD hS hE hl
  have hx := S.1
  have hb := S.2.1
  have hl : lv_has ls 1 [(0, .ref a)] := hl
  refine lv_aload_n hx hb d_MO_result_0 rfl (lv_at hl 0 rfl) ?_
  refine k_get (v := .int x_result) S in_MO hK hP 0 rfl rfl 24 (by decide) ql_MO_60 rfl d_MO_result_1 ?_
  exact k_iret hx hb hr hlocks hK hP hD hS rfl rfl d_MO_result_4

theorem d_MO_steps_0 : decode b_MO_steps 0 = .ok (.aload_n 0, 1) := by decide +kernel
theorem d_MO_steps_1 : decode b_MO_steps 1 = .ok (.getfield 262, 3) := by decide +kernel
theorem d_MO_steps_4 : decode b_MO_steps 4 = .ok (.ireturn, 1) := by decide +kernel
set_option maxHeartbeats 1000000 in
set_option maxRecDepth 100000 in
theorem c_MO_steps (l : Launch) (D : va_G) (cI cZ : ClassId) (a q_op q_arg q_handler q_depth q_over q_flatOp q_flatArg q_flatHandler q_leader q_last q_height q_state q_begin q_drawn q_order q_starters q_emitted q_locals q_stack : Nat) (x_count x_handlers x_flatCount x_flatHandlers x_blockCount x_g x_ran x_ended x_result x_steps x_emits x_top x_at : Int32) : MG l y_MO_steps w_MO_steps (rmK 0 0) D classes (tyz cI cZ) E0 [.ref a] [(a, .inr (7, [.int x_count, .ref q_op, .ref q_arg, .int x_handlers, .ref q_handler, .ref q_depth, .ref q_over, .int x_flatCount, .ref q_flatOp, .ref q_flatArg, .int x_flatHandlers, .ref q_flatHandler, .int x_blockCount, .ref q_leader, .ref q_last, .ref q_height, .ref q_state, .ref q_begin, .ref q_drawn, .ref q_order, .int x_g, .ref q_starters, .int x_ran, .int x_ended, .int x_result, .int x_steps, .int x_emits, .ref q_emitted, .ref q_locals, .ref q_stack, .int x_top, .int x_at]))] (RI D classes (tyz cI cZ) x_steps [(a, .inr (7, [.int x_count, .ref q_op, .ref q_arg, .int x_handlers, .ref q_handler, .ref q_depth, .ref q_over, .int x_flatCount, .ref q_flatOp, .ref q_flatArg, .int x_flatHandlers, .ref q_flatHandler, .int x_blockCount, .ref q_leader, .ref q_last, .ref q_height, .ref q_state, .ref q_begin, .ref q_drawn, .ref q_order, .int x_g, .ref q_starters, .int x_ran, .int x_ended, .int x_result, .int x_steps, .int x_emits, .ref q_emitted, .ref q_locals, .ref q_stack, .int x_top, .int x_at]))]) := by
  refine MG.of (cc := b_MO_steps) (maxL := 1) (ret := (some .int)) (own := "FlowFlattenerModel") rfl (by decide) rfl (Nat.le_of_ble_eq_true rfl) ?_
  intro p e s m below meth c A ls S hr hlocks hA hP hK hD hS hE hl
  have hx := S.1
  have hb := S.2.1
  have hl : lv_has ls 1 [(0, .ref a)] := hl
  refine lv_aload_n hx hb d_MO_steps_0 rfl (lv_at hl 0 rfl) ?_
  refine k_get (v := .int x_steps) S in_MO hK hP 0 rfl rfl 25 (by decide) ql_MO_262 rfl d_MO_steps_1 ?_
  exact k_iret hx hb hr hlocks hK hP hD hS rfl rfl d_MO_steps_4

theorem d_MO_emits_0 : decode b_MO_emits 0 = .ok (.aload_n 0, 1) := by decide +kernel
theorem d_MO_emits_1 : decode b_MO_emits 1 = .ok (.getfield 233, 3) := by decide +kernel
theorem d_MO_emits_4 : decode b_MO_emits 4 = .ok (.ireturn, 1) := by decide +kernel
set_option maxHeartbeats 1000000 in
set_option maxRecDepth 100000 in
theorem c_MO_emits (l : Launch) (D : va_G) (cI cZ : ClassId) (a q_op q_arg q_handler q_depth q_over q_flatOp q_flatArg q_flatHandler q_leader q_last q_height q_state q_begin q_drawn q_order q_starters q_emitted q_locals q_stack : Nat) (x_count x_handlers x_flatCount x_flatHandlers x_blockCount x_g x_ran x_ended x_result x_steps x_emits x_top x_at : Int32) : MG l y_MO_emits w_MO_emits (rmK 0 0) D classes (tyz cI cZ) E0 [.ref a] [(a, .inr (7, [.int x_count, .ref q_op, .ref q_arg, .int x_handlers, .ref q_handler, .ref q_depth, .ref q_over, .int x_flatCount, .ref q_flatOp, .ref q_flatArg, .int x_flatHandlers, .ref q_flatHandler, .int x_blockCount, .ref q_leader, .ref q_last, .ref q_height, .ref q_state, .ref q_begin, .ref q_drawn, .ref q_order, .int x_g, .ref q_starters, .int x_ran, .int x_ended, .int x_result, .int x_steps, .int x_emits, .ref q_emitted, .ref q_locals, .ref q_stack, .int x_top, .int x_at]))] (RI D classes (tyz cI cZ) x_emits [(a, .inr (7, [.int x_count, .ref q_op, .ref q_arg, .int x_handlers, .ref q_handler, .ref q_depth, .ref q_over, .int x_flatCount, .ref q_flatOp, .ref q_flatArg, .int x_flatHandlers, .ref q_flatHandler, .int x_blockCount, .ref q_leader, .ref q_last, .ref q_height, .ref q_state, .ref q_begin, .ref q_drawn, .ref q_order, .int x_g, .ref q_starters, .int x_ran, .int x_ended, .int x_result, .int x_steps, .int x_emits, .ref q_emitted, .ref q_locals, .ref q_stack, .int x_top, .int x_at]))]) := by
  refine MG.of (cc := b_MO_emits) (maxL := 1) (ret := (some .int)) (own := "FlowFlattenerModel") rfl (by decide) rfl (Nat.le_of_ble_eq_true rfl) ?_
  intro p e s m below meth c A ls S hr hlocks hA hP hK hD hS hE hl
  have hx := S.1
  have hb := S.2.1
  have hl : lv_has ls 1 [(0, .ref a)] := hl
  refine lv_aload_n hx hb d_MO_emits_0 rfl (lv_at hl 0 rfl) ?_
  refine k_get (v := .int x_emits) S in_MO hK hP 0 rfl rfl 26 (by decide) ql_MO_233 rfl d_MO_emits_1 ?_
  exact k_iret hx hb hr hlocks hK hP hD hS rfl rfl d_MO_emits_4

theorem d_MO_emitted_0 : decode b_MO_emitted 0 = .ok (.iload_n 1, 1) := by decide +kernel
theorem d_MO_emitted_1 : decode b_MO_emitted 1 = .ok (.ifCond .lt 17, 3) := by decide +kernel
theorem d_MO_emitted_4 : decode b_MO_emitted 4 = .ok (.iload_n 1, 1) := by decide +kernel
theorem d_MO_emitted_5 : decode b_MO_emitted 5 = .ok (.aload_n 0, 1) := by decide +kernel
theorem d_MO_emitted_6 : decode b_MO_emitted 6 = .ok (.getfield 233, 3) := by decide +kernel
theorem d_MO_emitted_9 : decode b_MO_emitted 9 = .ok (.if_icmp .ge 9, 3) := by decide +kernel
theorem d_MO_emitted_12 : decode b_MO_emitted 12 = .ok (.iload_n 1, 1) := by decide +kernel
theorem d_MO_emitted_13 : decode b_MO_emitted 13 = .ok (.bipush 39, 2) := by decide +kernel
theorem d_MO_emitted_15 : decode b_MO_emitted 15 = .ok (.if_icmp .le 8, 3) := by decide +kernel
theorem d_MO_emitted_18 : decode b_MO_emitted 18 = .ok (.ldc 59, 2) := by decide +kernel
theorem d_MO_emitted_20 : decode b_MO_emitted 20 = .ok (.goto 9, 3) := by decide +kernel
theorem d_MO_emitted_23 : decode b_MO_emitted 23 = .ok (.aload_n 0, 1) := by decide +kernel
theorem d_MO_emitted_24 : decode b_MO_emitted 24 = .ok (.getfield 64, 3) := by decide +kernel
theorem d_MO_emitted_27 : decode b_MO_emitted 27 = .ok (.iload_n 1, 1) := by decide +kernel
theorem d_MO_emitted_28 : decode b_MO_emitted 28 = .ok (.iaload, 1) := by decide +kernel
theorem d_MO_emitted_29 : decode b_MO_emitted 29 = .ok (.ireturn, 1) := by decide +kernel
def f_MO_emitted (x_emits : Int32) (ke : Nat → Int32) (u : Int32) : Int32 := (if u < 0 then (-2147483648) else (if x_emits ≤ u then (-2147483648) else (if u ≤ 39 then ke (tn u) else (-2147483648))))
set_option maxHeartbeats 1000000 in
set_option maxRecDepth 100000 in
theorem c_MO_emitted (l : Launch) (D : va_G) (cI cZ : ClassId) (a q_op q_arg q_handler q_depth q_over q_flatOp q_flatArg q_flatHandler q_leader q_last q_height q_state q_begin q_drawn q_order q_starters q_emitted q_locals q_stack : Nat) (x_count x_handlers x_flatCount x_flatHandlers x_blockCount x_g x_ran x_ended x_result x_steps x_emits x_top x_at : Int32) (ke : Nat → Int32) (u : Int32) : MG l y_MO_emitted w_MO_emitted (rmK 0 0) D classes (tyz cI cZ) E0 [.ref a, .int u] [(a, .inr (7, [.int x_count, .ref q_op, .ref q_arg, .int x_handlers, .ref q_handler, .ref q_depth, .ref q_over, .int x_flatCount, .ref q_flatOp, .ref q_flatArg, .int x_flatHandlers, .ref q_flatHandler, .int x_blockCount, .ref q_leader, .ref q_last, .ref q_height, .ref q_state, .ref q_begin, .ref q_drawn, .ref q_order, .int x_g, .ref q_starters, .int x_ran, .int x_ended, .int x_result, .int x_steps, .int x_emits, .ref q_emitted, .ref q_locals, .ref q_stack, .int x_top, .int x_at])), (q_emitted, .inl (cI, 40, .inl ke))] (RI D classes (tyz cI cZ) (f_MO_emitted x_emits ke u) [(a, .inr (7, [.int x_count, .ref q_op, .ref q_arg, .int x_handlers, .ref q_handler, .ref q_depth, .ref q_over, .int x_flatCount, .ref q_flatOp, .ref q_flatArg, .int x_flatHandlers, .ref q_flatHandler, .int x_blockCount, .ref q_leader, .ref q_last, .ref q_height, .ref q_state, .ref q_begin, .ref q_drawn, .ref q_order, .int x_g, .ref q_starters, .int x_ran, .int x_ended, .int x_result, .int x_steps, .int x_emits, .ref q_emitted, .ref q_locals, .ref q_stack, .int x_top, .int x_at])), (q_emitted, .inl (cI, 40, .inl ke))]) := by
  refine MG.of (cc := b_MO_emitted) (maxL := 2) (ret := (some .int)) (own := "FlowFlattenerModel") rfl (by decide) rfl (Nat.le_of_ble_eq_true rfl) ?_
  intro p e s m below meth c A ls S hr hlocks hA hP hK hD hS hE hl
  have hx := S.1
  have hb := S.2.1
  have hl : lv_has ls 2 [(0, .ref a), (1, .int u)] := hl
  refine lv_iload_n hx hb d_MO_emitted_0 rfl (lv_at hl 1 rfl) ?_
  refine lv_if_lt (tgt := 18) hx hb d_MO_emitted_1 (by decide) (fun h1_1 => ?_) (fun h1_1 => ?_)
  · skip
    refine lv_ldc hx hb S.2.2.2.1 (S.2.2.2.2 _ ql_MO_59) d_MO_emitted_18 ?_
    refine lv_goto (tgt := 29) hx hb d_MO_emitted_20 (by decide) ?_
    exact k_iret hx hb hr hlocks hK hP hD hS (by rw [f_MO_emitted, if_pos h1_1]) rfl d_MO_emitted_29
  · skip
    refine lv_iload_n hx hb d_MO_emitted_4 rfl (lv_at hl 1 rfl) ?_
    refine lv_aload_n hx hb d_MO_emitted_5 rfl (lv_at hl 0 rfl) ?_
    refine k_get (v := .int x_emits) S in_MO hK hP 0 rfl rfl 26 (by decide) ql_MO_233 rfl d_MO_emitted_6 ?_
    refine lv_icmp_ge (tgt := 18) hx hb d_MO_emitted_9 (by decide) (fun h9_2 => ?_) (fun h9_2 => ?_)
    · skip
      refine lv_ldc hx hb S.2.2.2.1 (S.2.2.2.2 _ ql_MO_59) d_MO_emitted_18 ?_
      refine lv_goto (tgt := 29) hx hb d_MO_emitted_20 (by decide) ?_
      exact k_iret hx hb hr hlocks hK hP hD hS (by rw [f_MO_emitted, if_neg h1_1, if_pos h9_2]) rfl d_MO_emitted_29
    · skip
      refine lv_iload_n hx hb d_MO_emitted_12 rfl (lv_at hl 1 rfl) ?_
      refine lv_bipush (v := 39) hx hb d_MO_emitted_13 (by decide) ?_
      refine lv_icmp_le (tgt := 23) hx hb d_MO_emitted_15 (by decide) (fun h15_3 => ?_) (fun h15_3 => ?_)
      · skip
        refine lv_aload_n hx hb d_MO_emitted_23 rfl (lv_at hl 0 rfl) ?_
        refine k_get (v := .ref q_emitted) S in_MO hK hP 0 rfl rfl 27 (by decide) ql_MO_64 rfl d_MO_emitted_24 ?_
        refine lv_iload_n hx hb d_MO_emitted_27 rfl (lv_at hl 1 rfl) ?_
        refine k_top (y := nI (tn u)) (tn_eq (by assumption)) ?_
        refine k_ld (k := tn u) hx hb hK hP 1 0 rfl rfl rfl (by have := tn_le (n := 39) (x := u) (by assumption) (by omega) (by assumption); omega) (by decide) d_MO_emitted_28 ?_
        exact k_iret hx hb hr hlocks hK hP hD hS (by rw [f_MO_emitted, if_neg h1_1, if_neg h9_2, if_pos h15_3]) rfl d_MO_emitted_29
      · skip
        refine lv_ldc hx hb S.2.2.2.1 (S.2.2.2.2 _ ql_MO_59) d_MO_emitted_18 ?_
        refine lv_goto (tgt := 29) hx hb d_MO_emitted_20 (by decide) ?_
        exact k_iret hx hb hr hlocks hK hP hD hS (by rw [f_MO_emitted, if_neg h1_1, if_neg h9_2, if_neg h15_3]) rfl d_MO_emitted_29

theorem d_MO_local_0 : decode b_MO_local 0 = .ok (.aload_n 0, 1) := by decide +kernel
theorem d_MO_local_1 : decode b_MO_local 1 = .ok (.getfield 258, 3) := by decide +kernel
theorem d_MO_local_4 : decode b_MO_local 4 = .ok (.ifCond .eq 12, 3) := by decide +kernel
theorem d_MO_local_7 : decode b_MO_local 7 = .ok (.iload_n 1, 1) := by decide +kernel
theorem d_MO_local_8 : decode b_MO_local 8 = .ok (.bipush 8, 2) := by decide +kernel
theorem d_MO_local_10 : decode b_MO_local 10 = .ok (.invokestatic 83, 3) := by decide +kernel
theorem d_MO_local_13 : decode b_MO_local 13 = .ok (.ifCond .eq 8, 3) := by decide +kernel
theorem d_MO_local_16 : decode b_MO_local 16 = .ok (.ldc 59, 2) := by decide +kernel
theorem d_MO_local_18 : decode b_MO_local 18 = .ok (.goto 9, 3) := by decide +kernel
theorem d_MO_local_21 : decode b_MO_local 21 = .ok (.aload_n 0, 1) := by decide +kernel
theorem d_MO_local_22 : decode b_MO_local 22 = .ok (.getfield 67, 3) := by decide +kernel
theorem d_MO_local_25 : decode b_MO_local 25 = .ok (.iload_n 1, 1) := by decide +kernel
theorem d_MO_local_26 : decode b_MO_local 26 = .ok (.iaload, 1) := by decide +kernel
theorem d_MO_local_27 : decode b_MO_local 27 = .ok (.ireturn, 1) := by decide +kernel
def f_MO_local (x_ran : Int32) (lo : Nat → Int32) (u : Int32) : Int32 := (if x_ran = 0 then (-2147483648) else (if f_MO_outside u 8 = 0 then lo (tn u) else (-2147483648)))
set_option maxHeartbeats 1000000 in
set_option maxRecDepth 100000 in
theorem c_MO_local (l : Launch) (D : va_G) (cI cZ : ClassId) (a q_op q_arg q_handler q_depth q_over q_flatOp q_flatArg q_flatHandler q_leader q_last q_height q_state q_begin q_drawn q_order q_starters q_emitted q_locals q_stack : Nat) (x_count x_handlers x_flatCount x_flatHandlers x_blockCount x_g x_ran x_ended x_result x_steps x_emits x_top x_at : Int32) (lo : Nat → Int32) (u : Int32) : MG l y_MO_local w_MO_local (rmK 1 21) D classes (tyz cI cZ) E0 [.ref a, .int u] [(a, .inr (7, [.int x_count, .ref q_op, .ref q_arg, .int x_handlers, .ref q_handler, .ref q_depth, .ref q_over, .int x_flatCount, .ref q_flatOp, .ref q_flatArg, .int x_flatHandlers, .ref q_flatHandler, .int x_blockCount, .ref q_leader, .ref q_last, .ref q_height, .ref q_state, .ref q_begin, .ref q_drawn, .ref q_order, .int x_g, .ref q_starters, .int x_ran, .int x_ended, .int x_result, .int x_steps, .int x_emits, .ref q_emitted, .ref q_locals, .ref q_stack, .int x_top, .int x_at])), (q_locals, .inl (cI, 9, .inl lo))] (RI D classes (tyz cI cZ) (f_MO_local x_ran lo u) [(a, .inr (7, [.int x_count, .ref q_op, .ref q_arg, .int x_handlers, .ref q_handler, .ref q_depth, .ref q_over, .int x_flatCount, .ref q_flatOp, .ref q_flatArg, .int x_flatHandlers, .ref q_flatHandler, .int x_blockCount, .ref q_leader, .ref q_last, .ref q_height, .ref q_state, .ref q_begin, .ref q_drawn, .ref q_order, .int x_g, .ref q_starters, .int x_ran, .int x_ended, .int x_result, .int x_steps, .int x_emits, .ref q_emitted, .ref q_locals, .ref q_stack, .int x_top, .int x_at])), (q_locals, .inl (cI, 9, .inl lo))]) := by
  refine MG.of (cc := b_MO_local) (maxL := 2) (ret := (some .int)) (own := "FlowFlattenerModel") rfl (by decide) rfl (Nat.le_of_ble_eq_true rfl) ?_
  intro p e s m below meth c A ls S hr hlocks hA hP hK hD hS hE hl
  have hx := S.1
  have hb := S.2.1
  have hl : lv_has ls 2 [(0, .ref a), (1, .int u)] := hl
  refine lv_aload_n hx hb d_MO_local_0 rfl (lv_at hl 0 rfl) ?_
  refine k_get (v := .int x_ran) S in_MO hK hP 0 rfl rfl 22 (by decide) ql_MO_258 rfl d_MO_local_1 ?_
  refine lv_if_eq (tgt := 16) hx hb d_MO_local_4 (by decide) (fun h4_1 => ?_) (fun h4_1 => ?_)
  · skip
    refine lv_ldc hx hb S.2.2.2.1 (S.2.2.2.2 _ ql_MO_59) d_MO_local_16 ?_
    refine lv_goto (tgt := 27) hx hb d_MO_local_18 (by decide) ?_
    exact k_iret hx hb hr hlocks hK hP hD hS (by rw [f_MO_local, if_pos h4_1]) rfl d_MO_local_27
  · skip
    refine lv_iload_n hx hb d_MO_local_7 rfl (lv_at hl 1 rfl) ?_
    refine lv_bipush (v := 8) hx hb d_MO_local_8 (by decide) ?_
    refine k_goi (ws' := [(a, .inr (7, [.int x_count, .ref q_op, .ref q_arg, .int x_handlers, .ref q_handler, .ref q_depth, .ref q_over, .int x_flatCount, .ref q_flatOp, .ref q_flatArg, .int x_flatHandlers, .ref q_flatHandler, .int x_blockCount, .ref q_leader, .ref q_last, .ref q_height, .ref q_state, .ref q_begin, .ref q_drawn, .ref q_order, .int x_g, .ref q_starters, .int x_ran, .int x_ended, .int x_result, .int x_steps, .int x_emits, .ref q_emitted, .ref q_locals, .ref q_stack, .int x_top, .int x_at])), (q_locals, .inl (cI, 9, .inl lo))]) (wr := [(a, .inr (7, [.int x_count, .ref q_op, .ref q_arg, .int x_handlers, .ref q_handler, .ref q_depth, .ref q_over, .int x_flatCount, .ref q_flatOp, .ref q_flatArg, .int x_flatHandlers, .ref q_flatHandler, .int x_blockCount, .ref q_leader, .ref q_last, .ref q_height, .ref q_state, .ref q_begin, .ref q_drawn, .ref q_order, .int x_g, .ref q_starters, .int x_ran, .int x_ended, .int x_result, .int x_steps, .int x_emits, .ref q_emitted, .ref q_locals, .ref q_stack, .int x_top, .int x_at])), (q_locals, .inl (cI, 9, .inl lo))]) (k_runS (As := [.int u, .int 8]) (rest := []) (n := 2) S (c_MO_outside l D cI cZ u 8) E0_b E0_t ql_MO_83 qt_MO_outside qn_MO qc_MO_outside (by decide +kernel) rfl ⟨rfl, rfl⟩ ⟨Nat.le_of_ble_eq_true rfl, Nat.le_of_ble_eq_true rfl⟩ hK hP hD [] rfl (by decide) hl.1 rfl (Nat.le_of_ble_eq_true rfl) d_MO_local_10 ⟨Nat.zero_le _, Nat.zero_le _⟩) hP hD hS hA [] [0, 1] [0, 1] rfl rfl (by decide) (by decide) rfl (by decide) (fun H locs hP hD hS => ?_)
    refine lv_if_eq (tgt := 21) hx hb d_MO_local_13 (by decide) (fun h13_2 => ?_) (fun h13_2 => ?_)
    · skip
      refine lv_aload_n hx hb d_MO_local_21 rfl (lv_at hl 0 rfl) ?_
      refine k_get (v := .ref q_locals) S in_MO hK hP 0 rfl rfl 28 (by decide) ql_MO_67 rfl d_MO_local_22 ?_
      refine lv_iload_n hx hb d_MO_local_25 rfl (lv_at hl 1 rfl) ?_
      refine k_top (y := nI (tn u)) (out_n (v := u) (k := 8) (by decide) (by assumption)).1 ?_
      refine k_ld (k := tn u) hx hb hK hP 1 0 rfl rfl rfl (by have := (out_n (v := u) (k := 8) (by decide) (by assumption)).2; omega) (by decide) d_MO_local_26 ?_
      exact k_iret hx hb hr hlocks hK hP hD hS (by rw [f_MO_local, if_neg h4_1, if_pos h13_2]) rfl d_MO_local_27
    · skip
      refine lv_ldc hx hb S.2.2.2.1 (S.2.2.2.2 _ ql_MO_59) d_MO_local_16 ?_
      refine lv_goto (tgt := 27) hx hb d_MO_local_18 (by decide) ?_
      exact k_iret hx hb hr hlocks hK hP hD hS (by rw [f_MO_local, if_neg h4_1, if_neg h13_2]) rfl d_MO_local_27

theorem d_MO_pop_0 : decode b_MO_pop 0 = .ok (.aload_n 0, 1) := by decide +kernel
theorem d_MO_pop_1 : decode b_MO_pop 1 = .ok (.dup, 1) := by decide +kernel
theorem d_MO_pop_2 : decode b_MO_pop 2 = .ok (.getfield 206, 3) := by decide +kernel
theorem d_MO_pop_5 : decode b_MO_pop 5 = .ok (.iconst 1, 1) := by decide +kernel
theorem d_MO_pop_6 : decode b_MO_pop 6 = .ok (.isub, 1) := by decide +kernel
theorem d_MO_pop_7 : decode b_MO_pop 7 = .ok (.putfield 206, 3) := by decide +kernel
theorem d_MO_pop_10 : decode b_MO_pop 10 = .ok (.aload_n 0, 1) := by decide +kernel
theorem d_MO_pop_11 : decode b_MO_pop 11 = .ok (.getfield 70, 3) := by decide +kernel
theorem d_MO_pop_14 : decode b_MO_pop 14 = .ok (.aload_n 0, 1) := by decide +kernel
theorem d_MO_pop_15 : decode b_MO_pop 15 = .ok (.getfield 206, 3) := by decide +kernel
theorem d_MO_pop_18 : decode b_MO_pop 18 = .ok (.iaload, 1) := by decide +kernel
theorem d_MO_pop_19 : decode b_MO_pop 19 = .ok (.ireturn, 1) := by decide +kernel
set_option maxHeartbeats 1000000 in
set_option maxRecDepth 100000 in
theorem c_MO_pop (l : Launch) (D : va_G) (cI cZ : ClassId) (a q_op q_arg q_handler q_depth q_over q_flatOp q_flatArg q_flatHandler q_leader q_last q_height q_state q_begin q_drawn q_order q_starters q_emitted q_locals q_stack : Nat) (x_count x_handlers x_flatCount x_flatHandlers x_blockCount x_g x_ran x_ended x_result x_steps x_emits x_at : Int32) (tq : Nat) (sk : Nat → Int32) (hq : 1 ≤ tq) (hq7 : tq ≤ 24) : MG l y_MO_pop w_MO_pop (rmK 0 0) D classes (tyz cI cZ) E0 [.ref a] [(a, .inr (7, [.int x_count, .ref q_op, .ref q_arg, .int x_handlers, .ref q_handler, .ref q_depth, .ref q_over, .int x_flatCount, .ref q_flatOp, .ref q_flatArg, .int x_flatHandlers, .ref q_flatHandler, .int x_blockCount, .ref q_leader, .ref q_last, .ref q_height, .ref q_state, .ref q_begin, .ref q_drawn, .ref q_order, .int x_g, .ref q_starters, .int x_ran, .int x_ended, .int x_result, .int x_steps, .int x_emits, .ref q_emitted, .ref q_locals, .ref q_stack, .int (nI tq), .int x_at])), (q_stack, .inl (cI, 24, .inl sk))] (RI D classes (tyz cI cZ) (sk (tq - 1)) [(a, .inr (7, [.int x_count, .ref q_op, .ref q_arg, .int x_handlers, .ref q_handler, .ref q_depth, .ref q_over, .int x_flatCount, .ref q_flatOp, .ref q_flatArg, .int x_flatHandlers, .ref q_flatHandler, .int x_blockCount, .ref q_leader, .ref q_last, .ref q_height, .ref q_state, .ref q_begin, .ref q_drawn, .ref q_order, .int x_g, .ref q_starters, .int x_ran, .int x_ended, .int x_result, .int x_steps, .int x_emits, .ref q_emitted, .ref q_locals, .ref q_stack, .int (nI (tq - 1)), .int x_at])), (q_stack, .inl (cI, 24, .inl sk))]) := by
  refine MG.of (cc := b_MO_pop) (maxL := 1) (ret := (some .int)) (own := "FlowFlattenerModel") rfl (by decide) rfl (Nat.le_of_ble_eq_true rfl) ?_
  intro p e s m below meth c A ls S hr hlocks hA hP hK hD hS hE hl
  have hx := S.1
  have hb := S.2.1
  have hl : lv_has ls 1 [(0, .ref a)] := hl
  refine lv_aload_n hx hb d_MO_pop_0 rfl (lv_at hl 0 rfl) ?_
  refine lv_dup hx hb d_MO_pop_1 rfl ?_
  refine k_get (v := .int (nI tq)) S in_MO hK hP 0 rfl rfl 30 (by decide) ql_MO_206 rfl d_MO_pop_2 ?_
  refine lv_iconst (v := 1) hx hb d_MO_pop_5 (by decide) ?_
  refine lv_isub hx hb d_MO_pop_6 ?_
  refine k_top (y := nI (tq - 1)) (nc_sub rfl (by decide) (by omega)) ?_
  refine k_put (v := .int (nI (tq - 1))) (ws' := [(a, .inr (7, [.int x_count, .ref q_op, .ref q_arg, .int x_handlers, .ref q_handler, .ref q_depth, .ref q_over, .int x_flatCount, .ref q_flatOp, .ref q_flatArg, .int x_flatHandlers, .ref q_flatHandler, .int x_blockCount, .ref q_leader, .ref q_last, .ref q_height, .ref q_state, .ref q_begin, .ref q_drawn, .ref q_order, .int x_g, .ref q_starters, .int x_ran, .int x_ended, .int x_result, .int x_steps, .int x_emits, .ref q_emitted, .ref q_locals, .ref q_stack, .int (nI (tq - 1)), .int x_at])), (q_stack, .inl (cI, 24, .inl sk))]) S in_MO ty_MO nm_MO hK hP hD hS 0 rfl rfl 30 (by decide) ql_MO_206 rfl rfl rfl rfl (Nat.le_of_ble_eq_true rfl) rfl d_MO_pop_7 (fun H locs hP hD hS => ?_)
  refine lv_aload_n hx hb d_MO_pop_10 rfl (lv_at hl 0 rfl) ?_
  refine k_get (v := .ref q_stack) S in_MO hK hP 0 rfl rfl 29 (by decide) ql_MO_70 rfl d_MO_pop_11 ?_
  refine lv_aload_n hx hb d_MO_pop_14 rfl (lv_at hl 0 rfl) ?_
  refine k_get (v := .int (nI (tq - 1))) S in_MO hK hP 0 rfl rfl 30 (by decide) ql_MO_206 rfl d_MO_pop_15 ?_
  refine k_ld (k := tq - 1) hx hb hK hP 1 0 rfl rfl rfl (by omega) (by decide) d_MO_pop_18 ?_
  exact k_iret hx hb hr hlocks hK hP hD hS rfl rfl d_MO_pop_19

theorem d_MO_push_0 : decode b_MO_push 0 = .ok (.aload_n 0, 1) := by decide +kernel
theorem d_MO_push_1 : decode b_MO_push 1 = .ok (.getfield 70, 3) := by decide +kernel
theorem d_MO_push_4 : decode b_MO_push 4 = .ok (.aload_n 0, 1) := by decide +kernel
theorem d_MO_push_5 : decode b_MO_push 5 = .ok (.getfield 206, 3) := by decide +kernel
theorem d_MO_push_8 : decode b_MO_push 8 = .ok (.iload_n 1, 1) := by decide +kernel
theorem d_MO_push_9 : decode b_MO_push 9 = .ok (.iastore, 1) := by decide +kernel
theorem d_MO_push_10 : decode b_MO_push 10 = .ok (.aload_n 0, 1) := by decide +kernel
theorem d_MO_push_11 : decode b_MO_push 11 = .ok (.dup, 1) := by decide +kernel
theorem d_MO_push_12 : decode b_MO_push 12 = .ok (.getfield 206, 3) := by decide +kernel
theorem d_MO_push_15 : decode b_MO_push 15 = .ok (.iconst 1, 1) := by decide +kernel
theorem d_MO_push_16 : decode b_MO_push 16 = .ok (.iadd, 1) := by decide +kernel
theorem d_MO_push_17 : decode b_MO_push 17 = .ok (.putfield 206, 3) := by decide +kernel
theorem d_MO_push_20 : decode b_MO_push 20 = .ok (.return_, 1) := by decide +kernel
set_option maxHeartbeats 1000000 in
set_option maxRecDepth 100000 in
theorem c_MO_push (l : Launch) (D : va_G) (cI cZ : ClassId) (a q_op q_arg q_handler q_depth q_over q_flatOp q_flatArg q_flatHandler q_leader q_last q_height q_state q_begin q_drawn q_order q_starters q_emitted q_locals q_stack : Nat) (x_count x_handlers x_flatCount x_flatHandlers x_blockCount x_g x_ran x_ended x_result x_steps x_emits x_at : Int32) (tq : Nat) (sk : Nat → Int32) (v : Int32) (hq : tq < 24) : MG l y_MO_push w_MO_push (rmK 0 0) D classes (tyz cI cZ) E0 [.ref a, .int v] [(a, .inr (7, [.int x_count, .ref q_op, .ref q_arg, .int x_handlers, .ref q_handler, .ref q_depth, .ref q_over, .int x_flatCount, .ref q_flatOp, .ref q_flatArg, .int x_flatHandlers, .ref q_flatHandler, .int x_blockCount, .ref q_leader, .ref q_last, .ref q_height, .ref q_state, .ref q_begin, .ref q_drawn, .ref q_order, .int x_g, .ref q_starters, .int x_ran, .int x_ended, .int x_result, .int x_steps, .int x_emits, .ref q_emitted, .ref q_locals, .ref q_stack, .int (nI tq), .int x_at])), (q_stack, .inl (cI, 24, .inl sk))] (RV D classes (tyz cI cZ) [(a, .inr (7, [.int x_count, .ref q_op, .ref q_arg, .int x_handlers, .ref q_handler, .ref q_depth, .ref q_over, .int x_flatCount, .ref q_flatOp, .ref q_flatArg, .int x_flatHandlers, .ref q_flatHandler, .int x_blockCount, .ref q_leader, .ref q_last, .ref q_height, .ref q_state, .ref q_begin, .ref q_drawn, .ref q_order, .int x_g, .ref q_starters, .int x_ran, .int x_ended, .int x_result, .int x_steps, .int x_emits, .ref q_emitted, .ref q_locals, .ref q_stack, .int (nI (tq + 1)), .int x_at])), (q_stack, .inl (cI, 24, .inl (upd sk tq v)))]) := by
  refine MG.of (cc := b_MO_push) (maxL := 2) (ret := none) (own := "FlowFlattenerModel") rfl (by decide) rfl (Nat.le_of_ble_eq_true rfl) ?_
  intro p e s m below meth c A ls S hr hlocks hA hP hK hD hS hE hl
  have hx := S.1
  have hb := S.2.1
  have hl : lv_has ls 2 [(0, .ref a), (1, .int v)] := hl
  refine lv_aload_n hx hb d_MO_push_0 rfl (lv_at hl 0 rfl) ?_
  refine k_get (v := .ref q_stack) S in_MO hK hP 0 rfl rfl 29 (by decide) ql_MO_70 rfl d_MO_push_1 ?_
  refine lv_aload_n hx hb d_MO_push_4 rfl (lv_at hl 0 rfl) ?_
  refine k_get (v := .int (nI tq)) S in_MO hK hP 0 rfl rfl 30 (by decide) ql_MO_206 rfl d_MO_push_5 ?_
  refine lv_iload_n hx hb d_MO_push_8 rfl (lv_at hl 1 rfl) ?_
  refine k_st (k := tq) (x := v) (ws' := [(a, .inr (7, [.int x_count, .ref q_op, .ref q_arg, .int x_handlers, .ref q_handler, .ref q_depth, .ref q_over, .int x_flatCount, .ref q_flatOp, .ref q_flatArg, .int x_flatHandlers, .ref q_flatHandler, .int x_blockCount, .ref q_leader, .ref q_last, .ref q_height, .ref q_state, .ref q_begin, .ref q_drawn, .ref q_order, .int x_g, .ref q_starters, .int x_ran, .int x_ended, .int x_result, .int x_steps, .int x_emits, .ref q_emitted, .ref q_locals, .ref q_stack, .int (nI tq), .int x_at])), (q_stack, .inl (cI, 24, .inl (upd sk tq v)))]) hx hb hK hP hD hS 1 0 rfl rfl rfl (by omega) (by decide) rfl d_MO_push_9 (fun H locs hP hD hS => ?_)
  refine lv_aload_n hx hb d_MO_push_10 rfl (lv_at hl 0 rfl) ?_
  refine lv_dup hx hb d_MO_push_11 rfl ?_
  refine k_get (v := .int (nI tq)) S in_MO hK hP 0 rfl rfl 30 (by decide) ql_MO_206 rfl d_MO_push_12 ?_
  refine lv_iconst (v := 1) hx hb d_MO_push_15 (by decide) ?_
  refine lv_iadd hx hb d_MO_push_16 ?_
  refine k_top (y := nI (tq + 1)) (nc_add rfl (by decide)) ?_
  refine k_put (v := .int (nI (tq + 1))) (ws' := [(a, .inr (7, [.int x_count, .ref q_op, .ref q_arg, .int x_handlers, .ref q_handler, .ref q_depth, .ref q_over, .int x_flatCount, .ref q_flatOp, .ref q_flatArg, .int x_flatHandlers, .ref q_flatHandler, .int x_blockCount, .ref q_leader, .ref q_last, .ref q_height, .ref q_state, .ref q_begin, .ref q_drawn, .ref q_order, .int x_g, .ref q_starters, .int x_ran, .int x_ended, .int x_result, .int x_steps, .int x_emits, .ref q_emitted, .ref q_locals, .ref q_stack, .int (nI (tq + 1)), .int x_at])), (q_stack, .inl (cI, 24, .inl (upd sk tq v)))]) S in_MO ty_MO nm_MO hK hP hD hS 0 rfl rfl 30 (by decide) ql_MO_206 rfl rfl rfl rfl (Nat.le_of_ble_eq_true rfl) rfl d_MO_push_17 (fun H locs hP hD hS => ?_)
  exact k_vret hx hb hr hlocks hK hP hD hS rfl d_MO_push_20

theorem d_MO_sum_0 : decode b_MO_sum 0 = .ok (.iload_n 1, 1) := by decide +kernel
theorem d_MO_sum_1 : decode b_MO_sum 1 = .ok (.tableswitch 55 3 7 #[35, 39, 43, 47, 51], 35) := by decide +kernel
theorem d_MO_sum_36 : decode b_MO_sum 36 = .ok (.iload_n 2, 1) := by decide +kernel
theorem d_MO_sum_37 : decode b_MO_sum 37 = .ok (.iload_n 3, 1) := by decide +kernel
theorem d_MO_sum_38 : decode b_MO_sum 38 = .ok (.iadd, 1) := by decide +kernel
theorem d_MO_sum_39 : decode b_MO_sum 39 = .ok (.ireturn, 1) := by decide +kernel
theorem d_MO_sum_40 : decode b_MO_sum 40 = .ok (.iload_n 2, 1) := by decide +kernel
theorem d_MO_sum_41 : decode b_MO_sum 41 = .ok (.iload_n 3, 1) := by decide +kernel
theorem d_MO_sum_42 : decode b_MO_sum 42 = .ok (.isub, 1) := by decide +kernel
theorem d_MO_sum_43 : decode b_MO_sum 43 = .ok (.ireturn, 1) := by decide +kernel
theorem d_MO_sum_44 : decode b_MO_sum 44 = .ok (.iload_n 2, 1) := by decide +kernel
theorem d_MO_sum_45 : decode b_MO_sum 45 = .ok (.iload_n 3, 1) := by decide +kernel
theorem d_MO_sum_46 : decode b_MO_sum 46 = .ok (.imul, 1) := by decide +kernel
theorem d_MO_sum_47 : decode b_MO_sum 47 = .ok (.ireturn, 1) := by decide +kernel
theorem d_MO_sum_48 : decode b_MO_sum 48 = .ok (.iload_n 2, 1) := by decide +kernel
theorem d_MO_sum_49 : decode b_MO_sum 49 = .ok (.iload_n 3, 1) := by decide +kernel
theorem d_MO_sum_50 : decode b_MO_sum 50 = .ok (.idiv, 1) := by decide +kernel
theorem d_MO_sum_51 : decode b_MO_sum 51 = .ok (.ireturn, 1) := by decide +kernel
theorem d_MO_sum_52 : decode b_MO_sum 52 = .ok (.iload_n 2, 1) := by decide +kernel
theorem d_MO_sum_53 : decode b_MO_sum 53 = .ok (.iload_n 3, 1) := by decide +kernel
theorem d_MO_sum_54 : decode b_MO_sum 54 = .ok (.iand, 1) := by decide +kernel
theorem d_MO_sum_55 : decode b_MO_sum 55 = .ok (.ireturn, 1) := by decide +kernel
theorem d_MO_sum_56 : decode b_MO_sum 56 = .ok (.iload_n 2, 1) := by decide +kernel
theorem d_MO_sum_57 : decode b_MO_sum 57 = .ok (.iload_n 3, 1) := by decide +kernel
theorem d_MO_sum_58 : decode b_MO_sum 58 = .ok (.ixor, 1) := by decide +kernel
theorem d_MO_sum_59 : decode b_MO_sum 59 = .ok (.ireturn, 1) := by decide +kernel
def f_MO_sum (o : Int32) (u : Int32) (v : Int32) : Int32 := (if o = 3 then u + v else (if o = 4 then u - v else (if o = 5 then u * v else (if o = 6 then u / v else (if o = 7 then u &&& v else u ^^^ v)))))
set_option maxHeartbeats 1000000 in
set_option maxRecDepth 100000 in
theorem c_MO_sum (l : Launch) (D : va_G) (cI cZ : ClassId) (a q_op q_arg q_handler q_depth q_over q_flatOp q_flatArg q_flatHandler q_leader q_last q_height q_state q_begin q_drawn q_order q_starters q_emitted q_locals q_stack : Nat) (x_count x_handlers x_flatCount x_flatHandlers x_blockCount x_g x_ran x_ended x_result x_steps x_emits x_top x_at : Int32) (o u v : Int32) (hy : o = 6 → ¬ v = 0) : MG l y_MO_sum w_MO_sum (rmK 0 0) D classes (tyz cI cZ) E0 [.ref a, .int o, .int u, .int v] [(a, .inr (7, [.int x_count, .ref q_op, .ref q_arg, .int x_handlers, .ref q_handler, .ref q_depth, .ref q_over, .int x_flatCount, .ref q_flatOp, .ref q_flatArg, .int x_flatHandlers, .ref q_flatHandler, .int x_blockCount, .ref q_leader, .ref q_last, .ref q_height, .ref q_state, .ref q_begin, .ref q_drawn, .ref q_order, .int x_g, .ref q_starters, .int x_ran, .int x_ended, .int x_result, .int x_steps, .int x_emits, .ref q_emitted, .ref q_locals, .ref q_stack, .int x_top, .int x_at]))] (RI D classes (tyz cI cZ) (f_MO_sum o u v) [(a, .inr (7, [.int x_count, .ref q_op, .ref q_arg, .int x_handlers, .ref q_handler, .ref q_depth, .ref q_over, .int x_flatCount, .ref q_flatOp, .ref q_flatArg, .int x_flatHandlers, .ref q_flatHandler, .int x_blockCount, .ref q_leader, .ref q_last, .ref q_height, .ref q_state, .ref q_begin, .ref q_drawn, .ref q_order, .int x_g, .ref q_starters, .int x_ran, .int x_ended, .int x_result, .int x_steps, .int x_emits, .ref q_emitted, .ref q_locals, .ref q_stack, .int x_top, .int x_at]))]) := by
  refine MG.of (cc := b_MO_sum) (maxL := 4) (ret := (some .int)) (own := "FlowFlattenerModel") rfl (by decide) rfl (Nat.le_of_ble_eq_true rfl) ?_
  intro p e s m below meth c A ls S hr hlocks hA hP hK hD hS hE hl
  have hx := S.1
  have hb := S.2.1
  have hl : lv_has ls 4 [(0, .ref a), (1, .int o), (2, .int u), (3, .int v)] := hl
  refine lv_iload_n hx hb d_MO_sum_0 rfl (lv_at hl 1 rfl) ?_
  by_cases h1_1 : o = 3
  · skip
    refine k_top h1_1 ?_
    refine lv_tableIn (tgt := 36) hx hb d_MO_sum_1 (by decide) (by decide) rfl (by decide) ?_
    refine lv_iload_n hx hb d_MO_sum_36 rfl (lv_at hl 2 rfl) ?_
    refine lv_iload_n hx hb d_MO_sum_37 rfl (lv_at hl 3 rfl) ?_
    refine lv_iadd hx hb d_MO_sum_38 ?_
    exact k_iret hx hb hr hlocks hK hP hD hS (by rw [f_MO_sum, if_pos h1_1]) rfl d_MO_sum_39
  by_cases h1_2 : o = 4
  · skip
    refine k_top h1_2 ?_
    refine lv_tableIn (tgt := 40) hx hb d_MO_sum_1 (by decide) (by decide) rfl (by decide) ?_
    refine lv_iload_n hx hb d_MO_sum_40 rfl (lv_at hl 2 rfl) ?_
    refine lv_iload_n hx hb d_MO_sum_41 rfl (lv_at hl 3 rfl) ?_
    refine lv_isub hx hb d_MO_sum_42 ?_
    exact k_iret hx hb hr hlocks hK hP hD hS (by rw [f_MO_sum, if_neg h1_1, if_pos h1_2]) rfl d_MO_sum_43
  by_cases h1_3 : o = 5
  · skip
    refine k_top h1_3 ?_
    refine lv_tableIn (tgt := 44) hx hb d_MO_sum_1 (by decide) (by decide) rfl (by decide) ?_
    refine lv_iload_n hx hb d_MO_sum_44 rfl (lv_at hl 2 rfl) ?_
    refine lv_iload_n hx hb d_MO_sum_45 rfl (lv_at hl 3 rfl) ?_
    refine lv_imul hx hb d_MO_sum_46 ?_
    exact k_iret hx hb hr hlocks hK hP hD hS (by rw [f_MO_sum, if_neg h1_1, if_neg h1_2, if_pos h1_3]) rfl d_MO_sum_47
  by_cases h1_4 : o = 6
  · skip
    refine k_top h1_4 ?_
    refine lv_tableIn (tgt := 48) hx hb d_MO_sum_1 (by decide) (by decide) rfl (by decide) ?_
    refine lv_iload_n hx hb d_MO_sum_48 rfl (lv_at hl 2 rfl) ?_
    refine lv_iload_n hx hb d_MO_sum_49 rfl (lv_at hl 3 rfl) ?_
    refine lv_idiv hx hb d_MO_sum_50 (hy (by assumption)) ?_
    exact k_iret hx hb hr hlocks hK hP hD hS (by rw [f_MO_sum, if_neg h1_1, if_neg h1_2, if_neg h1_3, if_pos h1_4]) rfl d_MO_sum_51
  by_cases h1_5 : o = 7
  · skip
    refine k_top h1_5 ?_
    refine lv_tableIn (tgt := 52) hx hb d_MO_sum_1 (by decide) (by decide) rfl (by decide) ?_
    refine lv_iload_n hx hb d_MO_sum_52 rfl (lv_at hl 2 rfl) ?_
    refine lv_iload_n hx hb d_MO_sum_53 rfl (lv_at hl 3 rfl) ?_
    refine lv_iand hx hb d_MO_sum_54 ?_
    exact k_iret hx hb hr hlocks hK hP hD hS (by rw [f_MO_sum, if_neg h1_1, if_neg h1_2, if_neg h1_3, if_neg h1_4, if_pos h1_5]) rfl d_MO_sum_55
  refine lv_tableOut (tgt := 56) hx hb d_MO_sum_1 (by have e0 := lv_neT h1_1 (show (3 : Int32).toInt = 3 by decide); have e1 := lv_neT h1_2 (show (4 : Int32).toInt = 4 by decide); have e2 := lv_neT h1_3 (show (5 : Int32).toInt = 5 by decide); have e3 := lv_neT h1_4 (show (6 : Int32).toInt = 6 by decide); have e4 := lv_neT h1_5 (show (7 : Int32).toInt = 7 by decide); omega) (by decide) ?_
  refine lv_iload_n hx hb d_MO_sum_56 rfl (lv_at hl 2 rfl) ?_
  refine lv_iload_n hx hb d_MO_sum_57 rfl (lv_at hl 3 rfl) ?_
  refine lv_ixor hx hb d_MO_sum_58 ?_
  exact k_iret hx hb hr hlocks hK hP hD hS (by rw [f_MO_sum, if_neg h1_1, if_neg h1_2, if_neg h1_3, if_neg h1_4, if_neg h1_5]) rfl d_MO_sum_59

theorem d_MO_raise_0 : decode b_MO_raise 0 = .ok (.iload_n 1, 1) := by decide +kernel
theorem d_MO_raise_1 : decode b_MO_raise 1 = .ok (.ifCond .eq 10, 3) := by decide +kernel
theorem d_MO_raise_4 : decode b_MO_raise 4 = .ok (.aload_n 0, 1) := by decide +kernel
theorem d_MO_raise_5 : decode b_MO_raise 5 = .ok (.getfield 177, 3) := by decide +kernel
theorem d_MO_raise_8 : decode b_MO_raise 8 = .ok (.goto 7, 3) := by decide +kernel
theorem d_MO_raise_11 : decode b_MO_raise 11 = .ok (.aload_n 0, 1) := by decide +kernel
theorem d_MO_raise_12 : decode b_MO_raise 12 = .ok (.getfield 80, 3) := by decide +kernel
theorem d_MO_raise_15 : decode b_MO_raise 15 = .ok (.istore_n 3, 1) := by decide +kernel
theorem d_MO_raise_16 : decode b_MO_raise 16 = .ok (.iconst 0, 1) := by decide +kernel
theorem d_MO_raise_17 : decode b_MO_raise 17 = .ok (.istore 4, 2) := by decide +kernel
theorem d_MO_raise_19 : decode b_MO_raise 19 = .ok (.iload 4, 2) := by decide +kernel
theorem d_MO_raise_21 : decode b_MO_raise 21 = .ok (.iload_n 3, 1) := by decide +kernel
theorem d_MO_raise_22 : decode b_MO_raise 22 = .ok (.if_icmp .ge 64, 3) := by decide +kernel
theorem d_MO_raise_25 : decode b_MO_raise 25 = .ok (.aload_n 0, 1) := by decide +kernel
theorem d_MO_raise_26 : decode b_MO_raise 26 = .ok (.iload_n 1, 1) := by decide +kernel
theorem d_MO_raise_27 : decode b_MO_raise 27 = .ok (.iload 4, 2) := by decide +kernel
theorem d_MO_raise_29 : decode b_MO_raise 29 = .ok (.iconst 0, 1) := by decide +kernel
theorem d_MO_raise_30 : decode b_MO_raise 30 = .ok (.invokevirtual 209, 3) := by decide +kernel
theorem d_MO_raise_33 : decode b_MO_raise 33 = .ok (.aload_n 0, 1) := by decide +kernel
theorem d_MO_raise_34 : decode b_MO_raise 34 = .ok (.getfield 213, 3) := by decide +kernel
theorem d_MO_raise_37 : decode b_MO_raise 37 = .ok (.if_icmp .gt 43, 3) := by decide +kernel
theorem d_MO_raise_40 : decode b_MO_raise 40 = .ok (.aload_n 0, 1) := by decide +kernel
theorem d_MO_raise_41 : decode b_MO_raise 41 = .ok (.getfield 213, 3) := by decide +kernel
theorem d_MO_raise_44 : decode b_MO_raise 44 = .ok (.aload_n 0, 1) := by decide +kernel
theorem d_MO_raise_45 : decode b_MO_raise 45 = .ok (.iload_n 1, 1) := by decide +kernel
theorem d_MO_raise_46 : decode b_MO_raise 46 = .ok (.iload 4, 2) := by decide +kernel
theorem d_MO_raise_48 : decode b_MO_raise 48 = .ok (.iconst 1, 1) := by decide +kernel
theorem d_MO_raise_49 : decode b_MO_raise 49 = .ok (.invokevirtual 209, 3) := by decide +kernel
theorem d_MO_raise_52 : decode b_MO_raise 52 = .ok (.if_icmp .ge 28, 3) := by decide +kernel
theorem d_MO_raise_55 : decode b_MO_raise 55 = .ok (.aload_n 0, 1) := by decide +kernel
theorem d_MO_raise_56 : decode b_MO_raise 56 = .ok (.getfield 70, 3) := by decide +kernel
theorem d_MO_raise_59 : decode b_MO_raise 59 = .ok (.iconst 0, 1) := by decide +kernel
theorem d_MO_raise_60 : decode b_MO_raise 60 = .ok (.iload_n 2, 1) := by decide +kernel
theorem d_MO_raise_61 : decode b_MO_raise 61 = .ok (.iastore, 1) := by decide +kernel
theorem d_MO_raise_62 : decode b_MO_raise 62 = .ok (.aload_n 0, 1) := by decide +kernel
theorem d_MO_raise_63 : decode b_MO_raise 63 = .ok (.iconst 1, 1) := by decide +kernel
theorem d_MO_raise_64 : decode b_MO_raise 64 = .ok (.putfield 206, 3) := by decide +kernel
theorem d_MO_raise_67 : decode b_MO_raise 67 = .ok (.aload_n 0, 1) := by decide +kernel
theorem d_MO_raise_68 : decode b_MO_raise 68 = .ok (.aload_n 0, 1) := by decide +kernel
theorem d_MO_raise_69 : decode b_MO_raise 69 = .ok (.iload_n 1, 1) := by decide +kernel
theorem d_MO_raise_70 : decode b_MO_raise 70 = .ok (.iload 4, 2) := by decide +kernel
theorem d_MO_raise_72 : decode b_MO_raise 72 = .ok (.iconst 2, 1) := by decide +kernel
theorem d_MO_raise_73 : decode b_MO_raise 73 = .ok (.invokevirtual 209, 3) := by decide +kernel
theorem d_MO_raise_76 : decode b_MO_raise 76 = .ok (.putfield 213, 3) := by decide +kernel
theorem d_MO_raise_79 : decode b_MO_raise 79 = .ok (.return_, 1) := by decide +kernel
theorem d_MO_raise_80 : decode b_MO_raise 80 = .ok (.iinc 4 1, 3) := by decide +kernel
theorem d_MO_raise_83 : decode b_MO_raise 83 = .ok (.goto (-64), 3) := by decide +kernel
theorem d_MO_raise_86 : decode b_MO_raise 86 = .ok (.aload_n 0, 1) := by decide +kernel
theorem d_MO_raise_87 : decode b_MO_raise 87 = .ok (.iconst 2, 1) := by decide +kernel
theorem d_MO_raise_88 : decode b_MO_raise 88 = .ok (.putfield 216, 3) := by decide +kernel
theorem d_MO_raise_91 : decode b_MO_raise 91 = .ok (.aload_n 0, 1) := by decide +kernel
theorem d_MO_raise_92 : decode b_MO_raise 92 = .ok (.iload_n 2, 1) := by decide +kernel
theorem d_MO_raise_93 : decode b_MO_raise 93 = .ok (.putfield 60, 3) := by decide +kernel
theorem d_MO_raise_96 : decode b_MO_raise 96 = .ok (.return_, 1) := by decide +kernel
def lp_MO_raise0 (x_ended : Int32) (x_result : Int32) (x_at : Int32) (hn : Nat) (tq : Nat) (hd : Nat → Int32) (sk : Nat → Int32) (v : Int32) : Nat → Nat → (Nat → Int32) × Nat × Int32 × Int32 × Int32
  | 0, h => (sk, tq, x_at, 2, v)
  | kf + 1, h => (if x_at < f_MO_handlerAt0 hn hd (nI h) 0 then (lp_MO_raise0 x_ended x_result x_at hn tq hd sk v kf (h + 1)) else (if f_MO_handlerAt0 hn hd (nI h) 1 ≤ x_at then (lp_MO_raise0 x_ended x_result x_at hn tq hd sk v kf (h + 1)) else (upd sk 0 v, 1, f_MO_handlerAt0 hn hd (nI h) 2, x_ended, x_result)))
def f_MO_raise0 (x_ended : Int32) (x_result : Int32) (x_at : Int32) (hn : Nat) (tq : Nat) (hd : Nat → Int32) (sk : Nat → Int32) (v : Int32) : (Nat → Int32) × Nat × Int32 × Int32 × Int32 := lp_MO_raise0 x_ended x_result x_at hn tq hd sk v hn 0
set_option maxHeartbeats 1000000 in
set_option maxRecDepth 100000 in
theorem c_MO_raise0 (l : Launch) (D : va_G) (cI cZ : ClassId) (a q_op q_arg q_handler q_depth q_over q_flatOp q_flatArg q_flatHandler q_leader q_last q_height q_state q_begin q_drawn q_order q_starters q_emitted q_locals q_stack : Nat) (x_count x_flatCount x_flatHandlers x_blockCount x_g x_ran x_ended x_result x_steps x_emits x_at : Int32) (hn z tq : Nat) (hd sk : Nat → Int32) (v : Int32) (hz : 3 * hn ≤ z) (hz2 : z < 2 ^ 31) : MG l y_MO_raise w_MO_raise (rmK 2 44) D classes (tyz cI cZ) E0 [.ref a, .int 0, .int v] [(a, .inr (7, [.int x_count, .ref q_op, .ref q_arg, .int (nI hn), .ref q_handler, .ref q_depth, .ref q_over, .int x_flatCount, .ref q_flatOp, .ref q_flatArg, .int x_flatHandlers, .ref q_flatHandler, .int x_blockCount, .ref q_leader, .ref q_last, .ref q_height, .ref q_state, .ref q_begin, .ref q_drawn, .ref q_order, .int x_g, .ref q_starters, .int x_ran, .int x_ended, .int x_result, .int x_steps, .int x_emits, .ref q_emitted, .ref q_locals, .ref q_stack, .int (nI tq), .int x_at])), (q_stack, .inl (cI, 24, .inl sk)), (q_handler, .inl (cI, z, .inl hd))] (RV D classes (tyz cI cZ) [(a, .inr (7, [.int x_count, .ref q_op, .ref q_arg, .int (nI hn), .ref q_handler, .ref q_depth, .ref q_over, .int x_flatCount, .ref q_flatOp, .ref q_flatArg, .int x_flatHandlers, .ref q_flatHandler, .int x_blockCount, .ref q_leader, .ref q_last, .ref q_height, .ref q_state, .ref q_begin, .ref q_drawn, .ref q_order, .int x_g, .ref q_starters, .int x_ran, .int ((f_MO_raise0 x_ended x_result x_at hn tq hd sk v).2.2.2.1), .int ((f_MO_raise0 x_ended x_result x_at hn tq hd sk v).2.2.2.2), .int x_steps, .int x_emits, .ref q_emitted, .ref q_locals, .ref q_stack, .int (nI ((f_MO_raise0 x_ended x_result x_at hn tq hd sk v).2.1)), .int ((f_MO_raise0 x_ended x_result x_at hn tq hd sk v).2.2.1)])), (q_stack, .inl (cI, 24, .inl ((f_MO_raise0 x_ended x_result x_at hn tq hd sk v).1))), (q_handler, .inl (cI, z, .inl hd))]) := by
  refine MG.of (cc := b_MO_raise) (maxL := 5) (ret := none) (own := "FlowFlattenerModel") rfl (by decide) rfl (Nat.le_of_ble_eq_true rfl) ?_
  intro p e s m below meth c A ls S hr hlocks hA hP hK hD hS hE hl
  have hx := S.1
  have hb := S.2.1
  have hl : lv_has ls 5 [(0, .ref a), (1, .int 0), (2, .int v)] := hl
  refine lv_iload_n hx hb d_MO_raise_0 rfl (lv_at hl 1 rfl) ?_
  refine lv_if_eq (tgt := 11) hx hb d_MO_raise_1 (by decide) (fun h1_1 => ?_) (fun h1_1 => absurd h1_1 (by decide))
  refine lv_aload_n hx hb d_MO_raise_11 rfl (lv_at hl 0 rfl) ?_
  refine k_get (v := .int (nI hn)) S in_MO hK hP 0 rfl rfl 3 (by decide) ql_MO_80 rfl d_MO_raise_12 ?_
  refine lv_istore_n (lv' := [(3, .int (nI hn)), (0, .ref a), (1, .int 0), (2, .int v)]) hx hb d_MO_raise_15 rfl hl (by decide) rfl (fun ls hl => ?_)
  refine lv_iconst (v := nI 0) hx hb d_MO_raise_16 (by decide) ?_
  refine lv_istore (lv' := [(4, .int (nI 0)), (3, .int (nI hn)), (0, .ref a), (1, .int 0), (2, .int v)]) hx hb d_MO_raise_17 hl (by decide) rfl (fun ls hl => ?_)
  have LP19 : ∀ (kf : Nat) (h : Nat), (h + kf = hn) → lp_MO_raise0 x_ended x_result x_at hn tq hd sk v kf h = f_MO_raise0 x_ended x_result x_at hn tq hd sk v → ∀ (ls : Array Slot) (H : Heap) (locs : List Loc), lv_has ls 5 [(0, .ref a), (1, .int 0), (2, .int v), (3, .int (nI hn)), (4, .int (nI h))] → va_P D classes [(a, .inr (7, [.int x_count, .ref q_op, .ref q_arg, .int (nI hn), .ref q_handler, .ref q_depth, .ref q_over, .int x_flatCount, .ref q_flatOp, .ref q_flatArg, .int x_flatHandlers, .ref q_flatHandler, .int x_blockCount, .ref q_leader, .ref q_last, .ref q_height, .ref q_state, .ref q_begin, .ref q_drawn, .ref q_order, .int x_g, .ref q_starters, .int x_ran, .int x_ended, .int x_result, .int x_steps, .int x_emits, .ref q_emitted, .ref q_locals, .ref q_stack, .int (nI tq), .int x_at])), (q_stack, .inl (cI, 24, .inl sk)), (q_handler, .inl (cI, z, .inl hd))] H → va_D A [(a, .inr (7, [.int x_count, .ref q_op, .ref q_arg, .int (nI hn), .ref q_handler, .ref q_depth, .ref q_over, .int x_flatCount, .ref q_flatOp, .ref q_flatArg, .int x_flatHandlers, .ref q_flatHandler, .int x_blockCount, .ref q_leader, .ref q_last, .ref q_height, .ref q_state, .ref q_begin, .ref q_drawn, .ref q_order, .int x_g, .ref q_starters, .int x_ran, .int x_ended, .int x_result, .int x_steps, .int x_emits, .ref q_emitted, .ref q_locals, .ref q_stack, .int (nI tq), .int x_at])), (q_stack, .inl (cI, 24, .inl sk)), (q_handler, .inl (cI, z, .inl hd))] → va_S A s.heap H locs → W p l e (rmK 2 44) s m [.ref a, .int 0, .int v].toArray below meth c H locs 0 0 (MQ below (RV D classes (tyz cI cZ) [(a, .inr (7, [.int x_count, .ref q_op, .ref q_arg, .int (nI hn), .ref q_handler, .ref q_depth, .ref q_over, .int x_flatCount, .ref q_flatOp, .ref q_flatArg, .int x_flatHandlers, .ref q_flatHandler, .int x_blockCount, .ref q_leader, .ref q_last, .ref q_height, .ref q_state, .ref q_begin, .ref q_drawn, .ref q_order, .int x_g, .ref q_starters, .int x_ran, .int ((f_MO_raise0 x_ended x_result x_at hn tq hd sk v).2.2.2.1), .int ((f_MO_raise0 x_ended x_result x_at hn tq hd sk v).2.2.2.2), .int x_steps, .int x_emits, .ref q_emitted, .ref q_locals, .ref q_stack, .int (nI ((f_MO_raise0 x_ended x_result x_at hn tq hd sk v).2.1)), .int ((f_MO_raise0 x_ended x_result x_at hn tq hd sk v).2.2.1)])), (q_stack, .inl (cI, 24, .inl ((f_MO_raise0 x_ended x_result x_at hn tq hd sk v).1))), (q_handler, .inl (cI, z, .inl hd))] A) [.ref a, .int 0, .int v].toArray s 0 0 A) (F0 m 19 ls []) := by
    intro kf
    induction kf with
    | zero =>
      intro h hk hF19 ls H locs hl hP hD hS
      refine lv_iload hx hb d_MO_raise_19 (lv_at hl 4 rfl) ?_
      refine lv_iload_n hx hb d_MO_raise_21 rfl (lv_at hl 3 rfl) ?_
      refine n_icmp_ge (tgt := 86) (x := h) (y := hn) hx hb rfl rfl (by omega) (by omega) d_MO_raise_22 (by decide) (fun h22_2 => ?_) (fun h22_2 => absurd h22_2 (by omega))
      refine lv_aload_n hx hb d_MO_raise_86 rfl (lv_at hl 0 rfl) ?_
      refine lv_iconst (v := 2) hx hb d_MO_raise_87 (by decide) ?_
      refine k_put (v := .int 2) (ws' := [(a, .inr (7, [.int x_count, .ref q_op, .ref q_arg, .int (nI hn), .ref q_handler, .ref q_depth, .ref q_over, .int x_flatCount, .ref q_flatOp, .ref q_flatArg, .int x_flatHandlers, .ref q_flatHandler, .int x_blockCount, .ref q_leader, .ref q_last, .ref q_height, .ref q_state, .ref q_begin, .ref q_drawn, .ref q_order, .int x_g, .ref q_starters, .int x_ran, .int 2, .int x_result, .int x_steps, .int x_emits, .ref q_emitted, .ref q_locals, .ref q_stack, .int (nI tq), .int x_at])), (q_stack, .inl (cI, 24, .inl sk)), (q_handler, .inl (cI, z, .inl hd))]) S in_MO ty_MO nm_MO hK hP hD hS 0 rfl rfl 23 (by decide) ql_MO_216 rfl rfl rfl rfl (Nat.le_of_ble_eq_true rfl) rfl d_MO_raise_88 (fun H locs hP hD hS => ?_)
      refine lv_aload_n hx hb d_MO_raise_91 rfl (lv_at hl 0 rfl) ?_
      refine lv_iload_n hx hb d_MO_raise_92 rfl (lv_at hl 2 rfl) ?_
      refine k_put (v := .int v) (ws' := [(a, .inr (7, [.int x_count, .ref q_op, .ref q_arg, .int (nI hn), .ref q_handler, .ref q_depth, .ref q_over, .int x_flatCount, .ref q_flatOp, .ref q_flatArg, .int x_flatHandlers, .ref q_flatHandler, .int x_blockCount, .ref q_leader, .ref q_last, .ref q_height, .ref q_state, .ref q_begin, .ref q_drawn, .ref q_order, .int x_g, .ref q_starters, .int x_ran, .int 2, .int v, .int x_steps, .int x_emits, .ref q_emitted, .ref q_locals, .ref q_stack, .int (nI tq), .int x_at])), (q_stack, .inl (cI, 24, .inl sk)), (q_handler, .inl (cI, z, .inl hd))]) S in_MO ty_MO nm_MO hK hP hD hS 0 rfl rfl 24 (by decide) ql_MO_60 rfl rfl rfl rfl (Nat.le_of_ble_eq_true rfl) rfl d_MO_raise_93 (fun H locs hP hD hS => ?_)
      exact k_vret hx hb hr hlocks hK hP hD hS (by rw [← hF19, lp_MO_raise0]) d_MO_raise_96
    | succ kf ih =>
      intro h hk hF19 ls H locs hl hP hD hS
      refine lv_iload hx hb d_MO_raise_19 (lv_at hl 4 rfl) ?_
      refine lv_iload_n hx hb d_MO_raise_21 rfl (lv_at hl 3 rfl) ?_
      refine n_icmp_ge (tgt := 86) (x := h) (y := hn) hx hb rfl rfl (by omega) (by omega) d_MO_raise_22 (by decide) (fun h22_3 => absurd h22_3 (by omega)) (fun h22_3 => ?_)
      refine lv_aload_n hx hb d_MO_raise_25 rfl (lv_at hl 0 rfl) ?_
      refine lv_iload_n hx hb d_MO_raise_26 rfl (lv_at hl 1 rfl) ?_
      refine lv_iload hx hb d_MO_raise_27 (lv_at hl 4 rfl) ?_
      refine lv_iconst (v := 0) hx hb d_MO_raise_29 (by decide) ?_
      refine k_goi (ws' := [(a, .inr (7, [.int x_count, .ref q_op, .ref q_arg, .int (nI hn), .ref q_handler, .ref q_depth, .ref q_over, .int x_flatCount, .ref q_flatOp, .ref q_flatArg, .int x_flatHandlers, .ref q_flatHandler, .int x_blockCount, .ref q_leader, .ref q_last, .ref q_height, .ref q_state, .ref q_begin, .ref q_drawn, .ref q_order, .int x_g, .ref q_starters, .int x_ran, .int x_ended, .int x_result, .int x_steps, .int x_emits, .ref q_emitted, .ref q_locals, .ref q_stack, .int (nI tq), .int x_at])), (q_stack, .inl (cI, 24, .inl sk)), (q_handler, .inl (cI, z, .inl hd))]) (wr := [(q_stack, .inl (cI, 24, .inl sk))]) (k_runV (q0 := 0) (As := [.int 0, .int (nI h), .int 0]) (rest := []) (n := 3) S (c_MO_handlerAt0 l D cI cZ a q_op q_arg q_handler q_depth q_over q_flatOp q_flatArg q_flatHandler q_leader q_last q_height q_state q_begin q_drawn q_order q_starters q_emitted q_locals q_stack x_count x_flatCount x_flatHandlers x_blockCount x_g x_ran x_ended x_result x_steps x_emits (nI tq) x_at hn z hd (nI h) 0 (by omega) (by omega)) E0_b E0_t ql_MO_209 qi_MO_handlerAt qs_MO_handlerAt qn_MO qc_MO_handlerAt (by decide +kernel) rfl ⟨rfl, rfl⟩ ⟨Nat.le_of_ble_eq_true rfl, Nat.le_of_ble_eq_true rfl⟩ hK hP hD [0, 2] rfl (by decide) rfl rfl hl.1 rfl (Nat.le_of_ble_eq_true rfl) d_MO_raise_30 ⟨Nat.zero_le _, Nat.zero_le _⟩) hP hD hS hA [0, 2] [1] [1, 0, 2] rfl rfl (by decide) (by decide) rfl (by decide) (fun H locs hP hD hS => ?_)
      refine lv_aload_n hx hb d_MO_raise_33 rfl (lv_at hl 0 rfl) ?_
      refine k_get (v := .int x_at) S in_MO hK hP 0 rfl rfl 31 (by decide) ql_MO_213 rfl d_MO_raise_34 ?_
      refine lv_icmp_gt (tgt := 80) hx hb d_MO_raise_37 (by decide) (fun h37_4 => ?_) (fun h37_4 => ?_)
      · skip
        refine lv_iinc (k := 4) (v := nI (h + 1)) (lv' := [(4, .int (nI (h + 1))), (0, .ref a), (1, .int 0), (2, .int v), (3, .int (nI hn))]) hx hb d_MO_raise_80 hl rfl (nc_add rfl (by decide)) (by decide) rfl (fun ls hl => ?_)
        refine lv_goto (tgt := 19) hx hb d_MO_raise_83 (by decide) ?_
        have e9 : lp_MO_raise0 x_ended x_result x_at hn tq hd sk v (kf + 1) h = lp_MO_raise0 x_ended x_result x_at hn tq hd sk v kf (h + 1) := by rw [lp_MO_raise0, if_pos h37_4]
        rw [e9] at hF19
        exact ih (h + 1) (by omega) hF19 _ _ _ (lv_sub hl [1, 2, 3, 4, 0] rfl) hP hD hS
      · skip
        refine lv_aload_n hx hb d_MO_raise_40 rfl (lv_at hl 0 rfl) ?_
        refine k_get (v := .int x_at) S in_MO hK hP 0 rfl rfl 31 (by decide) ql_MO_213 rfl d_MO_raise_41 ?_
        refine lv_aload_n hx hb d_MO_raise_44 rfl (lv_at hl 0 rfl) ?_
        refine lv_iload_n hx hb d_MO_raise_45 rfl (lv_at hl 1 rfl) ?_
        refine lv_iload hx hb d_MO_raise_46 (lv_at hl 4 rfl) ?_
        refine lv_iconst (v := 1) hx hb d_MO_raise_48 (by decide) ?_
        refine k_goi (ws' := [(a, .inr (7, [.int x_count, .ref q_op, .ref q_arg, .int (nI hn), .ref q_handler, .ref q_depth, .ref q_over, .int x_flatCount, .ref q_flatOp, .ref q_flatArg, .int x_flatHandlers, .ref q_flatHandler, .int x_blockCount, .ref q_leader, .ref q_last, .ref q_height, .ref q_state, .ref q_begin, .ref q_drawn, .ref q_order, .int x_g, .ref q_starters, .int x_ran, .int x_ended, .int x_result, .int x_steps, .int x_emits, .ref q_emitted, .ref q_locals, .ref q_stack, .int (nI tq), .int x_at])), (q_stack, .inl (cI, 24, .inl sk)), (q_handler, .inl (cI, z, .inl hd))]) (wr := [(q_stack, .inl (cI, 24, .inl sk))]) (k_runV (q0 := 0) (As := [.int 0, .int (nI h), .int 1]) (rest := [.int x_at]) (n := 3) S (c_MO_handlerAt0 l D cI cZ a q_op q_arg q_handler q_depth q_over q_flatOp q_flatArg q_flatHandler q_leader q_last q_height q_state q_begin q_drawn q_order q_starters q_emitted q_locals q_stack x_count x_flatCount x_flatHandlers x_blockCount x_g x_ran x_ended x_result x_steps x_emits (nI tq) x_at hn z hd (nI h) 1 (by omega) (by omega)) E0_b E0_t ql_MO_209 qi_MO_handlerAt qs_MO_handlerAt qn_MO qc_MO_handlerAt (by decide +kernel) rfl ⟨rfl, rfl⟩ ⟨Nat.le_of_ble_eq_true rfl, Nat.le_of_ble_eq_true rfl⟩ hK hP hD [0, 2] rfl (by decide) rfl rfl hl.1 rfl (Nat.le_of_ble_eq_true rfl) d_MO_raise_49 ⟨Nat.zero_le _, Nat.zero_le _⟩) hP hD hS hA [0, 2] [1] [1, 0, 2] rfl rfl (by decide) (by decide) rfl (by decide) (fun H locs hP hD hS => ?_)
        refine lv_icmp_ge (tgt := 80) hx hb d_MO_raise_52 (by decide) (fun h52_5 => ?_) (fun h52_5 => ?_)
        · skip
          refine lv_iinc (k := 4) (v := nI (h + 1)) (lv' := [(4, .int (nI (h + 1))), (0, .ref a), (1, .int 0), (2, .int v), (3, .int (nI hn))]) hx hb d_MO_raise_80 hl rfl (nc_add rfl (by decide)) (by decide) rfl (fun ls hl => ?_)
          refine lv_goto (tgt := 19) hx hb d_MO_raise_83 (by decide) ?_
          have e9 : lp_MO_raise0 x_ended x_result x_at hn tq hd sk v (kf + 1) h = lp_MO_raise0 x_ended x_result x_at hn tq hd sk v kf (h + 1) := by rw [lp_MO_raise0, if_neg h37_4, if_pos h52_5]
          rw [e9] at hF19
          exact ih (h + 1) (by omega) hF19 _ _ _ (lv_sub hl [1, 2, 3, 4, 0] rfl) hP hD hS
        · skip
          refine lv_aload_n hx hb d_MO_raise_55 rfl (lv_at hl 0 rfl) ?_
          refine k_get (v := .ref q_stack) S in_MO hK hP 0 rfl rfl 29 (by decide) ql_MO_70 rfl d_MO_raise_56 ?_
          refine lv_iconst (v := 0) hx hb d_MO_raise_59 (by decide) ?_
          refine lv_iload_n hx hb d_MO_raise_60 rfl (lv_at hl 2 rfl) ?_
          refine k_st (k := 0) (x := v) (ws' := [(a, .inr (7, [.int x_count, .ref q_op, .ref q_arg, .int (nI hn), .ref q_handler, .ref q_depth, .ref q_over, .int x_flatCount, .ref q_flatOp, .ref q_flatArg, .int x_flatHandlers, .ref q_flatHandler, .int x_blockCount, .ref q_leader, .ref q_last, .ref q_height, .ref q_state, .ref q_begin, .ref q_drawn, .ref q_order, .int x_g, .ref q_starters, .int x_ran, .int x_ended, .int x_result, .int x_steps, .int x_emits, .ref q_emitted, .ref q_locals, .ref q_stack, .int (nI tq), .int x_at])), (q_stack, .inl (cI, 24, .inl (upd sk 0 v))), (q_handler, .inl (cI, z, .inl hd))]) hx hb hK hP hD hS 1 0 rfl rfl (by decide) (by omega) (by decide) rfl d_MO_raise_61 (fun H locs hP hD hS => ?_)
          refine lv_aload_n hx hb d_MO_raise_62 rfl (lv_at hl 0 rfl) ?_
          refine lv_iconst (v := nI 1) hx hb d_MO_raise_63 (by decide) ?_
          refine k_put (v := .int (nI 1)) (ws' := [(a, .inr (7, [.int x_count, .ref q_op, .ref q_arg, .int (nI hn), .ref q_handler, .ref q_depth, .ref q_over, .int x_flatCount, .ref q_flatOp, .ref q_flatArg, .int x_flatHandlers, .ref q_flatHandler, .int x_blockCount, .ref q_leader, .ref q_last, .ref q_height, .ref q_state, .ref q_begin, .ref q_drawn, .ref q_order, .int x_g, .ref q_starters, .int x_ran, .int x_ended, .int x_result, .int x_steps, .int x_emits, .ref q_emitted, .ref q_locals, .ref q_stack, .int (nI 1), .int x_at])), (q_stack, .inl (cI, 24, .inl (upd sk 0 v))), (q_handler, .inl (cI, z, .inl hd))]) S in_MO ty_MO nm_MO hK hP hD hS 0 rfl rfl 30 (by decide) ql_MO_206 rfl rfl rfl rfl (Nat.le_of_ble_eq_true rfl) rfl d_MO_raise_64 (fun H locs hP hD hS => ?_)
          refine lv_aload_n hx hb d_MO_raise_67 rfl (lv_at hl 0 rfl) ?_
          refine lv_aload_n hx hb d_MO_raise_68 rfl (lv_at hl 0 rfl) ?_
          refine lv_iload_n hx hb d_MO_raise_69 rfl (lv_at hl 1 rfl) ?_
          refine lv_iload hx hb d_MO_raise_70 (lv_at hl 4 rfl) ?_
          refine lv_iconst (v := 2) hx hb d_MO_raise_72 (by decide) ?_
          refine k_goi (ws' := [(a, .inr (7, [.int x_count, .ref q_op, .ref q_arg, .int (nI hn), .ref q_handler, .ref q_depth, .ref q_over, .int x_flatCount, .ref q_flatOp, .ref q_flatArg, .int x_flatHandlers, .ref q_flatHandler, .int x_blockCount, .ref q_leader, .ref q_last, .ref q_height, .ref q_state, .ref q_begin, .ref q_drawn, .ref q_order, .int x_g, .ref q_starters, .int x_ran, .int x_ended, .int x_result, .int x_steps, .int x_emits, .ref q_emitted, .ref q_locals, .ref q_stack, .int (nI 1), .int x_at])), (q_stack, .inl (cI, 24, .inl (upd sk 0 v))), (q_handler, .inl (cI, z, .inl hd))]) (wr := [(q_stack, .inl (cI, 24, .inl (upd sk 0 v)))]) (k_runV (q0 := 0) (As := [.int 0, .int (nI h), .int 2]) (rest := [.ref a]) (n := 3) S (c_MO_handlerAt0 l D cI cZ a q_op q_arg q_handler q_depth q_over q_flatOp q_flatArg q_flatHandler q_leader q_last q_height q_state q_begin q_drawn q_order q_starters q_emitted q_locals q_stack x_count x_flatCount x_flatHandlers x_blockCount x_g x_ran x_ended x_result x_steps x_emits (nI 1) x_at hn z hd (nI h) 2 (by omega) (by omega)) E0_b E0_t ql_MO_209 qi_MO_handlerAt qs_MO_handlerAt qn_MO qc_MO_handlerAt (by decide +kernel) rfl ⟨rfl, rfl⟩ ⟨Nat.le_of_ble_eq_true rfl, Nat.le_of_ble_eq_true rfl⟩ hK hP hD [0, 2] rfl (by decide) rfl rfl hl.1 rfl (Nat.le_of_ble_eq_true rfl) d_MO_raise_73 ⟨Nat.zero_le _, Nat.zero_le _⟩) hP hD hS hA [0, 2] [1] [1, 0, 2] rfl rfl (by decide) (by decide) rfl (by decide) (fun H locs hP hD hS => ?_)
          refine k_put (v := .int (f_MO_handlerAt0 hn hd (nI h) 2)) (ws' := [(a, .inr (7, [.int x_count, .ref q_op, .ref q_arg, .int (nI hn), .ref q_handler, .ref q_depth, .ref q_over, .int x_flatCount, .ref q_flatOp, .ref q_flatArg, .int x_flatHandlers, .ref q_flatHandler, .int x_blockCount, .ref q_leader, .ref q_last, .ref q_height, .ref q_state, .ref q_begin, .ref q_drawn, .ref q_order, .int x_g, .ref q_starters, .int x_ran, .int x_ended, .int x_result, .int x_steps, .int x_emits, .ref q_emitted, .ref q_locals, .ref q_stack, .int (nI 1), .int (f_MO_handlerAt0 hn hd (nI h) 2)])), (q_stack, .inl (cI, 24, .inl (upd sk 0 v))), (q_handler, .inl (cI, z, .inl hd))]) S in_MO ty_MO nm_MO hK hP hD hS 0 rfl rfl 31 (by decide) ql_MO_213 rfl rfl rfl rfl (Nat.le_of_ble_eq_true rfl) rfl d_MO_raise_76 (fun H locs hP hD hS => ?_)
          exact k_vret hx hb hr hlocks hK hP hD hS (by rw [← hF19, lp_MO_raise0, if_neg h37_4, if_neg h52_5]) d_MO_raise_79
  exact LP19 hn 0 (by omega) (by rw [f_MO_raise0]) _ _ _ (lv_sub hl [2, 3, 4, 1, 0] rfl) hP hD hS

theorem d_MO_reckon_0 : decode b_MO_reckon 0 = .ok (.aload_n 0, 1) := by decide +kernel
theorem d_MO_reckon_1 : decode b_MO_reckon 1 = .ok (.invokevirtual 219, 3) := by decide +kernel
theorem d_MO_reckon_4 : decode b_MO_reckon 4 = .ok (.istore_n 3, 1) := by decide +kernel
theorem d_MO_reckon_5 : decode b_MO_reckon 5 = .ok (.aload_n 0, 1) := by decide +kernel
theorem d_MO_reckon_6 : decode b_MO_reckon 6 = .ok (.invokevirtual 219, 3) := by decide +kernel
theorem d_MO_reckon_9 : decode b_MO_reckon 9 = .ok (.istore 4, 2) := by decide +kernel
theorem d_MO_reckon_11 : decode b_MO_reckon 11 = .ok (.iload_n 2, 1) := by decide +kernel
theorem d_MO_reckon_12 : decode b_MO_reckon 12 = .ok (.bipush 6, 2) := by decide +kernel
theorem d_MO_reckon_14 : decode b_MO_reckon 14 = .ok (.if_icmp .ne 16, 3) := by decide +kernel
theorem d_MO_reckon_17 : decode b_MO_reckon 17 = .ok (.iload_n 3, 1) := by decide +kernel
theorem d_MO_reckon_18 : decode b_MO_reckon 18 = .ok (.ifCond .ne 12, 3) := by decide +kernel
theorem d_MO_reckon_21 : decode b_MO_reckon 21 = .ok (.aload_n 0, 1) := by decide +kernel
theorem d_MO_reckon_22 : decode b_MO_reckon 22 = .ok (.iload_n 1, 1) := by decide +kernel
theorem d_MO_reckon_23 : decode b_MO_reckon 23 = .ok (.iconst (-1), 1) := by decide +kernel
theorem d_MO_reckon_24 : decode b_MO_reckon 24 = .ok (.invokevirtual 222, 3) := by decide +kernel
theorem d_MO_reckon_27 : decode b_MO_reckon 27 = .ok (.goto 25, 3) := by decide +kernel
theorem d_MO_reckon_30 : decode b_MO_reckon 30 = .ok (.aload_n 0, 1) := by decide +kernel
theorem d_MO_reckon_31 : decode b_MO_reckon 31 = .ok (.aload_n 0, 1) := by decide +kernel
theorem d_MO_reckon_32 : decode b_MO_reckon 32 = .ok (.iload_n 2, 1) := by decide +kernel
theorem d_MO_reckon_33 : decode b_MO_reckon 33 = .ok (.iload 4, 2) := by decide +kernel
theorem d_MO_reckon_35 : decode b_MO_reckon 35 = .ok (.iload_n 3, 1) := by decide +kernel
theorem d_MO_reckon_36 : decode b_MO_reckon 36 = .ok (.invokevirtual 226, 3) := by decide +kernel
theorem d_MO_reckon_39 : decode b_MO_reckon 39 = .ok (.invokevirtual 230, 3) := by decide +kernel
theorem d_MO_reckon_42 : decode b_MO_reckon 42 = .ok (.aload_n 0, 1) := by decide +kernel
theorem d_MO_reckon_43 : decode b_MO_reckon 43 = .ok (.dup, 1) := by decide +kernel
theorem d_MO_reckon_44 : decode b_MO_reckon 44 = .ok (.getfield 213, 3) := by decide +kernel
theorem d_MO_reckon_47 : decode b_MO_reckon 47 = .ok (.iconst 1, 1) := by decide +kernel
theorem d_MO_reckon_48 : decode b_MO_reckon 48 = .ok (.iadd, 1) := by decide +kernel
theorem d_MO_reckon_49 : decode b_MO_reckon 49 = .ok (.putfield 213, 3) := by decide +kernel
theorem d_MO_reckon_52 : decode b_MO_reckon 52 = .ok (.return_, 1) := by decide +kernel
def f_MO_reckon0 (x_ended : Int32) (x_result : Int32) (x_at : Int32) (hn : Nat) (tq : Nat) (hd : Nat → Int32) (sk : Nat → Int32) (o : Int32) : (Nat → Int32) × Nat × Int32 × Int32 × Int32 := (if o = 6 then (if sk (tq - 1) = 0 then ((f_MO_raise0 x_ended x_result x_at hn ((tq - 1) - 1) hd sk (-1)).1, (f_MO_raise0 x_ended x_result x_at hn ((tq - 1) - 1) hd sk (-1)).2.1, (f_MO_raise0 x_ended x_result x_at hn ((tq - 1) - 1) hd sk (-1)).2.2.1, (f_MO_raise0 x_ended x_result x_at hn ((tq - 1) - 1) hd sk (-1)).2.2.2.1, (f_MO_raise0 x_ended x_result x_at hn ((tq - 1) - 1) hd sk (-1)).2.2.2.2) else (upd sk ((tq - 1) - 1) (f_MO_sum o (sk ((tq - 1) - 1)) (sk (tq - 1))), ((tq - 1) - 1) + 1, x_at + 1, x_ended, x_result)) else (upd sk ((tq - 1) - 1) (f_MO_sum o (sk ((tq - 1) - 1)) (sk (tq - 1))), ((tq - 1) - 1) + 1, x_at + 1, x_ended, x_result))
set_option maxHeartbeats 1000000 in
set_option maxRecDepth 100000 in
theorem c_MO_reckon0 (l : Launch) (D : va_G) (cI cZ : ClassId) (a q_op q_arg q_handler q_depth q_over q_flatOp q_flatArg q_flatHandler q_leader q_last q_height q_state q_begin q_drawn q_order q_starters q_emitted q_locals q_stack : Nat) (x_count x_flatCount x_flatHandlers x_blockCount x_g x_ran x_ended x_result x_steps x_emits x_at : Int32) (hn z tq : Nat) (hd sk : Nat → Int32) (o : Int32) (hq : 2 ≤ tq) (hq7 : tq ≤ 24) (hz : 3 * hn ≤ z) (hz2 : z < 2 ^ 31) : MG l y_MO_reckon w_MO_reckon (rmK 3 68) D classes (tyz cI cZ) E0 [.ref a, .int 0, .int o] [(a, .inr (7, [.int x_count, .ref q_op, .ref q_arg, .int (nI hn), .ref q_handler, .ref q_depth, .ref q_over, .int x_flatCount, .ref q_flatOp, .ref q_flatArg, .int x_flatHandlers, .ref q_flatHandler, .int x_blockCount, .ref q_leader, .ref q_last, .ref q_height, .ref q_state, .ref q_begin, .ref q_drawn, .ref q_order, .int x_g, .ref q_starters, .int x_ran, .int x_ended, .int x_result, .int x_steps, .int x_emits, .ref q_emitted, .ref q_locals, .ref q_stack, .int (nI tq), .int x_at])), (q_stack, .inl (cI, 24, .inl sk)), (q_handler, .inl (cI, z, .inl hd))] (RV D classes (tyz cI cZ) [(a, .inr (7, [.int x_count, .ref q_op, .ref q_arg, .int (nI hn), .ref q_handler, .ref q_depth, .ref q_over, .int x_flatCount, .ref q_flatOp, .ref q_flatArg, .int x_flatHandlers, .ref q_flatHandler, .int x_blockCount, .ref q_leader, .ref q_last, .ref q_height, .ref q_state, .ref q_begin, .ref q_drawn, .ref q_order, .int x_g, .ref q_starters, .int x_ran, .int ((f_MO_reckon0 x_ended x_result x_at hn tq hd sk o).2.2.2.1), .int ((f_MO_reckon0 x_ended x_result x_at hn tq hd sk o).2.2.2.2), .int x_steps, .int x_emits, .ref q_emitted, .ref q_locals, .ref q_stack, .int (nI ((f_MO_reckon0 x_ended x_result x_at hn tq hd sk o).2.1)), .int ((f_MO_reckon0 x_ended x_result x_at hn tq hd sk o).2.2.1)])), (q_stack, .inl (cI, 24, .inl ((f_MO_reckon0 x_ended x_result x_at hn tq hd sk o).1))), (q_handler, .inl (cI, z, .inl hd))]) := by
  refine MG.of (cc := b_MO_reckon) (maxL := 5) (ret := none) (own := "FlowFlattenerModel") rfl (by decide) rfl (Nat.le_of_ble_eq_true rfl) ?_
  intro p e s m below meth c A ls S hr hlocks hA hP hK hD hS hE hl
  have hx := S.1
  have hb := S.2.1
  have hl : lv_has ls 5 [(0, .ref a), (1, .int 0), (2, .int o)] := hl
  refine lv_aload_n hx hb d_MO_reckon_0 rfl (lv_at hl 0 rfl) ?_
  refine k_goi (ws' := [(a, .inr (7, [.int x_count, .ref q_op, .ref q_arg, .int (nI hn), .ref q_handler, .ref q_depth, .ref q_over, .int x_flatCount, .ref q_flatOp, .ref q_flatArg, .int x_flatHandlers, .ref q_flatHandler, .int x_blockCount, .ref q_leader, .ref q_last, .ref q_height, .ref q_state, .ref q_begin, .ref q_drawn, .ref q_order, .int x_g, .ref q_starters, .int x_ran, .int x_ended, .int x_result, .int x_steps, .int x_emits, .ref q_emitted, .ref q_locals, .ref q_stack, .int (nI (tq - 1)), .int x_at])), (q_stack, .inl (cI, 24, .inl sk)), (q_handler, .inl (cI, z, .inl hd))]) (wr := [(q_handler, .inl (cI, z, .inl hd))]) (k_runV (q0 := 0) (As := []) (rest := []) (n := 0) S (c_MO_pop l D cI cZ a q_op q_arg q_handler q_depth q_over q_flatOp q_flatArg q_flatHandler q_leader q_last q_height q_state q_begin q_drawn q_order q_starters q_emitted q_locals q_stack x_count (nI hn) x_flatCount x_flatHandlers x_blockCount x_g x_ran x_ended x_result x_steps x_emits x_at tq sk (by omega) (by omega)) E0_b E0_t ql_MO_219 qi_MO_pop qs_MO_pop qn_MO qc_MO_pop (by decide +kernel) rfl ⟨rfl, rfl⟩ ⟨Nat.le_of_ble_eq_true rfl, Nat.le_of_ble_eq_true rfl⟩ hK hP hD [0, 1] rfl (by decide) rfl rfl hl.1 rfl (Nat.le_of_ble_eq_true rfl) d_MO_reckon_1 ⟨Nat.zero_le _, Nat.zero_le _⟩) hP hD hS hA [0, 1] [2] [1, 2, 0] rfl rfl (by decide) (by decide) rfl (by decide) (fun H locs hP hD hS => ?_)
  refine lv_istore_n (lv' := [(3, .int (sk (tq - 1))), (0, .ref a), (1, .int 0), (2, .int o)]) hx hb d_MO_reckon_4 rfl hl (by decide) rfl (fun ls hl => ?_)
  refine lv_aload_n hx hb d_MO_reckon_5 rfl (lv_at hl 1 rfl) ?_
  refine k_goi (ws' := [(a, .inr (7, [.int x_count, .ref q_op, .ref q_arg, .int (nI hn), .ref q_handler, .ref q_depth, .ref q_over, .int x_flatCount, .ref q_flatOp, .ref q_flatArg, .int x_flatHandlers, .ref q_flatHandler, .int x_blockCount, .ref q_leader, .ref q_last, .ref q_height, .ref q_state, .ref q_begin, .ref q_drawn, .ref q_order, .int x_g, .ref q_starters, .int x_ran, .int x_ended, .int x_result, .int x_steps, .int x_emits, .ref q_emitted, .ref q_locals, .ref q_stack, .int (nI ((tq - 1) - 1)), .int x_at])), (q_stack, .inl (cI, 24, .inl sk)), (q_handler, .inl (cI, z, .inl hd))]) (wr := [(q_handler, .inl (cI, z, .inl hd))]) (k_runV (q0 := 0) (As := []) (rest := []) (n := 0) S (c_MO_pop l D cI cZ a q_op q_arg q_handler q_depth q_over q_flatOp q_flatArg q_flatHandler q_leader q_last q_height q_state q_begin q_drawn q_order q_starters q_emitted q_locals q_stack x_count (nI hn) x_flatCount x_flatHandlers x_blockCount x_g x_ran x_ended x_result x_steps x_emits x_at (tq - 1) sk (by omega) (by omega)) E0_b E0_t ql_MO_219 qi_MO_pop qs_MO_pop qn_MO qc_MO_pop (by decide +kernel) rfl ⟨rfl, rfl⟩ ⟨Nat.le_of_ble_eq_true rfl, Nat.le_of_ble_eq_true rfl⟩ hK hP hD [0, 1] rfl (by decide) rfl rfl hl.1 rfl (Nat.le_of_ble_eq_true rfl) d_MO_reckon_6 ⟨Nat.zero_le _, Nat.zero_le _⟩) hP hD hS hA [0, 1] [2] [1, 2, 0] rfl rfl (by decide) (by decide) rfl (by decide) (fun H locs hP hD hS => ?_)
  refine lv_istore (lv' := [(4, .int (sk ((tq - 1) - 1))), (3, .int (sk (tq - 1))), (0, .ref a), (1, .int 0), (2, .int o)]) hx hb d_MO_reckon_9 hl (by decide) rfl (fun ls hl => ?_)
  refine lv_iload_n hx hb d_MO_reckon_11 rfl (lv_at hl 4 rfl) ?_
  refine lv_bipush (v := 6) hx hb d_MO_reckon_12 (by decide) ?_
  refine lv_icmp_ne (tgt := 30) hx hb d_MO_reckon_14 (by decide) (fun h14_1 => ?_) (fun h14_1 => ?_)
  · skip
    refine lv_aload_n hx hb d_MO_reckon_30 rfl (lv_at hl 2 rfl) ?_
    refine lv_aload_n hx hb d_MO_reckon_31 rfl (lv_at hl 2 rfl) ?_
    refine lv_iload_n hx hb d_MO_reckon_32 rfl (lv_at hl 4 rfl) ?_
    refine lv_iload hx hb d_MO_reckon_33 (lv_at hl 0 rfl) ?_
    refine lv_iload_n hx hb d_MO_reckon_35 rfl (lv_at hl 1 rfl) ?_
    refine k_goi (ws' := [(a, .inr (7, [.int x_count, .ref q_op, .ref q_arg, .int (nI hn), .ref q_handler, .ref q_depth, .ref q_over, .int x_flatCount, .ref q_flatOp, .ref q_flatArg, .int x_flatHandlers, .ref q_flatHandler, .int x_blockCount, .ref q_leader, .ref q_last, .ref q_height, .ref q_state, .ref q_begin, .ref q_drawn, .ref q_order, .int x_g, .ref q_starters, .int x_ran, .int x_ended, .int x_result, .int x_steps, .int x_emits, .ref q_emitted, .ref q_locals, .ref q_stack, .int (nI ((tq - 1) - 1)), .int x_at])), (q_stack, .inl (cI, 24, .inl sk)), (q_handler, .inl (cI, z, .inl hd))]) (wr := [(q_stack, .inl (cI, 24, .inl sk)), (q_handler, .inl (cI, z, .inl hd))]) (k_runV (q0 := 0) (As := [.int o, .int (sk ((tq - 1) - 1)), .int (sk (tq - 1))]) (rest := [.ref a]) (n := 3) S (c_MO_sum l D cI cZ a q_op q_arg q_handler q_depth q_over q_flatOp q_flatArg q_flatHandler q_leader q_last q_height q_state q_begin q_drawn q_order q_starters q_emitted q_locals q_stack x_count (nI hn) x_flatCount x_flatHandlers x_blockCount x_g x_ran x_ended x_result x_steps x_emits (nI ((tq - 1) - 1)) x_at o (sk ((tq - 1) - 1)) (sk (tq - 1)) (by intro h9; first | assumption | exact absurd h9 (by assumption))) E0_b E0_t ql_MO_226 qi_MO_sum qs_MO_sum qn_MO qc_MO_sum (by decide +kernel) rfl ⟨rfl, rfl⟩ ⟨Nat.le_of_ble_eq_true rfl, Nat.le_of_ble_eq_true rfl⟩ hK hP hD [0] rfl (by decide) rfl rfl hl.1 rfl (Nat.le_of_ble_eq_true rfl) d_MO_reckon_36 ⟨Nat.zero_le _, Nat.zero_le _⟩) hP hD hS hA [0] [1, 2] [2, 0, 1] rfl rfl (by decide) (by decide) rfl (by decide) (fun H locs hP hD hS => ?_)
    refine k_gov (ws' := [(a, .inr (7, [.int x_count, .ref q_op, .ref q_arg, .int (nI hn), .ref q_handler, .ref q_depth, .ref q_over, .int x_flatCount, .ref q_flatOp, .ref q_flatArg, .int x_flatHandlers, .ref q_flatHandler, .int x_blockCount, .ref q_leader, .ref q_last, .ref q_height, .ref q_state, .ref q_begin, .ref q_drawn, .ref q_order, .int x_g, .ref q_starters, .int x_ran, .int x_ended, .int x_result, .int x_steps, .int x_emits, .ref q_emitted, .ref q_locals, .ref q_stack, .int (nI (((tq - 1) - 1) + 1)), .int x_at])), (q_stack, .inl (cI, 24, .inl (upd sk ((tq - 1) - 1) (f_MO_sum o (sk ((tq - 1) - 1)) (sk (tq - 1)))))), (q_handler, .inl (cI, z, .inl hd))]) (wr := [(q_handler, .inl (cI, z, .inl hd))]) (k_runV (q0 := 0) (As := [.int (f_MO_sum o (sk ((tq - 1) - 1)) (sk (tq - 1)))]) (rest := []) (n := 1) S (c_MO_push l D cI cZ a q_op q_arg q_handler q_depth q_over q_flatOp q_flatArg q_flatHandler q_leader q_last q_height q_state q_begin q_drawn q_order q_starters q_emitted q_locals q_stack x_count (nI hn) x_flatCount x_flatHandlers x_blockCount x_g x_ran x_ended x_result x_steps x_emits x_at ((tq - 1) - 1) sk (f_MO_sum o (sk ((tq - 1) - 1)) (sk (tq - 1))) (by omega)) E0_b E0_t ql_MO_230 qi_MO_push qs_MO_push qn_MO qc_MO_push (by decide +kernel) rfl ⟨rfl, rfl⟩ ⟨Nat.le_of_ble_eq_true rfl, Nat.le_of_ble_eq_true rfl⟩ hK hP hD [0, 1] rfl (by decide) rfl rfl hl.1 rfl (Nat.le_of_ble_eq_true rfl) d_MO_reckon_39 ⟨Nat.zero_le _, Nat.zero_le _⟩) hP hD hS hA [0, 1] [2] [1, 2, 0] rfl rfl (by decide) (by decide) rfl (by decide) (fun H locs hP hD hS => ?_)
    refine lv_aload_n hx hb d_MO_reckon_42 rfl (lv_at hl 2 rfl) ?_
    refine lv_dup hx hb d_MO_reckon_43 rfl ?_
    refine k_get (v := .int x_at) S in_MO hK hP 0 rfl rfl 31 (by decide) ql_MO_213 rfl d_MO_reckon_44 ?_
    refine lv_iconst (v := 1) hx hb d_MO_reckon_47 (by decide) ?_
    refine lv_iadd hx hb d_MO_reckon_48 ?_
    refine k_put (v := .int (x_at + 1)) (ws' := [(a, .inr (7, [.int x_count, .ref q_op, .ref q_arg, .int (nI hn), .ref q_handler, .ref q_depth, .ref q_over, .int x_flatCount, .ref q_flatOp, .ref q_flatArg, .int x_flatHandlers, .ref q_flatHandler, .int x_blockCount, .ref q_leader, .ref q_last, .ref q_height, .ref q_state, .ref q_begin, .ref q_drawn, .ref q_order, .int x_g, .ref q_starters, .int x_ran, .int x_ended, .int x_result, .int x_steps, .int x_emits, .ref q_emitted, .ref q_locals, .ref q_stack, .int (nI (((tq - 1) - 1) + 1)), .int (x_at + 1)])), (q_stack, .inl (cI, 24, .inl (upd sk ((tq - 1) - 1) (f_MO_sum o (sk ((tq - 1) - 1)) (sk (tq - 1)))))), (q_handler, .inl (cI, z, .inl hd))]) S in_MO ty_MO nm_MO hK hP hD hS 0 rfl rfl 31 (by decide) ql_MO_213 rfl rfl rfl rfl (Nat.le_of_ble_eq_true rfl) rfl d_MO_reckon_49 (fun H locs hP hD hS => ?_)
    exact k_vret hx hb hr hlocks hK hP hD hS (by rw [f_MO_reckon0, if_neg h14_1]) d_MO_reckon_52
  · skip
    refine lv_iload_n hx hb d_MO_reckon_17 rfl (lv_at hl 1 rfl) ?_
    refine lv_if_ne (tgt := 30) hx hb d_MO_reckon_18 (by decide) (fun h18_2 => ?_) (fun h18_2 => ?_)
    · skip
      refine lv_aload_n hx hb d_MO_reckon_30 rfl (lv_at hl 2 rfl) ?_
      refine lv_aload_n hx hb d_MO_reckon_31 rfl (lv_at hl 2 rfl) ?_
      refine lv_iload_n hx hb d_MO_reckon_32 rfl (lv_at hl 4 rfl) ?_
      refine lv_iload hx hb d_MO_reckon_33 (lv_at hl 0 rfl) ?_
      refine lv_iload_n hx hb d_MO_reckon_35 rfl (lv_at hl 1 rfl) ?_
      refine k_goi (ws' := [(a, .inr (7, [.int x_count, .ref q_op, .ref q_arg, .int (nI hn), .ref q_handler, .ref q_depth, .ref q_over, .int x_flatCount, .ref q_flatOp, .ref q_flatArg, .int x_flatHandlers, .ref q_flatHandler, .int x_blockCount, .ref q_leader, .ref q_last, .ref q_height, .ref q_state, .ref q_begin, .ref q_drawn, .ref q_order, .int x_g, .ref q_starters, .int x_ran, .int x_ended, .int x_result, .int x_steps, .int x_emits, .ref q_emitted, .ref q_locals, .ref q_stack, .int (nI ((tq - 1) - 1)), .int x_at])), (q_stack, .inl (cI, 24, .inl sk)), (q_handler, .inl (cI, z, .inl hd))]) (wr := [(q_stack, .inl (cI, 24, .inl sk)), (q_handler, .inl (cI, z, .inl hd))]) (k_runV (q0 := 0) (As := [.int o, .int (sk ((tq - 1) - 1)), .int (sk (tq - 1))]) (rest := [.ref a]) (n := 3) S (c_MO_sum l D cI cZ a q_op q_arg q_handler q_depth q_over q_flatOp q_flatArg q_flatHandler q_leader q_last q_height q_state q_begin q_drawn q_order q_starters q_emitted q_locals q_stack x_count (nI hn) x_flatCount x_flatHandlers x_blockCount x_g x_ran x_ended x_result x_steps x_emits (nI ((tq - 1) - 1)) x_at o (sk ((tq - 1) - 1)) (sk (tq - 1)) (by intro h9; first | assumption | exact absurd h9 (by assumption))) E0_b E0_t ql_MO_226 qi_MO_sum qs_MO_sum qn_MO qc_MO_sum (by decide +kernel) rfl ⟨rfl, rfl⟩ ⟨Nat.le_of_ble_eq_true rfl, Nat.le_of_ble_eq_true rfl⟩ hK hP hD [0] rfl (by decide) rfl rfl hl.1 rfl (Nat.le_of_ble_eq_true rfl) d_MO_reckon_36 ⟨Nat.zero_le _, Nat.zero_le _⟩) hP hD hS hA [0] [1, 2] [2, 0, 1] rfl rfl (by decide) (by decide) rfl (by decide) (fun H locs hP hD hS => ?_)
      refine k_gov (ws' := [(a, .inr (7, [.int x_count, .ref q_op, .ref q_arg, .int (nI hn), .ref q_handler, .ref q_depth, .ref q_over, .int x_flatCount, .ref q_flatOp, .ref q_flatArg, .int x_flatHandlers, .ref q_flatHandler, .int x_blockCount, .ref q_leader, .ref q_last, .ref q_height, .ref q_state, .ref q_begin, .ref q_drawn, .ref q_order, .int x_g, .ref q_starters, .int x_ran, .int x_ended, .int x_result, .int x_steps, .int x_emits, .ref q_emitted, .ref q_locals, .ref q_stack, .int (nI (((tq - 1) - 1) + 1)), .int x_at])), (q_stack, .inl (cI, 24, .inl (upd sk ((tq - 1) - 1) (f_MO_sum o (sk ((tq - 1) - 1)) (sk (tq - 1)))))), (q_handler, .inl (cI, z, .inl hd))]) (wr := [(q_handler, .inl (cI, z, .inl hd))]) (k_runV (q0 := 0) (As := [.int (f_MO_sum o (sk ((tq - 1) - 1)) (sk (tq - 1)))]) (rest := []) (n := 1) S (c_MO_push l D cI cZ a q_op q_arg q_handler q_depth q_over q_flatOp q_flatArg q_flatHandler q_leader q_last q_height q_state q_begin q_drawn q_order q_starters q_emitted q_locals q_stack x_count (nI hn) x_flatCount x_flatHandlers x_blockCount x_g x_ran x_ended x_result x_steps x_emits x_at ((tq - 1) - 1) sk (f_MO_sum o (sk ((tq - 1) - 1)) (sk (tq - 1))) (by omega)) E0_b E0_t ql_MO_230 qi_MO_push qs_MO_push qn_MO qc_MO_push (by decide +kernel) rfl ⟨rfl, rfl⟩ ⟨Nat.le_of_ble_eq_true rfl, Nat.le_of_ble_eq_true rfl⟩ hK hP hD [0, 1] rfl (by decide) rfl rfl hl.1 rfl (Nat.le_of_ble_eq_true rfl) d_MO_reckon_39 ⟨Nat.zero_le _, Nat.zero_le _⟩) hP hD hS hA [0, 1] [2] [1, 2, 0] rfl rfl (by decide) (by decide) rfl (by decide) (fun H locs hP hD hS => ?_)
      refine lv_aload_n hx hb d_MO_reckon_42 rfl (lv_at hl 2 rfl) ?_
      refine lv_dup hx hb d_MO_reckon_43 rfl ?_
      refine k_get (v := .int x_at) S in_MO hK hP 0 rfl rfl 31 (by decide) ql_MO_213 rfl d_MO_reckon_44 ?_
      refine lv_iconst (v := 1) hx hb d_MO_reckon_47 (by decide) ?_
      refine lv_iadd hx hb d_MO_reckon_48 ?_
      refine k_put (v := .int (x_at + 1)) (ws' := [(a, .inr (7, [.int x_count, .ref q_op, .ref q_arg, .int (nI hn), .ref q_handler, .ref q_depth, .ref q_over, .int x_flatCount, .ref q_flatOp, .ref q_flatArg, .int x_flatHandlers, .ref q_flatHandler, .int x_blockCount, .ref q_leader, .ref q_last, .ref q_height, .ref q_state, .ref q_begin, .ref q_drawn, .ref q_order, .int x_g, .ref q_starters, .int x_ran, .int x_ended, .int x_result, .int x_steps, .int x_emits, .ref q_emitted, .ref q_locals, .ref q_stack, .int (nI (((tq - 1) - 1) + 1)), .int (x_at + 1)])), (q_stack, .inl (cI, 24, .inl (upd sk ((tq - 1) - 1) (f_MO_sum o (sk ((tq - 1) - 1)) (sk (tq - 1)))))), (q_handler, .inl (cI, z, .inl hd))]) S in_MO ty_MO nm_MO hK hP hD hS 0 rfl rfl 31 (by decide) ql_MO_213 rfl rfl rfl rfl (Nat.le_of_ble_eq_true rfl) rfl d_MO_reckon_49 (fun H locs hP hD hS => ?_)
      exact k_vret hx hb hr hlocks hK hP hD hS (by rw [f_MO_reckon0, if_pos h14_1, if_neg h18_2]) d_MO_reckon_52
    · skip
      refine lv_aload_n hx hb d_MO_reckon_21 rfl (lv_at hl 2 rfl) ?_
      refine lv_iload_n hx hb d_MO_reckon_22 rfl (lv_at hl 3 rfl) ?_
      refine lv_iconst (v := (-1)) hx hb d_MO_reckon_23 (by decide) ?_
      refine k_gov (ws' := [(a, .inr (7, [.int x_count, .ref q_op, .ref q_arg, .int (nI hn), .ref q_handler, .ref q_depth, .ref q_over, .int x_flatCount, .ref q_flatOp, .ref q_flatArg, .int x_flatHandlers, .ref q_flatHandler, .int x_blockCount, .ref q_leader, .ref q_last, .ref q_height, .ref q_state, .ref q_begin, .ref q_drawn, .ref q_order, .int x_g, .ref q_starters, .int x_ran, .int ((f_MO_raise0 x_ended x_result x_at hn ((tq - 1) - 1) hd sk (-1)).2.2.2.1), .int ((f_MO_raise0 x_ended x_result x_at hn ((tq - 1) - 1) hd sk (-1)).2.2.2.2), .int x_steps, .int x_emits, .ref q_emitted, .ref q_locals, .ref q_stack, .int (nI ((f_MO_raise0 x_ended x_result x_at hn ((tq - 1) - 1) hd sk (-1)).2.1)), .int ((f_MO_raise0 x_ended x_result x_at hn ((tq - 1) - 1) hd sk (-1)).2.2.1)])), (q_stack, .inl (cI, 24, .inl ((f_MO_raise0 x_ended x_result x_at hn ((tq - 1) - 1) hd sk (-1)).1))), (q_handler, .inl (cI, z, .inl hd))]) (wr := []) (k_runV (q0 := 0) (As := [.int 0, .int (-1)]) (rest := []) (n := 2) S (c_MO_raise0 l D cI cZ a q_op q_arg q_handler q_depth q_over q_flatOp q_flatArg q_flatHandler q_leader q_last q_height q_state q_begin q_drawn q_order q_starters q_emitted q_locals q_stack x_count x_flatCount x_flatHandlers x_blockCount x_g x_ran x_ended x_result x_steps x_emits x_at hn z ((tq - 1) - 1) hd sk (-1) (by omega) (by omega)) E0_b E0_t ql_MO_222 qi_MO_raise qs_MO_raise qn_MO qc_MO_raise (by decide +kernel) rfl ⟨rfl, rfl⟩ ⟨Nat.le_of_ble_eq_true rfl, Nat.le_of_ble_eq_true rfl⟩ hK hP hD [0, 1, 2] rfl (by decide) rfl rfl hl.1 rfl (Nat.le_of_ble_eq_true rfl) d_MO_reckon_24 ⟨Nat.zero_le _, Nat.zero_le _⟩) hP hD hS hA [0, 1, 2] [] [0, 1, 2] rfl rfl (by decide) (by decide) rfl (by decide) (fun H locs hP hD hS => ?_)
      refine lv_goto (tgt := 52) hx hb d_MO_reckon_27 (by decide) ?_
      exact k_vret hx hb hr hlocks hK hP hD hS (by rw [f_MO_reckon0, if_pos h14_1, if_pos h18_2]) d_MO_reckon_52

def lp_MO_raise1 (x_ended : Int32) (x_result : Int32) (x_at : Int32) (hn : Nat) (tq : Nat) (hd : Nat → Int32) (sk : Nat → Int32) (v : Int32) : Nat → Nat → (Nat → Int32) × Nat × Int32 × Int32 × Int32
  | 0, h => (sk, tq, x_at, 2, v)
  | kf + 1, h => (if x_at < f_MO_handlerAt1 hn hd (nI h) 0 then (lp_MO_raise1 x_ended x_result x_at hn tq hd sk v kf (h + 1)) else (if f_MO_handlerAt1 hn hd (nI h) 1 ≤ x_at then (lp_MO_raise1 x_ended x_result x_at hn tq hd sk v kf (h + 1)) else (upd sk 0 v, 1, f_MO_handlerAt1 hn hd (nI h) 2, x_ended, x_result)))
def f_MO_raise1 (x_ended : Int32) (x_result : Int32) (x_at : Int32) (hn : Nat) (tq : Nat) (hd : Nat → Int32) (sk : Nat → Int32) (v : Int32) : (Nat → Int32) × Nat × Int32 × Int32 × Int32 := lp_MO_raise1 x_ended x_result x_at hn tq hd sk v hn 0
set_option maxHeartbeats 1000000 in
set_option maxRecDepth 100000 in
theorem c_MO_raise1 (l : Launch) (D : va_G) (cI cZ : ClassId) (a q_op q_arg q_handler q_depth q_over q_flatOp q_flatArg q_flatHandler q_leader q_last q_height q_state q_begin q_drawn q_order q_starters q_emitted q_locals q_stack : Nat) (x_count x_handlers x_flatCount x_blockCount x_g x_ran x_ended x_result x_steps x_emits x_at : Int32) (hn z tq : Nat) (hd sk : Nat → Int32) (v : Int32) (hz : 3 * hn ≤ z) (hz2 : z < 2 ^ 31) : MG l y_MO_raise w_MO_raise (rmK 2 44) D classes (tyz cI cZ) E0 [.ref a, .int 1, .int v] [(a, .inr (7, [.int x_count, .ref q_op, .ref q_arg, .int x_handlers, .ref q_handler, .ref q_depth, .ref q_over, .int x_flatCount, .ref q_flatOp, .ref q_flatArg, .int (nI hn), .ref q_flatHandler, .int x_blockCount, .ref q_leader, .ref q_last, .ref q_height, .ref q_state, .ref q_begin, .ref q_drawn, .ref q_order, .int x_g, .ref q_starters, .int x_ran, .int x_ended, .int x_result, .int x_steps, .int x_emits, .ref q_emitted, .ref q_locals, .ref q_stack, .int (nI tq), .int x_at])), (q_stack, .inl (cI, 24, .inl sk)), (q_flatHandler, .inl (cI, z, .inl hd))] (RV D classes (tyz cI cZ) [(a, .inr (7, [.int x_count, .ref q_op, .ref q_arg, .int x_handlers, .ref q_handler, .ref q_depth, .ref q_over, .int x_flatCount, .ref q_flatOp, .ref q_flatArg, .int (nI hn), .ref q_flatHandler, .int x_blockCount, .ref q_leader, .ref q_last, .ref q_height, .ref q_state, .ref q_begin, .ref q_drawn, .ref q_order, .int x_g, .ref q_starters, .int x_ran, .int ((f_MO_raise1 x_ended x_result x_at hn tq hd sk v).2.2.2.1), .int ((f_MO_raise1 x_ended x_result x_at hn tq hd sk v).2.2.2.2), .int x_steps, .int x_emits, .ref q_emitted, .ref q_locals, .ref q_stack, .int (nI ((f_MO_raise1 x_ended x_result x_at hn tq hd sk v).2.1)), .int ((f_MO_raise1 x_ended x_result x_at hn tq hd sk v).2.2.1)])), (q_stack, .inl (cI, 24, .inl ((f_MO_raise1 x_ended x_result x_at hn tq hd sk v).1))), (q_flatHandler, .inl (cI, z, .inl hd))]) := by
  refine MG.of (cc := b_MO_raise) (maxL := 5) (ret := none) (own := "FlowFlattenerModel") rfl (by decide) rfl (Nat.le_of_ble_eq_true rfl) ?_
  intro p e s m below meth c A ls S hr hlocks hA hP hK hD hS hE hl
  have hx := S.1
  have hb := S.2.1
  have hl : lv_has ls 5 [(0, .ref a), (1, .int 1), (2, .int v)] := hl
  refine lv_iload_n hx hb d_MO_raise_0 rfl (lv_at hl 1 rfl) ?_
  refine lv_if_eq (tgt := 11) hx hb d_MO_raise_1 (by decide) (fun h1_1 => absurd h1_1 (by decide)) (fun h1_1 => ?_)
  refine lv_aload_n hx hb d_MO_raise_4 rfl (lv_at hl 0 rfl) ?_
  refine k_get (v := .int (nI hn)) S in_MO hK hP 0 rfl rfl 10 (by decide) ql_MO_177 rfl d_MO_raise_5 ?_
  refine lv_goto (tgt := 15) hx hb d_MO_raise_8 (by decide) ?_
  refine lv_istore_n (lv' := [(3, .int (nI hn)), (0, .ref a), (1, .int 1), (2, .int v)]) hx hb d_MO_raise_15 rfl hl (by decide) rfl (fun ls hl => ?_)
  refine lv_iconst (v := nI 0) hx hb d_MO_raise_16 (by decide) ?_
  refine lv_istore (lv' := [(4, .int (nI 0)), (3, .int (nI hn)), (0, .ref a), (1, .int 1), (2, .int v)]) hx hb d_MO_raise_17 hl (by decide) rfl (fun ls hl => ?_)
  have LP19 : ∀ (kf : Nat) (h : Nat), (h + kf = hn) → lp_MO_raise1 x_ended x_result x_at hn tq hd sk v kf h = f_MO_raise1 x_ended x_result x_at hn tq hd sk v → ∀ (ls : Array Slot) (H : Heap) (locs : List Loc), lv_has ls 5 [(0, .ref a), (1, .int 1), (2, .int v), (3, .int (nI hn)), (4, .int (nI h))] → va_P D classes [(a, .inr (7, [.int x_count, .ref q_op, .ref q_arg, .int x_handlers, .ref q_handler, .ref q_depth, .ref q_over, .int x_flatCount, .ref q_flatOp, .ref q_flatArg, .int (nI hn), .ref q_flatHandler, .int x_blockCount, .ref q_leader, .ref q_last, .ref q_height, .ref q_state, .ref q_begin, .ref q_drawn, .ref q_order, .int x_g, .ref q_starters, .int x_ran, .int x_ended, .int x_result, .int x_steps, .int x_emits, .ref q_emitted, .ref q_locals, .ref q_stack, .int (nI tq), .int x_at])), (q_stack, .inl (cI, 24, .inl sk)), (q_flatHandler, .inl (cI, z, .inl hd))] H → va_D A [(a, .inr (7, [.int x_count, .ref q_op, .ref q_arg, .int x_handlers, .ref q_handler, .ref q_depth, .ref q_over, .int x_flatCount, .ref q_flatOp, .ref q_flatArg, .int (nI hn), .ref q_flatHandler, .int x_blockCount, .ref q_leader, .ref q_last, .ref q_height, .ref q_state, .ref q_begin, .ref q_drawn, .ref q_order, .int x_g, .ref q_starters, .int x_ran, .int x_ended, .int x_result, .int x_steps, .int x_emits, .ref q_emitted, .ref q_locals, .ref q_stack, .int (nI tq), .int x_at])), (q_stack, .inl (cI, 24, .inl sk)), (q_flatHandler, .inl (cI, z, .inl hd))] → va_S A s.heap H locs → W p l e (rmK 2 44) s m [.ref a, .int 1, .int v].toArray below meth c H locs 0 0 (MQ below (RV D classes (tyz cI cZ) [(a, .inr (7, [.int x_count, .ref q_op, .ref q_arg, .int x_handlers, .ref q_handler, .ref q_depth, .ref q_over, .int x_flatCount, .ref q_flatOp, .ref q_flatArg, .int (nI hn), .ref q_flatHandler, .int x_blockCount, .ref q_leader, .ref q_last, .ref q_height, .ref q_state, .ref q_begin, .ref q_drawn, .ref q_order, .int x_g, .ref q_starters, .int x_ran, .int ((f_MO_raise1 x_ended x_result x_at hn tq hd sk v).2.2.2.1), .int ((f_MO_raise1 x_ended x_result x_at hn tq hd sk v).2.2.2.2), .int x_steps, .int x_emits, .ref q_emitted, .ref q_locals, .ref q_stack, .int (nI ((f_MO_raise1 x_ended x_result x_at hn tq hd sk v).2.1)), .int ((f_MO_raise1 x_ended x_result x_at hn tq hd sk v).2.2.1)])), (q_stack, .inl (cI, 24, .inl ((f_MO_raise1 x_ended x_result x_at hn tq hd sk v).1))), (q_flatHandler, .inl (cI, z, .inl hd))] A) [.ref a, .int 1, .int v].toArray s 0 0 A) (F0 m 19 ls []) := by
    intro kf
    induction kf with
    | zero =>
      intro h hk hF19 ls H locs hl hP hD hS
      refine lv_iload hx hb d_MO_raise_19 (lv_at hl 4 rfl) ?_
      refine lv_iload_n hx hb d_MO_raise_21 rfl (lv_at hl 3 rfl) ?_
      refine n_icmp_ge (tgt := 86) (x := h) (y := hn) hx hb rfl rfl (by omega) (by omega) d_MO_raise_22 (by decide) (fun h22_2 => ?_) (fun h22_2 => absurd h22_2 (by omega))
      refine lv_aload_n hx hb d_MO_raise_86 rfl (lv_at hl 0 rfl) ?_
      refine lv_iconst (v := 2) hx hb d_MO_raise_87 (by decide) ?_
      refine k_put (v := .int 2) (ws' := [(a, .inr (7, [.int x_count, .ref q_op, .ref q_arg, .int x_handlers, .ref q_handler, .ref q_depth, .ref q_over, .int x_flatCount, .ref q_flatOp, .ref q_flatArg, .int (nI hn), .ref q_flatHandler, .int x_blockCount, .ref q_leader, .ref q_last, .ref q_height, .ref q_state, .ref q_begin, .ref q_drawn, .ref q_order, .int x_g, .ref q_starters, .int x_ran, .int 2, .int x_result, .int x_steps, .int x_emits, .ref q_emitted, .ref q_locals, .ref q_stack, .int (nI tq), .int x_at])), (q_stack, .inl (cI, 24, .inl sk)), (q_flatHandler, .inl (cI, z, .inl hd))]) S in_MO ty_MO nm_MO hK hP hD hS 0 rfl rfl 23 (by decide) ql_MO_216 rfl rfl rfl rfl (Nat.le_of_ble_eq_true rfl) rfl d_MO_raise_88 (fun H locs hP hD hS => ?_)
      refine lv_aload_n hx hb d_MO_raise_91 rfl (lv_at hl 0 rfl) ?_
      refine lv_iload_n hx hb d_MO_raise_92 rfl (lv_at hl 2 rfl) ?_
      refine k_put (v := .int v) (ws' := [(a, .inr (7, [.int x_count, .ref q_op, .ref q_arg, .int x_handlers, .ref q_handler, .ref q_depth, .ref q_over, .int x_flatCount, .ref q_flatOp, .ref q_flatArg, .int (nI hn), .ref q_flatHandler, .int x_blockCount, .ref q_leader, .ref q_last, .ref q_height, .ref q_state, .ref q_begin, .ref q_drawn, .ref q_order, .int x_g, .ref q_starters, .int x_ran, .int 2, .int v, .int x_steps, .int x_emits, .ref q_emitted, .ref q_locals, .ref q_stack, .int (nI tq), .int x_at])), (q_stack, .inl (cI, 24, .inl sk)), (q_flatHandler, .inl (cI, z, .inl hd))]) S in_MO ty_MO nm_MO hK hP hD hS 0 rfl rfl 24 (by decide) ql_MO_60 rfl rfl rfl rfl (Nat.le_of_ble_eq_true rfl) rfl d_MO_raise_93 (fun H locs hP hD hS => ?_)
      exact k_vret hx hb hr hlocks hK hP hD hS (by rw [← hF19, lp_MO_raise1]) d_MO_raise_96
    | succ kf ih =>
      intro h hk hF19 ls H locs hl hP hD hS
      refine lv_iload hx hb d_MO_raise_19 (lv_at hl 4 rfl) ?_
      refine lv_iload_n hx hb d_MO_raise_21 rfl (lv_at hl 3 rfl) ?_
      refine n_icmp_ge (tgt := 86) (x := h) (y := hn) hx hb rfl rfl (by omega) (by omega) d_MO_raise_22 (by decide) (fun h22_3 => absurd h22_3 (by omega)) (fun h22_3 => ?_)
      refine lv_aload_n hx hb d_MO_raise_25 rfl (lv_at hl 0 rfl) ?_
      refine lv_iload_n hx hb d_MO_raise_26 rfl (lv_at hl 1 rfl) ?_
      refine lv_iload hx hb d_MO_raise_27 (lv_at hl 4 rfl) ?_
      refine lv_iconst (v := 0) hx hb d_MO_raise_29 (by decide) ?_
      refine k_goi (ws' := [(a, .inr (7, [.int x_count, .ref q_op, .ref q_arg, .int x_handlers, .ref q_handler, .ref q_depth, .ref q_over, .int x_flatCount, .ref q_flatOp, .ref q_flatArg, .int (nI hn), .ref q_flatHandler, .int x_blockCount, .ref q_leader, .ref q_last, .ref q_height, .ref q_state, .ref q_begin, .ref q_drawn, .ref q_order, .int x_g, .ref q_starters, .int x_ran, .int x_ended, .int x_result, .int x_steps, .int x_emits, .ref q_emitted, .ref q_locals, .ref q_stack, .int (nI tq), .int x_at])), (q_stack, .inl (cI, 24, .inl sk)), (q_flatHandler, .inl (cI, z, .inl hd))]) (wr := [(q_stack, .inl (cI, 24, .inl sk))]) (k_runV (q0 := 0) (As := [.int 1, .int (nI h), .int 0]) (rest := []) (n := 3) S (c_MO_handlerAt1 l D cI cZ a q_op q_arg q_handler q_depth q_over q_flatOp q_flatArg q_flatHandler q_leader q_last q_height q_state q_begin q_drawn q_order q_starters q_emitted q_locals q_stack x_count x_handlers x_flatCount x_blockCount x_g x_ran x_ended x_result x_steps x_emits (nI tq) x_at hn z hd (nI h) 0 (by omega) (by omega)) E0_b E0_t ql_MO_209 qi_MO_handlerAt qs_MO_handlerAt qn_MO qc_MO_handlerAt (by decide +kernel) rfl ⟨rfl, rfl⟩ ⟨Nat.le_of_ble_eq_true rfl, Nat.le_of_ble_eq_true rfl⟩ hK hP hD [0, 2] rfl (by decide) rfl rfl hl.1 rfl (Nat.le_of_ble_eq_true rfl) d_MO_raise_30 ⟨Nat.zero_le _, Nat.zero_le _⟩) hP hD hS hA [0, 2] [1] [1, 0, 2] rfl rfl (by decide) (by decide) rfl (by decide) (fun H locs hP hD hS => ?_)
      refine lv_aload_n hx hb d_MO_raise_33 rfl (lv_at hl 0 rfl) ?_
      refine k_get (v := .int x_at) S in_MO hK hP 0 rfl rfl 31 (by decide) ql_MO_213 rfl d_MO_raise_34 ?_
      refine lv_icmp_gt (tgt := 80) hx hb d_MO_raise_37 (by decide) (fun h37_4 => ?_) (fun h37_4 => ?_)
      · skip
        refine lv_iinc (k := 4) (v := nI (h + 1)) (lv' := [(4, .int (nI (h + 1))), (0, .ref a), (1, .int 1), (2, .int v), (3, .int (nI hn))]) hx hb d_MO_raise_80 hl rfl (nc_add rfl (by decide)) (by decide) rfl (fun ls hl => ?_)
        refine lv_goto (tgt := 19) hx hb d_MO_raise_83 (by decide) ?_
        have e9 : lp_MO_raise1 x_ended x_result x_at hn tq hd sk v (kf + 1) h = lp_MO_raise1 x_ended x_result x_at hn tq hd sk v kf (h + 1) := by rw [lp_MO_raise1, if_pos h37_4]
        rw [e9] at hF19
        exact ih (h + 1) (by omega) hF19 _ _ _ (lv_sub hl [1, 2, 3, 4, 0] rfl) hP hD hS
      · skip
        refine lv_aload_n hx hb d_MO_raise_40 rfl (lv_at hl 0 rfl) ?_
        refine k_get (v := .int x_at) S in_MO hK hP 0 rfl rfl 31 (by decide) ql_MO_213 rfl d_MO_raise_41 ?_
        refine lv_aload_n hx hb d_MO_raise_44 rfl (lv_at hl 0 rfl) ?_
        refine lv_iload_n hx hb d_MO_raise_45 rfl (lv_at hl 1 rfl) ?_
        refine lv_iload hx hb d_MO_raise_46 (lv_at hl 4 rfl) ?_
        refine lv_iconst (v := 1) hx hb d_MO_raise_48 (by decide) ?_
        refine k_goi (ws' := [(a, .inr (7, [.int x_count, .ref q_op, .ref q_arg, .int x_handlers, .ref q_handler, .ref q_depth, .ref q_over, .int x_flatCount, .ref q_flatOp, .ref q_flatArg, .int (nI hn), .ref q_flatHandler, .int x_blockCount, .ref q_leader, .ref q_last, .ref q_height, .ref q_state, .ref q_begin, .ref q_drawn, .ref q_order, .int x_g, .ref q_starters, .int x_ran, .int x_ended, .int x_result, .int x_steps, .int x_emits, .ref q_emitted, .ref q_locals, .ref q_stack, .int (nI tq), .int x_at])), (q_stack, .inl (cI, 24, .inl sk)), (q_flatHandler, .inl (cI, z, .inl hd))]) (wr := [(q_stack, .inl (cI, 24, .inl sk))]) (k_runV (q0 := 0) (As := [.int 1, .int (nI h), .int 1]) (rest := [.int x_at]) (n := 3) S (c_MO_handlerAt1 l D cI cZ a q_op q_arg q_handler q_depth q_over q_flatOp q_flatArg q_flatHandler q_leader q_last q_height q_state q_begin q_drawn q_order q_starters q_emitted q_locals q_stack x_count x_handlers x_flatCount x_blockCount x_g x_ran x_ended x_result x_steps x_emits (nI tq) x_at hn z hd (nI h) 1 (by omega) (by omega)) E0_b E0_t ql_MO_209 qi_MO_handlerAt qs_MO_handlerAt qn_MO qc_MO_handlerAt (by decide +kernel) rfl ⟨rfl, rfl⟩ ⟨Nat.le_of_ble_eq_true rfl, Nat.le_of_ble_eq_true rfl⟩ hK hP hD [0, 2] rfl (by decide) rfl rfl hl.1 rfl (Nat.le_of_ble_eq_true rfl) d_MO_raise_49 ⟨Nat.zero_le _, Nat.zero_le _⟩) hP hD hS hA [0, 2] [1] [1, 0, 2] rfl rfl (by decide) (by decide) rfl (by decide) (fun H locs hP hD hS => ?_)
        refine lv_icmp_ge (tgt := 80) hx hb d_MO_raise_52 (by decide) (fun h52_5 => ?_) (fun h52_5 => ?_)
        · skip
          refine lv_iinc (k := 4) (v := nI (h + 1)) (lv' := [(4, .int (nI (h + 1))), (0, .ref a), (1, .int 1), (2, .int v), (3, .int (nI hn))]) hx hb d_MO_raise_80 hl rfl (nc_add rfl (by decide)) (by decide) rfl (fun ls hl => ?_)
          refine lv_goto (tgt := 19) hx hb d_MO_raise_83 (by decide) ?_
          have e9 : lp_MO_raise1 x_ended x_result x_at hn tq hd sk v (kf + 1) h = lp_MO_raise1 x_ended x_result x_at hn tq hd sk v kf (h + 1) := by rw [lp_MO_raise1, if_neg h37_4, if_pos h52_5]
          rw [e9] at hF19
          exact ih (h + 1) (by omega) hF19 _ _ _ (lv_sub hl [1, 2, 3, 4, 0] rfl) hP hD hS
        · skip
          refine lv_aload_n hx hb d_MO_raise_55 rfl (lv_at hl 0 rfl) ?_
          refine k_get (v := .ref q_stack) S in_MO hK hP 0 rfl rfl 29 (by decide) ql_MO_70 rfl d_MO_raise_56 ?_
          refine lv_iconst (v := 0) hx hb d_MO_raise_59 (by decide) ?_
          refine lv_iload_n hx hb d_MO_raise_60 rfl (lv_at hl 2 rfl) ?_
          refine k_st (k := 0) (x := v) (ws' := [(a, .inr (7, [.int x_count, .ref q_op, .ref q_arg, .int x_handlers, .ref q_handler, .ref q_depth, .ref q_over, .int x_flatCount, .ref q_flatOp, .ref q_flatArg, .int (nI hn), .ref q_flatHandler, .int x_blockCount, .ref q_leader, .ref q_last, .ref q_height, .ref q_state, .ref q_begin, .ref q_drawn, .ref q_order, .int x_g, .ref q_starters, .int x_ran, .int x_ended, .int x_result, .int x_steps, .int x_emits, .ref q_emitted, .ref q_locals, .ref q_stack, .int (nI tq), .int x_at])), (q_stack, .inl (cI, 24, .inl (upd sk 0 v))), (q_flatHandler, .inl (cI, z, .inl hd))]) hx hb hK hP hD hS 1 0 rfl rfl (by decide) (by omega) (by decide) rfl d_MO_raise_61 (fun H locs hP hD hS => ?_)
          refine lv_aload_n hx hb d_MO_raise_62 rfl (lv_at hl 0 rfl) ?_
          refine lv_iconst (v := nI 1) hx hb d_MO_raise_63 (by decide) ?_
          refine k_put (v := .int (nI 1)) (ws' := [(a, .inr (7, [.int x_count, .ref q_op, .ref q_arg, .int x_handlers, .ref q_handler, .ref q_depth, .ref q_over, .int x_flatCount, .ref q_flatOp, .ref q_flatArg, .int (nI hn), .ref q_flatHandler, .int x_blockCount, .ref q_leader, .ref q_last, .ref q_height, .ref q_state, .ref q_begin, .ref q_drawn, .ref q_order, .int x_g, .ref q_starters, .int x_ran, .int x_ended, .int x_result, .int x_steps, .int x_emits, .ref q_emitted, .ref q_locals, .ref q_stack, .int (nI 1), .int x_at])), (q_stack, .inl (cI, 24, .inl (upd sk 0 v))), (q_flatHandler, .inl (cI, z, .inl hd))]) S in_MO ty_MO nm_MO hK hP hD hS 0 rfl rfl 30 (by decide) ql_MO_206 rfl rfl rfl rfl (Nat.le_of_ble_eq_true rfl) rfl d_MO_raise_64 (fun H locs hP hD hS => ?_)
          refine lv_aload_n hx hb d_MO_raise_67 rfl (lv_at hl 0 rfl) ?_
          refine lv_aload_n hx hb d_MO_raise_68 rfl (lv_at hl 0 rfl) ?_
          refine lv_iload_n hx hb d_MO_raise_69 rfl (lv_at hl 1 rfl) ?_
          refine lv_iload hx hb d_MO_raise_70 (lv_at hl 4 rfl) ?_
          refine lv_iconst (v := 2) hx hb d_MO_raise_72 (by decide) ?_
          refine k_goi (ws' := [(a, .inr (7, [.int x_count, .ref q_op, .ref q_arg, .int x_handlers, .ref q_handler, .ref q_depth, .ref q_over, .int x_flatCount, .ref q_flatOp, .ref q_flatArg, .int (nI hn), .ref q_flatHandler, .int x_blockCount, .ref q_leader, .ref q_last, .ref q_height, .ref q_state, .ref q_begin, .ref q_drawn, .ref q_order, .int x_g, .ref q_starters, .int x_ran, .int x_ended, .int x_result, .int x_steps, .int x_emits, .ref q_emitted, .ref q_locals, .ref q_stack, .int (nI 1), .int x_at])), (q_stack, .inl (cI, 24, .inl (upd sk 0 v))), (q_flatHandler, .inl (cI, z, .inl hd))]) (wr := [(q_stack, .inl (cI, 24, .inl (upd sk 0 v)))]) (k_runV (q0 := 0) (As := [.int 1, .int (nI h), .int 2]) (rest := [.ref a]) (n := 3) S (c_MO_handlerAt1 l D cI cZ a q_op q_arg q_handler q_depth q_over q_flatOp q_flatArg q_flatHandler q_leader q_last q_height q_state q_begin q_drawn q_order q_starters q_emitted q_locals q_stack x_count x_handlers x_flatCount x_blockCount x_g x_ran x_ended x_result x_steps x_emits (nI 1) x_at hn z hd (nI h) 2 (by omega) (by omega)) E0_b E0_t ql_MO_209 qi_MO_handlerAt qs_MO_handlerAt qn_MO qc_MO_handlerAt (by decide +kernel) rfl ⟨rfl, rfl⟩ ⟨Nat.le_of_ble_eq_true rfl, Nat.le_of_ble_eq_true rfl⟩ hK hP hD [0, 2] rfl (by decide) rfl rfl hl.1 rfl (Nat.le_of_ble_eq_true rfl) d_MO_raise_73 ⟨Nat.zero_le _, Nat.zero_le _⟩) hP hD hS hA [0, 2] [1] [1, 0, 2] rfl rfl (by decide) (by decide) rfl (by decide) (fun H locs hP hD hS => ?_)
          refine k_put (v := .int (f_MO_handlerAt1 hn hd (nI h) 2)) (ws' := [(a, .inr (7, [.int x_count, .ref q_op, .ref q_arg, .int x_handlers, .ref q_handler, .ref q_depth, .ref q_over, .int x_flatCount, .ref q_flatOp, .ref q_flatArg, .int (nI hn), .ref q_flatHandler, .int x_blockCount, .ref q_leader, .ref q_last, .ref q_height, .ref q_state, .ref q_begin, .ref q_drawn, .ref q_order, .int x_g, .ref q_starters, .int x_ran, .int x_ended, .int x_result, .int x_steps, .int x_emits, .ref q_emitted, .ref q_locals, .ref q_stack, .int (nI 1), .int (f_MO_handlerAt1 hn hd (nI h) 2)])), (q_stack, .inl (cI, 24, .inl (upd sk 0 v))), (q_flatHandler, .inl (cI, z, .inl hd))]) S in_MO ty_MO nm_MO hK hP hD hS 0 rfl rfl 31 (by decide) ql_MO_213 rfl rfl rfl rfl (Nat.le_of_ble_eq_true rfl) rfl d_MO_raise_76 (fun H locs hP hD hS => ?_)
          exact k_vret hx hb hr hlocks hK hP hD hS (by rw [← hF19, lp_MO_raise1, if_neg h37_4, if_neg h52_5]) d_MO_raise_79
  exact LP19 hn 0 (by omega) (by rw [f_MO_raise1]) _ _ _ (lv_sub hl [2, 3, 4, 1, 0] rfl) hP hD hS

def f_MO_reckon1 (x_ended : Int32) (x_result : Int32) (x_at : Int32) (hn : Nat) (tq : Nat) (hd : Nat → Int32) (sk : Nat → Int32) (o : Int32) : (Nat → Int32) × Nat × Int32 × Int32 × Int32 := (if o = 6 then (if sk (tq - 1) = 0 then ((f_MO_raise1 x_ended x_result x_at hn ((tq - 1) - 1) hd sk (-1)).1, (f_MO_raise1 x_ended x_result x_at hn ((tq - 1) - 1) hd sk (-1)).2.1, (f_MO_raise1 x_ended x_result x_at hn ((tq - 1) - 1) hd sk (-1)).2.2.1, (f_MO_raise1 x_ended x_result x_at hn ((tq - 1) - 1) hd sk (-1)).2.2.2.1, (f_MO_raise1 x_ended x_result x_at hn ((tq - 1) - 1) hd sk (-1)).2.2.2.2) else (upd sk ((tq - 1) - 1) (f_MO_sum o (sk ((tq - 1) - 1)) (sk (tq - 1))), ((tq - 1) - 1) + 1, x_at + 1, x_ended, x_result)) else (upd sk ((tq - 1) - 1) (f_MO_sum o (sk ((tq - 1) - 1)) (sk (tq - 1))), ((tq - 1) - 1) + 1, x_at + 1, x_ended, x_result))
set_option maxHeartbeats 1000000 in
set_option maxRecDepth 100000 in
theorem c_MO_reckon1 (l : Launch) (D : va_G) (cI cZ : ClassId) (a q_op q_arg q_handler q_depth q_over q_flatOp q_flatArg q_flatHandler q_leader q_last q_height q_state q_begin q_drawn q_order q_starters q_emitted q_locals q_stack : Nat) (x_count x_handlers x_flatCount x_blockCount x_g x_ran x_ended x_result x_steps x_emits x_at : Int32) (hn z tq : Nat) (hd sk : Nat → Int32) (o : Int32) (hq : 2 ≤ tq) (hq7 : tq ≤ 24) (hz : 3 * hn ≤ z) (hz2 : z < 2 ^ 31) : MG l y_MO_reckon w_MO_reckon (rmK 3 68) D classes (tyz cI cZ) E0 [.ref a, .int 1, .int o] [(a, .inr (7, [.int x_count, .ref q_op, .ref q_arg, .int x_handlers, .ref q_handler, .ref q_depth, .ref q_over, .int x_flatCount, .ref q_flatOp, .ref q_flatArg, .int (nI hn), .ref q_flatHandler, .int x_blockCount, .ref q_leader, .ref q_last, .ref q_height, .ref q_state, .ref q_begin, .ref q_drawn, .ref q_order, .int x_g, .ref q_starters, .int x_ran, .int x_ended, .int x_result, .int x_steps, .int x_emits, .ref q_emitted, .ref q_locals, .ref q_stack, .int (nI tq), .int x_at])), (q_stack, .inl (cI, 24, .inl sk)), (q_flatHandler, .inl (cI, z, .inl hd))] (RV D classes (tyz cI cZ) [(a, .inr (7, [.int x_count, .ref q_op, .ref q_arg, .int x_handlers, .ref q_handler, .ref q_depth, .ref q_over, .int x_flatCount, .ref q_flatOp, .ref q_flatArg, .int (nI hn), .ref q_flatHandler, .int x_blockCount, .ref q_leader, .ref q_last, .ref q_height, .ref q_state, .ref q_begin, .ref q_drawn, .ref q_order, .int x_g, .ref q_starters, .int x_ran, .int ((f_MO_reckon1 x_ended x_result x_at hn tq hd sk o).2.2.2.1), .int ((f_MO_reckon1 x_ended x_result x_at hn tq hd sk o).2.2.2.2), .int x_steps, .int x_emits, .ref q_emitted, .ref q_locals, .ref q_stack, .int (nI ((f_MO_reckon1 x_ended x_result x_at hn tq hd sk o).2.1)), .int ((f_MO_reckon1 x_ended x_result x_at hn tq hd sk o).2.2.1)])), (q_stack, .inl (cI, 24, .inl ((f_MO_reckon1 x_ended x_result x_at hn tq hd sk o).1))), (q_flatHandler, .inl (cI, z, .inl hd))]) := by
  refine MG.of (cc := b_MO_reckon) (maxL := 5) (ret := none) (own := "FlowFlattenerModel") rfl (by decide) rfl (Nat.le_of_ble_eq_true rfl) ?_
  intro p e s m below meth c A ls S hr hlocks hA hP hK hD hS hE hl
  have hx := S.1
  have hb := S.2.1
  have hl : lv_has ls 5 [(0, .ref a), (1, .int 1), (2, .int o)] := hl
  refine lv_aload_n hx hb d_MO_reckon_0 rfl (lv_at hl 0 rfl) ?_
  refine k_goi (ws' := [(a, .inr (7, [.int x_count, .ref q_op, .ref q_arg, .int x_handlers, .ref q_handler, .ref q_depth, .ref q_over, .int x_flatCount, .ref q_flatOp, .ref q_flatArg, .int (nI hn), .ref q_flatHandler, .int x_blockCount, .ref q_leader, .ref q_last, .ref q_height, .ref q_state, .ref q_begin, .ref q_drawn, .ref q_order, .int x_g, .ref q_starters, .int x_ran, .int x_ended, .int x_result, .int x_steps, .int x_emits, .ref q_emitted, .ref q_locals, .ref q_stack, .int (nI (tq - 1)), .int x_at])), (q_stack, .inl (cI, 24, .inl sk)), (q_flatHandler, .inl (cI, z, .inl hd))]) (wr := [(q_flatHandler, .inl (cI, z, .inl hd))]) (k_runV (q0 := 0) (As := []) (rest := []) (n := 0) S (c_MO_pop l D cI cZ a q_op q_arg q_handler q_depth q_over q_flatOp q_flatArg q_flatHandler q_leader q_last q_height q_state q_begin q_drawn q_order q_starters q_emitted q_locals q_stack x_count x_handlers x_flatCount (nI hn) x_blockCount x_g x_ran x_ended x_result x_steps x_emits x_at tq sk (by omega) (by omega)) E0_b E0_t ql_MO_219 qi_MO_pop qs_MO_pop qn_MO qc_MO_pop (by decide +kernel) rfl ⟨rfl, rfl⟩ ⟨Nat.le_of_ble_eq_true rfl, Nat.le_of_ble_eq_true rfl⟩ hK hP hD [0, 1] rfl (by decide) rfl rfl hl.1 rfl (Nat.le_of_ble_eq_true rfl) d_MO_reckon_1 ⟨Nat.zero_le _, Nat.zero_le _⟩) hP hD hS hA [0, 1] [2] [1, 2, 0] rfl rfl (by decide) (by decide) rfl (by decide) (fun H locs hP hD hS => ?_)
  refine lv_istore_n (lv' := [(3, .int (sk (tq - 1))), (0, .ref a), (1, .int 1), (2, .int o)]) hx hb d_MO_reckon_4 rfl hl (by decide) rfl (fun ls hl => ?_)
  refine lv_aload_n hx hb d_MO_reckon_5 rfl (lv_at hl 1 rfl) ?_
  refine k_goi (ws' := [(a, .inr (7, [.int x_count, .ref q_op, .ref q_arg, .int x_handlers, .ref q_handler, .ref q_depth, .ref q_over, .int x_flatCount, .ref q_flatOp, .ref q_flatArg, .int (nI hn), .ref q_flatHandler, .int x_blockCount, .ref q_leader, .ref q_last, .ref q_height, .ref q_state, .ref q_begin, .ref q_drawn, .ref q_order, .int x_g, .ref q_starters, .int x_ran, .int x_ended, .int x_result, .int x_steps, .int x_emits, .ref q_emitted, .ref q_locals, .ref q_stack, .int (nI ((tq - 1) - 1)), .int x_at])), (q_stack, .inl (cI, 24, .inl sk)), (q_flatHandler, .inl (cI, z, .inl hd))]) (wr := [(q_flatHandler, .inl (cI, z, .inl hd))]) (k_runV (q0 := 0) (As := []) (rest := []) (n := 0) S (c_MO_pop l D cI cZ a q_op q_arg q_handler q_depth q_over q_flatOp q_flatArg q_flatHandler q_leader q_last q_height q_state q_begin q_drawn q_order q_starters q_emitted q_locals q_stack x_count x_handlers x_flatCount (nI hn) x_blockCount x_g x_ran x_ended x_result x_steps x_emits x_at (tq - 1) sk (by omega) (by omega)) E0_b E0_t ql_MO_219 qi_MO_pop qs_MO_pop qn_MO qc_MO_pop (by decide +kernel) rfl ⟨rfl, rfl⟩ ⟨Nat.le_of_ble_eq_true rfl, Nat.le_of_ble_eq_true rfl⟩ hK hP hD [0, 1] rfl (by decide) rfl rfl hl.1 rfl (Nat.le_of_ble_eq_true rfl) d_MO_reckon_6 ⟨Nat.zero_le _, Nat.zero_le _⟩) hP hD hS hA [0, 1] [2] [1, 2, 0] rfl rfl (by decide) (by decide) rfl (by decide) (fun H locs hP hD hS => ?_)
  refine lv_istore (lv' := [(4, .int (sk ((tq - 1) - 1))), (3, .int (sk (tq - 1))), (0, .ref a), (1, .int 1), (2, .int o)]) hx hb d_MO_reckon_9 hl (by decide) rfl (fun ls hl => ?_)
  refine lv_iload_n hx hb d_MO_reckon_11 rfl (lv_at hl 4 rfl) ?_
  refine lv_bipush (v := 6) hx hb d_MO_reckon_12 (by decide) ?_
  refine lv_icmp_ne (tgt := 30) hx hb d_MO_reckon_14 (by decide) (fun h14_1 => ?_) (fun h14_1 => ?_)
  · skip
    refine lv_aload_n hx hb d_MO_reckon_30 rfl (lv_at hl 2 rfl) ?_
    refine lv_aload_n hx hb d_MO_reckon_31 rfl (lv_at hl 2 rfl) ?_
    refine lv_iload_n hx hb d_MO_reckon_32 rfl (lv_at hl 4 rfl) ?_
    refine lv_iload hx hb d_MO_reckon_33 (lv_at hl 0 rfl) ?_
    refine lv_iload_n hx hb d_MO_reckon_35 rfl (lv_at hl 1 rfl) ?_
    refine k_goi (ws' := [(a, .inr (7, [.int x_count, .ref q_op, .ref q_arg, .int x_handlers, .ref q_handler, .ref q_depth, .ref q_over, .int x_flatCount, .ref q_flatOp, .ref q_flatArg, .int (nI hn), .ref q_flatHandler, .int x_blockCount, .ref q_leader, .ref q_last, .ref q_height, .ref q_state, .ref q_begin, .ref q_drawn, .ref q_order, .int x_g, .ref q_starters, .int x_ran, .int x_ended, .int x_result, .int x_steps, .int x_emits, .ref q_emitted, .ref q_locals, .ref q_stack, .int (nI ((tq - 1) - 1)), .int x_at])), (q_stack, .inl (cI, 24, .inl sk)), (q_flatHandler, .inl (cI, z, .inl hd))]) (wr := [(q_stack, .inl (cI, 24, .inl sk)), (q_flatHandler, .inl (cI, z, .inl hd))]) (k_runV (q0 := 0) (As := [.int o, .int (sk ((tq - 1) - 1)), .int (sk (tq - 1))]) (rest := [.ref a]) (n := 3) S (c_MO_sum l D cI cZ a q_op q_arg q_handler q_depth q_over q_flatOp q_flatArg q_flatHandler q_leader q_last q_height q_state q_begin q_drawn q_order q_starters q_emitted q_locals q_stack x_count x_handlers x_flatCount (nI hn) x_blockCount x_g x_ran x_ended x_result x_steps x_emits (nI ((tq - 1) - 1)) x_at o (sk ((tq - 1) - 1)) (sk (tq - 1)) (by intro h9; first | assumption | exact absurd h9 (by assumption))) E0_b E0_t ql_MO_226 qi_MO_sum qs_MO_sum qn_MO qc_MO_sum (by decide +kernel) rfl ⟨rfl, rfl⟩ ⟨Nat.le_of_ble_eq_true rfl, Nat.le_of_ble_eq_true rfl⟩ hK hP hD [0] rfl (by decide) rfl rfl hl.1 rfl (Nat.le_of_ble_eq_true rfl) d_MO_reckon_36 ⟨Nat.zero_le _, Nat.zero_le _⟩) hP hD hS hA [0] [1, 2] [2, 0, 1] rfl rfl (by decide) (by decide) rfl (by decide) (fun H locs hP hD hS => ?_)
    refine k_gov (ws' := [(a, .inr (7, [.int x_count, .ref q_op, .ref q_arg, .int x_handlers, .ref q_handler, .ref q_depth, .ref q_over, .int x_flatCount, .ref q_flatOp, .ref q_flatArg, .int (nI hn), .ref q_flatHandler, .int x_blockCount, .ref q_leader, .ref q_last, .ref q_height, .ref q_state, .ref q_begin, .ref q_drawn, .ref q_order, .int x_g, .ref q_starters, .int x_ran, .int x_ended, .int x_result, .int x_steps, .int x_emits, .ref q_emitted, .ref q_locals, .ref q_stack, .int (nI (((tq - 1) - 1) + 1)), .int x_at])), (q_stack, .inl (cI, 24, .inl (upd sk ((tq - 1) - 1) (f_MO_sum o (sk ((tq - 1) - 1)) (sk (tq - 1)))))), (q_flatHandler, .inl (cI, z, .inl hd))]) (wr := [(q_flatHandler, .inl (cI, z, .inl hd))]) (k_runV (q0 := 0) (As := [.int (f_MO_sum o (sk ((tq - 1) - 1)) (sk (tq - 1)))]) (rest := []) (n := 1) S (c_MO_push l D cI cZ a q_op q_arg q_handler q_depth q_over q_flatOp q_flatArg q_flatHandler q_leader q_last q_height q_state q_begin q_drawn q_order q_starters q_emitted q_locals q_stack x_count x_handlers x_flatCount (nI hn) x_blockCount x_g x_ran x_ended x_result x_steps x_emits x_at ((tq - 1) - 1) sk (f_MO_sum o (sk ((tq - 1) - 1)) (sk (tq - 1))) (by omega)) E0_b E0_t ql_MO_230 qi_MO_push qs_MO_push qn_MO qc_MO_push (by decide +kernel) rfl ⟨rfl, rfl⟩ ⟨Nat.le_of_ble_eq_true rfl, Nat.le_of_ble_eq_true rfl⟩ hK hP hD [0, 1] rfl (by decide) rfl rfl hl.1 rfl (Nat.le_of_ble_eq_true rfl) d_MO_reckon_39 ⟨Nat.zero_le _, Nat.zero_le _⟩) hP hD hS hA [0, 1] [2] [1, 2, 0] rfl rfl (by decide) (by decide) rfl (by decide) (fun H locs hP hD hS => ?_)
    refine lv_aload_n hx hb d_MO_reckon_42 rfl (lv_at hl 2 rfl) ?_
    refine lv_dup hx hb d_MO_reckon_43 rfl ?_
    refine k_get (v := .int x_at) S in_MO hK hP 0 rfl rfl 31 (by decide) ql_MO_213 rfl d_MO_reckon_44 ?_
    refine lv_iconst (v := 1) hx hb d_MO_reckon_47 (by decide) ?_
    refine lv_iadd hx hb d_MO_reckon_48 ?_
    refine k_put (v := .int (x_at + 1)) (ws' := [(a, .inr (7, [.int x_count, .ref q_op, .ref q_arg, .int x_handlers, .ref q_handler, .ref q_depth, .ref q_over, .int x_flatCount, .ref q_flatOp, .ref q_flatArg, .int (nI hn), .ref q_flatHandler, .int x_blockCount, .ref q_leader, .ref q_last, .ref q_height, .ref q_state, .ref q_begin, .ref q_drawn, .ref q_order, .int x_g, .ref q_starters, .int x_ran, .int x_ended, .int x_result, .int x_steps, .int x_emits, .ref q_emitted, .ref q_locals, .ref q_stack, .int (nI (((tq - 1) - 1) + 1)), .int (x_at + 1)])), (q_stack, .inl (cI, 24, .inl (upd sk ((tq - 1) - 1) (f_MO_sum o (sk ((tq - 1) - 1)) (sk (tq - 1)))))), (q_flatHandler, .inl (cI, z, .inl hd))]) S in_MO ty_MO nm_MO hK hP hD hS 0 rfl rfl 31 (by decide) ql_MO_213 rfl rfl rfl rfl (Nat.le_of_ble_eq_true rfl) rfl d_MO_reckon_49 (fun H locs hP hD hS => ?_)
    exact k_vret hx hb hr hlocks hK hP hD hS (by rw [f_MO_reckon1, if_neg h14_1]) d_MO_reckon_52
  · skip
    refine lv_iload_n hx hb d_MO_reckon_17 rfl (lv_at hl 1 rfl) ?_
    refine lv_if_ne (tgt := 30) hx hb d_MO_reckon_18 (by decide) (fun h18_2 => ?_) (fun h18_2 => ?_)
    · skip
      refine lv_aload_n hx hb d_MO_reckon_30 rfl (lv_at hl 2 rfl) ?_
      refine lv_aload_n hx hb d_MO_reckon_31 rfl (lv_at hl 2 rfl) ?_
      refine lv_iload_n hx hb d_MO_reckon_32 rfl (lv_at hl 4 rfl) ?_
      refine lv_iload hx hb d_MO_reckon_33 (lv_at hl 0 rfl) ?_
      refine lv_iload_n hx hb d_MO_reckon_35 rfl (lv_at hl 1 rfl) ?_
      refine k_goi (ws' := [(a, .inr (7, [.int x_count, .ref q_op, .ref q_arg, .int x_handlers, .ref q_handler, .ref q_depth, .ref q_over, .int x_flatCount, .ref q_flatOp, .ref q_flatArg, .int (nI hn), .ref q_flatHandler, .int x_blockCount, .ref q_leader, .ref q_last, .ref q_height, .ref q_state, .ref q_begin, .ref q_drawn, .ref q_order, .int x_g, .ref q_starters, .int x_ran, .int x_ended, .int x_result, .int x_steps, .int x_emits, .ref q_emitted, .ref q_locals, .ref q_stack, .int (nI ((tq - 1) - 1)), .int x_at])), (q_stack, .inl (cI, 24, .inl sk)), (q_flatHandler, .inl (cI, z, .inl hd))]) (wr := [(q_stack, .inl (cI, 24, .inl sk)), (q_flatHandler, .inl (cI, z, .inl hd))]) (k_runV (q0 := 0) (As := [.int o, .int (sk ((tq - 1) - 1)), .int (sk (tq - 1))]) (rest := [.ref a]) (n := 3) S (c_MO_sum l D cI cZ a q_op q_arg q_handler q_depth q_over q_flatOp q_flatArg q_flatHandler q_leader q_last q_height q_state q_begin q_drawn q_order q_starters q_emitted q_locals q_stack x_count x_handlers x_flatCount (nI hn) x_blockCount x_g x_ran x_ended x_result x_steps x_emits (nI ((tq - 1) - 1)) x_at o (sk ((tq - 1) - 1)) (sk (tq - 1)) (by intro h9; first | assumption | exact absurd h9 (by assumption))) E0_b E0_t ql_MO_226 qi_MO_sum qs_MO_sum qn_MO qc_MO_sum (by decide +kernel) rfl ⟨rfl, rfl⟩ ⟨Nat.le_of_ble_eq_true rfl, Nat.le_of_ble_eq_true rfl⟩ hK hP hD [0] rfl (by decide) rfl rfl hl.1 rfl (Nat.le_of_ble_eq_true rfl) d_MO_reckon_36 ⟨Nat.zero_le _, Nat.zero_le _⟩) hP hD hS hA [0] [1, 2] [2, 0, 1] rfl rfl (by decide) (by decide) rfl (by decide) (fun H locs hP hD hS => ?_)
      refine k_gov (ws' := [(a, .inr (7, [.int x_count, .ref q_op, .ref q_arg, .int x_handlers, .ref q_handler, .ref q_depth, .ref q_over, .int x_flatCount, .ref q_flatOp, .ref q_flatArg, .int (nI hn), .ref q_flatHandler, .int x_blockCount, .ref q_leader, .ref q_last, .ref q_height, .ref q_state, .ref q_begin, .ref q_drawn, .ref q_order, .int x_g, .ref q_starters, .int x_ran, .int x_ended, .int x_result, .int x_steps, .int x_emits, .ref q_emitted, .ref q_locals, .ref q_stack, .int (nI (((tq - 1) - 1) + 1)), .int x_at])), (q_stack, .inl (cI, 24, .inl (upd sk ((tq - 1) - 1) (f_MO_sum o (sk ((tq - 1) - 1)) (sk (tq - 1)))))), (q_flatHandler, .inl (cI, z, .inl hd))]) (wr := [(q_flatHandler, .inl (cI, z, .inl hd))]) (k_runV (q0 := 0) (As := [.int (f_MO_sum o (sk ((tq - 1) - 1)) (sk (tq - 1)))]) (rest := []) (n := 1) S (c_MO_push l D cI cZ a q_op q_arg q_handler q_depth q_over q_flatOp q_flatArg q_flatHandler q_leader q_last q_height q_state q_begin q_drawn q_order q_starters q_emitted q_locals q_stack x_count x_handlers x_flatCount (nI hn) x_blockCount x_g x_ran x_ended x_result x_steps x_emits x_at ((tq - 1) - 1) sk (f_MO_sum o (sk ((tq - 1) - 1)) (sk (tq - 1))) (by omega)) E0_b E0_t ql_MO_230 qi_MO_push qs_MO_push qn_MO qc_MO_push (by decide +kernel) rfl ⟨rfl, rfl⟩ ⟨Nat.le_of_ble_eq_true rfl, Nat.le_of_ble_eq_true rfl⟩ hK hP hD [0, 1] rfl (by decide) rfl rfl hl.1 rfl (Nat.le_of_ble_eq_true rfl) d_MO_reckon_39 ⟨Nat.zero_le _, Nat.zero_le _⟩) hP hD hS hA [0, 1] [2] [1, 2, 0] rfl rfl (by decide) (by decide) rfl (by decide) (fun H locs hP hD hS => ?_)
      refine lv_aload_n hx hb d_MO_reckon_42 rfl (lv_at hl 2 rfl) ?_
      refine lv_dup hx hb d_MO_reckon_43 rfl ?_
      refine k_get (v := .int x_at) S in_MO hK hP 0 rfl rfl 31 (by decide) ql_MO_213 rfl d_MO_reckon_44 ?_
      refine lv_iconst (v := 1) hx hb d_MO_reckon_47 (by decide) ?_
      refine lv_iadd hx hb d_MO_reckon_48 ?_
      refine k_put (v := .int (x_at + 1)) (ws' := [(a, .inr (7, [.int x_count, .ref q_op, .ref q_arg, .int x_handlers, .ref q_handler, .ref q_depth, .ref q_over, .int x_flatCount, .ref q_flatOp, .ref q_flatArg, .int (nI hn), .ref q_flatHandler, .int x_blockCount, .ref q_leader, .ref q_last, .ref q_height, .ref q_state, .ref q_begin, .ref q_drawn, .ref q_order, .int x_g, .ref q_starters, .int x_ran, .int x_ended, .int x_result, .int x_steps, .int x_emits, .ref q_emitted, .ref q_locals, .ref q_stack, .int (nI (((tq - 1) - 1) + 1)), .int (x_at + 1)])), (q_stack, .inl (cI, 24, .inl (upd sk ((tq - 1) - 1) (f_MO_sum o (sk ((tq - 1) - 1)) (sk (tq - 1)))))), (q_flatHandler, .inl (cI, z, .inl hd))]) S in_MO ty_MO nm_MO hK hP hD hS 0 rfl rfl 31 (by decide) ql_MO_213 rfl rfl rfl rfl (Nat.le_of_ble_eq_true rfl) rfl d_MO_reckon_49 (fun H locs hP hD hS => ?_)
      exact k_vret hx hb hr hlocks hK hP hD hS (by rw [f_MO_reckon1, if_pos h14_1, if_neg h18_2]) d_MO_reckon_52
    · skip
      refine lv_aload_n hx hb d_MO_reckon_21 rfl (lv_at hl 2 rfl) ?_
      refine lv_iload_n hx hb d_MO_reckon_22 rfl (lv_at hl 3 rfl) ?_
      refine lv_iconst (v := (-1)) hx hb d_MO_reckon_23 (by decide) ?_
      refine k_gov (ws' := [(a, .inr (7, [.int x_count, .ref q_op, .ref q_arg, .int x_handlers, .ref q_handler, .ref q_depth, .ref q_over, .int x_flatCount, .ref q_flatOp, .ref q_flatArg, .int (nI hn), .ref q_flatHandler, .int x_blockCount, .ref q_leader, .ref q_last, .ref q_height, .ref q_state, .ref q_begin, .ref q_drawn, .ref q_order, .int x_g, .ref q_starters, .int x_ran, .int ((f_MO_raise1 x_ended x_result x_at hn ((tq - 1) - 1) hd sk (-1)).2.2.2.1), .int ((f_MO_raise1 x_ended x_result x_at hn ((tq - 1) - 1) hd sk (-1)).2.2.2.2), .int x_steps, .int x_emits, .ref q_emitted, .ref q_locals, .ref q_stack, .int (nI ((f_MO_raise1 x_ended x_result x_at hn ((tq - 1) - 1) hd sk (-1)).2.1)), .int ((f_MO_raise1 x_ended x_result x_at hn ((tq - 1) - 1) hd sk (-1)).2.2.1)])), (q_stack, .inl (cI, 24, .inl ((f_MO_raise1 x_ended x_result x_at hn ((tq - 1) - 1) hd sk (-1)).1))), (q_flatHandler, .inl (cI, z, .inl hd))]) (wr := []) (k_runV (q0 := 0) (As := [.int 1, .int (-1)]) (rest := []) (n := 2) S (c_MO_raise1 l D cI cZ a q_op q_arg q_handler q_depth q_over q_flatOp q_flatArg q_flatHandler q_leader q_last q_height q_state q_begin q_drawn q_order q_starters q_emitted q_locals q_stack x_count x_handlers x_flatCount x_blockCount x_g x_ran x_ended x_result x_steps x_emits x_at hn z ((tq - 1) - 1) hd sk (-1) (by omega) (by omega)) E0_b E0_t ql_MO_222 qi_MO_raise qs_MO_raise qn_MO qc_MO_raise (by decide +kernel) rfl ⟨rfl, rfl⟩ ⟨Nat.le_of_ble_eq_true rfl, Nat.le_of_ble_eq_true rfl⟩ hK hP hD [0, 1, 2] rfl (by decide) rfl rfl hl.1 rfl (Nat.le_of_ble_eq_true rfl) d_MO_reckon_24 ⟨Nat.zero_le _, Nat.zero_le _⟩) hP hD hS hA [0, 1, 2] [] [0, 1, 2] rfl rfl (by decide) (by decide) rfl (by decide) (fun H locs hP hD hS => ?_)
      refine lv_goto (tgt := 52) hx hb d_MO_reckon_27 (by decide) ?_
      exact k_vret hx hb hr hlocks hK hP hD hS (by rw [f_MO_reckon1, if_pos h14_1, if_pos h18_2]) d_MO_reckon_52

theorem d_MO_branch_0 : decode b_MO_branch 0 = .ok (.iload_n 1, 1) := by decide +kernel
theorem d_MO_branch_1 : decode b_MO_branch 1 = .ok (.bipush 13, 2) := by decide +kernel
theorem d_MO_branch_3 : decode b_MO_branch 3 = .ok (.if_icmp .ne 7, 3) := by decide +kernel
theorem d_MO_branch_6 : decode b_MO_branch 6 = .ok (.iconst 0, 1) := by decide +kernel
theorem d_MO_branch_7 : decode b_MO_branch 7 = .ok (.goto 7, 3) := by decide +kernel
theorem d_MO_branch_10 : decode b_MO_branch 10 = .ok (.aload_n 0, 1) := by decide +kernel
theorem d_MO_branch_11 : decode b_MO_branch 11 = .ok (.invokevirtual 219, 3) := by decide +kernel
theorem d_MO_branch_14 : decode b_MO_branch 14 = .ok (.istore_n 3, 1) := by decide +kernel
theorem d_MO_branch_15 : decode b_MO_branch 15 = .ok (.aload_n 0, 1) := by decide +kernel
theorem d_MO_branch_16 : decode b_MO_branch 16 = .ok (.iload_n 1, 1) := by decide +kernel
theorem d_MO_branch_17 : decode b_MO_branch 17 = .ok (.bipush 13, 2) := by decide +kernel
theorem d_MO_branch_19 : decode b_MO_branch 19 = .ok (.if_icmp .eq 23, 3) := by decide +kernel
theorem d_MO_branch_22 : decode b_MO_branch 22 = .ok (.iload_n 1, 1) := by decide +kernel
theorem d_MO_branch_23 : decode b_MO_branch 23 = .ok (.bipush 14, 2) := by decide +kernel
theorem d_MO_branch_25 : decode b_MO_branch 25 = .ok (.if_icmp .ne 7, 3) := by decide +kernel
theorem d_MO_branch_28 : decode b_MO_branch 28 = .ok (.iload_n 3, 1) := by decide +kernel
theorem d_MO_branch_29 : decode b_MO_branch 29 = .ok (.ifCond .eq 13, 3) := by decide +kernel
theorem d_MO_branch_32 : decode b_MO_branch 32 = .ok (.iload_n 1, 1) := by decide +kernel
theorem d_MO_branch_33 : decode b_MO_branch 33 = .ok (.bipush 15, 2) := by decide +kernel
theorem d_MO_branch_35 : decode b_MO_branch 35 = .ok (.if_icmp .ne 11, 3) := by decide +kernel
theorem d_MO_branch_38 : decode b_MO_branch 38 = .ok (.iload_n 3, 1) := by decide +kernel
theorem d_MO_branch_39 : decode b_MO_branch 39 = .ok (.ifCond .ge 7, 3) := by decide +kernel
theorem d_MO_branch_42 : decode b_MO_branch 42 = .ok (.iload_n 2, 1) := by decide +kernel
theorem d_MO_branch_43 : decode b_MO_branch 43 = .ok (.goto 9, 3) := by decide +kernel
theorem d_MO_branch_46 : decode b_MO_branch 46 = .ok (.aload_n 0, 1) := by decide +kernel
theorem d_MO_branch_47 : decode b_MO_branch 47 = .ok (.getfield 213, 3) := by decide +kernel
theorem d_MO_branch_50 : decode b_MO_branch 50 = .ok (.iconst 1, 1) := by decide +kernel
theorem d_MO_branch_51 : decode b_MO_branch 51 = .ok (.iadd, 1) := by decide +kernel
theorem d_MO_branch_52 : decode b_MO_branch 52 = .ok (.putfield 213, 3) := by decide +kernel
theorem d_MO_branch_55 : decode b_MO_branch 55 = .ok (.return_, 1) := by decide +kernel
def g0_MO_branch (tq : Nat) (sk : Nat → Int32) (o : Int32) : Int32 × Nat := (if o = 13 then (0, tq) else (sk (tq - 1), tq - 1))
def f_MO_branch (x_at : Int32) (tq : Nat) (sk : Nat → Int32) (o : Int32) (b : Int32) : Nat × Int32 := (if o = 13 then ((g0_MO_branch tq sk o).2, b) else (if o = 14 then (if (g0_MO_branch tq sk o).1 = 0 then ((g0_MO_branch tq sk o).2, b) else (if o = 15 then (if 0 ≤ (g0_MO_branch tq sk o).1 then ((g0_MO_branch tq sk o).2, x_at + 1) else ((g0_MO_branch tq sk o).2, b)) else ((g0_MO_branch tq sk o).2, x_at + 1))) else (if o = 15 then (if 0 ≤ (g0_MO_branch tq sk o).1 then ((g0_MO_branch tq sk o).2, x_at + 1) else ((g0_MO_branch tq sk o).2, b)) else ((g0_MO_branch tq sk o).2, x_at + 1))))
set_option maxHeartbeats 1000000 in
set_option maxRecDepth 100000 in
theorem c_MO_branch (l : Launch) (D : va_G) (cI cZ : ClassId) (a q_op q_arg q_handler q_depth q_over q_flatOp q_flatArg q_flatHandler q_leader q_last q_height q_state q_begin q_drawn q_order q_starters q_emitted q_locals q_stack : Nat) (x_count x_handlers x_flatCount x_flatHandlers x_blockCount x_g x_ran x_ended x_result x_steps x_emits x_at : Int32) (tq : Nat) (sk : Nat → Int32) (o b : Int32) (hq : ¬ o = 13 → 1 ≤ tq) (hq7 : tq ≤ 24) : MG l y_MO_branch w_MO_branch (rmK 1 20) D classes (tyz cI cZ) E0 [.ref a, .int o, .int b] [(a, .inr (7, [.int x_count, .ref q_op, .ref q_arg, .int x_handlers, .ref q_handler, .ref q_depth, .ref q_over, .int x_flatCount, .ref q_flatOp, .ref q_flatArg, .int x_flatHandlers, .ref q_flatHandler, .int x_blockCount, .ref q_leader, .ref q_last, .ref q_height, .ref q_state, .ref q_begin, .ref q_drawn, .ref q_order, .int x_g, .ref q_starters, .int x_ran, .int x_ended, .int x_result, .int x_steps, .int x_emits, .ref q_emitted, .ref q_locals, .ref q_stack, .int (nI tq), .int x_at])), (q_stack, .inl (cI, 24, .inl sk))] (RV D classes (tyz cI cZ) [(a, .inr (7, [.int x_count, .ref q_op, .ref q_arg, .int x_handlers, .ref q_handler, .ref q_depth, .ref q_over, .int x_flatCount, .ref q_flatOp, .ref q_flatArg, .int x_flatHandlers, .ref q_flatHandler, .int x_blockCount, .ref q_leader, .ref q_last, .ref q_height, .ref q_state, .ref q_begin, .ref q_drawn, .ref q_order, .int x_g, .ref q_starters, .int x_ran, .int x_ended, .int x_result, .int x_steps, .int x_emits, .ref q_emitted, .ref q_locals, .ref q_stack, .int (nI ((f_MO_branch x_at tq sk o b).1)), .int ((f_MO_branch x_at tq sk o b).2)])), (q_stack, .inl (cI, 24, .inl sk))]) := by
  refine MG.of (cc := b_MO_branch) (maxL := 4) (ret := none) (own := "FlowFlattenerModel") rfl (by decide) rfl (Nat.le_of_ble_eq_true rfl) ?_
  intro p e s m below meth c A ls S hr hlocks hA hP hK hD hS hE hl
  have hx := S.1
  have hb := S.2.1
  have hl : lv_has ls 4 [(0, .ref a), (1, .int o), (2, .int b)] := hl
  have J14 : ∀ (ls : Array Slot) (H : Heap) (locs : List Loc), lv_has ls 4 [(0, .ref a), (1, .int o), (2, .int b)] → va_P D classes [(a, .inr (7, [.int x_count, .ref q_op, .ref q_arg, .int x_handlers, .ref q_handler, .ref q_depth, .ref q_over, .int x_flatCount, .ref q_flatOp, .ref q_flatArg, .int x_flatHandlers, .ref q_flatHandler, .int x_blockCount, .ref q_leader, .ref q_last, .ref q_height, .ref q_state, .ref q_begin, .ref q_drawn, .ref q_order, .int x_g, .ref q_starters, .int x_ran, .int x_ended, .int x_result, .int x_steps, .int x_emits, .ref q_emitted, .ref q_locals, .ref q_stack, .int (nI ((g0_MO_branch tq sk o).2)), .int x_at])), (q_stack, .inl (cI, 24, .inl sk))] H → va_D A [(a, .inr (7, [.int x_count, .ref q_op, .ref q_arg, .int x_handlers, .ref q_handler, .ref q_depth, .ref q_over, .int x_flatCount, .ref q_flatOp, .ref q_flatArg, .int x_flatHandlers, .ref q_flatHandler, .int x_blockCount, .ref q_leader, .ref q_last, .ref q_height, .ref q_state, .ref q_begin, .ref q_drawn, .ref q_order, .int x_g, .ref q_starters, .int x_ran, .int x_ended, .int x_result, .int x_steps, .int x_emits, .ref q_emitted, .ref q_locals, .ref q_stack, .int (nI ((g0_MO_branch tq sk o).2)), .int x_at])), (q_stack, .inl (cI, 24, .inl sk))] → va_S A s.heap H locs → W p l e (rmK 1 20) s m [.ref a, .int o, .int b].toArray below meth c H locs 0 0 (MQ below (RV D classes (tyz cI cZ) [(a, .inr (7, [.int x_count, .ref q_op, .ref q_arg, .int x_handlers, .ref q_handler, .ref q_depth, .ref q_over, .int x_flatCount, .ref q_flatOp, .ref q_flatArg, .int x_flatHandlers, .ref q_flatHandler, .int x_blockCount, .ref q_leader, .ref q_last, .ref q_height, .ref q_state, .ref q_begin, .ref q_drawn, .ref q_order, .int x_g, .ref q_starters, .int x_ran, .int x_ended, .int x_result, .int x_steps, .int x_emits, .ref q_emitted, .ref q_locals, .ref q_stack, .int (nI ((f_MO_branch x_at tq sk o b).1)), .int ((f_MO_branch x_at tq sk o b).2)])), (q_stack, .inl (cI, 24, .inl sk))] A) [.ref a, .int o, .int b].toArray s 0 0 A) (F0 m 14 ls [.int ((g0_MO_branch tq sk o).1)]) := by
    intro ls H locs hl hP hD hS
    refine lv_istore_n (lv' := [(3, .int ((g0_MO_branch tq sk o).1)), (0, .ref a), (1, .int o), (2, .int b)]) hx hb d_MO_branch_14 rfl hl (by decide) rfl (fun ls hl => ?_)
    refine lv_aload_n hx hb d_MO_branch_15 rfl (lv_at hl 1 rfl) ?_
    refine lv_iload_n hx hb d_MO_branch_16 rfl (lv_at hl 2 rfl) ?_
    refine lv_bipush (v := 13) hx hb d_MO_branch_17 (by decide) ?_
    refine lv_icmp_eq (tgt := 42) hx hb d_MO_branch_19 (by decide) (fun h19_1 => ?_) (fun h19_1 => ?_)
    · skip
      refine lv_iload_n hx hb d_MO_branch_42 rfl (lv_at hl 3 rfl) ?_
      refine lv_goto (tgt := 52) hx hb d_MO_branch_43 (by decide) ?_
      refine k_put (v := .int b) (ws' := [(a, .inr (7, [.int x_count, .ref q_op, .ref q_arg, .int x_handlers, .ref q_handler, .ref q_depth, .ref q_over, .int x_flatCount, .ref q_flatOp, .ref q_flatArg, .int x_flatHandlers, .ref q_flatHandler, .int x_blockCount, .ref q_leader, .ref q_last, .ref q_height, .ref q_state, .ref q_begin, .ref q_drawn, .ref q_order, .int x_g, .ref q_starters, .int x_ran, .int x_ended, .int x_result, .int x_steps, .int x_emits, .ref q_emitted, .ref q_locals, .ref q_stack, .int (nI ((g0_MO_branch tq sk o).2)), .int b])), (q_stack, .inl (cI, 24, .inl sk))]) S in_MO ty_MO nm_MO hK hP hD hS 0 rfl rfl 31 (by decide) ql_MO_213 rfl rfl rfl rfl (Nat.le_of_ble_eq_true rfl) rfl d_MO_branch_52 (fun H locs hP hD hS => ?_)
      exact k_vret hx hb hr hlocks hK hP hD hS (by rw [f_MO_branch, if_pos h19_1]) d_MO_branch_55
    · skip
      refine lv_iload_n hx hb d_MO_branch_22 rfl (lv_at hl 2 rfl) ?_
      refine lv_bipush (v := 14) hx hb d_MO_branch_23 (by decide) ?_
      refine lv_icmp_ne (tgt := 32) hx hb d_MO_branch_25 (by decide) (fun h25_2 => ?_) (fun h25_2 => ?_)
      · skip
        refine lv_iload_n hx hb d_MO_branch_32 rfl (lv_at hl 2 rfl) ?_
        refine lv_bipush (v := 15) hx hb d_MO_branch_33 (by decide) ?_
        refine lv_icmp_ne (tgt := 46) hx hb d_MO_branch_35 (by decide) (fun h35_3 => ?_) (fun h35_3 => ?_)
        · skip
          refine lv_aload_n hx hb d_MO_branch_46 rfl (lv_at hl 1 rfl) ?_
          refine k_get (v := .int x_at) S in_MO hK hP 0 rfl rfl 31 (by decide) ql_MO_213 rfl d_MO_branch_47 ?_
          refine lv_iconst (v := 1) hx hb d_MO_branch_50 (by decide) ?_
          refine lv_iadd hx hb d_MO_branch_51 ?_
          refine k_put (v := .int (x_at + 1)) (ws' := [(a, .inr (7, [.int x_count, .ref q_op, .ref q_arg, .int x_handlers, .ref q_handler, .ref q_depth, .ref q_over, .int x_flatCount, .ref q_flatOp, .ref q_flatArg, .int x_flatHandlers, .ref q_flatHandler, .int x_blockCount, .ref q_leader, .ref q_last, .ref q_height, .ref q_state, .ref q_begin, .ref q_drawn, .ref q_order, .int x_g, .ref q_starters, .int x_ran, .int x_ended, .int x_result, .int x_steps, .int x_emits, .ref q_emitted, .ref q_locals, .ref q_stack, .int (nI ((g0_MO_branch tq sk o).2)), .int (x_at + 1)])), (q_stack, .inl (cI, 24, .inl sk))]) S in_MO ty_MO nm_MO hK hP hD hS 0 rfl rfl 31 (by decide) ql_MO_213 rfl rfl rfl rfl (Nat.le_of_ble_eq_true rfl) rfl d_MO_branch_52 (fun H locs hP hD hS => ?_)
          exact k_vret hx hb hr hlocks hK hP hD hS (by rw [f_MO_branch, if_neg h19_1, if_neg h25_2, if_neg h35_3]) d_MO_branch_55
        · skip
          refine lv_iload_n hx hb d_MO_branch_38 rfl (lv_at hl 0 rfl) ?_
          refine lv_if_ge (tgt := 46) hx hb d_MO_branch_39 (by decide) (fun h39_4 => ?_) (fun h39_4 => ?_)
          · skip
            refine lv_aload_n hx hb d_MO_branch_46 rfl (lv_at hl 1 rfl) ?_
            refine k_get (v := .int x_at) S in_MO hK hP 0 rfl rfl 31 (by decide) ql_MO_213 rfl d_MO_branch_47 ?_
            refine lv_iconst (v := 1) hx hb d_MO_branch_50 (by decide) ?_
            refine lv_iadd hx hb d_MO_branch_51 ?_
            refine k_put (v := .int (x_at + 1)) (ws' := [(a, .inr (7, [.int x_count, .ref q_op, .ref q_arg, .int x_handlers, .ref q_handler, .ref q_depth, .ref q_over, .int x_flatCount, .ref q_flatOp, .ref q_flatArg, .int x_flatHandlers, .ref q_flatHandler, .int x_blockCount, .ref q_leader, .ref q_last, .ref q_height, .ref q_state, .ref q_begin, .ref q_drawn, .ref q_order, .int x_g, .ref q_starters, .int x_ran, .int x_ended, .int x_result, .int x_steps, .int x_emits, .ref q_emitted, .ref q_locals, .ref q_stack, .int (nI ((g0_MO_branch tq sk o).2)), .int (x_at + 1)])), (q_stack, .inl (cI, 24, .inl sk))]) S in_MO ty_MO nm_MO hK hP hD hS 0 rfl rfl 31 (by decide) ql_MO_213 rfl rfl rfl rfl (Nat.le_of_ble_eq_true rfl) rfl d_MO_branch_52 (fun H locs hP hD hS => ?_)
            exact k_vret hx hb hr hlocks hK hP hD hS (by rw [f_MO_branch, if_neg h19_1, if_neg h25_2, if_pos h35_3, if_pos h39_4]) d_MO_branch_55
          · skip
            refine lv_iload_n hx hb d_MO_branch_42 rfl (lv_at hl 3 rfl) ?_
            refine lv_goto (tgt := 52) hx hb d_MO_branch_43 (by decide) ?_
            refine k_put (v := .int b) (ws' := [(a, .inr (7, [.int x_count, .ref q_op, .ref q_arg, .int x_handlers, .ref q_handler, .ref q_depth, .ref q_over, .int x_flatCount, .ref q_flatOp, .ref q_flatArg, .int x_flatHandlers, .ref q_flatHandler, .int x_blockCount, .ref q_leader, .ref q_last, .ref q_height, .ref q_state, .ref q_begin, .ref q_drawn, .ref q_order, .int x_g, .ref q_starters, .int x_ran, .int x_ended, .int x_result, .int x_steps, .int x_emits, .ref q_emitted, .ref q_locals, .ref q_stack, .int (nI ((g0_MO_branch tq sk o).2)), .int b])), (q_stack, .inl (cI, 24, .inl sk))]) S in_MO ty_MO nm_MO hK hP hD hS 0 rfl rfl 31 (by decide) ql_MO_213 rfl rfl rfl rfl (Nat.le_of_ble_eq_true rfl) rfl d_MO_branch_52 (fun H locs hP hD hS => ?_)
            exact k_vret hx hb hr hlocks hK hP hD hS (by rw [f_MO_branch, if_neg h19_1, if_neg h25_2, if_pos h35_3, if_neg h39_4]) d_MO_branch_55
      · skip
        refine lv_iload_n hx hb d_MO_branch_28 rfl (lv_at hl 0 rfl) ?_
        refine lv_if_eq (tgt := 42) hx hb d_MO_branch_29 (by decide) (fun h29_5 => ?_) (fun h29_5 => ?_)
        · skip
          refine lv_iload_n hx hb d_MO_branch_42 rfl (lv_at hl 3 rfl) ?_
          refine lv_goto (tgt := 52) hx hb d_MO_branch_43 (by decide) ?_
          refine k_put (v := .int b) (ws' := [(a, .inr (7, [.int x_count, .ref q_op, .ref q_arg, .int x_handlers, .ref q_handler, .ref q_depth, .ref q_over, .int x_flatCount, .ref q_flatOp, .ref q_flatArg, .int x_flatHandlers, .ref q_flatHandler, .int x_blockCount, .ref q_leader, .ref q_last, .ref q_height, .ref q_state, .ref q_begin, .ref q_drawn, .ref q_order, .int x_g, .ref q_starters, .int x_ran, .int x_ended, .int x_result, .int x_steps, .int x_emits, .ref q_emitted, .ref q_locals, .ref q_stack, .int (nI ((g0_MO_branch tq sk o).2)), .int b])), (q_stack, .inl (cI, 24, .inl sk))]) S in_MO ty_MO nm_MO hK hP hD hS 0 rfl rfl 31 (by decide) ql_MO_213 rfl rfl rfl rfl (Nat.le_of_ble_eq_true rfl) rfl d_MO_branch_52 (fun H locs hP hD hS => ?_)
          exact k_vret hx hb hr hlocks hK hP hD hS (by rw [f_MO_branch, if_neg h19_1, if_pos h25_2, if_pos h29_5]) d_MO_branch_55
        · skip
          refine lv_iload_n hx hb d_MO_branch_32 rfl (lv_at hl 2 rfl) ?_
          refine lv_bipush (v := 15) hx hb d_MO_branch_33 (by decide) ?_
          refine lv_icmp_ne (tgt := 46) hx hb d_MO_branch_35 (by decide) (fun h35_6 => ?_) (fun h35_6 => ?_)
          · skip
            refine lv_aload_n hx hb d_MO_branch_46 rfl (lv_at hl 1 rfl) ?_
            refine k_get (v := .int x_at) S in_MO hK hP 0 rfl rfl 31 (by decide) ql_MO_213 rfl d_MO_branch_47 ?_
            refine lv_iconst (v := 1) hx hb d_MO_branch_50 (by decide) ?_
            refine lv_iadd hx hb d_MO_branch_51 ?_
            refine k_put (v := .int (x_at + 1)) (ws' := [(a, .inr (7, [.int x_count, .ref q_op, .ref q_arg, .int x_handlers, .ref q_handler, .ref q_depth, .ref q_over, .int x_flatCount, .ref q_flatOp, .ref q_flatArg, .int x_flatHandlers, .ref q_flatHandler, .int x_blockCount, .ref q_leader, .ref q_last, .ref q_height, .ref q_state, .ref q_begin, .ref q_drawn, .ref q_order, .int x_g, .ref q_starters, .int x_ran, .int x_ended, .int x_result, .int x_steps, .int x_emits, .ref q_emitted, .ref q_locals, .ref q_stack, .int (nI ((g0_MO_branch tq sk o).2)), .int (x_at + 1)])), (q_stack, .inl (cI, 24, .inl sk))]) S in_MO ty_MO nm_MO hK hP hD hS 0 rfl rfl 31 (by decide) ql_MO_213 rfl rfl rfl rfl (Nat.le_of_ble_eq_true rfl) rfl d_MO_branch_52 (fun H locs hP hD hS => ?_)
            exact k_vret hx hb hr hlocks hK hP hD hS (by rw [f_MO_branch, if_neg h19_1, if_pos h25_2, if_neg h29_5, if_neg h35_6]) d_MO_branch_55
          · skip
            refine lv_iload_n hx hb d_MO_branch_38 rfl (lv_at hl 0 rfl) ?_
            refine lv_if_ge (tgt := 46) hx hb d_MO_branch_39 (by decide) (fun h39_7 => ?_) (fun h39_7 => ?_)
            · skip
              refine lv_aload_n hx hb d_MO_branch_46 rfl (lv_at hl 1 rfl) ?_
              refine k_get (v := .int x_at) S in_MO hK hP 0 rfl rfl 31 (by decide) ql_MO_213 rfl d_MO_branch_47 ?_
              refine lv_iconst (v := 1) hx hb d_MO_branch_50 (by decide) ?_
              refine lv_iadd hx hb d_MO_branch_51 ?_
              refine k_put (v := .int (x_at + 1)) (ws' := [(a, .inr (7, [.int x_count, .ref q_op, .ref q_arg, .int x_handlers, .ref q_handler, .ref q_depth, .ref q_over, .int x_flatCount, .ref q_flatOp, .ref q_flatArg, .int x_flatHandlers, .ref q_flatHandler, .int x_blockCount, .ref q_leader, .ref q_last, .ref q_height, .ref q_state, .ref q_begin, .ref q_drawn, .ref q_order, .int x_g, .ref q_starters, .int x_ran, .int x_ended, .int x_result, .int x_steps, .int x_emits, .ref q_emitted, .ref q_locals, .ref q_stack, .int (nI ((g0_MO_branch tq sk o).2)), .int (x_at + 1)])), (q_stack, .inl (cI, 24, .inl sk))]) S in_MO ty_MO nm_MO hK hP hD hS 0 rfl rfl 31 (by decide) ql_MO_213 rfl rfl rfl rfl (Nat.le_of_ble_eq_true rfl) rfl d_MO_branch_52 (fun H locs hP hD hS => ?_)
              exact k_vret hx hb hr hlocks hK hP hD hS (by rw [f_MO_branch, if_neg h19_1, if_pos h25_2, if_neg h29_5, if_pos h35_6, if_pos h39_7]) d_MO_branch_55
            · skip
              refine lv_iload_n hx hb d_MO_branch_42 rfl (lv_at hl 3 rfl) ?_
              refine lv_goto (tgt := 52) hx hb d_MO_branch_43 (by decide) ?_
              refine k_put (v := .int b) (ws' := [(a, .inr (7, [.int x_count, .ref q_op, .ref q_arg, .int x_handlers, .ref q_handler, .ref q_depth, .ref q_over, .int x_flatCount, .ref q_flatOp, .ref q_flatArg, .int x_flatHandlers, .ref q_flatHandler, .int x_blockCount, .ref q_leader, .ref q_last, .ref q_height, .ref q_state, .ref q_begin, .ref q_drawn, .ref q_order, .int x_g, .ref q_starters, .int x_ran, .int x_ended, .int x_result, .int x_steps, .int x_emits, .ref q_emitted, .ref q_locals, .ref q_stack, .int (nI ((g0_MO_branch tq sk o).2)), .int b])), (q_stack, .inl (cI, 24, .inl sk))]) S in_MO ty_MO nm_MO hK hP hD hS 0 rfl rfl 31 (by decide) ql_MO_213 rfl rfl rfl rfl (Nat.le_of_ble_eq_true rfl) rfl d_MO_branch_52 (fun H locs hP hD hS => ?_)
              exact k_vret hx hb hr hlocks hK hP hD hS (by rw [f_MO_branch, if_neg h19_1, if_pos h25_2, if_neg h29_5, if_pos h35_6, if_neg h39_7]) d_MO_branch_55
  refine lv_iload_n hx hb d_MO_branch_0 rfl (lv_at hl 1 rfl) ?_
  refine lv_bipush (v := 13) hx hb d_MO_branch_1 (by decide) ?_
  refine lv_icmp_ne (tgt := 10) hx hb d_MO_branch_3 (by decide) (fun h3_8 => ?_) (fun h3_8 => ?_)
  · skip
    refine lv_aload_n hx hb d_MO_branch_10 rfl (lv_at hl 0 rfl) ?_
    refine k_goi (ws' := [(a, .inr (7, [.int x_count, .ref q_op, .ref q_arg, .int x_handlers, .ref q_handler, .ref q_depth, .ref q_over, .int x_flatCount, .ref q_flatOp, .ref q_flatArg, .int x_flatHandlers, .ref q_flatHandler, .int x_blockCount, .ref q_leader, .ref q_last, .ref q_height, .ref q_state, .ref q_begin, .ref q_drawn, .ref q_order, .int x_g, .ref q_starters, .int x_ran, .int x_ended, .int x_result, .int x_steps, .int x_emits, .ref q_emitted, .ref q_locals, .ref q_stack, .int (nI (tq - 1)), .int x_at])), (q_stack, .inl (cI, 24, .inl sk))]) (wr := []) (k_runV (q0 := 0) (As := []) (rest := []) (n := 0) S (c_MO_pop l D cI cZ a q_op q_arg q_handler q_depth q_over q_flatOp q_flatArg q_flatHandler q_leader q_last q_height q_state q_begin q_drawn q_order q_starters q_emitted q_locals q_stack x_count x_handlers x_flatCount x_flatHandlers x_blockCount x_g x_ran x_ended x_result x_steps x_emits x_at tq sk (hq (by assumption)) (by omega)) E0_b E0_t ql_MO_219 qi_MO_pop qs_MO_pop qn_MO qc_MO_pop (by decide +kernel) rfl ⟨rfl, rfl⟩ ⟨Nat.le_of_ble_eq_true rfl, Nat.le_of_ble_eq_true rfl⟩ hK hP hD [0, 1] rfl (by decide) rfl rfl hl.1 rfl (Nat.le_of_ble_eq_true rfl) d_MO_branch_11 ⟨Nat.zero_le _, Nat.zero_le _⟩) hP hD hS hA [0, 1] [] [0, 1] rfl rfl (by decide) (by decide) rfl (by decide) (fun H locs hP hD hS => ?_)
    have e9 : g0_MO_branch tq sk o = (sk (tq - 1), tq - 1) := by rw [g0_MO_branch, if_neg h3_8]
    rw [e9] at J14
    exact J14 _ _ _ (lv_sub hl [0, 1, 2] rfl) hP hD hS
  · skip
    refine lv_iconst (v := 0) hx hb d_MO_branch_6 (by decide) ?_
    refine lv_goto (tgt := 14) hx hb d_MO_branch_7 (by decide) ?_
    have e9 : g0_MO_branch tq sk o = (0, tq) := by rw [g0_MO_branch, if_pos h3_8]
    rw [e9] at J14
    exact J14 _ _ _ (lv_sub hl [0, 1, 2] rfl) hP hD hS

theorem d_MO_dispatch_0 : decode b_MO_dispatch 0 = .ok (.aload_n 0, 1) := by decide +kernel
theorem d_MO_dispatch_1 : decode b_MO_dispatch 1 = .ok (.invokevirtual 219, 3) := by decide +kernel
theorem d_MO_dispatch_4 : decode b_MO_dispatch 4 = .ok (.istore_n 1, 1) := by decide +kernel
theorem d_MO_dispatch_5 : decode b_MO_dispatch 5 = .ok (.iconst 0, 1) := by decide +kernel
theorem d_MO_dispatch_6 : decode b_MO_dispatch 6 = .ok (.istore_n 2, 1) := by decide +kernel
theorem d_MO_dispatch_7 : decode b_MO_dispatch 7 = .ok (.iload_n 2, 1) := by decide +kernel
theorem d_MO_dispatch_8 : decode b_MO_dispatch 8 = .ok (.aload_n 0, 1) := by decide +kernel
theorem d_MO_dispatch_9 : decode b_MO_dispatch 9 = .ok (.getfield 116, 3) := by decide +kernel
theorem d_MO_dispatch_12 : decode b_MO_dispatch 12 = .ok (.if_icmp .ge 19, 3) := by decide +kernel
theorem d_MO_dispatch_15 : decode b_MO_dispatch 15 = .ok (.aload_n 0, 1) := by decide +kernel
theorem d_MO_dispatch_16 : decode b_MO_dispatch 16 = .ok (.getfield 44, 3) := by decide +kernel
theorem d_MO_dispatch_19 : decode b_MO_dispatch 19 = .ok (.iload_n 2, 1) := by decide +kernel
theorem d_MO_dispatch_20 : decode b_MO_dispatch 20 = .ok (.iaload, 1) := by decide +kernel
theorem d_MO_dispatch_21 : decode b_MO_dispatch 21 = .ok (.iload_n 1, 1) := by decide +kernel
theorem d_MO_dispatch_22 : decode b_MO_dispatch 22 = .ok (.if_icmp .eq 9, 3) := by decide +kernel
theorem d_MO_dispatch_25 : decode b_MO_dispatch 25 = .ok (.iinc 2 1, 3) := by decide +kernel
theorem d_MO_dispatch_28 : decode b_MO_dispatch 28 = .ok (.goto (-21), 3) := by decide +kernel
theorem d_MO_dispatch_31 : decode b_MO_dispatch 31 = .ok (.aload_n 0, 1) := by decide +kernel
theorem d_MO_dispatch_32 : decode b_MO_dispatch 32 = .ok (.aload_n 0, 1) := by decide +kernel
theorem d_MO_dispatch_33 : decode b_MO_dispatch 33 = .ok (.getfield 47, 3) := by decide +kernel
theorem d_MO_dispatch_36 : decode b_MO_dispatch 36 = .ok (.iload_n 2, 1) := by decide +kernel
theorem d_MO_dispatch_37 : decode b_MO_dispatch 37 = .ok (.iaload, 1) := by decide +kernel
theorem d_MO_dispatch_38 : decode b_MO_dispatch 38 = .ok (.putfield 213, 3) := by decide +kernel
theorem d_MO_dispatch_41 : decode b_MO_dispatch 41 = .ok (.return_, 1) := by decide +kernel
def lp_MO_dispatch (tq : Nat) (sk : Nat → Int32) (st : Nat → Int32) : Nat → Nat → Nat
  | 0, b => b
  | kf + 1, b => (if st b = sk (tq - 1) then b else (lp_MO_dispatch tq sk st kf (b + 1)))
def f_MO_dispatch (tq : Nat) (bc : Nat) (sk : Nat → Int32) (st : Nat → Int32) (fi : Nat → Int32) : Int32 := fi (lp_MO_dispatch tq sk st bc 0)
set_option maxHeartbeats 1000000 in
set_option maxRecDepth 100000 in
theorem c_MO_dispatch (l : Launch) (D : va_G) (cI cZ : ClassId) (a q_op q_arg q_handler q_depth q_over q_flatOp q_flatArg q_flatHandler q_leader q_last q_height q_state q_begin q_drawn q_order q_starters q_emitted q_locals q_stack : Nat) (x_count x_handlers x_flatCount x_flatHandlers x_g x_ran x_ended x_result x_steps x_emits x_at : Int32) (tq bc : Nat) (sk st fi : Nat → Int32) (hq : 1 ≤ tq) (hq7 : tq ≤ 24) (hb32 : bc ≤ 32) (hd : lp_MO_dispatch tq sk st bc 0 < 32) : MG l y_MO_dispatch w_MO_dispatch (rmK 1 20) D classes (tyz cI cZ) E0 [.ref a] [(a, .inr (7, [.int x_count, .ref q_op, .ref q_arg, .int x_handlers, .ref q_handler, .ref q_depth, .ref q_over, .int x_flatCount, .ref q_flatOp, .ref q_flatArg, .int x_flatHandlers, .ref q_flatHandler, .int (nI bc), .ref q_leader, .ref q_last, .ref q_height, .ref q_state, .ref q_begin, .ref q_drawn, .ref q_order, .int x_g, .ref q_starters, .int x_ran, .int x_ended, .int x_result, .int x_steps, .int x_emits, .ref q_emitted, .ref q_locals, .ref q_stack, .int (nI tq), .int x_at])), (q_stack, .inl (cI, 24, .inl sk)), (q_state, .inl (cI, 32, .inl st)), (q_begin, .inl (cI, 32, .inl fi))] (RV D classes (tyz cI cZ) [(a, .inr (7, [.int x_count, .ref q_op, .ref q_arg, .int x_handlers, .ref q_handler, .ref q_depth, .ref q_over, .int x_flatCount, .ref q_flatOp, .ref q_flatArg, .int x_flatHandlers, .ref q_flatHandler, .int (nI bc), .ref q_leader, .ref q_last, .ref q_height, .ref q_state, .ref q_begin, .ref q_drawn, .ref q_order, .int x_g, .ref q_starters, .int x_ran, .int x_ended, .int x_result, .int x_steps, .int x_emits, .ref q_emitted, .ref q_locals, .ref q_stack, .int (nI (tq - 1)), .int (f_MO_dispatch tq bc sk st fi)])), (q_stack, .inl (cI, 24, .inl sk)), (q_state, .inl (cI, 32, .inl st)), (q_begin, .inl (cI, 32, .inl fi))]) := by
  refine MG.of (cc := b_MO_dispatch) (maxL := 3) (ret := none) (own := "FlowFlattenerModel") rfl (by decide) rfl (Nat.le_of_ble_eq_true rfl) ?_
  intro p e s m below meth c A ls S hr hlocks hA hP hK hD hS hE hl
  have hx := S.1
  have hb := S.2.1
  have hl : lv_has ls 3 [(0, .ref a)] := hl
  refine lv_aload_n hx hb d_MO_dispatch_0 rfl (lv_at hl 0 rfl) ?_
  refine k_goi (ws' := [(a, .inr (7, [.int x_count, .ref q_op, .ref q_arg, .int x_handlers, .ref q_handler, .ref q_depth, .ref q_over, .int x_flatCount, .ref q_flatOp, .ref q_flatArg, .int x_flatHandlers, .ref q_flatHandler, .int (nI bc), .ref q_leader, .ref q_last, .ref q_height, .ref q_state, .ref q_begin, .ref q_drawn, .ref q_order, .int x_g, .ref q_starters, .int x_ran, .int x_ended, .int x_result, .int x_steps, .int x_emits, .ref q_emitted, .ref q_locals, .ref q_stack, .int (nI (tq - 1)), .int x_at])), (q_stack, .inl (cI, 24, .inl sk)), (q_state, .inl (cI, 32, .inl st)), (q_begin, .inl (cI, 32, .inl fi))]) (wr := [(q_state, .inl (cI, 32, .inl st)), (q_begin, .inl (cI, 32, .inl fi))]) (k_runV (q0 := 0) (As := []) (rest := []) (n := 0) S (c_MO_pop l D cI cZ a q_op q_arg q_handler q_depth q_over q_flatOp q_flatArg q_flatHandler q_leader q_last q_height q_state q_begin q_drawn q_order q_starters q_emitted q_locals q_stack x_count x_handlers x_flatCount x_flatHandlers (nI bc) x_g x_ran x_ended x_result x_steps x_emits x_at tq sk (by omega) (by omega)) E0_b E0_t ql_MO_219 qi_MO_pop qs_MO_pop qn_MO qc_MO_pop (by decide +kernel) rfl ⟨rfl, rfl⟩ ⟨Nat.le_of_ble_eq_true rfl, Nat.le_of_ble_eq_true rfl⟩ hK hP hD [0, 1] rfl (by decide) rfl rfl hl.1 rfl (Nat.le_of_ble_eq_true rfl) d_MO_dispatch_1 ⟨Nat.zero_le _, Nat.zero_le _⟩) hP hD hS hA [0, 1] [2, 3] [2, 3, 0, 1] rfl rfl (by decide) (by decide) rfl (by decide) (fun H locs hP hD hS => ?_)
  refine lv_istore_n (lv' := [(1, .int (sk (tq - 1))), (0, .ref a)]) hx hb d_MO_dispatch_4 rfl hl (by decide) rfl (fun ls hl => ?_)
  refine lv_iconst (v := nI 0) hx hb d_MO_dispatch_5 (by decide) ?_
  refine lv_istore_n (lv' := [(2, .int (nI 0)), (1, .int (sk (tq - 1))), (0, .ref a)]) hx hb d_MO_dispatch_6 rfl hl (by decide) rfl (fun ls hl => ?_)
  have LP7 : ∀ (kf : Nat) (b : Nat), (b + kf = bc) → ∀ (ls : Array Slot) (H : Heap) (locs : List Loc), lv_has ls 3 [(0, .ref a), (1, .int (sk (tq - 1))), (2, .int (nI b))] → va_P D classes [(a, .inr (7, [.int x_count, .ref q_op, .ref q_arg, .int x_handlers, .ref q_handler, .ref q_depth, .ref q_over, .int x_flatCount, .ref q_flatOp, .ref q_flatArg, .int x_flatHandlers, .ref q_flatHandler, .int (nI bc), .ref q_leader, .ref q_last, .ref q_height, .ref q_state, .ref q_begin, .ref q_drawn, .ref q_order, .int x_g, .ref q_starters, .int x_ran, .int x_ended, .int x_result, .int x_steps, .int x_emits, .ref q_emitted, .ref q_locals, .ref q_stack, .int (nI (tq - 1)), .int x_at])), (q_stack, .inl (cI, 24, .inl sk)), (q_state, .inl (cI, 32, .inl st)), (q_begin, .inl (cI, 32, .inl fi))] H → va_D A [(a, .inr (7, [.int x_count, .ref q_op, .ref q_arg, .int x_handlers, .ref q_handler, .ref q_depth, .ref q_over, .int x_flatCount, .ref q_flatOp, .ref q_flatArg, .int x_flatHandlers, .ref q_flatHandler, .int (nI bc), .ref q_leader, .ref q_last, .ref q_height, .ref q_state, .ref q_begin, .ref q_drawn, .ref q_order, .int x_g, .ref q_starters, .int x_ran, .int x_ended, .int x_result, .int x_steps, .int x_emits, .ref q_emitted, .ref q_locals, .ref q_stack, .int (nI (tq - 1)), .int x_at])), (q_stack, .inl (cI, 24, .inl sk)), (q_state, .inl (cI, 32, .inl st)), (q_begin, .inl (cI, 32, .inl fi))] → va_S A s.heap H locs → (∀ (ls : Array Slot) (H : Heap) (locs : List Loc), lv_has ls 3 [(0, .ref a), (1, .int (sk (tq - 1))), (2, .int (nI (lp_MO_dispatch tq sk st kf b)))] → va_P D classes [(a, .inr (7, [.int x_count, .ref q_op, .ref q_arg, .int x_handlers, .ref q_handler, .ref q_depth, .ref q_over, .int x_flatCount, .ref q_flatOp, .ref q_flatArg, .int x_flatHandlers, .ref q_flatHandler, .int (nI bc), .ref q_leader, .ref q_last, .ref q_height, .ref q_state, .ref q_begin, .ref q_drawn, .ref q_order, .int x_g, .ref q_starters, .int x_ran, .int x_ended, .int x_result, .int x_steps, .int x_emits, .ref q_emitted, .ref q_locals, .ref q_stack, .int (nI (tq - 1)), .int x_at])), (q_stack, .inl (cI, 24, .inl sk)), (q_state, .inl (cI, 32, .inl st)), (q_begin, .inl (cI, 32, .inl fi))] H → va_D A [(a, .inr (7, [.int x_count, .ref q_op, .ref q_arg, .int x_handlers, .ref q_handler, .ref q_depth, .ref q_over, .int x_flatCount, .ref q_flatOp, .ref q_flatArg, .int x_flatHandlers, .ref q_flatHandler, .int (nI bc), .ref q_leader, .ref q_last, .ref q_height, .ref q_state, .ref q_begin, .ref q_drawn, .ref q_order, .int x_g, .ref q_starters, .int x_ran, .int x_ended, .int x_result, .int x_steps, .int x_emits, .ref q_emitted, .ref q_locals, .ref q_stack, .int (nI (tq - 1)), .int x_at])), (q_stack, .inl (cI, 24, .inl sk)), (q_state, .inl (cI, 32, .inl st)), (q_begin, .inl (cI, 32, .inl fi))] → va_S A s.heap H locs → W p l e (rmK 1 20) s m [.ref a].toArray below meth c H locs 0 0 (MQ below (RV D classes (tyz cI cZ) [(a, .inr (7, [.int x_count, .ref q_op, .ref q_arg, .int x_handlers, .ref q_handler, .ref q_depth, .ref q_over, .int x_flatCount, .ref q_flatOp, .ref q_flatArg, .int x_flatHandlers, .ref q_flatHandler, .int (nI bc), .ref q_leader, .ref q_last, .ref q_height, .ref q_state, .ref q_begin, .ref q_drawn, .ref q_order, .int x_g, .ref q_starters, .int x_ran, .int x_ended, .int x_result, .int x_steps, .int x_emits, .ref q_emitted, .ref q_locals, .ref q_stack, .int (nI (tq - 1)), .int (f_MO_dispatch tq bc sk st fi)])), (q_stack, .inl (cI, 24, .inl sk)), (q_state, .inl (cI, 32, .inl st)), (q_begin, .inl (cI, 32, .inl fi))] A) [.ref a].toArray s 0 0 A) (F0 m 31 ls [])) → W p l e (rmK 1 20) s m [.ref a].toArray below meth c H locs 0 0 (MQ below (RV D classes (tyz cI cZ) [(a, .inr (7, [.int x_count, .ref q_op, .ref q_arg, .int x_handlers, .ref q_handler, .ref q_depth, .ref q_over, .int x_flatCount, .ref q_flatOp, .ref q_flatArg, .int x_flatHandlers, .ref q_flatHandler, .int (nI bc), .ref q_leader, .ref q_last, .ref q_height, .ref q_state, .ref q_begin, .ref q_drawn, .ref q_order, .int x_g, .ref q_starters, .int x_ran, .int x_ended, .int x_result, .int x_steps, .int x_emits, .ref q_emitted, .ref q_locals, .ref q_stack, .int (nI (tq - 1)), .int (f_MO_dispatch tq bc sk st fi)])), (q_stack, .inl (cI, 24, .inl sk)), (q_state, .inl (cI, 32, .inl st)), (q_begin, .inl (cI, 32, .inl fi))] A) [.ref a].toArray s 0 0 A) (F0 m 7 ls []) := by
    intro kf
    induction kf with
    | zero =>
      intro b hk ls H locs hl hP hD hS kk
      refine lv_iload_n hx hb d_MO_dispatch_7 rfl (lv_at hl 2 rfl) ?_
      refine lv_aload_n hx hb d_MO_dispatch_8 rfl (lv_at hl 0 rfl) ?_
      refine k_get (v := .int (nI bc)) S in_MO hK hP 0 rfl rfl 12 (by decide) ql_MO_116 rfl d_MO_dispatch_9 ?_
      refine n_icmp_ge (tgt := 31) (x := b) (y := bc) hx hb rfl rfl (by omega) (by omega) d_MO_dispatch_12 (by decide) (fun h12_1 => ?_) (fun h12_1 => absurd h12_1 (by omega))
      have e9 : lp_MO_dispatch tq sk st 0 b = b := by rw [lp_MO_dispatch]
      rw [e9] at kk
      exact kk _ _ _ (lv_sub hl [0, 1, 2] rfl) hP hD hS
    | succ kf ih =>
      intro b hk ls H locs hl hP hD hS kk
      refine lv_iload_n hx hb d_MO_dispatch_7 rfl (lv_at hl 2 rfl) ?_
      refine lv_aload_n hx hb d_MO_dispatch_8 rfl (lv_at hl 0 rfl) ?_
      refine k_get (v := .int (nI bc)) S in_MO hK hP 0 rfl rfl 12 (by decide) ql_MO_116 rfl d_MO_dispatch_9 ?_
      refine n_icmp_ge (tgt := 31) (x := b) (y := bc) hx hb rfl rfl (by omega) (by omega) d_MO_dispatch_12 (by decide) (fun h12_2 => absurd h12_2 (by omega)) (fun h12_2 => ?_)
      refine lv_aload_n hx hb d_MO_dispatch_15 rfl (lv_at hl 0 rfl) ?_
      refine k_get (v := .ref q_state) S in_MO hK hP 0 rfl rfl 16 (by decide) ql_MO_44 rfl d_MO_dispatch_16 ?_
      refine lv_iload_n hx hb d_MO_dispatch_19 rfl (lv_at hl 2 rfl) ?_
      refine k_ld (k := b) hx hb hK hP 2 0 rfl rfl rfl (by omega) (by decide) d_MO_dispatch_20 ?_
      refine lv_iload_n hx hb d_MO_dispatch_21 rfl (lv_at hl 1 rfl) ?_
      refine lv_icmp_eq (tgt := 31) hx hb d_MO_dispatch_22 (by decide) (fun h22_3 => ?_) (fun h22_3 => ?_)
      · skip
        have e9 : lp_MO_dispatch tq sk st (kf + 1) b = b := by rw [lp_MO_dispatch, if_pos h22_3]
        rw [e9] at kk
        exact kk _ _ _ (lv_sub hl [0, 1, 2] rfl) hP hD hS
      · skip
        refine lv_iinc (k := 2) (v := nI (b + 1)) (lv' := [(2, .int (nI (b + 1))), (0, .ref a), (1, .int (sk (tq - 1)))]) hx hb d_MO_dispatch_25 hl rfl (nc_add rfl (by decide)) (by decide) rfl (fun ls hl => ?_)
        refine lv_goto (tgt := 7) hx hb d_MO_dispatch_28 (by decide) ?_
        have e9 : lp_MO_dispatch tq sk st (kf + 1) b = lp_MO_dispatch tq sk st kf (b + 1) := by rw [lp_MO_dispatch, if_neg h22_3]
        rw [e9] at kk
        exact ih (b + 1) (by omega) _ _ _ (lv_sub hl [1, 2, 0] rfl) hP hD hS kk
  refine LP7 bc 0 (by omega) _ _ _ (lv_sub hl [2, 1, 0] rfl) hP hD hS (fun ls H locs hl hP hD hS => ?_)
  refine lv_aload_n hx hb d_MO_dispatch_31 rfl (lv_at hl 0 rfl) ?_
  refine lv_aload_n hx hb d_MO_dispatch_32 rfl (lv_at hl 0 rfl) ?_
  refine k_get (v := .ref q_begin) S in_MO hK hP 0 rfl rfl 17 (by decide) ql_MO_47 rfl d_MO_dispatch_33 ?_
  refine lv_iload_n hx hb d_MO_dispatch_36 rfl (lv_at hl 2 rfl) ?_
  refine k_ld (k := lp_MO_dispatch tq sk st bc 0) hx hb hK hP 3 0 rfl rfl rfl hd (by decide) d_MO_dispatch_37 ?_
  refine k_put (v := .int (fi (lp_MO_dispatch tq sk st bc 0))) (ws' := [(a, .inr (7, [.int x_count, .ref q_op, .ref q_arg, .int x_handlers, .ref q_handler, .ref q_depth, .ref q_over, .int x_flatCount, .ref q_flatOp, .ref q_flatArg, .int x_flatHandlers, .ref q_flatHandler, .int (nI bc), .ref q_leader, .ref q_last, .ref q_height, .ref q_state, .ref q_begin, .ref q_drawn, .ref q_order, .int x_g, .ref q_starters, .int x_ran, .int x_ended, .int x_result, .int x_steps, .int x_emits, .ref q_emitted, .ref q_locals, .ref q_stack, .int (nI (tq - 1)), .int (fi (lp_MO_dispatch tq sk st bc 0))])), (q_stack, .inl (cI, 24, .inl sk)), (q_state, .inl (cI, 32, .inl st)), (q_begin, .inl (cI, 32, .inl fi))]) S in_MO ty_MO nm_MO hK hP hD hS 0 rfl rfl 31 (by decide) ql_MO_213 rfl rfl rfl rfl (Nat.le_of_ble_eq_true rfl) rfl d_MO_dispatch_38 (fun H locs hP hD hS => ?_)
  exact k_vret hx hb hr hlocks hK hP hD hS (by rw [f_MO_dispatch]) d_MO_dispatch_41

theorem d_MO_emit_0 : decode b_MO_emit 0 = .ok (.aload_n 0, 1) := by decide +kernel
theorem d_MO_emit_1 : decode b_MO_emit 1 = .ok (.invokevirtual 219, 3) := by decide +kernel
theorem d_MO_emit_4 : decode b_MO_emit 4 = .ok (.istore_n 1, 1) := by decide +kernel
theorem d_MO_emit_5 : decode b_MO_emit 5 = .ok (.aload_n 0, 1) := by decide +kernel
theorem d_MO_emit_6 : decode b_MO_emit 6 = .ok (.getfield 233, 3) := by decide +kernel
theorem d_MO_emit_9 : decode b_MO_emit 9 = .ok (.bipush 40, 2) := by decide +kernel
theorem d_MO_emit_11 : decode b_MO_emit 11 = .ok (.if_icmp .ge 13, 3) := by decide +kernel
theorem d_MO_emit_14 : decode b_MO_emit 14 = .ok (.aload_n 0, 1) := by decide +kernel
theorem d_MO_emit_15 : decode b_MO_emit 15 = .ok (.getfield 64, 3) := by decide +kernel
theorem d_MO_emit_18 : decode b_MO_emit 18 = .ok (.aload_n 0, 1) := by decide +kernel
theorem d_MO_emit_19 : decode b_MO_emit 19 = .ok (.getfield 233, 3) := by decide +kernel
theorem d_MO_emit_22 : decode b_MO_emit 22 = .ok (.iload_n 1, 1) := by decide +kernel
theorem d_MO_emit_23 : decode b_MO_emit 23 = .ok (.iastore, 1) := by decide +kernel
theorem d_MO_emit_24 : decode b_MO_emit 24 = .ok (.aload_n 0, 1) := by decide +kernel
theorem d_MO_emit_25 : decode b_MO_emit 25 = .ok (.dup, 1) := by decide +kernel
theorem d_MO_emit_26 : decode b_MO_emit 26 = .ok (.getfield 233, 3) := by decide +kernel
theorem d_MO_emit_29 : decode b_MO_emit 29 = .ok (.iconst 1, 1) := by decide +kernel
theorem d_MO_emit_30 : decode b_MO_emit 30 = .ok (.iadd, 1) := by decide +kernel
theorem d_MO_emit_31 : decode b_MO_emit 31 = .ok (.putfield 233, 3) := by decide +kernel
theorem d_MO_emit_34 : decode b_MO_emit 34 = .ok (.aload_n 0, 1) := by decide +kernel
theorem d_MO_emit_35 : decode b_MO_emit 35 = .ok (.dup, 1) := by decide +kernel
theorem d_MO_emit_36 : decode b_MO_emit 36 = .ok (.getfield 213, 3) := by decide +kernel
theorem d_MO_emit_39 : decode b_MO_emit 39 = .ok (.iconst 1, 1) := by decide +kernel
theorem d_MO_emit_40 : decode b_MO_emit 40 = .ok (.iadd, 1) := by decide +kernel
theorem d_MO_emit_41 : decode b_MO_emit 41 = .ok (.putfield 213, 3) := by decide +kernel
theorem d_MO_emit_44 : decode b_MO_emit 44 = .ok (.return_, 1) := by decide +kernel
def f_MO_emit (tq : Nat) (em : Nat) (sk : Nat → Int32) (ke : Nat → Int32) : (Nat → Int32) := (if 40 ≤ em then ke else upd ke em (sk (tq - 1)))
set_option maxHeartbeats 1000000 in
set_option maxRecDepth 100000 in
theorem c_MO_emit (l : Launch) (D : va_G) (cI cZ : ClassId) (a q_op q_arg q_handler q_depth q_over q_flatOp q_flatArg q_flatHandler q_leader q_last q_height q_state q_begin q_drawn q_order q_starters q_emitted q_locals q_stack : Nat) (x_count x_handlers x_flatCount x_flatHandlers x_blockCount x_g x_ran x_ended x_result x_steps x_at : Int32) (tq em : Nat) (sk ke : Nat → Int32) (hq : 1 ≤ tq) (hq7 : tq ≤ 24) (hem : em < 2 ^ 31) : MG l y_MO_emit w_MO_emit (rmK 1 20) D classes (tyz cI cZ) E0 [.ref a] [(a, .inr (7, [.int x_count, .ref q_op, .ref q_arg, .int x_handlers, .ref q_handler, .ref q_depth, .ref q_over, .int x_flatCount, .ref q_flatOp, .ref q_flatArg, .int x_flatHandlers, .ref q_flatHandler, .int x_blockCount, .ref q_leader, .ref q_last, .ref q_height, .ref q_state, .ref q_begin, .ref q_drawn, .ref q_order, .int x_g, .ref q_starters, .int x_ran, .int x_ended, .int x_result, .int x_steps, .int (nI em), .ref q_emitted, .ref q_locals, .ref q_stack, .int (nI tq), .int x_at])), (q_stack, .inl (cI, 24, .inl sk)), (q_emitted, .inl (cI, 40, .inl ke))] (RV D classes (tyz cI cZ) [(a, .inr (7, [.int x_count, .ref q_op, .ref q_arg, .int x_handlers, .ref q_handler, .ref q_depth, .ref q_over, .int x_flatCount, .ref q_flatOp, .ref q_flatArg, .int x_flatHandlers, .ref q_flatHandler, .int x_blockCount, .ref q_leader, .ref q_last, .ref q_height, .ref q_state, .ref q_begin, .ref q_drawn, .ref q_order, .int x_g, .ref q_starters, .int x_ran, .int x_ended, .int x_result, .int x_steps, .int (nI (em + 1)), .ref q_emitted, .ref q_locals, .ref q_stack, .int (nI (tq - 1)), .int (x_at + 1)])), (q_stack, .inl (cI, 24, .inl sk)), (q_emitted, .inl (cI, 40, .inl (f_MO_emit tq em sk ke)))]) := by
  refine MG.of (cc := b_MO_emit) (maxL := 2) (ret := none) (own := "FlowFlattenerModel") rfl (by decide) rfl (Nat.le_of_ble_eq_true rfl) ?_
  intro p e s m below meth c A ls S hr hlocks hA hP hK hD hS hE hl
  have hx := S.1
  have hb := S.2.1
  have hl : lv_has ls 2 [(0, .ref a)] := hl
  refine lv_aload_n hx hb d_MO_emit_0 rfl (lv_at hl 0 rfl) ?_
  refine k_goi (ws' := [(a, .inr (7, [.int x_count, .ref q_op, .ref q_arg, .int x_handlers, .ref q_handler, .ref q_depth, .ref q_over, .int x_flatCount, .ref q_flatOp, .ref q_flatArg, .int x_flatHandlers, .ref q_flatHandler, .int x_blockCount, .ref q_leader, .ref q_last, .ref q_height, .ref q_state, .ref q_begin, .ref q_drawn, .ref q_order, .int x_g, .ref q_starters, .int x_ran, .int x_ended, .int x_result, .int x_steps, .int (nI em), .ref q_emitted, .ref q_locals, .ref q_stack, .int (nI (tq - 1)), .int x_at])), (q_stack, .inl (cI, 24, .inl sk)), (q_emitted, .inl (cI, 40, .inl ke))]) (wr := [(q_emitted, .inl (cI, 40, .inl ke))]) (k_runV (q0 := 0) (As := []) (rest := []) (n := 0) S (c_MO_pop l D cI cZ a q_op q_arg q_handler q_depth q_over q_flatOp q_flatArg q_flatHandler q_leader q_last q_height q_state q_begin q_drawn q_order q_starters q_emitted q_locals q_stack x_count x_handlers x_flatCount x_flatHandlers x_blockCount x_g x_ran x_ended x_result x_steps (nI em) x_at tq sk (by omega) (by omega)) E0_b E0_t ql_MO_219 qi_MO_pop qs_MO_pop qn_MO qc_MO_pop (by decide +kernel) rfl ⟨rfl, rfl⟩ ⟨Nat.le_of_ble_eq_true rfl, Nat.le_of_ble_eq_true rfl⟩ hK hP hD [0, 1] rfl (by decide) rfl rfl hl.1 rfl (Nat.le_of_ble_eq_true rfl) d_MO_emit_1 ⟨Nat.zero_le _, Nat.zero_le _⟩) hP hD hS hA [0, 1] [2] [1, 2, 0] rfl rfl (by decide) (by decide) rfl (by decide) (fun H locs hP hD hS => ?_)
  refine lv_istore_n (lv' := [(1, .int (sk (tq - 1))), (0, .ref a)]) hx hb d_MO_emit_4 rfl hl (by decide) rfl (fun ls hl => ?_)
  refine lv_aload_n hx hb d_MO_emit_5 rfl (lv_at hl 1 rfl) ?_
  refine k_get (v := .int (nI em)) S in_MO hK hP 0 rfl rfl 26 (by decide) ql_MO_233 rfl d_MO_emit_6 ?_
  refine lv_bipush (v := 40) hx hb d_MO_emit_9 (by decide) ?_
  refine n_icmp_ge (tgt := 24) (x := em) (y := 40) hx hb rfl (by decide) (by omega) (by omega) d_MO_emit_11 (by decide) (fun h11_1 => ?_) (fun h11_1 => ?_)
  · skip
    refine lv_aload_n hx hb d_MO_emit_24 rfl (lv_at hl 1 rfl) ?_
    refine lv_dup hx hb d_MO_emit_25 rfl ?_
    refine k_get (v := .int (nI em)) S in_MO hK hP 0 rfl rfl 26 (by decide) ql_MO_233 rfl d_MO_emit_26 ?_
    refine lv_iconst (v := 1) hx hb d_MO_emit_29 (by decide) ?_
    refine lv_iadd hx hb d_MO_emit_30 ?_
    refine k_top (y := nI (em + 1)) (nc_add rfl (by decide)) ?_
    refine k_put (v := .int (nI (em + 1))) (ws' := [(a, .inr (7, [.int x_count, .ref q_op, .ref q_arg, .int x_handlers, .ref q_handler, .ref q_depth, .ref q_over, .int x_flatCount, .ref q_flatOp, .ref q_flatArg, .int x_flatHandlers, .ref q_flatHandler, .int x_blockCount, .ref q_leader, .ref q_last, .ref q_height, .ref q_state, .ref q_begin, .ref q_drawn, .ref q_order, .int x_g, .ref q_starters, .int x_ran, .int x_ended, .int x_result, .int x_steps, .int (nI (em + 1)), .ref q_emitted, .ref q_locals, .ref q_stack, .int (nI (tq - 1)), .int x_at])), (q_stack, .inl (cI, 24, .inl sk)), (q_emitted, .inl (cI, 40, .inl ke))]) S in_MO ty_MO nm_MO hK hP hD hS 0 rfl rfl 26 (by decide) ql_MO_233 rfl rfl rfl rfl (Nat.le_of_ble_eq_true rfl) rfl d_MO_emit_31 (fun H locs hP hD hS => ?_)
    refine lv_aload_n hx hb d_MO_emit_34 rfl (lv_at hl 1 rfl) ?_
    refine lv_dup hx hb d_MO_emit_35 rfl ?_
    refine k_get (v := .int x_at) S in_MO hK hP 0 rfl rfl 31 (by decide) ql_MO_213 rfl d_MO_emit_36 ?_
    refine lv_iconst (v := 1) hx hb d_MO_emit_39 (by decide) ?_
    refine lv_iadd hx hb d_MO_emit_40 ?_
    refine k_put (v := .int (x_at + 1)) (ws' := [(a, .inr (7, [.int x_count, .ref q_op, .ref q_arg, .int x_handlers, .ref q_handler, .ref q_depth, .ref q_over, .int x_flatCount, .ref q_flatOp, .ref q_flatArg, .int x_flatHandlers, .ref q_flatHandler, .int x_blockCount, .ref q_leader, .ref q_last, .ref q_height, .ref q_state, .ref q_begin, .ref q_drawn, .ref q_order, .int x_g, .ref q_starters, .int x_ran, .int x_ended, .int x_result, .int x_steps, .int (nI (em + 1)), .ref q_emitted, .ref q_locals, .ref q_stack, .int (nI (tq - 1)), .int (x_at + 1)])), (q_stack, .inl (cI, 24, .inl sk)), (q_emitted, .inl (cI, 40, .inl ke))]) S in_MO ty_MO nm_MO hK hP hD hS 0 rfl rfl 31 (by decide) ql_MO_213 rfl rfl rfl rfl (Nat.le_of_ble_eq_true rfl) rfl d_MO_emit_41 (fun H locs hP hD hS => ?_)
    exact k_vret hx hb hr hlocks hK hP hD hS (by rw [f_MO_emit, if_pos h11_1]) d_MO_emit_44
  · skip
    refine lv_aload_n hx hb d_MO_emit_14 rfl (lv_at hl 1 rfl) ?_
    refine k_get (v := .ref q_emitted) S in_MO hK hP 0 rfl rfl 27 (by decide) ql_MO_64 rfl d_MO_emit_15 ?_
    refine lv_aload_n hx hb d_MO_emit_18 rfl (lv_at hl 1 rfl) ?_
    refine k_get (v := .int (nI em)) S in_MO hK hP 0 rfl rfl 26 (by decide) ql_MO_233 rfl d_MO_emit_19 ?_
    refine lv_iload_n hx hb d_MO_emit_22 rfl (lv_at hl 0 rfl) ?_
    refine k_st (k := em) (x := sk (tq - 1)) (ws' := [(a, .inr (7, [.int x_count, .ref q_op, .ref q_arg, .int x_handlers, .ref q_handler, .ref q_depth, .ref q_over, .int x_flatCount, .ref q_flatOp, .ref q_flatArg, .int x_flatHandlers, .ref q_flatHandler, .int x_blockCount, .ref q_leader, .ref q_last, .ref q_height, .ref q_state, .ref q_begin, .ref q_drawn, .ref q_order, .int x_g, .ref q_starters, .int x_ran, .int x_ended, .int x_result, .int x_steps, .int (nI em), .ref q_emitted, .ref q_locals, .ref q_stack, .int (nI (tq - 1)), .int x_at])), (q_stack, .inl (cI, 24, .inl sk)), (q_emitted, .inl (cI, 40, .inl (upd ke em (sk (tq - 1)))))]) hx hb hK hP hD hS 2 0 rfl rfl rfl (by omega) (by decide) rfl d_MO_emit_23 (fun H locs hP hD hS => ?_)
    refine lv_aload_n hx hb d_MO_emit_24 rfl (lv_at hl 1 rfl) ?_
    refine lv_dup hx hb d_MO_emit_25 rfl ?_
    refine k_get (v := .int (nI em)) S in_MO hK hP 0 rfl rfl 26 (by decide) ql_MO_233 rfl d_MO_emit_26 ?_
    refine lv_iconst (v := 1) hx hb d_MO_emit_29 (by decide) ?_
    refine lv_iadd hx hb d_MO_emit_30 ?_
    refine k_top (y := nI (em + 1)) (nc_add rfl (by decide)) ?_
    refine k_put (v := .int (nI (em + 1))) (ws' := [(a, .inr (7, [.int x_count, .ref q_op, .ref q_arg, .int x_handlers, .ref q_handler, .ref q_depth, .ref q_over, .int x_flatCount, .ref q_flatOp, .ref q_flatArg, .int x_flatHandlers, .ref q_flatHandler, .int x_blockCount, .ref q_leader, .ref q_last, .ref q_height, .ref q_state, .ref q_begin, .ref q_drawn, .ref q_order, .int x_g, .ref q_starters, .int x_ran, .int x_ended, .int x_result, .int x_steps, .int (nI (em + 1)), .ref q_emitted, .ref q_locals, .ref q_stack, .int (nI (tq - 1)), .int x_at])), (q_stack, .inl (cI, 24, .inl sk)), (q_emitted, .inl (cI, 40, .inl (upd ke em (sk (tq - 1)))))]) S in_MO ty_MO nm_MO hK hP hD hS 0 rfl rfl 26 (by decide) ql_MO_233 rfl rfl rfl rfl (Nat.le_of_ble_eq_true rfl) rfl d_MO_emit_31 (fun H locs hP hD hS => ?_)
    refine lv_aload_n hx hb d_MO_emit_34 rfl (lv_at hl 1 rfl) ?_
    refine lv_dup hx hb d_MO_emit_35 rfl ?_
    refine k_get (v := .int x_at) S in_MO hK hP 0 rfl rfl 31 (by decide) ql_MO_213 rfl d_MO_emit_36 ?_
    refine lv_iconst (v := 1) hx hb d_MO_emit_39 (by decide) ?_
    refine lv_iadd hx hb d_MO_emit_40 ?_
    refine k_put (v := .int (x_at + 1)) (ws' := [(a, .inr (7, [.int x_count, .ref q_op, .ref q_arg, .int x_handlers, .ref q_handler, .ref q_depth, .ref q_over, .int x_flatCount, .ref q_flatOp, .ref q_flatArg, .int x_flatHandlers, .ref q_flatHandler, .int x_blockCount, .ref q_leader, .ref q_last, .ref q_height, .ref q_state, .ref q_begin, .ref q_drawn, .ref q_order, .int x_g, .ref q_starters, .int x_ran, .int x_ended, .int x_result, .int x_steps, .int (nI (em + 1)), .ref q_emitted, .ref q_locals, .ref q_stack, .int (nI (tq - 1)), .int (x_at + 1)])), (q_stack, .inl (cI, 24, .inl sk)), (q_emitted, .inl (cI, 40, .inl (upd ke em (sk (tq - 1)))))]) S in_MO ty_MO nm_MO hK hP hD hS 0 rfl rfl 31 (by decide) ql_MO_213 rfl rfl rfl rfl (Nat.le_of_ble_eq_true rfl) rfl d_MO_emit_41 (fun H locs hP hD hS => ?_)
    exact k_vret hx hb hr hlocks hK hP hD hS (by rw [f_MO_emit, if_neg (show ¬ (40 ≤ em) by omega)]) d_MO_emit_44

theorem d_MO_move_0 : decode b_MO_move 0 = .ok (.iload_n 1, 1) := by decide +kernel
theorem d_MO_move_1 : decode b_MO_move 1 = .ok (.tableswitch 123 0 11 #[63, 71, 84, 123, 123, 123, 123, 123, 123, 97, 123, 115], 63) := by decide +kernel
theorem d_MO_move_64 : decode b_MO_move 64 = .ok (.aload_n 0, 1) := by decide +kernel
theorem d_MO_move_65 : decode b_MO_move 65 = .ok (.iload_n 2, 1) := by decide +kernel
theorem d_MO_move_66 : decode b_MO_move 66 = .ok (.invokevirtual 230, 3) := by decide +kernel
theorem d_MO_move_69 : decode b_MO_move 69 = .ok (.goto 77, 3) := by decide +kernel
theorem d_MO_move_72 : decode b_MO_move 72 = .ok (.aload_n 0, 1) := by decide +kernel
theorem d_MO_move_73 : decode b_MO_move 73 = .ok (.aload_n 0, 1) := by decide +kernel
theorem d_MO_move_74 : decode b_MO_move 74 = .ok (.getfield 67, 3) := by decide +kernel
theorem d_MO_move_77 : decode b_MO_move 77 = .ok (.iload_n 2, 1) := by decide +kernel
theorem d_MO_move_78 : decode b_MO_move 78 = .ok (.iaload, 1) := by decide +kernel
theorem d_MO_move_79 : decode b_MO_move 79 = .ok (.invokevirtual 230, 3) := by decide +kernel
theorem d_MO_move_82 : decode b_MO_move 82 = .ok (.goto 64, 3) := by decide +kernel
theorem d_MO_move_85 : decode b_MO_move 85 = .ok (.aload_n 0, 1) := by decide +kernel
theorem d_MO_move_86 : decode b_MO_move 86 = .ok (.getfield 67, 3) := by decide +kernel
theorem d_MO_move_89 : decode b_MO_move 89 = .ok (.iload_n 2, 1) := by decide +kernel
theorem d_MO_move_90 : decode b_MO_move 90 = .ok (.aload_n 0, 1) := by decide +kernel
theorem d_MO_move_91 : decode b_MO_move 91 = .ok (.invokevirtual 219, 3) := by decide +kernel
theorem d_MO_move_94 : decode b_MO_move 94 = .ok (.iastore, 1) := by decide +kernel
theorem d_MO_move_95 : decode b_MO_move 95 = .ok (.goto 51, 3) := by decide +kernel
theorem d_MO_move_98 : decode b_MO_move 98 = .ok (.aload_n 0, 1) := by decide +kernel
theorem d_MO_move_99 : decode b_MO_move 99 = .ok (.aload_n 0, 1) := by decide +kernel
theorem d_MO_move_100 : decode b_MO_move 100 = .ok (.getfield 70, 3) := by decide +kernel
theorem d_MO_move_103 : decode b_MO_move 103 = .ok (.aload_n 0, 1) := by decide +kernel
theorem d_MO_move_104 : decode b_MO_move 104 = .ok (.getfield 206, 3) := by decide +kernel
theorem d_MO_move_107 : decode b_MO_move 107 = .ok (.iconst 1, 1) := by decide +kernel
theorem d_MO_move_108 : decode b_MO_move 108 = .ok (.isub, 1) := by decide +kernel
theorem d_MO_move_109 : decode b_MO_move 109 = .ok (.iaload, 1) := by decide +kernel
theorem d_MO_move_110 : decode b_MO_move 110 = .ok (.invokevirtual 230, 3) := by decide +kernel
theorem d_MO_move_113 : decode b_MO_move 113 = .ok (.goto 33, 3) := by decide +kernel
theorem d_MO_move_116 : decode b_MO_move 116 = .ok (.aload_n 0, 1) := by decide +kernel
theorem d_MO_move_117 : decode b_MO_move 117 = .ok (.invokevirtual 219, 3) := by decide +kernel
theorem d_MO_move_120 : decode b_MO_move 120 = .ok (.pop, 1) := by decide +kernel
theorem d_MO_move_121 : decode b_MO_move 121 = .ok (.goto 25, 3) := by decide +kernel
theorem d_MO_move_124 : decode b_MO_move 124 = .ok (.aload_n 0, 1) := by decide +kernel
theorem d_MO_move_125 : decode b_MO_move 125 = .ok (.invokevirtual 219, 3) := by decide +kernel
theorem d_MO_move_128 : decode b_MO_move 128 = .ok (.istore_n 3, 1) := by decide +kernel
theorem d_MO_move_129 : decode b_MO_move 129 = .ok (.aload_n 0, 1) := by decide +kernel
theorem d_MO_move_130 : decode b_MO_move 130 = .ok (.invokevirtual 219, 3) := by decide +kernel
theorem d_MO_move_133 : decode b_MO_move 133 = .ok (.istore 4, 2) := by decide +kernel
theorem d_MO_move_135 : decode b_MO_move 135 = .ok (.aload_n 0, 1) := by decide +kernel
theorem d_MO_move_136 : decode b_MO_move 136 = .ok (.iload_n 3, 1) := by decide +kernel
theorem d_MO_move_137 : decode b_MO_move 137 = .ok (.invokevirtual 230, 3) := by decide +kernel
theorem d_MO_move_140 : decode b_MO_move 140 = .ok (.aload_n 0, 1) := by decide +kernel
theorem d_MO_move_141 : decode b_MO_move 141 = .ok (.iload 4, 2) := by decide +kernel
theorem d_MO_move_143 : decode b_MO_move 143 = .ok (.invokevirtual 230, 3) := by decide +kernel
theorem d_MO_move_146 : decode b_MO_move 146 = .ok (.aload_n 0, 1) := by decide +kernel
theorem d_MO_move_147 : decode b_MO_move 147 = .ok (.dup, 1) := by decide +kernel
theorem d_MO_move_148 : decode b_MO_move 148 = .ok (.getfield 213, 3) := by decide +kernel
theorem d_MO_move_151 : decode b_MO_move 151 = .ok (.iconst 1, 1) := by decide +kernel
theorem d_MO_move_152 : decode b_MO_move 152 = .ok (.iadd, 1) := by decide +kernel
theorem d_MO_move_153 : decode b_MO_move 153 = .ok (.putfield 213, 3) := by decide +kernel
theorem d_MO_move_156 : decode b_MO_move 156 = .ok (.return_, 1) := by decide +kernel
def f_MO_move (tq : Nat) (lo : Nat → Int32) (sk : Nat → Int32) (o : Int32) (b : Int32) : (Nat → Int32) × (Nat → Int32) × Nat := (if o = 0 then (lo, upd sk tq b, tq + 1) else (if o = 1 then (lo, upd sk tq (lo (tn b)), tq + 1) else (if o = 2 then (upd lo (tn b) (sk (tq - 1)), sk, tq - 1) else (if o = 9 then (lo, upd sk tq (sk (tq - 1)), tq + 1) else (if o = 11 then (lo, sk, tq - 1) else (if o = 3 then (lo, upd (upd sk ((tq - 1) - 1) (sk (tq - 1))) (((tq - 1) - 1) + 1) (sk ((tq - 1) - 1)), (((tq - 1) - 1) + 1) + 1) else (if o = 4 then (lo, upd (upd sk ((tq - 1) - 1) (sk (tq - 1))) (((tq - 1) - 1) + 1) (sk ((tq - 1) - 1)), (((tq - 1) - 1) + 1) + 1) else (if o = 5 then (lo, upd (upd sk ((tq - 1) - 1) (sk (tq - 1))) (((tq - 1) - 1) + 1) (sk ((tq - 1) - 1)), (((tq - 1) - 1) + 1) + 1) else (if o = 6 then (lo, upd (upd sk ((tq - 1) - 1) (sk (tq - 1))) (((tq - 1) - 1) + 1) (sk ((tq - 1) - 1)), (((tq - 1) - 1) + 1) + 1) else (if o = 7 then (lo, upd (upd sk ((tq - 1) - 1) (sk (tq - 1))) (((tq - 1) - 1) + 1) (sk ((tq - 1) - 1)), (((tq - 1) - 1) + 1) + 1) else (if o = 8 then (lo, upd (upd sk ((tq - 1) - 1) (sk (tq - 1))) (((tq - 1) - 1) + 1) (sk ((tq - 1) - 1)), (((tq - 1) - 1) + 1) + 1) else (if o = 10 then (lo, upd (upd sk ((tq - 1) - 1) (sk (tq - 1))) (((tq - 1) - 1) + 1) (sk ((tq - 1) - 1)), (((tq - 1) - 1) + 1) + 1) else (lo, upd (upd sk ((tq - 1) - 1) (sk (tq - 1))) (((tq - 1) - 1) + 1) (sk ((tq - 1) - 1)), (((tq - 1) - 1) + 1) + 1)))))))))))))
set_option maxHeartbeats 1000000 in
set_option maxRecDepth 100000 in
theorem c_MO_move (l : Launch) (D : va_G) (cI cZ : ClassId) (a q_op q_arg q_handler q_depth q_over q_flatOp q_flatArg q_flatHandler q_leader q_last q_height q_state q_begin q_drawn q_order q_starters q_emitted q_locals q_stack : Nat) (x_count x_handlers x_flatCount x_flatHandlers x_blockCount x_g x_ran x_ended x_result x_steps x_emits x_at : Int32) (tq : Nat) (lo sk : Nat → Int32) (o b : Int32) (hq7 : tq ≤ 24) (q0 : o = 0 → tq < 24) (q1 : o = 1 → tq < 24 ∧ b = nI (tn (b)) ∧ tn (b) < 9) (q2 : o = 2 → 1 ≤ tq ∧ b = nI (tn (b)) ∧ tn (b) < 9) (q9 : o = 9 → 1 ≤ tq ∧ tq < 24) (q11 : o = 11 → 1 ≤ tq) (qd : ¬ o = 0 → ¬ o = 1 → ¬ o = 2 → ¬ o = 9 → ¬ o = 11 → 2 ≤ tq) : MG l y_MO_move w_MO_move (rmK 1 21) D classes (tyz cI cZ) E0 [.ref a, .int o, .int b] [(a, .inr (7, [.int x_count, .ref q_op, .ref q_arg, .int x_handlers, .ref q_handler, .ref q_depth, .ref q_over, .int x_flatCount, .ref q_flatOp, .ref q_flatArg, .int x_flatHandlers, .ref q_flatHandler, .int x_blockCount, .ref q_leader, .ref q_last, .ref q_height, .ref q_state, .ref q_begin, .ref q_drawn, .ref q_order, .int x_g, .ref q_starters, .int x_ran, .int x_ended, .int x_result, .int x_steps, .int x_emits, .ref q_emitted, .ref q_locals, .ref q_stack, .int (nI tq), .int x_at])), (q_locals, .inl (cI, 9, .inl lo)), (q_stack, .inl (cI, 24, .inl sk))] (RV D classes (tyz cI cZ) [(a, .inr (7, [.int x_count, .ref q_op, .ref q_arg, .int x_handlers, .ref q_handler, .ref q_depth, .ref q_over, .int x_flatCount, .ref q_flatOp, .ref q_flatArg, .int x_flatHandlers, .ref q_flatHandler, .int x_blockCount, .ref q_leader, .ref q_last, .ref q_height, .ref q_state, .ref q_begin, .ref q_drawn, .ref q_order, .int x_g, .ref q_starters, .int x_ran, .int x_ended, .int x_result, .int x_steps, .int x_emits, .ref q_emitted, .ref q_locals, .ref q_stack, .int (nI ((f_MO_move tq lo sk o b).2.2)), .int (x_at + 1)])), (q_locals, .inl (cI, 9, .inl ((f_MO_move tq lo sk o b).1))), (q_stack, .inl (cI, 24, .inl ((f_MO_move tq lo sk o b).2.1)))]) := by
  refine MG.of (cc := b_MO_move) (maxL := 5) (ret := none) (own := "FlowFlattenerModel") rfl (by decide) rfl (Nat.le_of_ble_eq_true rfl) ?_
  intro p e s m below meth c A ls S hr hlocks hA hP hK hD hS hE hl
  have hx := S.1
  have hb := S.2.1
  have hl : lv_has ls 5 [(0, .ref a), (1, .int o), (2, .int b)] := hl
  refine lv_iload_n hx hb d_MO_move_0 rfl (lv_at hl 1 rfl) ?_
  by_cases h1_1 : o = 0
  · skip
    refine k_top h1_1 ?_
    refine lv_tableIn (tgt := 64) hx hb d_MO_move_1 (by decide) (by decide) rfl (by decide) ?_
    refine lv_aload_n hx hb d_MO_move_64 rfl (lv_at hl 0 rfl) ?_
    refine lv_iload_n hx hb d_MO_move_65 rfl (lv_at hl 2 rfl) ?_
    refine k_gov (ws' := [(a, .inr (7, [.int x_count, .ref q_op, .ref q_arg, .int x_handlers, .ref q_handler, .ref q_depth, .ref q_over, .int x_flatCount, .ref q_flatOp, .ref q_flatArg, .int x_flatHandlers, .ref q_flatHandler, .int x_blockCount, .ref q_leader, .ref q_last, .ref q_height, .ref q_state, .ref q_begin, .ref q_drawn, .ref q_order, .int x_g, .ref q_starters, .int x_ran, .int x_ended, .int x_result, .int x_steps, .int x_emits, .ref q_emitted, .ref q_locals, .ref q_stack, .int (nI (tq + 1)), .int x_at])), (q_locals, .inl (cI, 9, .inl lo)), (q_stack, .inl (cI, 24, .inl (upd sk tq b)))]) (wr := [(q_locals, .inl (cI, 9, .inl lo))]) (k_runV (q0 := 0) (As := [.int b]) (rest := []) (n := 1) S (c_MO_push l D cI cZ a q_op q_arg q_handler q_depth q_over q_flatOp q_flatArg q_flatHandler q_leader q_last q_height q_state q_begin q_drawn q_order q_starters q_emitted q_locals q_stack x_count x_handlers x_flatCount x_flatHandlers x_blockCount x_g x_ran x_ended x_result x_steps x_emits x_at tq sk b (q0 (by assumption))) E0_b E0_t ql_MO_230 qi_MO_push qs_MO_push qn_MO qc_MO_push (by decide +kernel) rfl ⟨rfl, rfl⟩ ⟨Nat.le_of_ble_eq_true rfl, Nat.le_of_ble_eq_true rfl⟩ hK hP hD [0, 2] rfl (by decide) rfl rfl hl.1 rfl (Nat.le_of_ble_eq_true rfl) d_MO_move_66 ⟨Nat.zero_le _, Nat.zero_le _⟩) hP hD hS hA [0, 2] [1] [1, 0, 2] rfl rfl (by decide) (by decide) rfl (by decide) (fun H locs hP hD hS => ?_)
    refine lv_goto (tgt := 146) hx hb d_MO_move_69 (by decide) ?_
    refine lv_aload_n hx hb d_MO_move_146 rfl (lv_at hl 0 rfl) ?_
    refine lv_dup hx hb d_MO_move_147 rfl ?_
    refine k_get (v := .int x_at) S in_MO hK hP 0 rfl rfl 31 (by decide) ql_MO_213 rfl d_MO_move_148 ?_
    refine lv_iconst (v := 1) hx hb d_MO_move_151 (by decide) ?_
    refine lv_iadd hx hb d_MO_move_152 ?_
    refine k_put (v := .int (x_at + 1)) (ws' := [(a, .inr (7, [.int x_count, .ref q_op, .ref q_arg, .int x_handlers, .ref q_handler, .ref q_depth, .ref q_over, .int x_flatCount, .ref q_flatOp, .ref q_flatArg, .int x_flatHandlers, .ref q_flatHandler, .int x_blockCount, .ref q_leader, .ref q_last, .ref q_height, .ref q_state, .ref q_begin, .ref q_drawn, .ref q_order, .int x_g, .ref q_starters, .int x_ran, .int x_ended, .int x_result, .int x_steps, .int x_emits, .ref q_emitted, .ref q_locals, .ref q_stack, .int (nI (tq + 1)), .int (x_at + 1)])), (q_locals, .inl (cI, 9, .inl lo)), (q_stack, .inl (cI, 24, .inl (upd sk tq b)))]) S in_MO ty_MO nm_MO hK hP hD hS 0 rfl rfl 31 (by decide) ql_MO_213 rfl rfl rfl rfl (Nat.le_of_ble_eq_true rfl) rfl d_MO_move_153 (fun H locs hP hD hS => ?_)
    exact k_vret hx hb hr hlocks hK hP hD hS (by rw [f_MO_move, if_pos h1_1]) d_MO_move_156
  by_cases h1_2 : o = 1
  · skip
    refine k_top h1_2 ?_
    refine lv_tableIn (tgt := 72) hx hb d_MO_move_1 (by decide) (by decide) rfl (by decide) ?_
    refine lv_aload_n hx hb d_MO_move_72 rfl (lv_at hl 0 rfl) ?_
    refine lv_aload_n hx hb d_MO_move_73 rfl (lv_at hl 0 rfl) ?_
    refine k_get (v := .ref q_locals) S in_MO hK hP 0 rfl rfl 28 (by decide) ql_MO_67 rfl d_MO_move_74 ?_
    refine lv_iload_n hx hb d_MO_move_77 rfl (lv_at hl 2 rfl) ?_
    refine k_top (y := nI (tn b)) (q1 (by assumption)).2.1 ?_
    refine k_ld (k := tn b) hx hb hK hP 1 0 rfl rfl rfl (q1 (by assumption)).2.2 (by decide) d_MO_move_78 ?_
    refine k_gov (ws' := [(a, .inr (7, [.int x_count, .ref q_op, .ref q_arg, .int x_handlers, .ref q_handler, .ref q_depth, .ref q_over, .int x_flatCount, .ref q_flatOp, .ref q_flatArg, .int x_flatHandlers, .ref q_flatHandler, .int x_blockCount, .ref q_leader, .ref q_last, .ref q_height, .ref q_state, .ref q_begin, .ref q_drawn, .ref q_order, .int x_g, .ref q_starters, .int x_ran, .int x_ended, .int x_result, .int x_steps, .int x_emits, .ref q_emitted, .ref q_locals, .ref q_stack, .int (nI (tq + 1)), .int x_at])), (q_locals, .inl (cI, 9, .inl lo)), (q_stack, .inl (cI, 24, .inl (upd sk tq (lo (tn b)))))]) (wr := [(q_locals, .inl (cI, 9, .inl lo))]) (k_runV (q0 := 0) (As := [.int (lo (tn b))]) (rest := []) (n := 1) S (c_MO_push l D cI cZ a q_op q_arg q_handler q_depth q_over q_flatOp q_flatArg q_flatHandler q_leader q_last q_height q_state q_begin q_drawn q_order q_starters q_emitted q_locals q_stack x_count x_handlers x_flatCount x_flatHandlers x_blockCount x_g x_ran x_ended x_result x_steps x_emits x_at tq sk (lo (tn b)) (q1 (by assumption)).1) E0_b E0_t ql_MO_230 qi_MO_push qs_MO_push qn_MO qc_MO_push (by decide +kernel) rfl ⟨rfl, rfl⟩ ⟨Nat.le_of_ble_eq_true rfl, Nat.le_of_ble_eq_true rfl⟩ hK hP hD [0, 2] rfl (by decide) rfl rfl hl.1 rfl (Nat.le_of_ble_eq_true rfl) d_MO_move_79 ⟨Nat.zero_le _, Nat.zero_le _⟩) hP hD hS hA [0, 2] [1] [1, 0, 2] rfl rfl (by decide) (by decide) rfl (by decide) (fun H locs hP hD hS => ?_)
    refine lv_goto (tgt := 146) hx hb d_MO_move_82 (by decide) ?_
    refine lv_aload_n hx hb d_MO_move_146 rfl (lv_at hl 0 rfl) ?_
    refine lv_dup hx hb d_MO_move_147 rfl ?_
    refine k_get (v := .int x_at) S in_MO hK hP 0 rfl rfl 31 (by decide) ql_MO_213 rfl d_MO_move_148 ?_
    refine lv_iconst (v := 1) hx hb d_MO_move_151 (by decide) ?_
    refine lv_iadd hx hb d_MO_move_152 ?_
    refine k_put (v := .int (x_at + 1)) (ws' := [(a, .inr (7, [.int x_count, .ref q_op, .ref q_arg, .int x_handlers, .ref q_handler, .ref q_depth, .ref q_over, .int x_flatCount, .ref q_flatOp, .ref q_flatArg, .int x_flatHandlers, .ref q_flatHandler, .int x_blockCount, .ref q_leader, .ref q_last, .ref q_height, .ref q_state, .ref q_begin, .ref q_drawn, .ref q_order, .int x_g, .ref q_starters, .int x_ran, .int x_ended, .int x_result, .int x_steps, .int x_emits, .ref q_emitted, .ref q_locals, .ref q_stack, .int (nI (tq + 1)), .int (x_at + 1)])), (q_locals, .inl (cI, 9, .inl lo)), (q_stack, .inl (cI, 24, .inl (upd sk tq (lo (tn b)))))]) S in_MO ty_MO nm_MO hK hP hD hS 0 rfl rfl 31 (by decide) ql_MO_213 rfl rfl rfl rfl (Nat.le_of_ble_eq_true rfl) rfl d_MO_move_153 (fun H locs hP hD hS => ?_)
    exact k_vret hx hb hr hlocks hK hP hD hS (by rw [f_MO_move, if_neg h1_1, if_pos h1_2]) d_MO_move_156
  by_cases h1_3 : o = 2
  · skip
    refine k_top h1_3 ?_
    refine lv_tableIn (tgt := 85) hx hb d_MO_move_1 (by decide) (by decide) rfl (by decide) ?_
    refine lv_aload_n hx hb d_MO_move_85 rfl (lv_at hl 0 rfl) ?_
    refine k_get (v := .ref q_locals) S in_MO hK hP 0 rfl rfl 28 (by decide) ql_MO_67 rfl d_MO_move_86 ?_
    refine lv_iload_n hx hb d_MO_move_89 rfl (lv_at hl 2 rfl) ?_
    refine k_top (y := nI (tn b)) (q2 (by assumption)).2.1 ?_
    refine lv_aload_n hx hb d_MO_move_90 rfl (lv_at hl 0 rfl) ?_
    refine k_goi (ws' := [(a, .inr (7, [.int x_count, .ref q_op, .ref q_arg, .int x_handlers, .ref q_handler, .ref q_depth, .ref q_over, .int x_flatCount, .ref q_flatOp, .ref q_flatArg, .int x_flatHandlers, .ref q_flatHandler, .int x_blockCount, .ref q_leader, .ref q_last, .ref q_height, .ref q_state, .ref q_begin, .ref q_drawn, .ref q_order, .int x_g, .ref q_starters, .int x_ran, .int x_ended, .int x_result, .int x_steps, .int x_emits, .ref q_emitted, .ref q_locals, .ref q_stack, .int (nI (tq - 1)), .int x_at])), (q_locals, .inl (cI, 9, .inl lo)), (q_stack, .inl (cI, 24, .inl sk))]) (wr := [(q_locals, .inl (cI, 9, .inl lo))]) (k_runV (q0 := 0) (As := []) (rest := [.int (nI (tn b)), .ref q_locals]) (n := 0) S (c_MO_pop l D cI cZ a q_op q_arg q_handler q_depth q_over q_flatOp q_flatArg q_flatHandler q_leader q_last q_height q_state q_begin q_drawn q_order q_starters q_emitted q_locals q_stack x_count x_handlers x_flatCount x_flatHandlers x_blockCount x_g x_ran x_ended x_result x_steps x_emits x_at tq sk (q2 (by assumption)).1 (by omega)) E0_b E0_t ql_MO_219 qi_MO_pop qs_MO_pop qn_MO qc_MO_pop (by decide +kernel) rfl ⟨rfl, rfl⟩ ⟨Nat.le_of_ble_eq_true rfl, Nat.le_of_ble_eq_true rfl⟩ hK hP hD [0, 2] rfl (by decide) rfl rfl hl.1 rfl (Nat.le_of_ble_eq_true rfl) d_MO_move_91 ⟨Nat.zero_le _, Nat.zero_le _⟩) hP hD hS hA [0, 2] [1] [1, 0, 2] rfl rfl (by decide) (by decide) rfl (by decide) (fun H locs hP hD hS => ?_)
    refine k_st (k := tn b) (x := sk (tq - 1)) (ws' := [(a, .inr (7, [.int x_count, .ref q_op, .ref q_arg, .int x_handlers, .ref q_handler, .ref q_depth, .ref q_over, .int x_flatCount, .ref q_flatOp, .ref q_flatArg, .int x_flatHandlers, .ref q_flatHandler, .int x_blockCount, .ref q_leader, .ref q_last, .ref q_height, .ref q_state, .ref q_begin, .ref q_drawn, .ref q_order, .int x_g, .ref q_starters, .int x_ran, .int x_ended, .int x_result, .int x_steps, .int x_emits, .ref q_emitted, .ref q_locals, .ref q_stack, .int (nI (tq - 1)), .int x_at])), (q_locals, .inl (cI, 9, .inl (upd lo (tn b) (sk (tq - 1))))), (q_stack, .inl (cI, 24, .inl sk))]) hx hb hK hP hD hS 1 0 rfl rfl rfl (q2 (by assumption)).2.2 (by decide) rfl d_MO_move_94 (fun H locs hP hD hS => ?_)
    refine lv_goto (tgt := 146) hx hb d_MO_move_95 (by decide) ?_
    refine lv_aload_n hx hb d_MO_move_146 rfl (lv_at hl 0 rfl) ?_
    refine lv_dup hx hb d_MO_move_147 rfl ?_
    refine k_get (v := .int x_at) S in_MO hK hP 0 rfl rfl 31 (by decide) ql_MO_213 rfl d_MO_move_148 ?_
    refine lv_iconst (v := 1) hx hb d_MO_move_151 (by decide) ?_
    refine lv_iadd hx hb d_MO_move_152 ?_
    refine k_put (v := .int (x_at + 1)) (ws' := [(a, .inr (7, [.int x_count, .ref q_op, .ref q_arg, .int x_handlers, .ref q_handler, .ref q_depth, .ref q_over, .int x_flatCount, .ref q_flatOp, .ref q_flatArg, .int x_flatHandlers, .ref q_flatHandler, .int x_blockCount, .ref q_leader, .ref q_last, .ref q_height, .ref q_state, .ref q_begin, .ref q_drawn, .ref q_order, .int x_g, .ref q_starters, .int x_ran, .int x_ended, .int x_result, .int x_steps, .int x_emits, .ref q_emitted, .ref q_locals, .ref q_stack, .int (nI (tq - 1)), .int (x_at + 1)])), (q_locals, .inl (cI, 9, .inl (upd lo (tn b) (sk (tq - 1))))), (q_stack, .inl (cI, 24, .inl sk))]) S in_MO ty_MO nm_MO hK hP hD hS 0 rfl rfl 31 (by decide) ql_MO_213 rfl rfl rfl rfl (Nat.le_of_ble_eq_true rfl) rfl d_MO_move_153 (fun H locs hP hD hS => ?_)
    exact k_vret hx hb hr hlocks hK hP hD hS (by rw [f_MO_move, if_neg h1_1, if_neg h1_2, if_pos h1_3]) d_MO_move_156
  by_cases h1_4 : o = 9
  · skip
    refine k_top h1_4 ?_
    refine lv_tableIn (tgt := 98) hx hb d_MO_move_1 (by decide) (by decide) rfl (by decide) ?_
    refine lv_aload_n hx hb d_MO_move_98 rfl (lv_at hl 0 rfl) ?_
    refine lv_aload_n hx hb d_MO_move_99 rfl (lv_at hl 0 rfl) ?_
    refine k_get (v := .ref q_stack) S in_MO hK hP 0 rfl rfl 29 (by decide) ql_MO_70 rfl d_MO_move_100 ?_
    refine lv_aload_n hx hb d_MO_move_103 rfl (lv_at hl 0 rfl) ?_
    refine k_get (v := .int (nI tq)) S in_MO hK hP 0 rfl rfl 30 (by decide) ql_MO_206 rfl d_MO_move_104 ?_
    refine lv_iconst (v := 1) hx hb d_MO_move_107 (by decide) ?_
    refine lv_isub hx hb d_MO_move_108 ?_
    refine k_top (y := nI (tq - 1)) (nc_sub rfl (by decide) (q9 (by assumption)).1) ?_
    refine k_ld (k := tq - 1) hx hb hK hP 2 0 rfl rfl rfl (by have := q9 (by assumption); omega) (by decide) d_MO_move_109 ?_
    refine k_gov (ws' := [(a, .inr (7, [.int x_count, .ref q_op, .ref q_arg, .int x_handlers, .ref q_handler, .ref q_depth, .ref q_over, .int x_flatCount, .ref q_flatOp, .ref q_flatArg, .int x_flatHandlers, .ref q_flatHandler, .int x_blockCount, .ref q_leader, .ref q_last, .ref q_height, .ref q_state, .ref q_begin, .ref q_drawn, .ref q_order, .int x_g, .ref q_starters, .int x_ran, .int x_ended, .int x_result, .int x_steps, .int x_emits, .ref q_emitted, .ref q_locals, .ref q_stack, .int (nI (tq + 1)), .int x_at])), (q_locals, .inl (cI, 9, .inl lo)), (q_stack, .inl (cI, 24, .inl (upd sk tq (sk (tq - 1)))))]) (wr := [(q_locals, .inl (cI, 9, .inl lo))]) (k_runV (q0 := 0) (As := [.int (sk (tq - 1))]) (rest := []) (n := 1) S (c_MO_push l D cI cZ a q_op q_arg q_handler q_depth q_over q_flatOp q_flatArg q_flatHandler q_leader q_last q_height q_state q_begin q_drawn q_order q_starters q_emitted q_locals q_stack x_count x_handlers x_flatCount x_flatHandlers x_blockCount x_g x_ran x_ended x_result x_steps x_emits x_at tq sk (sk (tq - 1)) (q9 (by assumption)).2) E0_b E0_t ql_MO_230 qi_MO_push qs_MO_push qn_MO qc_MO_push (by decide +kernel) rfl ⟨rfl, rfl⟩ ⟨Nat.le_of_ble_eq_true rfl, Nat.le_of_ble_eq_true rfl⟩ hK hP hD [0, 2] rfl (by decide) rfl rfl hl.1 rfl (Nat.le_of_ble_eq_true rfl) d_MO_move_110 ⟨Nat.zero_le _, Nat.zero_le _⟩) hP hD hS hA [0, 2] [1] [1, 0, 2] rfl rfl (by decide) (by decide) rfl (by decide) (fun H locs hP hD hS => ?_)
    refine lv_goto (tgt := 146) hx hb d_MO_move_113 (by decide) ?_
    refine lv_aload_n hx hb d_MO_move_146 rfl (lv_at hl 0 rfl) ?_
    refine lv_dup hx hb d_MO_move_147 rfl ?_
    refine k_get (v := .int x_at) S in_MO hK hP 0 rfl rfl 31 (by decide) ql_MO_213 rfl d_MO_move_148 ?_
    refine lv_iconst (v := 1) hx hb d_MO_move_151 (by decide) ?_
    refine lv_iadd hx hb d_MO_move_152 ?_
    refine k_put (v := .int (x_at + 1)) (ws' := [(a, .inr (7, [.int x_count, .ref q_op, .ref q_arg, .int x_handlers, .ref q_handler, .ref q_depth, .ref q_over, .int x_flatCount, .ref q_flatOp, .ref q_flatArg, .int x_flatHandlers, .ref q_flatHandler, .int x_blockCount, .ref q_leader, .ref q_last, .ref q_height, .ref q_state, .ref q_begin, .ref q_drawn, .ref q_order, .int x_g, .ref q_starters, .int x_ran, .int x_ended, .int x_result, .int x_steps, .int x_emits, .ref q_emitted, .ref q_locals, .ref q_stack, .int (nI (tq + 1)), .int (x_at + 1)])), (q_locals, .inl (cI, 9, .inl lo)), (q_stack, .inl (cI, 24, .inl (upd sk tq (sk (tq - 1)))))]) S in_MO ty_MO nm_MO hK hP hD hS 0 rfl rfl 31 (by decide) ql_MO_213 rfl rfl rfl rfl (Nat.le_of_ble_eq_true rfl) rfl d_MO_move_153 (fun H locs hP hD hS => ?_)
    exact k_vret hx hb hr hlocks hK hP hD hS (by rw [f_MO_move, if_neg h1_1, if_neg h1_2, if_neg h1_3, if_pos h1_4]) d_MO_move_156
  by_cases h1_5 : o = 11
  · skip
    refine k_top h1_5 ?_
    refine lv_tableIn (tgt := 116) hx hb d_MO_move_1 (by decide) (by decide) rfl (by decide) ?_
    refine lv_aload_n hx hb d_MO_move_116 rfl (lv_at hl 0 rfl) ?_
    refine k_goi (ws' := [(a, .inr (7, [.int x_count, .ref q_op, .ref q_arg, .int x_handlers, .ref q_handler, .ref q_depth, .ref q_over, .int x_flatCount, .ref q_flatOp, .ref q_flatArg, .int x_flatHandlers, .ref q_flatHandler, .int x_blockCount, .ref q_leader, .ref q_last, .ref q_height, .ref q_state, .ref q_begin, .ref q_drawn, .ref q_order, .int x_g, .ref q_starters, .int x_ran, .int x_ended, .int x_result, .int x_steps, .int x_emits, .ref q_emitted, .ref q_locals, .ref q_stack, .int (nI (tq - 1)), .int x_at])), (q_locals, .inl (cI, 9, .inl lo)), (q_stack, .inl (cI, 24, .inl sk))]) (wr := [(q_locals, .inl (cI, 9, .inl lo))]) (k_runV (q0 := 0) (As := []) (rest := []) (n := 0) S (c_MO_pop l D cI cZ a q_op q_arg q_handler q_depth q_over q_flatOp q_flatArg q_flatHandler q_leader q_last q_height q_state q_begin q_drawn q_order q_starters q_emitted q_locals q_stack x_count x_handlers x_flatCount x_flatHandlers x_blockCount x_g x_ran x_ended x_result x_steps x_emits x_at tq sk (q11 (by assumption)) (by omega)) E0_b E0_t ql_MO_219 qi_MO_pop qs_MO_pop qn_MO qc_MO_pop (by decide +kernel) rfl ⟨rfl, rfl⟩ ⟨Nat.le_of_ble_eq_true rfl, Nat.le_of_ble_eq_true rfl⟩ hK hP hD [0, 2] rfl (by decide) rfl rfl hl.1 rfl (Nat.le_of_ble_eq_true rfl) d_MO_move_117 ⟨Nat.zero_le _, Nat.zero_le _⟩) hP hD hS hA [0, 2] [1] [1, 0, 2] rfl rfl (by decide) (by decide) rfl (by decide) (fun H locs hP hD hS => ?_)
    refine lv_pop hx hb d_MO_move_120 rfl ?_
    refine lv_goto (tgt := 146) hx hb d_MO_move_121 (by decide) ?_
    refine lv_aload_n hx hb d_MO_move_146 rfl (lv_at hl 0 rfl) ?_
    refine lv_dup hx hb d_MO_move_147 rfl ?_
    refine k_get (v := .int x_at) S in_MO hK hP 0 rfl rfl 31 (by decide) ql_MO_213 rfl d_MO_move_148 ?_
    refine lv_iconst (v := 1) hx hb d_MO_move_151 (by decide) ?_
    refine lv_iadd hx hb d_MO_move_152 ?_
    refine k_put (v := .int (x_at + 1)) (ws' := [(a, .inr (7, [.int x_count, .ref q_op, .ref q_arg, .int x_handlers, .ref q_handler, .ref q_depth, .ref q_over, .int x_flatCount, .ref q_flatOp, .ref q_flatArg, .int x_flatHandlers, .ref q_flatHandler, .int x_blockCount, .ref q_leader, .ref q_last, .ref q_height, .ref q_state, .ref q_begin, .ref q_drawn, .ref q_order, .int x_g, .ref q_starters, .int x_ran, .int x_ended, .int x_result, .int x_steps, .int x_emits, .ref q_emitted, .ref q_locals, .ref q_stack, .int (nI (tq - 1)), .int (x_at + 1)])), (q_locals, .inl (cI, 9, .inl lo)), (q_stack, .inl (cI, 24, .inl sk))]) S in_MO ty_MO nm_MO hK hP hD hS 0 rfl rfl 31 (by decide) ql_MO_213 rfl rfl rfl rfl (Nat.le_of_ble_eq_true rfl) rfl d_MO_move_153 (fun H locs hP hD hS => ?_)
    exact k_vret hx hb hr hlocks hK hP hD hS (by rw [f_MO_move, if_neg h1_1, if_neg h1_2, if_neg h1_3, if_neg h1_4, if_pos h1_5]) d_MO_move_156
  by_cases h1_6 : o = 3
  · skip
    refine k_top h1_6 ?_
    refine lv_tableIn (tgt := 124) hx hb d_MO_move_1 (by decide) (by decide) rfl (by decide) ?_
    refine lv_aload_n hx hb d_MO_move_124 rfl (lv_at hl 0 rfl) ?_
    refine k_goi (ws' := [(a, .inr (7, [.int x_count, .ref q_op, .ref q_arg, .int x_handlers, .ref q_handler, .ref q_depth, .ref q_over, .int x_flatCount, .ref q_flatOp, .ref q_flatArg, .int x_flatHandlers, .ref q_flatHandler, .int x_blockCount, .ref q_leader, .ref q_last, .ref q_height, .ref q_state, .ref q_begin, .ref q_drawn, .ref q_order, .int x_g, .ref q_starters, .int x_ran, .int x_ended, .int x_result, .int x_steps, .int x_emits, .ref q_emitted, .ref q_locals, .ref q_stack, .int (nI (tq - 1)), .int x_at])), (q_locals, .inl (cI, 9, .inl lo)), (q_stack, .inl (cI, 24, .inl sk))]) (wr := [(q_locals, .inl (cI, 9, .inl lo))]) (k_runV (q0 := 0) (As := []) (rest := []) (n := 0) S (c_MO_pop l D cI cZ a q_op q_arg q_handler q_depth q_over q_flatOp q_flatArg q_flatHandler q_leader q_last q_height q_state q_begin q_drawn q_order q_starters q_emitted q_locals q_stack x_count x_handlers x_flatCount x_flatHandlers x_blockCount x_g x_ran x_ended x_result x_steps x_emits x_at tq sk (by have := qd (by assumption) (by assumption) (by assumption) (by assumption) (by assumption); omega) (by omega)) E0_b E0_t ql_MO_219 qi_MO_pop qs_MO_pop qn_MO qc_MO_pop (by decide +kernel) rfl ⟨rfl, rfl⟩ ⟨Nat.le_of_ble_eq_true rfl, Nat.le_of_ble_eq_true rfl⟩ hK hP hD [0, 2] rfl (by decide) rfl rfl hl.1 rfl (Nat.le_of_ble_eq_true rfl) d_MO_move_125 ⟨Nat.zero_le _, Nat.zero_le _⟩) hP hD hS hA [0, 2] [1] [1, 0, 2] rfl rfl (by decide) (by decide) rfl (by decide) (fun H locs hP hD hS => ?_)
    refine lv_istore_n (lv' := [(3, .int (sk (tq - 1))), (0, .ref a), (1, .int o), (2, .int b)]) hx hb d_MO_move_128 rfl hl (by decide) rfl (fun ls hl => ?_)
    refine lv_aload_n hx hb d_MO_move_129 rfl (lv_at hl 1 rfl) ?_
    refine k_goi (ws' := [(a, .inr (7, [.int x_count, .ref q_op, .ref q_arg, .int x_handlers, .ref q_handler, .ref q_depth, .ref q_over, .int x_flatCount, .ref q_flatOp, .ref q_flatArg, .int x_flatHandlers, .ref q_flatHandler, .int x_blockCount, .ref q_leader, .ref q_last, .ref q_height, .ref q_state, .ref q_begin, .ref q_drawn, .ref q_order, .int x_g, .ref q_starters, .int x_ran, .int x_ended, .int x_result, .int x_steps, .int x_emits, .ref q_emitted, .ref q_locals, .ref q_stack, .int (nI ((tq - 1) - 1)), .int x_at])), (q_locals, .inl (cI, 9, .inl lo)), (q_stack, .inl (cI, 24, .inl sk))]) (wr := [(q_locals, .inl (cI, 9, .inl lo))]) (k_runV (q0 := 0) (As := []) (rest := []) (n := 0) S (c_MO_pop l D cI cZ a q_op q_arg q_handler q_depth q_over q_flatOp q_flatArg q_flatHandler q_leader q_last q_height q_state q_begin q_drawn q_order q_starters q_emitted q_locals q_stack x_count x_handlers x_flatCount x_flatHandlers x_blockCount x_g x_ran x_ended x_result x_steps x_emits x_at (tq - 1) sk (by have := qd (by assumption) (by assumption) (by assumption) (by assumption) (by assumption); omega) (by omega)) E0_b E0_t ql_MO_219 qi_MO_pop qs_MO_pop qn_MO qc_MO_pop (by decide +kernel) rfl ⟨rfl, rfl⟩ ⟨Nat.le_of_ble_eq_true rfl, Nat.le_of_ble_eq_true rfl⟩ hK hP hD [0, 2] rfl (by decide) rfl rfl hl.1 rfl (Nat.le_of_ble_eq_true rfl) d_MO_move_130 ⟨Nat.zero_le _, Nat.zero_le _⟩) hP hD hS hA [0, 2] [1] [1, 0, 2] rfl rfl (by decide) (by decide) rfl (by decide) (fun H locs hP hD hS => ?_)
    refine lv_istore (lv' := [(4, .int (sk ((tq - 1) - 1))), (3, .int (sk (tq - 1))), (0, .ref a), (1, .int o), (2, .int b)]) hx hb d_MO_move_133 hl (by decide) rfl (fun ls hl => ?_)
    refine lv_aload_n hx hb d_MO_move_135 rfl (lv_at hl 2 rfl) ?_
    refine lv_iload_n hx hb d_MO_move_136 rfl (lv_at hl 1 rfl) ?_
    refine k_gov (ws' := [(a, .inr (7, [.int x_count, .ref q_op, .ref q_arg, .int x_handlers, .ref q_handler, .ref q_depth, .ref q_over, .int x_flatCount, .ref q_flatOp, .ref q_flatArg, .int x_flatHandlers, .ref q_flatHandler, .int x_blockCount, .ref q_leader, .ref q_last, .ref q_height, .ref q_state, .ref q_begin, .ref q_drawn, .ref q_order, .int x_g, .ref q_starters, .int x_ran, .int x_ended, .int x_result, .int x_steps, .int x_emits, .ref q_emitted, .ref q_locals, .ref q_stack, .int (nI (((tq - 1) - 1) + 1)), .int x_at])), (q_locals, .inl (cI, 9, .inl lo)), (q_stack, .inl (cI, 24, .inl (upd sk ((tq - 1) - 1) (sk (tq - 1)))))]) (wr := [(q_locals, .inl (cI, 9, .inl lo))]) (k_runV (q0 := 0) (As := [.int (sk (tq - 1))]) (rest := []) (n := 1) S (c_MO_push l D cI cZ a q_op q_arg q_handler q_depth q_over q_flatOp q_flatArg q_flatHandler q_leader q_last q_height q_state q_begin q_drawn q_order q_starters q_emitted q_locals q_stack x_count x_handlers x_flatCount x_flatHandlers x_blockCount x_g x_ran x_ended x_result x_steps x_emits x_at ((tq - 1) - 1) sk (sk (tq - 1)) (by have := qd (by assumption) (by assumption) (by assumption) (by assumption) (by assumption); omega)) E0_b E0_t ql_MO_230 qi_MO_push qs_MO_push qn_MO qc_MO_push (by decide +kernel) rfl ⟨rfl, rfl⟩ ⟨Nat.le_of_ble_eq_true rfl, Nat.le_of_ble_eq_true rfl⟩ hK hP hD [0, 2] rfl (by decide) rfl rfl hl.1 rfl (Nat.le_of_ble_eq_true rfl) d_MO_move_137 ⟨Nat.zero_le _, Nat.zero_le _⟩) hP hD hS hA [0, 2] [1] [1, 0, 2] rfl rfl (by decide) (by decide) rfl (by decide) (fun H locs hP hD hS => ?_)
    refine lv_aload_n hx hb d_MO_move_140 rfl (lv_at hl 2 rfl) ?_
    refine lv_iload hx hb d_MO_move_141 (lv_at hl 0 rfl) ?_
    refine k_gov (ws' := [(a, .inr (7, [.int x_count, .ref q_op, .ref q_arg, .int x_handlers, .ref q_handler, .ref q_depth, .ref q_over, .int x_flatCount, .ref q_flatOp, .ref q_flatArg, .int x_flatHandlers, .ref q_flatHandler, .int x_blockCount, .ref q_leader, .ref q_last, .ref q_height, .ref q_state, .ref q_begin, .ref q_drawn, .ref q_order, .int x_g, .ref q_starters, .int x_ran, .int x_ended, .int x_result, .int x_steps, .int x_emits, .ref q_emitted, .ref q_locals, .ref q_stack, .int (nI ((((tq - 1) - 1) + 1) + 1)), .int x_at])), (q_locals, .inl (cI, 9, .inl lo)), (q_stack, .inl (cI, 24, .inl (upd (upd sk ((tq - 1) - 1) (sk (tq - 1))) (((tq - 1) - 1) + 1) (sk ((tq - 1) - 1)))))]) (wr := [(q_locals, .inl (cI, 9, .inl lo))]) (k_runV (q0 := 0) (As := [.int (sk ((tq - 1) - 1))]) (rest := []) (n := 1) S (c_MO_push l D cI cZ a q_op q_arg q_handler q_depth q_over q_flatOp q_flatArg q_flatHandler q_leader q_last q_height q_state q_begin q_drawn q_order q_starters q_emitted q_locals q_stack x_count x_handlers x_flatCount x_flatHandlers x_blockCount x_g x_ran x_ended x_result x_steps x_emits x_at (((tq - 1) - 1) + 1) (upd sk ((tq - 1) - 1) (sk (tq - 1))) (sk ((tq - 1) - 1)) (by omega)) E0_b E0_t ql_MO_230 qi_MO_push qs_MO_push qn_MO qc_MO_push (by decide +kernel) rfl ⟨rfl, rfl⟩ ⟨Nat.le_of_ble_eq_true rfl, Nat.le_of_ble_eq_true rfl⟩ hK hP hD [0, 2] rfl (by decide) rfl rfl hl.1 rfl (Nat.le_of_ble_eq_true rfl) d_MO_move_143 ⟨Nat.zero_le _, Nat.zero_le _⟩) hP hD hS hA [0, 2] [1] [1, 0, 2] rfl rfl (by decide) (by decide) rfl (by decide) (fun H locs hP hD hS => ?_)
    refine lv_aload_n hx hb d_MO_move_146 rfl (lv_at hl 2 rfl) ?_
    refine lv_dup hx hb d_MO_move_147 rfl ?_
    refine k_get (v := .int x_at) S in_MO hK hP 0 rfl rfl 31 (by decide) ql_MO_213 rfl d_MO_move_148 ?_
    refine lv_iconst (v := 1) hx hb d_MO_move_151 (by decide) ?_
    refine lv_iadd hx hb d_MO_move_152 ?_
    refine k_put (v := .int (x_at + 1)) (ws' := [(a, .inr (7, [.int x_count, .ref q_op, .ref q_arg, .int x_handlers, .ref q_handler, .ref q_depth, .ref q_over, .int x_flatCount, .ref q_flatOp, .ref q_flatArg, .int x_flatHandlers, .ref q_flatHandler, .int x_blockCount, .ref q_leader, .ref q_last, .ref q_height, .ref q_state, .ref q_begin, .ref q_drawn, .ref q_order, .int x_g, .ref q_starters, .int x_ran, .int x_ended, .int x_result, .int x_steps, .int x_emits, .ref q_emitted, .ref q_locals, .ref q_stack, .int (nI ((((tq - 1) - 1) + 1) + 1)), .int (x_at + 1)])), (q_locals, .inl (cI, 9, .inl lo)), (q_stack, .inl (cI, 24, .inl (upd (upd sk ((tq - 1) - 1) (sk (tq - 1))) (((tq - 1) - 1) + 1) (sk ((tq - 1) - 1)))))]) S in_MO ty_MO nm_MO hK hP hD hS 0 rfl rfl 31 (by decide) ql_MO_213 rfl rfl rfl rfl (Nat.le_of_ble_eq_true rfl) rfl d_MO_move_153 (fun H locs hP hD hS => ?_)
    exact k_vret hx hb hr hlocks hK hP hD hS (by rw [f_MO_move, if_neg h1_1, if_neg h1_2, if_neg h1_3, if_neg h1_4, if_neg h1_5, if_pos h1_6]) d_MO_move_156
  by_cases h1_7 : o = 4
  · skip
    refine k_top h1_7 ?_
    refine lv_tableIn (tgt := 124) hx hb d_MO_move_1 (by decide) (by decide) rfl (by decide) ?_
    refine lv_aload_n hx hb d_MO_move_124 rfl (lv_at hl 0 rfl) ?_
    refine k_goi (ws' := [(a, .inr (7, [.int x_count, .ref q_op, .ref q_arg, .int x_handlers, .ref q_handler, .ref q_depth, .ref q_over, .int x_flatCount, .ref q_flatOp, .ref q_flatArg, .int x_flatHandlers, .ref q_flatHandler, .int x_blockCount, .ref q_leader, .ref q_last, .ref q_height, .ref q_state, .ref q_begin, .ref q_drawn, .ref q_order, .int x_g, .ref q_starters, .int x_ran, .int x_ended, .int x_result, .int x_steps, .int x_emits, .ref q_emitted, .ref q_locals, .ref q_stack, .int (nI (tq - 1)), .int x_at])), (q_locals, .inl (cI, 9, .inl lo)), (q_stack, .inl (cI, 24, .inl sk))]) (wr := [(q_locals, .inl (cI, 9, .inl lo))]) (k_runV (q0 := 0) (As := []) (rest := []) (n := 0) S (c_MO_pop l D cI cZ a q_op q_arg q_handler q_depth q_over q_flatOp q_flatArg q_flatHandler q_leader q_last q_height q_state q_begin q_drawn q_order q_starters q_emitted q_locals q_stack x_count x_handlers x_flatCount x_flatHandlers x_blockCount x_g x_ran x_ended x_result x_steps x_emits x_at tq sk (by have := qd (by assumption) (by assumption) (by assumption) (by assumption) (by assumption); omega) (by omega)) E0_b E0_t ql_MO_219 qi_MO_pop qs_MO_pop qn_MO qc_MO_pop (by decide +kernel) rfl ⟨rfl, rfl⟩ ⟨Nat.le_of_ble_eq_true rfl, Nat.le_of_ble_eq_true rfl⟩ hK hP hD [0, 2] rfl (by decide) rfl rfl hl.1 rfl (Nat.le_of_ble_eq_true rfl) d_MO_move_125 ⟨Nat.zero_le _, Nat.zero_le _⟩) hP hD hS hA [0, 2] [1] [1, 0, 2] rfl rfl (by decide) (by decide) rfl (by decide) (fun H locs hP hD hS => ?_)
    refine lv_istore_n (lv' := [(3, .int (sk (tq - 1))), (0, .ref a), (1, .int o), (2, .int b)]) hx hb d_MO_move_128 rfl hl (by decide) rfl (fun ls hl => ?_)
    refine lv_aload_n hx hb d_MO_move_129 rfl (lv_at hl 1 rfl) ?_
    refine k_goi (ws' := [(a, .inr (7, [.int x_count, .ref q_op, .ref q_arg, .int x_handlers, .ref q_handler, .ref q_depth, .ref q_over, .int x_flatCount, .ref q_flatOp, .ref q_flatArg, .int x_flatHandlers, .ref q_flatHandler, .int x_blockCount, .ref q_leader, .ref q_last, .ref q_height, .ref q_state, .ref q_begin, .ref q_drawn, .ref q_order, .int x_g, .ref q_starters, .int x_ran, .int x_ended, .int x_result, .int x_steps, .int x_emits, .ref q_emitted, .ref q_locals, .ref q_stack, .int (nI ((tq - 1) - 1)), .int x_at])), (q_locals, .inl (cI, 9, .inl lo)), (q_stack, .inl (cI, 24, .inl sk))]) (wr := [(q_locals, .inl (cI, 9, .inl lo))]) (k_runV (q0 := 0) (As := []) (rest := []) (n := 0) S (c_MO_pop l D cI cZ a q_op q_arg q_handler q_depth q_over q_flatOp q_flatArg q_flatHandler q_leader q_last q_height q_state q_begin q_drawn q_order q_starters q_emitted q_locals q_stack x_count x_handlers x_flatCount x_flatHandlers x_blockCount x_g x_ran x_ended x_result x_steps x_emits x_at (tq - 1) sk (by have := qd (by assumption) (by assumption) (by assumption) (by assumption) (by assumption); omega) (by omega)) E0_b E0_t ql_MO_219 qi_MO_pop qs_MO_pop qn_MO qc_MO_pop (by decide +kernel) rfl ⟨rfl, rfl⟩ ⟨Nat.le_of_ble_eq_true rfl, Nat.le_of_ble_eq_true rfl⟩ hK hP hD [0, 2] rfl (by decide) rfl rfl hl.1 rfl (Nat.le_of_ble_eq_true rfl) d_MO_move_130 ⟨Nat.zero_le _, Nat.zero_le _⟩) hP hD hS hA [0, 2] [1] [1, 0, 2] rfl rfl (by decide) (by decide) rfl (by decide) (fun H locs hP hD hS => ?_)
    refine lv_istore (lv' := [(4, .int (sk ((tq - 1) - 1))), (3, .int (sk (tq - 1))), (0, .ref a), (1, .int o), (2, .int b)]) hx hb d_MO_move_133 hl (by decide) rfl (fun ls hl => ?_)
    refine lv_aload_n hx hb d_MO_move_135 rfl (lv_at hl 2 rfl) ?_
    refine lv_iload_n hx hb d_MO_move_136 rfl (lv_at hl 1 rfl) ?_
    refine k_gov (ws' := [(a, .inr (7, [.int x_count, .ref q_op, .ref q_arg, .int x_handlers, .ref q_handler, .ref q_depth, .ref q_over, .int x_flatCount, .ref q_flatOp, .ref q_flatArg, .int x_flatHandlers, .ref q_flatHandler, .int x_blockCount, .ref q_leader, .ref q_last, .ref q_height, .ref q_state, .ref q_begin, .ref q_drawn, .ref q_order, .int x_g, .ref q_starters, .int x_ran, .int x_ended, .int x_result, .int x_steps, .int x_emits, .ref q_emitted, .ref q_locals, .ref q_stack, .int (nI (((tq - 1) - 1) + 1)), .int x_at])), (q_locals, .inl (cI, 9, .inl lo)), (q_stack, .inl (cI, 24, .inl (upd sk ((tq - 1) - 1) (sk (tq - 1)))))]) (wr := [(q_locals, .inl (cI, 9, .inl lo))]) (k_runV (q0 := 0) (As := [.int (sk (tq - 1))]) (rest := []) (n := 1) S (c_MO_push l D cI cZ a q_op q_arg q_handler q_depth q_over q_flatOp q_flatArg q_flatHandler q_leader q_last q_height q_state q_begin q_drawn q_order q_starters q_emitted q_locals q_stack x_count x_handlers x_flatCount x_flatHandlers x_blockCount x_g x_ran x_ended x_result x_steps x_emits x_at ((tq - 1) - 1) sk (sk (tq - 1)) (by have := qd (by assumption) (by assumption) (by assumption) (by assumption) (by assumption); omega)) E0_b E0_t ql_MO_230 qi_MO_push qs_MO_push qn_MO qc_MO_push (by decide +kernel) rfl ⟨rfl, rfl⟩ ⟨Nat.le_of_ble_eq_true rfl, Nat.le_of_ble_eq_true rfl⟩ hK hP hD [0, 2] rfl (by decide) rfl rfl hl.1 rfl (Nat.le_of_ble_eq_true rfl) d_MO_move_137 ⟨Nat.zero_le _, Nat.zero_le _⟩) hP hD hS hA [0, 2] [1] [1, 0, 2] rfl rfl (by decide) (by decide) rfl (by decide) (fun H locs hP hD hS => ?_)
    refine lv_aload_n hx hb d_MO_move_140 rfl (lv_at hl 2 rfl) ?_
    refine lv_iload hx hb d_MO_move_141 (lv_at hl 0 rfl) ?_
    refine k_gov (ws' := [(a, .inr (7, [.int x_count, .ref q_op, .ref q_arg, .int x_handlers, .ref q_handler, .ref q_depth, .ref q_over, .int x_flatCount, .ref q_flatOp, .ref q_flatArg, .int x_flatHandlers, .ref q_flatHandler, .int x_blockCount, .ref q_leader, .ref q_last, .ref q_height, .ref q_state, .ref q_begin, .ref q_drawn, .ref q_order, .int x_g, .ref q_starters, .int x_ran, .int x_ended, .int x_result, .int x_steps, .int x_emits, .ref q_emitted, .ref q_locals, .ref q_stack, .int (nI ((((tq - 1) - 1) + 1) + 1)), .int x_at])), (q_locals, .inl (cI, 9, .inl lo)), (q_stack, .inl (cI, 24, .inl (upd (upd sk ((tq - 1) - 1) (sk (tq - 1))) (((tq - 1) - 1) + 1) (sk ((tq - 1) - 1)))))]) (wr := [(q_locals, .inl (cI, 9, .inl lo))]) (k_runV (q0 := 0) (As := [.int (sk ((tq - 1) - 1))]) (rest := []) (n := 1) S (c_MO_push l D cI cZ a q_op q_arg q_handler q_depth q_over q_flatOp q_flatArg q_flatHandler q_leader q_last q_height q_state q_begin q_drawn q_order q_starters q_emitted q_locals q_stack x_count x_handlers x_flatCount x_flatHandlers x_blockCount x_g x_ran x_ended x_result x_steps x_emits x_at (((tq - 1) - 1) + 1) (upd sk ((tq - 1) - 1) (sk (tq - 1))) (sk ((tq - 1) - 1)) (by omega)) E0_b E0_t ql_MO_230 qi_MO_push qs_MO_push qn_MO qc_MO_push (by decide +kernel) rfl ⟨rfl, rfl⟩ ⟨Nat.le_of_ble_eq_true rfl, Nat.le_of_ble_eq_true rfl⟩ hK hP hD [0, 2] rfl (by decide) rfl rfl hl.1 rfl (Nat.le_of_ble_eq_true rfl) d_MO_move_143 ⟨Nat.zero_le _, Nat.zero_le _⟩) hP hD hS hA [0, 2] [1] [1, 0, 2] rfl rfl (by decide) (by decide) rfl (by decide) (fun H locs hP hD hS => ?_)
    refine lv_aload_n hx hb d_MO_move_146 rfl (lv_at hl 2 rfl) ?_
    refine lv_dup hx hb d_MO_move_147 rfl ?_
    refine k_get (v := .int x_at) S in_MO hK hP 0 rfl rfl 31 (by decide) ql_MO_213 rfl d_MO_move_148 ?_
    refine lv_iconst (v := 1) hx hb d_MO_move_151 (by decide) ?_
    refine lv_iadd hx hb d_MO_move_152 ?_
    refine k_put (v := .int (x_at + 1)) (ws' := [(a, .inr (7, [.int x_count, .ref q_op, .ref q_arg, .int x_handlers, .ref q_handler, .ref q_depth, .ref q_over, .int x_flatCount, .ref q_flatOp, .ref q_flatArg, .int x_flatHandlers, .ref q_flatHandler, .int x_blockCount, .ref q_leader, .ref q_last, .ref q_height, .ref q_state, .ref q_begin, .ref q_drawn, .ref q_order, .int x_g, .ref q_starters, .int x_ran, .int x_ended, .int x_result, .int x_steps, .int x_emits, .ref q_emitted, .ref q_locals, .ref q_stack, .int (nI ((((tq - 1) - 1) + 1) + 1)), .int (x_at + 1)])), (q_locals, .inl (cI, 9, .inl lo)), (q_stack, .inl (cI, 24, .inl (upd (upd sk ((tq - 1) - 1) (sk (tq - 1))) (((tq - 1) - 1) + 1) (sk ((tq - 1) - 1)))))]) S in_MO ty_MO nm_MO hK hP hD hS 0 rfl rfl 31 (by decide) ql_MO_213 rfl rfl rfl rfl (Nat.le_of_ble_eq_true rfl) rfl d_MO_move_153 (fun H locs hP hD hS => ?_)
    exact k_vret hx hb hr hlocks hK hP hD hS (by rw [f_MO_move, if_neg h1_1, if_neg h1_2, if_neg h1_3, if_neg h1_4, if_neg h1_5, if_neg h1_6, if_pos h1_7]) d_MO_move_156
  by_cases h1_8 : o = 5
  · skip
    refine k_top h1_8 ?_
    refine lv_tableIn (tgt := 124) hx hb d_MO_move_1 (by decide) (by decide) rfl (by decide) ?_
    refine lv_aload_n hx hb d_MO_move_124 rfl (lv_at hl 0 rfl) ?_
    refine k_goi (ws' := [(a, .inr (7, [.int x_count, .ref q_op, .ref q_arg, .int x_handlers, .ref q_handler, .ref q_depth, .ref q_over, .int x_flatCount, .ref q_flatOp, .ref q_flatArg, .int x_flatHandlers, .ref q_flatHandler, .int x_blockCount, .ref q_leader, .ref q_last, .ref q_height, .ref q_state, .ref q_begin, .ref q_drawn, .ref q_order, .int x_g, .ref q_starters, .int x_ran, .int x_ended, .int x_result, .int x_steps, .int x_emits, .ref q_emitted, .ref q_locals, .ref q_stack, .int (nI (tq - 1)), .int x_at])), (q_locals, .inl (cI, 9, .inl lo)), (q_stack, .inl (cI, 24, .inl sk))]) (wr := [(q_locals, .inl (cI, 9, .inl lo))]) (k_runV (q0 := 0) (As := []) (rest := []) (n := 0) S (c_MO_pop l D cI cZ a q_op q_arg q_handler q_depth q_over q_flatOp q_flatArg q_flatHandler q_leader q_last q_height q_state q_begin q_drawn q_order q_starters q_emitted q_locals q_stack x_count x_handlers x_flatCount x_flatHandlers x_blockCount x_g x_ran x_ended x_result x_steps x_emits x_at tq sk (by have := qd (by assumption) (by assumption) (by assumption) (by assumption) (by assumption); omega) (by omega)) E0_b E0_t ql_MO_219 qi_MO_pop qs_MO_pop qn_MO qc_MO_pop (by decide +kernel) rfl ⟨rfl, rfl⟩ ⟨Nat.le_of_ble_eq_true rfl, Nat.le_of_ble_eq_true rfl⟩ hK hP hD [0, 2] rfl (by decide) rfl rfl hl.1 rfl (Nat.le_of_ble_eq_true rfl) d_MO_move_125 ⟨Nat.zero_le _, Nat.zero_le _⟩) hP hD hS hA [0, 2] [1] [1, 0, 2] rfl rfl (by decide) (by decide) rfl (by decide) (fun H locs hP hD hS => ?_)
    refine lv_istore_n (lv' := [(3, .int (sk (tq - 1))), (0, .ref a), (1, .int o), (2, .int b)]) hx hb d_MO_move_128 rfl hl (by decide) rfl (fun ls hl => ?_)
    refine lv_aload_n hx hb d_MO_move_129 rfl (lv_at hl 1 rfl) ?_
    refine k_goi (ws' := [(a, .inr (7, [.int x_count, .ref q_op, .ref q_arg, .int x_handlers, .ref q_handler, .ref q_depth, .ref q_over, .int x_flatCount, .ref q_flatOp, .ref q_flatArg, .int x_flatHandlers, .ref q_flatHandler, .int x_blockCount, .ref q_leader, .ref q_last, .ref q_height, .ref q_state, .ref q_begin, .ref q_drawn, .ref q_order, .int x_g, .ref q_starters, .int x_ran, .int x_ended, .int x_result, .int x_steps, .int x_emits, .ref q_emitted, .ref q_locals, .ref q_stack, .int (nI ((tq - 1) - 1)), .int x_at])), (q_locals, .inl (cI, 9, .inl lo)), (q_stack, .inl (cI, 24, .inl sk))]) (wr := [(q_locals, .inl (cI, 9, .inl lo))]) (k_runV (q0 := 0) (As := []) (rest := []) (n := 0) S (c_MO_pop l D cI cZ a q_op q_arg q_handler q_depth q_over q_flatOp q_flatArg q_flatHandler q_leader q_last q_height q_state q_begin q_drawn q_order q_starters q_emitted q_locals q_stack x_count x_handlers x_flatCount x_flatHandlers x_blockCount x_g x_ran x_ended x_result x_steps x_emits x_at (tq - 1) sk (by have := qd (by assumption) (by assumption) (by assumption) (by assumption) (by assumption); omega) (by omega)) E0_b E0_t ql_MO_219 qi_MO_pop qs_MO_pop qn_MO qc_MO_pop (by decide +kernel) rfl ⟨rfl, rfl⟩ ⟨Nat.le_of_ble_eq_true rfl, Nat.le_of_ble_eq_true rfl⟩ hK hP hD [0, 2] rfl (by decide) rfl rfl hl.1 rfl (Nat.le_of_ble_eq_true rfl) d_MO_move_130 ⟨Nat.zero_le _, Nat.zero_le _⟩) hP hD hS hA [0, 2] [1] [1, 0, 2] rfl rfl (by decide) (by decide) rfl (by decide) (fun H locs hP hD hS => ?_)
    refine lv_istore (lv' := [(4, .int (sk ((tq - 1) - 1))), (3, .int (sk (tq - 1))), (0, .ref a), (1, .int o), (2, .int b)]) hx hb d_MO_move_133 hl (by decide) rfl (fun ls hl => ?_)
    refine lv_aload_n hx hb d_MO_move_135 rfl (lv_at hl 2 rfl) ?_
    refine lv_iload_n hx hb d_MO_move_136 rfl (lv_at hl 1 rfl) ?_
    refine k_gov (ws' := [(a, .inr (7, [.int x_count, .ref q_op, .ref q_arg, .int x_handlers, .ref q_handler, .ref q_depth, .ref q_over, .int x_flatCount, .ref q_flatOp, .ref q_flatArg, .int x_flatHandlers, .ref q_flatHandler, .int x_blockCount, .ref q_leader, .ref q_last, .ref q_height, .ref q_state, .ref q_begin, .ref q_drawn, .ref q_order, .int x_g, .ref q_starters, .int x_ran, .int x_ended, .int x_result, .int x_steps, .int x_emits, .ref q_emitted, .ref q_locals, .ref q_stack, .int (nI (((tq - 1) - 1) + 1)), .int x_at])), (q_locals, .inl (cI, 9, .inl lo)), (q_stack, .inl (cI, 24, .inl (upd sk ((tq - 1) - 1) (sk (tq - 1)))))]) (wr := [(q_locals, .inl (cI, 9, .inl lo))]) (k_runV (q0 := 0) (As := [.int (sk (tq - 1))]) (rest := []) (n := 1) S (c_MO_push l D cI cZ a q_op q_arg q_handler q_depth q_over q_flatOp q_flatArg q_flatHandler q_leader q_last q_height q_state q_begin q_drawn q_order q_starters q_emitted q_locals q_stack x_count x_handlers x_flatCount x_flatHandlers x_blockCount x_g x_ran x_ended x_result x_steps x_emits x_at ((tq - 1) - 1) sk (sk (tq - 1)) (by have := qd (by assumption) (by assumption) (by assumption) (by assumption) (by assumption); omega)) E0_b E0_t ql_MO_230 qi_MO_push qs_MO_push qn_MO qc_MO_push (by decide +kernel) rfl ⟨rfl, rfl⟩ ⟨Nat.le_of_ble_eq_true rfl, Nat.le_of_ble_eq_true rfl⟩ hK hP hD [0, 2] rfl (by decide) rfl rfl hl.1 rfl (Nat.le_of_ble_eq_true rfl) d_MO_move_137 ⟨Nat.zero_le _, Nat.zero_le _⟩) hP hD hS hA [0, 2] [1] [1, 0, 2] rfl rfl (by decide) (by decide) rfl (by decide) (fun H locs hP hD hS => ?_)
    refine lv_aload_n hx hb d_MO_move_140 rfl (lv_at hl 2 rfl) ?_
    refine lv_iload hx hb d_MO_move_141 (lv_at hl 0 rfl) ?_
    refine k_gov (ws' := [(a, .inr (7, [.int x_count, .ref q_op, .ref q_arg, .int x_handlers, .ref q_handler, .ref q_depth, .ref q_over, .int x_flatCount, .ref q_flatOp, .ref q_flatArg, .int x_flatHandlers, .ref q_flatHandler, .int x_blockCount, .ref q_leader, .ref q_last, .ref q_height, .ref q_state, .ref q_begin, .ref q_drawn, .ref q_order, .int x_g, .ref q_starters, .int x_ran, .int x_ended, .int x_result, .int x_steps, .int x_emits, .ref q_emitted, .ref q_locals, .ref q_stack, .int (nI ((((tq - 1) - 1) + 1) + 1)), .int x_at])), (q_locals, .inl (cI, 9, .inl lo)), (q_stack, .inl (cI, 24, .inl (upd (upd sk ((tq - 1) - 1) (sk (tq - 1))) (((tq - 1) - 1) + 1) (sk ((tq - 1) - 1)))))]) (wr := [(q_locals, .inl (cI, 9, .inl lo))]) (k_runV (q0 := 0) (As := [.int (sk ((tq - 1) - 1))]) (rest := []) (n := 1) S (c_MO_push l D cI cZ a q_op q_arg q_handler q_depth q_over q_flatOp q_flatArg q_flatHandler q_leader q_last q_height q_state q_begin q_drawn q_order q_starters q_emitted q_locals q_stack x_count x_handlers x_flatCount x_flatHandlers x_blockCount x_g x_ran x_ended x_result x_steps x_emits x_at (((tq - 1) - 1) + 1) (upd sk ((tq - 1) - 1) (sk (tq - 1))) (sk ((tq - 1) - 1)) (by omega)) E0_b E0_t ql_MO_230 qi_MO_push qs_MO_push qn_MO qc_MO_push (by decide +kernel) rfl ⟨rfl, rfl⟩ ⟨Nat.le_of_ble_eq_true rfl, Nat.le_of_ble_eq_true rfl⟩ hK hP hD [0, 2] rfl (by decide) rfl rfl hl.1 rfl (Nat.le_of_ble_eq_true rfl) d_MO_move_143 ⟨Nat.zero_le _, Nat.zero_le _⟩) hP hD hS hA [0, 2] [1] [1, 0, 2] rfl rfl (by decide) (by decide) rfl (by decide) (fun H locs hP hD hS => ?_)
    refine lv_aload_n hx hb d_MO_move_146 rfl (lv_at hl 2 rfl) ?_
    refine lv_dup hx hb d_MO_move_147 rfl ?_
    refine k_get (v := .int x_at) S in_MO hK hP 0 rfl rfl 31 (by decide) ql_MO_213 rfl d_MO_move_148 ?_
    refine lv_iconst (v := 1) hx hb d_MO_move_151 (by decide) ?_
    refine lv_iadd hx hb d_MO_move_152 ?_
    refine k_put (v := .int (x_at + 1)) (ws' := [(a, .inr (7, [.int x_count, .ref q_op, .ref q_arg, .int x_handlers, .ref q_handler, .ref q_depth, .ref q_over, .int x_flatCount, .ref q_flatOp, .ref q_flatArg, .int x_flatHandlers, .ref q_flatHandler, .int x_blockCount, .ref q_leader, .ref q_last, .ref q_height, .ref q_state, .ref q_begin, .ref q_drawn, .ref q_order, .int x_g, .ref q_starters, .int x_ran, .int x_ended, .int x_result, .int x_steps, .int x_emits, .ref q_emitted, .ref q_locals, .ref q_stack, .int (nI ((((tq - 1) - 1) + 1) + 1)), .int (x_at + 1)])), (q_locals, .inl (cI, 9, .inl lo)), (q_stack, .inl (cI, 24, .inl (upd (upd sk ((tq - 1) - 1) (sk (tq - 1))) (((tq - 1) - 1) + 1) (sk ((tq - 1) - 1)))))]) S in_MO ty_MO nm_MO hK hP hD hS 0 rfl rfl 31 (by decide) ql_MO_213 rfl rfl rfl rfl (Nat.le_of_ble_eq_true rfl) rfl d_MO_move_153 (fun H locs hP hD hS => ?_)
    exact k_vret hx hb hr hlocks hK hP hD hS (by rw [f_MO_move, if_neg h1_1, if_neg h1_2, if_neg h1_3, if_neg h1_4, if_neg h1_5, if_neg h1_6, if_neg h1_7, if_pos h1_8]) d_MO_move_156
  by_cases h1_9 : o = 6
  · skip
    refine k_top h1_9 ?_
    refine lv_tableIn (tgt := 124) hx hb d_MO_move_1 (by decide) (by decide) rfl (by decide) ?_
    refine lv_aload_n hx hb d_MO_move_124 rfl (lv_at hl 0 rfl) ?_
    refine k_goi (ws' := [(a, .inr (7, [.int x_count, .ref q_op, .ref q_arg, .int x_handlers, .ref q_handler, .ref q_depth, .ref q_over, .int x_flatCount, .ref q_flatOp, .ref q_flatArg, .int x_flatHandlers, .ref q_flatHandler, .int x_blockCount, .ref q_leader, .ref q_last, .ref q_height, .ref q_state, .ref q_begin, .ref q_drawn, .ref q_order, .int x_g, .ref q_starters, .int x_ran, .int x_ended, .int x_result, .int x_steps, .int x_emits, .ref q_emitted, .ref q_locals, .ref q_stack, .int (nI (tq - 1)), .int x_at])), (q_locals, .inl (cI, 9, .inl lo)), (q_stack, .inl (cI, 24, .inl sk))]) (wr := [(q_locals, .inl (cI, 9, .inl lo))]) (k_runV (q0 := 0) (As := []) (rest := []) (n := 0) S (c_MO_pop l D cI cZ a q_op q_arg q_handler q_depth q_over q_flatOp q_flatArg q_flatHandler q_leader q_last q_height q_state q_begin q_drawn q_order q_starters q_emitted q_locals q_stack x_count x_handlers x_flatCount x_flatHandlers x_blockCount x_g x_ran x_ended x_result x_steps x_emits x_at tq sk (by have := qd (by assumption) (by assumption) (by assumption) (by assumption) (by assumption); omega) (by omega)) E0_b E0_t ql_MO_219 qi_MO_pop qs_MO_pop qn_MO qc_MO_pop (by decide +kernel) rfl ⟨rfl, rfl⟩ ⟨Nat.le_of_ble_eq_true rfl, Nat.le_of_ble_eq_true rfl⟩ hK hP hD [0, 2] rfl (by decide) rfl rfl hl.1 rfl (Nat.le_of_ble_eq_true rfl) d_MO_move_125 ⟨Nat.zero_le _, Nat.zero_le _⟩) hP hD hS hA [0, 2] [1] [1, 0, 2] rfl rfl (by decide) (by decide) rfl (by decide) (fun H locs hP hD hS => ?_)
    refine lv_istore_n (lv' := [(3, .int (sk (tq - 1))), (0, .ref a), (1, .int o), (2, .int b)]) hx hb d_MO_move_128 rfl hl (by decide) rfl (fun ls hl => ?_)
    refine lv_aload_n hx hb d_MO_move_129 rfl (lv_at hl 1 rfl) ?_
    refine k_goi (ws' := [(a, .inr (7, [.int x_count, .ref q_op, .ref q_arg, .int x_handlers, .ref q_handler, .ref q_depth, .ref q_over, .int x_flatCount, .ref q_flatOp, .ref q_flatArg, .int x_flatHandlers, .ref q_flatHandler, .int x_blockCount, .ref q_leader, .ref q_last, .ref q_height, .ref q_state, .ref q_begin, .ref q_drawn, .ref q_order, .int x_g, .ref q_starters, .int x_ran, .int x_ended, .int x_result, .int x_steps, .int x_emits, .ref q_emitted, .ref q_locals, .ref q_stack, .int (nI ((tq - 1) - 1)), .int x_at])), (q_locals, .inl (cI, 9, .inl lo)), (q_stack, .inl (cI, 24, .inl sk))]) (wr := [(q_locals, .inl (cI, 9, .inl lo))]) (k_runV (q0 := 0) (As := []) (rest := []) (n := 0) S (c_MO_pop l D cI cZ a q_op q_arg q_handler q_depth q_over q_flatOp q_flatArg q_flatHandler q_leader q_last q_height q_state q_begin q_drawn q_order q_starters q_emitted q_locals q_stack x_count x_handlers x_flatCount x_flatHandlers x_blockCount x_g x_ran x_ended x_result x_steps x_emits x_at (tq - 1) sk (by have := qd (by assumption) (by assumption) (by assumption) (by assumption) (by assumption); omega) (by omega)) E0_b E0_t ql_MO_219 qi_MO_pop qs_MO_pop qn_MO qc_MO_pop (by decide +kernel) rfl ⟨rfl, rfl⟩ ⟨Nat.le_of_ble_eq_true rfl, Nat.le_of_ble_eq_true rfl⟩ hK hP hD [0, 2] rfl (by decide) rfl rfl hl.1 rfl (Nat.le_of_ble_eq_true rfl) d_MO_move_130 ⟨Nat.zero_le _, Nat.zero_le _⟩) hP hD hS hA [0, 2] [1] [1, 0, 2] rfl rfl (by decide) (by decide) rfl (by decide) (fun H locs hP hD hS => ?_)
    refine lv_istore (lv' := [(4, .int (sk ((tq - 1) - 1))), (3, .int (sk (tq - 1))), (0, .ref a), (1, .int o), (2, .int b)]) hx hb d_MO_move_133 hl (by decide) rfl (fun ls hl => ?_)
    refine lv_aload_n hx hb d_MO_move_135 rfl (lv_at hl 2 rfl) ?_
    refine lv_iload_n hx hb d_MO_move_136 rfl (lv_at hl 1 rfl) ?_
    refine k_gov (ws' := [(a, .inr (7, [.int x_count, .ref q_op, .ref q_arg, .int x_handlers, .ref q_handler, .ref q_depth, .ref q_over, .int x_flatCount, .ref q_flatOp, .ref q_flatArg, .int x_flatHandlers, .ref q_flatHandler, .int x_blockCount, .ref q_leader, .ref q_last, .ref q_height, .ref q_state, .ref q_begin, .ref q_drawn, .ref q_order, .int x_g, .ref q_starters, .int x_ran, .int x_ended, .int x_result, .int x_steps, .int x_emits, .ref q_emitted, .ref q_locals, .ref q_stack, .int (nI (((tq - 1) - 1) + 1)), .int x_at])), (q_locals, .inl (cI, 9, .inl lo)), (q_stack, .inl (cI, 24, .inl (upd sk ((tq - 1) - 1) (sk (tq - 1)))))]) (wr := [(q_locals, .inl (cI, 9, .inl lo))]) (k_runV (q0 := 0) (As := [.int (sk (tq - 1))]) (rest := []) (n := 1) S (c_MO_push l D cI cZ a q_op q_arg q_handler q_depth q_over q_flatOp q_flatArg q_flatHandler q_leader q_last q_height q_state q_begin q_drawn q_order q_starters q_emitted q_locals q_stack x_count x_handlers x_flatCount x_flatHandlers x_blockCount x_g x_ran x_ended x_result x_steps x_emits x_at ((tq - 1) - 1) sk (sk (tq - 1)) (by have := qd (by assumption) (by assumption) (by assumption) (by assumption) (by assumption); omega)) E0_b E0_t ql_MO_230 qi_MO_push qs_MO_push qn_MO qc_MO_push (by decide +kernel) rfl ⟨rfl, rfl⟩ ⟨Nat.le_of_ble_eq_true rfl, Nat.le_of_ble_eq_true rfl⟩ hK hP hD [0, 2] rfl (by decide) rfl rfl hl.1 rfl (Nat.le_of_ble_eq_true rfl) d_MO_move_137 ⟨Nat.zero_le _, Nat.zero_le _⟩) hP hD hS hA [0, 2] [1] [1, 0, 2] rfl rfl (by decide) (by decide) rfl (by decide) (fun H locs hP hD hS => ?_)
    refine lv_aload_n hx hb d_MO_move_140 rfl (lv_at hl 2 rfl) ?_
    refine lv_iload hx hb d_MO_move_141 (lv_at hl 0 rfl) ?_
    refine k_gov (ws' := [(a, .inr (7, [.int x_count, .ref q_op, .ref q_arg, .int x_handlers, .ref q_handler, .ref q_depth, .ref q_over, .int x_flatCount, .ref q_flatOp, .ref q_flatArg, .int x_flatHandlers, .ref q_flatHandler, .int x_blockCount, .ref q_leader, .ref q_last, .ref q_height, .ref q_state, .ref q_begin, .ref q_drawn, .ref q_order, .int x_g, .ref q_starters, .int x_ran, .int x_ended, .int x_result, .int x_steps, .int x_emits, .ref q_emitted, .ref q_locals, .ref q_stack, .int (nI ((((tq - 1) - 1) + 1) + 1)), .int x_at])), (q_locals, .inl (cI, 9, .inl lo)), (q_stack, .inl (cI, 24, .inl (upd (upd sk ((tq - 1) - 1) (sk (tq - 1))) (((tq - 1) - 1) + 1) (sk ((tq - 1) - 1)))))]) (wr := [(q_locals, .inl (cI, 9, .inl lo))]) (k_runV (q0 := 0) (As := [.int (sk ((tq - 1) - 1))]) (rest := []) (n := 1) S (c_MO_push l D cI cZ a q_op q_arg q_handler q_depth q_over q_flatOp q_flatArg q_flatHandler q_leader q_last q_height q_state q_begin q_drawn q_order q_starters q_emitted q_locals q_stack x_count x_handlers x_flatCount x_flatHandlers x_blockCount x_g x_ran x_ended x_result x_steps x_emits x_at (((tq - 1) - 1) + 1) (upd sk ((tq - 1) - 1) (sk (tq - 1))) (sk ((tq - 1) - 1)) (by omega)) E0_b E0_t ql_MO_230 qi_MO_push qs_MO_push qn_MO qc_MO_push (by decide +kernel) rfl ⟨rfl, rfl⟩ ⟨Nat.le_of_ble_eq_true rfl, Nat.le_of_ble_eq_true rfl⟩ hK hP hD [0, 2] rfl (by decide) rfl rfl hl.1 rfl (Nat.le_of_ble_eq_true rfl) d_MO_move_143 ⟨Nat.zero_le _, Nat.zero_le _⟩) hP hD hS hA [0, 2] [1] [1, 0, 2] rfl rfl (by decide) (by decide) rfl (by decide) (fun H locs hP hD hS => ?_)
    refine lv_aload_n hx hb d_MO_move_146 rfl (lv_at hl 2 rfl) ?_
    refine lv_dup hx hb d_MO_move_147 rfl ?_
    refine k_get (v := .int x_at) S in_MO hK hP 0 rfl rfl 31 (by decide) ql_MO_213 rfl d_MO_move_148 ?_
    refine lv_iconst (v := 1) hx hb d_MO_move_151 (by decide) ?_
    refine lv_iadd hx hb d_MO_move_152 ?_
    refine k_put (v := .int (x_at + 1)) (ws' := [(a, .inr (7, [.int x_count, .ref q_op, .ref q_arg, .int x_handlers, .ref q_handler, .ref q_depth, .ref q_over, .int x_flatCount, .ref q_flatOp, .ref q_flatArg, .int x_flatHandlers, .ref q_flatHandler, .int x_blockCount, .ref q_leader, .ref q_last, .ref q_height, .ref q_state, .ref q_begin, .ref q_drawn, .ref q_order, .int x_g, .ref q_starters, .int x_ran, .int x_ended, .int x_result, .int x_steps, .int x_emits, .ref q_emitted, .ref q_locals, .ref q_stack, .int (nI ((((tq - 1) - 1) + 1) + 1)), .int (x_at + 1)])), (q_locals, .inl (cI, 9, .inl lo)), (q_stack, .inl (cI, 24, .inl (upd (upd sk ((tq - 1) - 1) (sk (tq - 1))) (((tq - 1) - 1) + 1) (sk ((tq - 1) - 1)))))]) S in_MO ty_MO nm_MO hK hP hD hS 0 rfl rfl 31 (by decide) ql_MO_213 rfl rfl rfl rfl (Nat.le_of_ble_eq_true rfl) rfl d_MO_move_153 (fun H locs hP hD hS => ?_)
    exact k_vret hx hb hr hlocks hK hP hD hS (by rw [f_MO_move, if_neg h1_1, if_neg h1_2, if_neg h1_3, if_neg h1_4, if_neg h1_5, if_neg h1_6, if_neg h1_7, if_neg h1_8, if_pos h1_9]) d_MO_move_156
  by_cases h1_10 : o = 7
  · skip
    refine k_top h1_10 ?_
    refine lv_tableIn (tgt := 124) hx hb d_MO_move_1 (by decide) (by decide) rfl (by decide) ?_
    refine lv_aload_n hx hb d_MO_move_124 rfl (lv_at hl 0 rfl) ?_
    refine k_goi (ws' := [(a, .inr (7, [.int x_count, .ref q_op, .ref q_arg, .int x_handlers, .ref q_handler, .ref q_depth, .ref q_over, .int x_flatCount, .ref q_flatOp, .ref q_flatArg, .int x_flatHandlers, .ref q_flatHandler, .int x_blockCount, .ref q_leader, .ref q_last, .ref q_height, .ref q_state, .ref q_begin, .ref q_drawn, .ref q_order, .int x_g, .ref q_starters, .int x_ran, .int x_ended, .int x_result, .int x_steps, .int x_emits, .ref q_emitted, .ref q_locals, .ref q_stack, .int (nI (tq - 1)), .int x_at])), (q_locals, .inl (cI, 9, .inl lo)), (q_stack, .inl (cI, 24, .inl sk))]) (wr := [(q_locals, .inl (cI, 9, .inl lo))]) (k_runV (q0 := 0) (As := []) (rest := []) (n := 0) S (c_MO_pop l D cI cZ a q_op q_arg q_handler q_depth q_over q_flatOp q_flatArg q_flatHandler q_leader q_last q_height q_state q_begin q_drawn q_order q_starters q_emitted q_locals q_stack x_count x_handlers x_flatCount x_flatHandlers x_blockCount x_g x_ran x_ended x_result x_steps x_emits x_at tq sk (by have := qd (by assumption) (by assumption) (by assumption) (by assumption) (by assumption); omega) (by omega)) E0_b E0_t ql_MO_219 qi_MO_pop qs_MO_pop qn_MO qc_MO_pop (by decide +kernel) rfl ⟨rfl, rfl⟩ ⟨Nat.le_of_ble_eq_true rfl, Nat.le_of_ble_eq_true rfl⟩ hK hP hD [0, 2] rfl (by decide) rfl rfl hl.1 rfl (Nat.le_of_ble_eq_true rfl) d_MO_move_125 ⟨Nat.zero_le _, Nat.zero_le _⟩) hP hD hS hA [0, 2] [1] [1, 0, 2] rfl rfl (by decide) (by decide) rfl (by decide) (fun H locs hP hD hS => ?_)
    refine lv_istore_n (lv' := [(3, .int (sk (tq - 1))), (0, .ref a), (1, .int o), (2, .int b)]) hx hb d_MO_move_128 rfl hl (by decide) rfl (fun ls hl => ?_)
    refine lv_aload_n hx hb d_MO_move_129 rfl (lv_at hl 1 rfl) ?_
    refine k_goi (ws' := [(a, .inr (7, [.int x_count, .ref q_op, .ref q_arg, .int x_handlers, .ref q_handler, .ref q_depth, .ref q_over, .int x_flatCount, .ref q_flatOp, .ref q_flatArg, .int x_flatHandlers, .ref q_flatHandler, .int x_blockCount, .ref q_leader, .ref q_last, .ref q_height, .ref q_state, .ref q_begin, .ref q_drawn, .ref q_order, .int x_g, .ref q_starters, .int x_ran, .int x_ended, .int x_result, .int x_steps, .int x_emits, .ref q_emitted, .ref q_locals, .ref q_stack, .int (nI ((tq - 1) - 1)), .int x_at])), (q_locals, .inl (cI, 9, .inl lo)), (q_stack, .inl (cI, 24, .inl sk))]) (wr := [(q_locals, .inl (cI, 9, .inl lo))]) (k_runV (q0 := 0) (As := []) (rest := []) (n := 0) S (c_MO_pop l D cI cZ a q_op q_arg q_handler q_depth q_over q_flatOp q_flatArg q_flatHandler q_leader q_last q_height q_state q_begin q_drawn q_order q_starters q_emitted q_locals q_stack x_count x_handlers x_flatCount x_flatHandlers x_blockCount x_g x_ran x_ended x_result x_steps x_emits x_at (tq - 1) sk (by have := qd (by assumption) (by assumption) (by assumption) (by assumption) (by assumption); omega) (by omega)) E0_b E0_t ql_MO_219 qi_MO_pop qs_MO_pop qn_MO qc_MO_pop (by decide +kernel) rfl ⟨rfl, rfl⟩ ⟨Nat.le_of_ble_eq_true rfl, Nat.le_of_ble_eq_true rfl⟩ hK hP hD [0, 2] rfl (by decide) rfl rfl hl.1 rfl (Nat.le_of_ble_eq_true rfl) d_MO_move_130 ⟨Nat.zero_le _, Nat.zero_le _⟩) hP hD hS hA [0, 2] [1] [1, 0, 2] rfl rfl (by decide) (by decide) rfl (by decide) (fun H locs hP hD hS => ?_)
    refine lv_istore (lv' := [(4, .int (sk ((tq - 1) - 1))), (3, .int (sk (tq - 1))), (0, .ref a), (1, .int o), (2, .int b)]) hx hb d_MO_move_133 hl (by decide) rfl (fun ls hl => ?_)
    refine lv_aload_n hx hb d_MO_move_135 rfl (lv_at hl 2 rfl) ?_
    refine lv_iload_n hx hb d_MO_move_136 rfl (lv_at hl 1 rfl) ?_
    refine k_gov (ws' := [(a, .inr (7, [.int x_count, .ref q_op, .ref q_arg, .int x_handlers, .ref q_handler, .ref q_depth, .ref q_over, .int x_flatCount, .ref q_flatOp, .ref q_flatArg, .int x_flatHandlers, .ref q_flatHandler, .int x_blockCount, .ref q_leader, .ref q_last, .ref q_height, .ref q_state, .ref q_begin, .ref q_drawn, .ref q_order, .int x_g, .ref q_starters, .int x_ran, .int x_ended, .int x_result, .int x_steps, .int x_emits, .ref q_emitted, .ref q_locals, .ref q_stack, .int (nI (((tq - 1) - 1) + 1)), .int x_at])), (q_locals, .inl (cI, 9, .inl lo)), (q_stack, .inl (cI, 24, .inl (upd sk ((tq - 1) - 1) (sk (tq - 1)))))]) (wr := [(q_locals, .inl (cI, 9, .inl lo))]) (k_runV (q0 := 0) (As := [.int (sk (tq - 1))]) (rest := []) (n := 1) S (c_MO_push l D cI cZ a q_op q_arg q_handler q_depth q_over q_flatOp q_flatArg q_flatHandler q_leader q_last q_height q_state q_begin q_drawn q_order q_starters q_emitted q_locals q_stack x_count x_handlers x_flatCount x_flatHandlers x_blockCount x_g x_ran x_ended x_result x_steps x_emits x_at ((tq - 1) - 1) sk (sk (tq - 1)) (by have := qd (by assumption) (by assumption) (by assumption) (by assumption) (by assumption); omega)) E0_b E0_t ql_MO_230 qi_MO_push qs_MO_push qn_MO qc_MO_push (by decide +kernel) rfl ⟨rfl, rfl⟩ ⟨Nat.le_of_ble_eq_true rfl, Nat.le_of_ble_eq_true rfl⟩ hK hP hD [0, 2] rfl (by decide) rfl rfl hl.1 rfl (Nat.le_of_ble_eq_true rfl) d_MO_move_137 ⟨Nat.zero_le _, Nat.zero_le _⟩) hP hD hS hA [0, 2] [1] [1, 0, 2] rfl rfl (by decide) (by decide) rfl (by decide) (fun H locs hP hD hS => ?_)
    refine lv_aload_n hx hb d_MO_move_140 rfl (lv_at hl 2 rfl) ?_
    refine lv_iload hx hb d_MO_move_141 (lv_at hl 0 rfl) ?_
    refine k_gov (ws' := [(a, .inr (7, [.int x_count, .ref q_op, .ref q_arg, .int x_handlers, .ref q_handler, .ref q_depth, .ref q_over, .int x_flatCount, .ref q_flatOp, .ref q_flatArg, .int x_flatHandlers, .ref q_flatHandler, .int x_blockCount, .ref q_leader, .ref q_last, .ref q_height, .ref q_state, .ref q_begin, .ref q_drawn, .ref q_order, .int x_g, .ref q_starters, .int x_ran, .int x_ended, .int x_result, .int x_steps, .int x_emits, .ref q_emitted, .ref q_locals, .ref q_stack, .int (nI ((((tq - 1) - 1) + 1) + 1)), .int x_at])), (q_locals, .inl (cI, 9, .inl lo)), (q_stack, .inl (cI, 24, .inl (upd (upd sk ((tq - 1) - 1) (sk (tq - 1))) (((tq - 1) - 1) + 1) (sk ((tq - 1) - 1)))))]) (wr := [(q_locals, .inl (cI, 9, .inl lo))]) (k_runV (q0 := 0) (As := [.int (sk ((tq - 1) - 1))]) (rest := []) (n := 1) S (c_MO_push l D cI cZ a q_op q_arg q_handler q_depth q_over q_flatOp q_flatArg q_flatHandler q_leader q_last q_height q_state q_begin q_drawn q_order q_starters q_emitted q_locals q_stack x_count x_handlers x_flatCount x_flatHandlers x_blockCount x_g x_ran x_ended x_result x_steps x_emits x_at (((tq - 1) - 1) + 1) (upd sk ((tq - 1) - 1) (sk (tq - 1))) (sk ((tq - 1) - 1)) (by omega)) E0_b E0_t ql_MO_230 qi_MO_push qs_MO_push qn_MO qc_MO_push (by decide +kernel) rfl ⟨rfl, rfl⟩ ⟨Nat.le_of_ble_eq_true rfl, Nat.le_of_ble_eq_true rfl⟩ hK hP hD [0, 2] rfl (by decide) rfl rfl hl.1 rfl (Nat.le_of_ble_eq_true rfl) d_MO_move_143 ⟨Nat.zero_le _, Nat.zero_le _⟩) hP hD hS hA [0, 2] [1] [1, 0, 2] rfl rfl (by decide) (by decide) rfl (by decide) (fun H locs hP hD hS => ?_)
    refine lv_aload_n hx hb d_MO_move_146 rfl (lv_at hl 2 rfl) ?_
    refine lv_dup hx hb d_MO_move_147 rfl ?_
    refine k_get (v := .int x_at) S in_MO hK hP 0 rfl rfl 31 (by decide) ql_MO_213 rfl d_MO_move_148 ?_
    refine lv_iconst (v := 1) hx hb d_MO_move_151 (by decide) ?_
    refine lv_iadd hx hb d_MO_move_152 ?_
    refine k_put (v := .int (x_at + 1)) (ws' := [(a, .inr (7, [.int x_count, .ref q_op, .ref q_arg, .int x_handlers, .ref q_handler, .ref q_depth, .ref q_over, .int x_flatCount, .ref q_flatOp, .ref q_flatArg, .int x_flatHandlers, .ref q_flatHandler, .int x_blockCount, .ref q_leader, .ref q_last, .ref q_height, .ref q_state, .ref q_begin, .ref q_drawn, .ref q_order, .int x_g, .ref q_starters, .int x_ran, .int x_ended, .int x_result, .int x_steps, .int x_emits, .ref q_emitted, .ref q_locals, .ref q_stack, .int (nI ((((tq - 1) - 1) + 1) + 1)), .int (x_at + 1)])), (q_locals, .inl (cI, 9, .inl lo)), (q_stack, .inl (cI, 24, .inl (upd (upd sk ((tq - 1) - 1) (sk (tq - 1))) (((tq - 1) - 1) + 1) (sk ((tq - 1) - 1)))))]) S in_MO ty_MO nm_MO hK hP hD hS 0 rfl rfl 31 (by decide) ql_MO_213 rfl rfl rfl rfl (Nat.le_of_ble_eq_true rfl) rfl d_MO_move_153 (fun H locs hP hD hS => ?_)
    exact k_vret hx hb hr hlocks hK hP hD hS (by rw [f_MO_move, if_neg h1_1, if_neg h1_2, if_neg h1_3, if_neg h1_4, if_neg h1_5, if_neg h1_6, if_neg h1_7, if_neg h1_8, if_neg h1_9, if_pos h1_10]) d_MO_move_156
  by_cases h1_11 : o = 8
  · skip
    refine k_top h1_11 ?_
    refine lv_tableIn (tgt := 124) hx hb d_MO_move_1 (by decide) (by decide) rfl (by decide) ?_
    refine lv_aload_n hx hb d_MO_move_124 rfl (lv_at hl 0 rfl) ?_
    refine k_goi (ws' := [(a, .inr (7, [.int x_count, .ref q_op, .ref q_arg, .int x_handlers, .ref q_handler, .ref q_depth, .ref q_over, .int x_flatCount, .ref q_flatOp, .ref q_flatArg, .int x_flatHandlers, .ref q_flatHandler, .int x_blockCount, .ref q_leader, .ref q_last, .ref q_height, .ref q_state, .ref q_begin, .ref q_drawn, .ref q_order, .int x_g, .ref q_starters, .int x_ran, .int x_ended, .int x_result, .int x_steps, .int x_emits, .ref q_emitted, .ref q_locals, .ref q_stack, .int (nI (tq - 1)), .int x_at])), (q_locals, .inl (cI, 9, .inl lo)), (q_stack, .inl (cI, 24, .inl sk))]) (wr := [(q_locals, .inl (cI, 9, .inl lo))]) (k_runV (q0 := 0) (As := []) (rest := []) (n := 0) S (c_MO_pop l D cI cZ a q_op q_arg q_handler q_depth q_over q_flatOp q_flatArg q_flatHandler q_leader q_last q_height q_state q_begin q_drawn q_order q_starters q_emitted q_locals q_stack x_count x_handlers x_flatCount x_flatHandlers x_blockCount x_g x_ran x_ended x_result x_steps x_emits x_at tq sk (by have := qd (by assumption) (by assumption) (by assumption) (by assumption) (by assumption); omega) (by omega)) E0_b E0_t ql_MO_219 qi_MO_pop qs_MO_pop qn_MO qc_MO_pop (by decide +kernel) rfl ⟨rfl, rfl⟩ ⟨Nat.le_of_ble_eq_true rfl, Nat.le_of_ble_eq_true rfl⟩ hK hP hD [0, 2] rfl (by decide) rfl rfl hl.1 rfl (Nat.le_of_ble_eq_true rfl) d_MO_move_125 ⟨Nat.zero_le _, Nat.zero_le _⟩) hP hD hS hA [0, 2] [1] [1, 0, 2] rfl rfl (by decide) (by decide) rfl (by decide) (fun H locs hP hD hS => ?_)
    refine lv_istore_n (lv' := [(3, .int (sk (tq - 1))), (0, .ref a), (1, .int o), (2, .int b)]) hx hb d_MO_move_128 rfl hl (by decide) rfl (fun ls hl => ?_)
    refine lv_aload_n hx hb d_MO_move_129 rfl (lv_at hl 1 rfl) ?_
    refine k_goi (ws' := [(a, .inr (7, [.int x_count, .ref q_op, .ref q_arg, .int x_handlers, .ref q_handler, .ref q_depth, .ref q_over, .int x_flatCount, .ref q_flatOp, .ref q_flatArg, .int x_flatHandlers, .ref q_flatHandler, .int x_blockCount, .ref q_leader, .ref q_last, .ref q_height, .ref q_state, .ref q_begin, .ref q_drawn, .ref q_order, .int x_g, .ref q_starters, .int x_ran, .int x_ended, .int x_result, .int x_steps, .int x_emits, .ref q_emitted, .ref q_locals, .ref q_stack, .int (nI ((tq - 1) - 1)), .int x_at])), (q_locals, .inl (cI, 9, .inl lo)), (q_stack, .inl (cI, 24, .inl sk))]) (wr := [(q_locals, .inl (cI, 9, .inl lo))]) (k_runV (q0 := 0) (As := []) (rest := []) (n := 0) S (c_MO_pop l D cI cZ a q_op q_arg q_handler q_depth q_over q_flatOp q_flatArg q_flatHandler q_leader q_last q_height q_state q_begin q_drawn q_order q_starters q_emitted q_locals q_stack x_count x_handlers x_flatCount x_flatHandlers x_blockCount x_g x_ran x_ended x_result x_steps x_emits x_at (tq - 1) sk (by have := qd (by assumption) (by assumption) (by assumption) (by assumption) (by assumption); omega) (by omega)) E0_b E0_t ql_MO_219 qi_MO_pop qs_MO_pop qn_MO qc_MO_pop (by decide +kernel) rfl ⟨rfl, rfl⟩ ⟨Nat.le_of_ble_eq_true rfl, Nat.le_of_ble_eq_true rfl⟩ hK hP hD [0, 2] rfl (by decide) rfl rfl hl.1 rfl (Nat.le_of_ble_eq_true rfl) d_MO_move_130 ⟨Nat.zero_le _, Nat.zero_le _⟩) hP hD hS hA [0, 2] [1] [1, 0, 2] rfl rfl (by decide) (by decide) rfl (by decide) (fun H locs hP hD hS => ?_)
    refine lv_istore (lv' := [(4, .int (sk ((tq - 1) - 1))), (3, .int (sk (tq - 1))), (0, .ref a), (1, .int o), (2, .int b)]) hx hb d_MO_move_133 hl (by decide) rfl (fun ls hl => ?_)
    refine lv_aload_n hx hb d_MO_move_135 rfl (lv_at hl 2 rfl) ?_
    refine lv_iload_n hx hb d_MO_move_136 rfl (lv_at hl 1 rfl) ?_
    refine k_gov (ws' := [(a, .inr (7, [.int x_count, .ref q_op, .ref q_arg, .int x_handlers, .ref q_handler, .ref q_depth, .ref q_over, .int x_flatCount, .ref q_flatOp, .ref q_flatArg, .int x_flatHandlers, .ref q_flatHandler, .int x_blockCount, .ref q_leader, .ref q_last, .ref q_height, .ref q_state, .ref q_begin, .ref q_drawn, .ref q_order, .int x_g, .ref q_starters, .int x_ran, .int x_ended, .int x_result, .int x_steps, .int x_emits, .ref q_emitted, .ref q_locals, .ref q_stack, .int (nI (((tq - 1) - 1) + 1)), .int x_at])), (q_locals, .inl (cI, 9, .inl lo)), (q_stack, .inl (cI, 24, .inl (upd sk ((tq - 1) - 1) (sk (tq - 1)))))]) (wr := [(q_locals, .inl (cI, 9, .inl lo))]) (k_runV (q0 := 0) (As := [.int (sk (tq - 1))]) (rest := []) (n := 1) S (c_MO_push l D cI cZ a q_op q_arg q_handler q_depth q_over q_flatOp q_flatArg q_flatHandler q_leader q_last q_height q_state q_begin q_drawn q_order q_starters q_emitted q_locals q_stack x_count x_handlers x_flatCount x_flatHandlers x_blockCount x_g x_ran x_ended x_result x_steps x_emits x_at ((tq - 1) - 1) sk (sk (tq - 1)) (by have := qd (by assumption) (by assumption) (by assumption) (by assumption) (by assumption); omega)) E0_b E0_t ql_MO_230 qi_MO_push qs_MO_push qn_MO qc_MO_push (by decide +kernel) rfl ⟨rfl, rfl⟩ ⟨Nat.le_of_ble_eq_true rfl, Nat.le_of_ble_eq_true rfl⟩ hK hP hD [0, 2] rfl (by decide) rfl rfl hl.1 rfl (Nat.le_of_ble_eq_true rfl) d_MO_move_137 ⟨Nat.zero_le _, Nat.zero_le _⟩) hP hD hS hA [0, 2] [1] [1, 0, 2] rfl rfl (by decide) (by decide) rfl (by decide) (fun H locs hP hD hS => ?_)
    refine lv_aload_n hx hb d_MO_move_140 rfl (lv_at hl 2 rfl) ?_
    refine lv_iload hx hb d_MO_move_141 (lv_at hl 0 rfl) ?_
    refine k_gov (ws' := [(a, .inr (7, [.int x_count, .ref q_op, .ref q_arg, .int x_handlers, .ref q_handler, .ref q_depth, .ref q_over, .int x_flatCount, .ref q_flatOp, .ref q_flatArg, .int x_flatHandlers, .ref q_flatHandler, .int x_blockCount, .ref q_leader, .ref q_last, .ref q_height, .ref q_state, .ref q_begin, .ref q_drawn, .ref q_order, .int x_g, .ref q_starters, .int x_ran, .int x_ended, .int x_result, .int x_steps, .int x_emits, .ref q_emitted, .ref q_locals, .ref q_stack, .int (nI ((((tq - 1) - 1) + 1) + 1)), .int x_at])), (q_locals, .inl (cI, 9, .inl lo)), (q_stack, .inl (cI, 24, .inl (upd (upd sk ((tq - 1) - 1) (sk (tq - 1))) (((tq - 1) - 1) + 1) (sk ((tq - 1) - 1)))))]) (wr := [(q_locals, .inl (cI, 9, .inl lo))]) (k_runV (q0 := 0) (As := [.int (sk ((tq - 1) - 1))]) (rest := []) (n := 1) S (c_MO_push l D cI cZ a q_op q_arg q_handler q_depth q_over q_flatOp q_flatArg q_flatHandler q_leader q_last q_height q_state q_begin q_drawn q_order q_starters q_emitted q_locals q_stack x_count x_handlers x_flatCount x_flatHandlers x_blockCount x_g x_ran x_ended x_result x_steps x_emits x_at (((tq - 1) - 1) + 1) (upd sk ((tq - 1) - 1) (sk (tq - 1))) (sk ((tq - 1) - 1)) (by omega)) E0_b E0_t ql_MO_230 qi_MO_push qs_MO_push qn_MO qc_MO_push (by decide +kernel) rfl ⟨rfl, rfl⟩ ⟨Nat.le_of_ble_eq_true rfl, Nat.le_of_ble_eq_true rfl⟩ hK hP hD [0, 2] rfl (by decide) rfl rfl hl.1 rfl (Nat.le_of_ble_eq_true rfl) d_MO_move_143 ⟨Nat.zero_le _, Nat.zero_le _⟩) hP hD hS hA [0, 2] [1] [1, 0, 2] rfl rfl (by decide) (by decide) rfl (by decide) (fun H locs hP hD hS => ?_)
    refine lv_aload_n hx hb d_MO_move_146 rfl (lv_at hl 2 rfl) ?_
    refine lv_dup hx hb d_MO_move_147 rfl ?_
    refine k_get (v := .int x_at) S in_MO hK hP 0 rfl rfl 31 (by decide) ql_MO_213 rfl d_MO_move_148 ?_
    refine lv_iconst (v := 1) hx hb d_MO_move_151 (by decide) ?_
    refine lv_iadd hx hb d_MO_move_152 ?_
    refine k_put (v := .int (x_at + 1)) (ws' := [(a, .inr (7, [.int x_count, .ref q_op, .ref q_arg, .int x_handlers, .ref q_handler, .ref q_depth, .ref q_over, .int x_flatCount, .ref q_flatOp, .ref q_flatArg, .int x_flatHandlers, .ref q_flatHandler, .int x_blockCount, .ref q_leader, .ref q_last, .ref q_height, .ref q_state, .ref q_begin, .ref q_drawn, .ref q_order, .int x_g, .ref q_starters, .int x_ran, .int x_ended, .int x_result, .int x_steps, .int x_emits, .ref q_emitted, .ref q_locals, .ref q_stack, .int (nI ((((tq - 1) - 1) + 1) + 1)), .int (x_at + 1)])), (q_locals, .inl (cI, 9, .inl lo)), (q_stack, .inl (cI, 24, .inl (upd (upd sk ((tq - 1) - 1) (sk (tq - 1))) (((tq - 1) - 1) + 1) (sk ((tq - 1) - 1)))))]) S in_MO ty_MO nm_MO hK hP hD hS 0 rfl rfl 31 (by decide) ql_MO_213 rfl rfl rfl rfl (Nat.le_of_ble_eq_true rfl) rfl d_MO_move_153 (fun H locs hP hD hS => ?_)
    exact k_vret hx hb hr hlocks hK hP hD hS (by rw [f_MO_move, if_neg h1_1, if_neg h1_2, if_neg h1_3, if_neg h1_4, if_neg h1_5, if_neg h1_6, if_neg h1_7, if_neg h1_8, if_neg h1_9, if_neg h1_10, if_pos h1_11]) d_MO_move_156
  by_cases h1_12 : o = 10
  · skip
    refine k_top h1_12 ?_
    refine lv_tableIn (tgt := 124) hx hb d_MO_move_1 (by decide) (by decide) rfl (by decide) ?_
    refine lv_aload_n hx hb d_MO_move_124 rfl (lv_at hl 0 rfl) ?_
    refine k_goi (ws' := [(a, .inr (7, [.int x_count, .ref q_op, .ref q_arg, .int x_handlers, .ref q_handler, .ref q_depth, .ref q_over, .int x_flatCount, .ref q_flatOp, .ref q_flatArg, .int x_flatHandlers, .ref q_flatHandler, .int x_blockCount, .ref q_leader, .ref q_last, .ref q_height, .ref q_state, .ref q_begin, .ref q_drawn, .ref q_order, .int x_g, .ref q_starters, .int x_ran, .int x_ended, .int x_result, .int x_steps, .int x_emits, .ref q_emitted, .ref q_locals, .ref q_stack, .int (nI (tq - 1)), .int x_at])), (q_locals, .inl (cI, 9, .inl lo)), (q_stack, .inl (cI, 24, .inl sk))]) (wr := [(q_locals, .inl (cI, 9, .inl lo))]) (k_runV (q0 := 0) (As := []) (rest := []) (n := 0) S (c_MO_pop l D cI cZ a q_op q_arg q_handler q_depth q_over q_flatOp q_flatArg q_flatHandler q_leader q_last q_height q_state q_begin q_drawn q_order q_starters q_emitted q_locals q_stack x_count x_handlers x_flatCount x_flatHandlers x_blockCount x_g x_ran x_ended x_result x_steps x_emits x_at tq sk (by have := qd (by assumption) (by assumption) (by assumption) (by assumption) (by assumption); omega) (by omega)) E0_b E0_t ql_MO_219 qi_MO_pop qs_MO_pop qn_MO qc_MO_pop (by decide +kernel) rfl ⟨rfl, rfl⟩ ⟨Nat.le_of_ble_eq_true rfl, Nat.le_of_ble_eq_true rfl⟩ hK hP hD [0, 2] rfl (by decide) rfl rfl hl.1 rfl (Nat.le_of_ble_eq_true rfl) d_MO_move_125 ⟨Nat.zero_le _, Nat.zero_le _⟩) hP hD hS hA [0, 2] [1] [1, 0, 2] rfl rfl (by decide) (by decide) rfl (by decide) (fun H locs hP hD hS => ?_)
    refine lv_istore_n (lv' := [(3, .int (sk (tq - 1))), (0, .ref a), (1, .int o), (2, .int b)]) hx hb d_MO_move_128 rfl hl (by decide) rfl (fun ls hl => ?_)
    refine lv_aload_n hx hb d_MO_move_129 rfl (lv_at hl 1 rfl) ?_
    refine k_goi (ws' := [(a, .inr (7, [.int x_count, .ref q_op, .ref q_arg, .int x_handlers, .ref q_handler, .ref q_depth, .ref q_over, .int x_flatCount, .ref q_flatOp, .ref q_flatArg, .int x_flatHandlers, .ref q_flatHandler, .int x_blockCount, .ref q_leader, .ref q_last, .ref q_height, .ref q_state, .ref q_begin, .ref q_drawn, .ref q_order, .int x_g, .ref q_starters, .int x_ran, .int x_ended, .int x_result, .int x_steps, .int x_emits, .ref q_emitted, .ref q_locals, .ref q_stack, .int (nI ((tq - 1) - 1)), .int x_at])), (q_locals, .inl (cI, 9, .inl lo)), (q_stack, .inl (cI, 24, .inl sk))]) (wr := [(q_locals, .inl (cI, 9, .inl lo))]) (k_runV (q0 := 0) (As := []) (rest := []) (n := 0) S (c_MO_pop l D cI cZ a q_op q_arg q_handler q_depth q_over q_flatOp q_flatArg q_flatHandler q_leader q_last q_height q_state q_begin q_drawn q_order q_starters q_emitted q_locals q_stack x_count x_handlers x_flatCount x_flatHandlers x_blockCount x_g x_ran x_ended x_result x_steps x_emits x_at (tq - 1) sk (by have := qd (by assumption) (by assumption) (by assumption) (by assumption) (by assumption); omega) (by omega)) E0_b E0_t ql_MO_219 qi_MO_pop qs_MO_pop qn_MO qc_MO_pop (by decide +kernel) rfl ⟨rfl, rfl⟩ ⟨Nat.le_of_ble_eq_true rfl, Nat.le_of_ble_eq_true rfl⟩ hK hP hD [0, 2] rfl (by decide) rfl rfl hl.1 rfl (Nat.le_of_ble_eq_true rfl) d_MO_move_130 ⟨Nat.zero_le _, Nat.zero_le _⟩) hP hD hS hA [0, 2] [1] [1, 0, 2] rfl rfl (by decide) (by decide) rfl (by decide) (fun H locs hP hD hS => ?_)
    refine lv_istore (lv' := [(4, .int (sk ((tq - 1) - 1))), (3, .int (sk (tq - 1))), (0, .ref a), (1, .int o), (2, .int b)]) hx hb d_MO_move_133 hl (by decide) rfl (fun ls hl => ?_)
    refine lv_aload_n hx hb d_MO_move_135 rfl (lv_at hl 2 rfl) ?_
    refine lv_iload_n hx hb d_MO_move_136 rfl (lv_at hl 1 rfl) ?_
    refine k_gov (ws' := [(a, .inr (7, [.int x_count, .ref q_op, .ref q_arg, .int x_handlers, .ref q_handler, .ref q_depth, .ref q_over, .int x_flatCount, .ref q_flatOp, .ref q_flatArg, .int x_flatHandlers, .ref q_flatHandler, .int x_blockCount, .ref q_leader, .ref q_last, .ref q_height, .ref q_state, .ref q_begin, .ref q_drawn, .ref q_order, .int x_g, .ref q_starters, .int x_ran, .int x_ended, .int x_result, .int x_steps, .int x_emits, .ref q_emitted, .ref q_locals, .ref q_stack, .int (nI (((tq - 1) - 1) + 1)), .int x_at])), (q_locals, .inl (cI, 9, .inl lo)), (q_stack, .inl (cI, 24, .inl (upd sk ((tq - 1) - 1) (sk (tq - 1)))))]) (wr := [(q_locals, .inl (cI, 9, .inl lo))]) (k_runV (q0 := 0) (As := [.int (sk (tq - 1))]) (rest := []) (n := 1) S (c_MO_push l D cI cZ a q_op q_arg q_handler q_depth q_over q_flatOp q_flatArg q_flatHandler q_leader q_last q_height q_state q_begin q_drawn q_order q_starters q_emitted q_locals q_stack x_count x_handlers x_flatCount x_flatHandlers x_blockCount x_g x_ran x_ended x_result x_steps x_emits x_at ((tq - 1) - 1) sk (sk (tq - 1)) (by have := qd (by assumption) (by assumption) (by assumption) (by assumption) (by assumption); omega)) E0_b E0_t ql_MO_230 qi_MO_push qs_MO_push qn_MO qc_MO_push (by decide +kernel) rfl ⟨rfl, rfl⟩ ⟨Nat.le_of_ble_eq_true rfl, Nat.le_of_ble_eq_true rfl⟩ hK hP hD [0, 2] rfl (by decide) rfl rfl hl.1 rfl (Nat.le_of_ble_eq_true rfl) d_MO_move_137 ⟨Nat.zero_le _, Nat.zero_le _⟩) hP hD hS hA [0, 2] [1] [1, 0, 2] rfl rfl (by decide) (by decide) rfl (by decide) (fun H locs hP hD hS => ?_)
    refine lv_aload_n hx hb d_MO_move_140 rfl (lv_at hl 2 rfl) ?_
    refine lv_iload hx hb d_MO_move_141 (lv_at hl 0 rfl) ?_
    refine k_gov (ws' := [(a, .inr (7, [.int x_count, .ref q_op, .ref q_arg, .int x_handlers, .ref q_handler, .ref q_depth, .ref q_over, .int x_flatCount, .ref q_flatOp, .ref q_flatArg, .int x_flatHandlers, .ref q_flatHandler, .int x_blockCount, .ref q_leader, .ref q_last, .ref q_height, .ref q_state, .ref q_begin, .ref q_drawn, .ref q_order, .int x_g, .ref q_starters, .int x_ran, .int x_ended, .int x_result, .int x_steps, .int x_emits, .ref q_emitted, .ref q_locals, .ref q_stack, .int (nI ((((tq - 1) - 1) + 1) + 1)), .int x_at])), (q_locals, .inl (cI, 9, .inl lo)), (q_stack, .inl (cI, 24, .inl (upd (upd sk ((tq - 1) - 1) (sk (tq - 1))) (((tq - 1) - 1) + 1) (sk ((tq - 1) - 1)))))]) (wr := [(q_locals, .inl (cI, 9, .inl lo))]) (k_runV (q0 := 0) (As := [.int (sk ((tq - 1) - 1))]) (rest := []) (n := 1) S (c_MO_push l D cI cZ a q_op q_arg q_handler q_depth q_over q_flatOp q_flatArg q_flatHandler q_leader q_last q_height q_state q_begin q_drawn q_order q_starters q_emitted q_locals q_stack x_count x_handlers x_flatCount x_flatHandlers x_blockCount x_g x_ran x_ended x_result x_steps x_emits x_at (((tq - 1) - 1) + 1) (upd sk ((tq - 1) - 1) (sk (tq - 1))) (sk ((tq - 1) - 1)) (by omega)) E0_b E0_t ql_MO_230 qi_MO_push qs_MO_push qn_MO qc_MO_push (by decide +kernel) rfl ⟨rfl, rfl⟩ ⟨Nat.le_of_ble_eq_true rfl, Nat.le_of_ble_eq_true rfl⟩ hK hP hD [0, 2] rfl (by decide) rfl rfl hl.1 rfl (Nat.le_of_ble_eq_true rfl) d_MO_move_143 ⟨Nat.zero_le _, Nat.zero_le _⟩) hP hD hS hA [0, 2] [1] [1, 0, 2] rfl rfl (by decide) (by decide) rfl (by decide) (fun H locs hP hD hS => ?_)
    refine lv_aload_n hx hb d_MO_move_146 rfl (lv_at hl 2 rfl) ?_
    refine lv_dup hx hb d_MO_move_147 rfl ?_
    refine k_get (v := .int x_at) S in_MO hK hP 0 rfl rfl 31 (by decide) ql_MO_213 rfl d_MO_move_148 ?_
    refine lv_iconst (v := 1) hx hb d_MO_move_151 (by decide) ?_
    refine lv_iadd hx hb d_MO_move_152 ?_
    refine k_put (v := .int (x_at + 1)) (ws' := [(a, .inr (7, [.int x_count, .ref q_op, .ref q_arg, .int x_handlers, .ref q_handler, .ref q_depth, .ref q_over, .int x_flatCount, .ref q_flatOp, .ref q_flatArg, .int x_flatHandlers, .ref q_flatHandler, .int x_blockCount, .ref q_leader, .ref q_last, .ref q_height, .ref q_state, .ref q_begin, .ref q_drawn, .ref q_order, .int x_g, .ref q_starters, .int x_ran, .int x_ended, .int x_result, .int x_steps, .int x_emits, .ref q_emitted, .ref q_locals, .ref q_stack, .int (nI ((((tq - 1) - 1) + 1) + 1)), .int (x_at + 1)])), (q_locals, .inl (cI, 9, .inl lo)), (q_stack, .inl (cI, 24, .inl (upd (upd sk ((tq - 1) - 1) (sk (tq - 1))) (((tq - 1) - 1) + 1) (sk ((tq - 1) - 1)))))]) S in_MO ty_MO nm_MO hK hP hD hS 0 rfl rfl 31 (by decide) ql_MO_213 rfl rfl rfl rfl (Nat.le_of_ble_eq_true rfl) rfl d_MO_move_153 (fun H locs hP hD hS => ?_)
    exact k_vret hx hb hr hlocks hK hP hD hS (by rw [f_MO_move, if_neg h1_1, if_neg h1_2, if_neg h1_3, if_neg h1_4, if_neg h1_5, if_neg h1_6, if_neg h1_7, if_neg h1_8, if_neg h1_9, if_neg h1_10, if_neg h1_11, if_pos h1_12]) d_MO_move_156
  refine lv_tableOut (tgt := 124) hx hb d_MO_move_1 (by have e0 := lv_neT h1_1 (show (0 : Int32).toInt = 0 by decide); have e1 := lv_neT h1_2 (show (1 : Int32).toInt = 1 by decide); have e2 := lv_neT h1_3 (show (2 : Int32).toInt = 2 by decide); have e3 := lv_neT h1_4 (show (9 : Int32).toInt = 9 by decide); have e4 := lv_neT h1_5 (show (11 : Int32).toInt = 11 by decide); have e5 := lv_neT h1_6 (show (3 : Int32).toInt = 3 by decide); have e6 := lv_neT h1_7 (show (4 : Int32).toInt = 4 by decide); have e7 := lv_neT h1_8 (show (5 : Int32).toInt = 5 by decide); have e8 := lv_neT h1_9 (show (6 : Int32).toInt = 6 by decide); have e9 := lv_neT h1_10 (show (7 : Int32).toInt = 7 by decide); have e10 := lv_neT h1_11 (show (8 : Int32).toInt = 8 by decide); have e11 := lv_neT h1_12 (show (10 : Int32).toInt = 10 by decide); omega) (by decide) ?_
  refine lv_aload_n hx hb d_MO_move_124 rfl (lv_at hl 0 rfl) ?_
  refine k_goi (ws' := [(a, .inr (7, [.int x_count, .ref q_op, .ref q_arg, .int x_handlers, .ref q_handler, .ref q_depth, .ref q_over, .int x_flatCount, .ref q_flatOp, .ref q_flatArg, .int x_flatHandlers, .ref q_flatHandler, .int x_blockCount, .ref q_leader, .ref q_last, .ref q_height, .ref q_state, .ref q_begin, .ref q_drawn, .ref q_order, .int x_g, .ref q_starters, .int x_ran, .int x_ended, .int x_result, .int x_steps, .int x_emits, .ref q_emitted, .ref q_locals, .ref q_stack, .int (nI (tq - 1)), .int x_at])), (q_locals, .inl (cI, 9, .inl lo)), (q_stack, .inl (cI, 24, .inl sk))]) (wr := [(q_locals, .inl (cI, 9, .inl lo))]) (k_runV (q0 := 0) (As := []) (rest := []) (n := 0) S (c_MO_pop l D cI cZ a q_op q_arg q_handler q_depth q_over q_flatOp q_flatArg q_flatHandler q_leader q_last q_height q_state q_begin q_drawn q_order q_starters q_emitted q_locals q_stack x_count x_handlers x_flatCount x_flatHandlers x_blockCount x_g x_ran x_ended x_result x_steps x_emits x_at tq sk (by have := qd (by assumption) (by assumption) (by assumption) (by assumption) (by assumption); omega) (by omega)) E0_b E0_t ql_MO_219 qi_MO_pop qs_MO_pop qn_MO qc_MO_pop (by decide +kernel) rfl ⟨rfl, rfl⟩ ⟨Nat.le_of_ble_eq_true rfl, Nat.le_of_ble_eq_true rfl⟩ hK hP hD [0, 2] rfl (by decide) rfl rfl hl.1 rfl (Nat.le_of_ble_eq_true rfl) d_MO_move_125 ⟨Nat.zero_le _, Nat.zero_le _⟩) hP hD hS hA [0, 2] [1] [1, 0, 2] rfl rfl (by decide) (by decide) rfl (by decide) (fun H locs hP hD hS => ?_)
  refine lv_istore_n (lv' := [(3, .int (sk (tq - 1))), (0, .ref a), (1, .int o), (2, .int b)]) hx hb d_MO_move_128 rfl hl (by decide) rfl (fun ls hl => ?_)
  refine lv_aload_n hx hb d_MO_move_129 rfl (lv_at hl 1 rfl) ?_
  refine k_goi (ws' := [(a, .inr (7, [.int x_count, .ref q_op, .ref q_arg, .int x_handlers, .ref q_handler, .ref q_depth, .ref q_over, .int x_flatCount, .ref q_flatOp, .ref q_flatArg, .int x_flatHandlers, .ref q_flatHandler, .int x_blockCount, .ref q_leader, .ref q_last, .ref q_height, .ref q_state, .ref q_begin, .ref q_drawn, .ref q_order, .int x_g, .ref q_starters, .int x_ran, .int x_ended, .int x_result, .int x_steps, .int x_emits, .ref q_emitted, .ref q_locals, .ref q_stack, .int (nI ((tq - 1) - 1)), .int x_at])), (q_locals, .inl (cI, 9, .inl lo)), (q_stack, .inl (cI, 24, .inl sk))]) (wr := [(q_locals, .inl (cI, 9, .inl lo))]) (k_runV (q0 := 0) (As := []) (rest := []) (n := 0) S (c_MO_pop l D cI cZ a q_op q_arg q_handler q_depth q_over q_flatOp q_flatArg q_flatHandler q_leader q_last q_height q_state q_begin q_drawn q_order q_starters q_emitted q_locals q_stack x_count x_handlers x_flatCount x_flatHandlers x_blockCount x_g x_ran x_ended x_result x_steps x_emits x_at (tq - 1) sk (by have := qd (by assumption) (by assumption) (by assumption) (by assumption) (by assumption); omega) (by omega)) E0_b E0_t ql_MO_219 qi_MO_pop qs_MO_pop qn_MO qc_MO_pop (by decide +kernel) rfl ⟨rfl, rfl⟩ ⟨Nat.le_of_ble_eq_true rfl, Nat.le_of_ble_eq_true rfl⟩ hK hP hD [0, 2] rfl (by decide) rfl rfl hl.1 rfl (Nat.le_of_ble_eq_true rfl) d_MO_move_130 ⟨Nat.zero_le _, Nat.zero_le _⟩) hP hD hS hA [0, 2] [1] [1, 0, 2] rfl rfl (by decide) (by decide) rfl (by decide) (fun H locs hP hD hS => ?_)
  refine lv_istore (lv' := [(4, .int (sk ((tq - 1) - 1))), (3, .int (sk (tq - 1))), (0, .ref a), (1, .int o), (2, .int b)]) hx hb d_MO_move_133 hl (by decide) rfl (fun ls hl => ?_)
  refine lv_aload_n hx hb d_MO_move_135 rfl (lv_at hl 2 rfl) ?_
  refine lv_iload_n hx hb d_MO_move_136 rfl (lv_at hl 1 rfl) ?_
  refine k_gov (ws' := [(a, .inr (7, [.int x_count, .ref q_op, .ref q_arg, .int x_handlers, .ref q_handler, .ref q_depth, .ref q_over, .int x_flatCount, .ref q_flatOp, .ref q_flatArg, .int x_flatHandlers, .ref q_flatHandler, .int x_blockCount, .ref q_leader, .ref q_last, .ref q_height, .ref q_state, .ref q_begin, .ref q_drawn, .ref q_order, .int x_g, .ref q_starters, .int x_ran, .int x_ended, .int x_result, .int x_steps, .int x_emits, .ref q_emitted, .ref q_locals, .ref q_stack, .int (nI (((tq - 1) - 1) + 1)), .int x_at])), (q_locals, .inl (cI, 9, .inl lo)), (q_stack, .inl (cI, 24, .inl (upd sk ((tq - 1) - 1) (sk (tq - 1)))))]) (wr := [(q_locals, .inl (cI, 9, .inl lo))]) (k_runV (q0 := 0) (As := [.int (sk (tq - 1))]) (rest := []) (n := 1) S (c_MO_push l D cI cZ a q_op q_arg q_handler q_depth q_over q_flatOp q_flatArg q_flatHandler q_leader q_last q_height q_state q_begin q_drawn q_order q_starters q_emitted q_locals q_stack x_count x_handlers x_flatCount x_flatHandlers x_blockCount x_g x_ran x_ended x_result x_steps x_emits x_at ((tq - 1) - 1) sk (sk (tq - 1)) (by have := qd (by assumption) (by assumption) (by assumption) (by assumption) (by assumption); omega)) E0_b E0_t ql_MO_230 qi_MO_push qs_MO_push qn_MO qc_MO_push (by decide +kernel) rfl ⟨rfl, rfl⟩ ⟨Nat.le_of_ble_eq_true rfl, Nat.le_of_ble_eq_true rfl⟩ hK hP hD [0, 2] rfl (by decide) rfl rfl hl.1 rfl (Nat.le_of_ble_eq_true rfl) d_MO_move_137 ⟨Nat.zero_le _, Nat.zero_le _⟩) hP hD hS hA [0, 2] [1] [1, 0, 2] rfl rfl (by decide) (by decide) rfl (by decide) (fun H locs hP hD hS => ?_)
  refine lv_aload_n hx hb d_MO_move_140 rfl (lv_at hl 2 rfl) ?_
  refine lv_iload hx hb d_MO_move_141 (lv_at hl 0 rfl) ?_
  refine k_gov (ws' := [(a, .inr (7, [.int x_count, .ref q_op, .ref q_arg, .int x_handlers, .ref q_handler, .ref q_depth, .ref q_over, .int x_flatCount, .ref q_flatOp, .ref q_flatArg, .int x_flatHandlers, .ref q_flatHandler, .int x_blockCount, .ref q_leader, .ref q_last, .ref q_height, .ref q_state, .ref q_begin, .ref q_drawn, .ref q_order, .int x_g, .ref q_starters, .int x_ran, .int x_ended, .int x_result, .int x_steps, .int x_emits, .ref q_emitted, .ref q_locals, .ref q_stack, .int (nI ((((tq - 1) - 1) + 1) + 1)), .int x_at])), (q_locals, .inl (cI, 9, .inl lo)), (q_stack, .inl (cI, 24, .inl (upd (upd sk ((tq - 1) - 1) (sk (tq - 1))) (((tq - 1) - 1) + 1) (sk ((tq - 1) - 1)))))]) (wr := [(q_locals, .inl (cI, 9, .inl lo))]) (k_runV (q0 := 0) (As := [.int (sk ((tq - 1) - 1))]) (rest := []) (n := 1) S (c_MO_push l D cI cZ a q_op q_arg q_handler q_depth q_over q_flatOp q_flatArg q_flatHandler q_leader q_last q_height q_state q_begin q_drawn q_order q_starters q_emitted q_locals q_stack x_count x_handlers x_flatCount x_flatHandlers x_blockCount x_g x_ran x_ended x_result x_steps x_emits x_at (((tq - 1) - 1) + 1) (upd sk ((tq - 1) - 1) (sk (tq - 1))) (sk ((tq - 1) - 1)) (by omega)) E0_b E0_t ql_MO_230 qi_MO_push qs_MO_push qn_MO qc_MO_push (by decide +kernel) rfl ⟨rfl, rfl⟩ ⟨Nat.le_of_ble_eq_true rfl, Nat.le_of_ble_eq_true rfl⟩ hK hP hD [0, 2] rfl (by decide) rfl rfl hl.1 rfl (Nat.le_of_ble_eq_true rfl) d_MO_move_143 ⟨Nat.zero_le _, Nat.zero_le _⟩) hP hD hS hA [0, 2] [1] [1, 0, 2] rfl rfl (by decide) (by decide) rfl (by decide) (fun H locs hP hD hS => ?_)
  refine lv_aload_n hx hb d_MO_move_146 rfl (lv_at hl 2 rfl) ?_
  refine lv_dup hx hb d_MO_move_147 rfl ?_
  refine k_get (v := .int x_at) S in_MO hK hP 0 rfl rfl 31 (by decide) ql_MO_213 rfl d_MO_move_148 ?_
  refine lv_iconst (v := 1) hx hb d_MO_move_151 (by decide) ?_
  refine lv_iadd hx hb d_MO_move_152 ?_
  refine k_put (v := .int (x_at + 1)) (ws' := [(a, .inr (7, [.int x_count, .ref q_op, .ref q_arg, .int x_handlers, .ref q_handler, .ref q_depth, .ref q_over, .int x_flatCount, .ref q_flatOp, .ref q_flatArg, .int x_flatHandlers, .ref q_flatHandler, .int x_blockCount, .ref q_leader, .ref q_last, .ref q_height, .ref q_state, .ref q_begin, .ref q_drawn, .ref q_order, .int x_g, .ref q_starters, .int x_ran, .int x_ended, .int x_result, .int x_steps, .int x_emits, .ref q_emitted, .ref q_locals, .ref q_stack, .int (nI ((((tq - 1) - 1) + 1) + 1)), .int (x_at + 1)])), (q_locals, .inl (cI, 9, .inl lo)), (q_stack, .inl (cI, 24, .inl (upd (upd sk ((tq - 1) - 1) (sk (tq - 1))) (((tq - 1) - 1) + 1) (sk ((tq - 1) - 1)))))]) S in_MO ty_MO nm_MO hK hP hD hS 0 rfl rfl 31 (by decide) ql_MO_213 rfl rfl rfl rfl (Nat.le_of_ble_eq_true rfl) rfl d_MO_move_153 (fun H locs hP hD hS => ?_)
  exact k_vret hx hb hr hlocks hK hP hD hS (by rw [f_MO_move, if_neg h1_1, if_neg h1_2, if_neg h1_3, if_neg h1_4, if_neg h1_5, if_neg h1_6, if_neg h1_7, if_neg h1_8, if_neg h1_9, if_neg h1_10, if_neg h1_11, if_neg h1_12]) d_MO_move_156
