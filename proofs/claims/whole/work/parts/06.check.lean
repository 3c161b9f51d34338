theorem d_MO_clear_0 : decode b_MO_clear 0 = .ok (.aload_n 0, 1) := by decide +kernel
theorem d_MO_clear_1 : decode b_MO_clear 1 = .ok (.iconst 0, 1) := by decide +kernel
theorem d_MO_clear_2 : decode b_MO_clear 2 = .ok (.putfield 77, 3) := by decide +kernel
theorem d_MO_clear_5 : decode b_MO_clear 5 = .ok (.aload_n 0, 1) := by decide +kernel
theorem d_MO_clear_6 : decode b_MO_clear 6 = .ok (.iconst 0, 1) := by decide +kernel
theorem d_MO_clear_7 : decode b_MO_clear 7 = .ok (.putfield 80, 3) := by decide +kernel
theorem d_MO_clear_10 : decode b_MO_clear 10 = .ok (.return_, 1) := by decide +kernel
set_option maxHeartbeats 1000000 in
set_option maxRecDepth 100000 in
theorem c_MO_clear (l : Launch) (D : va_G) (cI cZ : ClassId) (a q_op q_arg q_handler q_depth q_over q_flatOp q_flatArg q_flatHandler q_leader q_last q_height q_state q_begin q_drawn q_order q_starters q_emitted q_locals q_stack : Nat) (x_count x_handlers x_flatCount x_flatHandlers x_blockCount x_g x_ran x_ended x_result x_steps x_emits x_top x_at : Int32) : MG l y_MO_clear w_MO_clear (rmK 0 0) D classes (tyz cI cZ) E0 [.ref a] [(a, .inr (7, [.int x_count, .ref q_op, .ref q_arg, .int x_handlers, .ref q_handler, .ref q_depth, .ref q_over, .int x_flatCount, .ref q_flatOp, .ref q_flatArg, .int x_flatHandlers, .ref q_flatHandler, .int x_blockCount, .ref q_leader, .ref q_last, .ref q_height, .ref q_state, .ref q_begin, .ref q_drawn, .ref q_order, .int x_g, .ref q_starters, .int x_ran, .int x_ended, .int x_result, .int x_steps, .int x_emits, .ref q_emitted, .ref q_locals, .ref q_stack, .int x_top, .int x_at]))] (RV D classes (tyz cI cZ) [(a, .inr (7, [.int (nI 0), .ref q_op, .ref q_arg, .int (nI 0), .ref q_handler, .ref q_depth, .ref q_over, .int x_flatCount, .ref q_flatOp, .ref q_flatArg, .int x_flatHandlers, .ref q_flatHandler, .int x_blockCount, .ref q_leader, .ref q_last, .ref q_height, .ref q_state, .ref q_begin, .ref q_drawn, .ref q_order, .int x_g, .ref q_starters, .int x_ran, .int x_ended, .int x_result, .int x_steps, .int x_emits, .ref q_emitted, .ref q_locals, .ref q_stack, .int x_top, .int x_at]))]) := by
  refine MG.of (cc := b_MO_clear) (maxL := 1) (ret := none) (own := "FlowFlattenerModel") rfl (by decide) rfl (Nat.le_of_ble_eq_true rfl) ?_
  intro p e s m below meth c A ls S hr hlocks hA hP hK hD hS hE hl
  have hx := S.1
  have hb := S.2.1
  have hl : lv_has ls 1 [(0, .ref a)] := hl
  refine lv_aload_n hx hb d_MO_clear_0 rfl (lv_at hl 0 rfl) ?_
  refine lv_iconst (v := nI 0) hx hb d_MO_clear_1 (by decide) ?_
  refine k_put (v := .int (nI 0)) (ws' := [(a, .inr (7, [.int (nI 0), .ref q_op, .ref q_arg, .int x_handlers, .ref q_handler, .ref q_depth, .ref q_over, .int x_flatCount, .ref q_flatOp, .ref q_flatArg, .int x_flatHandlers, .ref q_flatHandler, .int x_blockCount, .ref q_leader, .ref q_last, .ref q_height, .ref q_state, .ref q_begin, .ref q_drawn, .ref q_order, .int x_g, .ref q_starters, .int x_ran, .int x_ended, .int x_result, .int x_steps, .int x_emits, .ref q_emitted, .ref q_locals, .ref q_stack, .int x_top, .int x_at]))]) S in_MO ty_MO nm_MO hK hP hD hS 0 rfl rfl 0 (by decide) ql_MO_77 rfl rfl rfl rfl (Nat.le_of_ble_eq_true rfl) rfl d_MO_clear_2 (fun H locs hP hD hS => ?_)
  refine lv_aload_n hx hb d_MO_clear_5 rfl (lv_at hl 0 rfl) ?_
  refine lv_iconst (v := nI 0) hx hb d_MO_clear_6 (by decide) ?_
  refine k_put (v := .int (nI 0)) (ws' := [(a, .inr (7, [.int (nI 0), .ref q_op, .ref q_arg, .int (nI 0), .ref q_handler, .ref q_depth, .ref q_over, .int x_flatCount, .ref q_flatOp, .ref q_flatArg, .int x_flatHandlers, .ref q_flatHandler, .int x_blockCount, .ref q_leader, .ref q_last, .ref q_height, .ref q_state, .ref q_begin, .ref q_drawn, .ref q_order, .int x_g, .ref q_starters, .int x_ran, .int x_ended, .int x_result, .int x_steps, .int x_emits, .ref q_emitted, .ref q_locals, .ref q_stack, .int x_top, .int x_at]))]) S in_MO ty_MO nm_MO hK hP hD hS 0 rfl rfl 3 (by decide) ql_MO_80 rfl rfl rfl rfl (Nat.le_of_ble_eq_true rfl) rfl d_MO_clear_7 (fun H locs hP hD hS => ?_)
  exact k_vret hx hb hr hlocks hK hP hD hS rfl d_MO_clear_10

theorem d_MO_add_0 : decode b_MO_add 0 = .ok (.iload_n 1, 1) := by decide +kernel
theorem d_MO_add_1 : decode b_MO_add 1 = .ok (.iconst 1, 1) := by decide +kernel
theorem d_MO_add_2 : decode b_MO_add 2 = .ok (.if_icmp .eq 8, 3) := by decide +kernel
theorem d_MO_add_5 : decode b_MO_add 5 = .ok (.iload_n 1, 1) := by decide +kernel
theorem d_MO_add_6 : decode b_MO_add 6 = .ok (.iconst 2, 1) := by decide +kernel
theorem d_MO_add_7 : decode b_MO_add 7 = .ok (.if_icmp .ne 7, 3) := by decide +kernel
theorem d_MO_add_10 : decode b_MO_add 10 = .ok (.iconst 1, 1) := by decide +kernel
theorem d_MO_add_11 : decode b_MO_add 11 = .ok (.goto 4, 3) := by decide +kernel
theorem d_MO_add_14 : decode b_MO_add 14 = .ok (.iconst 0, 1) := by decide +kernel
theorem d_MO_add_15 : decode b_MO_add 15 = .ok (.istore_n 3, 1) := by decide +kernel
theorem d_MO_add_16 : decode b_MO_add 16 = .ok (.iload_n 1, 1) := by decide +kernel
theorem d_MO_add_17 : decode b_MO_add 17 = .ok (.bipush 17, 2) := by decide +kernel
theorem d_MO_add_19 : decode b_MO_add 19 = .ok (.invokestatic 83, 3) := by decide +kernel
theorem d_MO_add_22 : decode b_MO_add 22 = .ok (.ifCond .ne 40, 3) := by decide +kernel
theorem d_MO_add_25 : decode b_MO_add 25 = .ok (.aload_n 0, 1) := by decide +kernel
theorem d_MO_add_26 : decode b_MO_add 26 = .ok (.getfield 77, 3) := by decide +kernel
theorem d_MO_add_29 : decode b_MO_add 29 = .ok (.bipush 32, 2) := by decide +kernel
theorem d_MO_add_31 : decode b_MO_add 31 = .ok (.if_icmp .eq 31, 3) := by decide +kernel
theorem d_MO_add_34 : decode b_MO_add 34 = .ok (.iload_n 3, 1) := by decide +kernel
theorem d_MO_add_35 : decode b_MO_add 35 = .ok (.ifCond .eq 11, 3) := by decide +kernel
theorem d_MO_add_38 : decode b_MO_add 38 = .ok (.iload_n 2, 1) := by decide +kernel
theorem d_MO_add_39 : decode b_MO_add 39 = .ok (.iconst 3, 1) := by decide +kernel
theorem d_MO_add_40 : decode b_MO_add 40 = .ok (.invokestatic 83, 3) := by decide +kernel
theorem d_MO_add_43 : decode b_MO_add 43 = .ok (.ifCond .ne 19, 3) := by decide +kernel
theorem d_MO_add_46 : decode b_MO_add 46 = .ok (.iload_n 1, 1) := by decide +kernel
theorem d_MO_add_47 : decode b_MO_add 47 = .ok (.invokestatic 73, 3) := by decide +kernel
theorem d_MO_add_50 : decode b_MO_add 50 = .ok (.ifCond .eq 14, 3) := by decide +kernel
theorem d_MO_add_53 : decode b_MO_add 53 = .ok (.iload_n 2, 1) := by decide +kernel
theorem d_MO_add_54 : decode b_MO_add 54 = .ok (.bipush 31, 2) := by decide +kernel
theorem d_MO_add_56 : decode b_MO_add 56 = .ok (.invokestatic 83, 3) := by decide +kernel
theorem d_MO_add_59 : decode b_MO_add 59 = .ok (.ifCond .eq 5, 3) := by decide +kernel
theorem d_MO_add_62 : decode b_MO_add 62 = .ok (.iconst (-1), 1) := by decide +kernel
theorem d_MO_add_63 : decode b_MO_add 63 = .ok (.ireturn, 1) := by decide +kernel
theorem d_MO_add_64 : decode b_MO_add 64 = .ok (.aload_n 0, 1) := by decide +kernel
theorem d_MO_add_65 : decode b_MO_add 65 = .ok (.getfield 7, 3) := by decide +kernel
theorem d_MO_add_68 : decode b_MO_add 68 = .ok (.aload_n 0, 1) := by decide +kernel
theorem d_MO_add_69 : decode b_MO_add 69 = .ok (.getfield 77, 3) := by decide +kernel
theorem d_MO_add_72 : decode b_MO_add 72 = .ok (.iload_n 1, 1) := by decide +kernel
theorem d_MO_add_73 : decode b_MO_add 73 = .ok (.iastore, 1) := by decide +kernel
theorem d_MO_add_74 : decode b_MO_add 74 = .ok (.aload_n 0, 1) := by decide +kernel
theorem d_MO_add_75 : decode b_MO_add 75 = .ok (.getfield 13, 3) := by decide +kernel
theorem d_MO_add_78 : decode b_MO_add 78 = .ok (.aload_n 0, 1) := by decide +kernel
theorem d_MO_add_79 : decode b_MO_add 79 = .ok (.getfield 77, 3) := by decide +kernel
theorem d_MO_add_82 : decode b_MO_add 82 = .ok (.iload_n 1, 1) := by decide +kernel
theorem d_MO_add_83 : decode b_MO_add 83 = .ok (.invokestatic 87, 3) := by decide +kernel
theorem d_MO_add_86 : decode b_MO_add 86 = .ok (.ifCond .eq 7, 3) := by decide +kernel
theorem d_MO_add_89 : decode b_MO_add 89 = .ok (.iload_n 2, 1) := by decide +kernel
theorem d_MO_add_90 : decode b_MO_add 90 = .ok (.goto 4, 3) := by decide +kernel
theorem d_MO_add_93 : decode b_MO_add 93 = .ok (.iconst 0, 1) := by decide +kernel
theorem d_MO_add_94 : decode b_MO_add 94 = .ok (.iastore, 1) := by decide +kernel
theorem d_MO_add_95 : decode b_MO_add 95 = .ok (.aload_n 0, 1) := by decide +kernel
theorem d_MO_add_96 : decode b_MO_add 96 = .ok (.dup, 1) := by decide +kernel
theorem d_MO_add_97 : decode b_MO_add 97 = .ok (.getfield 77, 3) := by decide +kernel
theorem d_MO_add_100 : decode b_MO_add 100 = .ok (.iconst 1, 1) := by decide +kernel
theorem d_MO_add_101 : decode b_MO_add 101 = .ok (.iadd, 1) := by decide +kernel
theorem d_MO_add_102 : decode b_MO_add 102 = .ok (.putfield 77, 3) := by decide +kernel
theorem d_MO_add_105 : decode b_MO_add 105 = .ok (.aload_n 0, 1) := by decide +kernel
theorem d_MO_add_106 : decode b_MO_add 106 = .ok (.getfield 77, 3) := by decide +kernel
theorem d_MO_add_109 : decode b_MO_add 109 = .ok (.iconst 1, 1) := by decide +kernel
theorem d_MO_add_110 : decode b_MO_add 110 = .ok (.isub, 1) := by decide +kernel
theorem d_MO_add_111 : decode b_MO_add 111 = .ok (.ireturn, 1) := by decide +kernel
def f_MO_add (n : Nat) (op : Nat → Int32) (ar : Nat → Int32) (o : Int32) (b : Int32) : Int32 × Nat × (Nat → Int32) × (Nat → Int32) := (if o = 1 then (if f_MO_outside o 17 = 0 then (if n = 32 then ((-1), n, op, ar) else (if f_MO_outside b 3 = 0 then (if f_MO_jumps o = 0 then (if f_MO_bears o = 0 then (nI (n + 1 - 1), n + 1, upd op n o, upd ar n 0) else (nI (n + 1 - 1), n + 1, upd op n o, upd ar n b)) else (if f_MO_outside b 31 = 0 then (if f_MO_bears o = 0 then (nI (n + 1 - 1), n + 1, upd op n o, upd ar n 0) else (nI (n + 1 - 1), n + 1, upd op n o, upd ar n b)) else ((-1), n, op, ar))) else ((-1), n, op, ar))) else ((-1), n, op, ar)) else (if o = 2 then (if f_MO_outside o 17 = 0 then (if n = 32 then ((-1), n, op, ar) else (if f_MO_outside b 3 = 0 then (if f_MO_jumps o = 0 then (if f_MO_bears o = 0 then (nI (n + 1 - 1), n + 1, upd op n o, upd ar n 0) else (nI (n + 1 - 1), n + 1, upd op n o, upd ar n b)) else (if f_MO_outside b 31 = 0 then (if f_MO_bears o = 0 then (nI (n + 1 - 1), n + 1, upd op n o, upd ar n 0) else (nI (n + 1 - 1), n + 1, upd op n o, upd ar n b)) else ((-1), n, op, ar))) else ((-1), n, op, ar))) else ((-1), n, op, ar)) else (if f_MO_outside o 17 = 0 then (if n = 32 then ((-1), n, op, ar) else (if f_MO_jumps o = 0 then (if f_MO_bears o = 0 then (nI (n + 1 - 1), n + 1, upd op n o, upd ar n 0) else (nI (n + 1 - 1), n + 1, upd op n o, upd ar n b)) else (if f_MO_outside b 31 = 0 then (if f_MO_bears o = 0 then (nI (n + 1 - 1), n + 1, upd op n o, upd ar n 0) else (nI (n + 1 - 1), n + 1, upd op n o, upd ar n b)) else ((-1), n, op, ar)))) else ((-1), n, op, ar))))
set_option maxHeartbeats 1000000 in
set_option maxRecDepth 100000 in
theorem c_MO_add (l : Launch) (D : va_G) (cI cZ : ClassId) (a q_op q_arg q_handler q_depth q_over q_flatOp q_flatArg q_flatHandler q_leader q_last q_height q_state q_begin q_drawn q_order q_starters q_emitted q_locals q_stack : Nat) (x_handlers x_flatCount x_flatHandlers x_blockCount x_g x_ran x_ended x_result x_steps x_emits x_top x_at : Int32) (n : Nat) (op ar : Nat → Int32) (o b : Int32) (hn : n ≤ 32) : MG l y_MO_add w_MO_add (rmK 2 40) D classes (tyz cI cZ) E0 [.ref a, .int o, .int b] [(a, .inr (7, [.int (nI n), .ref q_op, .ref q_arg, .int x_handlers, .ref q_handler, .ref q_depth, .ref q_over, .int x_flatCount, .ref q_flatOp, .ref q_flatArg, .int x_flatHandlers, .ref q_flatHandler, .int x_blockCount, .ref q_leader, .ref q_last, .ref q_height, .ref q_state, .ref q_begin, .ref q_drawn, .ref q_order, .int x_g, .ref q_starters, .int x_ran, .int x_ended, .int x_result, .int x_steps, .int x_emits, .ref q_emitted, .ref q_locals, .ref q_stack, .int x_top, .int x_at])), (q_op, .inl (cI, 32, .inl op)), (q_arg, .inl (cI, 32, .inl ar))] (RI D classes (tyz cI cZ) ((f_MO_add n op ar o b).1) [(a, .inr (7, [.int (nI ((f_MO_add n op ar o b).2.1)), .ref q_op, .ref q_arg, .int x_handlers, .ref q_handler, .ref q_depth, .ref q_over, .int x_flatCount, .ref q_flatOp, .ref q_flatArg, .int x_flatHandlers, .ref q_flatHandler, .int x_blockCount, .ref q_leader, .ref q_last, .ref q_height, .ref q_state, .ref q_begin, .ref q_drawn, .ref q_order, .int x_g, .ref q_starters, .int x_ran, .int x_ended, .int x_result, .int x_steps, .int x_emits, .ref q_emitted, .ref q_locals, .ref q_stack, .int x_top, .int x_at])), (q_op, .inl (cI, 32, .inl ((f_MO_add n op ar o b).2.2.1))), (q_arg, .inl (cI, 32, .inl ((f_MO_add n op ar o b).2.2.2)))]) := by
  refine MG.of (cc := b_MO_add) (maxL := 4) (ret := (some .int)) (own := "FlowFlattenerModel") rfl (by decide) rfl (Nat.le_of_ble_eq_true rfl) ?_
  intro p e s m below meth c A ls S hr hlocks hA hP hK hD hS hE hl
  have hx := S.1
  have hb := S.2.1
  have hl : lv_has ls 4 [(0, .ref a), (1, .int o), (2, .int b)] := hl
  refine lv_iload_n hx hb d_MO_add_0 rfl (lv_at hl 1 rfl) ?_
  refine lv_iconst (v := 1) hx hb d_MO_add_1 (by decide) ?_
  refine lv_icmp_eq (tgt := 10) hx hb d_MO_add_2 (by decide) (fun h2_1 => ?_) (fun h2_1 => ?_)
  · skip
    refine lv_iconst (v := 1) hx hb d_MO_add_10 (by decide) ?_
    refine lv_goto (tgt := 15) hx hb d_MO_add_11 (by decide) ?_
    refine lv_istore_n (lv' := [(3, .int 1), (0, .ref a), (1, .int o), (2, .int b)]) hx hb d_MO_add_15 rfl hl (by decide) rfl (fun ls hl => ?_)
    refine lv_iload_n hx hb d_MO_add_16 rfl (lv_at hl 2 rfl) ?_
    refine lv_bipush (v := 17) hx hb d_MO_add_17 (by decide) ?_
    refine k_goi (ws' := [(a, .inr (7, [.int (nI n), .ref q_op, .ref q_arg, .int x_handlers, .ref q_handler, .ref q_depth, .ref q_over, .int x_flatCount, .ref q_flatOp, .ref q_flatArg, .int x_flatHandlers, .ref q_flatHandler, .int x_blockCount, .ref q_leader, .ref q_last, .ref q_height, .ref q_state, .ref q_begin, .ref q_drawn, .ref q_order, .int x_g, .ref q_starters, .int x_ran, .int x_ended, .int x_result, .int x_steps, .int x_emits, .ref q_emitted, .ref q_locals, .ref q_stack, .int x_top, .int x_at])), (q_op, .inl (cI, 32, .inl op)), (q_arg, .inl (cI, 32, .inl ar))]) (wr := [(a, .inr (7, [.int (nI n), .ref q_op, .ref q_arg, .int x_handlers, .ref q_handler, .ref q_depth, .ref q_over, .int x_flatCount, .ref q_flatOp, .ref q_flatArg, .int x_flatHandlers, .ref q_flatHandler, .int x_blockCount, .ref q_leader, .ref q_last, .ref q_height, .ref q_state, .ref q_begin, .ref q_drawn, .ref q_order, .int x_g, .ref q_starters, .int x_ran, .int x_ended, .int x_result, .int x_steps, .int x_emits, .ref q_emitted, .ref q_locals, .ref q_stack, .int x_top, .int x_at])), (q_op, .inl (cI, 32, .inl op)), (q_arg, .inl (cI, 32, .inl ar))]) (k_runS (As := [.int o, .int 17]) (rest := []) (n := 2) S (c_MO_outside l D cI cZ o 17) E0_b E0_t ql_MO_83 qt_MO_outside qn_MO qc_MO_outside (by decide +kernel) rfl ⟨rfl, rfl⟩ ⟨Nat.le_of_ble_eq_true rfl, Nat.le_of_ble_eq_true rfl⟩ hK hP hD [] rfl (by decide) hl.1 rfl (Nat.le_of_ble_eq_true rfl) d_MO_add_19 ⟨Nat.zero_le _, Nat.zero_le _⟩) hP hD hS hA [] [0, 1, 2] [0, 1, 2] rfl rfl (by decide) (by decide) rfl (by decide) (fun H locs hP hD hS => ?_)
    refine lv_if_ne (tgt := 62) hx hb d_MO_add_22 (by decide) (fun h22_2 => ?_) (fun h22_2 => ?_)
    · skip
      refine lv_iconst (v := (-1)) hx hb d_MO_add_62 (by decide) ?_
      exact k_iret hx hb hr hlocks hK hP hD hS (by rw [f_MO_add, if_pos h2_1, if_neg h22_2]) (by rw [f_MO_add, if_pos h2_1, if_neg h22_2]) d_MO_add_63
    · skip
      refine lv_aload_n hx hb d_MO_add_25 rfl (lv_at hl 1 rfl) ?_
      refine k_get (v := .int (nI n)) S in_MO hK hP 0 rfl rfl 0 (by decide) ql_MO_77 rfl d_MO_add_26 ?_
      refine lv_bipush (v := 32) hx hb d_MO_add_29 (by decide) ?_
      refine n_icmp_eq (tgt := 62) (x := n) (y := 32) hx hb rfl (by decide) (by omega) (by omega) d_MO_add_31 (by decide) (fun h31_3 => ?_) (fun h31_3 => ?_)
      · skip
        refine lv_iconst (v := (-1)) hx hb d_MO_add_62 (by decide) ?_
        exact k_iret hx hb hr hlocks hK hP hD hS (by rw [f_MO_add, if_pos h2_1, if_pos h22_2, if_pos h31_3]) (by rw [f_MO_add, if_pos h2_1, if_pos h22_2, if_pos h31_3]) d_MO_add_63
      · skip
        refine lv_iload_n hx hb d_MO_add_34 rfl (lv_at hl 0 rfl) ?_
        refine lv_if_eq (tgt := 46) hx hb d_MO_add_35 (by decide) (fun h35_4 => absurd h35_4 (by decide)) (fun h35_4 => ?_)
        refine lv_iload_n hx hb d_MO_add_38 rfl (lv_at hl 3 rfl) ?_
        refine lv_iconst (v := 3) hx hb d_MO_add_39 (by decide) ?_
        refine k_goi (ws' := [(a, .inr (7, [.int (nI n), .ref q_op, .ref q_arg, .int x_handlers, .ref q_handler, .ref q_depth, .ref q_over, .int x_flatCount, .ref q_flatOp, .ref q_flatArg, .int x_flatHandlers, .ref q_flatHandler, .int x_blockCount, .ref q_leader, .ref q_last, .ref q_height, .ref q_state, .ref q_begin, .ref q_drawn, .ref q_order, .int x_g, .ref q_starters, .int x_ran, .int x_ended, .int x_result, .int x_steps, .int x_emits, .ref q_emitted, .ref q_locals, .ref q_stack, .int x_top, .int x_at])), (q_op, .inl (cI, 32, .inl op)), (q_arg, .inl (cI, 32, .inl ar))]) (wr := [(a, .inr (7, [.int (nI n), .ref q_op, .ref q_arg, .int x_handlers, .ref q_handler, .ref q_depth, .ref q_over, .int x_flatCount, .ref q_flatOp, .ref q_flatArg, .int x_flatHandlers, .ref q_flatHandler, .int x_blockCount, .ref q_leader, .ref q_last, .ref q_height, .ref q_state, .ref q_begin, .ref q_drawn, .ref q_order, .int x_g, .ref q_starters, .int x_ran, .int x_ended, .int x_result, .int x_steps, .int x_emits, .ref q_emitted, .ref q_locals, .ref q_stack, .int x_top, .int x_at])), (q_op, .inl (cI, 32, .inl op)), (q_arg, .inl (cI, 32, .inl ar))]) (k_runS (As := [.int b, .int 3]) (rest := []) (n := 2) S (c_MO_outside l D cI cZ b 3) E0_b E0_t ql_MO_83 qt_MO_outside qn_MO qc_MO_outside (by decide +kernel) rfl ⟨rfl, rfl⟩ ⟨Nat.le_of_ble_eq_true rfl, Nat.le_of_ble_eq_true rfl⟩ hK hP hD [] rfl (by decide) hl.1 rfl (Nat.le_of_ble_eq_true rfl) d_MO_add_40 ⟨Nat.zero_le _, Nat.zero_le _⟩) hP hD hS hA [] [0, 1, 2] [0, 1, 2] rfl rfl (by decide) (by decide) rfl (by decide) (fun H locs hP hD hS => ?_)
        refine lv_if_ne (tgt := 62) hx hb d_MO_add_43 (by decide) (fun h43_5 => ?_) (fun h43_5 => ?_)
        · skip
          refine lv_iconst (v := (-1)) hx hb d_MO_add_62 (by decide) ?_
          exact k_iret hx hb hr hlocks hK hP hD hS (by rw [f_MO_add, if_pos h2_1, if_pos h22_2, if_neg h31_3, if_neg h43_5]) (by rw [f_MO_add, if_pos h2_1, if_pos h22_2, if_neg h31_3, if_neg h43_5]) d_MO_add_63
        · skip
          refine lv_iload_n hx hb d_MO_add_46 rfl (lv_at hl 2 rfl) ?_
          refine k_goi (ws' := [(a, .inr (7, [.int (nI n), .ref q_op, .ref q_arg, .int x_handlers, .ref q_handler, .ref q_depth, .ref q_over, .int x_flatCount, .ref q_flatOp, .ref q_flatArg, .int x_flatHandlers, .ref q_flatHandler, .int x_blockCount, .ref q_leader, .ref q_last, .ref q_height, .ref q_state, .ref q_begin, .ref q_drawn, .ref q_order, .int x_g, .ref q_starters, .int x_ran, .int x_ended, .int x_result, .int x_steps, .int x_emits, .ref q_emitted, .ref q_locals, .ref q_stack, .int x_top, .int x_at])), (q_op, .inl (cI, 32, .inl op)), (q_arg, .inl (cI, 32, .inl ar))]) (wr := [(a, .inr (7, [.int (nI n), .ref q_op, .ref q_arg, .int x_handlers, .ref q_handler, .ref q_depth, .ref q_over, .int x_flatCount, .ref q_flatOp, .ref q_flatArg, .int x_flatHandlers, .ref q_flatHandler, .int x_blockCount, .ref q_leader, .ref q_last, .ref q_height, .ref q_state, .ref q_begin, .ref q_drawn, .ref q_order, .int x_g, .ref q_starters, .int x_ran, .int x_ended, .int x_result, .int x_steps, .int x_emits, .ref q_emitted, .ref q_locals, .ref q_stack, .int x_top, .int x_at])), (q_op, .inl (cI, 32, .inl op)), (q_arg, .inl (cI, 32, .inl ar))]) (k_runS (As := [.int o]) (rest := []) (n := 1) S (c_MO_jumps l D cI cZ o) E0_b E0_t ql_MO_73 qt_MO_jumps qn_MO qc_MO_jumps (by decide +kernel) rfl ⟨rfl, rfl⟩ ⟨Nat.le_of_ble_eq_true rfl, Nat.le_of_ble_eq_true rfl⟩ hK hP hD [] rfl (by decide) hl.1 rfl (Nat.le_of_ble_eq_true rfl) d_MO_add_47 ⟨Nat.zero_le _, Nat.zero_le _⟩) hP hD hS hA [] [0, 1, 2] [0, 1, 2] rfl rfl (by decide) (by decide) rfl (by decide) (fun H locs hP hD hS => ?_)
          refine lv_if_eq (tgt := 64) hx hb d_MO_add_50 (by decide) (fun h50_6 => ?_) (fun h50_6 => ?_)
          · skip
            refine lv_aload_n hx hb d_MO_add_64 rfl (lv_at hl 1 rfl) ?_
            refine k_get (v := .ref q_op) S in_MO hK hP 0 rfl rfl 1 (by decide) ql_MO_7 rfl d_MO_add_65 ?_
            refine lv_aload_n hx hb d_MO_add_68 rfl (lv_at hl 1 rfl) ?_
            refine k_get (v := .int (nI n)) S in_MO hK hP 0 rfl rfl 0 (by decide) ql_MO_77 rfl d_MO_add_69 ?_
            refine lv_iload_n hx hb d_MO_add_72 rfl (lv_at hl 2 rfl) ?_
            refine k_st (k := n) (x := o) (ws' := [(a, .inr (7, [.int (nI n), .ref q_op, .ref q_arg, .int x_handlers, .ref q_handler, .ref q_depth, .ref q_over, .int x_flatCount, .ref q_flatOp, .ref q_flatArg, .int x_flatHandlers, .ref q_flatHandler, .int x_blockCount, .ref q_leader, .ref q_last, .ref q_height, .ref q_state, .ref q_begin, .ref q_drawn, .ref q_order, .int x_g, .ref q_starters, .int x_ran, .int x_ended, .int x_result, .int x_steps, .int x_emits, .ref q_emitted, .ref q_locals, .ref q_stack, .int x_top, .int x_at])), (q_op, .inl (cI, 32, .inl (upd op n o))), (q_arg, .inl (cI, 32, .inl ar))]) hx hb hK hP hD hS 1 0 rfl rfl rfl (by omega) (by decide) rfl d_MO_add_73 (fun H locs hP hD hS => ?_)
            refine lv_aload_n hx hb d_MO_add_74 rfl (lv_at hl 1 rfl) ?_
            refine k_get (v := .ref q_arg) S in_MO hK hP 0 rfl rfl 2 (by decide) ql_MO_13 rfl d_MO_add_75 ?_
            refine lv_aload_n hx hb d_MO_add_78 rfl (lv_at hl 1 rfl) ?_
            refine k_get (v := .int (nI n)) S in_MO hK hP 0 rfl rfl 0 (by decide) ql_MO_77 rfl d_MO_add_79 ?_
            refine lv_iload_n hx hb d_MO_add_82 rfl (lv_at hl 2 rfl) ?_
            refine k_goi (ws' := [(a, .inr (7, [.int (nI n), .ref q_op, .ref q_arg, .int x_handlers, .ref q_handler, .ref q_depth, .ref q_over, .int x_flatCount, .ref q_flatOp, .ref q_flatArg, .int x_flatHandlers, .ref q_flatHandler, .int x_blockCount, .ref q_leader, .ref q_last, .ref q_height, .ref q_state, .ref q_begin, .ref q_drawn, .ref q_order, .int x_g, .ref q_starters, .int x_ran, .int x_ended, .int x_result, .int x_steps, .int x_emits, .ref q_emitted, .ref q_locals, .ref q_stack, .int x_top, .int x_at])), (q_op, .inl (cI, 32, .inl (upd op n o))), (q_arg, .inl (cI, 32, .inl ar))]) (wr := [(a, .inr (7, [.int (nI n), .ref q_op, .ref q_arg, .int x_handlers, .ref q_handler, .ref q_depth, .ref q_over, .int x_flatCount, .ref q_flatOp, .ref q_flatArg, .int x_flatHandlers, .ref q_flatHandler, .int x_blockCount, .ref q_leader, .ref q_last, .ref q_height, .ref q_state, .ref q_begin, .ref q_drawn, .ref q_order, .int x_g, .ref q_starters, .int x_ran, .int x_ended, .int x_result, .int x_steps, .int x_emits, .ref q_emitted, .ref q_locals, .ref q_stack, .int x_top, .int x_at])), (q_op, .inl (cI, 32, .inl (upd op n o))), (q_arg, .inl (cI, 32, .inl ar))]) (k_runS (As := [.int o]) (rest := [.int (nI n), .ref q_arg]) (n := 1) S (c_MO_bears l D cI cZ o) E0_b E0_t ql_MO_87 qt_MO_bears qn_MO qc_MO_bears (by decide +kernel) rfl ⟨rfl, rfl⟩ ⟨Nat.le_of_ble_eq_true rfl, Nat.le_of_ble_eq_true rfl⟩ hK hP hD [] rfl (by decide) hl.1 rfl (Nat.le_of_ble_eq_true rfl) d_MO_add_83 ⟨Nat.zero_le _, Nat.zero_le _⟩) hP hD hS hA [] [0, 1, 2] [0, 1, 2] rfl rfl (by decide) (by decide) rfl (by decide) (fun H locs hP hD hS => ?_)
            refine lv_if_eq (tgt := 93) hx hb d_MO_add_86 (by decide) (fun h86_7 => ?_) (fun h86_7 => ?_)
            · skip
              refine lv_iconst (v := 0) hx hb d_MO_add_93 (by decide) ?_
              refine k_st (k := n) (x := 0) (ws' := [(a, .inr (7, [.int (nI n), .ref q_op, .ref q_arg, .int x_handlers, .ref q_handler, .ref q_depth, .ref q_over, .int x_flatCount, .ref q_flatOp, .ref q_flatArg, .int x_flatHandlers, .ref q_flatHandler, .int x_blockCount, .ref q_leader, .ref q_last, .ref q_height, .ref q_state, .ref q_begin, .ref q_drawn, .ref q_order, .int x_g, .ref q_starters, .int x_ran, .int x_ended, .int x_result, .int x_steps, .int x_emits, .ref q_emitted, .ref q_locals, .ref q_stack, .int x_top, .int x_at])), (q_op, .inl (cI, 32, .inl (upd op n o))), (q_arg, .inl (cI, 32, .inl (upd ar n 0)))]) hx hb hK hP hD hS 2 0 rfl rfl rfl (by omega) (by decide) rfl d_MO_add_94 (fun H locs hP hD hS => ?_)
              refine lv_aload_n hx hb d_MO_add_95 rfl (lv_at hl 1 rfl) ?_
              refine lv_dup hx hb d_MO_add_96 rfl ?_
              refine k_get (v := .int (nI n)) S in_MO hK hP 0 rfl rfl 0 (by decide) ql_MO_77 rfl d_MO_add_97 ?_
              refine lv_iconst (v := 1) hx hb d_MO_add_100 (by decide) ?_
              refine lv_iadd hx hb d_MO_add_101 ?_
              refine k_top (y := nI (n + 1)) (nc_add rfl (by decide)) ?_
              refine k_put (v := .int (nI (n + 1))) (ws' := [(a, .inr (7, [.int (nI (n + 1)), .ref q_op, .ref q_arg, .int x_handlers, .ref q_handler, .ref q_depth, .ref q_over, .int x_flatCount, .ref q_flatOp, .ref q_flatArg, .int x_flatHandlers, .ref q_flatHandler, .int x_blockCount, .ref q_leader, .ref q_last, .ref q_height, .ref q_state, .ref q_begin, .ref q_drawn, .ref q_order, .int x_g, .ref q_starters, .int x_ran, .int x_ended, .int x_result, .int x_steps, .int x_emits, .ref q_emitted, .ref q_locals, .ref q_stack, .int x_top, .int x_at])), (q_op, .inl (cI, 32, .inl (upd op n o))), (q_arg, .inl (cI, 32, .inl (upd ar n 0)))]) S in_MO ty_MO nm_MO hK hP hD hS 0 rfl rfl 0 (by decide) ql_MO_77 rfl rfl rfl rfl (Nat.le_of_ble_eq_true rfl) rfl d_MO_add_102 (fun H locs hP hD hS => ?_)
              refine lv_aload_n hx hb d_MO_add_105 rfl (lv_at hl 1 rfl) ?_
              refine k_get (v := .int (nI (n + 1))) S in_MO hK hP 0 rfl rfl 0 (by decide) ql_MO_77 rfl d_MO_add_106 ?_
              refine lv_iconst (v := 1) hx hb d_MO_add_109 (by decide) ?_
              refine lv_isub hx hb d_MO_add_110 ?_
              refine k_top (y := nI (n + 1 - 1)) (nc_sub rfl (by decide) (by omega)) ?_
              exact k_iret hx hb hr hlocks hK hP hD hS (by rw [f_MO_add, if_pos h2_1, if_pos h22_2, if_neg h31_3, if_pos h43_5, if_pos h50_6, if_pos h86_7]) (by rw [f_MO_add, if_pos h2_1, if_pos h22_2, if_neg h31_3, if_pos h43_5, if_pos h50_6, if_pos h86_7]) d_MO_add_111
            · skip
              refine lv_iload_n hx hb d_MO_add_89 rfl (lv_at hl 3 rfl) ?_
              refine lv_goto (tgt := 94) hx hb d_MO_add_90 (by decide) ?_
              refine k_st (k := n) (x := b) (ws' := [(a, .inr (7, [.int (nI n), .ref q_op, .ref q_arg, .int x_handlers, .ref q_handler, .ref q_depth, .ref q_over, .int x_flatCount, .ref q_flatOp, .ref q_flatArg, .int x_flatHandlers, .ref q_flatHandler, .int x_blockCount, .ref q_leader, .ref q_last, .ref q_height, .ref q_state, .ref q_begin, .ref q_drawn, .ref q_order, .int x_g, .ref q_starters, .int x_ran, .int x_ended, .int x_result, .int x_steps, .int x_emits, .ref q_emitted, .ref q_locals, .ref q_stack, .int x_top, .int x_at])), (q_op, .inl (cI, 32, .inl (upd op n o))), (q_arg, .inl (cI, 32, .inl (upd ar n b)))]) hx hb hK hP hD hS 2 0 rfl rfl rfl (by omega) (by decide) rfl d_MO_add_94 (fun H locs hP hD hS => ?_)
              refine lv_aload_n hx hb d_MO_add_95 rfl (lv_at hl 1 rfl) ?_
              refine lv_dup hx hb d_MO_add_96 rfl ?_
              refine k_get (v := .int (nI n)) S in_MO hK hP 0 rfl rfl 0 (by decide) ql_MO_77 rfl d_MO_add_97 ?_
              refine lv_iconst (v := 1) hx hb d_MO_add_100 (by decide) ?_
              refine lv_iadd hx hb d_MO_add_101 ?_
              refine k_top (y := nI (n + 1)) (nc_add rfl (by decide)) ?_
              refine k_put (v := .int (nI (n + 1))) (ws' := [(a, .inr (7, [.int (nI (n + 1)), .ref q_op, .ref q_arg, .int x_handlers, .ref q_handler, .ref q_depth, .ref q_over, .int x_flatCount, .ref q_flatOp, .ref q_flatArg, .int x_flatHandlers, .ref q_flatHandler, .int x_blockCount, .ref q_leader, .ref q_last, .ref q_height, .ref q_state, .ref q_begin, .ref q_drawn, .ref q_order, .int x_g, .ref q_starters, .int x_ran, .int x_ended, .int x_result, .int x_steps, .int x_emits, .ref q_emitted, .ref q_locals, .ref q_stack, .int x_top, .int x_at])), (q_op, .inl (cI, 32, .inl (upd op n o))), (q_arg, .inl (cI, 32, .inl (upd ar n b)))]) S in_MO ty_MO nm_MO hK hP hD hS 0 rfl rfl 0 (by decide) ql_MO_77 rfl rfl rfl rfl (Nat.le_of_ble_eq_true rfl) rfl d_MO_add_102 (fun H locs hP hD hS => ?_)
              refine lv_aload_n hx hb d_MO_add_105 rfl (lv_at hl 1 rfl) ?_
              refine k_get (v := .int (nI (n + 1))) S in_MO hK hP 0 rfl rfl 0 (by decide) ql_MO_77 rfl d_MO_add_106 ?_
              refine lv_iconst (v := 1) hx hb d_MO_add_109 (by decide) ?_
              refine lv_isub hx hb d_MO_add_110 ?_
              refine k_top (y := nI (n + 1 - 1)) (nc_sub rfl (by decide) (by omega)) ?_
              exact k_iret hx hb hr hlocks hK hP hD hS (by rw [f_MO_add, if_pos h2_1, if_pos h22_2, if_neg h31_3, if_pos h43_5, if_pos h50_6, if_neg h86_7]) (by rw [f_MO_add, if_pos h2_1, if_pos h22_2, if_neg h31_3, if_pos h43_5, if_pos h50_6, if_neg h86_7]) d_MO_add_111
          · skip
            refine lv_iload_n hx hb d_MO_add_53 rfl (lv_at hl 3 rfl) ?_
            refine lv_bipush (v := 31) hx hb d_MO_add_54 (by decide) ?_
            refine k_goi (ws' := [(a, .inr (7, [.int (nI n), .ref q_op, .ref q_arg, .int x_handlers, .ref q_handler, .ref q_depth, .ref q_over, .int x_flatCount, .ref q_flatOp, .ref q_flatArg, .int x_flatHandlers, .ref q_flatHandler, .int x_blockCount, .ref q_leader, .ref q_last, .ref q_height, .ref q_state, .ref q_begin, .ref q_drawn, .ref q_order, .int x_g, .ref q_starters, .int x_ran, .int x_ended, .int x_result, .int x_steps, .int x_emits, .ref q_emitted, .ref q_locals, .ref q_stack, .int x_top, .int x_at])), (q_op, .inl (cI, 32, .inl op)), (q_arg, .inl (cI, 32, .inl ar))]) (wr := [(a, .inr (7, [.int (nI n), .ref q_op, .ref q_arg, .int x_handlers, .ref q_handler, .ref q_depth, .ref q_over, .int x_flatCount, .ref q_flatOp, .ref q_flatArg, .int x_flatHandlers, .ref q_flatHandler, .int x_blockCount, .ref q_leader, .ref q_last, .ref q_height, .ref q_state, .ref q_begin, .ref q_drawn, .ref q_order, .int x_g, .ref q_starters, .int x_ran, .int x_ended, .int x_result, .int x_steps, .int x_emits, .ref q_emitted, .ref q_locals, .ref q_stack, .int x_top, .int x_at])), (q_op, .inl (cI, 32, .inl op)), (q_arg, .inl (cI, 32, .inl ar))]) (k_runS (As := [.int b, .int 31]) (rest := []) (n := 2) S (c_MO_outside l D cI cZ b 31) E0_b E0_t ql_MO_83 qt_MO_outside qn_MO qc_MO_outside (by decide +kernel) rfl ⟨rfl, rfl⟩ ⟨Nat.le_of_ble_eq_true rfl, Nat.le_of_ble_eq_true rfl⟩ hK hP hD [] rfl (by decide) hl.1 rfl (Nat.le_of_ble_eq_true rfl) d_MO_add_56 ⟨Nat.zero_le _, Nat.zero_le _⟩) hP hD hS hA [] [0, 1, 2] [0, 1, 2] rfl rfl (by decide) (by decide) rfl (by decide) (fun H locs hP hD hS => ?_)
            refine lv_if_eq (tgt := 64) hx hb d_MO_add_59 (by decide) (fun h59_8 => ?_) (fun h59_8 => ?_)
            · skip
              refine lv_aload_n hx hb d_MO_add_64 rfl (lv_at hl 1 rfl) ?_
              refine k_get (v := .ref q_op) S in_MO hK hP 0 rfl rfl 1 (by decide) ql_MO_7 rfl d_MO_add_65 ?_
              refine lv_aload_n hx hb d_MO_add_68 rfl (lv_at hl 1 rfl) ?_
              refine k_get (v := .int (nI n)) S in_MO hK hP 0 rfl rfl 0 (by decide) ql_MO_77 rfl d_MO_add_69 ?_
              refine lv_iload_n hx hb d_MO_add_72 rfl (lv_at hl 2 rfl) ?_
              refine k_st (k := n) (x := o) (ws' := [(a, .inr (7, [.int (nI n), .ref q_op, .ref q_arg, .int x_handlers, .ref q_handler, .ref q_depth, .ref q_over, .int x_flatCount, .ref q_flatOp, .ref q_flatArg, .int x_flatHandlers, .ref q_flatHandler, .int x_blockCount, .ref q_leader, .ref q_last, .ref q_height, .ref q_state, .ref q_begin, .ref q_drawn, .ref q_order, .int x_g, .ref q_starters, .int x_ran, .int x_ended, .int x_result, .int x_steps, .int x_emits, .ref q_emitted, .ref q_locals, .ref q_stack, .int x_top, .int x_at])), (q_op, .inl (cI, 32, .inl (upd op n o))), (q_arg, .inl (cI, 32, .inl ar))]) hx hb hK hP hD hS 1 0 rfl rfl rfl (by omega) (by decide) rfl d_MO_add_73 (fun H locs hP hD hS => ?_)
              refine lv_aload_n hx hb d_MO_add_74 rfl (lv_at hl 1 rfl) ?_
              refine k_get (v := .ref q_arg) S in_MO hK hP 0 rfl rfl 2 (by decide) ql_MO_13 rfl d_MO_add_75 ?_
              refine lv_aload_n hx hb d_MO_add_78 rfl (lv_at hl 1 rfl) ?_
              refine k_get (v := .int (nI n)) S in_MO hK hP 0 rfl rfl 0 (by decide) ql_MO_77 rfl d_MO_add_79 ?_
              refine lv_iload_n hx hb d_MO_add_82 rfl (lv_at hl 2 rfl) ?_
              refine k_goi (ws' := [(a, .inr (7, [.int (nI n), .ref q_op, .ref q_arg, .int x_handlers, .ref q_handler, .ref q_depth, .ref q_over, .int x_flatCount, .ref q_flatOp, .ref q_flatArg, .int x_flatHandlers, .ref q_flatHandler, .int x_blockCount, .ref q_leader, .ref q_last, .ref q_height, .ref q_state, .ref q_begin, .ref q_drawn, .ref q_order, .int x_g, .ref q_starters, .int x_ran, .int x_ended, .int x_result, .int x_steps, .int x_emits, .ref q_emitted, .ref q_locals, .ref q_stack, .int x_top, .int x_at])), (q_op, .inl (cI, 32, .inl (upd op n o))), (q_arg, .inl (cI, 32, .inl ar))]) (wr := [(a, .inr (7, [.int (nI n), .ref q_op, .ref q_arg, .int x_handlers, .ref q_handler, .ref q_depth, .ref q_over, .int x_flatCount, .ref q_flatOp, .ref q_flatArg, .int x_flatHandlers, .ref q_flatHandler, .int x_blockCount, .ref q_leader, .ref q_last, .ref q_height, .ref q_state, .ref q_begin, .ref q_drawn, .ref q_order, .int x_g, .ref q_starters, .int x_ran, .int x_ended, .int x_result, .int x_steps, .int x_emits, .ref q_emitted, .ref q_locals, .ref q_stack, .int x_top, .int x_at])), (q_op, .inl (cI, 32, .inl (upd op n o))), (q_arg, .inl (cI, 32, .inl ar))]) (k_runS (As := [.int o]) (rest := [.int (nI n), .ref q_arg]) (n := 1) S (c_MO_bears l D cI cZ o) E0_b E0_t ql_MO_87 qt_MO_bears qn_MO qc_MO_bears (by decide +kernel) rfl ⟨rfl, rfl⟩ ⟨Nat.le_of_ble_eq_true rfl, Nat.le_of_ble_eq_true rfl⟩ hK hP hD [] rfl (by decide) hl.1 rfl (Nat.le_of_ble_eq_true rfl) d_MO_add_83 ⟨Nat.zero_le _, Nat.zero_le _⟩) hP hD hS hA [] [0, 1, 2] [0, 1, 2] rfl rfl (by decide) (by decide) rfl (by decide) (fun H locs hP hD hS => ?_)
              refine lv_if_eq (tgt := 93) hx hb d_MO_add_86 (by decide) (fun h86_9 => ?_) (fun h86_9 => ?_)
              · skip
                refine lv_iconst (v := 0) hx hb d_MO_add_93 (by decide) ?_
                refine k_st (k := n) (x := 0) (ws' := [(a, .inr (7, [.int (nI n), .ref q_op, .ref q_arg, .int x_handlers, .ref q_handler, .ref q_depth, .ref q_over, .int x_flatCount, .ref q_flatOp, .ref q_flatArg, .int x_flatHandlers, .ref q_flatHandler, .int x_blockCount, .ref q_leader, .ref q_last, .ref q_height, .ref q_state, .ref q_begin, .ref q_drawn, .ref q_order, .int x_g, .ref q_starters, .int x_ran, .int x_ended, .int x_result, .int x_steps, .int x_emits, .ref q_emitted, .ref q_locals, .ref q_stack, .int x_top, .int x_at])), (q_op, .inl (cI, 32, .inl (upd op n o))), (q_arg, .inl (cI, 32, .inl (upd ar n 0)))]) hx hb hK hP hD hS 2 0 rfl rfl rfl (by omega) (by decide) rfl d_MO_add_94 (fun H locs hP hD hS => ?_)
                refine lv_aload_n hx hb d_MO_add_95 rfl (lv_at hl 1 rfl) ?_
                refine lv_dup hx hb d_MO_add_96 rfl ?_
                refine k_get (v := .int (nI n)) S in_MO hK hP 0 rfl rfl 0 (by decide) ql_MO_77 rfl d_MO_add_97 ?_
                refine lv_iconst (v := 1) hx hb d_MO_add_100 (by decide) ?_
                refine lv_iadd hx hb d_MO_add_101 ?_
                refine k_top (y := nI (n + 1)) (nc_add rfl (by decide)) ?_
                refine k_put (v := .int (nI (n + 1))) (ws' := [(a, .inr (7, [.int (nI (n + 1)), .ref q_op, .ref q_arg, .int x_handlers, .ref q_handler, .ref q_depth, .ref q_over, .int x_flatCount, .ref q_flatOp, .ref q_flatArg, .int x_flatHandlers, .ref q_flatHandler, .int x_blockCount, .ref q_leader, .ref q_last, .ref q_height, .ref q_state, .ref q_begin, .ref q_drawn, .ref q_order, .int x_g, .ref q_starters, .int x_ran, .int x_ended, .int x_result, .int x_steps, .int x_emits, .ref q_emitted, .ref q_locals, .ref q_stack, .int x_top, .int x_at])), (q_op, .inl (cI, 32, .inl (upd op n o))), (q_arg, .inl (cI, 32, .inl (upd ar n 0)))]) S in_MO ty_MO nm_MO hK hP hD hS 0 rfl rfl 0 (by decide) ql_MO_77 rfl rfl rfl rfl (Nat.le_of_ble_eq_true rfl) rfl d_MO_add_102 (fun H locs hP hD hS => ?_)
                refine lv_aload_n hx hb d_MO_add_105 rfl (lv_at hl 1 rfl) ?_
                refine k_get (v := .int (nI (n + 1))) S in_MO hK hP 0 rfl rfl 0 (by decide) ql_MO_77 rfl d_MO_add_106 ?_
                refine lv_iconst (v := 1) hx hb d_MO_add_109 (by decide) ?_
                refine lv_isub hx hb d_MO_add_110 ?_
                refine k_top (y := nI (n + 1 - 1)) (nc_sub rfl (by decide) (by omega)) ?_
                exact k_iret hx hb hr hlocks hK hP hD hS (by rw [f_MO_add, if_pos h2_1, if_pos h22_2, if_neg h31_3, if_pos h43_5, if_neg h50_6, if_pos h59_8, if_pos h86_9]) (by rw [f_MO_add, if_pos h2_1, if_pos h22_2, if_neg h31_3, if_pos h43_5, if_neg h50_6, if_pos h59_8, if_pos h86_9]) d_MO_add_111
              · skip
                refine lv_iload_n hx hb d_MO_add_89 rfl (lv_at hl 3 rfl) ?_
                refine lv_goto (tgt := 94) hx hb d_MO_add_90 (by decide) ?_
                refine k_st (k := n) (x := b) (ws' := [(a, .inr (7, [.int (nI n), .ref q_op, .ref q_arg, .int x_handlers, .ref q_handler, .ref q_depth, .ref q_over, .int x_flatCount, .ref q_flatOp, .ref q_flatArg, .int x_flatHandlers, .ref q_flatHandler, .int x_blockCount, .ref q_leader, .ref q_last, .ref q_height, .ref q_state, .ref q_begin, .ref q_drawn, .ref q_order, .int x_g, .ref q_starters, .int x_ran, .int x_ended, .int x_result, .int x_steps, .int x_emits, .ref q_emitted, .ref q_locals, .ref q_stack, .int x_top, .int x_at])), (q_op, .inl (cI, 32, .inl (upd op n o))), (q_arg, .inl (cI, 32, .inl (upd ar n b)))]) hx hb hK hP hD hS 2 0 rfl rfl rfl (by omega) (by decide) rfl d_MO_add_94 (fun H locs hP hD hS => ?_)
                refine lv_aload_n hx hb d_MO_add_95 rfl (lv_at hl 1 rfl) ?_
                refine lv_dup hx hb d_MO_add_96 rfl ?_
                refine k_get (v := .int (nI n)) S in_MO hK hP 0 rfl rfl 0 (by decide) ql_MO_77 rfl d_MO_add_97 ?_
                refine lv_iconst (v := 1) hx hb d_MO_add_100 (by decide) ?_
                refine lv_iadd hx hb d_MO_add_101 ?_
                refine k_top (y := nI (n + 1)) (nc_add rfl (by decide)) ?_
                refine k_put (v := .int (nI (n + 1))) (ws' := [(a, .inr (7, [.int (nI (n + 1)), .ref q_op, .ref q_arg, .int x_handlers, .ref q_handler, .ref q_depth, .ref q_over, .int x_flatCount, .ref q_flatOp, .ref q_flatArg, .int x_flatHandlers, .ref q_flatHandler, .int x_blockCount, .ref q_leader, .ref q_last, .ref q_height, .ref q_state, .ref q_begin, .ref q_drawn, .ref q_order, .int x_g, .ref q_starters, .int x_ran, .int x_ended, .int x_result, .int x_steps, .int x_emits, .ref q_emitted, .ref q_locals, .ref q_stack, .int x_top, .int x_at])), (q_op, .inl (cI, 32, .inl (upd op n o))), (q_arg, .inl (cI, 32, .inl (upd ar n b)))]) S in_MO ty_MO nm_MO hK hP hD hS 0 rfl rfl 0 (by decide) ql_MO_77 rfl rfl rfl rfl (Nat.le_of_ble_eq_true rfl) rfl d_MO_add_102 (fun H locs hP hD hS => ?_)
                refine lv_aload_n hx hb d_MO_add_105 rfl (lv_at hl 1 rfl) ?_
                refine k_get (v := .int (nI (n + 1))) S in_MO hK hP 0 rfl rfl 0 (by decide) ql_MO_77 rfl d_MO_add_106 ?_
                refine lv_iconst (v := 1) hx hb d_MO_add_109 (by decide) ?_
                refine lv_isub hx hb d_MO_add_110 ?_
                refine k_top (y := nI (n + 1 - 1)) (nc_sub rfl (by decide) (by omega)) ?_
                exact k_iret hx hb hr hlocks hK hP hD hS (by rw [f_MO_add, if_pos h2_1, if_pos h22_2, if_neg h31_3, if_pos h43_5, if_neg h50_6, if_pos h59_8, if_neg h86_9]) (by rw [f_MO_add, if_pos h2_1, if_pos h22_2, if_neg h31_3, if_pos h43_5, if_neg h50_6, if_pos h59_8, if_neg h86_9]) d_MO_add_111
            · skip
              refine lv_iconst (v := (-1)) hx hb d_MO_add_62 (by decide) ?_
              exact k_iret hx hb hr hlocks hK hP hD hS (by rw [f_MO_add, if_pos h2_1, if_pos h22_2, if_neg h31_3, if_pos h43_5, if_neg h50_6, if_neg h59_8]) (by rw [f_MO_add, if_pos h2_1, if_pos h22_2, if_neg h31_3, if_pos h43_5, if_neg h50_6, if_neg h59_8]) d_MO_add_63
  · skip
    refine lv_iload_n hx hb d_MO_add_5 rfl (lv_at hl 1 rfl) ?_
    refine lv_iconst (v := 2) hx hb d_MO_add_6 (by decide) ?_
    refine lv_icmp_ne (tgt := 14) hx hb d_MO_add_7 (by decide) (fun h7_10 => ?_) (fun h7_10 => ?_)
    · skip
      refine lv_iconst (v := 0) hx hb d_MO_add_14 (by decide) ?_
      refine lv_istore_n (lv' := [(3, .int 0), (0, .ref a), (1, .int o), (2, .int b)]) hx hb d_MO_add_15 rfl hl (by decide) rfl (fun ls hl => ?_)
      refine lv_iload_n hx hb d_MO_add_16 rfl (lv_at hl 2 rfl) ?_
      refine lv_bipush (v := 17) hx hb d_MO_add_17 (by decide) ?_
      refine k_goi (ws' := [(a, .inr (7, [.int (nI n), .ref q_op, .ref q_arg, .int x_handlers, .ref q_handler, .ref q_depth, .ref q_over, .int x_flatCount, .ref q_flatOp, .ref q_flatArg, .int x_flatHandlers, .ref q_flatHandler, .int x_blockCount, .ref q_leader, .ref q_last, .ref q_height, .ref q_state, .ref q_begin, .ref q_drawn, .ref q_order, .int x_g, .ref q_starters, .int x_ran, .int x_ended, .int x_result, .int x_steps, .int x_emits, .ref q_emitted, .ref q_locals, .ref q_stack, .int x_top, .int x_at])), (q_op, .inl (cI, 32, .inl op)), (q_arg, .inl (cI, 32, .inl ar))]) (wr := [(a, .inr (7, [.int (nI n), .ref q_op, .ref q_arg, .int x_handlers, .ref q_handler, .ref q_depth, .ref q_over, .int x_flatCount, .ref q_flatOp, .ref q_flatArg, .int x_flatHandlers, .ref q_flatHandler, .int x_blockCount, .ref q_leader, .ref q_last, .ref q_height, .ref q_state, .ref q_begin, .ref q_drawn, .ref q_order, .int x_g, .ref q_starters, .int x_ran, .int x_ended, .int x_result, .int x_steps, .int x_emits, .ref q_emitted, .ref q_locals, .ref q_stack, .int x_top, .int x_at])), (q_op, .inl (cI, 32, .inl op)), (q_arg, .inl (cI, 32, .inl ar))]) (k_runS (As := [.int o, .int 17]) (rest := []) (n := 2) S (c_MO_outside l D cI cZ o 17) E0_b E0_t ql_MO_83 qt_MO_outside qn_MO qc_MO_outside (by decide +kernel) rfl ⟨rfl, rfl⟩ ⟨Nat.le_of_ble_eq_true rfl, Nat.le_of_ble_eq_true rfl⟩ hK hP hD [] rfl (by decide) hl.1 rfl (Nat.le_of_ble_eq_true rfl) d_MO_add_19 ⟨Nat.zero_le _, Nat.zero_le _⟩) hP hD hS hA [] [0, 1, 2] [0, 1, 2] rfl rfl (by decide) (by decide) rfl (by decide) (fun H locs hP hD hS => ?_)
      refine lv_if_ne (tgt := 62) hx hb d_MO_add_22 (by decide) (fun h22_11 => ?_) (fun h22_11 => ?_)
      · skip
        refine lv_iconst (v := (-1)) hx hb d_MO_add_62 (by decide) ?_
        exact k_iret hx hb hr hlocks hK hP hD hS (by rw [f_MO_add, if_neg h2_1, if_neg h7_10, if_neg h22_11]) (by rw [f_MO_add, if_neg h2_1, if_neg h7_10, if_neg h22_11]) d_MO_add_63
      · skip
        refine lv_aload_n hx hb d_MO_add_25 rfl (lv_at hl 1 rfl) ?_
        refine k_get (v := .int (nI n)) S in_MO hK hP 0 rfl rfl 0 (by decide) ql_MO_77 rfl d_MO_add_26 ?_
        refine lv_bipush (v := 32) hx hb d_MO_add_29 (by decide) ?_
        refine n_icmp_eq (tgt := 62) (x := n) (y := 32) hx hb rfl (by decide) (by omega) (by omega) d_MO_add_31 (by decide) (fun h31_12 => ?_) (fun h31_12 => ?_)
        · skip
          refine lv_iconst (v := (-1)) hx hb d_MO_add_62 (by decide) ?_
          exact k_iret hx hb hr hlocks hK hP hD hS (by rw [f_MO_add, if_neg h2_1, if_neg h7_10, if_pos h22_11, if_pos h31_12]) (by rw [f_MO_add, if_neg h2_1, if_neg h7_10, if_pos h22_11, if_pos h31_12]) d_MO_add_63
        · skip
          refine lv_iload_n hx hb d_MO_add_34 rfl (lv_at hl 0 rfl) ?_
          refine lv_if_eq (tgt := 46) hx hb d_MO_add_35 (by decide) (fun h35_13 => ?_) (fun h35_13 => absurd h35_13 (by decide))
          refine lv_iload_n hx hb d_MO_add_46 rfl (lv_at hl 2 rfl) ?_
          refine k_goi (ws' := [(a, .inr (7, [.int (nI n), .ref q_op, .ref q_arg, .int x_handlers, .ref q_handler, .ref q_depth, .ref q_over, .int x_flatCount, .ref q_flatOp, .ref q_flatArg, .int x_flatHandlers, .ref q_flatHandler, .int x_blockCount, .ref q_leader, .ref q_last, .ref q_height, .ref q_state, .ref q_begin, .ref q_drawn, .ref q_order, .int x_g, .ref q_starters, .int x_ran, .int x_ended, .int x_result, .int x_steps, .int x_emits, .ref q_emitted, .ref q_locals, .ref q_stack, .int x_top, .int x_at])), (q_op, .inl (cI, 32, .inl op)), (q_arg, .inl (cI, 32, .inl ar))]) (wr := [(a, .inr (7, [.int (nI n), .ref q_op, .ref q_arg, .int x_handlers, .ref q_handler, .ref q_depth, .ref q_over, .int x_flatCount, .ref q_flatOp, .ref q_flatArg, .int x_flatHandlers, .ref q_flatHandler, .int x_blockCount, .ref q_leader, .ref q_last, .ref q_height, .ref q_state, .ref q_begin, .ref q_drawn, .ref q_order, .int x_g, .ref q_starters, .int x_ran, .int x_ended, .int x_result, .int x_steps, .int x_emits, .ref q_emitted, .ref q_locals, .ref q_stack, .int x_top, .int x_at])), (q_op, .inl (cI, 32, .inl op)), (q_arg, .inl (cI, 32, .inl ar))]) (k_runS (As := [.int o]) (rest := []) (n := 1) S (c_MO_jumps l D cI cZ o) E0_b E0_t ql_MO_73 qt_MO_jumps qn_MO qc_MO_jumps (by decide +kernel) rfl ⟨rfl, rfl⟩ ⟨Nat.le_of_ble_eq_true rfl, Nat.le_of_ble_eq_true rfl⟩ hK hP hD [] rfl (by decide) hl.1 rfl (Nat.le_of_ble_eq_true rfl) d_MO_add_47 ⟨Nat.zero_le _, Nat.zero_le _⟩) hP hD hS hA [] [0, 1, 2] [0, 1, 2] rfl rfl (by decide) (by decide) rfl (by decide) (fun H locs hP hD hS => ?_)
          refine lv_if_eq (tgt := 64) hx hb d_MO_add_50 (by decide) (fun h50_14 => ?_) (fun h50_14 => ?_)
          · skip
            refine lv_aload_n hx hb d_MO_add_64 rfl (lv_at hl 1 rfl) ?_
            refine k_get (v := .ref q_op) S in_MO hK hP 0 rfl rfl 1 (by decide) ql_MO_7 rfl d_MO_add_65 ?_
            refine lv_aload_n hx hb d_MO_add_68 rfl (lv_at hl 1 rfl) ?_
            refine k_get (v := .int (nI n)) S in_MO hK hP 0 rfl rfl 0 (by decide) ql_MO_77 rfl d_MO_add_69 ?_
            refine lv_iload_n hx hb d_MO_add_72 rfl (lv_at hl 2 rfl) ?_
            refine k_st (k := n) (x := o) (ws' := [(a, .inr (7, [.int (nI n), .ref q_op, .ref q_arg, .int x_handlers, .ref q_handler, .ref q_depth, .ref q_over, .int x_flatCount, .ref q_flatOp, .ref q_flatArg, .int x_flatHandlers, .ref q_flatHandler, .int x_blockCount, .ref q_leader, .ref q_last, .ref q_height, .ref q_state, .ref q_begin, .ref q_drawn, .ref q_order, .int x_g, .ref q_starters, .int x_ran, .int x_ended, .int x_result, .int x_steps, .int x_emits, .ref q_emitted, .ref q_locals, .ref q_stack, .int x_top, .int x_at])), (q_op, .inl (cI, 32, .inl (upd op n o))), (q_arg, .inl (cI, 32, .inl ar))]) hx hb hK hP hD hS 1 0 rfl rfl rfl (by omega) (by decide) rfl d_MO_add_73 (fun H locs hP hD hS => ?_)
            refine lv_aload_n hx hb d_MO_add_74 rfl (lv_at hl 1 rfl) ?_
            refine k_get (v := .ref q_arg) S in_MO hK hP 0 rfl rfl 2 (by decide) ql_MO_13 rfl d_MO_add_75 ?_
            refine lv_aload_n hx hb d_MO_add_78 rfl (lv_at hl 1 rfl) ?_
            refine k_get (v := .int (nI n)) S in_MO hK hP 0 rfl rfl 0 (by decide) ql_MO_77 rfl d_MO_add_79 ?_
            refine lv_iload_n hx hb d_MO_add_82 rfl (lv_at hl 2 rfl) ?_
            refine k_goi (ws' := [(a, .inr (7, [.int (nI n), .ref q_op, .ref q_arg, .int x_handlers, .ref q_handler, .ref q_depth, .ref q_over, .int x_flatCount, .ref q_flatOp, .ref q_flatArg, .int x_flatHandlers, .ref q_flatHandler, .int x_blockCount, .ref q_leader, .ref q_last, .ref q_height, .ref q_state, .ref q_begin, .ref q_drawn, .ref q_order, .int x_g, .ref q_starters, .int x_ran, .int x_ended, .int x_result, .int x_steps, .int x_emits, .ref q_emitted, .ref q_locals, .ref q_stack, .int x_top, .int x_at])), (q_op, .inl (cI, 32, .inl (upd op n o))), (q_arg, .inl (cI, 32, .inl ar))]) (wr := [(a, .inr (7, [.int (nI n), .ref q_op, .ref q_arg, .int x_handlers, .ref q_handler, .ref q_depth, .ref q_over, .int x_flatCount, .ref q_flatOp, .ref q_flatArg, .int x_flatHandlers, .ref q_flatHandler, .int x_blockCount, .ref q_leader, .ref q_last, .ref q_height, .ref q_state, .ref q_begin, .ref q_drawn, .ref q_order, .int x_g, .ref q_starters, .int x_ran, .int x_ended, .int x_result, .int x_steps, .int x_emits, .ref q_emitted, .ref q_locals, .ref q_stack, .int x_top, .int x_at])), (q_op, .inl (cI, 32, .inl (upd op n o))), (q_arg, .inl (cI, 32, .inl ar))]) (k_runS (As := [.int o]) (rest := [.int (nI n), .ref q_arg]) (n := 1) S (c_MO_bears l D cI cZ o) E0_b E0_t ql_MO_87 qt_MO_bears qn_MO qc_MO_bears (by decide +kernel) rfl ⟨rfl, rfl⟩ ⟨Nat.le_of_ble_eq_true rfl, Nat.le_of_ble_eq_true rfl⟩ hK hP hD [] rfl (by decide) hl.1 rfl (Nat.le_of_ble_eq_true rfl) d_MO_add_83 ⟨Nat.zero_le _, Nat.zero_le _⟩) hP hD hS hA [] [0, 1, 2] [0, 1, 2] rfl rfl (by decide) (by decide) rfl (by decide) (fun H locs hP hD hS => ?_)
            refine lv_if_eq (tgt := 93) hx hb d_MO_add_86 (by decide) (fun h86_15 => ?_) (fun h86_15 => ?_)
            · skip
              refine lv_iconst (v := 0) hx hb d_MO_add_93 (by decide) ?_
              refine k_st (k := n) (x := 0) (ws' := [(a, .inr (7, [.int (nI n), .ref q_op, .ref q_arg, .int x_handlers, .ref q_handler, .ref q_depth, .ref q_over, .int x_flatCount, .ref q_flatOp, .ref q_flatArg, .int x_flatHandlers, .ref q_flatHandler, .int x_blockCount, .ref q_leader, .ref q_last, .ref q_height, .ref q_state, .ref q_begin, .ref q_drawn, .ref q_order, .int x_g, .ref q_starters, .int x_ran, .int x_ended, .int x_result, .int x_steps, .int x_emits, .ref q_emitted, .ref q_locals, .ref q_stack, .int x_top, .int x_at])), (q_op, .inl (cI, 32, .inl (upd op n o))), (q_arg, .inl (cI, 32, .inl (upd ar n 0)))]) hx hb hK hP hD hS 2 0 rfl rfl rfl (by omega) (by decide) rfl d_MO_add_94 (fun H locs hP hD hS => ?_)
              refine lv_aload_n hx hb d_MO_add_95 rfl (lv_at hl 1 rfl) ?_
              refine lv_dup hx hb d_MO_add_96 rfl ?_
              refine k_get (v := .int (nI n)) S in_MO hK hP 0 rfl rfl 0 (by decide) ql_MO_77 rfl d_MO_add_97 ?_
              refine lv_iconst (v := 1) hx hb d_MO_add_100 (by decide) ?_
              refine lv_iadd hx hb d_MO_add_101 ?_
              refine k_top (y := nI (n + 1)) (nc_add rfl (by decide)) ?_
              refine k_put (v := .int (nI (n + 1))) (ws' := [(a, .inr (7, [.int (nI (n + 1)), .ref q_op, .ref q_arg, .int x_handlers, .ref q_handler, .ref q_depth, .ref q_over, .int x_flatCount, .ref q_flatOp, .ref q_flatArg, .int x_flatHandlers, .ref q_flatHandler, .int x_blockCount, .ref q_leader, .ref q_last, .ref q_height, .ref q_state, .ref q_begin, .ref q_drawn, .ref q_order, .int x_g, .ref q_starters, .int x_ran, .int x_ended, .int x_result, .int x_steps, .int x_emits, .ref q_emitted, .ref q_locals, .ref q_stack, .int x_top, .int x_at])), (q_op, .inl (cI, 32, .inl (upd op n o))), (q_arg, .inl (cI, 32, .inl (upd ar n 0)))]) S in_MO ty_MO nm_MO hK hP hD hS 0 rfl rfl 0 (by decide) ql_MO_77 rfl rfl rfl rfl (Nat.le_of_ble_eq_true rfl) rfl d_MO_add_102 (fun H locs hP hD hS => ?_)
              refine lv_aload_n hx hb d_MO_add_105 rfl (lv_at hl 1 rfl) ?_
              refine k_get (v := .int (nI (n + 1))) S in_MO hK hP 0 rfl rfl 0 (by decide) ql_MO_77 rfl d_MO_add_106 ?_
              refine lv_iconst (v := 1) hx hb d_MO_add_109 (by decide) ?_
              refine lv_isub hx hb d_MO_add_110 ?_
              refine k_top (y := nI (n + 1 - 1)) (nc_sub rfl (by decide) (by omega)) ?_
              exact k_iret hx hb hr hlocks hK hP hD hS (by rw [f_MO_add, if_neg h2_1, if_neg h7_10, if_pos h22_11, if_neg h31_12, if_pos h50_14, if_pos h86_15]) (by rw [f_MO_add, if_neg h2_1, if_neg h7_10, if_pos h22_11, if_neg h31_12, if_pos h50_14, if_pos h86_15]) d_MO_add_111
            · skip
              refine lv_iload_n hx hb d_MO_add_89 rfl (lv_at hl 3 rfl) ?_
              refine lv_goto (tgt := 94) hx hb d_MO_add_90 (by decide) ?_
              refine k_st (k := n) (x := b) (ws' := [(a, .inr (7, [.int (nI n), .ref q_op, .ref q_arg, .int x_handlers, .ref q_handler, .ref q_depth, .ref q_over, .int x_flatCount, .ref q_flatOp, .ref q_flatArg, .int x_flatHandlers, .ref q_flatHandler, .int x_blockCount, .ref q_leader, .ref q_last, .ref q_height, .ref q_state, .ref q_begin, .ref q_drawn, .ref q_order, .int x_g, .ref q_starters, .int x_ran, .int x_ended, .int x_result, .int x_steps, .int x_emits, .ref q_emitted, .ref q_locals, .ref q_stack, .int x_top, .int x_at])), (q_op, .inl (cI, 32, .inl (upd op n o))), (q_arg, .inl (cI, 32, .inl (upd ar n b)))]) hx hb hK hP hD hS 2 0 rfl rfl rfl (by omega) (by decide) rfl d_MO_add_94 (fun H locs hP hD hS => ?_)
              refine lv_aload_n hx hb d_MO_add_95 rfl (lv_at hl 1 rfl) ?_
              refine lv_dup hx hb d_MO_add_96 rfl ?_
              refine k_get (v := .int (nI n)) S in_MO hK hP 0 rfl rfl 0 (by decide) ql_MO_77 rfl d_MO_add_97 ?_
              refine lv_iconst (v := 1) hx hb d_MO_add_100 (by decide) ?_
              refine lv_iadd hx hb d_MO_add_101 ?_
              refine k_top (y := nI (n + 1)) (nc_add rfl (by decide)) ?_
              refine k_put (v := .int (nI (n + 1))) (ws' := [(a, .inr (7, [.int (nI (n + 1)), .ref q_op, .ref q_arg, .int x_handlers, .ref q_handler, .ref q_depth, .ref q_over, .int x_flatCount, .ref q_flatOp, .ref q_flatArg, .int x_flatHandlers, .ref q_flatHandler, .int x_blockCount, .ref q_leader, .ref q_last, .ref q_height, .ref q_state, .ref q_begin, .ref q_drawn, .ref q_order, .int x_g, .ref q_starters, .int x_ran, .int x_ended, .int x_result, .int x_steps, .int x_emits, .ref q_emitted, .ref q_locals, .ref q_stack, .int x_top, .int x_at])), (q_op, .inl (cI, 32, .inl (upd op n o))), (q_arg, .inl (cI, 32, .inl (upd ar n b)))]) S in_MO ty_MO nm_MO hK hP hD hS 0 rfl rfl 0 (by decide) ql_MO_77 rfl rfl rfl rfl (Nat.le_of_ble_eq_true rfl) rfl d_MO_add_102 (fun H locs hP hD hS => ?_)
              refine lv_aload_n hx hb d_MO_add_105 rfl (lv_at hl 1 rfl) ?_
              refine k_get (v := .int (nI (n + 1))) S in_MO hK hP 0 rfl rfl 0 (by decide) ql_MO_77 rfl d_MO_add_106 ?_
              refine lv_iconst (v := 1) hx hb d_MO_add_109 (by decide) ?_
              refine lv_isub hx hb d_MO_add_110 ?_
              refine k_top (y := nI (n + 1 - 1)) (nc_sub rfl (by decide) (by omega)) ?_
              exact k_iret hx hb hr hlocks hK hP hD hS (by rw [f_MO_add, if_neg h2_1, if_neg h7_10, if_pos h22_11, if_neg h31_12, if_pos h50_14, if_neg h86_15]) (by rw [f_MO_add, if_neg h2_1, if_neg h7_10, if_pos h22_11, if_neg h31_12, if_pos h50_14, if_neg h86_15]) d_MO_add_111
          · skip
            refine lv_iload_n hx hb d_MO_add_53 rfl (lv_at hl 3 rfl) ?_
            refine lv_bipush (v := 31) hx hb d_MO_add_54 (by decide) ?_
            refine k_goi (ws' := [(a, .inr (7, [.int (nI n), .ref q_op, .ref q_arg, .int x_handlers, .ref q_handler, .ref q_depth, .ref q_over, .int x_flatCount, .ref q_flatOp, .ref q_flatArg, .int x_flatHandlers, .ref q_flatHandler, .int x_blockCount, .ref q_leader, .ref q_last, .ref q_height, .ref q_state, .ref q_begin, .ref q_drawn, .ref q_order, .int x_g, .ref q_starters, .int x_ran, .int x_ended, .int x_result, .int x_steps, .int x_emits, .ref q_emitted, .ref q_locals, .ref q_stack, .int x_top, .int x_at])), (q_op, .inl (cI, 32, .inl op)), (q_arg, .inl (cI, 32, .inl ar))]) (wr := [(a, .inr (7, [.int (nI n), .ref q_op, .ref q_arg, .int x_handlers, .ref q_handler, .ref q_depth, .ref q_over, .int x_flatCount, .ref q_flatOp, .ref q_flatArg, .int x_flatHandlers, .ref q_flatHandler, .int x_blockCount, .ref q_leader, .ref q_last, .ref q_height, .ref q_state, .ref q_begin, .ref q_drawn, .ref q_order, .int x_g, .ref q_starters, .int x_ran, .int x_ended, .int x_result, .int x_steps, .int x_emits, .ref q_emitted, .ref q_locals, .ref q_stack, .int x_top, .int x_at])), (q_op, .inl (cI, 32, .inl op)), (q_arg, .inl (cI, 32, .inl ar))]) (k_runS (As := [.int b, .int 31]) (rest := []) (n := 2) S (c_MO_outside l D cI cZ b 31) E0_b E0_t ql_MO_83 qt_MO_outside qn_MO qc_MO_outside (by decide +kernel) rfl ⟨rfl, rfl⟩ ⟨Nat.le_of_ble_eq_true rfl, Nat.le_of_ble_eq_true rfl⟩ hK hP hD [] rfl (by decide) hl.1 rfl (Nat.le_of_ble_eq_true rfl) d_MO_add_56 ⟨Nat.zero_le _, Nat.zero_le _⟩) hP hD hS hA [] [0, 1, 2] [0, 1, 2] rfl rfl (by decide) (by decide) rfl (by decide) (fun H locs hP hD hS => ?_)
            refine lv_if_eq (tgt := 64) hx hb d_MO_add_59 (by decide) (fun h59_16 => ?_) (fun h59_16 => ?_)
            · skip
              refine lv_aload_n hx hb d_MO_add_64 rfl (lv_at hl 1 rfl) ?_
              refine k_get (v := .ref q_op) S in_MO hK hP 0 rfl rfl 1 (by decide) ql_MO_7 rfl d_MO_add_65 ?_
              refine lv_aload_n hx hb d_MO_add_68 rfl (lv_at hl 1 rfl) ?_
              refine k_get (v := .int (nI n)) S in_MO hK hP 0 rfl rfl 0 (by decide) ql_MO_77 rfl d_MO_add_69 ?_
              refine lv_iload_n hx hb d_MO_add_72 rfl (lv_at hl 2 rfl) ?_
              refine k_st (k := n) (x := o) (ws' := [(a, .inr (7, [.int (nI n), .ref q_op, .ref q_arg, .int x_handlers, .ref q_handler, .ref q_depth, .ref q_over, .int x_flatCount, .ref q_flatOp, .ref q_flatArg, .int x_flatHandlers, .ref q_flatHandler, .int x_blockCount, .ref q_leader, .ref q_last, .ref q_height, .ref q_state, .ref q_begin, .ref q_drawn, .ref q_order, .int x_g, .ref q_starters, .int x_ran, .int x_ended, .int x_result, .int x_steps, .int x_emits, .ref q_emitted, .ref q_locals, .ref q_stack, .int x_top, .int x_at])), (q_op, .inl (cI, 32, .inl (upd op n o))), (q_arg, .inl (cI, 32, .inl ar))]) hx hb hK hP hD hS 1 0 rfl rfl rfl (by omega) (by decide) rfl d_MO_add_73 (fun H locs hP hD hS => ?_)
              refine lv_aload_n hx hb d_MO_add_74 rfl (lv_at hl 1 rfl) ?_
              refine k_get (v := .ref q_arg) S in_MO hK hP 0 rfl rfl 2 (by decide) ql_MO_13 rfl d_MO_add_75 ?_
              refine lv_aload_n hx hb d_MO_add_78 rfl (lv_at hl 1 rfl) ?_
              refine k_get (v := .int (nI n)) S in_MO hK hP 0 rfl rfl 0 (by decide) ql_MO_77 rfl d_MO_add_79 ?_
              refine lv_iload_n hx hb d_MO_add_82 rfl (lv_at hl 2 rfl) ?_
              refine k_goi (ws' := [(a, .inr (7, [.int (nI n), .ref q_op, .ref q_arg, .int x_handlers, .ref q_handler, .ref q_depth, .ref q_over, .int x_flatCount, .ref q_flatOp, .ref q_flatArg, .int x_flatHandlers, .ref q_flatHandler, .int x_blockCount, .ref q_leader, .ref q_last, .ref q_height, .ref q_state, .ref q_begin, .ref q_drawn, .ref q_order, .int x_g, .ref q_starters, .int x_ran, .int x_ended, .int x_result, .int x_steps, .int x_emits, .ref q_emitted, .ref q_locals, .ref q_stack, .int x_top, .int x_at])), (q_op, .inl (cI, 32, .inl (upd op n o))), (q_arg, .inl (cI, 32, .inl ar))]) (wr := [(a, .inr (7, [.int (nI n), .ref q_op, .ref q_arg, .int x_handlers, .ref q_handler, .ref q_depth, .ref q_over, .int x_flatCount, .ref q_flatOp, .ref q_flatArg, .int x_flatHandlers, .ref q_flatHandler, .int x_blockCount, .ref q_leader, .ref q_last, .ref q_height, .ref q_state, .ref q_begin, .ref q_drawn, .ref q_order, .int x_g, .ref q_starters, .int x_ran, .int x_ended, .int x_result, .int x_steps, .int x_emits, .ref q_emitted, .ref q_locals, .ref q_stack, .int x_top, .int x_at])), (q_op, .inl (cI, 32, .inl (upd op n o))), (q_arg, .inl (cI, 32, .inl ar))]) (k_runS (As := [.int o]) (rest := [.int (nI n), .ref q_arg]) (n := 1) S (c_MO_bears l D cI cZ o) E0_b E0_t ql_MO_87 qt_MO_bears qn_MO qc_MO_bears (by decide +kernel) rfl ⟨rfl, rfl⟩ ⟨Nat.le_of_ble_eq_true rfl, Nat.le_of_ble_eq_true rfl⟩ hK hP hD [] rfl (by decide) hl.1 rfl (Nat.le_of_ble_eq_true rfl) d_MO_add_83 ⟨Nat.zero_le _, Nat.zero_le _⟩) hP hD hS hA [] [0, 1, 2] [0, 1, 2] rfl rfl (by decide) (by decide) rfl (by decide) (fun H locs hP hD hS => ?_)
              refine lv_if_eq (tgt := 93) hx hb d_MO_add_86 (by decide) (fun h86_17 => ?_) (fun h86_17 => ?_)
              · skip
                refine lv_iconst (v := 0) hx hb d_MO_add_93 (by decide) ?_
                refine k_st (k := n) (x := 0) (ws' := [(a, .inr (7, [.int (nI n), .ref q_op, .ref q_arg, .int x_handlers, .ref q_handler, .ref q_depth, .ref q_over, .int x_flatCount, .ref q_flatOp, .ref q_flatArg, .int x_flatHandlers, .ref q_flatHandler, .int x_blockCount, .ref q_leader, .ref q_last, .ref q_height, .ref q_state, .ref q_begin, .ref q_drawn, .ref q_order, .int x_g, .ref q_starters, .int x_ran, .int x_ended, .int x_result, .int x_steps, .int x_emits, .ref q_emitted, .ref q_locals, .ref q_stack, .int x_top, .int x_at])), (q_op, .inl (cI, 32, .inl (upd op n o))), (q_arg, .inl (cI, 32, .inl (upd ar n 0)))]) hx hb hK hP hD hS 2 0 rfl rfl rfl (by omega) (by decide) rfl d_MO_add_94 (fun H locs hP hD hS => ?_)
                refine lv_aload_n hx hb d_MO_add_95 rfl (lv_at hl 1 rfl) ?_
                refine lv_dup hx hb d_MO_add_96 rfl ?_
                refine k_get (v := .int (nI n)) S in_MO hK hP 0 rfl rfl 0 (by decide) ql_MO_77 rfl d_MO_add_97 ?_
                refine lv_iconst (v := 1) hx hb d_MO_add_100 (by decide) ?_
                refine lv_iadd hx hb d_MO_add_101 ?_
                refine k_top (y := nI (n + 1)) (nc_add rfl (by decide)) ?_
                refine k_put (v := .int (nI (n + 1))) (ws' := [(a, .inr (7, [.int (nI (n + 1)), .ref q_op, .ref q_arg, .int x_handlers, .ref q_handler, .ref q_depth, .ref q_over, .int x_flatCount, .ref q_flatOp, .ref q_flatArg, .int x_flatHandlers, .ref q_flatHandler, .int x_blockCount, .ref q_leader, .ref q_last, .ref q_height, .ref q_state, .ref q_begin, .ref q_drawn, .ref q_order, .int x_g, .ref q_starters, .int x_ran, .int x_ended, .int x_result, .int x_steps, .int x_emits, .ref q_emitted, .ref q_locals, .ref q_stack, .int x_top, .int x_at])), (q_op, .inl (cI, 32, .inl (upd op n o))), (q_arg, .inl (cI, 32, .inl (upd ar n 0)))]) S in_MO ty_MO nm_MO hK hP hD hS 0 rfl rfl 0 (by decide) ql_MO_77 rfl rfl rfl rfl (Nat.le_of_ble_eq_true rfl) rfl d_MO_add_102 (fun H locs hP hD hS => ?_)
                refine lv_aload_n hx hb d_MO_add_105 rfl (lv_at hl 1 rfl) ?_
                refine k_get (v := .int (nI (n + 1))) S in_MO hK hP 0 rfl rfl 0 (by decide) ql_MO_77 rfl d_MO_add_106 ?_
                refine lv_iconst (v := 1) hx hb d_MO_add_109 (by decide) ?_
                refine lv_isub hx hb d_MO_add_110 ?_
                refine k_top (y := nI (n + 1 - 1)) (nc_sub rfl (by decide) (by omega)) ?_
                exact k_iret hx hb hr hlocks hK hP hD hS (by rw [f_MO_add, if_neg h2_1, if_neg h7_10, if_pos h22_11, if_neg h31_12, if_neg h50_14, if_pos h59_16, if_pos h86_17]) (by rw [f_MO_add, if_neg h2_1, if_neg h7_10, if_pos h22_11, if_neg h31_12, if_neg h50_14, if_pos h59_16, if_pos h86_17]) d_MO_add_111
              · skip
                refine lv_iload_n hx hb d_MO_add_89 rfl (lv_at hl 3 rfl) ?_
                refine lv_goto (tgt := 94) hx hb d_MO_add_90 (by decide) ?_
                refine k_st (k := n) (x := b) (ws' := [(a, .inr (7, [.int (nI n), .ref q_op, .ref q_arg, .int x_handlers, .ref q_handler, .ref q_depth, .ref q_over, .int x_flatCount, .ref q_flatOp, .ref q_flatArg, .int x_flatHandlers, .ref q_flatHandler, .int x_blockCount, .ref q_leader, .ref q_last, .ref q_height, .ref q_state, .ref q_begin, .ref q_drawn, .ref q_order, .int x_g, .ref q_starters, .int x_ran, .int x_ended, .int x_result, .int x_steps, .int x_emits, .ref q_emitted, .ref q_locals, .ref q_stack, .int x_top, .int x_at])), (q_op, .inl (cI, 32, .inl (upd op n o))), (q_arg, .inl (cI, 32, .inl (upd ar n b)))]) hx hb hK hP hD hS 2 0 rfl rfl rfl (by omega) (by decide) rfl d_MO_add_94 (fun H locs hP hD hS => ?_)
                refine lv_aload_n hx hb d_MO_add_95 rfl (lv_at hl 1 rfl) ?_
                refine lv_dup hx hb d_MO_add_96 rfl ?_
                refine k_get (v := .int (nI n)) S in_MO hK hP 0 rfl rfl 0 (by decide) ql_MO_77 rfl d_MO_add_97 ?_
                refine lv_iconst (v := 1) hx hb d_MO_add_100 (by decide) ?_
                refine lv_iadd hx hb d_MO_add_101 ?_
                refine k_top (y := nI (n + 1)) (nc_add rfl (by decide)) ?_
                refine k_put (v := .int (nI (n + 1))) (ws' := [(a, .inr (7, [.int (nI (n + 1)), .ref q_op, .ref q_arg, .int x_handlers, .ref q_handler, .ref q_depth, .ref q_over, .int x_flatCount, .ref q_flatOp, .ref q_flatArg, .int x_flatHandlers, .ref q_flatHandler, .int x_blockCount, .ref q_leader, .ref q_last, .ref q_height, .ref q_state, .ref q_begin, .ref q_drawn, .ref q_order, .int x_g, .ref q_starters, .int x_ran, .int x_ended, .int x_result, .int x_steps, .int x_emits, .ref q_emitted, .ref q_locals, .ref q_stack, .int x_top, .int x_at])), (q_op, .inl (cI, 32, .inl (upd op n o))), (q_arg, .inl (cI, 32, .inl (upd ar n b)))]) S in_MO ty_MO nm_MO hK hP hD hS 0 rfl rfl 0 (by decide) ql_MO_77 rfl rfl rfl rfl (Nat.le_of_ble_eq_true rfl) rfl d_MO_add_102 (fun H locs hP hD hS => ?_)
                refine lv_aload_n hx hb d_MO_add_105 rfl (lv_at hl 1 rfl) ?_
                refine k_get (v := .int (nI (n + 1))) S in_MO hK hP 0 rfl rfl 0 (by decide) ql_MO_77 rfl d_MO_add_106 ?_
                refine lv_iconst (v := 1) hx hb d_MO_add_109 (by decide) ?_
                refine lv_isub hx hb d_MO_add_110 ?_
                refine k_top (y := nI (n + 1 - 1)) (nc_sub rfl (by decide) (by omega)) ?_
                exact k_iret hx hb hr hlocks hK hP hD hS (by rw [f_MO_add, if_neg h2_1, if_neg h7_10, if_pos h22_11, if_neg h31_12, if_neg h50_14, if_pos h59_16, if_neg h86_17]) (by rw [f_MO_add, if_neg h2_1, if_neg h7_10, if_pos h22_11, if_neg h31_12, if_neg h50_14, if_pos h59_16, if_neg h86_17]) d_MO_add_111
            · skip
              refine lv_iconst (v := (-1)) hx hb d_MO_add_62 (by decide) ?_
              exact k_iret hx hb hr hlocks hK hP hD hS (by rw [f_MO_add, if_neg h2_1, if_neg h7_10, if_pos h22_11, if_neg h31_12, if_neg h50_14, if_neg h59_16]) (by rw [f_MO_add, if_neg h2_1, if_neg h7_10, if_pos h22_11, if_neg h31_12, if_neg h50_14, if_neg h59_16]) d_MO_add_63
    · skip
      refine lv_iconst (v := 1) hx hb d_MO_add_10 (by decide) ?_
      refine lv_goto (tgt := 15) hx hb d_MO_add_11 (by decide) ?_
      refine lv_istore_n (lv' := [(3, .int 1), (0, .ref a), (1, .int o), (2, .int b)]) hx hb d_MO_add_15 rfl hl (by decide) rfl (fun ls hl => ?_)
      refine lv_iload_n hx hb d_MO_add_16 rfl (lv_at hl 2 rfl) ?_
      refine lv_bipush (v := 17) hx hb d_MO_add_17 (by decide) ?_
      refine k_goi (ws' := [(a, .inr (7, [.int (nI n), .ref q_op, .ref q_arg, .int x_handlers, .ref q_handler, .ref q_depth, .ref q_over, .int x_flatCount, .ref q_flatOp, .ref q_flatArg, .int x_flatHandlers, .ref q_flatHandler, .int x_blockCount, .ref q_leader, .ref q_last, .ref q_height, .ref q_state, .ref q_begin, .ref q_drawn, .ref q_order, .int x_g, .ref q_starters, .int x_ran, .int x_ended, .int x_result, .int x_steps, .int x_emits, .ref q_emitted, .ref q_locals, .ref q_stack, .int x_top, .int x_at])), (q_op, .inl (cI, 32, .inl op)), (q_arg, .inl (cI, 32, .inl ar))]) (wr := [(a, .inr (7, [.int (nI n), .ref q_op, .ref q_arg, .int x_handlers, .ref q_handler, .ref q_depth, .ref q_over, .int x_flatCount, .ref q_flatOp, .ref q_flatArg, .int x_flatHandlers, .ref q_flatHandler, .int x_blockCount, .ref q_leader, .ref q_last, .ref q_height, .ref q_state, .ref q_begin, .ref q_drawn, .ref q_order, .int x_g, .ref q_starters, .int x_ran, .int x_ended, .int x_result, .int x_steps, .int x_emits, .ref q_emitted, .ref q_locals, .ref q_stack, .int x_top, .int x_at])), (q_op, .inl (cI, 32, .inl op)), (q_arg, .inl (cI, 32, .inl ar))]) (k_runS (As := [.int o, .int 17]) (rest := []) (n := 2) S (c_MO_outside l D cI cZ o 17) E0_b E0_t ql_MO_83 qt_MO_outside qn_MO qc_MO_outside (by decide +kernel) rfl ⟨rfl, rfl⟩ ⟨Nat.le_of_ble_eq_true rfl, Nat.le_of_ble_eq_true rfl⟩ hK hP hD [] rfl (by decide) hl.1 rfl (Nat.le_of_ble_eq_true rfl) d_MO_add_19 ⟨Nat.zero_le _, Nat.zero_le _⟩) hP hD hS hA [] [0, 1, 2] [0, 1, 2] rfl rfl (by decide) (by decide) rfl (by decide) (fun H locs hP hD hS => ?_)
      refine lv_if_ne (tgt := 62) hx hb d_MO_add_22 (by decide) (fun h22_18 => ?_) (fun h22_18 => ?_)
      · skip
        refine lv_iconst (v := (-1)) hx hb d_MO_add_62 (by decide) ?_
        exact k_iret hx hb hr hlocks hK hP hD hS (by rw [f_MO_add, if_neg h2_1, if_pos h7_10, if_neg h22_18]) (by rw [f_MO_add, if_neg h2_1, if_pos h7_10, if_neg h22_18]) d_MO_add_63
      · skip
        refine lv_aload_n hx hb d_MO_add_25 rfl (lv_at hl 1 rfl) ?_
        refine k_get (v := .int (nI n)) S in_MO hK hP 0 rfl rfl 0 (by decide) ql_MO_77 rfl d_MO_add_26 ?_
        refine lv_bipush (v := 32) hx hb d_MO_add_29 (by decide) ?_
        refine n_icmp_eq (tgt := 62) (x := n) (y := 32) hx hb rfl (by decide) (by omega) (by omega) d_MO_add_31 (by decide) (fun h31_19 => ?_) (fun h31_19 => ?_)
        · skip
          refine lv_iconst (v := (-1)) hx hb d_MO_add_62 (by decide) ?_
          exact k_iret hx hb hr hlocks hK hP hD hS (by rw [f_MO_add, if_neg h2_1, if_pos h7_10, if_pos h22_18, if_pos h31_19]) (by rw [f_MO_add, if_neg h2_1, if_pos h7_10, if_pos h22_18, if_pos h31_19]) d_MO_add_63
        · skip
          refine lv_iload_n hx hb d_MO_add_34 rfl (lv_at hl 0 rfl) ?_
          refine lv_if_eq (tgt := 46) hx hb d_MO_add_35 (by decide) (fun h35_20 => absurd h35_20 (by decide)) (fun h35_20 => ?_)
          refine lv_iload_n hx hb d_MO_add_38 rfl (lv_at hl 3 rfl) ?_
          refine lv_iconst (v := 3) hx hb d_MO_add_39 (by decide) ?_
          refine k_goi (ws' := [(a, .inr (7, [.int (nI n), .ref q_op, .ref q_arg, .int x_handlers, .ref q_handler, .ref q_depth, .ref q_over, .int x_flatCount, .ref q_flatOp, .ref q_flatArg, .int x_flatHandlers, .ref q_flatHandler, .int x_blockCount, .ref q_leader, .ref q_last, .ref q_height, .ref q_state, .ref q_begin, .ref q_drawn, .ref q_order, .int x_g, .ref q_starters, .int x_ran, .int x_ended, .int x_result, .int x_steps, .int x_emits, .ref q_emitted, .ref q_locals, .ref q_stack, .int x_top, .int x_at])), (q_op, .inl (cI, 32, .inl op)), (q_arg, .inl (cI, 32, .inl ar))]) (wr := [(a, .inr (7, [.int (nI n), .ref q_op, .ref q_arg, .int x_handlers, .ref q_handler, .ref q_depth, .ref q_over, .int x_flatCount, .ref q_flatOp, .ref q_flatArg, .int x_flatHandlers, .ref q_flatHandler, .int x_blockCount, .ref q_leader, .ref q_last, .ref q_height, .ref q_state, .ref q_begin, .ref q_drawn, .ref q_order, .int x_g, .ref q_starters, .int x_ran, .int x_ended, .int x_result, .int x_steps, .int x_emits, .ref q_emitted, .ref q_locals, .ref q_stack, .int x_top, .int x_at])), (q_op, .inl (cI, 32, .inl op)), (q_arg, .inl (cI, 32, .inl ar))]) (k_runS (As := [.int b, .int 3]) (rest := []) (n := 2) S (c_MO_outside l D cI cZ b 3) E0_b E0_t ql_MO_83 qt_MO_outside qn_MO qc_MO_outside (by decide +kernel) rfl ⟨rfl, rfl⟩ ⟨Nat.le_of_ble_eq_true rfl, Nat.le_of_ble_eq_true rfl⟩ hK hP hD [] rfl (by decide) hl.1 rfl (Nat.le_of_ble_eq_true rfl) d_MO_add_40 ⟨Nat.zero_le _, Nat.zero_le _⟩) hP hD hS hA [] [0, 1, 2] [0, 1, 2] rfl rfl (by decide) (by decide) rfl (by decide) (fun H locs hP hD hS => ?_)
          refine lv_if_ne (tgt := 62) hx hb d_MO_add_43 (by decide) (fun h43_21 => ?_) (fun h43_21 => ?_)
          · skip
            refine lv_iconst (v := (-1)) hx hb d_MO_add_62 (by decide) ?_
            exact k_iret hx hb hr hlocks hK hP hD hS (by rw [f_MO_add, if_neg h2_1, if_pos h7_10, if_pos h22_18, if_neg h31_19, if_neg h43_21]) (by rw [f_MO_add, if_neg h2_1, if_pos h7_10, if_pos h22_18, if_neg h31_19, if_neg h43_21]) d_MO_add_63
          · skip
            refine lv_iload_n hx hb d_MO_add_46 rfl (lv_at hl 2 rfl) ?_
            refine k_goi (ws' := [(a, .inr (7, [.int (nI n), .ref q_op, .ref q_arg, .int x_handlers, .ref q_handler, .ref q_depth, .ref q_over, .int x_flatCount, .ref q_flatOp, .ref q_flatArg, .int x_flatHandlers, .ref q_flatHandler, .int x_blockCount, .ref q_leader, .ref q_last, .ref q_height, .ref q_state, .ref q_begin, .ref q_drawn, .ref q_order, .int x_g, .ref q_starters, .int x_ran, .int x_ended, .int x_result, .int x_steps, .int x_emits, .ref q_emitted, .ref q_locals, .ref q_stack, .int x_top, .int x_at])), (q_op, .inl (cI, 32, .inl op)), (q_arg, .inl (cI, 32, .inl ar))]) (wr := [(a, .inr (7, [.int (nI n), .ref q_op, .ref q_arg, .int x_handlers, .ref q_handler, .ref q_depth, .ref q_over, .int x_flatCount, .ref q_flatOp, .ref q_flatArg, .int x_flatHandlers, .ref q_flatHandler, .int x_blockCount, .ref q_leader, .ref q_last, .ref q_height, .ref q_state, .ref q_begin, .ref q_drawn, .ref q_order, .int x_g, .ref q_starters, .int x_ran, .int x_ended, .int x_result, .int x_steps, .int x_emits, .ref q_emitted, .ref q_locals, .ref q_stack, .int x_top, .int x_at])), (q_op, .inl (cI, 32, .inl op)), (q_arg, .inl (cI, 32, .inl ar))]) (k_runS (As := [.int o]) (rest := []) (n := 1) S (c_MO_jumps l D cI cZ o) E0_b E0_t ql_MO_73 qt_MO_jumps qn_MO qc_MO_jumps (by decide +kernel) rfl ⟨rfl, rfl⟩ ⟨Nat.le_of_ble_eq_true rfl, Nat.le_of_ble_eq_true rfl⟩ hK hP hD [] rfl (by decide) hl.1 rfl (Nat.le_of_ble_eq_true rfl) d_MO_add_47 ⟨Nat.zero_le _, Nat.zero_le _⟩) hP hD hS hA [] [0, 1, 2] [0, 1, 2] rfl rfl (by decide) (by decide) rfl (by decide) (fun H locs hP hD hS => ?_)
            refine lv_if_eq (tgt := 64) hx hb d_MO_add_50 (by decide) (fun h50_22 => ?_) (fun h50_22 => ?_)
            · skip
              refine lv_aload_n hx hb d_MO_add_64 rfl (lv_at hl 1 rfl) ?_
              refine k_get (v := .ref q_op) S in_MO hK hP 0 rfl rfl 1 (by decide) ql_MO_7 rfl d_MO_add_65 ?_
              refine lv_aload_n hx hb d_MO_add_68 rfl (lv_at hl 1 rfl) ?_
              refine k_get (v := .int (nI n)) S in_MO hK hP 0 rfl rfl 0 (by decide) ql_MO_77 rfl d_MO_add_69 ?_
              refine lv_iload_n hx hb d_MO_add_72 rfl (lv_at hl 2 rfl) ?_
              refine k_st (k := n) (x := o) (ws' := [(a, .inr (7, [.int (nI n), .ref q_op, .ref q_arg, .int x_handlers, .ref q_handler, .ref q_depth, .ref q_over, .int x_flatCount, .ref q_flatOp, .ref q_flatArg, .int x_flatHandlers, .ref q_flatHandler, .int x_blockCount, .ref q_leader, .ref q_last, .ref q_height, .ref q_state, .ref q_begin, .ref q_drawn, .ref q_order, .int x_g, .ref q_starters, .int x_ran, .int x_ended, .int x_result, .int x_steps, .int x_emits, .ref q_emitted, .ref q_locals, .ref q_stack, .int x_top, .int x_at])), (q_op, .inl (cI, 32, .inl (upd op n o))), (q_arg, .inl (cI, 32, .inl ar))]) hx hb hK hP hD hS 1 0 rfl rfl rfl (by omega) (by decide) rfl d_MO_add_73 (fun H locs hP hD hS => ?_)
              refine lv_aload_n hx hb d_MO_add_74 rfl (lv_at hl 1 rfl) ?_
              refine k_get (v := .ref q_arg) S in_MO hK hP 0 rfl rfl 2 (by decide) ql_MO_13 rfl d_MO_add_75 ?_
              refine lv_aload_n hx hb d_MO_add_78 rfl (lv_at hl 1 rfl) ?_
              refine k_get (v := .int (nI n)) S in_MO hK hP 0 rfl rfl 0 (by decide) ql_MO_77 rfl d_MO_add_79 ?_
              refine lv_iload_n hx hb d_MO_add_82 rfl (lv_at hl 2 rfl) ?_
              refine k_goi (ws' := [(a, .inr (7, [.int (nI n), .ref q_op, .ref q_arg, .int x_handlers, .ref q_handler, .ref q_depth, .ref q_over, .int x_flatCount, .ref q_flatOp, .ref q_flatArg, .int x_flatHandlers, .ref q_flatHandler, .int x_blockCount, .ref q_leader, .ref q_last, .ref q_height, .ref q_state, .ref q_begin, .ref q_drawn, .ref q_order, .int x_g, .ref q_starters, .int x_ran, .int x_ended, .int x_result, .int x_steps, .int x_emits, .ref q_emitted, .ref q_locals, .ref q_stack, .int x_top, .int x_at])), (q_op, .inl (cI, 32, .inl (upd op n o))), (q_arg, .inl (cI, 32, .inl ar))]) (wr := [(a, .inr (7, [.int (nI n), .ref q_op, .ref q_arg, .int x_handlers, .ref q_handler, .ref q_depth, .ref q_over, .int x_flatCount, .ref q_flatOp, .ref q_flatArg, .int x_flatHandlers, .ref q_flatHandler, .int x_blockCount, .ref q_leader, .ref q_last, .ref q_height, .ref q_state, .ref q_begin, .ref q_drawn, .ref q_order, .int x_g, .ref q_starters, .int x_ran, .int x_ended, .int x_result, .int x_steps, .int x_emits, .ref q_emitted, .ref q_locals, .ref q_stack, .int x_top, .int x_at])), (q_op, .inl (cI, 32, .inl (upd op n o))), (q_arg, .inl (cI, 32, .inl ar))]) (k_runS (As := [.int o]) (rest := [.int (nI n), .ref q_arg]) (n := 1) S (c_MO_bears l D cI cZ o) E0_b E0_t ql_MO_87 qt_MO_bears qn_MO qc_MO_bears (by decide +kernel) rfl ⟨rfl, rfl⟩ ⟨Nat.le_of_ble_eq_true rfl, Nat.le_of_ble_eq_true rfl⟩ hK hP hD [] rfl (by decide) hl.1 rfl (Nat.le_of_ble_eq_true rfl) d_MO_add_83 ⟨Nat.zero_le _, Nat.zero_le _⟩) hP hD hS hA [] [0, 1, 2] [0, 1, 2] rfl rfl (by decide) (by decide) rfl (by decide) (fun H locs hP hD hS => ?_)
              refine lv_if_eq (tgt := 93) hx hb d_MO_add_86 (by decide) (fun h86_23 => ?_) (fun h86_23 => ?_)
              · skip
                refine lv_iconst (v := 0) hx hb d_MO_add_93 (by decide) ?_
                refine k_st (k := n) (x := 0) (ws' := [(a, .inr (7, [.int (nI n), .ref q_op, .ref q_arg, .int x_handlers, .ref q_handler, .ref q_depth, .ref q_over, .int x_flatCount, .ref q_flatOp, .ref q_flatArg, .int x_flatHandlers, .ref q_flatHandler, .int x_blockCount, .ref q_leader, .ref q_last, .ref q_height, .ref q_state, .ref q_begin, .ref q_drawn, .ref q_order, .int x_g, .ref q_starters, .int x_ran, .int x_ended, .int x_result, .int x_steps, .int x_emits, .ref q_emitted, .ref q_locals, .ref q_stack, .int x_top, .int x_at])), (q_op, .inl (cI, 32, .inl (upd op n o))), (q_arg, .inl (cI, 32, .inl (upd ar n 0)))]) hx hb hK hP hD hS 2 0 rfl rfl rfl (by omega) (by decide) rfl d_MO_add_94 (fun H locs hP hD hS => ?_)
                refine lv_aload_n hx hb d_MO_add_95 rfl (lv_at hl 1 rfl) ?_
                refine lv_dup hx hb d_MO_add_96 rfl ?_
                refine k_get (v := .int (nI n)) S in_MO hK hP 0 rfl rfl 0 (by decide) ql_MO_77 rfl d_MO_add_97 ?_
                refine lv_iconst (v := 1) hx hb d_MO_add_100 (by decide) ?_
                refine lv_iadd hx hb d_MO_add_101 ?_
                refine k_top (y := nI (n + 1)) (nc_add rfl (by decide)) ?_
                refine k_put (v := .int (nI (n + 1))) (ws' := [(a, .inr (7, [.int (nI (n + 1)), .ref q_op, .ref q_arg, .int x_handlers, .ref q_handler, .ref q_depth, .ref q_over, .int x_flatCount, .ref q_flatOp, .ref q_flatArg, .int x_flatHandlers, .ref q_flatHandler, .int x_blockCount, .ref q_leader, .ref q_last, .ref q_height, .ref q_state, .ref q_begin, .ref q_drawn, .ref q_order, .int x_g, .ref q_starters, .int x_ran, .int x_ended, .int x_result, .int x_steps, .int x_emits, .ref q_emitted, .ref q_locals, .ref q_stack, .int x_top, .int x_at])), (q_op, .inl (cI, 32, .inl (upd op n o))), (q_arg, .inl (cI, 32, .inl (upd ar n 0)))]) S in_MO ty_MO nm_MO hK hP hD hS 0 rfl rfl 0 (by decide) ql_MO_77 rfl rfl rfl rfl (Nat.le_of_ble_eq_true rfl) rfl d_MO_add_102 (fun H locs hP hD hS => ?_)
                refine lv_aload_n hx hb d_MO_add_105 rfl (lv_at hl 1 rfl) ?_
                refine k_get (v := .int (nI (n + 1))) S in_MO hK hP 0 rfl rfl 0 (by decide) ql_MO_77 rfl d_MO_add_106 ?_
                refine lv_iconst (v := 1) hx hb d_MO_add_109 (by decide) ?_
                refine lv_isub hx hb d_MO_add_110 ?_
                refine k_top (y := nI (n + 1 - 1)) (nc_sub rfl (by decide) (by omega)) ?_
                exact k_iret hx hb hr hlocks hK hP hD hS (by rw [f_MO_add, if_neg h2_1, if_pos h7_10, if_pos h22_18, if_neg h31_19, if_pos h43_21, if_pos h50_22, if_pos h86_23]) (by rw [f_MO_add, if_neg h2_1, if_pos h7_10, if_pos h22_18, if_neg h31_19, if_pos h43_21, if_pos h50_22, if_pos h86_23]) d_MO_add_111
              · skip
                refine lv_iload_n hx hb d_MO_add_89 rfl (lv_at hl 3 rfl) ?_
                refine lv_goto (tgt := 94) hx hb d_MO_add_90 (by decide) ?_
                refine k_st (k := n) (x := b) (ws' := [(a, .inr (7, [.int (nI n), .ref q_op, .ref q_arg, .int x_handlers, .ref q_handler, .ref q_depth, .ref q_over, .int x_flatCount, .ref q_flatOp, .ref q_flatArg, .int x_flatHandlers, .ref q_flatHandler, .int x_blockCount, .ref q_leader, .ref q_last, .ref q_height, .ref q_state, .ref q_begin, .ref q_drawn, .ref q_order, .int x_g, .ref q_starters, .int x_ran, .int x_ended, .int x_result, .int x_steps, .int x_emits, .ref q_emitted, .ref q_locals, .ref q_stack, .int x_top, .int x_at])), (q_op, .inl (cI, 32, .inl (upd op n o))), (q_arg, .inl (cI, 32, .inl (upd ar n b)))]) hx hb hK hP hD hS 2 0 rfl rfl rfl (by omega) (by decide) rfl d_MO_add_94 (fun H locs hP hD hS => ?_)
                refine lv_aload_n hx hb d_MO_add_95 rfl (lv_at hl 1 rfl) ?_
                refine lv_dup hx hb d_MO_add_96 rfl ?_
                refine k_get (v := .int (nI n)) S in_MO hK hP 0 rfl rfl 0 (by decide) ql_MO_77 rfl d_MO_add_97 ?_
                refine lv_iconst (v := 1) hx hb d_MO_add_100 (by decide) ?_
                refine lv_iadd hx hb d_MO_add_101 ?_
                refine k_top (y := nI (n + 1)) (nc_add rfl (by decide)) ?_
                refine k_put (v := .int (nI (n + 1))) (ws' := [(a, .inr (7, [.int (nI (n + 1)), .ref q_op, .ref q_arg, .int x_handlers, .ref q_handler, .ref q_depth, .ref q_over, .int x_flatCount, .ref q_flatOp, .ref q_flatArg, .int x_flatHandlers, .ref q_flatHandler, .int x_blockCount, .ref q_leader, .ref q_last, .ref q_height, .ref q_state, .ref q_begin, .ref q_drawn, .ref q_order, .int x_g, .ref q_starters, .int x_ran, .int x_ended, .int x_result, .int x_steps, .int x_emits, .ref q_emitted, .ref q_locals, .ref q_stack, .int x_top, .int x_at])), (q_op, .inl (cI, 32, .inl (upd op n o))), (q_arg, .inl (cI, 32, .inl (upd ar n b)))]) S in_MO ty_MO nm_MO hK hP hD hS 0 rfl rfl 0 (by decide) ql_MO_77 rfl rfl rfl rfl (Nat.le_of_ble_eq_true rfl) rfl d_MO_add_102 (fun H locs hP hD hS => ?_)
                refine lv_aload_n hx hb d_MO_add_105 rfl (lv_at hl 1 rfl) ?_
                refine k_get (v := .int (nI (n + 1))) S in_MO hK hP 0 rfl rfl 0 (by decide) ql_MO_77 rfl d_MO_add_106 ?_
                refine lv_iconst (v := 1) hx hb d_MO_add_109 (by decide) ?_
                refine lv_isub hx hb d_MO_add_110 ?_
                refine k_top (y := nI (n + 1 - 1)) (nc_sub rfl (by decide) (by omega)) ?_
                exact k_iret hx hb hr hlocks hK hP hD hS (by rw [f_MO_add, if_neg h2_1, if_pos h7_10, if_pos h22_18, if_neg h31_19, if_pos h43_21, if_pos h50_22, if_neg h86_23]) (by rw [f_MO_add, if_neg h2_1, if_pos h7_10, if_pos h22_18, if_neg h31_19, if_pos h43_21, if_pos h50_22, if_neg h86_23]) d_MO_add_111
            · skip
              refine lv_iload_n hx hb d_MO_add_53 rfl (lv_at hl 3 rfl) ?_
              refine lv_bipush (v := 31) hx hb d_MO_add_54 (by decide) ?_
              refine k_goi (ws' := [(a, .inr (7, [.int (nI n), .ref q_op, .ref q_arg, .int x_handlers, .ref q_handler, .ref q_depth, .ref q_over, .int x_flatCount, .ref q_flatOp, .ref q_flatArg, .int x_flatHandlers, .ref q_flatHandler, .int x_blockCount, .ref q_leader, .ref q_last, .ref q_height, .ref q_state, .ref q_begin, .ref q_drawn, .ref q_order, .int x_g, .ref q_starters, .int x_ran, .int x_ended, .int x_result, .int x_steps, .int x_emits, .ref q_emitted, .ref q_locals, .ref q_stack, .int x_top, .int x_at])), (q_op, .inl (cI, 32, .inl op)), (q_arg, .inl (cI, 32, .inl ar))]) (wr := [(a, .inr (7, [.int (nI n), .ref q_op, .ref q_arg, .int x_handlers, .ref q_handler, .ref q_depth, .ref q_over, .int x_flatCount, .ref q_flatOp, .ref q_flatArg, .int x_flatHandlers, .ref q_flatHandler, .int x_blockCount, .ref q_leader, .ref q_last, .ref q_height, .ref q_state, .ref q_begin, .ref q_drawn, .ref q_order, .int x_g, .ref q_starters, .int x_ran, .int x_ended, .int x_result, .int x_steps, .int x_emits, .ref q_emitted, .ref q_locals, .ref q_stack, .int x_top, .int x_at])), (q_op, .inl (cI, 32, .inl op)), (q_arg, .inl (cI, 32, .inl ar))]) (k_runS (As := [.int b, .int 31]) (rest := []) (n := 2) S (c_MO_outside l D cI cZ b 31) E0_b E0_t ql_MO_83 qt_MO_outside qn_MO qc_MO_outside (by decide +kernel) rfl ⟨rfl, rfl⟩ ⟨Nat.le_of_ble_eq_true rfl, Nat.le_of_ble_eq_true rfl⟩ hK hP hD [] rfl (by decide) hl.1 rfl (Nat.le_of_ble_eq_true rfl) d_MO_add_56 ⟨Nat.zero_le _, Nat.zero_le _⟩) hP hD hS hA [] [0, 1, 2] [0, 1, 2] rfl rfl (by decide) (by decide) rfl (by decide) (fun H locs hP hD hS => ?_)
              refine lv_if_eq (tgt := 64) hx hb d_MO_add_59 (by decide) (fun h59_24 => ?_) (fun h59_24 => ?_)
              · skip
                refine lv_aload_n hx hb d_MO_add_64 rfl (lv_at hl 1 rfl) ?_
                refine k_get (v := .ref q_op) S in_MO hK hP 0 rfl rfl 1 (by decide) ql_MO_7 rfl d_MO_add_65 ?_
                refine lv_aload_n hx hb d_MO_add_68 rfl (lv_at hl 1 rfl) ?_
                refine k_get (v := .int (nI n)) S in_MO hK hP 0 rfl rfl 0 (by decide) ql_MO_77 rfl d_MO_add_69 ?_
                refine lv_iload_n hx hb d_MO_add_72 rfl (lv_at hl 2 rfl) ?_
                refine k_st (k := n) (x := o) (ws' := [(a, .inr (7, [.int (nI n), .ref q_op, .ref q_arg, .int x_handlers, .ref q_handler, .ref q_depth, .ref q_over, .int x_flatCount, .ref q_flatOp, .ref q_flatArg, .int x_flatHandlers, .ref q_flatHandler, .int x_blockCount, .ref q_leader, .ref q_last, .ref q_height, .ref q_state, .ref q_begin, .ref q_drawn, .ref q_order, .int x_g, .ref q_starters, .int x_ran, .int x_ended, .int x_result, .int x_steps, .int x_emits, .ref q_emitted, .ref q_locals, .ref q_stack, .int x_top, .int x_at])), (q_op, .inl (cI, 32, .inl (upd op n o))), (q_arg, .inl (cI, 32, .inl ar))]) hx hb hK hP hD hS 1 0 rfl rfl rfl (by omega) (by decide) rfl d_MO_add_73 (fun H locs hP hD hS => ?_)
                refine lv_aload_n hx hb d_MO_add_74 rfl (lv_at hl 1 rfl) ?_
                refine k_get (v := .ref q_arg) S in_MO hK hP 0 rfl rfl 2 (by decide) ql_MO_13 rfl d_MO_add_75 ?_
                refine lv_aload_n hx hb d_MO_add_78 rfl (lv_at hl 1 rfl) ?_
                refine k_get (v := .int (nI n)) S in_MO hK hP 0 rfl rfl 0 (by decide) ql_MO_77 rfl d_MO_add_79 ?_
                refine lv_iload_n hx hb d_MO_add_82 rfl (lv_at hl 2 rfl) ?_
                refine k_goi (ws' := [(a, .inr (7, [.int (nI n), .ref q_op, .ref q_arg, .int x_handlers, .ref q_handler, .ref q_depth, .ref q_over, .int x_flatCount, .ref q_flatOp, .ref q_flatArg, .int x_flatHandlers, .ref q_flatHandler, .int x_blockCount, .ref q_leader, .ref q_last, .ref q_height, .ref q_state, .ref q_begin, .ref q_drawn, .ref q_order, .int x_g, .ref q_starters, .int x_ran, .int x_ended, .int x_result, .int x_steps, .int x_emits, .ref q_emitted, .ref q_locals, .ref q_stack, .int x_top, .int x_at])), (q_op, .inl (cI, 32, .inl (upd op n o))), (q_arg, .inl (cI, 32, .inl ar))]) (wr := [(a, .inr (7, [.int (nI n), .ref q_op, .ref q_arg, .int x_handlers, .ref q_handler, .ref q_depth, .ref q_over, .int x_flatCount, .ref q_flatOp, .ref q_flatArg, .int x_flatHandlers, .ref q_flatHandler, .int x_blockCount, .ref q_leader, .ref q_last, .ref q_height, .ref q_state, .ref q_begin, .ref q_drawn, .ref q_order, .int x_g, .ref q_starters, .int x_ran, .int x_ended, .int x_result, .int x_steps, .int x_emits, .ref q_emitted, .ref q_locals, .ref q_stack, .int x_top, .int x_at])), (q_op, .inl (cI, 32, .inl (upd op n o))), (q_arg, .inl (cI, 32, .inl ar))]) (k_runS (As := [.int o]) (rest := [.int (nI n), .ref q_arg]) (n := 1) S (c_MO_bears l D cI cZ o) E0_b E0_t ql_MO_87 qt_MO_bears qn_MO qc_MO_bears (by decide +kernel) rfl ⟨rfl, rfl⟩ ⟨Nat.le_of_ble_eq_true rfl, Nat.le_of_ble_eq_true rfl⟩ hK hP hD [] rfl (by decide) hl.1 rfl (Nat.le_of_ble_eq_true rfl) d_MO_add_83 ⟨Nat.zero_le _, Nat.zero_le _⟩) hP hD hS hA [] [0, 1, 2] [0, 1, 2] rfl rfl (by decide) (by decide) rfl (by decide) (fun H locs hP hD hS => ?_)
                refine lv_if_eq (tgt := 93) hx hb d_MO_add_86 (by decide) (fun h86_25 => ?_) (fun h86_25 => ?_)
                · skip
                  refine lv_iconst (v := 0) hx hb d_MO_add_93 (by decide) ?_
                  refine k_st (k := n) (x := 0) (ws' := [(a, .inr (7, [.int (nI n), .ref q_op, .ref q_arg, .int x_handlers, .ref q_handler, .ref q_depth, .ref q_over, .int x_flatCount, .ref q_flatOp, .ref q_flatArg, .int x_flatHandlers, .ref q_flatHandler, .int x_blockCount, .ref q_leader, .ref q_last, .ref q_height, .ref q_state, .ref q_begin, .ref q_drawn, .ref q_order, .int x_g, .ref q_starters, .int x_ran, .int x_ended, .int x_result, .int x_steps, .int x_emits, .ref q_emitted, .ref q_locals, .ref q_stack, .int x_top, .int x_at])), (q_op, .inl (cI, 32, .inl (upd op n o))), (q_arg, .inl (cI, 32, .inl (upd ar n 0)))]) hx hb hK hP hD hS 2 0 rfl rfl rfl (by omega) (by decide) rfl d_MO_add_94 (fun H locs hP hD hS => ?_)
                  refine lv_aload_n hx hb d_MO_add_95 rfl (lv_at hl 1 rfl) ?_
                  refine lv_dup hx hb d_MO_add_96 rfl ?_
                  refine k_get (v := .int (nI n)) S in_MO hK hP 0 rfl rfl 0 (by decide) ql_MO_77 rfl d_MO_add_97 ?_
                  refine lv_iconst (v := 1) hx hb d_MO_add_100 (by decide) ?_
                  refine lv_iadd hx hb d_MO_add_101 ?_
                  refine k_top (y := nI (n + 1)) (nc_add rfl (by decide)) ?_
                  refine k_put (v := .int (nI (n + 1))) (ws' := [(a, .inr (7, [.int (nI (n + 1)), .ref q_op, .ref q_arg, .int x_handlers, .ref q_handler, .ref q_depth, .ref q_over, .int x_flatCount, .ref q_flatOp, .ref q_flatArg, .int x_flatHandlers, .ref q_flatHandler, .int x_blockCount, .ref q_leader, .ref q_last, .ref q_height, .ref q_state, .ref q_begin, .ref q_drawn, .ref q_order, .int x_g, .ref q_starters, .int x_ran, .int x_ended, .int x_result, .int x_steps, .int x_emits, .ref q_emitted, .ref q_locals, .ref q_stack, .int x_top, .int x_at])), (q_op, .inl (cI, 32, .inl (upd op n o))), (q_arg, .inl (cI, 32, .inl (upd ar n 0)))]) S in_MO ty_MO nm_MO hK hP hD hS 0 rfl rfl 0 (by decide) ql_MO_77 rfl rfl rfl rfl (Nat.le_of_ble_eq_true rfl) rfl d_MO_add_102 (fun H locs hP hD hS => ?_)
                  refine lv_aload_n hx hb d_MO_add_105 rfl (lv_at hl 1 rfl) ?_
                  refine k_get (v := .int (nI (n + 1))) S in_MO hK hP 0 rfl rfl 0 (by decide) ql_MO_77 rfl d_MO_add_106 ?_
                  refine lv_iconst (v := 1) hx hb d_MO_add_109 (by decide) ?_
                  refine lv_isub hx hb d_MO_add_110 ?_
                  refine k_top (y := nI (n + 1 - 1)) (nc_sub rfl (by decide) (by omega)) ?_
                  exact k_iret hx hb hr hlocks hK hP hD hS (by rw [f_MO_add, if_neg h2_1, if_pos h7_10, if_pos h22_18, if_neg h31_19, if_pos h43_21, if_neg h50_22, if_pos h59_24, if_pos h86_25]) (by rw [f_MO_add, if_neg h2_1, if_pos h7_10, if_pos h22_18, if_neg h31_19, if_pos h43_21, if_neg h50_22, if_pos h59_24, if_pos h86_25]) d_MO_add_111
                · skip
                  refine lv_iload_n hx hb d_MO_add_89 rfl (lv_at hl 3 rfl) ?_
                  refine lv_goto (tgt := 94) hx hb d_MO_add_90 (by decide) ?_
                  refine k_st (k := n) (x := b) (ws' := [(a, .inr (7, [.int (nI n), .ref q_op, .ref q_arg, .int x_handlers, .ref q_handler, .ref q_depth, .ref q_over, .int x_flatCount, .ref q_flatOp, .ref q_flatArg, .int x_flatHandlers, .ref q_flatHandler, .int x_blockCount, .ref q_leader, .ref q_last, .ref q_height, .ref q_state, .ref q_begin, .ref q_drawn, .ref q_order, .int x_g, .ref q_starters, .int x_ran, .int x_ended, .int x_result, .int x_steps, .int x_emits, .ref q_emitted, .ref q_locals, .ref q_stack, .int x_top, .int x_at])), (q_op, .inl (cI, 32, .inl (upd op n o))), (q_arg, .inl (cI, 32, .inl (upd ar n b)))]) hx hb hK hP hD hS 2 0 rfl rfl rfl (by omega) (by decide) rfl d_MO_add_94 (fun H locs hP hD hS => ?_)
                  refine lv_aload_n hx hb d_MO_add_95 rfl (lv_at hl 1 rfl) ?_
                  refine lv_dup hx hb d_MO_add_96 rfl ?_
                  refine k_get (v := .int (nI n)) S in_MO hK hP 0 rfl rfl 0 (by decide) ql_MO_77 rfl d_MO_add_97 ?_
                  refine lv_iconst (v := 1) hx hb d_MO_add_100 (by decide) ?_
                  refine lv_iadd hx hb d_MO_add_101 ?_
                  refine k_top (y := nI (n + 1)) (nc_add rfl (by decide)) ?_
                  refine k_put (v := .int (nI (n + 1))) (ws' := [(a, .inr (7, [.int (nI (n + 1)), .ref q_op, .ref q_arg, .int x_handlers, .ref q_handler, .ref q_depth, .ref q_over, .int x_flatCount, .ref q_flatOp, .ref q_flatArg, .int x_flatHandlers, .ref q_flatHandler, .int x_blockCount, .ref q_leader, .ref q_last, .ref q_height, .ref q_state, .ref q_begin, .ref q_drawn, .ref q_order, .int x_g, .ref q_starters, .int x_ran, .int x_ended, .int x_result, .int x_steps, .int x_emits, .ref q_emitted, .ref q_locals, .ref q_stack, .int x_top, .int x_at])), (q_op, .inl (cI, 32, .inl (upd op n o))), (q_arg, .inl (cI, 32, .inl (upd ar n b)))]) S in_MO ty_MO nm_MO hK hP hD hS 0 rfl rfl 0 (by decide) ql_MO_77 rfl rfl rfl rfl (Nat.le_of_ble_eq_true rfl) rfl d_MO_add_102 (fun H locs hP hD hS => ?_)
                  refine lv_aload_n hx hb d_MO_add_105 rfl (lv_at hl 1 rfl) ?_
                  refine k_get (v := .int (nI (n + 1))) S in_MO hK hP 0 rfl rfl 0 (by decide) ql_MO_77 rfl d_MO_add_106 ?_
                  refine lv_iconst (v := 1) hx hb d_MO_add_109 (by decide) ?_
                  refine lv_isub hx hb d_MO_add_110 ?_
                  refine k_top (y := nI (n + 1 - 1)) (nc_sub rfl (by decide) (by omega)) ?_
                  exact k_iret hx hb hr hlocks hK hP hD hS (by rw [f_MO_add, if_neg h2_1, if_pos h7_10, if_pos h22_18, if_neg h31_19, if_pos h43_21, if_neg h50_22, if_pos h59_24, if_neg h86_25]) (by rw [f_MO_add, if_neg h2_1, if_pos h7_10, if_pos h22_18, if_neg h31_19, if_pos h43_21, if_neg h50_22, if_pos h59_24, if_neg h86_25]) d_MO_add_111
              · skip
                refine lv_iconst (v := (-1)) hx hb d_MO_add_62 (by decide) ?_
                exact k_iret hx hb hr hlocks hK hP hD hS (by rw [f_MO_add, if_neg h2_1, if_pos h7_10, if_pos h22_18, if_neg h31_19, if_pos h43_21, if_neg h50_22, if_neg h59_24]) (by rw [f_MO_add, if_neg h2_1, if_pos h7_10, if_pos h22_18, if_neg h31_19, if_pos h43_21, if_neg h50_22, if_neg h59_24]) d_MO_add_63

theorem d_MO_handler_0 : decode b_MO_handler 0 = .ok (.iload_n 1, 1) := by decide +kernel
theorem d_MO_handler_1 : decode b_MO_handler 1 = .ok (.bipush 32, 2) := by decide +kernel
theorem d_MO_handler_3 : decode b_MO_handler 3 = .ok (.invokestatic 83, 3) := by decide +kernel
theorem d_MO_handler_6 : decode b_MO_handler 6 = .ok (.ifCond .ne 34, 3) := by decide +kernel
theorem d_MO_handler_9 : decode b_MO_handler 9 = .ok (.iload_n 2, 1) := by decide +kernel
theorem d_MO_handler_10 : decode b_MO_handler 10 = .ok (.bipush 32, 2) := by decide +kernel
theorem d_MO_handler_12 : decode b_MO_handler 12 = .ok (.invokestatic 83, 3) := by decide +kernel
theorem d_MO_handler_15 : decode b_MO_handler 15 = .ok (.ifCond .ne 25, 3) := by decide +kernel
theorem d_MO_handler_18 : decode b_MO_handler 18 = .ok (.iload_n 3, 1) := by decide +kernel
theorem d_MO_handler_19 : decode b_MO_handler 19 = .ok (.bipush 32, 2) := by decide +kernel
theorem d_MO_handler_21 : decode b_MO_handler 21 = .ok (.invokestatic 83, 3) := by decide +kernel
theorem d_MO_handler_24 : decode b_MO_handler 24 = .ok (.ifCond .ne 16, 3) := by decide +kernel
theorem d_MO_handler_27 : decode b_MO_handler 27 = .ok (.iload_n 1, 1) := by decide +kernel
theorem d_MO_handler_28 : decode b_MO_handler 28 = .ok (.iload_n 2, 1) := by decide +kernel
theorem d_MO_handler_29 : decode b_MO_handler 29 = .ok (.if_icmp .ge 11, 3) := by decide +kernel
theorem d_MO_handler_32 : decode b_MO_handler 32 = .ok (.aload_n 0, 1) := by decide +kernel
theorem d_MO_handler_33 : decode b_MO_handler 33 = .ok (.getfield 80, 3) := by decide +kernel
theorem d_MO_handler_36 : decode b_MO_handler 36 = .ok (.iconst 3, 1) := by decide +kernel
theorem d_MO_handler_37 : decode b_MO_handler 37 = .ok (.if_icmp .ne 5, 3) := by decide +kernel
theorem d_MO_handler_40 : decode b_MO_handler 40 = .ok (.iconst 0, 1) := by decide +kernel
theorem d_MO_handler_41 : decode b_MO_handler 41 = .ok (.ireturn, 1) := by decide +kernel
theorem d_MO_handler_42 : decode b_MO_handler 42 = .ok (.aload_n 0, 1) := by decide +kernel
theorem d_MO_handler_43 : decode b_MO_handler 43 = .ok (.getfield 16, 3) := by decide +kernel
theorem d_MO_handler_46 : decode b_MO_handler 46 = .ok (.iconst 3, 1) := by decide +kernel
theorem d_MO_handler_47 : decode b_MO_handler 47 = .ok (.aload_n 0, 1) := by decide +kernel
theorem d_MO_handler_48 : decode b_MO_handler 48 = .ok (.getfield 80, 3) := by decide +kernel
theorem d_MO_handler_51 : decode b_MO_handler 51 = .ok (.imul, 1) := by decide +kernel
theorem d_MO_handler_52 : decode b_MO_handler 52 = .ok (.iload_n 1, 1) := by decide +kernel
theorem d_MO_handler_53 : decode b_MO_handler 53 = .ok (.iastore, 1) := by decide +kernel
theorem d_MO_handler_54 : decode b_MO_handler 54 = .ok (.aload_n 0, 1) := by decide +kernel
theorem d_MO_handler_55 : decode b_MO_handler 55 = .ok (.getfield 16, 3) := by decide +kernel
theorem d_MO_handler_58 : decode b_MO_handler 58 = .ok (.iconst 3, 1) := by decide +kernel
theorem d_MO_handler_59 : decode b_MO_handler 59 = .ok (.aload_n 0, 1) := by decide +kernel
theorem d_MO_handler_60 : decode b_MO_handler 60 = .ok (.getfield 80, 3) := by decide +kernel
theorem d_MO_handler_63 : decode b_MO_handler 63 = .ok (.imul, 1) := by decide +kernel
theorem d_MO_handler_64 : decode b_MO_handler 64 = .ok (.iconst 1, 1) := by decide +kernel
theorem d_MO_handler_65 : decode b_MO_handler 65 = .ok (.iadd, 1) := by decide +kernel
theorem d_MO_handler_66 : decode b_MO_handler 66 = .ok (.iload_n 2, 1) := by decide +kernel
theorem d_MO_handler_67 : decode b_MO_handler 67 = .ok (.iastore, 1) := by decide +kernel
theorem d_MO_handler_68 : decode b_MO_handler 68 = .ok (.aload_n 0, 1) := by decide +kernel
theorem d_MO_handler_69 : decode b_MO_handler 69 = .ok (.getfield 16, 3) := by decide +kernel
theorem d_MO_handler_72 : decode b_MO_handler 72 = .ok (.iconst 3, 1) := by decide +kernel
theorem d_MO_handler_73 : decode b_MO_handler 73 = .ok (.aload_n 0, 1) := by decide +kernel
theorem d_MO_handler_74 : decode b_MO_handler 74 = .ok (.getfield 80, 3) := by decide +kernel
theorem d_MO_handler_77 : decode b_MO_handler 77 = .ok (.imul, 1) := by decide +kernel
theorem d_MO_handler_78 : decode b_MO_handler 78 = .ok (.iconst 2, 1) := by decide +kernel
theorem d_MO_handler_79 : decode b_MO_handler 79 = .ok (.iadd, 1) := by decide +kernel
theorem d_MO_handler_80 : decode b_MO_handler 80 = .ok (.iload_n 3, 1) := by decide +kernel
theorem d_MO_handler_81 : decode b_MO_handler 81 = .ok (.iastore, 1) := by decide +kernel
theorem d_MO_handler_82 : decode b_MO_handler 82 = .ok (.aload_n 0, 1) := by decide +kernel
theorem d_MO_handler_83 : decode b_MO_handler 83 = .ok (.dup, 1) := by decide +kernel
theorem d_MO_handler_84 : decode b_MO_handler 84 = .ok (.getfield 80, 3) := by decide +kernel
theorem d_MO_handler_87 : decode b_MO_handler 87 = .ok (.iconst 1, 1) := by decide +kernel
theorem d_MO_handler_88 : decode b_MO_handler 88 = .ok (.iadd, 1) := by decide +kernel
theorem d_MO_handler_89 : decode b_MO_handler 89 = .ok (.putfield 80, 3) := by decide +kernel
theorem d_MO_handler_92 : decode b_MO_handler 92 = .ok (.iconst 1, 1) := by decide +kernel
theorem d_MO_handler_93 : decode b_MO_handler 93 = .ok (.ireturn, 1) := by decide +kernel
def f_MO_handler (hn : Nat) (hd : Nat → Int32) (u : Int32) (v : Int32) (w : Int32) : Int32 × Nat × (Nat → Int32) := (if f_MO_outside u 32 = 0 then (if f_MO_outside v 32 = 0 then (if f_MO_outside w 32 = 0 then (if v ≤ u then (0, hn, hd) else (if hn = 3 then (0, hn, hd) else (1, hn + 1, upd (upd (upd hd (3 * hn) u) (3 * hn + 1) v) (3 * hn + 2) w))) else (0, hn, hd)) else (0, hn, hd)) else (0, hn, hd))
set_option maxHeartbeats 1000000 in
set_option maxRecDepth 100000 in
theorem c_MO_handler (l : Launch) (D : va_G) (cI cZ : ClassId) (a q_op q_arg q_handler q_depth q_over q_flatOp q_flatArg q_flatHandler q_leader q_last q_height q_state q_begin q_drawn q_order q_starters q_emitted q_locals q_stack : Nat) (x_count x_flatCount x_flatHandlers x_blockCount x_g x_ran x_ended x_result x_steps x_emits x_top x_at : Int32) (hn : Nat) (hd : Nat → Int32) (u v w : Int32) (hh : hn ≤ 3) : MG l y_MO_handler w_MO_handler (rmK 1 21) D classes (tyz cI cZ) E0 [.ref a, .int u, .int v, .int w] [(a, .inr (7, [.int x_count, .ref q_op, .ref q_arg, .int (nI hn), .ref q_handler, .ref q_depth, .ref q_over, .int x_flatCount, .ref q_flatOp, .ref q_flatArg, .int x_flatHandlers, .ref q_flatHandler, .int x_blockCount, .ref q_leader, .ref q_last, .ref q_height, .ref q_state, .ref q_begin, .ref q_drawn, .ref q_order, .int x_g, .ref q_starters, .int x_ran, .int x_ended, .int x_result, .int x_steps, .int x_emits, .ref q_emitted, .ref q_locals, .ref q_stack, .int x_top, .int x_at])), (q_handler, .inl (cI, 9, .inl hd))] (RI D classes (tyz cI cZ) ((f_MO_handler hn hd u v w).1) [(a, .inr (7, [.int x_count, .ref q_op, .ref q_arg, .int (nI ((f_MO_handler hn hd u v w).2.1)), .ref q_handler, .ref q_depth, .ref q_over, .int x_flatCount, .ref q_flatOp, .ref q_flatArg, .int x_flatHandlers, .ref q_flatHandler, .int x_blockCount, .ref q_leader, .ref q_last, .ref q_height, .ref q_state, .ref q_begin, .ref q_drawn, .ref q_order, .int x_g, .ref q_starters, .int x_ran, .int x_ended, .int x_result, .int x_steps, .int x_emits, .ref q_emitted, .ref q_locals, .ref q_stack, .int x_top, .int x_at])), (q_handler, .inl (cI, 9, .inl ((f_MO_handler hn hd u v w).2.2)))]) := by
  refine MG.of (cc := b_MO_handler) (maxL := 4) (ret := (some .boolean)) (own := "FlowFlattenerModel") rfl (by decide) rfl (Nat.le_of_ble_eq_true rfl) ?_
  intro p e s m below meth c A ls S hr hlocks hA hP hK hD hS hE hl
  have hx := S.1
  have hb := S.2.1
  have hl : lv_has ls 4 [(0, .ref a), (1, .int u), (2, .int v), (3, .int w)] := hl
  refine lv_iload_n hx hb d_MO_handler_0 rfl (lv_at hl 1 rfl) ?_
  refine lv_bipush (v := 32) hx hb d_MO_handler_1 (by decide) ?_
  refine k_goi (ws' := [(a, .inr (7, [.int x_count, .ref q_op, .ref q_arg, .int (nI hn), .ref q_handler, .ref q_depth, .ref q_over, .int x_flatCount, .ref q_flatOp, .ref q_flatArg, .int x_flatHandlers, .ref q_flatHandler, .int x_blockCount, .ref q_leader, .ref q_last, .ref q_height, .ref q_state, .ref q_begin, .ref q_drawn, .ref q_order, .int x_g, .ref q_starters, .int x_ran, .int x_ended, .int x_result, .int x_steps, .int x_emits, .ref q_emitted, .ref q_locals, .ref q_stack, .int x_top, .int x_at])), (q_handler, .inl (cI, 9, .inl hd))]) (wr := [(a, .inr (7, [.int x_count, .ref q_op, .ref q_arg, .int (nI hn), .ref q_handler, .ref q_depth, .ref q_over, .int x_flatCount, .ref q_flatOp, .ref q_flatArg, .int x_flatHandlers, .ref q_flatHandler, .int x_blockCount, .ref q_leader, .ref q_last, .ref q_height, .ref q_state, .ref q_begin, .ref q_drawn, .ref q_order, .int x_g, .ref q_starters, .int x_ran, .int x_ended, .int x_result, .int x_steps, .int x_emits, .ref q_emitted, .ref q_locals, .ref q_stack, .int x_top, .int x_at])), (q_handler, .inl (cI, 9, .inl hd))]) (k_runS (As := [.int u, .int 32]) (rest := []) (n := 2) S (c_MO_outside l D cI cZ u 32) E0_b E0_t ql_MO_83 qt_MO_outside qn_MO qc_MO_outside (by decide +kernel) rfl ⟨rfl, rfl⟩ ⟨Nat.le_of_ble_eq_true rfl, Nat.le_of_ble_eq_true rfl⟩ hK hP hD [] rfl (by decide) hl.1 rfl (Nat.le_of_ble_eq_true rfl) d_MO_handler_3 ⟨Nat.zero_le _, Nat.zero_le _⟩) hP hD hS hA [] [0, 1] [0, 1] rfl rfl (by decide) (by decide) rfl (by decide) (fun H locs hP hD hS => ?_)
  refine lv_if_ne (tgt := 40) hx hb d_MO_handler_6 (by decide) (fun h6_1 => ?_) (fun h6_1 => ?_)
  · skip
    refine lv_iconst (v := 0) hx hb d_MO_handler_40 (by decide) ?_
    exact k_zret hx hb hr hlocks hK hP hD hS (by decide) (by rw [f_MO_handler, if_neg h6_1]) (by rw [f_MO_handler, if_neg h6_1]) d_MO_handler_41
  · skip
    refine lv_iload_n hx hb d_MO_handler_9 rfl (lv_at hl 2 rfl) ?_
    refine lv_bipush (v := 32) hx hb d_MO_handler_10 (by decide) ?_
    refine k_goi (ws' := [(a, .inr (7, [.int x_count, .ref q_op, .ref q_arg, .int (nI hn), .ref q_handler, .ref q_depth, .ref q_over, .int x_flatCount, .ref q_flatOp, .ref q_flatArg, .int x_flatHandlers, .ref q_flatHandler, .int x_blockCount, .ref q_leader, .ref q_last, .ref q_height, .ref q_state, .ref q_begin, .ref q_drawn, .ref q_order, .int x_g, .ref q_starters, .int x_ran, .int x_ended, .int x_result, .int x_steps, .int x_emits, .ref q_emitted, .ref q_locals, .ref q_stack, .int x_top, .int x_at])), (q_handler, .inl (cI, 9, .inl hd))]) (wr := [(a, .inr (7, [.int x_count, .ref q_op, .ref q_arg, .int (nI hn), .ref q_handler, .ref q_depth, .ref q_over, .int x_flatCount, .ref q_flatOp, .ref q_flatArg, .int x_flatHandlers, .ref q_flatHandler, .int x_blockCount, .ref q_leader, .ref q_last, .ref q_height, .ref q_state, .ref q_begin, .ref q_drawn, .ref q_order, .int x_g, .ref q_starters, .int x_ran, .int x_ended, .int x_result, .int x_steps, .int x_emits, .ref q_emitted, .ref q_locals, .ref q_stack, .int x_top, .int x_at])), (q_handler, .inl (cI, 9, .inl hd))]) (k_runS (As := [.int v, .int 32]) (rest := []) (n := 2) S (c_MO_outside l D cI cZ v 32) E0_b E0_t ql_MO_83 qt_MO_outside qn_MO qc_MO_outside (by decide +kernel) rfl ⟨rfl, rfl⟩ ⟨Nat.le_of_ble_eq_true rfl, Nat.le_of_ble_eq_true rfl⟩ hK hP hD [] rfl (by decide) hl.1 rfl (Nat.le_of_ble_eq_true rfl) d_MO_handler_12 ⟨Nat.zero_le _, Nat.zero_le _⟩) hP hD hS hA [] [0, 1] [0, 1] rfl rfl (by decide) (by decide) rfl (by decide) (fun H locs hP hD hS => ?_)
    refine lv_if_ne (tgt := 40) hx hb d_MO_handler_15 (by decide) (fun h15_2 => ?_) (fun h15_2 => ?_)
    · skip
      refine lv_iconst (v := 0) hx hb d_MO_handler_40 (by decide) ?_
      exact k_zret hx hb hr hlocks hK hP hD hS (by decide) (by rw [f_MO_handler, if_pos h6_1, if_neg h15_2]) (by rw [f_MO_handler, if_pos h6_1, if_neg h15_2]) d_MO_handler_41
    · skip
      refine lv_iload_n hx hb d_MO_handler_18 rfl (lv_at hl 3 rfl) ?_
      refine lv_bipush (v := 32) hx hb d_MO_handler_19 (by decide) ?_
      refine k_goi (ws' := [(a, .inr (7, [.int x_count, .ref q_op, .ref q_arg, .int (nI hn), .ref q_handler, .ref q_depth, .ref q_over, .int x_flatCount, .ref q_flatOp, .ref q_flatArg, .int x_flatHandlers, .ref q_flatHandler, .int x_blockCount, .ref q_leader, .ref q_last, .ref q_height, .ref q_state, .ref q_begin, .ref q_drawn, .ref q_order, .int x_g, .ref q_starters, .int x_ran, .int x_ended, .int x_result, .int x_steps, .int x_emits, .ref q_emitted, .ref q_locals, .ref q_stack, .int x_top, .int x_at])), (q_handler, .inl (cI, 9, .inl hd))]) (wr := [(a, .inr (7, [.int x_count, .ref q_op, .ref q_arg, .int (nI hn), .ref q_handler, .ref q_depth, .ref q_over, .int x_flatCount, .ref q_flatOp, .ref q_flatArg, .int x_flatHandlers, .ref q_flatHandler, .int x_blockCount, .ref q_leader, .ref q_last, .ref q_height, .ref q_state, .ref q_begin, .ref q_drawn, .ref q_order, .int x_g, .ref q_starters, .int x_ran, .int x_ended, .int x_result, .int x_steps, .int x_emits, .ref q_emitted, .ref q_locals, .ref q_stack, .int x_top, .int x_at])), (q_handler, .inl (cI, 9, .inl hd))]) (k_runS (As := [.int w, .int 32]) (rest := []) (n := 2) S (c_MO_outside l D cI cZ w 32) E0_b E0_t ql_MO_83 qt_MO_outside qn_MO qc_MO_outside (by decide +kernel) rfl ⟨rfl, rfl⟩ ⟨Nat.le_of_ble_eq_true rfl, Nat.le_of_ble_eq_true rfl⟩ hK hP hD [] rfl (by decide) hl.1 rfl (Nat.le_of_ble_eq_true rfl) d_MO_handler_21 ⟨Nat.zero_le _, Nat.zero_le _⟩) hP hD hS hA [] [0, 1] [0, 1] rfl rfl (by decide) (by decide) rfl (by decide) (fun H locs hP hD hS => ?_)
      refine lv_if_ne (tgt := 40) hx hb d_MO_handler_24 (by decide) (fun h24_3 => ?_) (fun h24_3 => ?_)
      · skip
        refine lv_iconst (v := 0) hx hb d_MO_handler_40 (by decide) ?_
        exact k_zret hx hb hr hlocks hK hP hD hS (by decide) (by rw [f_MO_handler, if_pos h6_1, if_pos h15_2, if_neg h24_3]) (by rw [f_MO_handler, if_pos h6_1, if_pos h15_2, if_neg h24_3]) d_MO_handler_41
      · skip
        refine lv_iload_n hx hb d_MO_handler_27 rfl (lv_at hl 1 rfl) ?_
        refine lv_iload_n hx hb d_MO_handler_28 rfl (lv_at hl 2 rfl) ?_
        refine lv_icmp_ge (tgt := 40) hx hb d_MO_handler_29 (by decide) (fun h29_4 => ?_) (fun h29_4 => ?_)
        · skip
          refine lv_iconst (v := 0) hx hb d_MO_handler_40 (by decide) ?_
          exact k_zret hx hb hr hlocks hK hP hD hS (by decide) (by rw [f_MO_handler, if_pos h6_1, if_pos h15_2, if_pos h24_3, if_pos h29_4]) (by rw [f_MO_handler, if_pos h6_1, if_pos h15_2, if_pos h24_3, if_pos h29_4]) d_MO_handler_41
        · skip
          refine lv_aload_n hx hb d_MO_handler_32 rfl (lv_at hl 0 rfl) ?_
          refine k_get (v := .int (nI hn)) S in_MO hK hP 0 rfl rfl 3 (by decide) ql_MO_80 rfl d_MO_handler_33 ?_
          refine lv_iconst (v := 3) hx hb d_MO_handler_36 (by decide) ?_
          refine n_icmp_ne (tgt := 42) (x := hn) (y := 3) hx hb rfl (by decide) (by omega) (by omega) d_MO_handler_37 (by decide) (fun h37_5 => ?_) (fun h37_5 => ?_)
          · skip
            refine lv_aload_n hx hb d_MO_handler_42 rfl (lv_at hl 0 rfl) ?_
            refine k_get (v := .ref q_handler) S in_MO hK hP 0 rfl rfl 4 (by decide) ql_MO_16 rfl d_MO_handler_43 ?_
            refine lv_iconst (v := 3) hx hb d_MO_handler_46 (by decide) ?_
            refine lv_aload_n hx hb d_MO_handler_47 rfl (lv_at hl 0 rfl) ?_
            refine k_get (v := .int (nI hn)) S in_MO hK hP 0 rfl rfl 3 (by decide) ql_MO_80 rfl d_MO_handler_48 ?_
            refine lv_imul hx hb d_MO_handler_51 ?_
            refine k_top (y := nI (3 * hn)) (nc_mul (by decide) rfl) ?_
            refine lv_iload_n hx hb d_MO_handler_52 rfl (lv_at hl 1 rfl) ?_
            refine k_st (k := 3 * hn) (x := u) (ws' := [(a, .inr (7, [.int x_count, .ref q_op, .ref q_arg, .int (nI hn), .ref q_handler, .ref q_depth, .ref q_over, .int x_flatCount, .ref q_flatOp, .ref q_flatArg, .int x_flatHandlers, .ref q_flatHandler, .int x_blockCount, .ref q_leader, .ref q_last, .ref q_height, .ref q_state, .ref q_begin, .ref q_drawn, .ref q_order, .int x_g, .ref q_starters, .int x_ran, .int x_ended, .int x_result, .int x_steps, .int x_emits, .ref q_emitted, .ref q_locals, .ref q_stack, .int x_top, .int x_at])), (q_handler, .inl (cI, 9, .inl (upd hd (3 * hn) u)))]) hx hb hK hP hD hS 1 0 rfl rfl rfl (by omega) (by decide) rfl d_MO_handler_53 (fun H locs hP hD hS => ?_)
            refine lv_aload_n hx hb d_MO_handler_54 rfl (lv_at hl 0 rfl) ?_
            refine k_get (v := .ref q_handler) S in_MO hK hP 0 rfl rfl 4 (by decide) ql_MO_16 rfl d_MO_handler_55 ?_
            refine lv_iconst (v := 3) hx hb d_MO_handler_58 (by decide) ?_
            refine lv_aload_n hx hb d_MO_handler_59 rfl (lv_at hl 0 rfl) ?_
            refine k_get (v := .int (nI hn)) S in_MO hK hP 0 rfl rfl 3 (by decide) ql_MO_80 rfl d_MO_handler_60 ?_
            refine lv_imul hx hb d_MO_handler_63 ?_
            refine k_top (y := nI (3 * hn)) (nc_mul (by decide) rfl) ?_
            refine lv_iconst (v := 1) hx hb d_MO_handler_64 (by decide) ?_
            refine lv_iadd hx hb d_MO_handler_65 ?_
            refine k_top (y := nI (3 * hn + 1)) (nc_add rfl (by decide)) ?_
            refine lv_iload_n hx hb d_MO_handler_66 rfl (lv_at hl 2 rfl) ?_
            refine k_st (k := 3 * hn + 1) (x := v) (ws' := [(a, .inr (7, [.int x_count, .ref q_op, .ref q_arg, .int (nI hn), .ref q_handler, .ref q_depth, .ref q_over, .int x_flatCount, .ref q_flatOp, .ref q_flatArg, .int x_flatHandlers, .ref q_flatHandler, .int x_blockCount, .ref q_leader, .ref q_last, .ref q_height, .ref q_state, .ref q_begin, .ref q_drawn, .ref q_order, .int x_g, .ref q_starters, .int x_ran, .int x_ended, .int x_result, .int x_steps, .int x_emits, .ref q_emitted, .ref q_locals, .ref q_stack, .int x_top, .int x_at])), (q_handler, .inl (cI, 9, .inl (upd (upd hd (3 * hn) u) (3 * hn + 1) v)))]) hx hb hK hP hD hS 1 0 rfl rfl rfl (by omega) (by decide) rfl d_MO_handler_67 (fun H locs hP hD hS => ?_)
            refine lv_aload_n hx hb d_MO_handler_68 rfl (lv_at hl 0 rfl) ?_
            refine k_get (v := .ref q_handler) S in_MO hK hP 0 rfl rfl 4 (by decide) ql_MO_16 rfl d_MO_handler_69 ?_
            refine lv_iconst (v := 3) hx hb d_MO_handler_72 (by decide) ?_
            refine lv_aload_n hx hb d_MO_handler_73 rfl (lv_at hl 0 rfl) ?_
            refine k_get (v := .int (nI hn)) S in_MO hK hP 0 rfl rfl 3 (by decide) ql_MO_80 rfl d_MO_handler_74 ?_
            refine lv_imul hx hb d_MO_handler_77 ?_
            refine k_top (y := nI (3 * hn)) (nc_mul (by decide) rfl) ?_
            refine lv_iconst (v := 2) hx hb d_MO_handler_78 (by decide) ?_
            refine lv_iadd hx hb d_MO_handler_79 ?_
            refine k_top (y := nI (3 * hn + 2)) (nc_add rfl (by decide)) ?_
            refine lv_iload_n hx hb d_MO_handler_80 rfl (lv_at hl 3 rfl) ?_
            refine k_st (k := 3 * hn + 2) (x := w) (ws' := [(a, .inr (7, [.int x_count, .ref q_op, .ref q_arg, .int (nI hn), .ref q_handler, .ref q_depth, .ref q_over, .int x_flatCount, .ref q_flatOp, .ref q_flatArg, .int x_flatHandlers, .ref q_flatHandler, .int x_blockCount, .ref q_leader, .ref q_last, .ref q_height, .ref q_state, .ref q_begin, .ref q_drawn, .ref q_order, .int x_g, .ref q_starters, .int x_ran, .int x_ended, .int x_result, .int x_steps, .int x_emits, .ref q_emitted, .ref q_locals, .ref q_stack, .int x_top, .int x_at])), (q_handler, .inl (cI, 9, .inl (upd (upd (upd hd (3 * hn) u) (3 * hn + 1) v) (3 * hn + 2) w)))]) hx hb hK hP hD hS 1 0 rfl rfl rfl (by omega) (by decide) rfl d_MO_handler_81 (fun H locs hP hD hS => ?_)
            refine lv_aload_n hx hb d_MO_handler_82 rfl (lv_at hl 0 rfl) ?_
            refine lv_dup hx hb d_MO_handler_83 rfl ?_
            refine k_get (v := .int (nI hn)) S in_MO hK hP 0 rfl rfl 3 (by decide) ql_MO_80 rfl d_MO_handler_84 ?_
            refine lv_iconst (v := 1) hx hb d_MO_handler_87 (by decide) ?_
            refine lv_iadd hx hb d_MO_handler_88 ?_
            refine k_top (y := nI (hn + 1)) (nc_add rfl (by decide)) ?_
            refine k_put (v := .int (nI (hn + 1))) (ws' := [(a, .inr (7, [.int x_count, .ref q_op, .ref q_arg, .int (nI (hn + 1)), .ref q_handler, .ref q_depth, .ref q_over, .int x_flatCount, .ref q_flatOp, .ref q_flatArg, .int x_flatHandlers, .ref q_flatHandler, .int x_blockCount, .ref q_leader, .ref q_last, .ref q_height, .ref q_state, .ref q_begin, .ref q_drawn, .ref q_order, .int x_g, .ref q_starters, .int x_ran, .int x_ended, .int x_result, .int x_steps, .int x_emits, .ref q_emitted, .ref q_locals, .ref q_stack, .int x_top, .int x_at])), (q_handler, .inl (cI, 9, .inl (upd (upd (upd hd (3 * hn) u) (3 * hn + 1) v) (3 * hn + 2) w)))]) S in_MO ty_MO nm_MO hK hP hD hS 0 rfl rfl 3 (by decide) ql_MO_80 rfl rfl rfl rfl (Nat.le_of_ble_eq_true rfl) rfl d_MO_handler_89 (fun H locs hP hD hS => ?_)
            refine lv_iconst (v := 1) hx hb d_MO_handler_92 (by decide) ?_
            exact k_zret hx hb hr hlocks hK hP hD hS (by decide) (by rw [f_MO_handler, if_pos h6_1, if_pos h15_2, if_pos h24_3, if_neg h29_4, if_neg h37_5]) (by rw [f_MO_handler, if_pos h6_1, if_pos h15_2, if_pos h24_3, if_neg h29_4, if_neg h37_5]) d_MO_handler_93
          · skip
            refine lv_iconst (v := 0) hx hb d_MO_handler_40 (by decide) ?_
            exact k_zret hx hb hr hlocks hK hP hD hS (by decide) (by rw [f_MO_handler, if_pos h6_1, if_pos h15_2, if_pos h24_3, if_neg h29_4, if_pos h37_5]) (by rw [f_MO_handler, if_pos h6_1, if_pos h15_2, if_pos h24_3, if_neg h29_4, if_pos h37_5]) d_MO_handler_41

theorem d_MO_inRange_0 : decode b_MO_inRange 0 = .ok (.aload_n 0, 1) := by decide +kernel
theorem d_MO_inRange_1 : decode b_MO_inRange 1 = .ok (.getfield 16, 3) := by decide +kernel
theorem d_MO_inRange_4 : decode b_MO_inRange 4 = .ok (.iconst 3, 1) := by decide +kernel
theorem d_MO_inRange_5 : decode b_MO_inRange 5 = .ok (.iload_n 1, 1) := by decide +kernel
theorem d_MO_inRange_6 : decode b_MO_inRange 6 = .ok (.imul, 1) := by decide +kernel
theorem d_MO_inRange_7 : decode b_MO_inRange 7 = .ok (.iaload, 1) := by decide +kernel
theorem d_MO_inRange_8 : decode b_MO_inRange 8 = .ok (.iload_n 2, 1) := by decide +kernel
theorem d_MO_inRange_9 : decode b_MO_inRange 9 = .ok (.if_icmp .gt 21, 3) := by decide +kernel
theorem d_MO_inRange_12 : decode b_MO_inRange 12 = .ok (.iload_n 2, 1) := by decide +kernel
theorem d_MO_inRange_13 : decode b_MO_inRange 13 = .ok (.aload_n 0, 1) := by decide +kernel
theorem d_MO_inRange_14 : decode b_MO_inRange 14 = .ok (.getfield 16, 3) := by decide +kernel
theorem d_MO_inRange_17 : decode b_MO_inRange 17 = .ok (.iconst 3, 1) := by decide +kernel
theorem d_MO_inRange_18 : decode b_MO_inRange 18 = .ok (.iload_n 1, 1) := by decide +kernel
theorem d_MO_inRange_19 : decode b_MO_inRange 19 = .ok (.imul, 1) := by decide +kernel
theorem d_MO_inRange_20 : decode b_MO_inRange 20 = .ok (.iconst 1, 1) := by decide +kernel
theorem d_MO_inRange_21 : decode b_MO_inRange 21 = .ok (.iadd, 1) := by decide +kernel
theorem d_MO_inRange_22 : decode b_MO_inRange 22 = .ok (.iaload, 1) := by decide +kernel
theorem d_MO_inRange_23 : decode b_MO_inRange 23 = .ok (.if_icmp .ge 7, 3) := by decide +kernel
theorem d_MO_inRange_26 : decode b_MO_inRange 26 = .ok (.iconst 1, 1) := by decide +kernel
theorem d_MO_inRange_27 : decode b_MO_inRange 27 = .ok (.goto 4, 3) := by decide +kernel
theorem d_MO_inRange_30 : decode b_MO_inRange 30 = .ok (.iconst 0, 1) := by decide +kernel
theorem d_MO_inRange_31 : decode b_MO_inRange 31 = .ok (.ireturn, 1) := by decide +kernel
def f_MO_inRange (hd : Nat → Int32) (h : Nat) (i : Int32) : Int32 := (if i < hd (3 * h) then 0 else (if hd (3 * h + 1) ≤ i then 0 else 1))
set_option maxHeartbeats 1000000 in
set_option maxRecDepth 100000 in
theorem c_MO_inRange (l : Launch) (D : va_G) (cI cZ : ClassId) (a q_op q_arg q_handler q_depth q_over q_flatOp q_flatArg q_flatHandler q_leader q_last q_height q_state q_begin q_drawn q_order q_starters q_emitted q_locals q_stack : Nat) (x_count x_handlers x_flatCount x_flatHandlers x_blockCount x_g x_ran x_ended x_result x_steps x_emits x_top x_at : Int32) (hd : Nat → Int32) (h : Nat) (i : Int32) (hh : h < 3) : MG l y_MO_inRange w_MO_inRange (rmK 0 0) D classes (tyz cI cZ) E0 [.ref a, .int (nI h), .int i] [(a, .inr (7, [.int x_count, .ref q_op, .ref q_arg, .int x_handlers, .ref q_handler, .ref q_depth, .ref q_over, .int x_flatCount, .ref q_flatOp, .ref q_flatArg, .int x_flatHandlers, .ref q_flatHandler, .int x_blockCount, .ref q_leader, .ref q_last, .ref q_height, .ref q_state, .ref q_begin, .ref q_drawn, .ref q_order, .int x_g, .ref q_starters, .int x_ran, .int x_ended, .int x_result, .int x_steps, .int x_emits, .ref q_emitted, .ref q_locals, .ref q_stack, .int x_top, .int x_at])), (q_handler, .inl (cI, 9, .inl hd))] (RI D classes (tyz cI cZ) (f_MO_inRange hd h i) [(a, .inr (7, [.int x_count, .ref q_op, .ref q_arg, .int x_handlers, .ref q_handler, .ref q_depth, .ref q_over, .int x_flatCount, .ref q_flatOp, .ref q_flatArg, .int x_flatHandlers, .ref q_flatHandler, .int x_blockCount, .ref q_leader, .ref q_last, .ref q_height, .ref q_state, .ref q_begin, .ref q_drawn, .ref q_order, .int x_g, .ref q_starters, .int x_ran, .int x_ended, .int x_result, .int x_steps, .int x_emits, .ref q_emitted, .ref q_locals, .ref q_stack, .int x_top, .int x_at])), (q_handler, .inl (cI, 9, .inl hd))]) := by
  refine MG.of (cc := b_MO_inRange) (maxL := 3) (ret := (some .boolean)) (own := "FlowFlattenerModel") rfl (by decide) rfl (Nat.le_of_ble_eq_true rfl) ?_
  intro p e s m below meth c A ls S hr hlocks hA hP hK hD hS hE hl
  have hx := S.1
  have hb := S.2.1
  have hl : lv_has ls 3 [(0, .ref a), (1, .int (nI h)), (2, .int i)] := hl
  refine lv_aload_n hx hb d_MO_inRange_0 rfl (lv_at hl 0 rfl) ?_
  refine k_get (v := .ref q_handler) S in_MO hK hP 0 rfl rfl 4 (by decide) ql_MO_16 rfl d_MO_inRange_1 ?_
  refine lv_iconst (v := 3) hx hb d_MO_inRange_4 (by decide) ?_
  refine lv_iload_n hx hb d_MO_inRange_5 rfl (lv_at hl 1 rfl) ?_
  refine lv_imul hx hb d_MO_inRange_6 ?_
  refine k_top (y := nI (3 * h)) (nc_mul (by decide) rfl) ?_
  refine k_ld (k := 3 * h) hx hb hK hP 1 0 rfl rfl rfl (by omega) (by decide) d_MO_inRange_7 ?_
  refine lv_iload_n hx hb d_MO_inRange_8 rfl (lv_at hl 2 rfl) ?_
  refine lv_icmp_gt (tgt := 30) hx hb d_MO_inRange_9 (by decide) (fun h9_1 => ?_) (fun h9_1 => ?_)
  · skip
    refine lv_iconst (v := 0) hx hb d_MO_inRange_30 (by decide) ?_
    exact k_zret hx hb hr hlocks hK hP hD hS (by decide) (by rw [f_MO_inRange, if_pos h9_1]) rfl d_MO_inRange_31
  · skip
    refine lv_iload_n hx hb d_MO_inRange_12 rfl (lv_at hl 2 rfl) ?_
    refine lv_aload_n hx hb d_MO_inRange_13 rfl (lv_at hl 0 rfl) ?_
    refine k_get (v := .ref q_handler) S in_MO hK hP 0 rfl rfl 4 (by decide) ql_MO_16 rfl d_MO_inRange_14 ?_
    refine lv_iconst (v := 3) hx hb d_MO_inRange_17 (by decide) ?_
    refine lv_iload_n hx hb d_MO_inRange_18 rfl (lv_at hl 1 rfl) ?_
    refine lv_imul hx hb d_MO_inRange_19 ?_
    refine k_top (y := nI (3 * h)) (nc_mul (by decide) rfl) ?_
    refine lv_iconst (v := 1) hx hb d_MO_inRange_20 (by decide) ?_
    refine lv_iadd hx hb d_MO_inRange_21 ?_
    refine k_top (y := nI (3 * h + 1)) (nc_add rfl (by decide)) ?_
    refine k_ld (k := 3 * h + 1) hx hb hK hP 1 0 rfl rfl rfl (by omega) (by decide) d_MO_inRange_22 ?_
    refine lv_icmp_ge (tgt := 30) hx hb d_MO_inRange_23 (by decide) (fun h23_2 => ?_) (fun h23_2 => ?_)
    · skip
      refine lv_iconst (v := 0) hx hb d_MO_inRange_30 (by decide) ?_
      exact k_zret hx hb hr hlocks hK hP hD hS (by decide) (by rw [f_MO_inRange, if_neg h9_1, if_pos h23_2]) rfl d_MO_inRange_31
    · skip
      refine lv_iconst (v := 1) hx hb d_MO_inRange_26 (by decide) ?_
      refine lv_goto (tgt := 31) hx hb d_MO_inRange_27 (by decide) ?_
      exact k_zret hx hb hr hlocks hK hP hD hS (by decide) (by rw [f_MO_inRange, if_neg h9_1, if_neg h23_2]) rfl d_MO_inRange_31

theorem d_MO_reach_0 : decode b_MO_reach 0 = .ok (.iload_n 1, 1) := by decide +kernel
theorem d_MO_reach_1 : decode b_MO_reach 1 = .ok (.aload_n 0, 1) := by decide +kernel
theorem d_MO_reach_2 : decode b_MO_reach 2 = .ok (.getfield 77, 3) := by decide +kernel
theorem d_MO_reach_5 : decode b_MO_reach 5 = .ok (.if_icmp .ge 22, 3) := by decide +kernel
theorem d_MO_reach_8 : decode b_MO_reach 8 = .ok (.aload_n 0, 1) := by decide +kernel
theorem d_MO_reach_9 : decode b_MO_reach 9 = .ok (.getfield 19, 3) := by decide +kernel
theorem d_MO_reach_12 : decode b_MO_reach 12 = .ok (.iload_n 1, 1) := by decide +kernel
theorem d_MO_reach_13 : decode b_MO_reach 13 = .ok (.iaload, 1) := by decide +kernel
theorem d_MO_reach_14 : decode b_MO_reach 14 = .ok (.ifCond .lt 15, 3) := by decide +kernel
theorem d_MO_reach_17 : decode b_MO_reach 17 = .ok (.aload_n 0, 1) := by decide +kernel
theorem d_MO_reach_18 : decode b_MO_reach 18 = .ok (.getfield 19, 3) := by decide +kernel
theorem d_MO_reach_21 : decode b_MO_reach 21 = .ok (.iload_n 1, 1) := by decide +kernel
theorem d_MO_reach_22 : decode b_MO_reach 22 = .ok (.iaload, 1) := by decide +kernel
theorem d_MO_reach_23 : decode b_MO_reach 23 = .ok (.iload_n 2, 1) := by decide +kernel
theorem d_MO_reach_24 : decode b_MO_reach 24 = .ok (.if_icmp .eq 5, 3) := by decide +kernel
theorem d_MO_reach_27 : decode b_MO_reach 27 = .ok (.iconst 0, 1) := by decide +kernel
theorem d_MO_reach_28 : decode b_MO_reach 28 = .ok (.ireturn, 1) := by decide +kernel
theorem d_MO_reach_29 : decode b_MO_reach 29 = .ok (.aload_n 0, 1) := by decide +kernel
theorem d_MO_reach_30 : decode b_MO_reach 30 = .ok (.getfield 19, 3) := by decide +kernel
theorem d_MO_reach_33 : decode b_MO_reach 33 = .ok (.iload_n 1, 1) := by decide +kernel
theorem d_MO_reach_34 : decode b_MO_reach 34 = .ok (.iload_n 2, 1) := by decide +kernel
theorem d_MO_reach_35 : decode b_MO_reach 35 = .ok (.iastore, 1) := by decide +kernel
theorem d_MO_reach_36 : decode b_MO_reach 36 = .ok (.iconst 1, 1) := by decide +kernel
theorem d_MO_reach_37 : decode b_MO_reach 37 = .ok (.ireturn, 1) := by decide +kernel
def f_MO_reach (n : Nat) (i : Nat) (d : Nat → Int32) (v : Int32) : Int32 × (Nat → Int32) := (if n ≤ i then (0, d) else (if d i < 0 then (1, upd d i v) else (if d i = v then (1, upd d i v) else (0, d))))
set_option maxHeartbeats 1000000 in
set_option maxRecDepth 100000 in
theorem c_MO_reach (l : Launch) (D : va_G) (cI cZ : ClassId) (a q_op q_arg q_handler q_depth q_over q_flatOp q_flatArg q_flatHandler q_leader q_last q_height q_state q_begin q_drawn q_order q_starters q_emitted q_locals q_stack : Nat) (x_handlers x_flatCount x_flatHandlers x_blockCount x_g x_ran x_ended x_result x_steps x_emits x_top x_at : Int32) (n i : Nat) (d : Nat → Int32) (v : Int32) (hn : n ≤ 32) (hi : i < 2 ^ 31) : MG l y_MO_reach w_MO_reach (rmK 0 0) D classes (tyz cI cZ) E0 [.ref a, .int (nI i), .int v] [(a, .inr (7, [.int (nI n), .ref q_op, .ref q_arg, .int x_handlers, .ref q_handler, .ref q_depth, .ref q_over, .int x_flatCount, .ref q_flatOp, .ref q_flatArg, .int x_flatHandlers, .ref q_flatHandler, .int x_blockCount, .ref q_leader, .ref q_last, .ref q_height, .ref q_state, .ref q_begin, .ref q_drawn, .ref q_order, .int x_g, .ref q_starters, .int x_ran, .int x_ended, .int x_result, .int x_steps, .int x_emits, .ref q_emitted, .ref q_locals, .ref q_stack, .int x_top, .int x_at])), (q_depth, .inl (cI, 32, .inl d))] (RI D classes (tyz cI cZ) ((f_MO_reach n i d v).1) [(a, .inr (7, [.int (nI n), .ref q_op, .ref q_arg, .int x_handlers, .ref q_handler, .ref q_depth, .ref q_over, .int x_flatCount, .ref q_flatOp, .ref q_flatArg, .int x_flatHandlers, .ref q_flatHandler, .int x_blockCount, .ref q_leader, .ref q_last, .ref q_height, .ref q_state, .ref q_begin, .ref q_drawn, .ref q_order, .int x_g, .ref q_starters, .int x_ran, .int x_ended, .int x_result, .int x_steps, .int x_emits, .ref q_emitted, .ref q_locals, .ref q_stack, .int x_top, .int x_at])), (q_depth, .inl (cI, 32, .inl ((f_MO_reach n i d v).2)))]) := by
  refine MG.of (cc := b_MO_reach) (maxL := 3) (ret := (some .boolean)) (own := "FlowFlattenerModel") rfl (by decide) rfl (Nat.le_of_ble_eq_true rfl) ?_
  intro p e s m below meth c A ls S hr hlocks hA hP hK hD hS hE hl
  have hx := S.1
  have hb := S.2.1
  have hl : lv_has ls 3 [(0, .ref a), (1, .int (nI i)), (2, .int v)] := hl
  refine lv_iload_n hx hb d_MO_reach_0 rfl (lv_at hl 1 rfl) ?_
  refine lv_aload_n hx hb d_MO_reach_1 rfl (lv_at hl 0 rfl) ?_
  refine k_get (v := .int (nI n)) S in_MO hK hP 0 rfl rfl 0 (by decide) ql_MO_77 rfl d_MO_reach_2 ?_
  refine n_icmp_ge (tgt := 27) (x := i) (y := n) hx hb rfl rfl (by omega) (by omega) d_MO_reach_5 (by decide) (fun h5_1 => ?_) (fun h5_1 => ?_)
  · skip
    refine lv_iconst (v := 0) hx hb d_MO_reach_27 (by decide) ?_
    exact k_zret hx hb hr hlocks hK hP hD hS (by decide) (by rw [f_MO_reach, if_pos h5_1]) (by rw [f_MO_reach, if_pos h5_1]) d_MO_reach_28
  · skip
    refine lv_aload_n hx hb d_MO_reach_8 rfl (lv_at hl 0 rfl) ?_
    refine k_get (v := .ref q_depth) S in_MO hK hP 0 rfl rfl 5 (by decide) ql_MO_19 rfl d_MO_reach_9 ?_
    refine lv_iload_n hx hb d_MO_reach_12 rfl (lv_at hl 1 rfl) ?_
    refine k_ld (k := i) hx hb hK hP 1 0 rfl rfl rfl (by omega) (by decide) d_MO_reach_13 ?_
    refine lv_if_lt (tgt := 29) hx hb d_MO_reach_14 (by decide) (fun h14_2 => ?_) (fun h14_2 => ?_)
    · skip
      refine lv_aload_n hx hb d_MO_reach_29 rfl (lv_at hl 0 rfl) ?_
      refine k_get (v := .ref q_depth) S in_MO hK hP 0 rfl rfl 5 (by decide) ql_MO_19 rfl d_MO_reach_30 ?_
      refine lv_iload_n hx hb d_MO_reach_33 rfl (lv_at hl 1 rfl) ?_
      refine lv_iload_n hx hb d_MO_reach_34 rfl (lv_at hl 2 rfl) ?_
      refine k_st (k := i) (x := v) (ws' := [(a, .inr (7, [.int (nI n), .ref q_op, .ref q_arg, .int x_handlers, .ref q_handler, .ref q_depth, .ref q_over, .int x_flatCount, .ref q_flatOp, .ref q_flatArg, .int x_flatHandlers, .ref q_flatHandler, .int x_blockCount, .ref q_leader, .ref q_last, .ref q_height, .ref q_state, .ref q_begin, .ref q_drawn, .ref q_order, .int x_g, .ref q_starters, .int x_ran, .int x_ended, .int x_result, .int x_steps, .int x_emits, .ref q_emitted, .ref q_locals, .ref q_stack, .int x_top, .int x_at])), (q_depth, .inl (cI, 32, .inl (upd d i v)))]) hx hb hK hP hD hS 1 0 rfl rfl rfl (by omega) (by decide) rfl d_MO_reach_35 (fun H locs hP hD hS => ?_)
      refine lv_iconst (v := 1) hx hb d_MO_reach_36 (by decide) ?_
      exact k_zret hx hb hr hlocks hK hP hD hS (by decide) (by rw [f_MO_reach, if_neg (show ¬ (n ≤ i) by omega), if_pos h14_2]) (by rw [f_MO_reach, if_neg (show ¬ (n ≤ i) by omega), if_pos h14_2]) d_MO_reach_37
    · skip
      refine lv_aload_n hx hb d_MO_reach_17 rfl (lv_at hl 0 rfl) ?_
      refine k_get (v := .ref q_depth) S in_MO hK hP 0 rfl rfl 5 (by decide) ql_MO_19 rfl d_MO_reach_18 ?_
      refine lv_iload_n hx hb d_MO_reach_21 rfl (lv_at hl 1 rfl) ?_
      refine k_ld (k := i) hx hb hK hP 1 0 rfl rfl rfl (by omega) (by decide) d_MO_reach_22 ?_
      refine lv_iload_n hx hb d_MO_reach_23 rfl (lv_at hl 2 rfl) ?_
      refine lv_icmp_eq (tgt := 29) hx hb d_MO_reach_24 (by decide) (fun h24_3 => ?_) (fun h24_3 => ?_)
      · skip
        refine lv_aload_n hx hb d_MO_reach_29 rfl (lv_at hl 0 rfl) ?_
        refine k_get (v := .ref q_depth) S in_MO hK hP 0 rfl rfl 5 (by decide) ql_MO_19 rfl d_MO_reach_30 ?_
        refine lv_iload_n hx hb d_MO_reach_33 rfl (lv_at hl 1 rfl) ?_
        refine lv_iload_n hx hb d_MO_reach_34 rfl (lv_at hl 2 rfl) ?_
        refine k_st (k := i) (x := v) (ws' := [(a, .inr (7, [.int (nI n), .ref q_op, .ref q_arg, .int x_handlers, .ref q_handler, .ref q_depth, .ref q_over, .int x_flatCount, .ref q_flatOp, .ref q_flatArg, .int x_flatHandlers, .ref q_flatHandler, .int x_blockCount, .ref q_leader, .ref q_last, .ref q_height, .ref q_state, .ref q_begin, .ref q_drawn, .ref q_order, .int x_g, .ref q_starters, .int x_ran, .int x_ended, .int x_result, .int x_steps, .int x_emits, .ref q_emitted, .ref q_locals, .ref q_stack, .int x_top, .int x_at])), (q_depth, .inl (cI, 32, .inl (upd d i v)))]) hx hb hK hP hD hS 1 0 rfl rfl rfl (by omega) (by decide) rfl d_MO_reach_35 (fun H locs hP hD hS => ?_)
        refine lv_iconst (v := 1) hx hb d_MO_reach_36 (by decide) ?_
        exact k_zret hx hb hr hlocks hK hP hD hS (by decide) (by rw [f_MO_reach, if_neg (show ¬ (n ≤ i) by omega), if_neg h14_2, if_pos h24_3]) (by rw [f_MO_reach, if_neg (show ¬ (n ≤ i) by omega), if_neg h14_2, if_pos h24_3]) d_MO_reach_37
      · skip
        refine lv_iconst (v := 0) hx hb d_MO_reach_27 (by decide) ?_
        exact k_zret hx hb hr hlocks hK hP hD hS (by decide) (by rw [f_MO_reach, if_neg (show ¬ (n ≤ i) by omega), if_neg h14_2, if_neg h24_3]) (by rw [f_MO_reach, if_neg (show ¬ (n ≤ i) by omega), if_neg h14_2, if_neg h24_3]) d_MO_reach_28

theorem d_MO_nextOver_0 : decode b_MO_nextOver 0 = .ok (.iconst 0, 1) := by decide +kernel
theorem d_MO_nextOver_1 : decode b_MO_nextOver 1 = .ok (.istore_n 1, 1) := by decide +kernel
theorem d_MO_nextOver_2 : decode b_MO_nextOver 2 = .ok (.iload_n 1, 1) := by decide +kernel
theorem d_MO_nextOver_3 : decode b_MO_nextOver 3 = .ok (.aload_n 0, 1) := by decide +kernel
theorem d_MO_nextOver_4 : decode b_MO_nextOver 4 = .ok (.getfield 77, 3) := by decide +kernel
theorem d_MO_nextOver_7 : decode b_MO_nextOver 7 = .ok (.if_icmp .ge 27, 3) := by decide +kernel
theorem d_MO_nextOver_10 : decode b_MO_nextOver 10 = .ok (.aload_n 0, 1) := by decide +kernel
theorem d_MO_nextOver_11 : decode b_MO_nextOver 11 = .ok (.getfield 19, 3) := by decide +kernel
theorem d_MO_nextOver_14 : decode b_MO_nextOver 14 = .ok (.iload_n 1, 1) := by decide +kernel
theorem d_MO_nextOver_15 : decode b_MO_nextOver 15 = .ok (.iaload, 1) := by decide +kernel
theorem d_MO_nextOver_16 : decode b_MO_nextOver 16 = .ok (.ifCond .lt 12, 3) := by decide +kernel
theorem d_MO_nextOver_19 : decode b_MO_nextOver 19 = .ok (.aload_n 0, 1) := by decide +kernel
theorem d_MO_nextOver_20 : decode b_MO_nextOver 20 = .ok (.getfield 22, 3) := by decide +kernel
theorem d_MO_nextOver_23 : decode b_MO_nextOver 23 = .ok (.iload_n 1, 1) := by decide +kernel
theorem d_MO_nextOver_24 : decode b_MO_nextOver 24 = .ok (.baload, 1) := by decide +kernel
theorem d_MO_nextOver_25 : decode b_MO_nextOver 25 = .ok (.ifCond .eq 9, 3) := by decide +kernel
theorem d_MO_nextOver_28 : decode b_MO_nextOver 28 = .ok (.iinc 1 1, 3) := by decide +kernel
theorem d_MO_nextOver_31 : decode b_MO_nextOver 31 = .ok (.goto (-29), 3) := by decide +kernel
theorem d_MO_nextOver_34 : decode b_MO_nextOver 34 = .ok (.iload_n 1, 1) := by decide +kernel
theorem d_MO_nextOver_35 : decode b_MO_nextOver 35 = .ok (.ireturn, 1) := by decide +kernel
def lp_MO_nextOver (d : Nat → Int32) (ov : Nat → Int32) : Nat → Nat → Nat
  | 0, i => i
  | kf + 1, i => (if d i < 0 then (lp_MO_nextOver d ov kf (i + 1)) else (if ov i = 0 then i else (lp_MO_nextOver d ov kf (i + 1))))
def f_MO_nextOver (n : Nat) (d : Nat → Int32) (ov : Nat → Int32) : Nat := lp_MO_nextOver d ov n 0
theorem nx_le (d ov : Nat → Int32) (n : Nat) : ∀ (kf i : Nat), i + kf = n → lp_MO_nextOver d ov kf i ≤ n := by
  intro kf
  induction kf with
  | zero => intro i h; rw [lp_MO_nextOver]; omega
  | succ kf ih =>
    intro i h
    rw [lp_MO_nextOver]
    split
    · exact ih _ (by omega)
    · split
      · omega
      · exact ih _ (by omega)
theorem nx_ov (d ov : Nat → Int32) (n : Nat) : ∀ (kf i : Nat), i + kf = n → lp_MO_nextOver d ov kf i < n → ov (lp_MO_nextOver d ov kf i) = 0 ∧ ¬ d (lp_MO_nextOver d ov kf i) < 0 := by
  intro kf
  induction kf with
  | zero => intro i h h2; rw [lp_MO_nextOver] at h2; omega
  | succ kf ih =>
    intro i h h2
    rw [lp_MO_nextOver] at h2 ⊢
    split at h2
    · rename_i h3; rw [if_pos h3]; exact ih _ (by omega) h2
    · rename_i h3
      rw [if_neg h3]
      split at h2
      · rename_i h4; rw [if_pos h4]; exact ⟨h4, h3⟩
      · rename_i h4; rw [if_neg h4]; exact ih _ (by omega) h2
set_option maxHeartbeats 1000000 in
set_option maxRecDepth 100000 in
theorem c_MO_nextOver (l : Launch) (D : va_G) (cI cZ : ClassId) (a q_op q_arg q_handler q_depth q_over q_flatOp q_flatArg q_flatHandler q_leader q_last q_height q_state q_begin q_drawn q_order q_starters q_emitted q_locals q_stack : Nat) (x_handlers x_flatCount x_flatHandlers x_blockCount x_g x_ran x_ended x_result x_steps x_emits x_top x_at : Int32) (n : Nat) (d ov : Nat → Int32) (hn : n ≤ 32) : MG l y_MO_nextOver w_MO_nextOver (rmK 0 0) D classes (tyz cI cZ) E0 [.ref a] [(a, .inr (7, [.int (nI n), .ref q_op, .ref q_arg, .int x_handlers, .ref q_handler, .ref q_depth, .ref q_over, .int x_flatCount, .ref q_flatOp, .ref q_flatArg, .int x_flatHandlers, .ref q_flatHandler, .int x_blockCount, .ref q_leader, .ref q_last, .ref q_height, .ref q_state, .ref q_begin, .ref q_drawn, .ref q_order, .int x_g, .ref q_starters, .int x_ran, .int x_ended, .int x_result, .int x_steps, .int x_emits, .ref q_emitted, .ref q_locals, .ref q_stack, .int x_top, .int x_at])), (q_depth, .inl (cI, 32, .inl d)), (q_over, .inl (cZ, 32, .inl ov))] (RI D classes (tyz cI cZ) (nI (f_MO_nextOver n d ov)) [(a, .inr (7, [.int (nI n), .ref q_op, .ref q_arg, .int x_handlers, .ref q_handler, .ref q_depth, .ref q_over, .int x_flatCount, .ref q_flatOp, .ref q_flatArg, .int x_flatHandlers, .ref q_flatHandler, .int x_blockCount, .ref q_leader, .ref q_last, .ref q_height, .ref q_state, .ref q_begin, .ref q_drawn, .ref q_order, .int x_g, .ref q_starters, .int x_ran, .int x_ended, .int x_result, .int x_steps, .int x_emits, .ref q_emitted, .ref q_locals, .ref q_stack, .int x_top, .int x_at])), (q_depth, .inl (cI, 32, .inl d)), (q_over, .inl (cZ, 32, .inl ov))]) := by
  refine MG.of (cc := b_MO_nextOver) (maxL := 2) (ret := (some .int)) (own := "FlowFlattenerModel") rfl (by decide) rfl (Nat.le_of_ble_eq_true rfl) ?_
  intro p e s m below meth c A ls S hr hlocks hA hP hK hD hS hE hl
  have hx := S.1
  have hb := S.2.1
  have hl : lv_has ls 2 [(0, .ref a)] := hl
  refine lv_iconst (v := nI 0) hx hb d_MO_nextOver_0 (by decide) ?_
  refine lv_istore_n (lv' := [(1, .int (nI 0)), (0, .ref a)]) hx hb d_MO_nextOver_1 rfl hl (by decide) rfl (fun ls hl => ?_)
  have LP2 : ∀ (kf : Nat) (i : Nat), (i + kf = n) → lp_MO_nextOver d ov kf i = f_MO_nextOver n d ov → ∀ (ls : Array Slot) (H : Heap) (locs : List Loc), lv_has ls 2 [(0, .ref a), (1, .int (nI i))] → va_P D classes [(a, .inr (7, [.int (nI n), .ref q_op, .ref q_arg, .int x_handlers, .ref q_handler, .ref q_depth, .ref q_over, .int x_flatCount, .ref q_flatOp, .ref q_flatArg, .int x_flatHandlers, .ref q_flatHandler, .int x_blockCount, .ref q_leader, .ref q_last, .ref q_height, .ref q_state, .ref q_begin, .ref q_drawn, .ref q_order, .int x_g, .ref q_starters, .int x_ran, .int x_ended, .int x_result, .int x_steps, .int x_emits, .ref q_emitted, .ref q_locals, .ref q_stack, .int x_top, .int x_at])), (q_depth, .inl (cI, 32, .inl d)), (q_over, .inl (cZ, 32, .inl ov))] H → va_D A [(a, .inr (7, [.int (nI n), .ref q_op, .ref q_arg, .int x_handlers, .ref q_handler, .ref q_depth, .ref q_over, .int x_flatCount, .ref q_flatOp, .ref q_flatArg, .int x_flatHandlers, .ref q_flatHandler, .int x_blockCount, .ref q_leader, .ref q_last, .ref q_height, .ref q_state, .ref q_begin, .ref q_drawn, .ref q_order, .int x_g, .ref q_starters, .int x_ran, .int x_ended, .int x_result, .int x_steps, .int x_emits, .ref q_emitted, .ref q_locals, .ref q_stack, .int x_top, .int x_at])), (q_depth, .inl (cI, 32, .inl d)), (q_over, .inl (cZ, 32, .inl ov))] → va_S A s.heap H locs → W p l e (rmK 0 0) s m [.ref a].toArray below meth c H locs 0 0 (MQ below (RI D classes (tyz cI cZ) (nI (f_MO_nextOver n d ov)) [(a, .inr (7, [.int (nI n), .ref q_op, .ref q_arg, .int x_handlers, .ref q_handler, .ref q_depth, .ref q_over, .int x_flatCount, .ref q_flatOp, .ref q_flatArg, .int x_flatHandlers, .ref q_flatHandler, .int x_blockCount, .ref q_leader, .ref q_last, .ref q_height, .ref q_state, .ref q_begin, .ref q_drawn, .ref q_order, .int x_g, .ref q_starters, .int x_ran, .int x_ended, .int x_result, .int x_steps, .int x_emits, .ref q_emitted, .ref q_locals, .ref q_stack, .int x_top, .int x_at])), (q_depth, .inl (cI, 32, .inl d)), (q_over, .inl (cZ, 32, .inl ov))] A) [.ref a].toArray s 0 0 A) (F0 m 2 ls []) := by
    intro kf
    induction kf with
    | zero =>
      intro i hk hF2 ls H locs hl hP hD hS
      refine lv_iload_n hx hb d_MO_nextOver_2 rfl (lv_at hl 1 rfl) ?_
      refine lv_aload_n hx hb d_MO_nextOver_3 rfl (lv_at hl 0 rfl) ?_
      refine k_get (v := .int (nI n)) S in_MO hK hP 0 rfl rfl 0 (by decide) ql_MO_77 rfl d_MO_nextOver_4 ?_
      refine n_icmp_ge (tgt := 34) (x := i) (y := n) hx hb rfl rfl (by omega) (by omega) d_MO_nextOver_7 (by decide) (fun h7_1 => ?_) (fun h7_1 => absurd h7_1 (by omega))
      refine lv_iload_n hx hb d_MO_nextOver_34 rfl (lv_at hl 1 rfl) ?_
      exact k_iret hx hb hr hlocks hK hP hD hS (by rw [← hF2, lp_MO_nextOver]) rfl d_MO_nextOver_35
    | succ kf ih =>
      intro i hk hF2 ls H locs hl hP hD hS
      refine lv_iload_n hx hb d_MO_nextOver_2 rfl (lv_at hl 1 rfl) ?_
      refine lv_aload_n hx hb d_MO_nextOver_3 rfl (lv_at hl 0 rfl) ?_
      refine k_get (v := .int (nI n)) S in_MO hK hP 0 rfl rfl 0 (by decide) ql_MO_77 rfl d_MO_nextOver_4 ?_
      refine n_icmp_ge (tgt := 34) (x := i) (y := n) hx hb rfl rfl (by omega) (by omega) d_MO_nextOver_7 (by decide) (fun h7_2 => absurd h7_2 (by omega)) (fun h7_2 => ?_)
      refine lv_aload_n hx hb d_MO_nextOver_10 rfl (lv_at hl 0 rfl) ?_
      refine k_get (v := .ref q_depth) S in_MO hK hP 0 rfl rfl 5 (by decide) ql_MO_19 rfl d_MO_nextOver_11 ?_
      refine lv_iload_n hx hb d_MO_nextOver_14 rfl (lv_at hl 1 rfl) ?_
      refine k_ld (k := i) hx hb hK hP 1 0 rfl rfl rfl (by omega) (by decide) d_MO_nextOver_15 ?_
      refine lv_if_lt (tgt := 28) hx hb d_MO_nextOver_16 (by decide) (fun h16_3 => ?_) (fun h16_3 => ?_)
      · skip
        refine lv_iinc (k := 1) (v := nI (i + 1)) (lv' := [(1, .int (nI (i + 1))), (0, .ref a)]) hx hb d_MO_nextOver_28 hl rfl (nc_add rfl (by decide)) (by decide) rfl (fun ls hl => ?_)
        refine lv_goto (tgt := 2) hx hb d_MO_nextOver_31 (by decide) ?_
        have e9 : lp_MO_nextOver d ov (kf + 1) i = lp_MO_nextOver d ov kf (i + 1) := by rw [lp_MO_nextOver, if_pos h16_3]
        rw [e9] at hF2
        exact ih (i + 1) (by omega) hF2 _ _ _ (lv_sub hl [1, 0] rfl) hP hD hS
      · skip
        refine lv_aload_n hx hb d_MO_nextOver_19 rfl (lv_at hl 0 rfl) ?_
        refine k_get (v := .ref q_over) S in_MO hK hP 0 rfl rfl 6 (by decide) ql_MO_22 rfl d_MO_nextOver_20 ?_
        refine lv_iload_n hx hb d_MO_nextOver_23 rfl (lv_at hl 1 rfl) ?_
        refine k_zld (k := i) hx hb hK hP 2 1 rfl rfl rfl (by omega) (by decide) d_MO_nextOver_24 ?_
        refine lv_if_eq (tgt := 34) hx hb d_MO_nextOver_25 (by decide) (fun h25_4 => ?_) (fun h25_4 => ?_)
        · skip
          refine lv_iload_n hx hb d_MO_nextOver_34 rfl (lv_at hl 1 rfl) ?_
          exact k_iret hx hb hr hlocks hK hP hD hS (by rw [← hF2, lp_MO_nextOver, if_neg h16_3, if_pos h25_4]) rfl d_MO_nextOver_35
        · skip
          refine lv_iinc (k := 1) (v := nI (i + 1)) (lv' := [(1, .int (nI (i + 1))), (0, .ref a)]) hx hb d_MO_nextOver_28 hl rfl (nc_add rfl (by decide)) (by decide) rfl (fun ls hl => ?_)
          refine lv_goto (tgt := 2) hx hb d_MO_nextOver_31 (by decide) ?_
          have e9 : lp_MO_nextOver d ov (kf + 1) i = lp_MO_nextOver d ov kf (i + 1) := by rw [lp_MO_nextOver, if_neg h16_3, if_neg h25_4]
          rw [e9] at hF2
          exact ih (i + 1) (by omega) hF2 _ _ _ (lv_sub hl [1, 0] rfl) hP hD hS
  exact LP2 n 0 (by omega) (by rw [f_MO_nextOver]) _ _ _ (lv_sub hl [1, 0] rfl) hP hD hS

theorem d_MO_goOver_0 : decode b_MO_goOver 0 = .ok (.aload_n 0, 1) := by decide +kernel
theorem d_MO_goOver_1 : decode b_MO_goOver 1 = .ok (.getfield 22, 3) := by decide +kernel
theorem d_MO_goOver_4 : decode b_MO_goOver 4 = .ok (.iload_n 1, 1) := by decide +kernel
theorem d_MO_goOver_5 : decode b_MO_goOver 5 = .ok (.iconst 1, 1) := by decide +kernel
theorem d_MO_goOver_6 : decode b_MO_goOver 6 = .ok (.bastore, 1) := by decide +kernel
theorem d_MO_goOver_7 : decode b_MO_goOver 7 = .ok (.aload_n 0, 1) := by decide +kernel
theorem d_MO_goOver_8 : decode b_MO_goOver 8 = .ok (.getfield 7, 3) := by decide +kernel
theorem d_MO_goOver_11 : decode b_MO_goOver 11 = .ok (.iload_n 1, 1) := by decide +kernel
theorem d_MO_goOver_12 : decode b_MO_goOver 12 = .ok (.iaload, 1) := by decide +kernel
theorem d_MO_goOver_13 : decode b_MO_goOver 13 = .ok (.istore_n 2, 1) := by decide +kernel
theorem d_MO_goOver_14 : decode b_MO_goOver 14 = .ok (.aload_n 0, 1) := by decide +kernel
theorem d_MO_goOver_15 : decode b_MO_goOver 15 = .ok (.getfield 19, 3) := by decide +kernel
theorem d_MO_goOver_18 : decode b_MO_goOver 18 = .ok (.iload_n 1, 1) := by decide +kernel
theorem d_MO_goOver_19 : decode b_MO_goOver 19 = .ok (.iaload, 1) := by decide +kernel
theorem d_MO_goOver_20 : decode b_MO_goOver 20 = .ok (.iload_n 2, 1) := by decide +kernel
theorem d_MO_goOver_21 : decode b_MO_goOver 21 = .ok (.invokestatic 90, 3) := by decide +kernel
theorem d_MO_goOver_24 : decode b_MO_goOver 24 = .ok (.isub, 1) := by decide +kernel
theorem d_MO_goOver_25 : decode b_MO_goOver 25 = .ok (.iload_n 2, 1) := by decide +kernel
theorem d_MO_goOver_26 : decode b_MO_goOver 26 = .ok (.invokestatic 94, 3) := by decide +kernel
theorem d_MO_goOver_29 : decode b_MO_goOver 29 = .ok (.iadd, 1) := by decide +kernel
theorem d_MO_goOver_30 : decode b_MO_goOver 30 = .ok (.istore_n 3, 1) := by decide +kernel
theorem d_MO_goOver_31 : decode b_MO_goOver 31 = .ok (.iload_n 2, 1) := by decide +kernel
theorem d_MO_goOver_32 : decode b_MO_goOver 32 = .ok (.bipush 13, 2) := by decide +kernel
theorem d_MO_goOver_34 : decode b_MO_goOver 34 = .ok (.if_icmp .eq 14, 3) := by decide +kernel
theorem d_MO_goOver_37 : decode b_MO_goOver 37 = .ok (.iload_n 2, 1) := by decide +kernel
theorem d_MO_goOver_38 : decode b_MO_goOver 38 = .ok (.invokestatic 97, 3) := by decide +kernel
theorem d_MO_goOver_41 : decode b_MO_goOver 41 = .ok (.ifCond .ne 7, 3) := by decide +kernel
theorem d_MO_goOver_44 : decode b_MO_goOver 44 = .ok (.iconst 1, 1) := by decide +kernel
theorem d_MO_goOver_45 : decode b_MO_goOver 45 = .ok (.goto 4, 3) := by decide +kernel
theorem d_MO_goOver_48 : decode b_MO_goOver 48 = .ok (.iconst 0, 1) := by decide +kernel
theorem d_MO_goOver_49 : decode b_MO_goOver 49 = .ok (.istore 4, 2) := by decide +kernel
theorem d_MO_goOver_51 : decode b_MO_goOver 51 = .ok (.aload_n 0, 1) := by decide +kernel
theorem d_MO_goOver_52 : decode b_MO_goOver 52 = .ok (.getfield 19, 3) := by decide +kernel
theorem d_MO_goOver_55 : decode b_MO_goOver 55 = .ok (.iload_n 1, 1) := by decide +kernel
theorem d_MO_goOver_56 : decode b_MO_goOver 56 = .ok (.iaload, 1) := by decide +kernel
theorem d_MO_goOver_57 : decode b_MO_goOver 57 = .ok (.iload_n 2, 1) := by decide +kernel
theorem d_MO_goOver_58 : decode b_MO_goOver 58 = .ok (.invokestatic 90, 3) := by decide +kernel
theorem d_MO_goOver_61 : decode b_MO_goOver 61 = .ok (.if_icmp .lt 43, 3) := by decide +kernel
theorem d_MO_goOver_64 : decode b_MO_goOver 64 = .ok (.iload_n 3, 1) := by decide +kernel
theorem d_MO_goOver_65 : decode b_MO_goOver 65 = .ok (.iconst 4, 1) := by decide +kernel
theorem d_MO_goOver_66 : decode b_MO_goOver 66 = .ok (.if_icmp .gt 38, 3) := by decide +kernel
theorem d_MO_goOver_69 : decode b_MO_goOver 69 = .ok (.iload 4, 2) := by decide +kernel
theorem d_MO_goOver_71 : decode b_MO_goOver 71 = .ok (.ifCond .eq 13, 3) := by decide +kernel
theorem d_MO_goOver_74 : decode b_MO_goOver 74 = .ok (.iload_n 1, 1) := by decide +kernel
theorem d_MO_goOver_75 : decode b_MO_goOver 75 = .ok (.iconst 1, 1) := by decide +kernel
theorem d_MO_goOver_76 : decode b_MO_goOver 76 = .ok (.iadd, 1) := by decide +kernel
theorem d_MO_goOver_77 : decode b_MO_goOver 77 = .ok (.aload_n 0, 1) := by decide +kernel
theorem d_MO_goOver_78 : decode b_MO_goOver 78 = .ok (.getfield 77, 3) := by decide +kernel
theorem d_MO_goOver_81 : decode b_MO_goOver 81 = .ok (.if_icmp .ge 23, 3) := by decide +kernel
theorem d_MO_goOver_84 : decode b_MO_goOver 84 = .ok (.iload_n 2, 1) := by decide +kernel
theorem d_MO_goOver_85 : decode b_MO_goOver 85 = .ok (.invokestatic 73, 3) := by decide +kernel
theorem d_MO_goOver_88 : decode b_MO_goOver 88 = .ok (.ifCond .eq 18, 3) := by decide +kernel
theorem d_MO_goOver_91 : decode b_MO_goOver 91 = .ok (.aload_n 0, 1) := by decide +kernel
theorem d_MO_goOver_92 : decode b_MO_goOver 92 = .ok (.getfield 13, 3) := by decide +kernel
theorem d_MO_goOver_95 : decode b_MO_goOver 95 = .ok (.iload_n 1, 1) := by decide +kernel
theorem d_MO_goOver_96 : decode b_MO_goOver 96 = .ok (.iaload, 1) := by decide +kernel
theorem d_MO_goOver_97 : decode b_MO_goOver 97 = .ok (.aload_n 0, 1) := by decide +kernel
theorem d_MO_goOver_98 : decode b_MO_goOver 98 = .ok (.getfield 77, 3) := by decide +kernel
theorem d_MO_goOver_101 : decode b_MO_goOver 101 = .ok (.if_icmp .lt 5, 3) := by decide +kernel
theorem d_MO_goOver_104 : decode b_MO_goOver 104 = .ok (.iconst 0, 1) := by decide +kernel
theorem d_MO_goOver_105 : decode b_MO_goOver 105 = .ok (.ireturn, 1) := by decide +kernel
theorem d_MO_goOver_106 : decode b_MO_goOver 106 = .ok (.iconst 1, 1) := by decide +kernel
theorem d_MO_goOver_107 : decode b_MO_goOver 107 = .ok (.istore 5, 2) := by decide +kernel
theorem d_MO_goOver_109 : decode b_MO_goOver 109 = .ok (.iload 4, 2) := by decide +kernel
theorem d_MO_goOver_111 : decode b_MO_goOver 111 = .ok (.ifCond .eq 13, 3) := by decide +kernel
theorem d_MO_goOver_114 : decode b_MO_goOver 114 = .ok (.aload_n 0, 1) := by decide +kernel
theorem d_MO_goOver_115 : decode b_MO_goOver 115 = .ok (.iload_n 1, 1) := by decide +kernel
theorem d_MO_goOver_116 : decode b_MO_goOver 116 = .ok (.iconst 1, 1) := by decide +kernel
theorem d_MO_goOver_117 : decode b_MO_goOver 117 = .ok (.iadd, 1) := by decide +kernel
theorem d_MO_goOver_118 : decode b_MO_goOver 118 = .ok (.iload_n 3, 1) := by decide +kernel
theorem d_MO_goOver_119 : decode b_MO_goOver 119 = .ok (.invokevirtual 100, 3) := by decide +kernel
theorem d_MO_goOver_122 : decode b_MO_goOver 122 = .ok (.istore 5, 2) := by decide +kernel
theorem d_MO_goOver_124 : decode b_MO_goOver 124 = .ok (.iload_n 2, 1) := by decide +kernel
theorem d_MO_goOver_125 : decode b_MO_goOver 125 = .ok (.invokestatic 73, 3) := by decide +kernel
theorem d_MO_goOver_128 : decode b_MO_goOver 128 = .ok (.ifCond .eq 29, 3) := by decide +kernel
theorem d_MO_goOver_131 : decode b_MO_goOver 131 = .ok (.aload_n 0, 1) := by decide +kernel
theorem d_MO_goOver_132 : decode b_MO_goOver 132 = .ok (.aload_n 0, 1) := by decide +kernel
theorem d_MO_goOver_133 : decode b_MO_goOver 133 = .ok (.getfield 13, 3) := by decide +kernel
theorem d_MO_goOver_136 : decode b_MO_goOver 136 = .ok (.iload_n 1, 1) := by decide +kernel
theorem d_MO_goOver_137 : decode b_MO_goOver 137 = .ok (.iaload, 1) := by decide +kernel
theorem d_MO_goOver_138 : decode b_MO_goOver 138 = .ok (.iload_n 3, 1) := by decide +kernel
theorem d_MO_goOver_139 : decode b_MO_goOver 139 = .ok (.invokevirtual 100, 3) := by decide +kernel
theorem d_MO_goOver_142 : decode b_MO_goOver 142 = .ok (.ifCond .eq 12, 3) := by decide +kernel
theorem d_MO_goOver_145 : decode b_MO_goOver 145 = .ok (.iload 5, 2) := by decide +kernel
theorem d_MO_goOver_147 : decode b_MO_goOver 147 = .ok (.ifCond .eq 7, 3) := by decide +kernel
theorem d_MO_goOver_150 : decode b_MO_goOver 150 = .ok (.iconst 1, 1) := by decide +kernel
theorem d_MO_goOver_151 : decode b_MO_goOver 151 = .ok (.goto 4, 3) := by decide +kernel
theorem d_MO_goOver_154 : decode b_MO_goOver 154 = .ok (.iconst 0, 1) := by decide +kernel
theorem d_MO_goOver_155 : decode b_MO_goOver 155 = .ok (.istore 5, 2) := by decide +kernel
theorem d_MO_goOver_157 : decode b_MO_goOver 157 = .ok (.iconst 0, 1) := by decide +kernel
theorem d_MO_goOver_158 : decode b_MO_goOver 158 = .ok (.istore 6, 2) := by decide +kernel
theorem d_MO_goOver_160 : decode b_MO_goOver 160 = .ok (.iload 6, 2) := by decide +kernel
theorem d_MO_goOver_162 : decode b_MO_goOver 162 = .ok (.aload_n 0, 1) := by decide +kernel
theorem d_MO_goOver_163 : decode b_MO_goOver 163 = .ok (.getfield 80, 3) := by decide +kernel
theorem d_MO_goOver_166 : decode b_MO_goOver 166 = .ok (.if_icmp .ge 50, 3) := by decide +kernel
theorem d_MO_goOver_169 : decode b_MO_goOver 169 = .ok (.aload_n 0, 1) := by decide +kernel
theorem d_MO_goOver_170 : decode b_MO_goOver 170 = .ok (.iload 6, 2) := by decide +kernel
theorem d_MO_goOver_172 : decode b_MO_goOver 172 = .ok (.iload_n 1, 1) := by decide +kernel
theorem d_MO_goOver_173 : decode b_MO_goOver 173 = .ok (.invokevirtual 103, 3) := by decide +kernel
theorem d_MO_goOver_176 : decode b_MO_goOver 176 = .ok (.ifCond .eq 34, 3) := by decide +kernel
theorem d_MO_goOver_179 : decode b_MO_goOver 179 = .ok (.aload_n 0, 1) := by decide +kernel
theorem d_MO_goOver_180 : decode b_MO_goOver 180 = .ok (.aload_n 0, 1) := by decide +kernel
theorem d_MO_goOver_181 : decode b_MO_goOver 181 = .ok (.getfield 16, 3) := by decide +kernel
theorem d_MO_goOver_184 : decode b_MO_goOver 184 = .ok (.iconst 3, 1) := by decide +kernel
theorem d_MO_goOver_185 : decode b_MO_goOver 185 = .ok (.iload 6, 2) := by decide +kernel
theorem d_MO_goOver_187 : decode b_MO_goOver 187 = .ok (.imul, 1) := by decide +kernel
theorem d_MO_goOver_188 : decode b_MO_goOver 188 = .ok (.iconst 2, 1) := by decide +kernel
theorem d_MO_goOver_189 : decode b_MO_goOver 189 = .ok (.iadd, 1) := by decide +kernel
theorem d_MO_goOver_190 : decode b_MO_goOver 190 = .ok (.iaload, 1) := by decide +kernel
theorem d_MO_goOver_191 : decode b_MO_goOver 191 = .ok (.iconst 1, 1) := by decide +kernel
theorem d_MO_goOver_192 : decode b_MO_goOver 192 = .ok (.invokevirtual 100, 3) := by decide +kernel
theorem d_MO_goOver_195 : decode b_MO_goOver 195 = .ok (.ifCond .eq 12, 3) := by decide +kernel
theorem d_MO_goOver_198 : decode b_MO_goOver 198 = .ok (.iload 5, 2) := by decide +kernel
theorem d_MO_goOver_200 : decode b_MO_goOver 200 = .ok (.ifCond .eq 7, 3) := by decide +kernel
theorem d_MO_goOver_203 : decode b_MO_goOver 203 = .ok (.iconst 1, 1) := by decide +kernel
theorem d_MO_goOver_204 : decode b_MO_goOver 204 = .ok (.goto 4, 3) := by decide +kernel
theorem d_MO_goOver_207 : decode b_MO_goOver 207 = .ok (.iconst 0, 1) := by decide +kernel
theorem d_MO_goOver_208 : decode b_MO_goOver 208 = .ok (.istore 5, 2) := by decide +kernel
theorem d_MO_goOver_210 : decode b_MO_goOver 210 = .ok (.iinc 6 1, 3) := by decide +kernel
theorem d_MO_goOver_213 : decode b_MO_goOver 213 = .ok (.goto (-53), 3) := by decide +kernel
theorem d_MO_goOver_216 : decode b_MO_goOver 216 = .ok (.iload 5, 2) := by decide +kernel
theorem d_MO_goOver_218 : decode b_MO_goOver 218 = .ok (.ireturn, 1) := by decide +kernel
def g31_MO_goOver (i : Nat) (op : Nat → Int32) : Int32 := (if op i = 13 then 0 else (if f_MO_ends (op i) = 0 then 1 else 0))
def g109_MO_goOver (n : Nat) (i : Nat) (op : Nat → Int32) (d : Nat → Int32) : Int32 × (Nat → Int32) := (if g31_MO_goOver i op = 0 then (1, d) else ((f_MO_reach n (i + 1) d (((d i) - (f_MO_takes (op i))) + (f_MO_gives (op i)))).1, (f_MO_reach n (i + 1) d (((d i) - (f_MO_takes (op i))) + (f_MO_gives (op i)))).2))
def g124_MO_goOver (n : Nat) (i : Nat) (op : Nat → Int32) (ar : Nat → Int32) (d : Nat → Int32) : Int32 × (Nat → Int32) := (if f_MO_jumps (op i) = 0 then ((g109_MO_goOver n i op d).1, (g109_MO_goOver n i op d).2) else (if (f_MO_reach n (tn (ar i)) ((g109_MO_goOver n i op d).2) (((d i) - (f_MO_takes (op i))) + (f_MO_gives (op i)))).1 = 0 then (0, (f_MO_reach n (tn (ar i)) ((g109_MO_goOver n i op d).2) (((d i) - (f_MO_takes (op i))) + (f_MO_gives (op i)))).2) else (if (g109_MO_goOver n i op d).1 = 0 then (0, (f_MO_reach n (tn (ar i)) ((g109_MO_goOver n i op d).2) (((d i) - (f_MO_takes (op i))) + (f_MO_gives (op i)))).2) else (1, (f_MO_reach n (tn (ar i)) ((g109_MO_goOver n i op d).2) (((d i) - (f_MO_takes (op i))) + (f_MO_gives (op i)))).2))))
def lp_MO_goOver (n : Nat) (i : Nat) (hd : Nat → Int32) : Nat → Nat → Int32 → (Nat → Int32) → Int32 × (Nat → Int32)
  | 0, h, g, d1 => (g, d1)
  | kf + 1, h, g, d1 => (if f_MO_inRange hd h (nI i) = 0 then (lp_MO_goOver n i hd kf (h + 1) g d1) else (if (f_MO_reach n (tn (hd (3 * h + 2))) d1 1).1 = 0 then (lp_MO_goOver n i hd kf (h + 1) 0 ((f_MO_reach n (tn (hd (3 * h + 2))) d1 1).2)) else (if g = 0 then (lp_MO_goOver n i hd kf (h + 1) 0 ((f_MO_reach n (tn (hd (3 * h + 2))) d1 1).2)) else (lp_MO_goOver n i hd kf (h + 1) 1 ((f_MO_reach n (tn (hd (3 * h + 2))) d1 1).2)))))
def g106_MO_goOver (n : Nat) (hn : Nat) (i : Nat) (op : Nat → Int32) (ar : Nat → Int32) (hd : Nat → Int32) (d : Nat → Int32) (ov : Nat → Int32) : Int32 × (Nat → Int32) × (Nat → Int32) := ((lp_MO_goOver n i hd hn 0 ((g124_MO_goOver n i op ar d).1) ((g124_MO_goOver n i op ar d).2)).1, (lp_MO_goOver n i hd hn 0 ((g124_MO_goOver n i op ar d).1) ((g124_MO_goOver n i op ar d).2)).2, upd ov i 1)
def f_MO_goOver (n : Nat) (hn : Nat) (i : Nat) (op : Nat → Int32) (ar : Nat → Int32) (hd : Nat → Int32) (d : Nat → Int32) (ov : Nat → Int32) : Int32 × (Nat → Int32) × (Nat → Int32) := (if d i < f_MO_takes (op i) then (0, d, upd ov i 1) else (if 4 < ((d i) - (f_MO_takes (op i))) + (f_MO_gives (op i)) then (0, d, upd ov i 1) else (if g31_MO_goOver i op = 0 then (if f_MO_jumps (op i) = 0 then g106_MO_goOver n hn i op ar hd d ov else (if tn (ar i) < n then g106_MO_goOver n hn i op ar hd d ov else (0, d, upd ov i 1))) else (if n ≤ i + 1 then (0, d, upd ov i 1) else (if f_MO_jumps (op i) = 0 then g106_MO_goOver n hn i op ar hd d ov else (if tn (ar i) < n then g106_MO_goOver n hn i op ar hd d ov else (0, d, upd ov i 1)))))))
theorem z_reach (n i : Nat) (d : Nat → Int32) (v : Int32) : (f_MO_reach n i d v).1 = 0 ∨ (f_MO_reach n i d v).1 = 1 := by
  unfold f_MO_reach
  split
  · exact Or.inl rfl
  · split
    · exact Or.inr rfl
    · split
      · exact Or.inr rfl
      · exact Or.inl rfl
theorem z109_goOver (n i : Nat) (op d : Nat → Int32) : (g109_MO_goOver n i op d).1 = 0 ∨ (g109_MO_goOver n i op d).1 = 1 := by
  unfold g109_MO_goOver
  split
  · exact Or.inr rfl
  · exact z_reach _ _ _ _
theorem z124_goOver (n i : Nat) (op ar d : Nat → Int32) : (g124_MO_goOver n i op ar d).1 = 0 ∨ (g124_MO_goOver n i op ar d).1 = 1 := by
  unfold g124_MO_goOver
  split
  · exact z109_goOver _ _ _ _
  · split
    · exact Or.inl rfl
    · split
      · exact Or.inl rfl
      · exact Or.inr rfl
theorem z_goOver (n i : Nat) (hd : Nat → Int32) : ∀ (kf h : Nat) (g : Int32) (d : Nat → Int32), g = 0 ∨ g = 1 → (lp_MO_goOver n i hd kf h g d).1 = 0 ∨ (lp_MO_goOver n i hd kf h g d).1 = 1 := by
  intro kf
  induction kf with
  | zero => intro h g d hg; exact hg
  | succ kf ih =>
    intro h g d hg
    rw [lp_MO_goOver]
    split
    · exact ih _ _ _ hg
    · split
      · exact ih _ _ _ (Or.inl rfl)
      · split
        · exact ih _ _ _ (Or.inl rfl)
        · exact ih _ _ _ (Or.inr rfl)
set_option maxHeartbeats 1000000 in
set_option maxRecDepth 100000 in
theorem c_MO_goOver (l : Launch) (D : va_G) (cI cZ : ClassId) (a q_op q_arg q_handler q_depth q_over q_flatOp q_flatArg q_flatHandler q_leader q_last q_height q_state q_begin q_drawn q_order q_starters q_emitted q_locals q_stack : Nat) (x_flatCount x_flatHandlers x_blockCount x_g x_ran x_ended x_result x_steps x_emits x_top x_at : Int32) (n hn i : Nat) (op ar hd d ov : Nat → Int32) (hh : n ≤ 32) (h3 : hn ≤ 3) (hi : i < n) (hj : ¬ f_MO_jumps (op i) = 0 → ar i = nI (tn (ar i)) ∧ tn (ar i) < 32) (hg : ∀ h, h < hn → hd (3 * h + 2) = nI (tn (hd (3 * h + 2))) ∧ tn (hd (3 * h + 2)) ≤ 32) : MG l y_MO_goOver w_MO_goOver (rmK 1 22) D classes (tyz cI cZ) E0 [.ref a, .int (nI i)] [(a, .inr (7, [.int (nI n), .ref q_op, .ref q_arg, .int (nI hn), .ref q_handler, .ref q_depth, .ref q_over, .int x_flatCount, .ref q_flatOp, .ref q_flatArg, .int x_flatHandlers, .ref q_flatHandler, .int x_blockCount, .ref q_leader, .ref q_last, .ref q_height, .ref q_state, .ref q_begin, .ref q_drawn, .ref q_order, .int x_g, .ref q_starters, .int x_ran, .int x_ended, .int x_result, .int x_steps, .int x_emits, .ref q_emitted, .ref q_locals, .ref q_stack, .int x_top, .int x_at])), (q_op, .inl (cI, 32, .inl op)), (q_arg, .inl (cI, 32, .inl ar)), (q_handler, .inl (cI, 9, .inl hd)), (q_depth, .inl (cI, 32, .inl d)), (q_over, .inl (cZ, 32, .inl ov))] (RI D classes (tyz cI cZ) ((f_MO_goOver n hn i op ar hd d ov).1) [(a, .inr (7, [.int (nI n), .ref q_op, .ref q_arg, .int (nI hn), .ref q_handler, .ref q_depth, .ref q_over, .int x_flatCount, .ref q_flatOp, .ref q_flatArg, .int x_flatHandlers, .ref q_flatHandler, .int x_blockCount, .ref q_leader, .ref q_last, .ref q_height, .ref q_state, .ref q_begin, .ref q_drawn, .ref q_order, .int x_g, .ref q_starters, .int x_ran, .int x_ended, .int x_result, .int x_steps, .int x_emits, .ref q_emitted, .ref q_locals, .ref q_stack, .int x_top, .int x_at])), (q_op, .inl (cI, 32, .inl op)), (q_arg, .inl (cI, 32, .inl ar)), (q_handler, .inl (cI, 9, .inl hd)), (q_depth, .inl (cI, 32, .inl ((f_MO_goOver n hn i op ar hd d ov).2.1))), (q_over, .inl (cZ, 32, .inl ((f_MO_goOver n hn i op ar hd d ov).2.2)))]) := by
  refine MG.of (cc := b_MO_goOver) (maxL := 7) (ret := (some .boolean)) (own := "FlowFlattenerModel") rfl (by decide) rfl (Nat.le_of_ble_eq_true rfl) ?_
  intro p e s m below meth c A ls S hr hlocks hA hP hK hD hS hE hl
  have hx := S.1
  have hb := S.2.1
  have hl : lv_has ls 7 [(0, .ref a), (1, .int (nI i))] := hl
  refine lv_aload_n hx hb d_MO_goOver_0 rfl (lv_at hl 0 rfl) ?_
  refine k_get (v := .ref q_over) S in_MO hK hP 0 rfl rfl 6 (by decide) ql_MO_22 rfl d_MO_goOver_1 ?_
  refine lv_iload_n hx hb d_MO_goOver_4 rfl (lv_at hl 1 rfl) ?_
  refine lv_iconst (v := 1) hx hb d_MO_goOver_5 (by decide) ?_
  refine k_zst (k := i) (x := 1) (ws' := [(a, .inr (7, [.int (nI n), .ref q_op, .ref q_arg, .int (nI hn), .ref q_handler, .ref q_depth, .ref q_over, .int x_flatCount, .ref q_flatOp, .ref q_flatArg, .int x_flatHandlers, .ref q_flatHandler, .int x_blockCount, .ref q_leader, .ref q_last, .ref q_height, .ref q_state, .ref q_begin, .ref q_drawn, .ref q_order, .int x_g, .ref q_starters, .int x_ran, .int x_ended, .int x_result, .int x_steps, .int x_emits, .ref q_emitted, .ref q_locals, .ref q_stack, .int x_top, .int x_at])), (q_op, .inl (cI, 32, .inl op)), (q_arg, .inl (cI, 32, .inl ar)), (q_handler, .inl (cI, 9, .inl hd)), (q_depth, .inl (cI, 32, .inl d)), (q_over, .inl (cZ, 32, .inl (upd ov i 1)))]) hx hb hK hP hD hS 5 1 rfl rfl rfl (by decide) (by omega) (by decide) rfl d_MO_goOver_6 (fun H locs hP hD hS => ?_)
  refine lv_aload_n hx hb d_MO_goOver_7 rfl (lv_at hl 0 rfl) ?_
  refine k_get (v := .ref q_op) S in_MO hK hP 0 rfl rfl 1 (by decide) ql_MO_7 rfl d_MO_goOver_8 ?_
  refine lv_iload_n hx hb d_MO_goOver_11 rfl (lv_at hl 1 rfl) ?_
  refine k_ld (k := i) hx hb hK hP 1 0 rfl rfl rfl (by omega) (by decide) d_MO_goOver_12 ?_
  refine lv_istore_n (lv' := [(2, .int (op i)), (0, .ref a), (1, .int (nI i))]) hx hb d_MO_goOver_13 rfl hl (by decide) rfl (fun ls hl => ?_)
  refine lv_aload_n hx hb d_MO_goOver_14 rfl (lv_at hl 1 rfl) ?_
  refine k_get (v := .ref q_depth) S in_MO hK hP 0 rfl rfl 5 (by decide) ql_MO_19 rfl d_MO_goOver_15 ?_
  refine lv_iload_n hx hb d_MO_goOver_18 rfl (lv_at hl 2 rfl) ?_
  refine k_ld (k := i) hx hb hK hP 4 0 rfl rfl rfl (by omega) (by decide) d_MO_goOver_19 ?_
  refine lv_iload_n hx hb d_MO_goOver_20 rfl (lv_at hl 0 rfl) ?_
  refine k_goi (ws' := [(a, .inr (7, [.int (nI n), .ref q_op, .ref q_arg, .int (nI hn), .ref q_handler, .ref q_depth, .ref q_over, .int x_flatCount, .ref q_flatOp, .ref q_flatArg, .int x_flatHandlers, .ref q_flatHandler, .int x_blockCount, .ref q_leader, .ref q_last, .ref q_height, .ref q_state, .ref q_begin, .ref q_drawn, .ref q_order, .int x_g, .ref q_starters, .int x_ran, .int x_ended, .int x_result, .int x_steps, .int x_emits, .ref q_emitted, .ref q_locals, .ref q_stack, .int x_top, .int x_at])), (q_op, .inl (cI, 32, .inl op)), (q_arg, .inl (cI, 32, .inl ar)), (q_handler, .inl (cI, 9, .inl hd)), (q_depth, .inl (cI, 32, .inl d)), (q_over, .inl (cZ, 32, .inl (upd ov i 1)))]) (wr := [(a, .inr (7, [.int (nI n), .ref q_op, .ref q_arg, .int (nI hn), .ref q_handler, .ref q_depth, .ref q_over, .int x_flatCount, .ref q_flatOp, .ref q_flatArg, .int x_flatHandlers, .ref q_flatHandler, .int x_blockCount, .ref q_leader, .ref q_last, .ref q_height, .ref q_state, .ref q_begin, .ref q_drawn, .ref q_order, .int x_g, .ref q_starters, .int x_ran, .int x_ended, .int x_result, .int x_steps, .int x_emits, .ref q_emitted, .ref q_locals, .ref q_stack, .int x_top, .int x_at])), (q_op, .inl (cI, 32, .inl op)), (q_arg, .inl (cI, 32, .inl ar)), (q_handler, .inl (cI, 9, .inl hd)), (q_depth, .inl (cI, 32, .inl d)), (q_over, .inl (cZ, 32, .inl (upd ov i 1)))]) (k_runS (As := [.int (op i)]) (rest := [.int (d i)]) (n := 1) S (c_MO_takes l D cI cZ (op i)) E0_b E0_t ql_MO_90 qt_MO_takes qn_MO qc_MO_takes (by decide +kernel) rfl ⟨rfl, rfl⟩ ⟨Nat.le_of_ble_eq_true rfl, Nat.le_of_ble_eq_true rfl⟩ hK hP hD [] rfl (by decide) hl.1 rfl (Nat.le_of_ble_eq_true rfl) d_MO_goOver_21 ⟨Nat.zero_le _, Nat.zero_le _⟩) hP hD hS hA [] [0, 1, 2, 3, 4, 5] [0, 1, 2, 3, 4, 5] rfl rfl (by decide) (by decide) rfl (by decide) (fun H locs hP hD hS => ?_)
  refine lv_isub hx hb d_MO_goOver_24 ?_
  refine lv_iload_n hx hb d_MO_goOver_25 rfl (lv_at hl 0 rfl) ?_
  refine k_goi (ws' := [(a, .inr (7, [.int (nI n), .ref q_op, .ref q_arg, .int (nI hn), .ref q_handler, .ref q_depth, .ref q_over, .int x_flatCount, .ref q_flatOp, .ref q_flatArg, .int x_flatHandlers, .ref q_flatHandler, .int x_blockCount, .ref q_leader, .ref q_last, .ref q_height, .ref q_state, .ref q_begin, .ref q_drawn, .ref q_order, .int x_g, .ref q_starters, .int x_ran, .int x_ended, .int x_result, .int x_steps, .int x_emits, .ref q_emitted, .ref q_locals, .ref q_stack, .int x_top, .int x_at])), (q_op, .inl (cI, 32, .inl op)), (q_arg, .inl (cI, 32, .inl ar)), (q_handler, .inl (cI, 9, .inl hd)), (q_depth, .inl (cI, 32, .inl d)), (q_over, .inl (cZ, 32, .inl (upd ov i 1)))]) (wr := [(a, .inr (7, [.int (nI n), .ref q_op, .ref q_arg, .int (nI hn), .ref q_handler, .ref q_depth, .ref q_over, .int x_flatCount, .ref q_flatOp, .ref q_flatArg, .int x_flatHandlers, .ref q_flatHandler, .int x_blockCount, .ref q_leader, .ref q_last, .ref q_height, .ref q_state, .ref q_begin, .ref q_drawn, .ref q_order, .int x_g, .ref q_starters, .int x_ran, .int x_ended, .int x_result, .int x_steps, .int x_emits, .ref q_emitted, .ref q_locals, .ref q_stack, .int x_top, .int x_at])), (q_op, .inl (cI, 32, .inl op)), (q_arg, .inl (cI, 32, .inl ar)), (q_handler, .inl (cI, 9, .inl hd)), (q_depth, .inl (cI, 32, .inl d)), (q_over, .inl (cZ, 32, .inl (upd ov i 1)))]) (k_runS (As := [.int (op i)]) (rest := [.int ((d i) - (f_MO_takes (op i)))]) (n := 1) S (c_MO_gives l D cI cZ (op i)) E0_b E0_t ql_MO_94 qt_MO_gives qn_MO qc_MO_gives (by decide +kernel) rfl ⟨rfl, rfl⟩ ⟨Nat.le_of_ble_eq_true rfl, Nat.le_of_ble_eq_true rfl⟩ hK hP hD [] rfl (by decide) hl.1 rfl (Nat.le_of_ble_eq_true rfl) d_MO_goOver_26 ⟨Nat.zero_le _, Nat.zero_le _⟩) hP hD hS hA [] [0, 1, 2, 3, 4, 5] [0, 1, 2, 3, 4, 5] rfl rfl (by decide) (by decide) rfl (by decide) (fun H locs hP hD hS => ?_)
  refine lv_iadd hx hb d_MO_goOver_29 ?_
  refine lv_istore_n (lv' := [(3, .int (((d i) - (f_MO_takes (op i))) + (f_MO_gives (op i)))), (2, .int (op i)), (0, .ref a), (1, .int (nI i))]) hx hb d_MO_goOver_30 rfl hl (by decide) rfl (fun ls hl => ?_)
  have J49 : ∀ (ls : Array Slot) (H : Heap) (locs : List Loc), lv_has ls 7 [(0, .ref a), (1, .int (nI i)), (2, .int (op i)), (3, .int (((d i) - (f_MO_takes (op i))) + (f_MO_gives (op i))))] → va_P D classes [(a, .inr (7, [.int (nI n), .ref q_op, .ref q_arg, .int (nI hn), .ref q_handler, .ref q_depth, .ref q_over, .int x_flatCount, .ref q_flatOp, .ref q_flatArg, .int x_flatHandlers, .ref q_flatHandler, .int x_blockCount, .ref q_leader, .ref q_last, .ref q_height, .ref q_state, .ref q_begin, .ref q_drawn, .ref q_order, .int x_g, .ref q_starters, .int x_ran, .int x_ended, .int x_result, .int x_steps, .int x_emits, .ref q_emitted, .ref q_locals, .ref q_stack, .int x_top, .int x_at])), (q_op, .inl (cI, 32, .inl op)), (q_arg, .inl (cI, 32, .inl ar)), (q_handler, .inl (cI, 9, .inl hd)), (q_depth, .inl (cI, 32, .inl d)), (q_over, .inl (cZ, 32, .inl (upd ov i 1)))] H → va_D A [(a, .inr (7, [.int (nI n), .ref q_op, .ref q_arg, .int (nI hn), .ref q_handler, .ref q_depth, .ref q_over, .int x_flatCount, .ref q_flatOp, .ref q_flatArg, .int x_flatHandlers, .ref q_flatHandler, .int x_blockCount, .ref q_leader, .ref q_last, .ref q_height, .ref q_state, .ref q_begin, .ref q_drawn, .ref q_order, .int x_g, .ref q_starters, .int x_ran, .int x_ended, .int x_result, .int x_steps, .int x_emits, .ref q_emitted, .ref q_locals, .ref q_stack, .int x_top, .int x_at])), (q_op, .inl (cI, 32, .inl op)), (q_arg, .inl (cI, 32, .inl ar)), (q_handler, .inl (cI, 9, .inl hd)), (q_depth, .inl (cI, 32, .inl d)), (q_over, .inl (cZ, 32, .inl (upd ov i 1)))] → va_S A s.heap H locs → W p l e (rmK 1 22) s m [.ref a, .int (nI i)].toArray below meth c H locs 0 0 (MQ below (RI D classes (tyz cI cZ) ((f_MO_goOver n hn i op ar hd d ov).1) [(a, .inr (7, [.int (nI n), .ref q_op, .ref q_arg, .int (nI hn), .ref q_handler, .ref q_depth, .ref q_over, .int x_flatCount, .ref q_flatOp, .ref q_flatArg, .int x_flatHandlers, .ref q_flatHandler, .int x_blockCount, .ref q_leader, .ref q_last, .ref q_height, .ref q_state, .ref q_begin, .ref q_drawn, .ref q_order, .int x_g, .ref q_starters, .int x_ran, .int x_ended, .int x_result, .int x_steps, .int x_emits, .ref q_emitted, .ref q_locals, .ref q_stack, .int x_top, .int x_at])), (q_op, .inl (cI, 32, .inl op)), (q_arg, .inl (cI, 32, .inl ar)), (q_handler, .inl (cI, 9, .inl hd)), (q_depth, .inl (cI, 32, .inl ((f_MO_goOver n hn i op ar hd d ov).2.1))), (q_over, .inl (cZ, 32, .inl ((f_MO_goOver n hn i op ar hd d ov).2.2)))] A) [.ref a, .int (nI i)].toArray s 0 0 A) (F0 m 49 ls [.int (g31_MO_goOver i op)]) := by
    intro ls H locs hl hP hD hS
    refine lv_istore (lv' := [(4, .int (g31_MO_goOver i op)), (0, .ref a), (1, .int (nI i)), (2, .int (op i)), (3, .int (((d i) - (f_MO_takes (op i))) + (f_MO_gives (op i))))]) hx hb d_MO_goOver_49 hl (by decide) rfl (fun ls hl => ?_)
    have J106 : g106_MO_goOver n hn i op ar hd d ov = f_MO_goOver n hn i op ar hd d ov → ∀ (ls : Array Slot) (H : Heap) (locs : List Loc), lv_has ls 7 [(0, .ref a), (1, .int (nI i)), (2, .int (op i)), (3, .int (((d i) - (f_MO_takes (op i))) + (f_MO_gives (op i)))), (4, .int (g31_MO_goOver i op))] → va_P D classes [(a, .inr (7, [.int (nI n), .ref q_op, .ref q_arg, .int (nI hn), .ref q_handler, .ref q_depth, .ref q_over, .int x_flatCount, .ref q_flatOp, .ref q_flatArg, .int x_flatHandlers, .ref q_flatHandler, .int x_blockCount, .ref q_leader, .ref q_last, .ref q_height, .ref q_state, .ref q_begin, .ref q_drawn, .ref q_order, .int x_g, .ref q_starters, .int x_ran, .int x_ended, .int x_result, .int x_steps, .int x_emits, .ref q_emitted, .ref q_locals, .ref q_stack, .int x_top, .int x_at])), (q_op, .inl (cI, 32, .inl op)), (q_arg, .inl (cI, 32, .inl ar)), (q_handler, .inl (cI, 9, .inl hd)), (q_depth, .inl (cI, 32, .inl d)), (q_over, .inl (cZ, 32, .inl (upd ov i 1)))] H → va_D A [(a, .inr (7, [.int (nI n), .ref q_op, .ref q_arg, .int (nI hn), .ref q_handler, .ref q_depth, .ref q_over, .int x_flatCount, .ref q_flatOp, .ref q_flatArg, .int x_flatHandlers, .ref q_flatHandler, .int x_blockCount, .ref q_leader, .ref q_last, .ref q_height, .ref q_state, .ref q_begin, .ref q_drawn, .ref q_order, .int x_g, .ref q_starters, .int x_ran, .int x_ended, .int x_result, .int x_steps, .int x_emits, .ref q_emitted, .ref q_locals, .ref q_stack, .int x_top, .int x_at])), (q_op, .inl (cI, 32, .inl op)), (q_arg, .inl (cI, 32, .inl ar)), (q_handler, .inl (cI, 9, .inl hd)), (q_depth, .inl (cI, 32, .inl d)), (q_over, .inl (cZ, 32, .inl (upd ov i 1)))] → va_S A s.heap H locs → W p l e (rmK 1 22) s m [.ref a, .int (nI i)].toArray below meth c H locs 0 0 (MQ below (RI D classes (tyz cI cZ) ((f_MO_goOver n hn i op ar hd d ov).1) [(a, .inr (7, [.int (nI n), .ref q_op, .ref q_arg, .int (nI hn), .ref q_handler, .ref q_depth, .ref q_over, .int x_flatCount, .ref q_flatOp, .ref q_flatArg, .int x_flatHandlers, .ref q_flatHandler, .int x_blockCount, .ref q_leader, .ref q_last, .ref q_height, .ref q_state, .ref q_begin, .ref q_drawn, .ref q_order, .int x_g, .ref q_starters, .int x_ran, .int x_ended, .int x_result, .int x_steps, .int x_emits, .ref q_emitted, .ref q_locals, .ref q_stack, .int x_top, .int x_at])), (q_op, .inl (cI, 32, .inl op)), (q_arg, .inl (cI, 32, .inl ar)), (q_handler, .inl (cI, 9, .inl hd)), (q_depth, .inl (cI, 32, .inl ((f_MO_goOver n hn i op ar hd d ov).2.1))), (q_over, .inl (cZ, 32, .inl ((f_MO_goOver n hn i op ar hd d ov).2.2)))] A) [.ref a, .int (nI i)].toArray s 0 0 A) (F0 m 106 ls []) := by
      intro hF106 ls H locs hl hP hD hS
      refine lv_iconst (v := 1) hx hb d_MO_goOver_106 (by decide) ?_
      refine lv_istore (lv' := [(5, .int 1), (0, .ref a), (1, .int (nI i)), (2, .int (op i)), (3, .int (((d i) - (f_MO_takes (op i))) + (f_MO_gives (op i)))), (4, .int (g31_MO_goOver i op))]) hx hb d_MO_goOver_107 hl (by decide) rfl (fun ls hl => ?_)
      have J124 : ∀ (ls : Array Slot) (H : Heap) (locs : List Loc), lv_has ls 7 [(0, .ref a), (1, .int (nI i)), (2, .int (op i)), (3, .int (((d i) - (f_MO_takes (op i))) + (f_MO_gives (op i)))), (4, .int (g31_MO_goOver i op)), (5, .int ((g109_MO_goOver n i op d).1))] → va_P D classes [(a, .inr (7, [.int (nI n), .ref q_op, .ref q_arg, .int (nI hn), .ref q_handler, .ref q_depth, .ref q_over, .int x_flatCount, .ref q_flatOp, .ref q_flatArg, .int x_flatHandlers, .ref q_flatHandler, .int x_blockCount, .ref q_leader, .ref q_last, .ref q_height, .ref q_state, .ref q_begin, .ref q_drawn, .ref q_order, .int x_g, .ref q_starters, .int x_ran, .int x_ended, .int x_result, .int x_steps, .int x_emits, .ref q_emitted, .ref q_locals, .ref q_stack, .int x_top, .int x_at])), (q_op, .inl (cI, 32, .inl op)), (q_arg, .inl (cI, 32, .inl ar)), (q_handler, .inl (cI, 9, .inl hd)), (q_depth, .inl (cI, 32, .inl ((g109_MO_goOver n i op d).2))), (q_over, .inl (cZ, 32, .inl (upd ov i 1)))] H → va_D A [(a, .inr (7, [.int (nI n), .ref q_op, .ref q_arg, .int (nI hn), .ref q_handler, .ref q_depth, .ref q_over, .int x_flatCount, .ref q_flatOp, .ref q_flatArg, .int x_flatHandlers, .ref q_flatHandler, .int x_blockCount, .ref q_leader, .ref q_last, .ref q_height, .ref q_state, .ref q_begin, .ref q_drawn, .ref q_order, .int x_g, .ref q_starters, .int x_ran, .int x_ended, .int x_result, .int x_steps, .int x_emits, .ref q_emitted, .ref q_locals, .ref q_stack, .int x_top, .int x_at])), (q_op, .inl (cI, 32, .inl op)), (q_arg, .inl (cI, 32, .inl ar)), (q_handler, .inl (cI, 9, .inl hd)), (q_depth, .inl (cI, 32, .inl ((g109_MO_goOver n i op d).2))), (q_over, .inl (cZ, 32, .inl (upd ov i 1)))] → va_S A s.heap H locs → W p l e (rmK 1 22) s m [.ref a, .int (nI i)].toArray below meth c H locs 0 0 (MQ below (RI D classes (tyz cI cZ) ((f_MO_goOver n hn i op ar hd d ov).1) [(a, .inr (7, [.int (nI n), .ref q_op, .ref q_arg, .int (nI hn), .ref q_handler, .ref q_depth, .ref q_over, .int x_flatCount, .ref q_flatOp, .ref q_flatArg, .int x_flatHandlers, .ref q_flatHandler, .int x_blockCount, .ref q_leader, .ref q_last, .ref q_height, .ref q_state, .ref q_begin, .ref q_drawn, .ref q_order, .int x_g, .ref q_starters, .int x_ran, .int x_ended, .int x_result, .int x_steps, .int x_emits, .ref q_emitted, .ref q_locals, .ref q_stack, .int x_top, .int x_at])), (q_op, .inl (cI, 32, .inl op)), (q_arg, .inl (cI, 32, .inl ar)), (q_handler, .inl (cI, 9, .inl hd)), (q_depth, .inl (cI, 32, .inl ((f_MO_goOver n hn i op ar hd d ov).2.1))), (q_over, .inl (cZ, 32, .inl ((f_MO_goOver n hn i op ar hd d ov).2.2)))] A) [.ref a, .int (nI i)].toArray s 0 0 A) (F0 m 124 ls []) := by
        intro ls H locs hl hP hD hS
        have J157 : ∀ (ls : Array Slot) (H : Heap) (locs : List Loc), lv_has ls 7 [(0, .ref a), (1, .int (nI i)), (2, .int (op i)), (3, .int (((d i) - (f_MO_takes (op i))) + (f_MO_gives (op i)))), (4, .int (g31_MO_goOver i op)), (5, .int ((g124_MO_goOver n i op ar d).1))] → va_P D classes [(a, .inr (7, [.int (nI n), .ref q_op, .ref q_arg, .int (nI hn), .ref q_handler, .ref q_depth, .ref q_over, .int x_flatCount, .ref q_flatOp, .ref q_flatArg, .int x_flatHandlers, .ref q_flatHandler, .int x_blockCount, .ref q_leader, .ref q_last, .ref q_height, .ref q_state, .ref q_begin, .ref q_drawn, .ref q_order, .int x_g, .ref q_starters, .int x_ran, .int x_ended, .int x_result, .int x_steps, .int x_emits, .ref q_emitted, .ref q_locals, .ref q_stack, .int x_top, .int x_at])), (q_op, .inl (cI, 32, .inl op)), (q_arg, .inl (cI, 32, .inl ar)), (q_handler, .inl (cI, 9, .inl hd)), (q_depth, .inl (cI, 32, .inl ((g124_MO_goOver n i op ar d).2))), (q_over, .inl (cZ, 32, .inl (upd ov i 1)))] H → va_D A [(a, .inr (7, [.int (nI n), .ref q_op, .ref q_arg, .int (nI hn), .ref q_handler, .ref q_depth, .ref q_over, .int x_flatCount, .ref q_flatOp, .ref q_flatArg, .int x_flatHandlers, .ref q_flatHandler, .int x_blockCount, .ref q_leader, .ref q_last, .ref q_height, .ref q_state, .ref q_begin, .ref q_drawn, .ref q_order, .int x_g, .ref q_starters, .int x_ran, .int x_ended, .int x_result, .int x_steps, .int x_emits, .ref q_emitted, .ref q_locals, .ref q_stack, .int x_top, .int x_at])), (q_op, .inl (cI, 32, .inl op)), (q_arg, .inl (cI, 32, .inl ar)), (q_handler, .inl (cI, 9, .inl hd)), (q_depth, .inl (cI, 32, .inl ((g124_MO_goOver n i op ar d).2))), (q_over, .inl (cZ, 32, .inl (upd ov i 1)))] → va_S A s.heap H locs → W p l e (rmK 1 22) s m [.ref a, .int (nI i)].toArray below meth c H locs 0 0 (MQ below (RI D classes (tyz cI cZ) ((f_MO_goOver n hn i op ar hd d ov).1) [(a, .inr (7, [.int (nI n), .ref q_op, .ref q_arg, .int (nI hn), .ref q_handler, .ref q_depth, .ref q_over, .int x_flatCount, .ref q_flatOp, .ref q_flatArg, .int x_flatHandlers, .ref q_flatHandler, .int x_blockCount, .ref q_leader, .ref q_last, .ref q_height, .ref q_state, .ref q_begin, .ref q_drawn, .ref q_order, .int x_g, .ref q_starters, .int x_ran, .int x_ended, .int x_result, .int x_steps, .int x_emits, .ref q_emitted, .ref q_locals, .ref q_stack, .int x_top, .int x_at])), (q_op, .inl (cI, 32, .inl op)), (q_arg, .inl (cI, 32, .inl ar)), (q_handler, .inl (cI, 9, .inl hd)), (q_depth, .inl (cI, 32, .inl ((f_MO_goOver n hn i op ar hd d ov).2.1))), (q_over, .inl (cZ, 32, .inl ((f_MO_goOver n hn i op ar hd d ov).2.2)))] A) [.ref a, .int (nI i)].toArray s 0 0 A) (F0 m 157 ls []) := by
          intro ls H locs hl hP hD hS
          refine lv_iconst (v := nI 0) hx hb d_MO_goOver_157 (by decide) ?_
          refine lv_istore (lv' := [(6, .int (nI 0)), (0, .ref a), (1, .int (nI i)), (2, .int (op i)), (3, .int (((d i) - (f_MO_takes (op i))) + (f_MO_gives (op i)))), (4, .int (g31_MO_goOver i op)), (5, .int ((g124_MO_goOver n i op ar d).1))]) hx hb d_MO_goOver_158 hl (by decide) rfl (fun ls hl => ?_)
          have LP160 : ∀ (kf : Nat) (h : Nat) (g : Int32) (d1 : Nat → Int32), (h + kf = hn) → ∀ (ls : Array Slot) (H : Heap) (locs : List Loc), lv_has ls 7 [(0, .ref a), (1, .int (nI i)), (2, .int (op i)), (3, .int (((d i) - (f_MO_takes (op i))) + (f_MO_gives (op i)))), (4, .int (g31_MO_goOver i op)), (5, .int g), (6, .int (nI h))] → va_P D classes [(a, .inr (7, [.int (nI n), .ref q_op, .ref q_arg, .int (nI hn), .ref q_handler, .ref q_depth, .ref q_over, .int x_flatCount, .ref q_flatOp, .ref q_flatArg, .int x_flatHandlers, .ref q_flatHandler, .int x_blockCount, .ref q_leader, .ref q_last, .ref q_height, .ref q_state, .ref q_begin, .ref q_drawn, .ref q_order, .int x_g, .ref q_starters, .int x_ran, .int x_ended, .int x_result, .int x_steps, .int x_emits, .ref q_emitted, .ref q_locals, .ref q_stack, .int x_top, .int x_at])), (q_op, .inl (cI, 32, .inl op)), (q_arg, .inl (cI, 32, .inl ar)), (q_handler, .inl (cI, 9, .inl hd)), (q_depth, .inl (cI, 32, .inl d1)), (q_over, .inl (cZ, 32, .inl (upd ov i 1)))] H → va_D A [(a, .inr (7, [.int (nI n), .ref q_op, .ref q_arg, .int (nI hn), .ref q_handler, .ref q_depth, .ref q_over, .int x_flatCount, .ref q_flatOp, .ref q_flatArg, .int x_flatHandlers, .ref q_flatHandler, .int x_blockCount, .ref q_leader, .ref q_last, .ref q_height, .ref q_state, .ref q_begin, .ref q_drawn, .ref q_order, .int x_g, .ref q_starters, .int x_ran, .int x_ended, .int x_result, .int x_steps, .int x_emits, .ref q_emitted, .ref q_locals, .ref q_stack, .int x_top, .int x_at])), (q_op, .inl (cI, 32, .inl op)), (q_arg, .inl (cI, 32, .inl ar)), (q_handler, .inl (cI, 9, .inl hd)), (q_depth, .inl (cI, 32, .inl d1)), (q_over, .inl (cZ, 32, .inl (upd ov i 1)))] → va_S A s.heap H locs → (∀ (ls : Array Slot) (H : Heap) (locs : List Loc), lv_has ls 7 [(0, .ref a), (1, .int (nI i)), (2, .int (op i)), (3, .int (((d i) - (f_MO_takes (op i))) + (f_MO_gives (op i)))), (4, .int (g31_MO_goOver i op)), (5, .int ((lp_MO_goOver n i hd kf h g d1).1))] → va_P D classes [(a, .inr (7, [.int (nI n), .ref q_op, .ref q_arg, .int (nI hn), .ref q_handler, .ref q_depth, .ref q_over, .int x_flatCount, .ref q_flatOp, .ref q_flatArg, .int x_flatHandlers, .ref q_flatHandler, .int x_blockCount, .ref q_leader, .ref q_last, .ref q_height, .ref q_state, .ref q_begin, .ref q_drawn, .ref q_order, .int x_g, .ref q_starters, .int x_ran, .int x_ended, .int x_result, .int x_steps, .int x_emits, .ref q_emitted, .ref q_locals, .ref q_stack, .int x_top, .int x_at])), (q_op, .inl (cI, 32, .inl op)), (q_arg, .inl (cI, 32, .inl ar)), (q_handler, .inl (cI, 9, .inl hd)), (q_depth, .inl (cI, 32, .inl ((lp_MO_goOver n i hd kf h g d1).2))), (q_over, .inl (cZ, 32, .inl (upd ov i 1)))] H → va_D A [(a, .inr (7, [.int (nI n), .ref q_op, .ref q_arg, .int (nI hn), .ref q_handler, .ref q_depth, .ref q_over, .int x_flatCount, .ref q_flatOp, .ref q_flatArg, .int x_flatHandlers, .ref q_flatHandler, .int x_blockCount, .ref q_leader, .ref q_last, .ref q_height, .ref q_state, .ref q_begin, .ref q_drawn, .ref q_order, .int x_g, .ref q_starters, .int x_ran, .int x_ended, .int x_result, .int x_steps, .int x_emits, .ref q_emitted, .ref q_locals, .ref q_stack, .int x_top, .int x_at])), (q_op, .inl (cI, 32, .inl op)), (q_arg, .inl (cI, 32, .inl ar)), (q_handler, .inl (cI, 9, .inl hd)), (q_depth, .inl (cI, 32, .inl ((lp_MO_goOver n i hd kf h g d1).2))), (q_over, .inl (cZ, 32, .inl (upd ov i 1)))] → va_S A s.heap H locs → W p l e (rmK 1 22) s m [.ref a, .int (nI i)].toArray below meth c H locs 0 0 (MQ below (RI D classes (tyz cI cZ) ((f_MO_goOver n hn i op ar hd d ov).1) [(a, .inr (7, [.int (nI n), .ref q_op, .ref q_arg, .int (nI hn), .ref q_handler, .ref q_depth, .ref q_over, .int x_flatCount, .ref q_flatOp, .ref q_flatArg, .int x_flatHandlers, .ref q_flatHandler, .int x_blockCount, .ref q_leader, .ref q_last, .ref q_height, .ref q_state, .ref q_begin, .ref q_drawn, .ref q_order, .int x_g, .ref q_starters, .int x_ran, .int x_ended, .int x_result, .int x_steps, .int x_emits, .ref q_emitted, .ref q_locals, .ref q_stack, .int x_top, .int x_at])), (q_op, .inl (cI, 32, .inl op)), (q_arg, .inl (cI, 32, .inl ar)), (q_handler, .inl (cI, 9, .inl hd)), (q_depth, .inl (cI, 32, .inl ((f_MO_goOver n hn i op ar hd d ov).2.1))), (q_over, .inl (cZ, 32, .inl ((f_MO_goOver n hn i op ar hd d ov).2.2)))] A) [.ref a, .int (nI i)].toArray s 0 0 A) (F0 m 216 ls [])) → W p l e (rmK 1 22) s m [.ref a, .int (nI i)].toArray below meth c H locs 0 0 (MQ below (RI D classes (tyz cI cZ) ((f_MO_goOver n hn i op ar hd d ov).1) [(a, .inr (7, [.int (nI n), .ref q_op, .ref q_arg, .int (nI hn), .ref q_handler, .ref q_depth, .ref q_over, .int x_flatCount, .ref q_flatOp, .ref q_flatArg, .int x_flatHandlers, .ref q_flatHandler, .int x_blockCount, .ref q_leader, .ref q_last, .ref q_height, .ref q_state, .ref q_begin, .ref q_drawn, .ref q_order, .int x_g, .ref q_starters, .int x_ran, .int x_ended, .int x_result, .int x_steps, .int x_emits, .ref q_emitted, .ref q_locals, .ref q_stack, .int x_top, .int x_at])), (q_op, .inl (cI, 32, .inl op)), (q_arg, .inl (cI, 32, .inl ar)), (q_handler, .inl (cI, 9, .inl hd)), (q_depth, .inl (cI, 32, .inl ((f_MO_goOver n hn i op ar hd d ov).2.1))), (q_over, .inl (cZ, 32, .inl ((f_MO_goOver n hn i op ar hd d ov).2.2)))] A) [.ref a, .int (nI i)].toArray s 0 0 A) (F0 m 160 ls []) := by
            intro kf
            induction kf with
            | zero =>
              intro h g d1 hk ls H locs hl hP hD hS kk
              refine lv_iload hx hb d_MO_goOver_160 (lv_at hl 6 rfl) ?_
              refine lv_aload_n hx hb d_MO_goOver_162 rfl (lv_at hl 0 rfl) ?_
              refine k_get (v := .int (nI hn)) S in_MO hK hP 0 rfl rfl 3 (by decide) ql_MO_80 rfl d_MO_goOver_163 ?_
              refine n_icmp_ge (tgt := 216) (x := h) (y := hn) hx hb rfl rfl (by omega) (by omega) d_MO_goOver_166 (by decide) (fun h166_1 => ?_) (fun h166_1 => absurd h166_1 (by omega))
              have e9 : lp_MO_goOver n i hd 0 h g d1 = (g, d1) := by rw [lp_MO_goOver]
              rw [e9] at kk
              exact kk _ _ _ (lv_sub hl [0, 1, 2, 3, 4, 5] rfl) hP hD hS
            | succ kf ih =>
              intro h g d1 hk ls H locs hl hP hD hS kk
              refine lv_iload hx hb d_MO_goOver_160 (lv_at hl 6 rfl) ?_
              refine lv_aload_n hx hb d_MO_goOver_162 rfl (lv_at hl 0 rfl) ?_
              refine k_get (v := .int (nI hn)) S in_MO hK hP 0 rfl rfl 3 (by decide) ql_MO_80 rfl d_MO_goOver_163 ?_
              refine n_icmp_ge (tgt := 216) (x := h) (y := hn) hx hb rfl rfl (by omega) (by omega) d_MO_goOver_166 (by decide) (fun h166_2 => absurd h166_2 (by omega)) (fun h166_2 => ?_)
              refine lv_aload_n hx hb d_MO_goOver_169 rfl (lv_at hl 0 rfl) ?_
              refine lv_iload hx hb d_MO_goOver_170 (lv_at hl 6 rfl) ?_
              refine lv_iload_n hx hb d_MO_goOver_172 rfl (lv_at hl 1 rfl) ?_
              refine k_goi (ws' := [(a, .inr (7, [.int (nI n), .ref q_op, .ref q_arg, .int (nI hn), .ref q_handler, .ref q_depth, .ref q_over, .int x_flatCount, .ref q_flatOp, .ref q_flatArg, .int x_flatHandlers, .ref q_flatHandler, .int x_blockCount, .ref q_leader, .ref q_last, .ref q_height, .ref q_state, .ref q_begin, .ref q_drawn, .ref q_order, .int x_g, .ref q_starters, .int x_ran, .int x_ended, .int x_result, .int x_steps, .int x_emits, .ref q_emitted, .ref q_locals, .ref q_stack, .int x_top, .int x_at])), (q_op, .inl (cI, 32, .inl op)), (q_arg, .inl (cI, 32, .inl ar)), (q_handler, .inl (cI, 9, .inl hd)), (q_depth, .inl (cI, 32, .inl d1)), (q_over, .inl (cZ, 32, .inl (upd ov i 1)))]) (wr := [(q_op, .inl (cI, 32, .inl op)), (q_arg, .inl (cI, 32, .inl ar)), (q_depth, .inl (cI, 32, .inl d1)), (q_over, .inl (cZ, 32, .inl (upd ov i 1)))]) (k_runV (q0 := 0) (As := [.int (nI h), .int (nI i)]) (rest := []) (n := 2) S (c_MO_inRange l D cI cZ a q_op q_arg q_handler q_depth q_over q_flatOp q_flatArg q_flatHandler q_leader q_last q_height q_state q_begin q_drawn q_order q_starters q_emitted q_locals q_stack (nI n) (nI hn) x_flatCount x_flatHandlers x_blockCount x_g x_ran x_ended x_result x_steps x_emits x_top x_at hd h (nI i) (by omega)) E0_b E0_t ql_MO_103 qi_MO_inRange qs_MO_inRange qn_MO qc_MO_inRange (by decide +kernel) rfl ⟨rfl, rfl⟩ ⟨Nat.le_of_ble_eq_true rfl, Nat.le_of_ble_eq_true rfl⟩ hK hP hD [0, 3] rfl (by decide) rfl rfl hl.1 rfl (Nat.le_of_ble_eq_true rfl) d_MO_goOver_173 ⟨Nat.zero_le _, Nat.zero_le _⟩) hP hD hS hA [0, 3] [1, 2, 4, 5] [4, 0, 1, 5, 2, 3] rfl rfl (by decide) (by decide) rfl (by decide) (fun H locs hP hD hS => ?_)
              refine lv_if_eq (tgt := 210) hx hb d_MO_goOver_176 (by decide) (fun h176_3 => ?_) (fun h176_3 => ?_)
              · skip
                refine lv_iinc (k := 6) (v := nI (h + 1)) (lv' := [(6, .int (nI (h + 1))), (0, .ref a), (1, .int (nI i)), (2, .int (op i)), (3, .int (((d i) - (f_MO_takes (op i))) + (f_MO_gives (op i)))), (4, .int (g31_MO_goOver i op)), (5, .int g)]) hx hb d_MO_goOver_210 hl rfl (nc_add rfl (by decide)) (by decide) rfl (fun ls hl => ?_)
                refine lv_goto (tgt := 160) hx hb d_MO_goOver_213 (by decide) ?_
                have e9 : lp_MO_goOver n i hd (kf + 1) h g d1 = lp_MO_goOver n i hd kf (h + 1) g d1 := by rw [lp_MO_goOver, if_pos h176_3]
                rw [e9] at kk
                exact ih (h + 1) g d1 (by omega) _ _ _ (lv_sub hl [1, 2, 3, 4, 5, 6, 0] rfl) hP hD hS kk
              · skip
                refine lv_aload_n hx hb d_MO_goOver_179 rfl (lv_at hl 0 rfl) ?_
                refine lv_aload_n hx hb d_MO_goOver_180 rfl (lv_at hl 0 rfl) ?_
                refine k_get (v := .ref q_handler) S in_MO hK hP 0 rfl rfl 4 (by decide) ql_MO_16 rfl d_MO_goOver_181 ?_
                refine lv_iconst (v := 3) hx hb d_MO_goOver_184 (by decide) ?_
                refine lv_iload hx hb d_MO_goOver_185 (lv_at hl 6 rfl) ?_
                refine lv_imul hx hb d_MO_goOver_187 ?_
                refine k_top (y := nI (3 * h)) (nc_mul (by decide) rfl) ?_
                refine lv_iconst (v := 2) hx hb d_MO_goOver_188 (by decide) ?_
                refine lv_iadd hx hb d_MO_goOver_189 ?_
                refine k_top (y := nI (3 * h + 2)) (nc_add rfl (by decide)) ?_
                refine k_ld (k := 3 * h + 2) hx hb hK hP 3 0 rfl rfl rfl (by omega) (by decide) d_MO_goOver_190 ?_
                refine k_top (y := nI (tn (hd (3 * h + 2)))) (hg h (by omega)).1 ?_
                refine lv_iconst (v := 1) hx hb d_MO_goOver_191 (by decide) ?_
                refine k_goi (ws' := [(a, .inr (7, [.int (nI n), .ref q_op, .ref q_arg, .int (nI hn), .ref q_handler, .ref q_depth, .ref q_over, .int x_flatCount, .ref q_flatOp, .ref q_flatArg, .int x_flatHandlers, .ref q_flatHandler, .int x_blockCount, .ref q_leader, .ref q_last, .ref q_height, .ref q_state, .ref q_begin, .ref q_drawn, .ref q_order, .int x_g, .ref q_starters, .int x_ran, .int x_ended, .int x_result, .int x_steps, .int x_emits, .ref q_emitted, .ref q_locals, .ref q_stack, .int x_top, .int x_at])), (q_op, .inl (cI, 32, .inl op)), (q_arg, .inl (cI, 32, .inl ar)), (q_handler, .inl (cI, 9, .inl hd)), (q_depth, .inl (cI, 32, .inl ((f_MO_reach n (tn (hd (3 * h + 2))) d1 1).2))), (q_over, .inl (cZ, 32, .inl (upd ov i 1)))]) (wr := [(q_op, .inl (cI, 32, .inl op)), (q_arg, .inl (cI, 32, .inl ar)), (q_handler, .inl (cI, 9, .inl hd)), (q_over, .inl (cZ, 32, .inl (upd ov i 1)))]) (k_runV (q0 := 0) (As := [.int (nI (tn (hd (3 * h + 2)))), .int 1]) (rest := []) (n := 2) S (c_MO_reach l D cI cZ a q_op q_arg q_handler q_depth q_over q_flatOp q_flatArg q_flatHandler q_leader q_last q_height q_state q_begin q_drawn q_order q_starters q_emitted q_locals q_stack (nI hn) x_flatCount x_flatHandlers x_blockCount x_g x_ran x_ended x_result x_steps x_emits x_top x_at n (tn (hd (3 * h + 2))) d1 1 (by omega) (by have := (hg h (by omega)).2; omega)) E0_b E0_t ql_MO_100 qi_MO_reach qs_MO_reach qn_MO qc_MO_reach (by decide +kernel) rfl ⟨rfl, rfl⟩ ⟨Nat.le_of_ble_eq_true rfl, Nat.le_of_ble_eq_true rfl⟩ hK hP hD [0, 4] rfl (by decide) rfl rfl hl.1 rfl (Nat.le_of_ble_eq_true rfl) d_MO_goOver_192 ⟨Nat.zero_le _, Nat.zero_le _⟩) hP hD hS hA [0, 4] [1, 2, 3, 5] [4, 0, 1, 2, 5, 3] rfl rfl (by decide) (by decide) rfl (by decide) (fun H locs hP hD hS => ?_)
                refine lv_if_eq (tgt := 207) hx hb d_MO_goOver_195 (by decide) (fun h195_4 => ?_) (fun h195_4 => ?_)
                · skip
                  refine lv_iconst (v := 0) hx hb d_MO_goOver_207 (by decide) ?_
                  refine lv_istore (lv' := [(5, .int 0), (0, .ref a), (1, .int (nI i)), (2, .int (op i)), (3, .int (((d i) - (f_MO_takes (op i))) + (f_MO_gives (op i)))), (4, .int (g31_MO_goOver i op)), (6, .int (nI h))]) hx hb d_MO_goOver_208 hl (by decide) rfl (fun ls hl => ?_)
                  refine lv_iinc (k := 6) (v := nI (h + 1)) (lv' := [(6, .int (nI (h + 1))), (5, .int 0), (0, .ref a), (1, .int (nI i)), (2, .int (op i)), (3, .int (((d i) - (f_MO_takes (op i))) + (f_MO_gives (op i)))), (4, .int (g31_MO_goOver i op))]) hx hb d_MO_goOver_210 hl rfl (nc_add rfl (by decide)) (by decide) rfl (fun ls hl => ?_)
                  refine lv_goto (tgt := 160) hx hb d_MO_goOver_213 (by decide) ?_
                  have e9 : lp_MO_goOver n i hd (kf + 1) h g d1 = lp_MO_goOver n i hd kf (h + 1) 0 ((f_MO_reach n (tn (hd (3 * h + 2))) d1 1).2) := by rw [lp_MO_goOver, if_neg h176_3, if_pos h195_4]
                  rw [e9] at kk
                  exact ih (h + 1) 0 ((f_MO_reach n (tn (hd (3 * h + 2))) d1 1).2) (by omega) _ _ _ (lv_sub hl [2, 3, 4, 5, 6, 1, 0] rfl) hP hD hS kk
                · skip
                  refine lv_iload hx hb d_MO_goOver_198 (lv_at hl 5 rfl) ?_
                  refine lv_if_eq (tgt := 207) hx hb d_MO_goOver_200 (by decide) (fun h200_5 => ?_) (fun h200_5 => ?_)
                  · skip
                    refine lv_iconst (v := 0) hx hb d_MO_goOver_207 (by decide) ?_
                    refine lv_istore (lv' := [(5, .int 0), (0, .ref a), (1, .int (nI i)), (2, .int (op i)), (3, .int (((d i) - (f_MO_takes (op i))) + (f_MO_gives (op i)))), (4, .int (g31_MO_goOver i op)), (6, .int (nI h))]) hx hb d_MO_goOver_208 hl (by decide) rfl (fun ls hl => ?_)
                    refine lv_iinc (k := 6) (v := nI (h + 1)) (lv' := [(6, .int (nI (h + 1))), (5, .int 0), (0, .ref a), (1, .int (nI i)), (2, .int (op i)), (3, .int (((d i) - (f_MO_takes (op i))) + (f_MO_gives (op i)))), (4, .int (g31_MO_goOver i op))]) hx hb d_MO_goOver_210 hl rfl (nc_add rfl (by decide)) (by decide) rfl (fun ls hl => ?_)
                    refine lv_goto (tgt := 160) hx hb d_MO_goOver_213 (by decide) ?_
                    have e9 : lp_MO_goOver n i hd (kf + 1) h g d1 = lp_MO_goOver n i hd kf (h + 1) 0 ((f_MO_reach n (tn (hd (3 * h + 2))) d1 1).2) := by rw [lp_MO_goOver, if_neg h176_3, if_neg h195_4, if_pos h200_5]
                    rw [e9] at kk
                    exact ih (h + 1) 0 ((f_MO_reach n (tn (hd (3 * h + 2))) d1 1).2) (by omega) _ _ _ (lv_sub hl [2, 3, 4, 5, 6, 1, 0] rfl) hP hD hS kk
                  · skip
                    refine lv_iconst (v := 1) hx hb d_MO_goOver_203 (by decide) ?_
                    refine lv_goto (tgt := 208) hx hb d_MO_goOver_204 (by decide) ?_
                    refine lv_istore (lv' := [(5, .int 1), (0, .ref a), (1, .int (nI i)), (2, .int (op i)), (3, .int (((d i) - (f_MO_takes (op i))) + (f_MO_gives (op i)))), (4, .int (g31_MO_goOver i op)), (6, .int (nI h))]) hx hb d_MO_goOver_208 hl (by decide) rfl (fun ls hl => ?_)
                    refine lv_iinc (k := 6) (v := nI (h + 1)) (lv' := [(6, .int (nI (h + 1))), (5, .int 1), (0, .ref a), (1, .int (nI i)), (2, .int (op i)), (3, .int (((d i) - (f_MO_takes (op i))) + (f_MO_gives (op i)))), (4, .int (g31_MO_goOver i op))]) hx hb d_MO_goOver_210 hl rfl (nc_add rfl (by decide)) (by decide) rfl (fun ls hl => ?_)
                    refine lv_goto (tgt := 160) hx hb d_MO_goOver_213 (by decide) ?_
                    have e9 : lp_MO_goOver n i hd (kf + 1) h g d1 = lp_MO_goOver n i hd kf (h + 1) 1 ((f_MO_reach n (tn (hd (3 * h + 2))) d1 1).2) := by rw [lp_MO_goOver, if_neg h176_3, if_neg h195_4, if_neg h200_5]
                    rw [e9] at kk
                    exact ih (h + 1) 1 ((f_MO_reach n (tn (hd (3 * h + 2))) d1 1).2) (by omega) _ _ _ (lv_sub hl [2, 3, 4, 5, 6, 1, 0] rfl) hP hD hS kk
          refine LP160 hn 0 ((g124_MO_goOver n i op ar d).1) ((g124_MO_goOver n i op ar d).2) (by omega) _ _ _ (lv_sub hl [1, 2, 3, 4, 5, 6, 0] rfl) hP hD hS (fun ls H locs hl hP hD hS => ?_)
          refine lv_iload hx hb d_MO_goOver_216 (lv_at hl 5 rfl) ?_
          exact k_zret hx hb hr hlocks hK hP hD hS (z_goOver n i hd hn 0 _ _ (z124_goOver n i op ar d)) (by rw [← hF106, g106_MO_goOver]) (by rw [← hF106, g106_MO_goOver]) d_MO_goOver_218
        refine lv_iload_n hx hb d_MO_goOver_124 rfl (lv_at hl 2 rfl) ?_
        refine k_goi (ws' := [(a, .inr (7, [.int (nI n), .ref q_op, .ref q_arg, .int (nI hn), .ref q_handler, .ref q_depth, .ref q_over, .int x_flatCount, .ref q_flatOp, .ref q_flatArg, .int x_flatHandlers, .ref q_flatHandler, .int x_blockCount, .ref q_leader, .ref q_last, .ref q_height, .ref q_state, .ref q_begin, .ref q_drawn, .ref q_order, .int x_g, .ref q_starters, .int x_ran, .int x_ended, .int x_result, .int x_steps, .int x_emits, .ref q_emitted, .ref q_locals, .ref q_stack, .int x_top, .int x_at])), (q_op, .inl (cI, 32, .inl op)), (q_arg, .inl (cI, 32, .inl ar)), (q_handler, .inl (cI, 9, .inl hd)), (q_depth, .inl (cI, 32, .inl ((g109_MO_goOver n i op d).2))), (q_over, .inl (cZ, 32, .inl (upd ov i 1)))]) (wr := [(a, .inr (7, [.int (nI n), .ref q_op, .ref q_arg, .int (nI hn), .ref q_handler, .ref q_depth, .ref q_over, .int x_flatCount, .ref q_flatOp, .ref q_flatArg, .int x_flatHandlers, .ref q_flatHandler, .int x_blockCount, .ref q_leader, .ref q_last, .ref q_height, .ref q_state, .ref q_begin, .ref q_drawn, .ref q_order, .int x_g, .ref q_starters, .int x_ran, .int x_ended, .int x_result, .int x_steps, .int x_emits, .ref q_emitted, .ref q_locals, .ref q_stack, .int x_top, .int x_at])), (q_op, .inl (cI, 32, .inl op)), (q_arg, .inl (cI, 32, .inl ar)), (q_handler, .inl (cI, 9, .inl hd)), (q_depth, .inl (cI, 32, .inl ((g109_MO_goOver n i op d).2))), (q_over, .inl (cZ, 32, .inl (upd ov i 1)))]) (k_runS (As := [.int (op i)]) (rest := []) (n := 1) S (c_MO_jumps l D cI cZ (op i)) E0_b E0_t ql_MO_73 qt_MO_jumps qn_MO qc_MO_jumps (by decide +kernel) rfl ⟨rfl, rfl⟩ ⟨Nat.le_of_ble_eq_true rfl, Nat.le_of_ble_eq_true rfl⟩ hK hP hD [] rfl (by decide) hl.1 rfl (Nat.le_of_ble_eq_true rfl) d_MO_goOver_125 ⟨Nat.zero_le _, Nat.zero_le _⟩) hP hD hS hA [] [0, 1, 2, 3, 4, 5] [0, 1, 2, 3, 4, 5] rfl rfl (by decide) (by decide) rfl (by decide) (fun H locs hP hD hS => ?_)
        refine lv_if_eq (tgt := 157) hx hb d_MO_goOver_128 (by decide) (fun h128_6 => ?_) (fun h128_6 => ?_)
        · skip
          have e9 : g124_MO_goOver n i op ar d = ((g109_MO_goOver n i op d).1, (g109_MO_goOver n i op d).2) := by rw [g124_MO_goOver, if_pos h128_6]
          rw [e9] at J157
          exact J157 _ _ _ (lv_sub hl [0, 1, 2, 3, 4, 5] rfl) hP hD hS
        · skip
          refine lv_aload_n hx hb d_MO_goOver_131 rfl (lv_at hl 0 rfl) ?_
          refine lv_aload_n hx hb d_MO_goOver_132 rfl (lv_at hl 0 rfl) ?_
          refine k_get (v := .ref q_arg) S in_MO hK hP 0 rfl rfl 2 (by decide) ql_MO_13 rfl d_MO_goOver_133 ?_
          refine lv_iload_n hx hb d_MO_goOver_136 rfl (lv_at hl 1 rfl) ?_
          refine k_ld (k := i) hx hb hK hP 2 0 rfl rfl rfl (by omega) (by decide) d_MO_goOver_137 ?_
          refine k_top (y := nI (tn (ar i))) (hj (by assumption)).1 ?_
          refine lv_iload_n hx hb d_MO_goOver_138 rfl (lv_at hl 3 rfl) ?_
          refine k_goi (ws' := [(a, .inr (7, [.int (nI n), .ref q_op, .ref q_arg, .int (nI hn), .ref q_handler, .ref q_depth, .ref q_over, .int x_flatCount, .ref q_flatOp, .ref q_flatArg, .int x_flatHandlers, .ref q_flatHandler, .int x_blockCount, .ref q_leader, .ref q_last, .ref q_height, .ref q_state, .ref q_begin, .ref q_drawn, .ref q_order, .int x_g, .ref q_starters, .int x_ran, .int x_ended, .int x_result, .int x_steps, .int x_emits, .ref q_emitted, .ref q_locals, .ref q_stack, .int x_top, .int x_at])), (q_op, .inl (cI, 32, .inl op)), (q_arg, .inl (cI, 32, .inl ar)), (q_handler, .inl (cI, 9, .inl hd)), (q_depth, .inl (cI, 32, .inl ((f_MO_reach n (tn (ar i)) ((g109_MO_goOver n i op d).2) (((d i) - (f_MO_takes (op i))) + (f_MO_gives (op i)))).2))), (q_over, .inl (cZ, 32, .inl (upd ov i 1)))]) (wr := [(q_op, .inl (cI, 32, .inl op)), (q_arg, .inl (cI, 32, .inl ar)), (q_handler, .inl (cI, 9, .inl hd)), (q_over, .inl (cZ, 32, .inl (upd ov i 1)))]) (k_runV (q0 := 0) (As := [.int (nI (tn (ar i))), .int (((d i) - (f_MO_takes (op i))) + (f_MO_gives (op i)))]) (rest := []) (n := 2) S (c_MO_reach l D cI cZ a q_op q_arg q_handler q_depth q_over q_flatOp q_flatArg q_flatHandler q_leader q_last q_height q_state q_begin q_drawn q_order q_starters q_emitted q_locals q_stack (nI hn) x_flatCount x_flatHandlers x_blockCount x_g x_ran x_ended x_result x_steps x_emits x_top x_at n (tn (ar i)) ((g109_MO_goOver n i op d).2) (((d i) - (f_MO_takes (op i))) + (f_MO_gives (op i))) (by omega) (by have := (hj (by assumption)).2; omega)) E0_b E0_t ql_MO_100 qi_MO_reach qs_MO_reach qn_MO qc_MO_reach (by decide +kernel) rfl ⟨rfl, rfl⟩ ⟨Nat.le_of_ble_eq_true rfl, Nat.le_of_ble_eq_true rfl⟩ hK hP hD [0, 4] rfl (by decide) rfl rfl hl.1 rfl (Nat.le_of_ble_eq_true rfl) d_MO_goOver_139 ⟨Nat.zero_le _, Nat.zero_le _⟩) hP hD hS hA [0, 4] [1, 2, 3, 5] [4, 0, 1, 2, 5, 3] rfl rfl (by decide) (by decide) rfl (by decide) (fun H locs hP hD hS => ?_)
          refine lv_if_eq (tgt := 154) hx hb d_MO_goOver_142 (by decide) (fun h142_7 => ?_) (fun h142_7 => ?_)
          · skip
            refine lv_iconst (v := 0) hx hb d_MO_goOver_154 (by decide) ?_
            refine lv_istore (lv' := [(5, .int 0), (0, .ref a), (1, .int (nI i)), (2, .int (op i)), (3, .int (((d i) - (f_MO_takes (op i))) + (f_MO_gives (op i)))), (4, .int (g31_MO_goOver i op))]) hx hb d_MO_goOver_155 hl (by decide) rfl (fun ls hl => ?_)
            have e9 : g124_MO_goOver n i op ar d = (0, (f_MO_reach n (tn (ar i)) ((g109_MO_goOver n i op d).2) (((d i) - (f_MO_takes (op i))) + (f_MO_gives (op i)))).2) := by rw [g124_MO_goOver, if_neg h128_6, if_pos h142_7]
            rw [e9] at J157
            exact J157 _ _ _ (lv_sub hl [1, 2, 3, 4, 5, 0] rfl) hP hD hS
          · skip
            refine lv_iload hx hb d_MO_goOver_145 (lv_at hl 5 rfl) ?_
            refine lv_if_eq (tgt := 154) hx hb d_MO_goOver_147 (by decide) (fun h147_8 => ?_) (fun h147_8 => ?_)
            · skip
              refine lv_iconst (v := 0) hx hb d_MO_goOver_154 (by decide) ?_
              refine lv_istore (lv' := [(5, .int 0), (0, .ref a), (1, .int (nI i)), (2, .int (op i)), (3, .int (((d i) - (f_MO_takes (op i))) + (f_MO_gives (op i)))), (4, .int (g31_MO_goOver i op))]) hx hb d_MO_goOver_155 hl (by decide) rfl (fun ls hl => ?_)
              have e9 : g124_MO_goOver n i op ar d = (0, (f_MO_reach n (tn (ar i)) ((g109_MO_goOver n i op d).2) (((d i) - (f_MO_takes (op i))) + (f_MO_gives (op i)))).2) := by rw [g124_MO_goOver, if_neg h128_6, if_neg h142_7, if_pos h147_8]
              rw [e9] at J157
              exact J157 _ _ _ (lv_sub hl [1, 2, 3, 4, 5, 0] rfl) hP hD hS
            · skip
              refine lv_iconst (v := 1) hx hb d_MO_goOver_150 (by decide) ?_
              refine lv_goto (tgt := 155) hx hb d_MO_goOver_151 (by decide) ?_
              refine lv_istore (lv' := [(5, .int 1), (0, .ref a), (1, .int (nI i)), (2, .int (op i)), (3, .int (((d i) - (f_MO_takes (op i))) + (f_MO_gives (op i)))), (4, .int (g31_MO_goOver i op))]) hx hb d_MO_goOver_155 hl (by decide) rfl (fun ls hl => ?_)
              have e9 : g124_MO_goOver n i op ar d = (1, (f_MO_reach n (tn (ar i)) ((g109_MO_goOver n i op d).2) (((d i) - (f_MO_takes (op i))) + (f_MO_gives (op i)))).2) := by rw [g124_MO_goOver, if_neg h128_6, if_neg h142_7, if_neg h147_8]
              rw [e9] at J157
              exact J157 _ _ _ (lv_sub hl [1, 2, 3, 4, 5, 0] rfl) hP hD hS
      refine lv_iload hx hb d_MO_goOver_109 (lv_at hl 5 rfl) ?_
      refine lv_if_eq (tgt := 124) hx hb d_MO_goOver_111 (by decide) (fun h111_9 => ?_) (fun h111_9 => ?_)
      · skip
        have e9 : g109_MO_goOver n i op d = (1, d) := by rw [g109_MO_goOver, if_pos h111_9]
        rw [e9] at J124
        exact J124 _ _ _ (lv_sub hl [1, 2, 3, 4, 5, 0] rfl) hP hD hS
      · skip
        refine lv_aload_n hx hb d_MO_goOver_114 rfl (lv_at hl 1 rfl) ?_
        refine lv_iload_n hx hb d_MO_goOver_115 rfl (lv_at hl 2 rfl) ?_
        refine lv_iconst (v := 1) hx hb d_MO_goOver_116 (by decide) ?_
        refine lv_iadd hx hb d_MO_goOver_117 ?_
        refine k_top (y := nI (i + 1)) (nc_add rfl (by decide)) ?_
        refine lv_iload_n hx hb d_MO_goOver_118 rfl (lv_at hl 4 rfl) ?_
        refine k_goi (ws' := [(a, .inr (7, [.int (nI n), .ref q_op, .ref q_arg, .int (nI hn), .ref q_handler, .ref q_depth, .ref q_over, .int x_flatCount, .ref q_flatOp, .ref q_flatArg, .int x_flatHandlers, .ref q_flatHandler, .int x_blockCount, .ref q_leader, .ref q_last, .ref q_height, .ref q_state, .ref q_begin, .ref q_drawn, .ref q_order, .int x_g, .ref q_starters, .int x_ran, .int x_ended, .int x_result, .int x_steps, .int x_emits, .ref q_emitted, .ref q_locals, .ref q_stack, .int x_top, .int x_at])), (q_op, .inl (cI, 32, .inl op)), (q_arg, .inl (cI, 32, .inl ar)), (q_handler, .inl (cI, 9, .inl hd)), (q_depth, .inl (cI, 32, .inl ((f_MO_reach n (i + 1) d (((d i) - (f_MO_takes (op i))) + (f_MO_gives (op i)))).2))), (q_over, .inl (cZ, 32, .inl (upd ov i 1)))]) (wr := [(q_op, .inl (cI, 32, .inl op)), (q_arg, .inl (cI, 32, .inl ar)), (q_handler, .inl (cI, 9, .inl hd)), (q_over, .inl (cZ, 32, .inl (upd ov i 1)))]) (k_runV (q0 := 0) (As := [.int (nI (i + 1)), .int (((d i) - (f_MO_takes (op i))) + (f_MO_gives (op i)))]) (rest := []) (n := 2) S (c_MO_reach l D cI cZ a q_op q_arg q_handler q_depth q_over q_flatOp q_flatArg q_flatHandler q_leader q_last q_height q_state q_begin q_drawn q_order q_starters q_emitted q_locals q_stack (nI hn) x_flatCount x_flatHandlers x_blockCount x_g x_ran x_ended x_result x_steps x_emits x_top x_at n (i + 1) d (((d i) - (f_MO_takes (op i))) + (f_MO_gives (op i))) (by omega) (by omega)) E0_b E0_t ql_MO_100 qi_MO_reach qs_MO_reach qn_MO qc_MO_reach (by decide +kernel) rfl ⟨rfl, rfl⟩ ⟨Nat.le_of_ble_eq_true rfl, Nat.le_of_ble_eq_true rfl⟩ hK hP hD [0, 4] rfl (by decide) rfl rfl hl.1 rfl (Nat.le_of_ble_eq_true rfl) d_MO_goOver_119 ⟨Nat.zero_le _, Nat.zero_le _⟩) hP hD hS hA [0, 4] [1, 2, 3, 5] [4, 0, 1, 2, 5, 3] rfl rfl (by decide) (by decide) rfl (by decide) (fun H locs hP hD hS => ?_)
        refine lv_istore (lv' := [(5, .int ((f_MO_reach n (i + 1) d (((d i) - (f_MO_takes (op i))) + (f_MO_gives (op i)))).1)), (0, .ref a), (1, .int (nI i)), (2, .int (op i)), (3, .int (((d i) - (f_MO_takes (op i))) + (f_MO_gives (op i)))), (4, .int (g31_MO_goOver i op))]) hx hb d_MO_goOver_122 hl (by decide) rfl (fun ls hl => ?_)
        have e9 : g109_MO_goOver n i op d = ((f_MO_reach n (i + 1) d (((d i) - (f_MO_takes (op i))) + (f_MO_gives (op i)))).1, (f_MO_reach n (i + 1) d (((d i) - (f_MO_takes (op i))) + (f_MO_gives (op i)))).2) := by rw [g109_MO_goOver, if_neg h111_9]
        rw [e9] at J124
        exact J124 _ _ _ (lv_sub hl [1, 2, 3, 4, 5, 0] rfl) hP hD hS
    refine lv_aload_n hx hb d_MO_goOver_51 rfl (lv_at hl 1 rfl) ?_
    refine k_get (v := .ref q_depth) S in_MO hK hP 0 rfl rfl 5 (by decide) ql_MO_19 rfl d_MO_goOver_52 ?_
    refine lv_iload_n hx hb d_MO_goOver_55 rfl (lv_at hl 2 rfl) ?_
    refine k_ld (k := i) hx hb hK hP 4 0 rfl rfl rfl (by omega) (by decide) d_MO_goOver_56 ?_
    refine lv_iload_n hx hb d_MO_goOver_57 rfl (lv_at hl 3 rfl) ?_
    refine k_goi (ws' := [(a, .inr (7, [.int (nI n), .ref q_op, .ref q_arg, .int (nI hn), .ref q_handler, .ref q_depth, .ref q_over, .int x_flatCount, .ref q_flatOp, .ref q_flatArg, .int x_flatHandlers, .ref q_flatHandler, .int x_blockCount, .ref q_leader, .ref q_last, .ref q_height, .ref q_state, .ref q_begin, .ref q_drawn, .ref q_order, .int x_g, .ref q_starters, .int x_ran, .int x_ended, .int x_result, .int x_steps, .int x_emits, .ref q_emitted, .ref q_locals, .ref q_stack, .int x_top, .int x_at])), (q_op, .inl (cI, 32, .inl op)), (q_arg, .inl (cI, 32, .inl ar)), (q_handler, .inl (cI, 9, .inl hd)), (q_depth, .inl (cI, 32, .inl d)), (q_over, .inl (cZ, 32, .inl (upd ov i 1)))]) (wr := [(a, .inr (7, [.int (nI n), .ref q_op, .ref q_arg, .int (nI hn), .ref q_handler, .ref q_depth, .ref q_over, .int x_flatCount, .ref q_flatOp, .ref q_flatArg, .int x_flatHandlers, .ref q_flatHandler, .int x_blockCount, .ref q_leader, .ref q_last, .ref q_height, .ref q_state, .ref q_begin, .ref q_drawn, .ref q_order, .int x_g, .ref q_starters, .int x_ran, .int x_ended, .int x_result, .int x_steps, .int x_emits, .ref q_emitted, .ref q_locals, .ref q_stack, .int x_top, .int x_at])), (q_op, .inl (cI, 32, .inl op)), (q_arg, .inl (cI, 32, .inl ar)), (q_handler, .inl (cI, 9, .inl hd)), (q_depth, .inl (cI, 32, .inl d)), (q_over, .inl (cZ, 32, .inl (upd ov i 1)))]) (k_runS (As := [.int (op i)]) (rest := [.int (d i)]) (n := 1) S (c_MO_takes l D cI cZ (op i)) E0_b E0_t ql_MO_90 qt_MO_takes qn_MO qc_MO_takes (by decide +kernel) rfl ⟨rfl, rfl⟩ ⟨Nat.le_of_ble_eq_true rfl, Nat.le_of_ble_eq_true rfl⟩ hK hP hD [] rfl (by decide) hl.1 rfl (Nat.le_of_ble_eq_true rfl) d_MO_goOver_58 ⟨Nat.zero_le _, Nat.zero_le _⟩) hP hD hS hA [] [0, 1, 2, 3, 4, 5] [0, 1, 2, 3, 4, 5] rfl rfl (by decide) (by decide) rfl (by decide) (fun H locs hP hD hS => ?_)
    refine lv_icmp_lt (tgt := 104) hx hb d_MO_goOver_61 (by decide) (fun h61_10 => ?_) (fun h61_10 => ?_)
    · skip
      refine lv_iconst (v := 0) hx hb d_MO_goOver_104 (by decide) ?_
      exact k_zret hx hb hr hlocks hK hP hD hS (by decide) (by rw [f_MO_goOver, if_pos h61_10]) (by rw [f_MO_goOver, if_pos h61_10]) d_MO_goOver_105
    · skip
      refine lv_iload_n hx hb d_MO_goOver_64 rfl (lv_at hl 4 rfl) ?_
      refine lv_iconst (v := 4) hx hb d_MO_goOver_65 (by decide) ?_
      refine lv_icmp_gt (tgt := 104) hx hb d_MO_goOver_66 (by decide) (fun h66_11 => ?_) (fun h66_11 => ?_)
      · skip
        refine lv_iconst (v := 0) hx hb d_MO_goOver_104 (by decide) ?_
        exact k_zret hx hb hr hlocks hK hP hD hS (by decide) (by rw [f_MO_goOver, if_neg h61_10, if_pos h66_11]) (by rw [f_MO_goOver, if_neg h61_10, if_pos h66_11]) d_MO_goOver_105
      · skip
        refine lv_iload hx hb d_MO_goOver_69 (lv_at hl 0 rfl) ?_
        refine lv_if_eq (tgt := 84) hx hb d_MO_goOver_71 (by decide) (fun h71_12 => ?_) (fun h71_12 => ?_)
        · skip
          refine lv_iload_n hx hb d_MO_goOver_84 rfl (lv_at hl 3 rfl) ?_
          refine k_goi (ws' := [(a, .inr (7, [.int (nI n), .ref q_op, .ref q_arg, .int (nI hn), .ref q_handler, .ref q_depth, .ref q_over, .int x_flatCount, .ref q_flatOp, .ref q_flatArg, .int x_flatHandlers, .ref q_flatHandler, .int x_blockCount, .ref q_leader, .ref q_last, .ref q_height, .ref q_state, .ref q_begin, .ref q_drawn, .ref q_order, .int x_g, .ref q_starters, .int x_ran, .int x_ended, .int x_result, .int x_steps, .int x_emits, .ref q_emitted, .ref q_locals, .ref q_stack, .int x_top, .int x_at])), (q_op, .inl (cI, 32, .inl op)), (q_arg, .inl (cI, 32, .inl ar)), (q_handler, .inl (cI, 9, .inl hd)), (q_depth, .inl (cI, 32, .inl d)), (q_over, .inl (cZ, 32, .inl (upd ov i 1)))]) (wr := [(a, .inr (7, [.int (nI n), .ref q_op, .ref q_arg, .int (nI hn), .ref q_handler, .ref q_depth, .ref q_over, .int x_flatCount, .ref q_flatOp, .ref q_flatArg, .int x_flatHandlers, .ref q_flatHandler, .int x_blockCount, .ref q_leader, .ref q_last, .ref q_height, .ref q_state, .ref q_begin, .ref q_drawn, .ref q_order, .int x_g, .ref q_starters, .int x_ran, .int x_ended, .int x_result, .int x_steps, .int x_emits, .ref q_emitted, .ref q_locals, .ref q_stack, .int x_top, .int x_at])), (q_op, .inl (cI, 32, .inl op)), (q_arg, .inl (cI, 32, .inl ar)), (q_handler, .inl (cI, 9, .inl hd)), (q_depth, .inl (cI, 32, .inl d)), (q_over, .inl (cZ, 32, .inl (upd ov i 1)))]) (k_runS (As := [.int (op i)]) (rest := []) (n := 1) S (c_MO_jumps l D cI cZ (op i)) E0_b E0_t ql_MO_73 qt_MO_jumps qn_MO qc_MO_jumps (by decide +kernel) rfl ⟨rfl, rfl⟩ ⟨Nat.le_of_ble_eq_true rfl, Nat.le_of_ble_eq_true rfl⟩ hK hP hD [] rfl (by decide) hl.1 rfl (Nat.le_of_ble_eq_true rfl) d_MO_goOver_85 ⟨Nat.zero_le _, Nat.zero_le _⟩) hP hD hS hA [] [0, 1, 2, 3, 4, 5] [0, 1, 2, 3, 4, 5] rfl rfl (by decide) (by decide) rfl (by decide) (fun H locs hP hD hS => ?_)
          refine lv_if_eq (tgt := 106) hx hb d_MO_goOver_88 (by decide) (fun h88_13 => ?_) (fun h88_13 => ?_)
          · skip
            exact J106 (by rw [f_MO_goOver, if_neg h61_10, if_neg h66_11, if_pos h71_12, if_pos h88_13]) _ _ _ (lv_sub hl [1, 2, 3, 4, 0] rfl) hP hD hS
          · skip
            refine lv_aload_n hx hb d_MO_goOver_91 rfl (lv_at hl 1 rfl) ?_
            refine k_get (v := .ref q_arg) S in_MO hK hP 0 rfl rfl 2 (by decide) ql_MO_13 rfl d_MO_goOver_92 ?_
            refine lv_iload_n hx hb d_MO_goOver_95 rfl (lv_at hl 2 rfl) ?_
            refine k_ld (k := i) hx hb hK hP 2 0 rfl rfl rfl (by omega) (by decide) d_MO_goOver_96 ?_
            refine k_top (y := nI (tn (ar i))) (hj (by assumption)).1 ?_
            refine lv_aload_n hx hb d_MO_goOver_97 rfl (lv_at hl 1 rfl) ?_
            refine k_get (v := .int (nI n)) S in_MO hK hP 0 rfl rfl 0 (by decide) ql_MO_77 rfl d_MO_goOver_98 ?_
            refine n_icmp_lt (tgt := 106) (x := tn (ar i)) (y := n) hx hb rfl rfl (by have := (hj (by assumption)).2; omega) (by omega) d_MO_goOver_101 (by decide) (fun h101_14 => ?_) (fun h101_14 => ?_)
            · skip
              exact J106 (by rw [f_MO_goOver, if_neg h61_10, if_neg h66_11, if_pos h71_12, if_neg h88_13, if_pos h101_14]) _ _ _ (lv_sub hl [1, 2, 3, 4, 0] rfl) hP hD hS
            · skip
              refine lv_iconst (v := 0) hx hb d_MO_goOver_104 (by decide) ?_
              exact k_zret hx hb hr hlocks hK hP hD hS (by decide) (by rw [f_MO_goOver, if_neg h61_10, if_neg h66_11, if_pos h71_12, if_neg h88_13, if_neg (show ¬ (tn (ar i) < n) by omega)]) (by rw [f_MO_goOver, if_neg h61_10, if_neg h66_11, if_pos h71_12, if_neg h88_13, if_neg (show ¬ (tn (ar i) < n) by omega)]) d_MO_goOver_105
        · skip
          refine lv_iload_n hx hb d_MO_goOver_74 rfl (lv_at hl 2 rfl) ?_
          refine lv_iconst (v := 1) hx hb d_MO_goOver_75 (by decide) ?_
          refine lv_iadd hx hb d_MO_goOver_76 ?_
          refine k_top (y := nI (i + 1)) (nc_add rfl (by decide)) ?_
          refine lv_aload_n hx hb d_MO_goOver_77 rfl (lv_at hl 1 rfl) ?_
          refine k_get (v := .int (nI n)) S in_MO hK hP 0 rfl rfl 0 (by decide) ql_MO_77 rfl d_MO_goOver_78 ?_
          refine n_icmp_ge (tgt := 104) (x := i + 1) (y := n) hx hb rfl rfl (by omega) (by omega) d_MO_goOver_81 (by decide) (fun h81_15 => ?_) (fun h81_15 => ?_)
          · skip
            refine lv_iconst (v := 0) hx hb d_MO_goOver_104 (by decide) ?_
            exact k_zret hx hb hr hlocks hK hP hD hS (by decide) (by rw [f_MO_goOver, if_neg h61_10, if_neg h66_11, if_neg h71_12, if_pos h81_15]) (by rw [f_MO_goOver, if_neg h61_10, if_neg h66_11, if_neg h71_12, if_pos h81_15]) d_MO_goOver_105
          · skip
            refine lv_iload_n hx hb d_MO_goOver_84 rfl (lv_at hl 3 rfl) ?_
            refine k_goi (ws' := [(a, .inr (7, [.int (nI n), .ref q_op, .ref q_arg, .int (nI hn), .ref q_handler, .ref q_depth, .ref q_over, .int x_flatCount, .ref q_flatOp, .ref q_flatArg, .int x_flatHandlers, .ref q_flatHandler, .int x_blockCount, .ref q_leader, .ref q_last, .ref q_height, .ref q_state, .ref q_begin, .ref q_drawn, .ref q_order, .int x_g, .ref q_starters, .int x_ran, .int x_ended, .int x_result, .int x_steps, .int x_emits, .ref q_emitted, .ref q_locals, .ref q_stack, .int x_top, .int x_at])), (q_op, .inl (cI, 32, .inl op)), (q_arg, .inl (cI, 32, .inl ar)), (q_handler, .inl (cI, 9, .inl hd)), (q_depth, .inl (cI, 32, .inl d)), (q_over, .inl (cZ, 32, .inl (upd ov i 1)))]) (wr := [(a, .inr (7, [.int (nI n), .ref q_op, .ref q_arg, .int (nI hn), .ref q_handler, .ref q_depth, .ref q_over, .int x_flatCount, .ref q_flatOp, .ref q_flatArg, .int x_flatHandlers, .ref q_flatHandler, .int x_blockCount, .ref q_leader, .ref q_last, .ref q_height, .ref q_state, .ref q_begin, .ref q_drawn, .ref q_order, .int x_g, .ref q_starters, .int x_ran, .int x_ended, .int x_result, .int x_steps, .int x_emits, .ref q_emitted, .ref q_locals, .ref q_stack, .int x_top, .int x_at])), (q_op, .inl (cI, 32, .inl op)), (q_arg, .inl (cI, 32, .inl ar)), (q_handler, .inl (cI, 9, .inl hd)), (q_depth, .inl (cI, 32, .inl d)), (q_over, .inl (cZ, 32, .inl (upd ov i 1)))]) (k_runS (As := [.int (op i)]) (rest := []) (n := 1) S (c_MO_jumps l D cI cZ (op i)) E0_b E0_t ql_MO_73 qt_MO_jumps qn_MO qc_MO_jumps (by decide +kernel) rfl ⟨rfl, rfl⟩ ⟨Nat.le_of_ble_eq_true rfl, Nat.le_of_ble_eq_true rfl⟩ hK hP hD [] rfl (by decide) hl.1 rfl (Nat.le_of_ble_eq_true rfl) d_MO_goOver_85 ⟨Nat.zero_le _, Nat.zero_le _⟩) hP hD hS hA [] [0, 1, 2, 3, 4, 5] [0, 1, 2, 3, 4, 5] rfl rfl (by decide) (by decide) rfl (by decide) (fun H locs hP hD hS => ?_)
            refine lv_if_eq (tgt := 106) hx hb d_MO_goOver_88 (by decide) (fun h88_16 => ?_) (fun h88_16 => ?_)
            · skip
              exact J106 (by rw [f_MO_goOver, if_neg h61_10, if_neg h66_11, if_neg h71_12, if_neg (show ¬ (n ≤ i + 1) by omega), if_pos h88_16]) _ _ _ (lv_sub hl [1, 2, 3, 4, 0] rfl) hP hD hS
            · skip
              refine lv_aload_n hx hb d_MO_goOver_91 rfl (lv_at hl 1 rfl) ?_
              refine k_get (v := .ref q_arg) S in_MO hK hP 0 rfl rfl 2 (by decide) ql_MO_13 rfl d_MO_goOver_92 ?_
              refine lv_iload_n hx hb d_MO_goOver_95 rfl (lv_at hl 2 rfl) ?_
              refine k_ld (k := i) hx hb hK hP 2 0 rfl rfl rfl (by omega) (by decide) d_MO_goOver_96 ?_
              refine k_top (y := nI (tn (ar i))) (hj (by assumption)).1 ?_
              refine lv_aload_n hx hb d_MO_goOver_97 rfl (lv_at hl 1 rfl) ?_
              refine k_get (v := .int (nI n)) S in_MO hK hP 0 rfl rfl 0 (by decide) ql_MO_77 rfl d_MO_goOver_98 ?_
              refine n_icmp_lt (tgt := 106) (x := tn (ar i)) (y := n) hx hb rfl rfl (by have := (hj (by assumption)).2; omega) (by omega) d_MO_goOver_101 (by decide) (fun h101_17 => ?_) (fun h101_17 => ?_)
              · skip
                exact J106 (by rw [f_MO_goOver, if_neg h61_10, if_neg h66_11, if_neg h71_12, if_neg (show ¬ (n ≤ i + 1) by omega), if_neg h88_16, if_pos h101_17]) _ _ _ (lv_sub hl [1, 2, 3, 4, 0] rfl) hP hD hS
              · skip
                refine lv_iconst (v := 0) hx hb d_MO_goOver_104 (by decide) ?_
                exact k_zret hx hb hr hlocks hK hP hD hS (by decide) (by rw [f_MO_goOver, if_neg h61_10, if_neg h66_11, if_neg h71_12, if_neg (show ¬ (n ≤ i + 1) by omega), if_neg h88_16, if_neg (show ¬ (tn (ar i) < n) by omega)]) (by rw [f_MO_goOver, if_neg h61_10, if_neg h66_11, if_neg h71_12, if_neg (show ¬ (n ≤ i + 1) by omega), if_neg h88_16, if_neg (show ¬ (tn (ar i) < n) by omega)]) d_MO_goOver_105
  refine lv_iload_n hx hb d_MO_goOver_31 rfl (lv_at hl 1 rfl) ?_
  refine lv_bipush (v := 13) hx hb d_MO_goOver_32 (by decide) ?_
  refine lv_icmp_eq (tgt := 48) hx hb d_MO_goOver_34 (by decide) (fun h34_18 => ?_) (fun h34_18 => ?_)
  · skip
    refine lv_iconst (v := 0) hx hb d_MO_goOver_48 (by decide) ?_
    have e9 : g31_MO_goOver i op = 0 := by rw [g31_MO_goOver, if_pos h34_18]
    rw [e9] at J49
    exact J49 _ _ _ (lv_sub hl [2, 3, 1, 0] rfl) hP hD hS
  · skip
    refine lv_iload_n hx hb d_MO_goOver_37 rfl (lv_at hl 1 rfl) ?_
    refine k_goi (ws' := [(a, .inr (7, [.int (nI n), .ref q_op, .ref q_arg, .int (nI hn), .ref q_handler, .ref q_depth, .ref q_over, .int x_flatCount, .ref q_flatOp, .ref q_flatArg, .int x_flatHandlers, .ref q_flatHandler, .int x_blockCount, .ref q_leader, .ref q_last, .ref q_height, .ref q_state, .ref q_begin, .ref q_drawn, .ref q_order, .int x_g, .ref q_starters, .int x_ran, .int x_ended, .int x_result, .int x_steps, .int x_emits, .ref q_emitted, .ref q_locals, .ref q_stack, .int x_top, .int x_at])), (q_op, .inl (cI, 32, .inl op)), (q_arg, .inl (cI, 32, .inl ar)), (q_handler, .inl (cI, 9, .inl hd)), (q_depth, .inl (cI, 32, .inl d)), (q_over, .inl (cZ, 32, .inl (upd ov i 1)))]) (wr := [(a, .inr (7, [.int (nI n), .ref q_op, .ref q_arg, .int (nI hn), .ref q_handler, .ref q_depth, .ref q_over, .int x_flatCount, .ref q_flatOp, .ref q_flatArg, .int x_flatHandlers, .ref q_flatHandler, .int x_blockCount, .ref q_leader, .ref q_last, .ref q_height, .ref q_state, .ref q_begin, .ref q_drawn, .ref q_order, .int x_g, .ref q_starters, .int x_ran, .int x_ended, .int x_result, .int x_steps, .int x_emits, .ref q_emitted, .ref q_locals, .ref q_stack, .int x_top, .int x_at])), (q_op, .inl (cI, 32, .inl op)), (q_arg, .inl (cI, 32, .inl ar)), (q_handler, .inl (cI, 9, .inl hd)), (q_depth, .inl (cI, 32, .inl d)), (q_over, .inl (cZ, 32, .inl (upd ov i 1)))]) (k_runS (As := [.int (op i)]) (rest := []) (n := 1) S (c_MO_ends l D cI cZ (op i)) E0_b E0_t ql_MO_97 qt_MO_ends qn_MO qc_MO_ends (by decide +kernel) rfl ⟨rfl, rfl⟩ ⟨Nat.le_of_ble_eq_true rfl, Nat.le_of_ble_eq_true rfl⟩ hK hP hD [] rfl (by decide) hl.1 rfl (Nat.le_of_ble_eq_true rfl) d_MO_goOver_38 ⟨Nat.zero_le _, Nat.zero_le _⟩) hP hD hS hA [] [0, 1, 2, 3, 4, 5] [0, 1, 2, 3, 4, 5] rfl rfl (by decide) (by decide) rfl (by decide) (fun H locs hP hD hS => ?_)
    refine lv_if_ne (tgt := 48) hx hb d_MO_goOver_41 (by decide) (fun h41_19 => ?_) (fun h41_19 => ?_)
    · skip
      refine lv_iconst (v := 0) hx hb d_MO_goOver_48 (by decide) ?_
      have e9 : g31_MO_goOver i op = 0 := by rw [g31_MO_goOver, if_neg h34_18, if_neg h41_19]
      rw [e9] at J49
      exact J49 _ _ _ (lv_sub hl [2, 3, 1, 0] rfl) hP hD hS
    · skip
      refine lv_iconst (v := 1) hx hb d_MO_goOver_44 (by decide) ?_
      refine lv_goto (tgt := 49) hx hb d_MO_goOver_45 (by decide) ?_
      have e9 : g31_MO_goOver i op = 1 := by rw [g31_MO_goOver, if_neg h34_18, if_pos h41_19]
      rw [e9] at J49
      exact J49 _ _ _ (lv_sub hl [2, 3, 1, 0] rfl) hP hD hS

theorem go_ov (n hn i : Nat) (op ar hd d ov : Nat → Int32) : (f_MO_goOver n hn i op ar hd d ov).2.2 = upd ov i 1 := by
  unfold f_MO_goOver g106_MO_goOver
  repeat' split
  all_goals rfl
def rem (n : Nat) (o : Nat → Int32) : Nat := match n with
  | 0 => 0
  | n + 1 => rem n o + (if o n = 0 then 1 else 0)
theorem rem_pos {o : Nat → Int32} {i : Nat} (h : o i = 0) : ∀ n, i < n → 0 < rem n o := by
  intro n
  induction n with
  | zero => intro hi; omega
  | succ n ih =>
    intro hi
    rw [rem]
    by_cases hin : i = n
    · subst hin; rw [if_pos h]; omega
    · have := ih (by omega); omega
theorem rem_same {o : Nat → Int32} {i : Nat} {v : Int32} : ∀ n, n ≤ i → rem n (upd o i v) = rem n o := by
  intro n
  induction n with
  | zero => intro _; rfl
  | succ n ih =>
    intro hi
    rw [rem, rem, ih (by omega), pk_un (by omega)]
theorem rem_upd {o : Nat → Int32} {i : Nat} (h : o i = 0) : ∀ n, i < n → rem n (upd o i 1) + 1 = rem n o := by
  intro n
  induction n with
  | zero => intro hi; omega
  | succ n ih =>
    intro hi
    rw [rem, rem]
    by_cases hin : i = n
    · subst hin
      rw [rem_same i (Nat.le_refl _), pk_us, if_neg (by decide), if_pos h]
    · have := ih (by omega)
      rw [pk_un (fun e => hin e.symm)]
      omega
theorem rem_le (o : Nat → Int32) (n : Nat) : rem n o ≤ n := by
  induction n with
  | zero => exact Nat.le_refl _
  | succ n ih => rw [rem]; split <;> omega
theorem rem_next {n j k : Nat} {d o : Nat → Int32} (hj : j = f_MO_nextOver n d o) (h : j < n) (hr : rem n o ≤ k + 1) : rem n (upd o j 1) ≤ k := by
  have h1 : o j = 0 := by
    rw [hj] at h ⊢
    exact (nx_ov d o n n 0 (by omega) h).1
  have := rem_upd h1 n h
  omega
theorem rem_zero {n j : Nat} {d o : Nat → Int32} (hj : j = f_MO_nextOver n d o) (hr : rem n o ≤ 0) (h : j < n) : False := by
  have h1 : o j = 0 := by
    rw [hj] at h ⊢
    exact (nx_ov d o n n 0 (by omega) h).1
  have := rem_pos h1 n h
  omega

theorem d_MO_check_0 : decode b_MO_check 0 = .ok (.aload_n 0, 1) := by decide +kernel
theorem d_MO_check_1 : decode b_MO_check 1 = .ok (.getfield 77, 3) := by decide +kernel
theorem d_MO_check_4 : decode b_MO_check 4 = .ok (.ifCond .ne 5, 3) := by decide +kernel
theorem d_MO_check_7 : decode b_MO_check 7 = .ok (.iconst (-1), 1) := by decide +kernel
theorem d_MO_check_8 : decode b_MO_check 8 = .ok (.ireturn, 1) := by decide +kernel
theorem d_MO_check_9 : decode b_MO_check 9 = .ok (.iconst 0, 1) := by decide +kernel
theorem d_MO_check_10 : decode b_MO_check 10 = .ok (.istore_n 1, 1) := by decide +kernel
theorem d_MO_check_11 : decode b_MO_check 11 = .ok (.iload_n 1, 1) := by decide +kernel
theorem d_MO_check_12 : decode b_MO_check 12 = .ok (.bipush 32, 2) := by decide +kernel
theorem d_MO_check_14 : decode b_MO_check 14 = .ok (.if_icmp .ge 23, 3) := by decide +kernel
theorem d_MO_check_17 : decode b_MO_check 17 = .ok (.aload_n 0, 1) := by decide +kernel
theorem d_MO_check_18 : decode b_MO_check 18 = .ok (.getfield 19, 3) := by decide +kernel
theorem d_MO_check_21 : decode b_MO_check 21 = .ok (.iload_n 1, 1) := by decide +kernel
theorem d_MO_check_22 : decode b_MO_check 22 = .ok (.iconst (-1), 1) := by decide +kernel
theorem d_MO_check_23 : decode b_MO_check 23 = .ok (.iastore, 1) := by decide +kernel
theorem d_MO_check_24 : decode b_MO_check 24 = .ok (.aload_n 0, 1) := by decide +kernel
theorem d_MO_check_25 : decode b_MO_check 25 = .ok (.getfield 22, 3) := by decide +kernel
theorem d_MO_check_28 : decode b_MO_check 28 = .ok (.iload_n 1, 1) := by decide +kernel
theorem d_MO_check_29 : decode b_MO_check 29 = .ok (.iconst 0, 1) := by decide +kernel
theorem d_MO_check_30 : decode b_MO_check 30 = .ok (.bastore, 1) := by decide +kernel
theorem d_MO_check_31 : decode b_MO_check 31 = .ok (.iinc 1 1, 3) := by decide +kernel
theorem d_MO_check_34 : decode b_MO_check 34 = .ok (.goto (-23), 3) := by decide +kernel
theorem d_MO_check_37 : decode b_MO_check 37 = .ok (.aload_n 0, 1) := by decide +kernel
theorem d_MO_check_38 : decode b_MO_check 38 = .ok (.getfield 19, 3) := by decide +kernel
theorem d_MO_check_41 : decode b_MO_check 41 = .ok (.iconst 0, 1) := by decide +kernel
theorem d_MO_check_42 : decode b_MO_check 42 = .ok (.iconst 0, 1) := by decide +kernel
theorem d_MO_check_43 : decode b_MO_check 43 = .ok (.iastore, 1) := by decide +kernel
theorem d_MO_check_44 : decode b_MO_check 44 = .ok (.aload_n 0, 1) := by decide +kernel
theorem d_MO_check_45 : decode b_MO_check 45 = .ok (.invokevirtual 106, 3) := by decide +kernel
theorem d_MO_check_48 : decode b_MO_check 48 = .ok (.istore_n 1, 1) := by decide +kernel
theorem d_MO_check_49 : decode b_MO_check 49 = .ok (.iload_n 1, 1) := by decide +kernel
theorem d_MO_check_50 : decode b_MO_check 50 = .ok (.aload_n 0, 1) := by decide +kernel
theorem d_MO_check_51 : decode b_MO_check 51 = .ok (.getfield 77, 3) := by decide +kernel
theorem d_MO_check_54 : decode b_MO_check 54 = .ok (.if_icmp .ge 23, 3) := by decide +kernel
theorem d_MO_check_57 : decode b_MO_check 57 = .ok (.aload_n 0, 1) := by decide +kernel
theorem d_MO_check_58 : decode b_MO_check 58 = .ok (.iload_n 1, 1) := by decide +kernel
theorem d_MO_check_59 : decode b_MO_check 59 = .ok (.invokevirtual 110, 3) := by decide +kernel
theorem d_MO_check_62 : decode b_MO_check 62 = .ok (.ifCond .ne 7, 3) := by decide +kernel
theorem d_MO_check_65 : decode b_MO_check 65 = .ok (.iconst 1, 1) := by decide +kernel
theorem d_MO_check_66 : decode b_MO_check 66 = .ok (.iload_n 1, 1) := by decide +kernel
theorem d_MO_check_67 : decode b_MO_check 67 = .ok (.iadd, 1) := by decide +kernel
theorem d_MO_check_68 : decode b_MO_check 68 = .ok (.ireturn, 1) := by decide +kernel
theorem d_MO_check_69 : decode b_MO_check 69 = .ok (.aload_n 0, 1) := by decide +kernel
theorem d_MO_check_70 : decode b_MO_check 70 = .ok (.invokevirtual 106, 3) := by decide +kernel
theorem d_MO_check_73 : decode b_MO_check 73 = .ok (.istore_n 1, 1) := by decide +kernel
theorem d_MO_check_74 : decode b_MO_check 74 = .ok (.goto (-25), 3) := by decide +kernel
theorem d_MO_check_77 : decode b_MO_check 77 = .ok (.iconst 0, 1) := by decide +kernel
theorem d_MO_check_78 : decode b_MO_check 78 = .ok (.ireturn, 1) := by decide +kernel
def lp_MO_fill  : Nat → Nat → (Nat → Int32) → (Nat → Int32) → (Nat → Int32) × (Nat → Int32)
  | 0, i, d1, o1 => (d1, o1)
  | kf + 1, i, d1, o1 => (lp_MO_fill kf (i + 1) (upd d1 i (-1)) (upd o1 i 0))
def lp_MO_check (n : Nat) (hn : Nat) (op : Nat → Int32) (ar : Nat → Int32) (hd : Nat → Int32) : Nat → Nat → (Nat → Int32) → (Nat → Int32) → Int32 × (Nat → Int32) × (Nat → Int32)
  | 0, j, d2, o2 => (0, d2, o2)
  | kf + 1, j, d2, o2 => (if n ≤ j then (0, d2, o2) else (if (f_MO_goOver n hn j op ar hd d2 o2).1 = 0 then (nI (1 + j), (f_MO_goOver n hn j op ar hd d2 o2).2.1, (f_MO_goOver n hn j op ar hd d2 o2).2.2) else (lp_MO_check n hn op ar hd kf (f_MO_nextOver n ((f_MO_goOver n hn j op ar hd d2 o2).2.1) ((f_MO_goOver n hn j op ar hd d2 o2).2.2)) ((f_MO_goOver n hn j op ar hd d2 o2).2.1) ((f_MO_goOver n hn j op ar hd d2 o2).2.2))))
def f_MO_check (n : Nat) (hn : Nat) (op : Nat → Int32) (ar : Nat → Int32) (hd : Nat → Int32) (d : Nat → Int32) (ov : Nat → Int32) : Int32 × (Nat → Int32) × (Nat → Int32) := (if 0 < n then lp_MO_check n hn op ar hd 32 (f_MO_nextOver n (upd ((lp_MO_fill 32 0 d ov).1) 0 0) ((lp_MO_fill 32 0 d ov).2)) (upd ((lp_MO_fill 32 0 d ov).1) 0 0) ((lp_MO_fill 32 0 d ov).2) else ((-1), d, ov))
set_option maxHeartbeats 1000000 in
set_option maxRecDepth 100000 in
theorem c_MO_check (l : Launch) (D : va_G) (cI cZ : ClassId) (a q_op q_arg q_handler q_depth q_over q_flatOp q_flatArg q_flatHandler q_leader q_last q_height q_state q_begin q_drawn q_order q_starters q_emitted q_locals q_stack : Nat) (x_flatCount x_flatHandlers x_blockCount x_g x_ran x_ended x_result x_steps x_emits x_top x_at : Int32) (n hn : Nat) (op ar hd d ov : Nat → Int32) (hh : n ≤ 32) (h3 : hn ≤ 3) (hj : ∀ i, i < n → ¬ f_MO_jumps (op i) = 0 → ar i = nI (tn (ar i)) ∧ tn (ar i) < 32) (hg : ∀ h, h < hn → hd (3 * h + 2) = nI (tn (hd (3 * h + 2))) ∧ tn (hd (3 * h + 2)) ≤ 32) : MG l y_MO_check w_MO_check (rmK 2 48) D classes (tyz cI cZ) E0 [.ref a] [(a, .inr (7, [.int (nI n), .ref q_op, .ref q_arg, .int (nI hn), .ref q_handler, .ref q_depth, .ref q_over, .int x_flatCount, .ref q_flatOp, .ref q_flatArg, .int x_flatHandlers, .ref q_flatHandler, .int x_blockCount, .ref q_leader, .ref q_last, .ref q_height, .ref q_state, .ref q_begin, .ref q_drawn, .ref q_order, .int x_g, .ref q_starters, .int x_ran, .int x_ended, .int x_result, .int x_steps, .int x_emits, .ref q_emitted, .ref q_locals, .ref q_stack, .int x_top, .int x_at])), (q_op, .inl (cI, 32, .inl op)), (q_arg, .inl (cI, 32, .inl ar)), (q_handler, .inl (cI, 9, .inl hd)), (q_depth, .inl (cI, 32, .inl d)), (q_over, .inl (cZ, 32, .inl ov))] (RI D classes (tyz cI cZ) ((f_MO_check n hn op ar hd d ov).1) [(a, .inr (7, [.int (nI n), .ref q_op, .ref q_arg, .int (nI hn), .ref q_handler, .ref q_depth, .ref q_over, .int x_flatCount, .ref q_flatOp, .ref q_flatArg, .int x_flatHandlers, .ref q_flatHandler, .int x_blockCount, .ref q_leader, .ref q_last, .ref q_height, .ref q_state, .ref q_begin, .ref q_drawn, .ref q_order, .int x_g, .ref q_starters, .int x_ran, .int x_ended, .int x_result, .int x_steps, .int x_emits, .ref q_emitted, .ref q_locals, .ref q_stack, .int x_top, .int x_at])), (q_op, .inl (cI, 32, .inl op)), (q_arg, .inl (cI, 32, .inl ar)), (q_handler, .inl (cI, 9, .inl hd)), (q_depth, .inl (cI, 32, .inl ((f_MO_check n hn op ar hd d ov).2.1))), (q_over, .inl (cZ, 32, .inl ((f_MO_check n hn op ar hd d ov).2.2)))]) := by
  refine MG.of (cc := b_MO_check) (maxL := 2) (ret := (some .int)) (own := "FlowFlattenerModel") rfl (by decide) rfl (Nat.le_of_ble_eq_true rfl) ?_
  intro p e s m below meth c A ls S hr hlocks hA hP hK hD hS hE hl
  have hx := S.1
  have hb := S.2.1
  have hl : lv_has ls 2 [(0, .ref a)] := hl
  refine lv_aload_n hx hb d_MO_check_0 rfl (lv_at hl 0 rfl) ?_
  refine k_get (v := .int (nI n)) S in_MO hK hP 0 rfl rfl 0 (by decide) ql_MO_77 rfl d_MO_check_1 ?_
  refine n_if_ne (tgt := 9) hx hb (by omega) d_MO_check_4 (by decide) (fun h4_1 => ?_) (fun h4_1 => ?_)
  · skip
    refine lv_iconst (v := nI 0) hx hb d_MO_check_9 (by decide) ?_
    refine lv_istore_n (lv' := [(1, .int (nI 0)), (0, .ref a)]) hx hb d_MO_check_10 rfl hl (by decide) rfl (fun ls hl => ?_)
    have LP11 : ∀ (kf : Nat) (i : Nat) (d1 : Nat → Int32) (o1 : Nat → Int32), (i + kf = 32) → ∀ (ls : Array Slot) (H : Heap) (locs : List Loc), lv_has ls 2 [(0, .ref a), (1, .int (nI i))] → va_P D classes [(a, .inr (7, [.int (nI n), .ref q_op, .ref q_arg, .int (nI hn), .ref q_handler, .ref q_depth, .ref q_over, .int x_flatCount, .ref q_flatOp, .ref q_flatArg, .int x_flatHandlers, .ref q_flatHandler, .int x_blockCount, .ref q_leader, .ref q_last, .ref q_height, .ref q_state, .ref q_begin, .ref q_drawn, .ref q_order, .int x_g, .ref q_starters, .int x_ran, .int x_ended, .int x_result, .int x_steps, .int x_emits, .ref q_emitted, .ref q_locals, .ref q_stack, .int x_top, .int x_at])), (q_op, .inl (cI, 32, .inl op)), (q_arg, .inl (cI, 32, .inl ar)), (q_handler, .inl (cI, 9, .inl hd)), (q_depth, .inl (cI, 32, .inl d1)), (q_over, .inl (cZ, 32, .inl o1))] H → va_D A [(a, .inr (7, [.int (nI n), .ref q_op, .ref q_arg, .int (nI hn), .ref q_handler, .ref q_depth, .ref q_over, .int x_flatCount, .ref q_flatOp, .ref q_flatArg, .int x_flatHandlers, .ref q_flatHandler, .int x_blockCount, .ref q_leader, .ref q_last, .ref q_height, .ref q_state, .ref q_begin, .ref q_drawn, .ref q_order, .int x_g, .ref q_starters, .int x_ran, .int x_ended, .int x_result, .int x_steps, .int x_emits, .ref q_emitted, .ref q_locals, .ref q_stack, .int x_top, .int x_at])), (q_op, .inl (cI, 32, .inl op)), (q_arg, .inl (cI, 32, .inl ar)), (q_handler, .inl (cI, 9, .inl hd)), (q_depth, .inl (cI, 32, .inl d1)), (q_over, .inl (cZ, 32, .inl o1))] → va_S A s.heap H locs → (∀ (ls : Array Slot) (H : Heap) (locs : List Loc), lv_has ls 2 [(0, .ref a)] → va_P D classes [(a, .inr (7, [.int (nI n), .ref q_op, .ref q_arg, .int (nI hn), .ref q_handler, .ref q_depth, .ref q_over, .int x_flatCount, .ref q_flatOp, .ref q_flatArg, .int x_flatHandlers, .ref q_flatHandler, .int x_blockCount, .ref q_leader, .ref q_last, .ref q_height, .ref q_state, .ref q_begin, .ref q_drawn, .ref q_order, .int x_g, .ref q_starters, .int x_ran, .int x_ended, .int x_result, .int x_steps, .int x_emits, .ref q_emitted, .ref q_locals, .ref q_stack, .int x_top, .int x_at])), (q_op, .inl (cI, 32, .inl op)), (q_arg, .inl (cI, 32, .inl ar)), (q_handler, .inl (cI, 9, .inl hd)), (q_depth, .inl (cI, 32, .inl ((lp_MO_fill kf i d1 o1).1))), (q_over, .inl (cZ, 32, .inl ((lp_MO_fill kf i d1 o1).2)))] H → va_D A [(a, .inr (7, [.int (nI n), .ref q_op, .ref q_arg, .int (nI hn), .ref q_handler, .ref q_depth, .ref q_over, .int x_flatCount, .ref q_flatOp, .ref q_flatArg, .int x_flatHandlers, .ref q_flatHandler, .int x_blockCount, .ref q_leader, .ref q_last, .ref q_height, .ref q_state, .ref q_begin, .ref q_drawn, .ref q_order, .int x_g, .ref q_starters, .int x_ran, .int x_ended, .int x_result, .int x_steps, .int x_emits, .ref q_emitted, .ref q_locals, .ref q_stack, .int x_top, .int x_at])), (q_op, .inl (cI, 32, .inl op)), (q_arg, .inl (cI, 32, .inl ar)), (q_handler, .inl (cI, 9, .inl hd)), (q_depth, .inl (cI, 32, .inl ((lp_MO_fill kf i d1 o1).1))), (q_over, .inl (cZ, 32, .inl ((lp_MO_fill kf i d1 o1).2)))] → va_S A s.heap H locs → W p l e (rmK 2 48) s m [.ref a].toArray below meth c H locs 0 0 (MQ below (RI D classes (tyz cI cZ) ((f_MO_check n hn op ar hd d ov).1) [(a, .inr (7, [.int (nI n), .ref q_op, .ref q_arg, .int (nI hn), .ref q_handler, .ref q_depth, .ref q_over, .int x_flatCount, .ref q_flatOp, .ref q_flatArg, .int x_flatHandlers, .ref q_flatHandler, .int x_blockCount, .ref q_leader, .ref q_last, .ref q_height, .ref q_state, .ref q_begin, .ref q_drawn, .ref q_order, .int x_g, .ref q_starters, .int x_ran, .int x_ended, .int x_result, .int x_steps, .int x_emits, .ref q_emitted, .ref q_locals, .ref q_stack, .int x_top, .int x_at])), (q_op, .inl (cI, 32, .inl op)), (q_arg, .inl (cI, 32, .inl ar)), (q_handler, .inl (cI, 9, .inl hd)), (q_depth, .inl (cI, 32, .inl ((f_MO_check n hn op ar hd d ov).2.1))), (q_over, .inl (cZ, 32, .inl ((f_MO_check n hn op ar hd d ov).2.2)))] A) [.ref a].toArray s 0 0 A) (F0 m 37 ls [])) → W p l e (rmK 2 48) s m [.ref a].toArray below meth c H locs 0 0 (MQ below (RI D classes (tyz cI cZ) ((f_MO_check n hn op ar hd d ov).1) [(a, .inr (7, [.int (nI n), .ref q_op, .ref q_arg, .int (nI hn), .ref q_handler, .ref q_depth, .ref q_over, .int x_flatCount, .ref q_flatOp, .ref q_flatArg, .int x_flatHandlers, .ref q_flatHandler, .int x_blockCount, .ref q_leader, .ref q_last, .ref q_height, .ref q_state, .ref q_begin, .ref q_drawn, .ref q_order, .int x_g, .ref q_starters, .int x_ran, .int x_ended, .int x_result, .int x_steps, .int x_emits, .ref q_emitted, .ref q_locals, .ref q_stack, .int x_top, .int x_at])), (q_op, .inl (cI, 32, .inl op)), (q_arg, .inl (cI, 32, .inl ar)), (q_handler, .inl (cI, 9, .inl hd)), (q_depth, .inl (cI, 32, .inl ((f_MO_check n hn op ar hd d ov).2.1))), (q_over, .inl (cZ, 32, .inl ((f_MO_check n hn op ar hd d ov).2.2)))] A) [.ref a].toArray s 0 0 A) (F0 m 11 ls []) := by
      intro kf
      induction kf with
      | zero =>
        intro i d1 o1 hk ls H locs hl hP hD hS kk
        refine lv_iload_n hx hb d_MO_check_11 rfl (lv_at hl 1 rfl) ?_
        refine lv_bipush (v := 32) hx hb d_MO_check_12 (by decide) ?_
        refine n_icmp_ge (tgt := 37) (x := i) (y := 32) hx hb rfl (by decide) (by omega) (by omega) d_MO_check_14 (by decide) (fun h14_2 => ?_) (fun h14_2 => absurd h14_2 (by omega))
        have e9 : lp_MO_fill 0 i d1 o1 = (d1, o1) := by rw [lp_MO_fill]
        rw [e9] at kk
        exact kk _ _ _ (lv_sub hl [0] rfl) hP hD hS
      | succ kf ih =>
        intro i d1 o1 hk ls H locs hl hP hD hS kk
        refine lv_iload_n hx hb d_MO_check_11 rfl (lv_at hl 1 rfl) ?_
        refine lv_bipush (v := 32) hx hb d_MO_check_12 (by decide) ?_
        refine n_icmp_ge (tgt := 37) (x := i) (y := 32) hx hb rfl (by decide) (by omega) (by omega) d_MO_check_14 (by decide) (fun h14_3 => absurd h14_3 (by omega)) (fun h14_3 => ?_)
        refine lv_aload_n hx hb d_MO_check_17 rfl (lv_at hl 0 rfl) ?_
        refine k_get (v := .ref q_depth) S in_MO hK hP 0 rfl rfl 5 (by decide) ql_MO_19 rfl d_MO_check_18 ?_
        refine lv_iload_n hx hb d_MO_check_21 rfl (lv_at hl 1 rfl) ?_
        refine lv_iconst (v := (-1)) hx hb d_MO_check_22 (by decide) ?_
        refine k_st (k := i) (x := (-1)) (ws' := [(a, .inr (7, [.int (nI n), .ref q_op, .ref q_arg, .int (nI hn), .ref q_handler, .ref q_depth, .ref q_over, .int x_flatCount, .ref q_flatOp, .ref q_flatArg, .int x_flatHandlers, .ref q_flatHandler, .int x_blockCount, .ref q_leader, .ref q_last, .ref q_height, .ref q_state, .ref q_begin, .ref q_drawn, .ref q_order, .int x_g, .ref q_starters, .int x_ran, .int x_ended, .int x_result, .int x_steps, .int x_emits, .ref q_emitted, .ref q_locals, .ref q_stack, .int x_top, .int x_at])), (q_op, .inl (cI, 32, .inl op)), (q_arg, .inl (cI, 32, .inl ar)), (q_handler, .inl (cI, 9, .inl hd)), (q_depth, .inl (cI, 32, .inl (upd d1 i (-1)))), (q_over, .inl (cZ, 32, .inl o1))]) hx hb hK hP hD hS 4 0 rfl rfl rfl (by omega) (by decide) rfl d_MO_check_23 (fun H locs hP hD hS => ?_)
        refine lv_aload_n hx hb d_MO_check_24 rfl (lv_at hl 0 rfl) ?_
        refine k_get (v := .ref q_over) S in_MO hK hP 0 rfl rfl 6 (by decide) ql_MO_22 rfl d_MO_check_25 ?_
        refine lv_iload_n hx hb d_MO_check_28 rfl (lv_at hl 1 rfl) ?_
        refine lv_iconst (v := 0) hx hb d_MO_check_29 (by decide) ?_
        refine k_zst (k := i) (x := 0) (ws' := [(a, .inr (7, [.int (nI n), .ref q_op, .ref q_arg, .int (nI hn), .ref q_handler, .ref q_depth, .ref q_over, .int x_flatCount, .ref q_flatOp, .ref q_flatArg, .int x_flatHandlers, .ref q_flatHandler, .int x_blockCount, .ref q_leader, .ref q_last, .ref q_height, .ref q_state, .ref q_begin, .ref q_drawn, .ref q_order, .int x_g, .ref q_starters, .int x_ran, .int x_ended, .int x_result, .int x_steps, .int x_emits, .ref q_emitted, .ref q_locals, .ref q_stack, .int x_top, .int x_at])), (q_op, .inl (cI, 32, .inl op)), (q_arg, .inl (cI, 32, .inl ar)), (q_handler, .inl (cI, 9, .inl hd)), (q_depth, .inl (cI, 32, .inl (upd d1 i (-1)))), (q_over, .inl (cZ, 32, .inl (upd o1 i 0)))]) hx hb hK hP hD hS 5 1 rfl rfl rfl (by decide) (by omega) (by decide) rfl d_MO_check_30 (fun H locs hP hD hS => ?_)
        refine lv_iinc (k := 1) (v := nI (i + 1)) (lv' := [(1, .int (nI (i + 1))), (0, .ref a)]) hx hb d_MO_check_31 hl rfl (nc_add rfl (by decide)) (by decide) rfl (fun ls hl => ?_)
        refine lv_goto (tgt := 11) hx hb d_MO_check_34 (by decide) ?_
        have e9 : lp_MO_fill (kf + 1) i d1 o1 = lp_MO_fill kf (i + 1) (upd d1 i (-1)) (upd o1 i 0) := by rw [lp_MO_fill]
        rw [e9] at kk
        exact ih (i + 1) (upd d1 i (-1)) (upd o1 i 0) (by omega) _ _ _ (lv_sub hl [1, 0] rfl) hP hD hS kk
    refine LP11 32 0 d ov rfl _ _ _ (lv_sub hl [1, 0] rfl) hP hD hS (fun ls H locs hl hP hD hS => ?_)
    refine lv_aload_n hx hb d_MO_check_37 rfl (lv_at hl 0 rfl) ?_
    refine k_get (v := .ref q_depth) S in_MO hK hP 0 rfl rfl 5 (by decide) ql_MO_19 rfl d_MO_check_38 ?_
    refine lv_iconst (v := 0) hx hb d_MO_check_41 (by decide) ?_
    refine lv_iconst (v := 0) hx hb d_MO_check_42 (by decide) ?_
    refine k_st (k := 0) (x := 0) (ws' := [(a, .inr (7, [.int (nI n), .ref q_op, .ref q_arg, .int (nI hn), .ref q_handler, .ref q_depth, .ref q_over, .int x_flatCount, .ref q_flatOp, .ref q_flatArg, .int x_flatHandlers, .ref q_flatHandler, .int x_blockCount, .ref q_leader, .ref q_last, .ref q_height, .ref q_state, .ref q_begin, .ref q_drawn, .ref q_order, .int x_g, .ref q_starters, .int x_ran, .int x_ended, .int x_result, .int x_steps, .int x_emits, .ref q_emitted, .ref q_locals, .ref q_stack, .int x_top, .int x_at])), (q_op, .inl (cI, 32, .inl op)), (q_arg, .inl (cI, 32, .inl ar)), (q_handler, .inl (cI, 9, .inl hd)), (q_depth, .inl (cI, 32, .inl (upd ((lp_MO_fill 32 0 d ov).1) 0 0))), (q_over, .inl (cZ, 32, .inl ((lp_MO_fill 32 0 d ov).2)))]) hx hb hK hP hD hS 4 0 rfl rfl (by decide) (by omega) (by decide) rfl d_MO_check_43 (fun H locs hP hD hS => ?_)
    refine lv_aload_n hx hb d_MO_check_44 rfl (lv_at hl 0 rfl) ?_
    refine k_goi (ws' := [(a, .inr (7, [.int (nI n), .ref q_op, .ref q_arg, .int (nI hn), .ref q_handler, .ref q_depth, .ref q_over, .int x_flatCount, .ref q_flatOp, .ref q_flatArg, .int x_flatHandlers, .ref q_flatHandler, .int x_blockCount, .ref q_leader, .ref q_last, .ref q_height, .ref q_state, .ref q_begin, .ref q_drawn, .ref q_order, .int x_g, .ref q_starters, .int x_ran, .int x_ended, .int x_result, .int x_steps, .int x_emits, .ref q_emitted, .ref q_locals, .ref q_stack, .int x_top, .int x_at])), (q_op, .inl (cI, 32, .inl op)), (q_arg, .inl (cI, 32, .inl ar)), (q_handler, .inl (cI, 9, .inl hd)), (q_depth, .inl (cI, 32, .inl (upd ((lp_MO_fill 32 0 d ov).1) 0 0))), (q_over, .inl (cZ, 32, .inl ((lp_MO_fill 32 0 d ov).2)))]) (wr := [(q_op, .inl (cI, 32, .inl op)), (q_arg, .inl (cI, 32, .inl ar)), (q_handler, .inl (cI, 9, .inl hd))]) (k_runV (q0 := 0) (As := []) (rest := []) (n := 0) S (c_MO_nextOver l D cI cZ a q_op q_arg q_handler q_depth q_over q_flatOp q_flatArg q_flatHandler q_leader q_last q_height q_state q_begin q_drawn q_order q_starters q_emitted q_locals q_stack (nI hn) x_flatCount x_flatHandlers x_blockCount x_g x_ran x_ended x_result x_steps x_emits x_top x_at n (upd ((lp_MO_fill 32 0 d ov).1) 0 0) ((lp_MO_fill 32 0 d ov).2) (by omega)) E0_b E0_t ql_MO_106 qi_MO_nextOver qs_MO_nextOver qn_MO qc_MO_nextOver (by decide +kernel) rfl ⟨rfl, rfl⟩ ⟨Nat.le_of_ble_eq_true rfl, Nat.le_of_ble_eq_true rfl⟩ hK hP hD [0, 4, 5] rfl (by decide) rfl rfl hl.1 rfl (Nat.le_of_ble_eq_true rfl) d_MO_check_45 ⟨Nat.zero_le _, Nat.zero_le _⟩) hP hD hS hA [0, 4, 5] [1, 2, 3] [3, 0, 1, 2, 4, 5] rfl rfl (by decide) (by decide) rfl (by decide) (fun H locs hP hD hS => ?_)
    refine lv_istore_n (lv' := [(1, .int (nI (f_MO_nextOver n (upd ((lp_MO_fill 32 0 d ov).1) 0 0) ((lp_MO_fill 32 0 d ov).2)))), (0, .ref a)]) hx hb d_MO_check_48 rfl hl (by decide) rfl (fun ls hl => ?_)
    have LP49 : ∀ (kf : Nat) (j : Nat) (d2 : Nat → Int32) (o2 : Nat → Int32), (j = f_MO_nextOver n d2 o2) → (rem n o2 ≤ kf) → (j ≤ n) → lp_MO_check n hn op ar hd kf j d2 o2 = f_MO_check n hn op ar hd d ov → ∀ (ls : Array Slot) (H : Heap) (locs : List Loc), lv_has ls 2 [(0, .ref a), (1, .int (nI j))] → va_P D classes [(a, .inr (7, [.int (nI n), .ref q_op, .ref q_arg, .int (nI hn), .ref q_handler, .ref q_depth, .ref q_over, .int x_flatCount, .ref q_flatOp, .ref q_flatArg, .int x_flatHandlers, .ref q_flatHandler, .int x_blockCount, .ref q_leader, .ref q_last, .ref q_height, .ref q_state, .ref q_begin, .ref q_drawn, .ref q_order, .int x_g, .ref q_starters, .int x_ran, .int x_ended, .int x_result, .int x_steps, .int x_emits, .ref q_emitted, .ref q_locals, .ref q_stack, .int x_top, .int x_at])), (q_op, .inl (cI, 32, .inl op)), (q_arg, .inl (cI, 32, .inl ar)), (q_handler, .inl (cI, 9, .inl hd)), (q_depth, .inl (cI, 32, .inl d2)), (q_over, .inl (cZ, 32, .inl o2))] H → va_D A [(a, .inr (7, [.int (nI n), .ref q_op, .ref q_arg, .int (nI hn), .ref q_handler, .ref q_depth, .ref q_over, .int x_flatCount, .ref q_flatOp, .ref q_flatArg, .int x_flatHandlers, .ref q_flatHandler, .int x_blockCount, .ref q_leader, .ref q_last, .ref q_height, .ref q_state, .ref q_begin, .ref q_drawn, .ref q_order, .int x_g, .ref q_starters, .int x_ran, .int x_ended, .int x_result, .int x_steps, .int x_emits, .ref q_emitted, .ref q_locals, .ref q_stack, .int x_top, .int x_at])), (q_op, .inl (cI, 32, .inl op)), (q_arg, .inl (cI, 32, .inl ar)), (q_handler, .inl (cI, 9, .inl hd)), (q_depth, .inl (cI, 32, .inl d2)), (q_over, .inl (cZ, 32, .inl o2))] → va_S A s.heap H locs → W p l e (rmK 2 48) s m [.ref a].toArray below meth c H locs 0 0 (MQ below (RI D classes (tyz cI cZ) ((f_MO_check n hn op ar hd d ov).1) [(a, .inr (7, [.int (nI n), .ref q_op, .ref q_arg, .int (nI hn), .ref q_handler, .ref q_depth, .ref q_over, .int x_flatCount, .ref q_flatOp, .ref q_flatArg, .int x_flatHandlers, .ref q_flatHandler, .int x_blockCount, .ref q_leader, .ref q_last, .ref q_height, .ref q_state, .ref q_begin, .ref q_drawn, .ref q_order, .int x_g, .ref q_starters, .int x_ran, .int x_ended, .int x_result, .int x_steps, .int x_emits, .ref q_emitted, .ref q_locals, .ref q_stack, .int x_top, .int x_at])), (q_op, .inl (cI, 32, .inl op)), (q_arg, .inl (cI, 32, .inl ar)), (q_handler, .inl (cI, 9, .inl hd)), (q_depth, .inl (cI, 32, .inl ((f_MO_check n hn op ar hd d ov).2.1))), (q_over, .inl (cZ, 32, .inl ((f_MO_check n hn op ar hd d ov).2.2)))] A) [.ref a].toArray s 0 0 A) (F0 m 49 ls []) := by
      intro kf
      induction kf with
      | zero =>
        intro j d2 o2 hj2 hrem hjn hF49 ls H locs hl hP hD hS
        refine lv_iload_n hx hb d_MO_check_49 rfl (lv_at hl 1 rfl) ?_
        refine lv_aload_n hx hb d_MO_check_50 rfl (lv_at hl 0 rfl) ?_
        refine k_get (v := .int (nI n)) S in_MO hK hP 0 rfl rfl 0 (by decide) ql_MO_77 rfl d_MO_check_51 ?_
        refine n_icmp_ge (tgt := 77) (x := j) (y := n) hx hb rfl rfl (by omega) (by omega) d_MO_check_54 (by decide) (fun h54_4 => ?_) (fun h54_4 => (rem_zero hj2 hrem h54_4).elim)
        refine lv_iconst (v := 0) hx hb d_MO_check_77 (by decide) ?_
        exact k_iret hx hb hr hlocks hK hP hD hS (by rw [← hF49, lp_MO_check]) (by rw [← hF49, lp_MO_check]) d_MO_check_78
      | succ kf ih =>
        intro j d2 o2 hj2 hrem hjn hF49 ls H locs hl hP hD hS
        refine lv_iload_n hx hb d_MO_check_49 rfl (lv_at hl 1 rfl) ?_
        refine lv_aload_n hx hb d_MO_check_50 rfl (lv_at hl 0 rfl) ?_
        refine k_get (v := .int (nI n)) S in_MO hK hP 0 rfl rfl 0 (by decide) ql_MO_77 rfl d_MO_check_51 ?_
        refine n_icmp_ge (tgt := 77) (x := j) (y := n) hx hb rfl rfl (by omega) (by omega) d_MO_check_54 (by decide) (fun h54_5 => ?_) (fun h54_5 => ?_)
        · skip
          refine lv_iconst (v := 0) hx hb d_MO_check_77 (by decide) ?_
          exact k_iret hx hb hr hlocks hK hP hD hS (by rw [← hF49, lp_MO_check, if_pos h54_5]) (by rw [← hF49, lp_MO_check, if_pos h54_5]) d_MO_check_78
        · skip
          refine lv_aload_n hx hb d_MO_check_57 rfl (lv_at hl 0 rfl) ?_
          refine lv_iload_n hx hb d_MO_check_58 rfl (lv_at hl 1 rfl) ?_
          refine k_goi (ws' := [(a, .inr (7, [.int (nI n), .ref q_op, .ref q_arg, .int (nI hn), .ref q_handler, .ref q_depth, .ref q_over, .int x_flatCount, .ref q_flatOp, .ref q_flatArg, .int x_flatHandlers, .ref q_flatHandler, .int x_blockCount, .ref q_leader, .ref q_last, .ref q_height, .ref q_state, .ref q_begin, .ref q_drawn, .ref q_order, .int x_g, .ref q_starters, .int x_ran, .int x_ended, .int x_result, .int x_steps, .int x_emits, .ref q_emitted, .ref q_locals, .ref q_stack, .int x_top, .int x_at])), (q_op, .inl (cI, 32, .inl op)), (q_arg, .inl (cI, 32, .inl ar)), (q_handler, .inl (cI, 9, .inl hd)), (q_depth, .inl (cI, 32, .inl ((f_MO_goOver n hn j op ar hd d2 o2).2.1))), (q_over, .inl (cZ, 32, .inl ((f_MO_goOver n hn j op ar hd d2 o2).2.2)))]) (wr := []) (k_runV (q0 := 0) (As := [.int (nI j)]) (rest := []) (n := 1) S (c_MO_goOver l D cI cZ a q_op q_arg q_handler q_depth q_over q_flatOp q_flatArg q_flatHandler q_leader q_last q_height q_state q_begin q_drawn q_order q_starters q_emitted q_locals q_stack x_flatCount x_flatHandlers x_blockCount x_g x_ran x_ended x_result x_steps x_emits x_top x_at n hn j op ar hd d2 o2 (by omega) (by omega) (by omega) (hj j (by omega)) hg) E0_b E0_t ql_MO_110 qi_MO_goOver qs_MO_goOver qn_MO qc_MO_goOver (by decide +kernel) rfl ⟨rfl, rfl⟩ ⟨Nat.le_of_ble_eq_true rfl, Nat.le_of_ble_eq_true rfl⟩ hK hP hD [0, 1, 2, 3, 4, 5] rfl (by decide) rfl rfl hl.1 rfl (Nat.le_of_ble_eq_true rfl) d_MO_check_59 ⟨Nat.zero_le _, Nat.zero_le _⟩) hP hD hS hA [0, 1, 2, 3, 4, 5] [] [0, 1, 2, 3, 4, 5] rfl rfl (by decide) (by decide) rfl (by decide) (fun H locs hP hD hS => ?_)
          refine lv_if_ne (tgt := 69) hx hb d_MO_check_62 (by decide) (fun h62_6 => ?_) (fun h62_6 => ?_)
          · skip
            refine lv_aload_n hx hb d_MO_check_69 rfl (lv_at hl 0 rfl) ?_
            refine k_goi (ws' := [(a, .inr (7, [.int (nI n), .ref q_op, .ref q_arg, .int (nI hn), .ref q_handler, .ref q_depth, .ref q_over, .int x_flatCount, .ref q_flatOp, .ref q_flatArg, .int x_flatHandlers, .ref q_flatHandler, .int x_blockCount, .ref q_leader, .ref q_last, .ref q_height, .ref q_state, .ref q_begin, .ref q_drawn, .ref q_order, .int x_g, .ref q_starters, .int x_ran, .int x_ended, .int x_result, .int x_steps, .int x_emits, .ref q_emitted, .ref q_locals, .ref q_stack, .int x_top, .int x_at])), (q_op, .inl (cI, 32, .inl op)), (q_arg, .inl (cI, 32, .inl ar)), (q_handler, .inl (cI, 9, .inl hd)), (q_depth, .inl (cI, 32, .inl ((f_MO_goOver n hn j op ar hd d2 o2).2.1))), (q_over, .inl (cZ, 32, .inl ((f_MO_goOver n hn j op ar hd d2 o2).2.2)))]) (wr := [(q_op, .inl (cI, 32, .inl op)), (q_arg, .inl (cI, 32, .inl ar)), (q_handler, .inl (cI, 9, .inl hd))]) (k_runV (q0 := 0) (As := []) (rest := []) (n := 0) S (c_MO_nextOver l D cI cZ a q_op q_arg q_handler q_depth q_over q_flatOp q_flatArg q_flatHandler q_leader q_last q_height q_state q_begin q_drawn q_order q_starters q_emitted q_locals q_stack (nI hn) x_flatCount x_flatHandlers x_blockCount x_g x_ran x_ended x_result x_steps x_emits x_top x_at n ((f_MO_goOver n hn j op ar hd d2 o2).2.1) ((f_MO_goOver n hn j op ar hd d2 o2).2.2) (by omega)) E0_b E0_t ql_MO_106 qi_MO_nextOver qs_MO_nextOver qn_MO qc_MO_nextOver (by decide +kernel) rfl ⟨rfl, rfl⟩ ⟨Nat.le_of_ble_eq_true rfl, Nat.le_of_ble_eq_true rfl⟩ hK hP hD [0, 4, 5] rfl (by decide) rfl rfl hl.1 rfl (Nat.le_of_ble_eq_true rfl) d_MO_check_70 ⟨Nat.zero_le _, Nat.zero_le _⟩) hP hD hS hA [0, 4, 5] [1, 2, 3] [3, 0, 1, 2, 4, 5] rfl rfl (by decide) (by decide) rfl (by decide) (fun H locs hP hD hS => ?_)
            refine lv_istore_n (lv' := [(1, .int (nI (f_MO_nextOver n ((f_MO_goOver n hn j op ar hd d2 o2).2.1) ((f_MO_goOver n hn j op ar hd d2 o2).2.2)))), (0, .ref a)]) hx hb d_MO_check_73 rfl hl (by decide) rfl (fun ls hl => ?_)
            refine lv_goto (tgt := 49) hx hb d_MO_check_74 (by decide) ?_
            have e9 : lp_MO_check n hn op ar hd (kf + 1) j d2 o2 = lp_MO_check n hn op ar hd kf (f_MO_nextOver n ((f_MO_goOver n hn j op ar hd d2 o2).2.1) ((f_MO_goOver n hn j op ar hd d2 o2).2.2)) ((f_MO_goOver n hn j op ar hd d2 o2).2.1) ((f_MO_goOver n hn j op ar hd d2 o2).2.2) := by rw [lp_MO_check, if_neg (show ¬ (n ≤ j) by omega), if_neg h62_6]
            rw [e9] at hF49
            exact ih (f_MO_nextOver n ((f_MO_goOver n hn j op ar hd d2 o2).2.1) ((f_MO_goOver n hn j op ar hd d2 o2).2.2)) ((f_MO_goOver n hn j op ar hd d2 o2).2.1) ((f_MO_goOver n hn j op ar hd d2 o2).2.2) rfl (by rw [go_ov]; exact rem_next hj2 (by assumption) hrem) (nx_le _ _ n n 0 (by omega)) hF49 _ _ _ (lv_sub hl [1, 0] rfl) hP hD hS
          · skip
            refine lv_iconst (v := 1) hx hb d_MO_check_65 (by decide) ?_
            refine lv_iload_n hx hb d_MO_check_66 rfl (lv_at hl 1 rfl) ?_
            refine lv_iadd hx hb d_MO_check_67 ?_
            refine k_top (y := nI (1 + j)) (nc_add (by decide) rfl) ?_
            exact k_iret hx hb hr hlocks hK hP hD hS (by rw [← hF49, lp_MO_check, if_neg (show ¬ (n ≤ j) by omega), if_pos h62_6]) (by rw [← hF49, lp_MO_check, if_neg (show ¬ (n ≤ j) by omega), if_pos h62_6]) d_MO_check_68
    exact LP49 32 (f_MO_nextOver n (upd ((lp_MO_fill 32 0 d ov).1) 0 0) ((lp_MO_fill 32 0 d ov).2)) (upd ((lp_MO_fill 32 0 d ov).1) 0 0) ((lp_MO_fill 32 0 d ov).2) rfl (Nat.le_trans (rem_le _ _) hh) (nx_le _ _ n n 0 (by omega)) (by rw [f_MO_check, if_pos h4_1]) _ _ _ (lv_sub hl [1, 0] rfl) hP hD hS
  · skip
    refine lv_iconst (v := (-1)) hx hb d_MO_check_7 (by decide) ?_
    exact k_iret hx hb hr hlocks hK hP hD hS (by rw [f_MO_check, if_neg (show ¬ (0 < n) by omega)]) (by rw [f_MO_check, if_neg (show ¬ (0 < n) by omega)]) d_MO_check_8

theorem d_MO_depth_0 : decode b_MO_depth 0 = .ok (.iload_n 1, 1) := by decide +kernel
theorem d_MO_depth_1 : decode b_MO_depth 1 = .ok (.ifCond .lt 11, 3) := by decide +kernel
theorem d_MO_depth_4 : decode b_MO_depth 4 = .ok (.iload_n 1, 1) := by decide +kernel
theorem d_MO_depth_5 : decode b_MO_depth 5 = .ok (.aload_n 0, 1) := by decide +kernel
theorem d_MO_depth_6 : decode b_MO_depth 6 = .ok (.getfield 77, 3) := by decide +kernel
theorem d_MO_depth_9 : decode b_MO_depth 9 = .ok (.if_icmp .lt 5, 3) := by decide +kernel
theorem d_MO_depth_12 : decode b_MO_depth 12 = .ok (.iconst (-1), 1) := by decide +kernel
theorem d_MO_depth_13 : decode b_MO_depth 13 = .ok (.ireturn, 1) := by decide +kernel
theorem d_MO_depth_14 : decode b_MO_depth 14 = .ok (.aload_n 0, 1) := by decide +kernel
theorem d_MO_depth_15 : decode b_MO_depth 15 = .ok (.invokevirtual 113, 3) := by decide +kernel
theorem d_MO_depth_18 : decode b_MO_depth 18 = .ok (.pop, 1) := by decide +kernel
theorem d_MO_depth_19 : decode b_MO_depth 19 = .ok (.aload_n 0, 1) := by decide +kernel
theorem d_MO_depth_20 : decode b_MO_depth 20 = .ok (.getfield 19, 3) := by decide +kernel
theorem d_MO_depth_23 : decode b_MO_depth 23 = .ok (.iload_n 1, 1) := by decide +kernel
theorem d_MO_depth_24 : decode b_MO_depth 24 = .ok (.iaload, 1) := by decide +kernel
theorem d_MO_depth_25 : decode b_MO_depth 25 = .ok (.ireturn, 1) := by decide +kernel
def f_MO_depth (n : Nat) (hn : Nat) (op : Nat → Int32) (ar : Nat → Int32) (hd : Nat → Int32) (d : Nat → Int32) (ov : Nat → Int32) (x : Int32) : Int32 × (Nat → Int32) × (Nat → Int32) := (if x < 0 then ((-1), d, ov) else (if x < nI n then (((f_MO_check n hn op ar hd d ov).2.1) (tn x), (f_MO_check n hn op ar hd d ov).2.1, (f_MO_check n hn op ar hd d ov).2.2) else ((-1), d, ov)))
set_option maxHeartbeats 1000000 in
set_option maxRecDepth 100000 in
theorem c_MO_depth (l : Launch) (D : va_G) (cI cZ : ClassId) (a q_op q_arg q_handler q_depth q_over q_flatOp q_flatArg q_flatHandler q_leader q_last q_height q_state q_begin q_drawn q_order q_starters q_emitted q_locals q_stack : Nat) (x_flatCount x_flatHandlers x_blockCount x_g x_ran x_ended x_result x_steps x_emits x_top x_at : Int32) (n hn : Nat) (op ar hd d ov : Nat → Int32) (x : Int32) (hh : n ≤ 32) (h3 : hn ≤ 3) (hj : ∀ i, i < n → ¬ f_MO_jumps (op i) = 0 → ar i = nI (tn (ar i)) ∧ tn (ar i) < 32) (hg : ∀ h, h < hn → hd (3 * h + 2) = nI (tn (hd (3 * h + 2))) ∧ tn (hd (3 * h + 2)) ≤ 32) : MG l y_MO_depth w_MO_depth (rmK 3 69) D classes (tyz cI cZ) E0 [.ref a, .int x] [(a, .inr (7, [.int (nI n), .ref q_op, .ref q_arg, .int (nI hn), .ref q_handler, .ref q_depth, .ref q_over, .int x_flatCount, .ref q_flatOp, .ref q_flatArg, .int x_flatHandlers, .ref q_flatHandler, .int x_blockCount, .ref q_leader, .ref q_last, .ref q_height, .ref q_state, .ref q_begin, .ref q_drawn, .ref q_order, .int x_g, .ref q_starters, .int x_ran, .int x_ended, .int x_result, .int x_steps, .int x_emits, .ref q_emitted, .ref q_locals, .ref q_stack, .int x_top, .int x_at])), (q_op, .inl (cI, 32, .inl op)), (q_arg, .inl (cI, 32, .inl ar)), (q_handler, .inl (cI, 9, .inl hd)), (q_depth, .inl (cI, 32, .inl d)), (q_over, .inl (cZ, 32, .inl ov))] (RI D classes (tyz cI cZ) ((f_MO_depth n hn op ar hd d ov x).1) [(a, .inr (7, [.int (nI n), .ref q_op, .ref q_arg, .int (nI hn), .ref q_handler, .ref q_depth, .ref q_over, .int x_flatCount, .ref q_flatOp, .ref q_flatArg, .int x_flatHandlers, .ref q_flatHandler, .int x_blockCount, .ref q_leader, .ref q_last, .ref q_height, .ref q_state, .ref q_begin, .ref q_drawn, .ref q_order, .int x_g, .ref q_starters, .int x_ran, .int x_ended, .int x_result, .int x_steps, .int x_emits, .ref q_emitted, .ref q_locals, .ref q_stack, .int x_top, .int x_at])), (q_op, .inl (cI, 32, .inl op)), (q_arg, .inl (cI, 32, .inl ar)), (q_handler, .inl (cI, 9, .inl hd)), (q_depth, .inl (cI, 32, .inl ((f_MO_depth n hn op ar hd d ov x).2.1))), (q_over, .inl (cZ, 32, .inl ((f_MO_depth n hn op ar hd d ov x).2.2)))]) := by
  refine MG.of (cc := b_MO_depth) (maxL := 2) (ret := (some .int)) (own := "FlowFlattenerModel") rfl (by decide) rfl (Nat.le_of_ble_eq_true rfl) ?_
  intro p e s m below meth c A ls S hr hlocks hA hP hK hD hS hE hl
  have hx := S.1
  have hb := S.2.1
  have hl : lv_has ls 2 [(0, .ref a), (1, .int x)] := hl
  refine lv_iload_n hx hb d_MO_depth_0 rfl (lv_at hl 1 rfl) ?_
  refine lv_if_lt (tgt := 12) hx hb d_MO_depth_1 (by decide) (fun h1_1 => ?_) (fun h1_1 => ?_)
  · skip
    refine lv_iconst (v := (-1)) hx hb d_MO_depth_12 (by decide) ?_
    exact k_iret hx hb hr hlocks hK hP hD hS (by rw [f_MO_depth, if_pos h1_1]) (by rw [f_MO_depth, if_pos h1_1]) d_MO_depth_13
  · skip
    refine lv_iload_n hx hb d_MO_depth_4 rfl (lv_at hl 1 rfl) ?_
    refine lv_aload_n hx hb d_MO_depth_5 rfl (lv_at hl 0 rfl) ?_
    refine k_get (v := .int (nI n)) S in_MO hK hP 0 rfl rfl 0 (by decide) ql_MO_77 rfl d_MO_depth_6 ?_
    refine lv_icmp_lt (tgt := 14) hx hb d_MO_depth_9 (by decide) (fun h9_2 => ?_) (fun h9_2 => ?_)
    · skip
      refine lv_aload_n hx hb d_MO_depth_14 rfl (lv_at hl 0 rfl) ?_
      refine k_goi (ws' := [(a, .inr (7, [.int (nI n), .ref q_op, .ref q_arg, .int (nI hn), .ref q_handler, .ref q_depth, .ref q_over, .int x_flatCount, .ref q_flatOp, .ref q_flatArg, .int x_flatHandlers, .ref q_flatHandler, .int x_blockCount, .ref q_leader, .ref q_last, .ref q_height, .ref q_state, .ref q_begin, .ref q_drawn, .ref q_order, .int x_g, .ref q_starters, .int x_ran, .int x_ended, .int x_result, .int x_steps, .int x_emits, .ref q_emitted, .ref q_locals, .ref q_stack, .int x_top, .int x_at])), (q_op, .inl (cI, 32, .inl op)), (q_arg, .inl (cI, 32, .inl ar)), (q_handler, .inl (cI, 9, .inl hd)), (q_depth, .inl (cI, 32, .inl ((f_MO_check n hn op ar hd d ov).2.1))), (q_over, .inl (cZ, 32, .inl ((f_MO_check n hn op ar hd d ov).2.2)))]) (wr := []) (k_runV (q0 := 0) (As := []) (rest := []) (n := 0) S (c_MO_check l D cI cZ a q_op q_arg q_handler q_depth q_over q_flatOp q_flatArg q_flatHandler q_leader q_last q_height q_state q_begin q_drawn q_order q_starters q_emitted q_locals q_stack x_flatCount x_flatHandlers x_blockCount x_g x_ran x_ended x_result x_steps x_emits x_top x_at n hn op ar hd d ov (by omega) (by omega) (by omega) (by omega)) E0_b E0_t ql_MO_113 qi_MO_check qs_MO_check qn_MO qc_MO_check (by decide +kernel) rfl ⟨rfl, rfl⟩ ⟨Nat.le_of_ble_eq_true rfl, Nat.le_of_ble_eq_true rfl⟩ hK hP hD [0, 1, 2, 3, 4, 5] rfl (by decide) rfl rfl hl.1 rfl (Nat.le_of_ble_eq_true rfl) d_MO_depth_15 ⟨Nat.zero_le _, Nat.zero_le _⟩) hP hD hS hA [0, 1, 2, 3, 4, 5] [] [0, 1, 2, 3, 4, 5] rfl rfl (by decide) (by decide) rfl (by decide) (fun H locs hP hD hS => ?_)
      refine lv_pop hx hb d_MO_depth_18 rfl ?_
      refine lv_aload_n hx hb d_MO_depth_19 rfl (lv_at hl 0 rfl) ?_
      refine k_get (v := .ref q_depth) S in_MO hK hP 0 rfl rfl 5 (by decide) ql_MO_19 rfl d_MO_depth_20 ?_
      refine lv_iload_n hx hb d_MO_depth_23 rfl (lv_at hl 1 rfl) ?_
      refine k_top (y := nI (tn x)) (tn_eq (by assumption)) ?_
      refine k_ld (k := tn x) hx hb hK hP 4 0 rfl rfl rfl (Nat.lt_of_lt_of_le (tn_lt2 (by assumption) (by omega) (by assumption)) hh) (by decide) d_MO_depth_24 ?_
      exact k_iret hx hb hr hlocks hK hP hD hS (by rw [f_MO_depth, if_neg h1_1, if_pos h9_2]) (by rw [f_MO_depth, if_neg h1_1, if_pos h9_2]) d_MO_depth_25
    · skip
      refine lv_iconst (v := (-1)) hx hb d_MO_depth_12 (by decide) ?_
      exact k_iret hx hb hr hlocks hK hP hD hS (by rw [f_MO_depth, if_neg h1_1, if_neg h9_2]) (by rw [f_MO_depth, if_neg h1_1, if_neg h9_2]) d_MO_depth_13
