theorem d_FF_branches_0 : decode b_FF_branches 0 = .ok (.iload_n 0, 1) := by decide +kernel
theorem d_FF_branches_1 : decode b_FF_branches 1 = .ok (.bipush 14, 2) := by decide +kernel
theorem d_FF_branches_3 : decode b_FF_branches 3 = .ok (.if_icmp .eq 9, 3) := by decide +kernel
theorem d_FF_branches_6 : decode b_FF_branches 6 = .ok (.iload_n 0, 1) := by decide +kernel
theorem d_FF_branches_7 : decode b_FF_branches 7 = .ok (.bipush 15, 2) := by decide +kernel
theorem d_FF_branches_9 : decode b_FF_branches 9 = .ok (.if_icmp .ne 7, 3) := by decide +kernel
theorem d_FF_branches_12 : decode b_FF_branches 12 = .ok (.iconst 1, 1) := by decide +kernel
theorem d_FF_branches_13 : decode b_FF_branches 13 = .ok (.goto 4, 3) := by decide +kernel
theorem d_FF_branches_16 : decode b_FF_branches 16 = .ok (.iconst 0, 1) := by decide +kernel
theorem d_FF_branches_17 : decode b_FF_branches 17 = .ok (.ireturn, 1) := by decide +kernel
def f_FF_branches (o : Int32) : Int32 := (if o = 14 then 1 else (if o = 15 then 1 else 0))
set_option maxHeartbeats 1000000 in
set_option maxRecDepth 100000 in
theorem c_FF_branches (l : Launch) (D : va_G) (cI cZ : ClassId) (o : Int32) : MG l y_FF_branches w_FF_branches (rmK 0 0) D classes (tyz cI cZ) E0 [.int o] [] (RI D classes (tyz cI cZ) (f_FF_branches o) []) := by
  refine MG.of (cc := b_FF_branches) (maxL := 1) (ret := (some .boolean)) (own := "FlowFlattener") rfl (by decide) rfl (Nat.le_of_ble_eq_true rfl) ?_
  intro p e s m below meth c A ls S hr hlocks hA hP hK hD hS hE hl
  have hx := S.1
  have hb := S.2.1
  have hl : lv_has ls 1 [(0, .int o)] := hl
  refine lv_iload_n hx hb d_FF_branches_0 rfl (lv_at hl 0 rfl) ?_
  refine lv_bipush (v := 14) hx hb d_FF_branches_1 (by decide) ?_
  refine lv_icmp_eq (tgt := 12) hx hb d_FF_branches_3 (by decide) (fun h3_1 => ?_) (fun h3_1 => ?_)
  · skip
    refine lv_iconst (v := 1) hx hb d_FF_branches_12 (by decide) ?_
    refine lv_goto (tgt := 17) hx hb d_FF_branches_13 (by decide) ?_
    exact k_zret hx hb hr hlocks hK hP hD hS (by decide) (by rw [f_FF_branches, if_pos h3_1]) rfl d_FF_branches_17
  · skip
    refine lv_iload_n hx hb d_FF_branches_6 rfl (lv_at hl 0 rfl) ?_
    refine lv_bipush (v := 15) hx hb d_FF_branches_7 (by decide) ?_
    refine lv_icmp_ne (tgt := 16) hx hb d_FF_branches_9 (by decide) (fun h9_2 => ?_) (fun h9_2 => ?_)
    · skip
      refine lv_iconst (v := 0) hx hb d_FF_branches_16 (by decide) ?_
      exact k_zret hx hb hr hlocks hK hP hD hS (by decide) (by rw [f_FF_branches, if_neg h3_1, if_neg h9_2]) rfl d_FF_branches_17
    · skip
      refine lv_iconst (v := 1) hx hb d_FF_branches_12 (by decide) ?_
      refine lv_goto (tgt := 17) hx hb d_FF_branches_13 (by decide) ?_
      exact k_zret hx hb hr hlocks hK hP hD hS (by decide) (by rw [f_FF_branches, if_neg h3_1, if_pos h9_2]) rfl d_FF_branches_17

theorem d_FF_ends_0 : decode b_FF_ends 0 = .ok (.iload_n 0, 1) := by decide +kernel
theorem d_FF_ends_1 : decode b_FF_ends 1 = .ok (.bipush 16, 2) := by decide +kernel
theorem d_FF_ends_3 : decode b_FF_ends 3 = .ok (.if_icmp .eq 9, 3) := by decide +kernel
theorem d_FF_ends_6 : decode b_FF_ends 6 = .ok (.iload_n 0, 1) := by decide +kernel
theorem d_FF_ends_7 : decode b_FF_ends 7 = .ok (.bipush 17, 2) := by decide +kernel
theorem d_FF_ends_9 : decode b_FF_ends 9 = .ok (.if_icmp .ne 7, 3) := by decide +kernel
theorem d_FF_ends_12 : decode b_FF_ends 12 = .ok (.iconst 1, 1) := by decide +kernel
theorem d_FF_ends_13 : decode b_FF_ends 13 = .ok (.goto 4, 3) := by decide +kernel
theorem d_FF_ends_16 : decode b_FF_ends 16 = .ok (.iconst 0, 1) := by decide +kernel
theorem d_FF_ends_17 : decode b_FF_ends 17 = .ok (.ireturn, 1) := by decide +kernel
def f_FF_ends (o : Int32) : Int32 := (if o = 16 then 1 else (if o = 17 then 1 else 0))
set_option maxHeartbeats 1000000 in
set_option maxRecDepth 100000 in
theorem c_FF_ends (l : Launch) (D : va_G) (cI cZ : ClassId) (o : Int32) : MG l y_FF_ends w_FF_ends (rmK 0 0) D classes (tyz cI cZ) E0 [.int o] [] (RI D classes (tyz cI cZ) (f_FF_ends o) []) := by
  refine MG.of (cc := b_FF_ends) (maxL := 1) (ret := (some .boolean)) (own := "FlowFlattener") rfl (by decide) rfl (Nat.le_of_ble_eq_true rfl) ?_
  intro p e s m below meth c A ls S hr hlocks hA hP hK hD hS hE hl
  have hx := S.1
  have hb := S.2.1
  have hl : lv_has ls 1 [(0, .int o)] := hl
  refine lv_iload_n hx hb d_FF_ends_0 rfl (lv_at hl 0 rfl) ?_
  refine lv_bipush (v := 16) hx hb d_FF_ends_1 (by decide) ?_
  refine lv_icmp_eq (tgt := 12) hx hb d_FF_ends_3 (by decide) (fun h3_1 => ?_) (fun h3_1 => ?_)
  · skip
    refine lv_iconst (v := 1) hx hb d_FF_ends_12 (by decide) ?_
    refine lv_goto (tgt := 17) hx hb d_FF_ends_13 (by decide) ?_
    exact k_zret hx hb hr hlocks hK hP hD hS (by decide) (by rw [f_FF_ends, if_pos h3_1]) rfl d_FF_ends_17
  · skip
    refine lv_iload_n hx hb d_FF_ends_6 rfl (lv_at hl 0 rfl) ?_
    refine lv_bipush (v := 17) hx hb d_FF_ends_7 (by decide) ?_
    refine lv_icmp_ne (tgt := 16) hx hb d_FF_ends_9 (by decide) (fun h9_2 => ?_) (fun h9_2 => ?_)
    · skip
      refine lv_iconst (v := 0) hx hb d_FF_ends_16 (by decide) ?_
      exact k_zret hx hb hr hlocks hK hP hD hS (by decide) (by rw [f_FF_ends, if_neg h3_1, if_neg h9_2]) rfl d_FF_ends_17
    · skip
      refine lv_iconst (v := 1) hx hb d_FF_ends_12 (by decide) ?_
      refine lv_goto (tgt := 17) hx hb d_FF_ends_13 (by decide) ?_
      exact k_zret hx hb hr hlocks hK hP hD hS (by decide) (by rw [f_FF_ends, if_neg h3_1, if_pos h9_2]) rfl d_FF_ends_17

theorem d_FF_jumps_0 : decode b_FF_jumps 0 = .ok (.iload_n 0, 1) := by decide +kernel
theorem d_FF_jumps_1 : decode b_FF_jumps 1 = .ok (.bipush 13, 2) := by decide +kernel
theorem d_FF_jumps_3 : decode b_FF_jumps 3 = .ok (.if_icmp .eq 10, 3) := by decide +kernel
theorem d_FF_jumps_6 : decode b_FF_jumps 6 = .ok (.iload_n 0, 1) := by decide +kernel
theorem d_FF_jumps_7 : decode b_FF_jumps 7 = .ok (.invokestatic 160, 3) := by decide +kernel
theorem d_FF_jumps_10 : decode b_FF_jumps 10 = .ok (.ifCond .eq 7, 3) := by decide +kernel
theorem d_FF_jumps_13 : decode b_FF_jumps 13 = .ok (.iconst 1, 1) := by decide +kernel
theorem d_FF_jumps_14 : decode b_FF_jumps 14 = .ok (.goto 4, 3) := by decide +kernel
theorem d_FF_jumps_17 : decode b_FF_jumps 17 = .ok (.iconst 0, 1) := by decide +kernel
theorem d_FF_jumps_18 : decode b_FF_jumps 18 = .ok (.ireturn, 1) := by decide +kernel
def f_FF_jumps (o : Int32) : Int32 := (if o = 13 then 1 else (if f_FF_branches o = 0 then 0 else 1))
set_option maxHeartbeats 1000000 in
set_option maxRecDepth 100000 in
theorem c_FF_jumps (l : Launch) (D : va_G) (cI cZ : ClassId) (o : Int32) : MG l y_FF_jumps w_FF_jumps (rmK 1 20) D classes (tyz cI cZ) E0 [.int o] [] (RI D classes (tyz cI cZ) (f_FF_jumps o) []) := by
  refine MG.of (cc := b_FF_jumps) (maxL := 1) (ret := (some .boolean)) (own := "FlowFlattener") rfl (by decide) rfl (Nat.le_of_ble_eq_true rfl) ?_
  intro p e s m below meth c A ls S hr hlocks hA hP hK hD hS hE hl
  have hx := S.1
  have hb := S.2.1
  have hl : lv_has ls 1 [(0, .int o)] := hl
  refine lv_iload_n hx hb d_FF_jumps_0 rfl (lv_at hl 0 rfl) ?_
  refine lv_bipush (v := 13) hx hb d_FF_jumps_1 (by decide) ?_
  refine lv_icmp_eq (tgt := 13) hx hb d_FF_jumps_3 (by decide) (fun h3_1 => ?_) (fun h3_1 => ?_)
  · skip
    refine lv_iconst (v := 1) hx hb d_FF_jumps_13 (by decide) ?_
    refine lv_goto (tgt := 18) hx hb d_FF_jumps_14 (by decide) ?_
    exact k_zret hx hb hr hlocks hK hP hD hS (by decide) (by rw [f_FF_jumps, if_pos h3_1]) rfl d_FF_jumps_18
  · skip
    refine lv_iload_n hx hb d_FF_jumps_6 rfl (lv_at hl 0 rfl) ?_
    refine k_goi (ws' := []) (wr := []) (k_runS (As := [.int o]) (rest := []) (n := 1) S (c_FF_branches l D cI cZ o) E0_b E0_t ql_FF_160 qt_FF_branches qn_FF qc_FF_branches (by decide +kernel) rfl ⟨rfl, rfl⟩ ⟨Nat.le_of_ble_eq_true rfl, Nat.le_of_ble_eq_true rfl⟩ hK hP hD [] rfl (by decide) hl.1 rfl (Nat.le_of_ble_eq_true rfl) d_FF_jumps_7 ⟨Nat.zero_le _, Nat.zero_le _⟩) hP hD hS hA [] [] [] rfl rfl (by decide) (by decide) rfl (by decide) (fun H locs hP hD hS => ?_)
    refine lv_if_eq (tgt := 17) hx hb d_FF_jumps_10 (by decide) (fun h10_2 => ?_) (fun h10_2 => ?_)
    · skip
      refine lv_iconst (v := 0) hx hb d_FF_jumps_17 (by decide) ?_
      exact k_zret hx hb hr hlocks hK hP hD hS (by decide) (by rw [f_FF_jumps, if_neg h3_1, if_pos h10_2]) rfl d_FF_jumps_18
    · skip
      refine lv_iconst (v := 1) hx hb d_FF_jumps_13 (by decide) ?_
      refine lv_goto (tgt := 18) hx hb d_FF_jumps_14 (by decide) ?_
      exact k_zret hx hb hr hlocks hK hP hD hS (by decide) (by rw [f_FF_jumps, if_neg h3_1, if_neg h10_2]) rfl d_FF_jumps_18

theorem d_FF_goesToNext_0 : decode b_FF_goesToNext 0 = .ok (.iload_n 0, 1) := by decide +kernel
theorem d_FF_goesToNext_1 : decode b_FF_goesToNext 1 = .ok (.bipush 13, 2) := by decide +kernel
theorem d_FF_goesToNext_3 : decode b_FF_goesToNext 3 = .ok (.if_icmp .eq 14, 3) := by decide +kernel
theorem d_FF_goesToNext_6 : decode b_FF_goesToNext 6 = .ok (.iload_n 0, 1) := by decide +kernel
theorem d_FF_goesToNext_7 : decode b_FF_goesToNext 7 = .ok (.invokestatic 163, 3) := by decide +kernel
theorem d_FF_goesToNext_10 : decode b_FF_goesToNext 10 = .ok (.ifCond .ne 7, 3) := by decide +kernel
theorem d_FF_goesToNext_13 : decode b_FF_goesToNext 13 = .ok (.iconst 1, 1) := by decide +kernel
theorem d_FF_goesToNext_14 : decode b_FF_goesToNext 14 = .ok (.goto 4, 3) := by decide +kernel
theorem d_FF_goesToNext_17 : decode b_FF_goesToNext 17 = .ok (.iconst 0, 1) := by decide +kernel
theorem d_FF_goesToNext_18 : decode b_FF_goesToNext 18 = .ok (.ireturn, 1) := by decide +kernel
def f_FF_goesToNext (o : Int32) : Int32 := (if o = 13 then 0 else (if f_FF_ends o = 0 then 1 else 0))
set_option maxHeartbeats 1000000 in
set_option maxRecDepth 100000 in
theorem c_FF_goesToNext (l : Launch) (D : va_G) (cI cZ : ClassId) (o : Int32) : MG l y_FF_goesToNext w_FF_goesToNext (rmK 1 20) D classes (tyz cI cZ) E0 [.int o] [] (RI D classes (tyz cI cZ) (f_FF_goesToNext o) []) := by
  refine MG.of (cc := b_FF_goesToNext) (maxL := 1) (ret := (some .boolean)) (own := "FlowFlattener") rfl (by decide) rfl (Nat.le_of_ble_eq_true rfl) ?_
  intro p e s m below meth c A ls S hr hlocks hA hP hK hD hS hE hl
  have hx := S.1
  have hb := S.2.1
  have hl : lv_has ls 1 [(0, .int o)] := hl
  refine lv_iload_n hx hb d_FF_goesToNext_0 rfl (lv_at hl 0 rfl) ?_
  refine lv_bipush (v := 13) hx hb d_FF_goesToNext_1 (by decide) ?_
  refine lv_icmp_eq (tgt := 17) hx hb d_FF_goesToNext_3 (by decide) (fun h3_1 => ?_) (fun h3_1 => ?_)
  · skip
    refine lv_iconst (v := 0) hx hb d_FF_goesToNext_17 (by decide) ?_
    exact k_zret hx hb hr hlocks hK hP hD hS (by decide) (by rw [f_FF_goesToNext, if_pos h3_1]) rfl d_FF_goesToNext_18
  · skip
    refine lv_iload_n hx hb d_FF_goesToNext_6 rfl (lv_at hl 0 rfl) ?_
    refine k_goi (ws' := []) (wr := []) (k_runS (As := [.int o]) (rest := []) (n := 1) S (c_FF_ends l D cI cZ o) E0_b E0_t ql_FF_163 qt_FF_ends qn_FF qc_FF_ends (by decide +kernel) rfl ⟨rfl, rfl⟩ ⟨Nat.le_of_ble_eq_true rfl, Nat.le_of_ble_eq_true rfl⟩ hK hP hD [] rfl (by decide) hl.1 rfl (Nat.le_of_ble_eq_true rfl) d_FF_goesToNext_7 ⟨Nat.zero_le _, Nat.zero_le _⟩) hP hD hS hA [] [] [] rfl rfl (by decide) (by decide) rfl (by decide) (fun H locs hP hD hS => ?_)
    refine lv_if_ne (tgt := 17) hx hb d_FF_goesToNext_10 (by decide) (fun h10_2 => ?_) (fun h10_2 => ?_)
    · skip
      refine lv_iconst (v := 0) hx hb d_FF_goesToNext_17 (by decide) ?_
      exact k_zret hx hb hr hlocks hK hP hD hS (by decide) (by rw [f_FF_goesToNext, if_neg h3_1, if_neg h10_2]) rfl d_FF_goesToNext_18
    · skip
      refine lv_iconst (v := 1) hx hb d_FF_goesToNext_13 (by decide) ?_
      refine lv_goto (tgt := 18) hx hb d_FF_goesToNext_14 (by decide) ?_
      exact k_zret hx hb hr hlocks hK hP hD hS (by decide) (by rw [f_FF_goesToNext, if_neg h3_1, if_pos h10_2]) rfl d_FF_goesToNext_18

theorem d_FF_hasOperand_0 : decode b_FF_hasOperand 0 = .ok (.iload_n 0, 1) := by decide +kernel
theorem d_FF_hasOperand_1 : decode b_FF_hasOperand 1 = .ok (.ifCond .eq 20, 3) := by decide +kernel
theorem d_FF_hasOperand_4 : decode b_FF_hasOperand 4 = .ok (.iload_n 0, 1) := by decide +kernel
theorem d_FF_hasOperand_5 : decode b_FF_hasOperand 5 = .ok (.iconst 1, 1) := by decide +kernel
theorem d_FF_hasOperand_6 : decode b_FF_hasOperand 6 = .ok (.if_icmp .eq 15, 3) := by decide +kernel
theorem d_FF_hasOperand_9 : decode b_FF_hasOperand 9 = .ok (.iload_n 0, 1) := by decide +kernel
theorem d_FF_hasOperand_10 : decode b_FF_hasOperand 10 = .ok (.iconst 2, 1) := by decide +kernel
theorem d_FF_hasOperand_11 : decode b_FF_hasOperand 11 = .ok (.if_icmp .eq 10, 3) := by decide +kernel
theorem d_FF_hasOperand_14 : decode b_FF_hasOperand 14 = .ok (.iload_n 0, 1) := by decide +kernel
theorem d_FF_hasOperand_15 : decode b_FF_hasOperand 15 = .ok (.invokestatic 157, 3) := by decide +kernel
theorem d_FF_hasOperand_18 : decode b_FF_hasOperand 18 = .ok (.ifCond .eq 7, 3) := by decide +kernel
theorem d_FF_hasOperand_21 : decode b_FF_hasOperand 21 = .ok (.iconst 1, 1) := by decide +kernel
theorem d_FF_hasOperand_22 : decode b_FF_hasOperand 22 = .ok (.goto 4, 3) := by decide +kernel
theorem d_FF_hasOperand_25 : decode b_FF_hasOperand 25 = .ok (.iconst 0, 1) := by decide +kernel
theorem d_FF_hasOperand_26 : decode b_FF_hasOperand 26 = .ok (.ireturn, 1) := by decide +kernel
def f_FF_hasOperand (o : Int32) : Int32 := (if o = 0 then 1 else (if o = 1 then 1 else (if o = 2 then 1 else (if f_FF_jumps o = 0 then 0 else 1))))
set_option maxHeartbeats 1000000 in
set_option maxRecDepth 100000 in
theorem c_FF_hasOperand (l : Launch) (D : va_G) (cI cZ : ClassId) (o : Int32) : MG l y_FF_hasOperand w_FF_hasOperand (rmK 2 40) D classes (tyz cI cZ) E0 [.int o] [] (RI D classes (tyz cI cZ) (f_FF_hasOperand o) []) := by
  refine MG.of (cc := b_FF_hasOperand) (maxL := 1) (ret := (some .boolean)) (own := "FlowFlattener") rfl (by decide) rfl (Nat.le_of_ble_eq_true rfl) ?_
  intro p e s m below meth c A ls S hr hlocks hA hP hK hD hS hE hl
  have hx := S.1
  have hb := S.2.1
  have hl : lv_has ls 1 [(0, .int o)] := hl
  refine lv_iload_n hx hb d_FF_hasOperand_0 rfl (lv_at hl 0 rfl) ?_
  refine lv_if_eq (tgt := 21) hx hb d_FF_hasOperand_1 (by decide) (fun h1_1 => ?_) (fun h1_1 => ?_)
  · skip
    refine lv_iconst (v := 1) hx hb d_FF_hasOperand_21 (by decide) ?_
    refine lv_goto (tgt := 26) hx hb d_FF_hasOperand_22 (by decide) ?_
    exact k_zret hx hb hr hlocks hK hP hD hS (by decide) (by rw [f_FF_hasOperand, if_pos h1_1]) rfl d_FF_hasOperand_26
  · skip
    refine lv_iload_n hx hb d_FF_hasOperand_4 rfl (lv_at hl 0 rfl) ?_
    refine lv_iconst (v := 1) hx hb d_FF_hasOperand_5 (by decide) ?_
    refine lv_icmp_eq (tgt := 21) hx hb d_FF_hasOperand_6 (by decide) (fun h6_2 => ?_) (fun h6_2 => ?_)
    · skip
      refine lv_iconst (v := 1) hx hb d_FF_hasOperand_21 (by decide) ?_
      refine lv_goto (tgt := 26) hx hb d_FF_hasOperand_22 (by decide) ?_
      exact k_zret hx hb hr hlocks hK hP hD hS (by decide) (by rw [f_FF_hasOperand, if_neg h1_1, if_pos h6_2]) rfl d_FF_hasOperand_26
    · skip
      refine lv_iload_n hx hb d_FF_hasOperand_9 rfl (lv_at hl 0 rfl) ?_
      refine lv_iconst (v := 2) hx hb d_FF_hasOperand_10 (by decide) ?_
      refine lv_icmp_eq (tgt := 21) hx hb d_FF_hasOperand_11 (by decide) (fun h11_3 => ?_) (fun h11_3 => ?_)
      · skip
        refine lv_iconst (v := 1) hx hb d_FF_hasOperand_21 (by decide) ?_
        refine lv_goto (tgt := 26) hx hb d_FF_hasOperand_22 (by decide) ?_
        exact k_zret hx hb hr hlocks hK hP hD hS (by decide) (by rw [f_FF_hasOperand, if_neg h1_1, if_neg h6_2, if_pos h11_3]) rfl d_FF_hasOperand_26
      · skip
        refine lv_iload_n hx hb d_FF_hasOperand_14 rfl (lv_at hl 0 rfl) ?_
        refine k_goi (ws' := []) (wr := []) (k_runS (As := [.int o]) (rest := []) (n := 1) S (c_FF_jumps l D cI cZ o) E0_b E0_t ql_FF_157 qt_FF_jumps qn_FF qc_FF_jumps (by decide +kernel) rfl ⟨rfl, rfl⟩ ⟨Nat.le_of_ble_eq_true rfl, Nat.le_of_ble_eq_true rfl⟩ hK hP hD [] rfl (by decide) hl.1 rfl (Nat.le_of_ble_eq_true rfl) d_FF_hasOperand_15 ⟨Nat.zero_le _, Nat.zero_le _⟩) hP hD hS hA [] [] [] rfl rfl (by decide) (by decide) rfl (by decide) (fun H locs hP hD hS => ?_)
        refine lv_if_eq (tgt := 25) hx hb d_FF_hasOperand_18 (by decide) (fun h18_4 => ?_) (fun h18_4 => ?_)
        · skip
          refine lv_iconst (v := 0) hx hb d_FF_hasOperand_25 (by decide) ?_
          exact k_zret hx hb hr hlocks hK hP hD hS (by decide) (by rw [f_FF_hasOperand, if_neg h1_1, if_neg h6_2, if_neg h11_3, if_pos h18_4]) rfl d_FF_hasOperand_26
        · skip
          refine lv_iconst (v := 1) hx hb d_FF_hasOperand_21 (by decide) ?_
          refine lv_goto (tgt := 26) hx hb d_FF_hasOperand_22 (by decide) ?_
          exact k_zret hx hb hr hlocks hK hP hD hS (by decide) (by rw [f_FF_hasOperand, if_neg h1_1, if_neg h6_2, if_neg h11_3, if_neg h18_4]) rfl d_FF_hasOperand_26

theorem d_FF_takesOperand_0 : decode b_FF_takesOperand 0 = .ok (.iload_n 0, 1) := by decide +kernel
theorem d_FF_takesOperand_1 : decode b_FF_takesOperand 1 = .ok (.iconst 1, 1) := by decide +kernel
theorem d_FF_takesOperand_2 : decode b_FF_takesOperand 2 = .ok (.if_icmp .eq 8, 3) := by decide +kernel
theorem d_FF_takesOperand_5 : decode b_FF_takesOperand 5 = .ok (.iload_n 0, 1) := by decide +kernel
theorem d_FF_takesOperand_6 : decode b_FF_takesOperand 6 = .ok (.iconst 2, 1) := by decide +kernel
theorem d_FF_takesOperand_7 : decode b_FF_takesOperand 7 = .ok (.if_icmp .ne 18, 3) := by decide +kernel
theorem d_FF_takesOperand_10 : decode b_FF_takesOperand 10 = .ok (.iload_n 1, 1) := by decide +kernel
theorem d_FF_takesOperand_11 : decode b_FF_takesOperand 11 = .ok (.ifCond .lt 12, 3) := by decide +kernel
theorem d_FF_takesOperand_14 : decode b_FF_takesOperand 14 = .ok (.iload_n 1, 1) := by decide +kernel
theorem d_FF_takesOperand_15 : decode b_FF_takesOperand 15 = .ok (.iconst 4, 1) := by decide +kernel
theorem d_FF_takesOperand_16 : decode b_FF_takesOperand 16 = .ok (.if_icmp .ge 7, 3) := by decide +kernel
theorem d_FF_takesOperand_19 : decode b_FF_takesOperand 19 = .ok (.iconst 1, 1) := by decide +kernel
theorem d_FF_takesOperand_20 : decode b_FF_takesOperand 20 = .ok (.goto 4, 3) := by decide +kernel
theorem d_FF_takesOperand_23 : decode b_FF_takesOperand 23 = .ok (.iconst 0, 1) := by decide +kernel
theorem d_FF_takesOperand_24 : decode b_FF_takesOperand 24 = .ok (.ireturn, 1) := by decide +kernel
theorem d_FF_takesOperand_25 : decode b_FF_takesOperand 25 = .ok (.iload_n 0, 1) := by decide +kernel
theorem d_FF_takesOperand_26 : decode b_FF_takesOperand 26 = .ok (.invokestatic 157, 3) := by decide +kernel
theorem d_FF_takesOperand_29 : decode b_FF_takesOperand 29 = .ok (.ifCond .eq 13, 3) := by decide +kernel
theorem d_FF_takesOperand_32 : decode b_FF_takesOperand 32 = .ok (.iload_n 1, 1) := by decide +kernel
theorem d_FF_takesOperand_33 : decode b_FF_takesOperand 33 = .ok (.ifCond .lt 13, 3) := by decide +kernel
theorem d_FF_takesOperand_36 : decode b_FF_takesOperand 36 = .ok (.iload_n 1, 1) := by decide +kernel
theorem d_FF_takesOperand_37 : decode b_FF_takesOperand 37 = .ok (.bipush 32, 2) := by decide +kernel
theorem d_FF_takesOperand_39 : decode b_FF_takesOperand 39 = .ok (.if_icmp .ge 7, 3) := by decide +kernel
theorem d_FF_takesOperand_42 : decode b_FF_takesOperand 42 = .ok (.iconst 1, 1) := by decide +kernel
theorem d_FF_takesOperand_43 : decode b_FF_takesOperand 43 = .ok (.goto 4, 3) := by decide +kernel
theorem d_FF_takesOperand_46 : decode b_FF_takesOperand 46 = .ok (.iconst 0, 1) := by decide +kernel
theorem d_FF_takesOperand_47 : decode b_FF_takesOperand 47 = .ok (.ireturn, 1) := by decide +kernel
def f_FF_takesOperand (o : Int32) (b : Int32) : Int32 := (if o = 1 then (if b < 0 then 0 else (if 4 ≤ b then 0 else 1)) else (if o = 2 then (if b < 0 then 0 else (if 4 ≤ b then 0 else 1)) else (if f_FF_jumps o = 0 then 1 else (if b < 0 then 0 else (if 32 ≤ b then 0 else 1)))))
set_option maxHeartbeats 1000000 in
set_option maxRecDepth 100000 in
theorem c_FF_takesOperand (l : Launch) (D : va_G) (cI cZ : ClassId) (o b : Int32) : MG l y_FF_takesOperand w_FF_takesOperand (rmK 2 40) D classes (tyz cI cZ) E0 [.int o, .int b] [] (RI D classes (tyz cI cZ) (f_FF_takesOperand o b) []) := by
  refine MG.of (cc := b_FF_takesOperand) (maxL := 2) (ret := (some .boolean)) (own := "FlowFlattener") rfl (by decide) rfl (Nat.le_of_ble_eq_true rfl) ?_
  intro p e s m below meth c A ls S hr hlocks hA hP hK hD hS hE hl
  have hx := S.1
  have hb := S.2.1
  have hl : lv_has ls 2 [(0, .int o), (1, .int b)] := hl
  refine lv_iload_n hx hb d_FF_takesOperand_0 rfl (lv_at hl 0 rfl) ?_
  refine lv_iconst (v := 1) hx hb d_FF_takesOperand_1 (by decide) ?_
  refine lv_icmp_eq (tgt := 10) hx hb d_FF_takesOperand_2 (by decide) (fun h2_1 => ?_) (fun h2_1 => ?_)
  · skip
    refine lv_iload_n hx hb d_FF_takesOperand_10 rfl (lv_at hl 1 rfl) ?_
    refine lv_if_lt (tgt := 23) hx hb d_FF_takesOperand_11 (by decide) (fun h11_2 => ?_) (fun h11_2 => ?_)
    · skip
      refine lv_iconst (v := 0) hx hb d_FF_takesOperand_23 (by decide) ?_
      exact k_zret hx hb hr hlocks hK hP hD hS (by decide) (by rw [f_FF_takesOperand, if_pos h2_1, if_pos h11_2]) rfl d_FF_takesOperand_24
    · skip
      refine lv_iload_n hx hb d_FF_takesOperand_14 rfl (lv_at hl 1 rfl) ?_
      refine lv_iconst (v := 4) hx hb d_FF_takesOperand_15 (by decide) ?_
      refine lv_icmp_ge (tgt := 23) hx hb d_FF_takesOperand_16 (by decide) (fun h16_3 => ?_) (fun h16_3 => ?_)
      · skip
        refine lv_iconst (v := 0) hx hb d_FF_takesOperand_23 (by decide) ?_
        exact k_zret hx hb hr hlocks hK hP hD hS (by decide) (by rw [f_FF_takesOperand, if_pos h2_1, if_neg h11_2, if_pos h16_3]) rfl d_FF_takesOperand_24
      · skip
        refine lv_iconst (v := 1) hx hb d_FF_takesOperand_19 (by decide) ?_
        refine lv_goto (tgt := 24) hx hb d_FF_takesOperand_20 (by decide) ?_
        exact k_zret hx hb hr hlocks hK hP hD hS (by decide) (by rw [f_FF_takesOperand, if_pos h2_1, if_neg h11_2, if_neg h16_3]) rfl d_FF_takesOperand_24
  · skip
    refine lv_iload_n hx hb d_FF_takesOperand_5 rfl (lv_at hl 0 rfl) ?_
    refine lv_iconst (v := 2) hx hb d_FF_takesOperand_6 (by decide) ?_
    refine lv_icmp_ne (tgt := 25) hx hb d_FF_takesOperand_7 (by decide) (fun h7_4 => ?_) (fun h7_4 => ?_)
    · skip
      refine lv_iload_n hx hb d_FF_takesOperand_25 rfl (lv_at hl 0 rfl) ?_
      refine k_goi (ws' := []) (wr := []) (k_runS (As := [.int o]) (rest := []) (n := 1) S (c_FF_jumps l D cI cZ o) E0_b E0_t ql_FF_157 qt_FF_jumps qn_FF qc_FF_jumps (by decide +kernel) rfl ⟨rfl, rfl⟩ ⟨Nat.le_of_ble_eq_true rfl, Nat.le_of_ble_eq_true rfl⟩ hK hP hD [] rfl (by decide) hl.1 rfl (Nat.le_of_ble_eq_true rfl) d_FF_takesOperand_26 ⟨Nat.zero_le _, Nat.zero_le _⟩) hP hD hS hA [] [] [] rfl rfl (by decide) (by decide) rfl (by decide) (fun H locs hP hD hS => ?_)
      refine lv_if_eq (tgt := 42) hx hb d_FF_takesOperand_29 (by decide) (fun h29_5 => ?_) (fun h29_5 => ?_)
      · skip
        refine lv_iconst (v := 1) hx hb d_FF_takesOperand_42 (by decide) ?_
        refine lv_goto (tgt := 47) hx hb d_FF_takesOperand_43 (by decide) ?_
        exact k_zret hx hb hr hlocks hK hP hD hS (by decide) (by rw [f_FF_takesOperand, if_neg h2_1, if_neg h7_4, if_pos h29_5]) rfl d_FF_takesOperand_47
      · skip
        refine lv_iload_n hx hb d_FF_takesOperand_32 rfl (lv_at hl 1 rfl) ?_
        refine lv_if_lt (tgt := 46) hx hb d_FF_takesOperand_33 (by decide) (fun h33_6 => ?_) (fun h33_6 => ?_)
        · skip
          refine lv_iconst (v := 0) hx hb d_FF_takesOperand_46 (by decide) ?_
          exact k_zret hx hb hr hlocks hK hP hD hS (by decide) (by rw [f_FF_takesOperand, if_neg h2_1, if_neg h7_4, if_neg h29_5, if_pos h33_6]) rfl d_FF_takesOperand_47
        · skip
          refine lv_iload_n hx hb d_FF_takesOperand_36 rfl (lv_at hl 1 rfl) ?_
          refine lv_bipush (v := 32) hx hb d_FF_takesOperand_37 (by decide) ?_
          refine lv_icmp_ge (tgt := 46) hx hb d_FF_takesOperand_39 (by decide) (fun h39_7 => ?_) (fun h39_7 => ?_)
          · skip
            refine lv_iconst (v := 0) hx hb d_FF_takesOperand_46 (by decide) ?_
            exact k_zret hx hb hr hlocks hK hP hD hS (by decide) (by rw [f_FF_takesOperand, if_neg h2_1, if_neg h7_4, if_neg h29_5, if_neg h33_6, if_pos h39_7]) rfl d_FF_takesOperand_47
          · skip
            refine lv_iconst (v := 1) hx hb d_FF_takesOperand_42 (by decide) ?_
            refine lv_goto (tgt := 47) hx hb d_FF_takesOperand_43 (by decide) ?_
            exact k_zret hx hb hr hlocks hK hP hD hS (by decide) (by rw [f_FF_takesOperand, if_neg h2_1, if_neg h7_4, if_neg h29_5, if_neg h33_6, if_neg h39_7]) rfl d_FF_takesOperand_47
    · skip
      refine lv_iload_n hx hb d_FF_takesOperand_10 rfl (lv_at hl 1 rfl) ?_
      refine lv_if_lt (tgt := 23) hx hb d_FF_takesOperand_11 (by decide) (fun h11_8 => ?_) (fun h11_8 => ?_)
      · skip
        refine lv_iconst (v := 0) hx hb d_FF_takesOperand_23 (by decide) ?_
        exact k_zret hx hb hr hlocks hK hP hD hS (by decide) (by rw [f_FF_takesOperand, if_neg h2_1, if_pos h7_4, if_pos h11_8]) rfl d_FF_takesOperand_24
      · skip
        refine lv_iload_n hx hb d_FF_takesOperand_14 rfl (lv_at hl 1 rfl) ?_
        refine lv_iconst (v := 4) hx hb d_FF_takesOperand_15 (by decide) ?_
        refine lv_icmp_ge (tgt := 23) hx hb d_FF_takesOperand_16 (by decide) (fun h16_9 => ?_) (fun h16_9 => ?_)
        · skip
          refine lv_iconst (v := 0) hx hb d_FF_takesOperand_23 (by decide) ?_
          exact k_zret hx hb hr hlocks hK hP hD hS (by decide) (by rw [f_FF_takesOperand, if_neg h2_1, if_pos h7_4, if_neg h11_8, if_pos h16_9]) rfl d_FF_takesOperand_24
        · skip
          refine lv_iconst (v := 1) hx hb d_FF_takesOperand_19 (by decide) ?_
          refine lv_goto (tgt := 24) hx hb d_FF_takesOperand_20 (by decide) ?_
          exact k_zret hx hb hr hlocks hK hP hD hS (by decide) (by rw [f_FF_takesOperand, if_neg h2_1, if_pos h7_4, if_neg h11_8, if_neg h16_9]) rfl d_FF_takesOperand_24

theorem d_FF_isPlace_0 : decode b_FF_isPlace 0 = .ok (.iload_n 0, 1) := by decide +kernel
theorem d_FF_isPlace_1 : decode b_FF_isPlace 1 = .ok (.ifCond .lt 13, 3) := by decide +kernel
theorem d_FF_isPlace_4 : decode b_FF_isPlace 4 = .ok (.iload_n 0, 1) := by decide +kernel
theorem d_FF_isPlace_5 : decode b_FF_isPlace 5 = .ok (.bipush 32, 2) := by decide +kernel
theorem d_FF_isPlace_7 : decode b_FF_isPlace 7 = .ok (.if_icmp .gt 7, 3) := by decide +kernel
theorem d_FF_isPlace_10 : decode b_FF_isPlace 10 = .ok (.iconst 1, 1) := by decide +kernel
theorem d_FF_isPlace_11 : decode b_FF_isPlace 11 = .ok (.goto 4, 3) := by decide +kernel
theorem d_FF_isPlace_14 : decode b_FF_isPlace 14 = .ok (.iconst 0, 1) := by decide +kernel
theorem d_FF_isPlace_15 : decode b_FF_isPlace 15 = .ok (.ireturn, 1) := by decide +kernel
def f_FF_isPlace (x : Int32) : Int32 := (if x < 0 then 0 else (if 32 < x then 0 else 1))
set_option maxHeartbeats 1000000 in
set_option maxRecDepth 100000 in
theorem c_FF_isPlace (l : Launch) (D : va_G) (cI cZ : ClassId) (x : Int32) : MG l y_FF_isPlace w_FF_isPlace (rmK 0 0) D classes (tyz cI cZ) E0 [.int x] [] (RI D classes (tyz cI cZ) (f_FF_isPlace x) []) := by
  refine MG.of (cc := b_FF_isPlace) (maxL := 1) (ret := (some .boolean)) (own := "FlowFlattener") rfl (by decide) rfl (Nat.le_of_ble_eq_true rfl) ?_
  intro p e s m below meth c A ls S hr hlocks hA hP hK hD hS hE hl
  have hx := S.1
  have hb := S.2.1
  have hl : lv_has ls 1 [(0, .int x)] := hl
  refine lv_iload_n hx hb d_FF_isPlace_0 rfl (lv_at hl 0 rfl) ?_
  refine lv_if_lt (tgt := 14) hx hb d_FF_isPlace_1 (by decide) (fun h1_1 => ?_) (fun h1_1 => ?_)
  · skip
    refine lv_iconst (v := 0) hx hb d_FF_isPlace_14 (by decide) ?_
    exact k_zret hx hb hr hlocks hK hP hD hS (by decide) (by rw [f_FF_isPlace, if_pos h1_1]) rfl d_FF_isPlace_15
  · skip
    refine lv_iload_n hx hb d_FF_isPlace_4 rfl (lv_at hl 0 rfl) ?_
    refine lv_bipush (v := 32) hx hb d_FF_isPlace_5 (by decide) ?_
    refine lv_icmp_gt (tgt := 14) hx hb d_FF_isPlace_7 (by decide) (fun h7_2 => ?_) (fun h7_2 => ?_)
    · skip
      refine lv_iconst (v := 0) hx hb d_FF_isPlace_14 (by decide) ?_
      exact k_zret hx hb hr hlocks hK hP hD hS (by decide) (by rw [f_FF_isPlace, if_neg h1_1, if_pos h7_2]) rfl d_FF_isPlace_15
    · skip
      refine lv_iconst (v := 1) hx hb d_FF_isPlace_10 (by decide) ?_
      refine lv_goto (tgt := 15) hx hb d_FF_isPlace_11 (by decide) ?_
      exact k_zret hx hb hr hlocks hK hP hD hS (by decide) (by rw [f_FF_isPlace, if_neg h1_1, if_neg h7_2]) rfl d_FF_isPlace_15

theorem d_CO_has_0 : decode b_CO_has 0 = .ok (.iload_n 1, 1) := by decide +kernel
theorem d_CO_has_1 : decode b_CO_has 1 = .ok (.ifCond .lt 15, 3) := by decide +kernel
theorem d_CO_has_4 : decode b_CO_has 4 = .ok (.iload_n 1, 1) := by decide +kernel
theorem d_CO_has_5 : decode b_CO_has 5 = .ok (.aload_n 0, 1) := by decide +kernel
theorem d_CO_has_6 : decode b_CO_has 6 = .ok (.getfield 27, 3) := by decide +kernel
theorem d_CO_has_9 : decode b_CO_has 9 = .ok (.if_icmp .ge 7, 3) := by decide +kernel
theorem d_CO_has_12 : decode b_CO_has 12 = .ok (.iconst 1, 1) := by decide +kernel
theorem d_CO_has_13 : decode b_CO_has 13 = .ok (.goto 4, 3) := by decide +kernel
theorem d_CO_has_16 : decode b_CO_has 16 = .ok (.iconst 0, 1) := by decide +kernel
theorem d_CO_has_17 : decode b_CO_has 17 = .ok (.ireturn, 1) := by decide +kernel
def f_CO_has (n : Nat) (i : Nat) : Int32 := (if n ≤ i then 0 else 1)
set_option maxHeartbeats 1000000 in
set_option maxRecDepth 100000 in
theorem c_CO_has (l : Launch) (D : va_G) (cI cZ : ClassId) (oc oc_ops oc_opd oc_fr oc_to oc_tg n hn : Nat) (i : Nat) (hi : i < 2 ^ 31) (hn31 : n < 2 ^ 31) : MG l y_CO_has w_CO_has (rmK 0 0) D classes (tyz cI cZ) E0 [.ref oc, .int (nI i)] [(oc, .inr (1, [.ref oc_ops, .ref oc_opd, .ref oc_fr, .ref oc_to, .ref oc_tg, .int (nI n), .int (nI hn)]))] (RI D classes (tyz cI cZ) (f_CO_has n i) [(oc, .inr (1, [.ref oc_ops, .ref oc_opd, .ref oc_fr, .ref oc_to, .ref oc_tg, .int (nI n), .int (nI hn)]))]) := by
  refine MG.of (cc := b_CO_has) (maxL := 2) (ret := (some .boolean)) (own := "FlowFlattener$Code") rfl (by decide) rfl (Nat.le_of_ble_eq_true rfl) ?_
  intro p e s m below meth c A ls S hr hlocks hA hP hK hD hS hE hl
  have hx := S.1
  have hb := S.2.1
  have hl : lv_has ls 2 [(0, .ref oc), (1, .int (nI i))] := hl
  refine lv_iload_n hx hb d_CO_has_0 rfl (lv_at hl 1 rfl) ?_
  refine lv_if_lt (tgt := 16) hx hb d_CO_has_1 (by decide) (fun h1_1 => absurd h1_1 (nI_pos (by omega))) (fun h1_1 => ?_)
  refine lv_iload_n hx hb d_CO_has_4 rfl (lv_at hl 1 rfl) ?_
  refine lv_aload_n hx hb d_CO_has_5 rfl (lv_at hl 0 rfl) ?_
  refine k_get (v := .int (nI n)) S in_CO hK hP 0 rfl rfl 5 (by decide) ql_CO_27 rfl d_CO_has_6 ?_
  refine n_icmp_ge (tgt := 16) (x := i) (y := n) hx hb rfl rfl (by omega) (by omega) d_CO_has_9 (by decide) (fun h9_2 => ?_) (fun h9_2 => ?_)
  · skip
    refine lv_iconst (v := 0) hx hb d_CO_has_16 (by decide) ?_
    exact k_zret hx hb hr hlocks hK hP hD hS (by decide) (by rw [f_CO_has, if_pos h9_2]) rfl d_CO_has_17
  · skip
    refine lv_iconst (v := 1) hx hb d_CO_has_12 (by decide) ?_
    refine lv_goto (tgt := 17) hx hb d_CO_has_13 (by decide) ?_
    exact k_zret hx hb hr hlocks hK hP hD hS (by decide) (by rw [f_CO_has, if_neg (show ¬ (n ≤ i) by omega)]) rfl d_CO_has_17

theorem has_lt {n i : Nat} (h : ¬ f_CO_has n i = 0) : i < n := by
  unfold f_CO_has at h
  split at h
  · exact absurd rfl h
  · omega

def f_CO_hasI (n : Nat) (x : Int32) : Int32 := (if x < 0 then 0 else (if nI n ≤ x then 0 else 1))
set_option maxHeartbeats 1000000 in
set_option maxRecDepth 100000 in
theorem c_CO_hasI (l : Launch) (D : va_G) (cI cZ : ClassId) (oc oc_ops oc_opd oc_fr oc_to oc_tg n hn : Nat) (x : Int32) : MG l y_CO_has w_CO_has (rmK 0 0) D classes (tyz cI cZ) E0 [.ref oc, .int x] [(oc, .inr (1, [.ref oc_ops, .ref oc_opd, .ref oc_fr, .ref oc_to, .ref oc_tg, .int (nI n), .int (nI hn)]))] (RI D classes (tyz cI cZ) (f_CO_hasI n x) [(oc, .inr (1, [.ref oc_ops, .ref oc_opd, .ref oc_fr, .ref oc_to, .ref oc_tg, .int (nI n), .int (nI hn)]))]) := by
  refine MG.of (cc := b_CO_has) (maxL := 2) (ret := (some .boolean)) (own := "FlowFlattener$Code") rfl (by decide) rfl (Nat.le_of_ble_eq_true rfl) ?_
  intro p e s m below meth c A ls S hr hlocks hA hP hK hD hS hE hl
  have hx := S.1
  have hb := S.2.1
  have hl : lv_has ls 2 [(0, .ref oc), (1, .int x)] := hl
  refine lv_iload_n hx hb d_CO_has_0 rfl (lv_at hl 1 rfl) ?_
  refine lv_if_lt (tgt := 16) hx hb d_CO_has_1 (by decide) (fun h1_1 => ?_) (fun h1_1 => ?_)
  · skip
    refine lv_iconst (v := 0) hx hb d_CO_has_16 (by decide) ?_
    exact k_zret hx hb hr hlocks hK hP hD hS (by decide) (by rw [f_CO_hasI, if_pos h1_1]) rfl d_CO_has_17
  · skip
    refine lv_iload_n hx hb d_CO_has_4 rfl (lv_at hl 1 rfl) ?_
    refine lv_aload_n hx hb d_CO_has_5 rfl (lv_at hl 0 rfl) ?_
    refine k_get (v := .int (nI n)) S in_CO hK hP 0 rfl rfl 5 (by decide) ql_CO_27 rfl d_CO_has_6 ?_
    refine lv_icmp_ge (tgt := 16) hx hb d_CO_has_9 (by decide) (fun h9_2 => ?_) (fun h9_2 => ?_)
    · skip
      refine lv_iconst (v := 0) hx hb d_CO_has_16 (by decide) ?_
      exact k_zret hx hb hr hlocks hK hP hD hS (by decide) (by rw [f_CO_hasI, if_neg h1_1, if_pos h9_2]) rfl d_CO_has_17
    · skip
      refine lv_iconst (v := 1) hx hb d_CO_has_12 (by decide) ?_
      refine lv_goto (tgt := 17) hx hb d_CO_has_13 (by decide) ?_
      exact k_zret hx hb hr hlocks hK hP hD hS (by decide) (by rw [f_CO_hasI, if_neg h1_1, if_neg h9_2]) rfl d_CO_has_17

theorem d_CO_empty_0 : decode b_CO_empty 0 = .ok (.aload_n 0, 1) := by decide +kernel
theorem d_CO_empty_1 : decode b_CO_empty 1 = .ok (.iconst 0, 1) := by decide +kernel
theorem d_CO_empty_2 : decode b_CO_empty 2 = .ok (.putfield 27, 3) := by decide +kernel
theorem d_CO_empty_5 : decode b_CO_empty 5 = .ok (.aload_n 0, 1) := by decide +kernel
theorem d_CO_empty_6 : decode b_CO_empty 6 = .ok (.iconst 0, 1) := by decide +kernel
theorem d_CO_empty_7 : decode b_CO_empty 7 = .ok (.putfield 31, 3) := by decide +kernel
theorem d_CO_empty_10 : decode b_CO_empty 10 = .ok (.return_, 1) := by decide +kernel
set_option maxHeartbeats 1000000 in
set_option maxRecDepth 100000 in
theorem c_CO_empty (l : Launch) (D : va_G) (cI cZ : ClassId) (oc oc_ops oc_opd oc_fr oc_to oc_tg n hn : Nat) : MG l y_CO_empty w_CO_empty (rmK 0 0) D classes (tyz cI cZ) E0 [.ref oc] [(oc, .inr (1, [.ref oc_ops, .ref oc_opd, .ref oc_fr, .ref oc_to, .ref oc_tg, .int (nI n), .int (nI hn)]))] (RV D classes (tyz cI cZ) [(oc, .inr (1, [.ref oc_ops, .ref oc_opd, .ref oc_fr, .ref oc_to, .ref oc_tg, .int (nI 0), .int (nI 0)]))]) := by
  refine MG.of (cc := b_CO_empty) (maxL := 1) (ret := none) (own := "FlowFlattener$Code") rfl (by decide) rfl (Nat.le_of_ble_eq_true rfl) ?_
  intro p e s m below meth c A ls S hr hlocks hA hP hK hD hS hE hl
  have hx := S.1
  have hb := S.2.1
  have hl : lv_has ls 1 [(0, .ref oc)] := hl
  refine lv_aload_n hx hb d_CO_empty_0 rfl (lv_at hl 0 rfl) ?_
  refine lv_iconst (v := nI 0) hx hb d_CO_empty_1 (by decide) ?_
  refine k_put (v := .int (nI 0)) (ws' := [(oc, .inr (1, [.ref oc_ops, .ref oc_opd, .ref oc_fr, .ref oc_to, .ref oc_tg, .int (nI 0), .int (nI hn)]))]) S in_CO ty_CO nm_CO hK hP hD hS 0 rfl rfl 5 (by decide) ql_CO_27 rfl rfl rfl rfl (Nat.le_of_ble_eq_true rfl) rfl d_CO_empty_2 (fun H locs hP hD hS => ?_)
  refine lv_aload_n hx hb d_CO_empty_5 rfl (lv_at hl 0 rfl) ?_
  refine lv_iconst (v := nI 0) hx hb d_CO_empty_6 (by decide) ?_
  refine k_put (v := .int (nI 0)) (ws' := [(oc, .inr (1, [.ref oc_ops, .ref oc_opd, .ref oc_fr, .ref oc_to, .ref oc_tg, .int (nI 0), .int (nI 0)]))]) S in_CO ty_CO nm_CO hK hP hD hS 0 rfl rfl 6 (by decide) ql_CO_31 rfl rfl rfl rfl (Nat.le_of_ble_eq_true rfl) rfl d_CO_empty_7 (fun H locs hP hD hS => ?_)
  exact k_vret hx hb hr hlocks hK hP hD hS rfl d_CO_empty_10

theorem d_CO_append_0 : decode b_CO_append 0 = .ok (.aload_n 0, 1) := by decide +kernel
theorem d_CO_append_1 : decode b_CO_append 1 = .ok (.getfield 27, 3) := by decide +kernel
theorem d_CO_append_4 : decode b_CO_append 4 = .ok (.aload_n 0, 1) := by decide +kernel
theorem d_CO_append_5 : decode b_CO_append 5 = .ok (.getfield 9, 3) := by decide +kernel
theorem d_CO_append_8 : decode b_CO_append 8 = .ok (.arraylength, 1) := by decide +kernel
theorem d_CO_append_9 : decode b_CO_append 9 = .ok (.if_icmp .ge 33, 3) := by decide +kernel
theorem d_CO_append_12 : decode b_CO_append 12 = .ok (.aload_n 0, 1) := by decide +kernel
theorem d_CO_append_13 : decode b_CO_append 13 = .ok (.getfield 9, 3) := by decide +kernel
theorem d_CO_append_16 : decode b_CO_append 16 = .ok (.aload_n 0, 1) := by decide +kernel
theorem d_CO_append_17 : decode b_CO_append 17 = .ok (.getfield 27, 3) := by decide +kernel
theorem d_CO_append_20 : decode b_CO_append 20 = .ok (.iload_n 1, 1) := by decide +kernel
theorem d_CO_append_21 : decode b_CO_append 21 = .ok (.iastore, 1) := by decide +kernel
theorem d_CO_append_22 : decode b_CO_append 22 = .ok (.aload_n 0, 1) := by decide +kernel
theorem d_CO_append_23 : decode b_CO_append 23 = .ok (.getfield 15, 3) := by decide +kernel
theorem d_CO_append_26 : decode b_CO_append 26 = .ok (.aload_n 0, 1) := by decide +kernel
theorem d_CO_append_27 : decode b_CO_append 27 = .ok (.getfield 27, 3) := by decide +kernel
theorem d_CO_append_30 : decode b_CO_append 30 = .ok (.iload_n 2, 1) := by decide +kernel
theorem d_CO_append_31 : decode b_CO_append 31 = .ok (.iastore, 1) := by decide +kernel
theorem d_CO_append_32 : decode b_CO_append 32 = .ok (.aload_n 0, 1) := by decide +kernel
theorem d_CO_append_33 : decode b_CO_append 33 = .ok (.dup, 1) := by decide +kernel
theorem d_CO_append_34 : decode b_CO_append 34 = .ok (.getfield 27, 3) := by decide +kernel
theorem d_CO_append_37 : decode b_CO_append 37 = .ok (.iconst 1, 1) := by decide +kernel
theorem d_CO_append_38 : decode b_CO_append 38 = .ok (.iadd, 1) := by decide +kernel
theorem d_CO_append_39 : decode b_CO_append 39 = .ok (.putfield 27, 3) := by decide +kernel
theorem d_CO_append_42 : decode b_CO_append 42 = .ok (.return_, 1) := by decide +kernel
set_option maxHeartbeats 1000000 in
set_option maxRecDepth 100000 in
theorem c_CO_append (l : Launch) (D : va_G) (cI cZ : ClassId) (oc oc_ops oc_opd oc_fr oc_to oc_tg n hn : Nat) (z : Nat) (f g : Nat → Int32) (o b : Int32) (hz : n < z) (hz2 : z < 2 ^ 31) : MG l y_CO_append w_CO_append (rmK 0 0) D classes (tyz cI cZ) E0 [.ref oc, .int o, .int b] [(oc, .inr (1, [.ref oc_ops, .ref oc_opd, .ref oc_fr, .ref oc_to, .ref oc_tg, .int (nI n), .int (nI hn)])), (oc_ops, .inl (cI, z, .inl f)), (oc_opd, .inl (cI, z, .inl g))] (RV D classes (tyz cI cZ) [(oc, .inr (1, [.ref oc_ops, .ref oc_opd, .ref oc_fr, .ref oc_to, .ref oc_tg, .int (nI (n + 1)), .int (nI hn)])), (oc_ops, .inl (cI, z, .inl (upd f n o))), (oc_opd, .inl (cI, z, .inl (upd g n b)))]) := by
  refine MG.of (cc := b_CO_append) (maxL := 3) (ret := none) (own := "FlowFlattener$Code") rfl (by decide) rfl (Nat.le_of_ble_eq_true rfl) ?_
  intro p e s m below meth c A ls S hr hlocks hA hP hK hD hS hE hl
  have hx := S.1
  have hb := S.2.1
  have hl : lv_has ls 3 [(0, .ref oc), (1, .int o), (2, .int b)] := hl
  refine lv_aload_n hx hb d_CO_append_0 rfl (lv_at hl 0 rfl) ?_
  refine k_get (v := .int (nI n)) S in_CO hK hP 0 rfl rfl 5 (by decide) ql_CO_27 rfl d_CO_append_1 ?_
  refine lv_aload_n hx hb d_CO_append_4 rfl (lv_at hl 0 rfl) ?_
  refine k_get (v := .ref oc_ops) S in_CO hK hP 0 rfl rfl 0 (by decide) ql_CO_9 rfl d_CO_append_5 ?_
  refine va_alen (v := nI z) hx hb hK hP 1 0 rfl rfl rfl d_CO_append_8 ?_
  refine n_icmp_ge (tgt := 42) (x := n) (y := z) hx hb rfl rfl (by omega) (by omega) d_CO_append_9 (by decide) (fun h9_1 => absurd h9_1 (by omega)) (fun h9_1 => ?_)
  refine lv_aload_n hx hb d_CO_append_12 rfl (lv_at hl 0 rfl) ?_
  refine k_get (v := .ref oc_ops) S in_CO hK hP 0 rfl rfl 0 (by decide) ql_CO_9 rfl d_CO_append_13 ?_
  refine lv_aload_n hx hb d_CO_append_16 rfl (lv_at hl 0 rfl) ?_
  refine k_get (v := .int (nI n)) S in_CO hK hP 0 rfl rfl 5 (by decide) ql_CO_27 rfl d_CO_append_17 ?_
  refine lv_iload_n hx hb d_CO_append_20 rfl (lv_at hl 1 rfl) ?_
  refine k_st (k := n) (x := o) (ws' := [(oc, .inr (1, [.ref oc_ops, .ref oc_opd, .ref oc_fr, .ref oc_to, .ref oc_tg, .int (nI n), .int (nI hn)])), (oc_ops, .inl (cI, z, .inl (upd f n o))), (oc_opd, .inl (cI, z, .inl g))]) hx hb hK hP hD hS 1 0 rfl rfl rfl (by omega) (by omega) rfl d_CO_append_21 (fun H locs hP hD hS => ?_)
  refine lv_aload_n hx hb d_CO_append_22 rfl (lv_at hl 0 rfl) ?_
  refine k_get (v := .ref oc_opd) S in_CO hK hP 0 rfl rfl 1 (by decide) ql_CO_15 rfl d_CO_append_23 ?_
  refine lv_aload_n hx hb d_CO_append_26 rfl (lv_at hl 0 rfl) ?_
  refine k_get (v := .int (nI n)) S in_CO hK hP 0 rfl rfl 5 (by decide) ql_CO_27 rfl d_CO_append_27 ?_
  refine lv_iload_n hx hb d_CO_append_30 rfl (lv_at hl 2 rfl) ?_
  refine k_st (k := n) (x := b) (ws' := [(oc, .inr (1, [.ref oc_ops, .ref oc_opd, .ref oc_fr, .ref oc_to, .ref oc_tg, .int (nI n), .int (nI hn)])), (oc_ops, .inl (cI, z, .inl (upd f n o))), (oc_opd, .inl (cI, z, .inl (upd g n b)))]) hx hb hK hP hD hS 2 0 rfl rfl rfl (by omega) (by omega) rfl d_CO_append_31 (fun H locs hP hD hS => ?_)
  refine lv_aload_n hx hb d_CO_append_32 rfl (lv_at hl 0 rfl) ?_
  refine lv_dup hx hb d_CO_append_33 rfl ?_
  refine k_get (v := .int (nI n)) S in_CO hK hP 0 rfl rfl 5 (by decide) ql_CO_27 rfl d_CO_append_34 ?_
  refine lv_iconst (v := 1) hx hb d_CO_append_37 (by decide) ?_
  refine lv_iadd hx hb d_CO_append_38 ?_
  refine k_top (y := nI (n + 1)) (nc_add rfl (by decide)) ?_
  refine k_put (v := .int (nI (n + 1))) (ws' := [(oc, .inr (1, [.ref oc_ops, .ref oc_opd, .ref oc_fr, .ref oc_to, .ref oc_tg, .int (nI (n + 1)), .int (nI hn)])), (oc_ops, .inl (cI, z, .inl (upd f n o))), (oc_opd, .inl (cI, z, .inl (upd g n b)))]) S in_CO ty_CO nm_CO hK hP hD hS 0 rfl rfl 5 (by decide) ql_CO_27 rfl rfl rfl rfl (Nat.le_of_ble_eq_true rfl) rfl d_CO_append_39 (fun H locs hP hD hS => ?_)
  exact k_vret hx hb hr hlocks hK hP hD hS rfl d_CO_append_42

theorem d_CO_appendHandler_0 : decode b_CO_appendHandler 0 = .ok (.aload_n 0, 1) := by decide +kernel
theorem d_CO_appendHandler_1 : decode b_CO_appendHandler 1 = .ok (.getfield 31, 3) := by decide +kernel
theorem d_CO_appendHandler_4 : decode b_CO_appendHandler 4 = .ok (.aload_n 0, 1) := by decide +kernel
theorem d_CO_appendHandler_5 : decode b_CO_appendHandler 5 = .ok (.getfield 18, 3) := by decide +kernel
theorem d_CO_appendHandler_8 : decode b_CO_appendHandler 8 = .ok (.arraylength, 1) := by decide +kernel
theorem d_CO_appendHandler_9 : decode b_CO_appendHandler 9 = .ok (.if_icmp .ge 43, 3) := by decide +kernel
theorem d_CO_appendHandler_12 : decode b_CO_appendHandler 12 = .ok (.aload_n 0, 1) := by decide +kernel
theorem d_CO_appendHandler_13 : decode b_CO_appendHandler 13 = .ok (.getfield 18, 3) := by decide +kernel
theorem d_CO_appendHandler_16 : decode b_CO_appendHandler 16 = .ok (.aload_n 0, 1) := by decide +kernel
theorem d_CO_appendHandler_17 : decode b_CO_appendHandler 17 = .ok (.getfield 31, 3) := by decide +kernel
theorem d_CO_appendHandler_20 : decode b_CO_appendHandler 20 = .ok (.iload_n 1, 1) := by decide +kernel
theorem d_CO_appendHandler_21 : decode b_CO_appendHandler 21 = .ok (.iastore, 1) := by decide +kernel
theorem d_CO_appendHandler_22 : decode b_CO_appendHandler 22 = .ok (.aload_n 0, 1) := by decide +kernel
theorem d_CO_appendHandler_23 : decode b_CO_appendHandler 23 = .ok (.getfield 21, 3) := by decide +kernel
theorem d_CO_appendHandler_26 : decode b_CO_appendHandler 26 = .ok (.aload_n 0, 1) := by decide +kernel
theorem d_CO_appendHandler_27 : decode b_CO_appendHandler 27 = .ok (.getfield 31, 3) := by decide +kernel
theorem d_CO_appendHandler_30 : decode b_CO_appendHandler 30 = .ok (.iload_n 2, 1) := by decide +kernel
theorem d_CO_appendHandler_31 : decode b_CO_appendHandler 31 = .ok (.iastore, 1) := by decide +kernel
theorem d_CO_appendHandler_32 : decode b_CO_appendHandler 32 = .ok (.aload_n 0, 1) := by decide +kernel
theorem d_CO_appendHandler_33 : decode b_CO_appendHandler 33 = .ok (.getfield 24, 3) := by decide +kernel
theorem d_CO_appendHandler_36 : decode b_CO_appendHandler 36 = .ok (.aload_n 0, 1) := by decide +kernel
theorem d_CO_appendHandler_37 : decode b_CO_appendHandler 37 = .ok (.getfield 31, 3) := by decide +kernel
theorem d_CO_appendHandler_40 : decode b_CO_appendHandler 40 = .ok (.iload_n 3, 1) := by decide +kernel
theorem d_CO_appendHandler_41 : decode b_CO_appendHandler 41 = .ok (.iastore, 1) := by decide +kernel
theorem d_CO_appendHandler_42 : decode b_CO_appendHandler 42 = .ok (.aload_n 0, 1) := by decide +kernel
theorem d_CO_appendHandler_43 : decode b_CO_appendHandler 43 = .ok (.dup, 1) := by decide +kernel
theorem d_CO_appendHandler_44 : decode b_CO_appendHandler 44 = .ok (.getfield 31, 3) := by decide +kernel
theorem d_CO_appendHandler_47 : decode b_CO_appendHandler 47 = .ok (.iconst 1, 1) := by decide +kernel
theorem d_CO_appendHandler_48 : decode b_CO_appendHandler 48 = .ok (.iadd, 1) := by decide +kernel
theorem d_CO_appendHandler_49 : decode b_CO_appendHandler 49 = .ok (.putfield 31, 3) := by decide +kernel
theorem d_CO_appendHandler_52 : decode b_CO_appendHandler 52 = .ok (.return_, 1) := by decide +kernel
set_option maxHeartbeats 1000000 in
set_option maxRecDepth 100000 in
theorem c_CO_appendHandler (l : Launch) (D : va_G) (cI cZ : ClassId) (oc oc_ops oc_opd oc_fr oc_to oc_tg n hn : Nat) (z : Nat) (fr to tg : Nat → Int32) (u v w : Int32) (hz : hn < z) (hz2 : z < 2 ^ 31) : MG l y_CO_appendHandler w_CO_appendHandler (rmK 0 0) D classes (tyz cI cZ) E0 [.ref oc, .int u, .int v, .int w] [(oc, .inr (1, [.ref oc_ops, .ref oc_opd, .ref oc_fr, .ref oc_to, .ref oc_tg, .int (nI n), .int (nI hn)])), (oc_fr, .inl (cI, z, .inl fr)), (oc_to, .inl (cI, z, .inl to)), (oc_tg, .inl (cI, z, .inl tg))] (RV D classes (tyz cI cZ) [(oc, .inr (1, [.ref oc_ops, .ref oc_opd, .ref oc_fr, .ref oc_to, .ref oc_tg, .int (nI n), .int (nI (hn + 1))])), (oc_fr, .inl (cI, z, .inl (upd fr hn u))), (oc_to, .inl (cI, z, .inl (upd to hn v))), (oc_tg, .inl (cI, z, .inl (upd tg hn w)))]) := by
  refine MG.of (cc := b_CO_appendHandler) (maxL := 4) (ret := none) (own := "FlowFlattener$Code") rfl (by decide) rfl (Nat.le_of_ble_eq_true rfl) ?_
  intro p e s m below meth c A ls S hr hlocks hA hP hK hD hS hE hl
  have hx := S.1
  have hb := S.2.1
  have hl : lv_has ls 4 [(0, .ref oc), (1, .int u), (2, .int v), (3, .int w)] := hl
  refine lv_aload_n hx hb d_CO_appendHandler_0 rfl (lv_at hl 0 rfl) ?_
  refine k_get (v := .int (nI hn)) S in_CO hK hP 0 rfl rfl 6 (by decide) ql_CO_31 rfl d_CO_appendHandler_1 ?_
  refine lv_aload_n hx hb d_CO_appendHandler_4 rfl (lv_at hl 0 rfl) ?_
  refine k_get (v := .ref oc_fr) S in_CO hK hP 0 rfl rfl 2 (by decide) ql_CO_18 rfl d_CO_appendHandler_5 ?_
  refine va_alen (v := nI z) hx hb hK hP 1 0 rfl rfl rfl d_CO_appendHandler_8 ?_
  refine n_icmp_ge (tgt := 52) (x := hn) (y := z) hx hb rfl rfl (by omega) (by omega) d_CO_appendHandler_9 (by decide) (fun h9_1 => absurd h9_1 (by omega)) (fun h9_1 => ?_)
  refine lv_aload_n hx hb d_CO_appendHandler_12 rfl (lv_at hl 0 rfl) ?_
  refine k_get (v := .ref oc_fr) S in_CO hK hP 0 rfl rfl 2 (by decide) ql_CO_18 rfl d_CO_appendHandler_13 ?_
  refine lv_aload_n hx hb d_CO_appendHandler_16 rfl (lv_at hl 0 rfl) ?_
  refine k_get (v := .int (nI hn)) S in_CO hK hP 0 rfl rfl 6 (by decide) ql_CO_31 rfl d_CO_appendHandler_17 ?_
  refine lv_iload_n hx hb d_CO_appendHandler_20 rfl (lv_at hl 1 rfl) ?_
  refine k_st (k := hn) (x := u) (ws' := [(oc, .inr (1, [.ref oc_ops, .ref oc_opd, .ref oc_fr, .ref oc_to, .ref oc_tg, .int (nI n), .int (nI hn)])), (oc_fr, .inl (cI, z, .inl (upd fr hn u))), (oc_to, .inl (cI, z, .inl to)), (oc_tg, .inl (cI, z, .inl tg))]) hx hb hK hP hD hS 1 0 rfl rfl rfl (by omega) (by omega) rfl d_CO_appendHandler_21 (fun H locs hP hD hS => ?_)
  refine lv_aload_n hx hb d_CO_appendHandler_22 rfl (lv_at hl 0 rfl) ?_
  refine k_get (v := .ref oc_to) S in_CO hK hP 0 rfl rfl 3 (by decide) ql_CO_21 rfl d_CO_appendHandler_23 ?_
  refine lv_aload_n hx hb d_CO_appendHandler_26 rfl (lv_at hl 0 rfl) ?_
  refine k_get (v := .int (nI hn)) S in_CO hK hP 0 rfl rfl 6 (by decide) ql_CO_31 rfl d_CO_appendHandler_27 ?_
  refine lv_iload_n hx hb d_CO_appendHandler_30 rfl (lv_at hl 2 rfl) ?_
  refine k_st (k := hn) (x := v) (ws' := [(oc, .inr (1, [.ref oc_ops, .ref oc_opd, .ref oc_fr, .ref oc_to, .ref oc_tg, .int (nI n), .int (nI hn)])), (oc_fr, .inl (cI, z, .inl (upd fr hn u))), (oc_to, .inl (cI, z, .inl (upd to hn v))), (oc_tg, .inl (cI, z, .inl tg))]) hx hb hK hP hD hS 2 0 rfl rfl rfl (by omega) (by omega) rfl d_CO_appendHandler_31 (fun H locs hP hD hS => ?_)
  refine lv_aload_n hx hb d_CO_appendHandler_32 rfl (lv_at hl 0 rfl) ?_
  refine k_get (v := .ref oc_tg) S in_CO hK hP 0 rfl rfl 4 (by decide) ql_CO_24 rfl d_CO_appendHandler_33 ?_
  refine lv_aload_n hx hb d_CO_appendHandler_36 rfl (lv_at hl 0 rfl) ?_
  refine k_get (v := .int (nI hn)) S in_CO hK hP 0 rfl rfl 6 (by decide) ql_CO_31 rfl d_CO_appendHandler_37 ?_
  refine lv_iload_n hx hb d_CO_appendHandler_40 rfl (lv_at hl 3 rfl) ?_
  refine k_st (k := hn) (x := w) (ws' := [(oc, .inr (1, [.ref oc_ops, .ref oc_opd, .ref oc_fr, .ref oc_to, .ref oc_tg, .int (nI n), .int (nI hn)])), (oc_fr, .inl (cI, z, .inl (upd fr hn u))), (oc_to, .inl (cI, z, .inl (upd to hn v))), (oc_tg, .inl (cI, z, .inl (upd tg hn w)))]) hx hb hK hP hD hS 3 0 rfl rfl rfl (by omega) (by omega) rfl d_CO_appendHandler_41 (fun H locs hP hD hS => ?_)
  refine lv_aload_n hx hb d_CO_appendHandler_42 rfl (lv_at hl 0 rfl) ?_
  refine lv_dup hx hb d_CO_appendHandler_43 rfl ?_
  refine k_get (v := .int (nI hn)) S in_CO hK hP 0 rfl rfl 6 (by decide) ql_CO_31 rfl d_CO_appendHandler_44 ?_
  refine lv_iconst (v := 1) hx hb d_CO_appendHandler_47 (by decide) ?_
  refine lv_iadd hx hb d_CO_appendHandler_48 ?_
  refine k_top (y := nI (hn + 1)) (nc_add rfl (by decide)) ?_
  refine k_put (v := .int (nI (hn + 1))) (ws' := [(oc, .inr (1, [.ref oc_ops, .ref oc_opd, .ref oc_fr, .ref oc_to, .ref oc_tg, .int (nI n), .int (nI (hn + 1))])), (oc_fr, .inl (cI, z, .inl (upd fr hn u))), (oc_to, .inl (cI, z, .inl (upd to hn v))), (oc_tg, .inl (cI, z, .inl (upd tg hn w)))]) S in_CO ty_CO nm_CO hK hP hD hS 0 rfl rfl 6 (by decide) ql_CO_31 rfl rfl rfl rfl (Nat.le_of_ble_eq_true rfl) rfl d_CO_appendHandler_49 (fun H locs hP hD hS => ?_)
  exact k_vret hx hb hr hlocks hK hP hD hS rfl d_CO_appendHandler_52

theorem d_CO_covers_0 : decode b_CO_covers 0 = .ok (.aload_n 0, 1) := by decide +kernel
theorem d_CO_covers_1 : decode b_CO_covers 1 = .ok (.getfield 18, 3) := by decide +kernel
theorem d_CO_covers_4 : decode b_CO_covers 4 = .ok (.iload_n 1, 1) := by decide +kernel
theorem d_CO_covers_5 : decode b_CO_covers 5 = .ok (.iaload, 1) := by decide +kernel
theorem d_CO_covers_6 : decode b_CO_covers 6 = .ok (.iload_n 2, 1) := by decide +kernel
theorem d_CO_covers_7 : decode b_CO_covers 7 = .ok (.if_icmp .gt 17, 3) := by decide +kernel
theorem d_CO_covers_10 : decode b_CO_covers 10 = .ok (.iload_n 2, 1) := by decide +kernel
theorem d_CO_covers_11 : decode b_CO_covers 11 = .ok (.aload_n 0, 1) := by decide +kernel
theorem d_CO_covers_12 : decode b_CO_covers 12 = .ok (.getfield 21, 3) := by decide +kernel
theorem d_CO_covers_15 : decode b_CO_covers 15 = .ok (.iload_n 1, 1) := by decide +kernel
theorem d_CO_covers_16 : decode b_CO_covers 16 = .ok (.iaload, 1) := by decide +kernel
theorem d_CO_covers_17 : decode b_CO_covers 17 = .ok (.if_icmp .ge 7, 3) := by decide +kernel
theorem d_CO_covers_20 : decode b_CO_covers 20 = .ok (.iconst 1, 1) := by decide +kernel
theorem d_CO_covers_21 : decode b_CO_covers 21 = .ok (.goto 4, 3) := by decide +kernel
theorem d_CO_covers_24 : decode b_CO_covers 24 = .ok (.iconst 0, 1) := by decide +kernel
theorem d_CO_covers_25 : decode b_CO_covers 25 = .ok (.ireturn, 1) := by decide +kernel
def f_CO_covers (h : Nat) (fr : Nat → Int32) (to : Nat → Int32) (x : Int32) : Int32 := (if x < fr h then 0 else (if to h ≤ x then 0 else 1))
set_option maxHeartbeats 1000000 in
set_option maxRecDepth 100000 in
theorem c_CO_covers (l : Launch) (D : va_G) (cI cZ : ClassId) (oc oc_ops oc_opd oc_fr oc_to oc_tg n hn : Nat) (z h : Nat) (fr to : Nat → Int32) (x : Int32) (hz : h < z) (hz2 : z < 2 ^ 31) : MG l y_CO_covers w_CO_covers (rmK 0 0) D classes (tyz cI cZ) E0 [.ref oc, .int (nI h), .int x] [(oc, .inr (1, [.ref oc_ops, .ref oc_opd, .ref oc_fr, .ref oc_to, .ref oc_tg, .int (nI n), .int (nI hn)])), (oc_fr, .inl (cI, z, .inl fr)), (oc_to, .inl (cI, z, .inl to))] (RI D classes (tyz cI cZ) (f_CO_covers h fr to x) [(oc, .inr (1, [.ref oc_ops, .ref oc_opd, .ref oc_fr, .ref oc_to, .ref oc_tg, .int (nI n), .int (nI hn)])), (oc_fr, .inl (cI, z, .inl fr)), (oc_to, .inl (cI, z, .inl to))]) := by
  refine MG.of (cc := b_CO_covers) (maxL := 3) (ret := (some .boolean)) (own := "FlowFlattener$Code") rfl (by decide) rfl (Nat.le_of_ble_eq_true rfl) ?_
  intro p e s m below meth c A ls S hr hlocks hA hP hK hD hS hE hl
  have hx := S.1
  have hb := S.2.1
  have hl : lv_has ls 3 [(0, .ref oc), (1, .int (nI h)), (2, .int x)] := hl
  refine lv_aload_n hx hb d_CO_covers_0 rfl (lv_at hl 0 rfl) ?_
  refine k_get (v := .ref oc_fr) S in_CO hK hP 0 rfl rfl 2 (by decide) ql_CO_18 rfl d_CO_covers_1 ?_
  refine lv_iload_n hx hb d_CO_covers_4 rfl (lv_at hl 1 rfl) ?_
  refine k_ld (k := h) hx hb hK hP 1 0 rfl rfl rfl (by omega) (by omega) d_CO_covers_5 ?_
  refine lv_iload_n hx hb d_CO_covers_6 rfl (lv_at hl 2 rfl) ?_
  refine lv_icmp_gt (tgt := 24) hx hb d_CO_covers_7 (by decide) (fun h7_1 => ?_) (fun h7_1 => ?_)
  · skip
    refine lv_iconst (v := 0) hx hb d_CO_covers_24 (by decide) ?_
    exact k_zret hx hb hr hlocks hK hP hD hS (by decide) (by rw [f_CO_covers, if_pos h7_1]) rfl d_CO_covers_25
  · skip
    refine lv_iload_n hx hb d_CO_covers_10 rfl (lv_at hl 2 rfl) ?_
    refine lv_aload_n hx hb d_CO_covers_11 rfl (lv_at hl 0 rfl) ?_
    refine k_get (v := .ref oc_to) S in_CO hK hP 0 rfl rfl 3 (by decide) ql_CO_21 rfl d_CO_covers_12 ?_
    refine lv_iload_n hx hb d_CO_covers_15 rfl (lv_at hl 1 rfl) ?_
    refine k_ld (k := h) hx hb hK hP 2 0 rfl rfl rfl (by omega) (by omega) d_CO_covers_16 ?_
    refine lv_icmp_ge (tgt := 24) hx hb d_CO_covers_17 (by decide) (fun h17_2 => ?_) (fun h17_2 => ?_)
    · skip
      refine lv_iconst (v := 0) hx hb d_CO_covers_24 (by decide) ?_
      exact k_zret hx hb hr hlocks hK hP hD hS (by decide) (by rw [f_CO_covers, if_neg h7_1, if_pos h17_2]) rfl d_CO_covers_25
    · skip
      refine lv_iconst (v := 1) hx hb d_CO_covers_20 (by decide) ?_
      refine lv_goto (tgt := 25) hx hb d_CO_covers_21 (by decide) ?_
      exact k_zret hx hb hr hlocks hK hP hD hS (by decide) (by rw [f_CO_covers, if_neg h7_1, if_neg h17_2]) rfl d_CO_covers_25

theorem d_CO_catcher_0 : decode b_CO_catcher 0 = .ok (.iconst 0, 1) := by decide +kernel
theorem d_CO_catcher_1 : decode b_CO_catcher 1 = .ok (.istore_n 2, 1) := by decide +kernel
theorem d_CO_catcher_2 : decode b_CO_catcher 2 = .ok (.iload_n 2, 1) := by decide +kernel
theorem d_CO_catcher_3 : decode b_CO_catcher 3 = .ok (.aload_n 0, 1) := by decide +kernel
theorem d_CO_catcher_4 : decode b_CO_catcher 4 = .ok (.getfield 31, 3) := by decide +kernel
theorem d_CO_catcher_7 : decode b_CO_catcher 7 = .ok (.if_icmp .ge 25, 3) := by decide +kernel
theorem d_CO_catcher_10 : decode b_CO_catcher 10 = .ok (.aload_n 0, 1) := by decide +kernel
theorem d_CO_catcher_11 : decode b_CO_catcher 11 = .ok (.iload_n 2, 1) := by decide +kernel
theorem d_CO_catcher_12 : decode b_CO_catcher 12 = .ok (.iload_n 1, 1) := by decide +kernel
theorem d_CO_catcher_13 : decode b_CO_catcher 13 = .ok (.invokevirtual 34, 3) := by decide +kernel
theorem d_CO_catcher_16 : decode b_CO_catcher 16 = .ok (.ifCond .eq 10, 3) := by decide +kernel
theorem d_CO_catcher_19 : decode b_CO_catcher 19 = .ok (.aload_n 0, 1) := by decide +kernel
theorem d_CO_catcher_20 : decode b_CO_catcher 20 = .ok (.getfield 24, 3) := by decide +kernel
theorem d_CO_catcher_23 : decode b_CO_catcher 23 = .ok (.iload_n 2, 1) := by decide +kernel
theorem d_CO_catcher_24 : decode b_CO_catcher 24 = .ok (.iaload, 1) := by decide +kernel
theorem d_CO_catcher_25 : decode b_CO_catcher 25 = .ok (.ireturn, 1) := by decide +kernel
theorem d_CO_catcher_26 : decode b_CO_catcher 26 = .ok (.iinc 2 1, 3) := by decide +kernel
theorem d_CO_catcher_29 : decode b_CO_catcher 29 = .ok (.goto (-27), 3) := by decide +kernel
theorem d_CO_catcher_32 : decode b_CO_catcher 32 = .ok (.iconst (-1), 1) := by decide +kernel
theorem d_CO_catcher_33 : decode b_CO_catcher 33 = .ok (.ireturn, 1) := by decide +kernel
def lp_CO_catcher (fr : Nat → Int32) (to : Nat → Int32) (tg : Nat → Int32) (x : Int32) : Nat → Nat → Int32
  | 0, h => (-1)
  | kf + 1, h => (if f_CO_covers h fr to x = 0 then (lp_CO_catcher fr to tg x kf (h + 1)) else tg h)
def f_CO_catcher (hn : Nat) (fr : Nat → Int32) (to : Nat → Int32) (tg : Nat → Int32) (x : Int32) : Int32 := lp_CO_catcher fr to tg x hn 0
set_option maxHeartbeats 1000000 in
set_option maxRecDepth 100000 in
theorem c_CO_catcher (l : Launch) (D : va_G) (cI cZ : ClassId) (oc oc_ops oc_opd oc_fr oc_to oc_tg n hn : Nat) (z : Nat) (fr to tg : Nat → Int32) (x : Int32) (hz : hn ≤ z) (hz2 : z < 2 ^ 31) : MG l y_CO_catcher w_CO_catcher (rmK 1 22) D classes (tyz cI cZ) E0 [.ref oc, .int x] [(oc, .inr (1, [.ref oc_ops, .ref oc_opd, .ref oc_fr, .ref oc_to, .ref oc_tg, .int (nI n), .int (nI hn)])), (oc_fr, .inl (cI, z, .inl fr)), (oc_to, .inl (cI, z, .inl to)), (oc_tg, .inl (cI, z, .inl tg))] (RI D classes (tyz cI cZ) (f_CO_catcher hn fr to tg x) [(oc, .inr (1, [.ref oc_ops, .ref oc_opd, .ref oc_fr, .ref oc_to, .ref oc_tg, .int (nI n), .int (nI hn)])), (oc_fr, .inl (cI, z, .inl fr)), (oc_to, .inl (cI, z, .inl to)), (oc_tg, .inl (cI, z, .inl tg))]) := by
  refine MG.of (cc := b_CO_catcher) (maxL := 3) (ret := (some .int)) (own := "FlowFlattener$Code") rfl (by decide) rfl (Nat.le_of_ble_eq_true rfl) ?_
  intro p e s m below meth c A ls S hr hlocks hA hP hK hD hS hE hl
  have hx := S.1
  have hb := S.2.1
  have hl : lv_has ls 3 [(0, .ref oc), (1, .int x)] := hl
  refine lv_iconst (v := nI 0) hx hb d_CO_catcher_0 (by decide) ?_
  refine lv_istore_n (lv' := [(2, .int (nI 0)), (0, .ref oc), (1, .int x)]) hx hb d_CO_catcher_1 rfl hl (by decide) rfl (fun ls hl => ?_)
  have LP2 : ∀ (kf : Nat) (h : Nat), (h + kf = hn) → lp_CO_catcher fr to tg x kf h = f_CO_catcher hn fr to tg x → ∀ (ls : Array Slot) (H : Heap) (locs : List Loc), lv_has ls 3 [(0, .ref oc), (1, .int x), (2, .int (nI h))] → va_P D classes [(oc, .inr (1, [.ref oc_ops, .ref oc_opd, .ref oc_fr, .ref oc_to, .ref oc_tg, .int (nI n), .int (nI hn)])), (oc_fr, .inl (cI, z, .inl fr)), (oc_to, .inl (cI, z, .inl to)), (oc_tg, .inl (cI, z, .inl tg))] H → va_D A [(oc, .inr (1, [.ref oc_ops, .ref oc_opd, .ref oc_fr, .ref oc_to, .ref oc_tg, .int (nI n), .int (nI hn)])), (oc_fr, .inl (cI, z, .inl fr)), (oc_to, .inl (cI, z, .inl to)), (oc_tg, .inl (cI, z, .inl tg))] → va_S A s.heap H locs → W p l e (rmK 1 22) s m [.ref oc, .int x].toArray below meth c H locs 0 0 (MQ below (RI D classes (tyz cI cZ) (f_CO_catcher hn fr to tg x) [(oc, .inr (1, [.ref oc_ops, .ref oc_opd, .ref oc_fr, .ref oc_to, .ref oc_tg, .int (nI n), .int (nI hn)])), (oc_fr, .inl (cI, z, .inl fr)), (oc_to, .inl (cI, z, .inl to)), (oc_tg, .inl (cI, z, .inl tg))] A) [.ref oc, .int x].toArray s 0 0 A) (F0 m 2 ls []) := by
    intro kf
    induction kf with
    | zero =>
      intro h hk hF2 ls H locs hl hP hD hS
      refine lv_iload_n hx hb d_CO_catcher_2 rfl (lv_at hl 2 rfl) ?_
      refine lv_aload_n hx hb d_CO_catcher_3 rfl (lv_at hl 0 rfl) ?_
      refine k_get (v := .int (nI hn)) S in_CO hK hP 0 rfl rfl 6 (by decide) ql_CO_31 rfl d_CO_catcher_4 ?_
      refine n_icmp_ge (tgt := 32) (x := h) (y := hn) hx hb rfl rfl (by omega) (by omega) d_CO_catcher_7 (by decide) (fun h7_1 => ?_) (fun h7_1 => absurd h7_1 (by omega))
      refine lv_iconst (v := (-1)) hx hb d_CO_catcher_32 (by decide) ?_
      exact k_iret hx hb hr hlocks hK hP hD hS (by rw [← hF2, lp_CO_catcher]) rfl d_CO_catcher_33
    | succ kf ih =>
      intro h hk hF2 ls H locs hl hP hD hS
      refine lv_iload_n hx hb d_CO_catcher_2 rfl (lv_at hl 2 rfl) ?_
      refine lv_aload_n hx hb d_CO_catcher_3 rfl (lv_at hl 0 rfl) ?_
      refine k_get (v := .int (nI hn)) S in_CO hK hP 0 rfl rfl 6 (by decide) ql_CO_31 rfl d_CO_catcher_4 ?_
      refine n_icmp_ge (tgt := 32) (x := h) (y := hn) hx hb rfl rfl (by omega) (by omega) d_CO_catcher_7 (by decide) (fun h7_2 => absurd h7_2 (by omega)) (fun h7_2 => ?_)
      refine lv_aload_n hx hb d_CO_catcher_10 rfl (lv_at hl 0 rfl) ?_
      refine lv_iload_n hx hb d_CO_catcher_11 rfl (lv_at hl 2 rfl) ?_
      refine lv_iload_n hx hb d_CO_catcher_12 rfl (lv_at hl 1 rfl) ?_
      refine k_goi (ws' := [(oc, .inr (1, [.ref oc_ops, .ref oc_opd, .ref oc_fr, .ref oc_to, .ref oc_tg, .int (nI n), .int (nI hn)])), (oc_fr, .inl (cI, z, .inl fr)), (oc_to, .inl (cI, z, .inl to)), (oc_tg, .inl (cI, z, .inl tg))]) (wr := [(oc_tg, .inl (cI, z, .inl tg))]) (k_runV (q0 := 0) (As := [.int (nI h), .int x]) (rest := []) (n := 2) S (c_CO_covers l D cI cZ oc oc_ops oc_opd oc_fr oc_to oc_tg n hn z h fr to x (by omega) (by omega)) E0_b E0_t ql_CO_34 qi_CO_covers qs_CO_covers qn_CO qc_CO_covers (by decide +kernel) rfl ⟨rfl, rfl⟩ ⟨Nat.le_of_ble_eq_true rfl, Nat.le_of_ble_eq_true rfl⟩ hK hP hD [0, 1, 2] rfl (by decide) rfl rfl hl.1 rfl (Nat.le_of_ble_eq_true rfl) d_CO_catcher_13 ⟨Nat.zero_le _, Nat.zero_le _⟩) hP hD hS hA [0, 1, 2] [3] [1, 2, 3, 0] rfl rfl (by decide) (by decide) rfl (by decide) (fun H locs hP hD hS => ?_)
      refine lv_if_eq (tgt := 26) hx hb d_CO_catcher_16 (by decide) (fun h16_3 => ?_) (fun h16_3 => ?_)
      · skip
        refine lv_iinc (k := 2) (v := nI (h + 1)) (lv' := [(2, .int (nI (h + 1))), (0, .ref oc), (1, .int x)]) hx hb d_CO_catcher_26 hl rfl (nc_add rfl (by decide)) (by decide) rfl (fun ls hl => ?_)
        refine lv_goto (tgt := 2) hx hb d_CO_catcher_29 (by decide) ?_
        have e9 : lp_CO_catcher fr to tg x (kf + 1) h = lp_CO_catcher fr to tg x kf (h + 1) := by rw [lp_CO_catcher, if_pos h16_3]
        rw [e9] at hF2
        exact ih (h + 1) (by omega) hF2 _ _ _ (lv_sub hl [1, 2, 0] rfl) hP hD hS
      · skip
        refine lv_aload_n hx hb d_CO_catcher_19 rfl (lv_at hl 0 rfl) ?_
        refine k_get (v := .ref oc_tg) S in_CO hK hP 0 rfl rfl 4 (by decide) ql_CO_24 rfl d_CO_catcher_20 ?_
        refine lv_iload_n hx hb d_CO_catcher_23 rfl (lv_at hl 2 rfl) ?_
        refine k_ld (k := h) hx hb hK hP 3 0 rfl rfl rfl (by omega) (by omega) d_CO_catcher_24 ?_
        exact k_iret hx hb hr hlocks hK hP hD hS (by rw [← hF2, lp_CO_catcher, if_neg h16_3]) rfl d_CO_catcher_25
  exact LP2 hn 0 (by omega) (by rw [f_CO_catcher]) _ _ _ (lv_sub hl [1, 2, 0] rfl) hP hD hS

theorem d_CH_reached_0 : decode b_CH_reached 0 = .ok (.aload_n 0, 1) := by decide +kernel
theorem d_CH_reached_1 : decode b_CH_reached 1 = .ok (.getfield 9, 3) := by decide +kernel
theorem d_CH_reached_4 : decode b_CH_reached 4 = .ok (.iload_n 1, 1) := by decide +kernel
theorem d_CH_reached_5 : decode b_CH_reached 5 = .ok (.iaload, 1) := by decide +kernel
theorem d_CH_reached_6 : decode b_CH_reached 6 = .ok (.iconst (-1), 1) := by decide +kernel
theorem d_CH_reached_7 : decode b_CH_reached 7 = .ok (.if_icmp .eq 7, 3) := by decide +kernel
theorem d_CH_reached_10 : decode b_CH_reached 10 = .ok (.iconst 1, 1) := by decide +kernel
theorem d_CH_reached_11 : decode b_CH_reached 11 = .ok (.goto 4, 3) := by decide +kernel
theorem d_CH_reached_14 : decode b_CH_reached 14 = .ok (.iconst 0, 1) := by decide +kernel
theorem d_CH_reached_15 : decode b_CH_reached 15 = .ok (.ireturn, 1) := by decide +kernel
def f_CH_reached (i : Nat) (d : Nat → Int32) : Int32 := (if d i = (-1) then 0 else 1)
set_option maxHeartbeats 1000000 in
set_option maxRecDepth 100000 in
theorem c_CH_reached (l : Launch) (D : va_G) (cI cZ : ClassId) (k k_d k_o i : Nat) (d : Nat → Int32) (hi : i < 32) : MG l y_CH_reached w_CH_reached (rmK 0 0) D classes (tyz cI cZ) E0 [.ref k, .int (nI i)] [(k, .inr (2, [.ref k_d, .ref k_o])), (k_d, .inl (cI, 32, .inl d))] (RI D classes (tyz cI cZ) (f_CH_reached i d) [(k, .inr (2, [.ref k_d, .ref k_o])), (k_d, .inl (cI, 32, .inl d))]) := by
  refine MG.of (cc := b_CH_reached) (maxL := 2) (ret := (some .boolean)) (own := "FlowFlattener$Checker") rfl (by decide) rfl (Nat.le_of_ble_eq_true rfl) ?_
  intro p e s m below meth c A ls S hr hlocks hA hP hK hD hS hE hl
  have hx := S.1
  have hb := S.2.1
  have hl : lv_has ls 2 [(0, .ref k), (1, .int (nI i))] := hl
  refine lv_aload_n hx hb d_CH_reached_0 rfl (lv_at hl 0 rfl) ?_
  refine k_get (v := .ref k_d) S in_CH hK hP 0 rfl rfl 0 (by decide) ql_CH_9 rfl d_CH_reached_1 ?_
  refine lv_iload_n hx hb d_CH_reached_4 rfl (lv_at hl 1 rfl) ?_
  refine k_ld (k := i) hx hb hK hP 1 0 rfl rfl rfl (by omega) (by decide) d_CH_reached_5 ?_
  refine lv_iconst (v := (-1)) hx hb d_CH_reached_6 (by decide) ?_
  refine lv_icmp_eq (tgt := 14) hx hb d_CH_reached_7 (by decide) (fun h7_1 => ?_) (fun h7_1 => ?_)
  · skip
    refine lv_iconst (v := 0) hx hb d_CH_reached_14 (by decide) ?_
    exact k_zret hx hb hr hlocks hK hP hD hS (by decide) (by rw [f_CH_reached, if_pos h7_1]) rfl d_CH_reached_15
  · skip
    refine lv_iconst (v := 1) hx hb d_CH_reached_10 (by decide) ?_
    refine lv_goto (tgt := 15) hx hb d_CH_reached_11 (by decide) ?_
    exact k_zret hx hb hr hlocks hK hP hD hS (by decide) (by rw [f_CH_reached, if_neg h7_1]) rfl d_CH_reached_15

theorem d_CH_forget_0 : decode b_CH_forget 0 = .ok (.iconst 0, 1) := by decide +kernel
theorem d_CH_forget_1 : decode b_CH_forget 1 = .ok (.istore_n 1, 1) := by decide +kernel
theorem d_CH_forget_2 : decode b_CH_forget 2 = .ok (.iload_n 1, 1) := by decide +kernel
theorem d_CH_forget_3 : decode b_CH_forget 3 = .ok (.bipush 32, 2) := by decide +kernel
theorem d_CH_forget_5 : decode b_CH_forget 5 = .ok (.if_icmp .ge 23, 3) := by decide +kernel
theorem d_CH_forget_8 : decode b_CH_forget 8 = .ok (.aload_n 0, 1) := by decide +kernel
theorem d_CH_forget_9 : decode b_CH_forget 9 = .ok (.getfield 9, 3) := by decide +kernel
theorem d_CH_forget_12 : decode b_CH_forget 12 = .ok (.iload_n 1, 1) := by decide +kernel
theorem d_CH_forget_13 : decode b_CH_forget 13 = .ok (.iconst (-1), 1) := by decide +kernel
theorem d_CH_forget_14 : decode b_CH_forget 14 = .ok (.iastore, 1) := by decide +kernel
theorem d_CH_forget_15 : decode b_CH_forget 15 = .ok (.aload_n 0, 1) := by decide +kernel
theorem d_CH_forget_16 : decode b_CH_forget 16 = .ok (.getfield 15, 3) := by decide +kernel
theorem d_CH_forget_19 : decode b_CH_forget 19 = .ok (.iload_n 1, 1) := by decide +kernel
theorem d_CH_forget_20 : decode b_CH_forget 20 = .ok (.iconst 0, 1) := by decide +kernel
theorem d_CH_forget_21 : decode b_CH_forget 21 = .ok (.bastore, 1) := by decide +kernel
theorem d_CH_forget_22 : decode b_CH_forget 22 = .ok (.iinc 1 1, 3) := by decide +kernel
theorem d_CH_forget_25 : decode b_CH_forget 25 = .ok (.goto (-23), 3) := by decide +kernel
theorem d_CH_forget_28 : decode b_CH_forget 28 = .ok (.return_, 1) := by decide +kernel
def lp_CH_forget  : Nat → Nat → (Nat → Int32) → (Nat → Int32) → (Nat → Int32) × (Nat → Int32)
  | 0, i, d1, o1 => (d1, o1)
  | kf + 1, i, d1, o1 => (lp_CH_forget kf (i + 1) (upd d1 i (-1)) (upd o1 i 0))
def f_CH_forget (d : Nat → Int32) (ov : Nat → Int32) : (Nat → Int32) × (Nat → Int32) := ((lp_CH_forget 32 0 d ov).1, (lp_CH_forget 32 0 d ov).2)
set_option maxHeartbeats 1000000 in
set_option maxRecDepth 100000 in
theorem c_CH_forget (l : Launch) (D : va_G) (cI cZ : ClassId) (k k_d k_o : Nat) (d ov : Nat → Int32) : MG l y_CH_forget w_CH_forget (rmK 0 0) D classes (tyz cI cZ) E0 [.ref k] [(k, .inr (2, [.ref k_d, .ref k_o])), (k_d, .inl (cI, 32, .inl d)), (k_o, .inl (cZ, 32, .inl ov))] (RV D classes (tyz cI cZ) [(k, .inr (2, [.ref k_d, .ref k_o])), (k_d, .inl (cI, 32, .inl ((f_CH_forget d ov).1))), (k_o, .inl (cZ, 32, .inl ((f_CH_forget d ov).2)))]) := by
  refine MG.of (cc := b_CH_forget) (maxL := 2) (ret := none) (own := "FlowFlattener$Checker") rfl (by decide) rfl (Nat.le_of_ble_eq_true rfl) ?_
  intro p e s m below meth c A ls S hr hlocks hA hP hK hD hS hE hl
  have hx := S.1
  have hb := S.2.1
  have hl : lv_has ls 2 [(0, .ref k)] := hl
  refine lv_iconst (v := nI 0) hx hb d_CH_forget_0 (by decide) ?_
  refine lv_istore_n (lv' := [(1, .int (nI 0)), (0, .ref k)]) hx hb d_CH_forget_1 rfl hl (by decide) rfl (fun ls hl => ?_)
  have LP2 : ∀ (kf : Nat) (i : Nat) (d1 : Nat → Int32) (o1 : Nat → Int32), (i + kf = 32) → ∀ (ls : Array Slot) (H : Heap) (locs : List Loc), lv_has ls 2 [(0, .ref k), (1, .int (nI i))] → va_P D classes [(k, .inr (2, [.ref k_d, .ref k_o])), (k_d, .inl (cI, 32, .inl d1)), (k_o, .inl (cZ, 32, .inl o1))] H → va_D A [(k, .inr (2, [.ref k_d, .ref k_o])), (k_d, .inl (cI, 32, .inl d1)), (k_o, .inl (cZ, 32, .inl o1))] → va_S A s.heap H locs → (∀ (ls : Array Slot) (H : Heap) (locs : List Loc), lv_has ls 2 [(0, .ref k)] → va_P D classes [(k, .inr (2, [.ref k_d, .ref k_o])), (k_d, .inl (cI, 32, .inl ((lp_CH_forget kf i d1 o1).1))), (k_o, .inl (cZ, 32, .inl ((lp_CH_forget kf i d1 o1).2)))] H → va_D A [(k, .inr (2, [.ref k_d, .ref k_o])), (k_d, .inl (cI, 32, .inl ((lp_CH_forget kf i d1 o1).1))), (k_o, .inl (cZ, 32, .inl ((lp_CH_forget kf i d1 o1).2)))] → va_S A s.heap H locs → W p l e (rmK 0 0) s m [.ref k].toArray below meth c H locs 0 0 (MQ below (RV D classes (tyz cI cZ) [(k, .inr (2, [.ref k_d, .ref k_o])), (k_d, .inl (cI, 32, .inl ((f_CH_forget d ov).1))), (k_o, .inl (cZ, 32, .inl ((f_CH_forget d ov).2)))] A) [.ref k].toArray s 0 0 A) (F0 m 28 ls [])) → W p l e (rmK 0 0) s m [.ref k].toArray below meth c H locs 0 0 (MQ below (RV D classes (tyz cI cZ) [(k, .inr (2, [.ref k_d, .ref k_o])), (k_d, .inl (cI, 32, .inl ((f_CH_forget d ov).1))), (k_o, .inl (cZ, 32, .inl ((f_CH_forget d ov).2)))] A) [.ref k].toArray s 0 0 A) (F0 m 2 ls []) := by
    intro kf
    induction kf with
    | zero =>
      intro i d1 o1 hk ls H locs hl hP hD hS kk
      refine lv_iload_n hx hb d_CH_forget_2 rfl (lv_at hl 1 rfl) ?_
      refine lv_bipush (v := 32) hx hb d_CH_forget_3 (by decide) ?_
      refine n_icmp_ge (tgt := 28) (x := i) (y := 32) hx hb rfl (by decide) (by omega) (by omega) d_CH_forget_5 (by decide) (fun h5_1 => ?_) (fun h5_1 => absurd h5_1 (by omega))
      have e9 : lp_CH_forget 0 i d1 o1 = (d1, o1) := by rw [lp_CH_forget]
      rw [e9] at kk
      exact kk _ _ _ (lv_sub hl [0] rfl) hP hD hS
    | succ kf ih =>
      intro i d1 o1 hk ls H locs hl hP hD hS kk
      refine lv_iload_n hx hb d_CH_forget_2 rfl (lv_at hl 1 rfl) ?_
      refine lv_bipush (v := 32) hx hb d_CH_forget_3 (by decide) ?_
      refine n_icmp_ge (tgt := 28) (x := i) (y := 32) hx hb rfl (by decide) (by omega) (by omega) d_CH_forget_5 (by decide) (fun h5_2 => absurd h5_2 (by omega)) (fun h5_2 => ?_)
      refine lv_aload_n hx hb d_CH_forget_8 rfl (lv_at hl 0 rfl) ?_
      refine k_get (v := .ref k_d) S in_CH hK hP 0 rfl rfl 0 (by decide) ql_CH_9 rfl d_CH_forget_9 ?_
      refine lv_iload_n hx hb d_CH_forget_12 rfl (lv_at hl 1 rfl) ?_
      refine lv_iconst (v := (-1)) hx hb d_CH_forget_13 (by decide) ?_
      refine k_st (k := i) (x := (-1)) (ws' := [(k, .inr (2, [.ref k_d, .ref k_o])), (k_d, .inl (cI, 32, .inl (upd d1 i (-1)))), (k_o, .inl (cZ, 32, .inl o1))]) hx hb hK hP hD hS 1 0 rfl rfl rfl (by omega) (by decide) rfl d_CH_forget_14 (fun H locs hP hD hS => ?_)
      refine lv_aload_n hx hb d_CH_forget_15 rfl (lv_at hl 0 rfl) ?_
      refine k_get (v := .ref k_o) S in_CH hK hP 0 rfl rfl 1 (by decide) ql_CH_15 rfl d_CH_forget_16 ?_
      refine lv_iload_n hx hb d_CH_forget_19 rfl (lv_at hl 1 rfl) ?_
      refine lv_iconst (v := 0) hx hb d_CH_forget_20 (by decide) ?_
      refine k_zst (k := i) (x := 0) (ws' := [(k, .inr (2, [.ref k_d, .ref k_o])), (k_d, .inl (cI, 32, .inl (upd d1 i (-1)))), (k_o, .inl (cZ, 32, .inl (upd o1 i 0)))]) hx hb hK hP hD hS 2 1 rfl rfl rfl (by decide) (by omega) (by decide) rfl d_CH_forget_21 (fun H locs hP hD hS => ?_)
      refine lv_iinc (k := 1) (v := nI (i + 1)) (lv' := [(1, .int (nI (i + 1))), (0, .ref k)]) hx hb d_CH_forget_22 hl rfl (nc_add rfl (by decide)) (by decide) rfl (fun ls hl => ?_)
      refine lv_goto (tgt := 2) hx hb d_CH_forget_25 (by decide) ?_
      have e9 : lp_CH_forget (kf + 1) i d1 o1 = lp_CH_forget kf (i + 1) (upd d1 i (-1)) (upd o1 i 0) := by rw [lp_CH_forget]
      rw [e9] at kk
      exact ih (i + 1) (upd d1 i (-1)) (upd o1 i 0) (by omega) _ _ _ (lv_sub hl [1, 0] rfl) hP hD hS kk
  refine LP2 32 0 d ov rfl _ _ _ (lv_sub hl [1, 0] rfl) hP hD hS (fun ls H locs hl hP hD hS => ?_)
  exact k_vret hx hb hr hlocks hK hP hD hS (by rw [f_CH_forget]) d_CH_forget_28

theorem d_CH_leastLeft_0 : decode b_CH_leastLeft 0 = .ok (.iconst 0, 1) := by decide +kernel
theorem d_CH_leastLeft_1 : decode b_CH_leastLeft 1 = .ok (.istore_n 2, 1) := by decide +kernel
theorem d_CH_leastLeft_2 : decode b_CH_leastLeft 2 = .ok (.iload_n 2, 1) := by decide +kernel
theorem d_CH_leastLeft_3 : decode b_CH_leastLeft 3 = .ok (.aload_n 1, 1) := by decide +kernel
theorem d_CH_leastLeft_4 : decode b_CH_leastLeft 4 = .ok (.getfield 30, 3) := by decide +kernel
theorem d_CH_leastLeft_7 : decode b_CH_leastLeft 7 = .ok (.if_icmp .ge 28, 3) := by decide +kernel
theorem d_CH_leastLeft_10 : decode b_CH_leastLeft 10 = .ok (.aload_n 0, 1) := by decide +kernel
theorem d_CH_leastLeft_11 : decode b_CH_leastLeft 11 = .ok (.iload_n 2, 1) := by decide +kernel
theorem d_CH_leastLeft_12 : decode b_CH_leastLeft 12 = .ok (.invokevirtual 36, 3) := by decide +kernel
theorem d_CH_leastLeft_15 : decode b_CH_leastLeft 15 = .ok (.ifCond .eq 14, 3) := by decide +kernel
theorem d_CH_leastLeft_18 : decode b_CH_leastLeft 18 = .ok (.aload_n 0, 1) := by decide +kernel
theorem d_CH_leastLeft_19 : decode b_CH_leastLeft 19 = .ok (.getfield 15, 3) := by decide +kernel
theorem d_CH_leastLeft_22 : decode b_CH_leastLeft 22 = .ok (.iload_n 2, 1) := by decide +kernel
theorem d_CH_leastLeft_23 : decode b_CH_leastLeft 23 = .ok (.baload, 1) := by decide +kernel
theorem d_CH_leastLeft_24 : decode b_CH_leastLeft 24 = .ok (.ifCond .ne 5, 3) := by decide +kernel
theorem d_CH_leastLeft_27 : decode b_CH_leastLeft 27 = .ok (.iload_n 2, 1) := by decide +kernel
theorem d_CH_leastLeft_28 : decode b_CH_leastLeft 28 = .ok (.ireturn, 1) := by decide +kernel
theorem d_CH_leastLeft_29 : decode b_CH_leastLeft 29 = .ok (.iinc 2 1, 3) := by decide +kernel
theorem d_CH_leastLeft_32 : decode b_CH_leastLeft 32 = .ok (.goto (-30), 3) := by decide +kernel
theorem d_CH_leastLeft_35 : decode b_CH_leastLeft 35 = .ok (.iconst (-1), 1) := by decide +kernel
theorem d_CH_leastLeft_36 : decode b_CH_leastLeft 36 = .ok (.ireturn, 1) := by decide +kernel
def lp_CH_leastLeft (d : Nat → Int32) (ov : Nat → Int32) : Nat → Nat → Int32
  | 0, i => (-1)
  | kf + 1, i => (if f_CH_reached i d = 0 then (lp_CH_leastLeft d ov kf (i + 1)) else (if ov i = 0 then nI i else (lp_CH_leastLeft d ov kf (i + 1))))
def f_CH_leastLeft (n : Nat) (d : Nat → Int32) (ov : Nat → Int32) : Int32 := lp_CH_leastLeft d ov n 0
set_option maxHeartbeats 1000000 in
set_option maxRecDepth 100000 in
theorem c_CH_leastLeft (l : Launch) (D : va_G) (cI cZ : ClassId) (k k_d k_o : Nat) (oc oc_ops oc_opd oc_fr oc_to oc_tg n hn : Nat) (d ov : Nat → Int32) (hh : n ≤ 32) : MG l y_CH_leastLeft w_CH_leastLeft (rmK 1 21) D classes (tyz cI cZ) E0 [.ref k, .ref oc] [(k, .inr (2, [.ref k_d, .ref k_o])), (k_d, .inl (cI, 32, .inl d)), (k_o, .inl (cZ, 32, .inl ov)), (oc, .inr (1, [.ref oc_ops, .ref oc_opd, .ref oc_fr, .ref oc_to, .ref oc_tg, .int (nI n), .int (nI hn)]))] (RI D classes (tyz cI cZ) (f_CH_leastLeft n d ov) [(k, .inr (2, [.ref k_d, .ref k_o])), (k_d, .inl (cI, 32, .inl d)), (k_o, .inl (cZ, 32, .inl ov)), (oc, .inr (1, [.ref oc_ops, .ref oc_opd, .ref oc_fr, .ref oc_to, .ref oc_tg, .int (nI n), .int (nI hn)]))]) := by
  refine MG.of (cc := b_CH_leastLeft) (maxL := 3) (ret := (some .int)) (own := "FlowFlattener$Checker") rfl (by decide) rfl (Nat.le_of_ble_eq_true rfl) ?_
  intro p e s m below meth c A ls S hr hlocks hA hP hK hD hS hE hl
  have hx := S.1
  have hb := S.2.1
  have hl : lv_has ls 3 [(0, .ref k), (1, .ref oc)] := hl
  refine lv_iconst (v := nI 0) hx hb d_CH_leastLeft_0 (by decide) ?_
  refine lv_istore_n (lv' := [(2, .int (nI 0)), (0, .ref k), (1, .ref oc)]) hx hb d_CH_leastLeft_1 rfl hl (by decide) rfl (fun ls hl => ?_)
  have LP2 : ∀ (kf : Nat) (i : Nat), (i + kf = n) → lp_CH_leastLeft d ov kf i = f_CH_leastLeft n d ov → ∀ (ls : Array Slot) (H : Heap) (locs : List Loc), lv_has ls 3 [(0, .ref k), (1, .ref oc), (2, .int (nI i))] → va_P D classes [(k, .inr (2, [.ref k_d, .ref k_o])), (k_d, .inl (cI, 32, .inl d)), (k_o, .inl (cZ, 32, .inl ov)), (oc, .inr (1, [.ref oc_ops, .ref oc_opd, .ref oc_fr, .ref oc_to, .ref oc_tg, .int (nI n), .int (nI hn)]))] H → va_D A [(k, .inr (2, [.ref k_d, .ref k_o])), (k_d, .inl (cI, 32, .inl d)), (k_o, .inl (cZ, 32, .inl ov)), (oc, .inr (1, [.ref oc_ops, .ref oc_opd, .ref oc_fr, .ref oc_to, .ref oc_tg, .int (nI n), .int (nI hn)]))] → va_S A s.heap H locs → W p l e (rmK 1 21) s m [.ref k, .ref oc].toArray below meth c H locs 0 0 (MQ below (RI D classes (tyz cI cZ) (f_CH_leastLeft n d ov) [(k, .inr (2, [.ref k_d, .ref k_o])), (k_d, .inl (cI, 32, .inl d)), (k_o, .inl (cZ, 32, .inl ov)), (oc, .inr (1, [.ref oc_ops, .ref oc_opd, .ref oc_fr, .ref oc_to, .ref oc_tg, .int (nI n), .int (nI hn)]))] A) [.ref k, .ref oc].toArray s 0 0 A) (F0 m 2 ls []) := by
    intro kf
    induction kf with
    | zero =>
      intro i hk hF2 ls H locs hl hP hD hS
      refine lv_iload_n hx hb d_CH_leastLeft_2 rfl (lv_at hl 2 rfl) ?_
      refine lv_aload_n hx hb d_CH_leastLeft_3 rfl (lv_at hl 1 rfl) ?_
      refine k_get (v := .int (nI n)) S in_CO hK hP 3 rfl rfl 5 (by decide) ql_CH_30 rfl d_CH_leastLeft_4 ?_
      refine n_icmp_ge (tgt := 35) (x := i) (y := n) hx hb rfl rfl (by omega) (by omega) d_CH_leastLeft_7 (by decide) (fun h7_1 => ?_) (fun h7_1 => absurd h7_1 (by omega))
      refine lv_iconst (v := (-1)) hx hb d_CH_leastLeft_35 (by decide) ?_
      exact k_iret hx hb hr hlocks hK hP hD hS (by rw [← hF2, lp_CH_leastLeft]) rfl d_CH_leastLeft_36
    | succ kf ih =>
      intro i hk hF2 ls H locs hl hP hD hS
      refine lv_iload_n hx hb d_CH_leastLeft_2 rfl (lv_at hl 2 rfl) ?_
      refine lv_aload_n hx hb d_CH_leastLeft_3 rfl (lv_at hl 1 rfl) ?_
      refine k_get (v := .int (nI n)) S in_CO hK hP 3 rfl rfl 5 (by decide) ql_CH_30 rfl d_CH_leastLeft_4 ?_
      refine n_icmp_ge (tgt := 35) (x := i) (y := n) hx hb rfl rfl (by omega) (by omega) d_CH_leastLeft_7 (by decide) (fun h7_2 => absurd h7_2 (by omega)) (fun h7_2 => ?_)
      refine lv_aload_n hx hb d_CH_leastLeft_10 rfl (lv_at hl 0 rfl) ?_
      refine lv_iload_n hx hb d_CH_leastLeft_11 rfl (lv_at hl 2 rfl) ?_
      refine k_goi (ws' := [(k, .inr (2, [.ref k_d, .ref k_o])), (k_d, .inl (cI, 32, .inl d)), (k_o, .inl (cZ, 32, .inl ov)), (oc, .inr (1, [.ref oc_ops, .ref oc_opd, .ref oc_fr, .ref oc_to, .ref oc_tg, .int (nI n), .int (nI hn)]))]) (wr := [(k_o, .inl (cZ, 32, .inl ov)), (oc, .inr (1, [.ref oc_ops, .ref oc_opd, .ref oc_fr, .ref oc_to, .ref oc_tg, .int (nI n), .int (nI hn)]))]) (k_runV (q0 := 0) (As := [.int (nI i)]) (rest := []) (n := 1) S (c_CH_reached l D cI cZ k k_d k_o i d (by omega)) E0_b E0_t ql_CH_36 qi_CH_reached qs_CH_reached qn_CH qc_CH_reached (by decide +kernel) rfl ⟨rfl, rfl⟩ ⟨Nat.le_of_ble_eq_true rfl, Nat.le_of_ble_eq_true rfl⟩ hK hP hD [0, 1] rfl (by decide) rfl rfl hl.1 rfl (Nat.le_of_ble_eq_true rfl) d_CH_leastLeft_12 ⟨Nat.zero_le _, Nat.zero_le _⟩) hP hD hS hA [0, 1] [2, 3] [2, 3, 0, 1] rfl rfl (by decide) (by decide) rfl (by decide) (fun H locs hP hD hS => ?_)
      refine lv_if_eq (tgt := 29) hx hb d_CH_leastLeft_15 (by decide) (fun h15_3 => ?_) (fun h15_3 => ?_)
      · skip
        refine lv_iinc (k := 2) (v := nI (i + 1)) (lv' := [(2, .int (nI (i + 1))), (0, .ref k), (1, .ref oc)]) hx hb d_CH_leastLeft_29 hl rfl (nc_add rfl (by decide)) (by decide) rfl (fun ls hl => ?_)
        refine lv_goto (tgt := 2) hx hb d_CH_leastLeft_32 (by decide) ?_
        have e9 : lp_CH_leastLeft d ov (kf + 1) i = lp_CH_leastLeft d ov kf (i + 1) := by rw [lp_CH_leastLeft, if_pos h15_3]
        rw [e9] at hF2
        exact ih (i + 1) (by omega) hF2 _ _ _ (lv_sub hl [1, 2, 0] rfl) hP hD hS
      · skip
        refine lv_aload_n hx hb d_CH_leastLeft_18 rfl (lv_at hl 0 rfl) ?_
        refine k_get (v := .ref k_o) S in_CH hK hP 0 rfl rfl 1 (by decide) ql_CH_15 rfl d_CH_leastLeft_19 ?_
        refine lv_iload_n hx hb d_CH_leastLeft_22 rfl (lv_at hl 2 rfl) ?_
        refine k_zld (k := i) hx hb hK hP 2 1 rfl rfl rfl (by omega) (by decide) d_CH_leastLeft_23 ?_
        refine lv_if_ne (tgt := 29) hx hb d_CH_leastLeft_24 (by decide) (fun h24_4 => ?_) (fun h24_4 => ?_)
        · skip
          refine lv_iinc (k := 2) (v := nI (i + 1)) (lv' := [(2, .int (nI (i + 1))), (0, .ref k), (1, .ref oc)]) hx hb d_CH_leastLeft_29 hl rfl (nc_add rfl (by decide)) (by decide) rfl (fun ls hl => ?_)
          refine lv_goto (tgt := 2) hx hb d_CH_leastLeft_32 (by decide) ?_
          have e9 : lp_CH_leastLeft d ov (kf + 1) i = lp_CH_leastLeft d ov kf (i + 1) := by rw [lp_CH_leastLeft, if_neg h15_3, if_neg h24_4]
          rw [e9] at hF2
          exact ih (i + 1) (by omega) hF2 _ _ _ (lv_sub hl [1, 2, 0] rfl) hP hD hS
        · skip
          refine lv_iload_n hx hb d_CH_leastLeft_27 rfl (lv_at hl 2 rfl) ?_
          exact k_iret hx hb hr hlocks hK hP hD hS (by rw [← hF2, lp_CH_leastLeft, if_neg h15_3, if_pos h24_4]) rfl d_CH_leastLeft_28
  exact LP2 n 0 (by omega) (by rw [f_CH_leastLeft]) _ _ _ (lv_sub hl [1, 2, 0] rfl) hP hD hS

theorem ll_spec (d ov : Nat → Int32) {n : Nat} (hn : n < 2 ^ 31) : ∀ (kf i : Nat), i + kf = n → ¬ lp_CH_leastLeft d ov kf i = -1 → lp_CH_leastLeft d ov kf i = nI (tn (lp_CH_leastLeft d ov kf i)) ∧ tn (lp_CH_leastLeft d ov kf i) < n := by
  intro kf
  induction kf with
  | zero => intro i h h2; exact absurd rfl h2
  | succ kf ih =>
    intro i h h2
    rw [lp_CH_leastLeft] at h2 ⊢
    by_cases h3 : f_CH_reached i d = 0
    · rw [if_pos h3] at h2 ⊢; exact ih _ (by omega) h2
    · rw [if_neg h3] at h2 ⊢
      by_cases h4 : ov i = 0
      · rw [if_pos h4] at h2 ⊢; rw [tn_nI (by omega)]; exact ⟨rfl, by omega⟩
      · rw [if_neg h4] at h2 ⊢; exact ih _ (by omega) h2

theorem d_CH_staysInside_0 : decode b_CH_staysInside 0 = .ok (.aload_n 0, 1) := by decide +kernel
theorem d_CH_staysInside_1 : decode b_CH_staysInside 1 = .ok (.getfield 40, 3) := by decide +kernel
theorem d_CH_staysInside_4 : decode b_CH_staysInside 4 = .ok (.iload_n 1, 1) := by decide +kernel
theorem d_CH_staysInside_5 : decode b_CH_staysInside 5 = .ok (.iaload, 1) := by decide +kernel
theorem d_CH_staysInside_6 : decode b_CH_staysInside 6 = .ok (.istore_n 2, 1) := by decide +kernel
theorem d_CH_staysInside_7 : decode b_CH_staysInside 7 = .ok (.iload_n 2, 1) := by decide +kernel
theorem d_CH_staysInside_8 : decode b_CH_staysInside 8 = .ok (.invokestatic 52, 3) := by decide +kernel
theorem d_CH_staysInside_11 : decode b_CH_staysInside 11 = .ok (.ifCond .eq 13, 3) := by decide +kernel
theorem d_CH_staysInside_14 : decode b_CH_staysInside 14 = .ok (.aload_n 0, 1) := by decide +kernel
theorem d_CH_staysInside_15 : decode b_CH_staysInside 15 = .ok (.iload_n 1, 1) := by decide +kernel
theorem d_CH_staysInside_16 : decode b_CH_staysInside 16 = .ok (.iconst 1, 1) := by decide +kernel
theorem d_CH_staysInside_17 : decode b_CH_staysInside 17 = .ok (.iadd, 1) := by decide +kernel
theorem d_CH_staysInside_18 : decode b_CH_staysInside 18 = .ok (.invokevirtual 68, 3) := by decide +kernel
theorem d_CH_staysInside_21 : decode b_CH_staysInside 21 = .ok (.ifCond .eq 27, 3) := by decide +kernel
theorem d_CH_staysInside_24 : decode b_CH_staysInside 24 = .ok (.iload_n 2, 1) := by decide +kernel
theorem d_CH_staysInside_25 : decode b_CH_staysInside 25 = .ok (.invokestatic 59, 3) := by decide +kernel
theorem d_CH_staysInside_28 : decode b_CH_staysInside 28 = .ok (.ifCond .eq 16, 3) := by decide +kernel
theorem d_CH_staysInside_31 : decode b_CH_staysInside 31 = .ok (.aload_n 0, 1) := by decide +kernel
theorem d_CH_staysInside_32 : decode b_CH_staysInside 32 = .ok (.aload_n 0, 1) := by decide +kernel
theorem d_CH_staysInside_33 : decode b_CH_staysInside 33 = .ok (.getfield 62, 3) := by decide +kernel
theorem d_CH_staysInside_36 : decode b_CH_staysInside 36 = .ok (.iload_n 1, 1) := by decide +kernel
theorem d_CH_staysInside_37 : decode b_CH_staysInside 37 = .ok (.iaload, 1) := by decide +kernel
theorem d_CH_staysInside_38 : decode b_CH_staysInside 38 = .ok (.invokevirtual 68, 3) := by decide +kernel
theorem d_CH_staysInside_41 : decode b_CH_staysInside 41 = .ok (.ifCond .eq 7, 3) := by decide +kernel
theorem d_CH_staysInside_44 : decode b_CH_staysInside 44 = .ok (.iconst 1, 1) := by decide +kernel
theorem d_CH_staysInside_45 : decode b_CH_staysInside 45 = .ok (.goto 4, 3) := by decide +kernel
theorem d_CH_staysInside_48 : decode b_CH_staysInside 48 = .ok (.iconst 0, 1) := by decide +kernel
theorem d_CH_staysInside_49 : decode b_CH_staysInside 49 = .ok (.ireturn, 1) := by decide +kernel
def f_CH_staysInside (n : Nat) (i : Nat) (f : Nat → Int32) (g : Nat → Int32) : Int32 := (if f_FF_goesToNext (f i) = 0 then (if f_FF_jumps (f i) = 0 then 1 else (if f_CO_has n (tn (g i)) = 0 then 0 else 1)) else (if f_CO_has n (i + 1) = 0 then 0 else (if f_FF_jumps (f i) = 0 then 1 else (if f_CO_has n (tn (g i)) = 0 then 0 else 1))))
set_option maxHeartbeats 1000000 in
set_option maxRecDepth 100000 in
theorem c_CH_staysInside (l : Launch) (D : va_G) (cI cZ : ClassId) (tt tp : Nat) (oc oc_ops oc_opd oc_fr oc_to oc_tg n hn : Nat) (i : Nat) (f g : Nat → Int32) (hh : n ≤ 32) (hi : i < n) (hj : ¬ f_FF_jumps (f i) = 0 → g i = nI (tn (g i)) ∧ tn (g i) < 32) : MG l y_CH_staysInside w_CH_staysInside (rmK 2 40) D classes (tyz cI cZ) (EN tt tp) [.ref oc, .int (nI i)] [(oc, .inr (1, [.ref oc_ops, .ref oc_opd, .ref oc_fr, .ref oc_to, .ref oc_tg, .int (nI n), .int (nI hn)])), (oc_ops, .inl (cI, 32, .inl f)), (oc_opd, .inl (cI, 32, .inl g))] (RI D classes (tyz cI cZ) (f_CH_staysInside n i f g) [(oc, .inr (1, [.ref oc_ops, .ref oc_opd, .ref oc_fr, .ref oc_to, .ref oc_tg, .int (nI n), .int (nI hn)])), (oc_ops, .inl (cI, 32, .inl f)), (oc_opd, .inl (cI, 32, .inl g))]) := by
  refine MG.of (cc := b_CH_staysInside) (maxL := 3) (ret := (some .boolean)) (own := "FlowFlattener$Checker") rfl (by decide) rfl (Nat.le_of_ble_eq_true rfl) ?_
  intro p e s m below meth c A ls S hr hlocks hA hP hK hD hS hE hl
  have hx := S.1
  have hb := S.2.1
  have hl : lv_has ls 3 [(0, .ref oc), (1, .int (nI i))] := hl
  refine lv_aload_n hx hb d_CH_staysInside_0 rfl (lv_at hl 0 rfl) ?_
  refine k_get (v := .ref oc_ops) S in_CO hK hP 0 rfl rfl 0 (by decide) ql_CH_40 rfl d_CH_staysInside_1 ?_
  refine lv_iload_n hx hb d_CH_staysInside_4 rfl (lv_at hl 1 rfl) ?_
  refine k_ld (k := i) hx hb hK hP 1 0 rfl rfl rfl (by omega) (by decide) d_CH_staysInside_5 ?_
  refine lv_istore_n (lv' := [(2, .int (f i)), (0, .ref oc), (1, .int (nI i))]) hx hb d_CH_staysInside_6 rfl hl (by decide) rfl (fun ls hl => ?_)
  refine lv_iload_n hx hb d_CH_staysInside_7 rfl (lv_at hl 0 rfl) ?_
  refine k_goi (ws' := [(oc, .inr (1, [.ref oc_ops, .ref oc_opd, .ref oc_fr, .ref oc_to, .ref oc_tg, .int (nI n), .int (nI hn)])), (oc_ops, .inl (cI, 32, .inl f)), (oc_opd, .inl (cI, 32, .inl g))]) (wr := [(oc, .inr (1, [.ref oc_ops, .ref oc_opd, .ref oc_fr, .ref oc_to, .ref oc_tg, .int (nI n), .int (nI hn)])), (oc_ops, .inl (cI, 32, .inl f)), (oc_opd, .inl (cI, 32, .inl g))]) (k_runSN (As := [.int (f i)]) (rest := []) (n := 1) S (c_FF_goesToNext l D cI cZ (f i)) E0_b E0_t (hE.1 _ (List.mem_of_getElem? (i := 7) rfl)) qt_FF_goesToNext qn_FF qc_FF_goesToNext (by decide +kernel) rfl ⟨rfl, rfl⟩ ⟨Nat.le_of_ble_eq_true rfl, Nat.le_of_ble_eq_true rfl⟩ hK hP hD [] rfl (by decide) hl.1 rfl (Nat.le_of_ble_eq_true rfl) d_CH_staysInside_8 ⟨Nat.zero_le _, Nat.zero_le _⟩) hP hD hS hA [] [0, 1, 2] [0, 1, 2] rfl rfl (by decide) (by decide) rfl (by decide) (fun H locs hP hD hS => ?_)
  refine lv_if_eq (tgt := 24) hx hb d_CH_staysInside_11 (by decide) (fun h11_1 => ?_) (fun h11_1 => ?_)
  · skip
    refine lv_iload_n hx hb d_CH_staysInside_24 rfl (lv_at hl 0 rfl) ?_
    refine k_goi (ws' := [(oc, .inr (1, [.ref oc_ops, .ref oc_opd, .ref oc_fr, .ref oc_to, .ref oc_tg, .int (nI n), .int (nI hn)])), (oc_ops, .inl (cI, 32, .inl f)), (oc_opd, .inl (cI, 32, .inl g))]) (wr := [(oc, .inr (1, [.ref oc_ops, .ref oc_opd, .ref oc_fr, .ref oc_to, .ref oc_tg, .int (nI n), .int (nI hn)])), (oc_ops, .inl (cI, 32, .inl f)), (oc_opd, .inl (cI, 32, .inl g))]) (k_runSN (As := [.int (f i)]) (rest := []) (n := 1) S (c_FF_jumps l D cI cZ (f i)) E0_b E0_t (hE.1 _ (List.mem_of_getElem? (i := 8) rfl)) qt_FF_jumps qn_FF qc_FF_jumps (by decide +kernel) rfl ⟨rfl, rfl⟩ ⟨Nat.le_of_ble_eq_true rfl, Nat.le_of_ble_eq_true rfl⟩ hK hP hD [] rfl (by decide) hl.1 rfl (Nat.le_of_ble_eq_true rfl) d_CH_staysInside_25 ⟨Nat.zero_le _, Nat.zero_le _⟩) hP hD hS hA [] [0, 1, 2] [0, 1, 2] rfl rfl (by decide) (by decide) rfl (by decide) (fun H locs hP hD hS => ?_)
    refine lv_if_eq (tgt := 44) hx hb d_CH_staysInside_28 (by decide) (fun h28_2 => ?_) (fun h28_2 => ?_)
    · skip
      refine lv_iconst (v := 1) hx hb d_CH_staysInside_44 (by decide) ?_
      refine lv_goto (tgt := 49) hx hb d_CH_staysInside_45 (by decide) ?_
      exact k_zret hx hb hr hlocks hK hP hD hS (by decide) (by rw [f_CH_staysInside, if_pos h11_1, if_pos h28_2]) rfl d_CH_staysInside_49
    · skip
      refine lv_aload_n hx hb d_CH_staysInside_31 rfl (lv_at hl 1 rfl) ?_
      refine lv_aload_n hx hb d_CH_staysInside_32 rfl (lv_at hl 1 rfl) ?_
      refine k_get (v := .ref oc_opd) S in_CO hK hP 0 rfl rfl 1 (by decide) ql_CH_62 rfl d_CH_staysInside_33 ?_
      refine lv_iload_n hx hb d_CH_staysInside_36 rfl (lv_at hl 2 rfl) ?_
      refine k_ld (k := i) hx hb hK hP 2 0 rfl rfl rfl (by omega) (by decide) d_CH_staysInside_37 ?_
      refine k_top (y := nI (tn (g i))) (hj (by assumption)).1 ?_
      refine k_goi (ws' := [(oc, .inr (1, [.ref oc_ops, .ref oc_opd, .ref oc_fr, .ref oc_to, .ref oc_tg, .int (nI n), .int (nI hn)])), (oc_ops, .inl (cI, 32, .inl f)), (oc_opd, .inl (cI, 32, .inl g))]) (wr := [(oc_ops, .inl (cI, 32, .inl f)), (oc_opd, .inl (cI, 32, .inl g))]) (k_runV (q0 := 0) (As := [.int (nI (tn (g i)))]) (rest := []) (n := 1) S (c_CO_has l D cI cZ oc oc_ops oc_opd oc_fr oc_to oc_tg n hn (tn (g i)) (by have := (hj (by assumption)).2; omega) (by omega)) E0_b E0_t ql_CH_68 qi_CO_has qs_CO_has qn_CO qc_CO_has (by decide +kernel) rfl ⟨rfl, rfl⟩ ⟨Nat.le_of_ble_eq_true rfl, Nat.le_of_ble_eq_true rfl⟩ hK hP hD [0] rfl (by decide) rfl rfl hl.1 rfl (Nat.le_of_ble_eq_true rfl) d_CH_staysInside_38 ⟨Nat.zero_le _, Nat.zero_le _⟩) hP hD hS hA [0] [1, 2] [2, 0, 1] rfl rfl (by decide) (by decide) rfl (by decide) (fun H locs hP hD hS => ?_)
      refine lv_if_eq (tgt := 48) hx hb d_CH_staysInside_41 (by decide) (fun h41_3 => ?_) (fun h41_3 => ?_)
      · skip
        refine lv_iconst (v := 0) hx hb d_CH_staysInside_48 (by decide) ?_
        exact k_zret hx hb hr hlocks hK hP hD hS (by decide) (by rw [f_CH_staysInside, if_pos h11_1, if_neg h28_2, if_pos h41_3]) rfl d_CH_staysInside_49
      · skip
        refine lv_iconst (v := 1) hx hb d_CH_staysInside_44 (by decide) ?_
        refine lv_goto (tgt := 49) hx hb d_CH_staysInside_45 (by decide) ?_
        exact k_zret hx hb hr hlocks hK hP hD hS (by decide) (by rw [f_CH_staysInside, if_pos h11_1, if_neg h28_2, if_neg h41_3]) rfl d_CH_staysInside_49
  · skip
    refine lv_aload_n hx hb d_CH_staysInside_14 rfl (lv_at hl 1 rfl) ?_
    refine lv_iload_n hx hb d_CH_staysInside_15 rfl (lv_at hl 2 rfl) ?_
    refine lv_iconst (v := 1) hx hb d_CH_staysInside_16 (by decide) ?_
    refine lv_iadd hx hb d_CH_staysInside_17 ?_
    refine k_top (y := nI (i + 1)) (nc_add rfl (by decide)) ?_
    refine k_goi (ws' := [(oc, .inr (1, [.ref oc_ops, .ref oc_opd, .ref oc_fr, .ref oc_to, .ref oc_tg, .int (nI n), .int (nI hn)])), (oc_ops, .inl (cI, 32, .inl f)), (oc_opd, .inl (cI, 32, .inl g))]) (wr := [(oc_ops, .inl (cI, 32, .inl f)), (oc_opd, .inl (cI, 32, .inl g))]) (k_runV (q0 := 0) (As := [.int (nI (i + 1))]) (rest := []) (n := 1) S (c_CO_has l D cI cZ oc oc_ops oc_opd oc_fr oc_to oc_tg n hn (i + 1) (by omega) (by omega)) E0_b E0_t ql_CH_68 qi_CO_has qs_CO_has qn_CO qc_CO_has (by decide +kernel) rfl ⟨rfl, rfl⟩ ⟨Nat.le_of_ble_eq_true rfl, Nat.le_of_ble_eq_true rfl⟩ hK hP hD [0] rfl (by decide) rfl rfl hl.1 rfl (Nat.le_of_ble_eq_true rfl) d_CH_staysInside_18 ⟨Nat.zero_le _, Nat.zero_le _⟩) hP hD hS hA [0] [1, 2] [2, 0, 1] rfl rfl (by decide) (by decide) rfl (by decide) (fun H locs hP hD hS => ?_)
    refine lv_if_eq (tgt := 48) hx hb d_CH_staysInside_21 (by decide) (fun h21_4 => ?_) (fun h21_4 => ?_)
    · skip
      refine lv_iconst (v := 0) hx hb d_CH_staysInside_48 (by decide) ?_
      exact k_zret hx hb hr hlocks hK hP hD hS (by decide) (by rw [f_CH_staysInside, if_neg h11_1, if_pos h21_4]) rfl d_CH_staysInside_49
    · skip
      refine lv_iload_n hx hb d_CH_staysInside_24 rfl (lv_at hl 0 rfl) ?_
      refine k_goi (ws' := [(oc, .inr (1, [.ref oc_ops, .ref oc_opd, .ref oc_fr, .ref oc_to, .ref oc_tg, .int (nI n), .int (nI hn)])), (oc_ops, .inl (cI, 32, .inl f)), (oc_opd, .inl (cI, 32, .inl g))]) (wr := [(oc, .inr (1, [.ref oc_ops, .ref oc_opd, .ref oc_fr, .ref oc_to, .ref oc_tg, .int (nI n), .int (nI hn)])), (oc_ops, .inl (cI, 32, .inl f)), (oc_opd, .inl (cI, 32, .inl g))]) (k_runSN (As := [.int (f i)]) (rest := []) (n := 1) S (c_FF_jumps l D cI cZ (f i)) E0_b E0_t (hE.1 _ (List.mem_of_getElem? (i := 8) rfl)) qt_FF_jumps qn_FF qc_FF_jumps (by decide +kernel) rfl ⟨rfl, rfl⟩ ⟨Nat.le_of_ble_eq_true rfl, Nat.le_of_ble_eq_true rfl⟩ hK hP hD [] rfl (by decide) hl.1 rfl (Nat.le_of_ble_eq_true rfl) d_CH_staysInside_25 ⟨Nat.zero_le _, Nat.zero_le _⟩) hP hD hS hA [] [0, 1, 2] [0, 1, 2] rfl rfl (by decide) (by decide) rfl (by decide) (fun H locs hP hD hS => ?_)
      refine lv_if_eq (tgt := 44) hx hb d_CH_staysInside_28 (by decide) (fun h28_5 => ?_) (fun h28_5 => ?_)
      · skip
        refine lv_iconst (v := 1) hx hb d_CH_staysInside_44 (by decide) ?_
        refine lv_goto (tgt := 49) hx hb d_CH_staysInside_45 (by decide) ?_
        exact k_zret hx hb hr hlocks hK hP hD hS (by decide) (by rw [f_CH_staysInside, if_neg h11_1, if_neg h21_4, if_pos h28_5]) rfl d_CH_staysInside_49
      · skip
        refine lv_aload_n hx hb d_CH_staysInside_31 rfl (lv_at hl 1 rfl) ?_
        refine lv_aload_n hx hb d_CH_staysInside_32 rfl (lv_at hl 1 rfl) ?_
        refine k_get (v := .ref oc_opd) S in_CO hK hP 0 rfl rfl 1 (by decide) ql_CH_62 rfl d_CH_staysInside_33 ?_
        refine lv_iload_n hx hb d_CH_staysInside_36 rfl (lv_at hl 2 rfl) ?_
        refine k_ld (k := i) hx hb hK hP 2 0 rfl rfl rfl (by omega) (by decide) d_CH_staysInside_37 ?_
        refine k_top (y := nI (tn (g i))) (hj (by assumption)).1 ?_
        refine k_goi (ws' := [(oc, .inr (1, [.ref oc_ops, .ref oc_opd, .ref oc_fr, .ref oc_to, .ref oc_tg, .int (nI n), .int (nI hn)])), (oc_ops, .inl (cI, 32, .inl f)), (oc_opd, .inl (cI, 32, .inl g))]) (wr := [(oc_ops, .inl (cI, 32, .inl f)), (oc_opd, .inl (cI, 32, .inl g))]) (k_runV (q0 := 0) (As := [.int (nI (tn (g i)))]) (rest := []) (n := 1) S (c_CO_has l D cI cZ oc oc_ops oc_opd oc_fr oc_to oc_tg n hn (tn (g i)) (by have := (hj (by assumption)).2; omega) (by omega)) E0_b E0_t ql_CH_68 qi_CO_has qs_CO_has qn_CO qc_CO_has (by decide +kernel) rfl ⟨rfl, rfl⟩ ⟨Nat.le_of_ble_eq_true rfl, Nat.le_of_ble_eq_true rfl⟩ hK hP hD [0] rfl (by decide) rfl rfl hl.1 rfl (Nat.le_of_ble_eq_true rfl) d_CH_staysInside_38 ⟨Nat.zero_le _, Nat.zero_le _⟩) hP hD hS hA [0] [1, 2] [2, 0, 1] rfl rfl (by decide) (by decide) rfl (by decide) (fun H locs hP hD hS => ?_)
        refine lv_if_eq (tgt := 48) hx hb d_CH_staysInside_41 (by decide) (fun h41_6 => ?_) (fun h41_6 => ?_)
        · skip
          refine lv_iconst (v := 0) hx hb d_CH_staysInside_48 (by decide) ?_
          exact k_zret hx hb hr hlocks hK hP hD hS (by decide) (by rw [f_CH_staysInside, if_neg h11_1, if_neg h21_4, if_neg h28_5, if_pos h41_6]) rfl d_CH_staysInside_49
        · skip
          refine lv_iconst (v := 1) hx hb d_CH_staysInside_44 (by decide) ?_
          refine lv_goto (tgt := 49) hx hb d_CH_staysInside_45 (by decide) ?_
          exact k_zret hx hb hr hlocks hK hP hD hS (by decide) (by rw [f_CH_staysInside, if_neg h11_1, if_neg h21_4, if_neg h28_5, if_neg h41_6]) rfl d_CH_staysInside_49

theorem d_CH_gives_0 : decode b_CH_gives 0 = .ok (.aload_n 1, 1) := by decide +kernel
theorem d_CH_gives_1 : decode b_CH_gives 1 = .ok (.iload_n 2, 1) := by decide +kernel
theorem d_CH_gives_2 : decode b_CH_gives 2 = .ok (.invokevirtual 68, 3) := by decide +kernel
theorem d_CH_gives_5 : decode b_CH_gives 5 = .ok (.ifCond .eq 21, 3) := by decide +kernel
theorem d_CH_gives_8 : decode b_CH_gives 8 = .ok (.aload_n 0, 1) := by decide +kernel
theorem d_CH_gives_9 : decode b_CH_gives 9 = .ok (.iload_n 2, 1) := by decide +kernel
theorem d_CH_gives_10 : decode b_CH_gives 10 = .ok (.invokevirtual 36, 3) := by decide +kernel
theorem d_CH_gives_13 : decode b_CH_gives 13 = .ok (.ifCond .eq 15, 3) := by decide +kernel
theorem d_CH_gives_16 : decode b_CH_gives 16 = .ok (.aload_n 0, 1) := by decide +kernel
theorem d_CH_gives_17 : decode b_CH_gives 17 = .ok (.getfield 9, 3) := by decide +kernel
theorem d_CH_gives_20 : decode b_CH_gives 20 = .ok (.iload_n 2, 1) := by decide +kernel
theorem d_CH_gives_21 : decode b_CH_gives 21 = .ok (.iaload, 1) := by decide +kernel
theorem d_CH_gives_22 : decode b_CH_gives 22 = .ok (.iload_n 3, 1) := by decide +kernel
theorem d_CH_gives_23 : decode b_CH_gives 23 = .ok (.if_icmp .eq 5, 3) := by decide +kernel
theorem d_CH_gives_26 : decode b_CH_gives 26 = .ok (.iconst 0, 1) := by decide +kernel
theorem d_CH_gives_27 : decode b_CH_gives 27 = .ok (.ireturn, 1) := by decide +kernel
theorem d_CH_gives_28 : decode b_CH_gives 28 = .ok (.aload_n 0, 1) := by decide +kernel
theorem d_CH_gives_29 : decode b_CH_gives 29 = .ok (.getfield 9, 3) := by decide +kernel
theorem d_CH_gives_32 : decode b_CH_gives 32 = .ok (.iload_n 2, 1) := by decide +kernel
theorem d_CH_gives_33 : decode b_CH_gives 33 = .ok (.iload_n 3, 1) := by decide +kernel
theorem d_CH_gives_34 : decode b_CH_gives 34 = .ok (.iastore, 1) := by decide +kernel
theorem d_CH_gives_35 : decode b_CH_gives 35 = .ok (.iconst 1, 1) := by decide +kernel
theorem d_CH_gives_36 : decode b_CH_gives 36 = .ok (.ireturn, 1) := by decide +kernel
def f_CH_gives (n : Nat) (i : Nat) (d : Nat → Int32) (v : Int32) : Int32 × (Nat → Int32) := (if f_CO_has n i = 0 then (0, d) else (if f_CH_reached i d = 0 then (1, upd d i v) else (if d i = v then (1, upd d i v) else (0, d))))
set_option maxHeartbeats 1000000 in
set_option maxRecDepth 100000 in
theorem c_CH_gives (l : Launch) (D : va_G) (cI cZ : ClassId) (k k_d k_o : Nat) (oc oc_ops oc_opd oc_fr oc_to oc_tg n hn : Nat) (i : Nat) (d : Nat → Int32) (v : Int32) (hh : n ≤ 32) (hi : i < 2 ^ 31) : MG l y_CH_gives w_CH_gives (rmK 1 21) D classes (tyz cI cZ) E0 [.ref k, .ref oc, .int (nI i), .int v] [(k, .inr (2, [.ref k_d, .ref k_o])), (k_d, .inl (cI, 32, .inl d)), (oc, .inr (1, [.ref oc_ops, .ref oc_opd, .ref oc_fr, .ref oc_to, .ref oc_tg, .int (nI n), .int (nI hn)]))] (RI D classes (tyz cI cZ) ((f_CH_gives n i d v).1) [(k, .inr (2, [.ref k_d, .ref k_o])), (k_d, .inl (cI, 32, .inl ((f_CH_gives n i d v).2))), (oc, .inr (1, [.ref oc_ops, .ref oc_opd, .ref oc_fr, .ref oc_to, .ref oc_tg, .int (nI n), .int (nI hn)]))]) := by
  refine MG.of (cc := b_CH_gives) (maxL := 4) (ret := (some .boolean)) (own := "FlowFlattener$Checker") rfl (by decide) rfl (Nat.le_of_ble_eq_true rfl) ?_
  intro p e s m below meth c A ls S hr hlocks hA hP hK hD hS hE hl
  have hx := S.1
  have hb := S.2.1
  have hl : lv_has ls 4 [(0, .ref k), (1, .ref oc), (2, .int (nI i)), (3, .int v)] := hl
  refine lv_aload_n hx hb d_CH_gives_0 rfl (lv_at hl 1 rfl) ?_
  refine lv_iload_n hx hb d_CH_gives_1 rfl (lv_at hl 2 rfl) ?_
  refine k_goi (ws' := [(k, .inr (2, [.ref k_d, .ref k_o])), (k_d, .inl (cI, 32, .inl d)), (oc, .inr (1, [.ref oc_ops, .ref oc_opd, .ref oc_fr, .ref oc_to, .ref oc_tg, .int (nI n), .int (nI hn)]))]) (wr := [(k, .inr (2, [.ref k_d, .ref k_o])), (k_d, .inl (cI, 32, .inl d))]) (k_runV (q0 := 2) (As := [.int (nI i)]) (rest := []) (n := 1) S (c_CO_has l D cI cZ oc oc_ops oc_opd oc_fr oc_to oc_tg n hn i (by omega) (by omega)) E0_b E0_t ql_CH_68 qi_CO_has qs_CO_has qn_CO qc_CO_has (by decide +kernel) rfl ⟨rfl, rfl⟩ ⟨Nat.le_of_ble_eq_true rfl, Nat.le_of_ble_eq_true rfl⟩ hK hP hD [2] rfl (by decide) rfl rfl hl.1 rfl (Nat.le_of_ble_eq_true rfl) d_CH_gives_2 ⟨Nat.zero_le _, Nat.zero_le _⟩) hP hD hS hA [2] [0, 1] [0, 1, 2] rfl rfl (by decide) (by decide) rfl (by decide) (fun H locs hP hD hS => ?_)
  refine lv_if_eq (tgt := 26) hx hb d_CH_gives_5 (by decide) (fun h5_1 => ?_) (fun h5_1 => ?_)
  · skip
    refine lv_iconst (v := 0) hx hb d_CH_gives_26 (by decide) ?_
    exact k_zret hx hb hr hlocks hK hP hD hS (by decide) (by rw [f_CH_gives, if_pos h5_1]) (by rw [f_CH_gives, if_pos h5_1]) d_CH_gives_27
  · skip
    refine lv_aload_n hx hb d_CH_gives_8 rfl (lv_at hl 0 rfl) ?_
    refine lv_iload_n hx hb d_CH_gives_9 rfl (lv_at hl 2 rfl) ?_
    refine k_goi (ws' := [(k, .inr (2, [.ref k_d, .ref k_o])), (k_d, .inl (cI, 32, .inl d)), (oc, .inr (1, [.ref oc_ops, .ref oc_opd, .ref oc_fr, .ref oc_to, .ref oc_tg, .int (nI n), .int (nI hn)]))]) (wr := [(oc, .inr (1, [.ref oc_ops, .ref oc_opd, .ref oc_fr, .ref oc_to, .ref oc_tg, .int (nI n), .int (nI hn)]))]) (k_runV (q0 := 0) (As := [.int (nI i)]) (rest := []) (n := 1) S (c_CH_reached l D cI cZ k k_d k_o i d (by have := has_lt (by assumption); omega)) E0_b E0_t ql_CH_36 qi_CH_reached qs_CH_reached qn_CH qc_CH_reached (by decide +kernel) rfl ⟨rfl, rfl⟩ ⟨Nat.le_of_ble_eq_true rfl, Nat.le_of_ble_eq_true rfl⟩ hK hP hD [0, 1] rfl (by decide) rfl rfl hl.1 rfl (Nat.le_of_ble_eq_true rfl) d_CH_gives_10 ⟨Nat.zero_le _, Nat.zero_le _⟩) hP hD hS hA [0, 1] [2] [1, 2, 0] rfl rfl (by decide) (by decide) rfl (by decide) (fun H locs hP hD hS => ?_)
    refine lv_if_eq (tgt := 28) hx hb d_CH_gives_13 (by decide) (fun h13_2 => ?_) (fun h13_2 => ?_)
    · skip
      refine lv_aload_n hx hb d_CH_gives_28 rfl (lv_at hl 0 rfl) ?_
      refine k_get (v := .ref k_d) S in_CH hK hP 0 rfl rfl 0 (by decide) ql_CH_9 rfl d_CH_gives_29 ?_
      refine lv_iload_n hx hb d_CH_gives_32 rfl (lv_at hl 2 rfl) ?_
      refine lv_iload_n hx hb d_CH_gives_33 rfl (lv_at hl 3 rfl) ?_
      refine k_st (k := i) (x := v) (ws' := [(k, .inr (2, [.ref k_d, .ref k_o])), (k_d, .inl (cI, 32, .inl (upd d i v))), (oc, .inr (1, [.ref oc_ops, .ref oc_opd, .ref oc_fr, .ref oc_to, .ref oc_tg, .int (nI n), .int (nI hn)]))]) hx hb hK hP hD hS 1 0 rfl rfl rfl (by have := has_lt (by assumption); omega) (by decide) rfl d_CH_gives_34 (fun H locs hP hD hS => ?_)
      refine lv_iconst (v := 1) hx hb d_CH_gives_35 (by decide) ?_
      exact k_zret hx hb hr hlocks hK hP hD hS (by decide) (by rw [f_CH_gives, if_neg h5_1, if_pos h13_2]) (by rw [f_CH_gives, if_neg h5_1, if_pos h13_2]) d_CH_gives_36
    · skip
      refine lv_aload_n hx hb d_CH_gives_16 rfl (lv_at hl 0 rfl) ?_
      refine k_get (v := .ref k_d) S in_CH hK hP 0 rfl rfl 0 (by decide) ql_CH_9 rfl d_CH_gives_17 ?_
      refine lv_iload_n hx hb d_CH_gives_20 rfl (lv_at hl 2 rfl) ?_
      refine k_ld (k := i) hx hb hK hP 1 0 rfl rfl rfl (by have := has_lt (by assumption); omega) (by decide) d_CH_gives_21 ?_
      refine lv_iload_n hx hb d_CH_gives_22 rfl (lv_at hl 3 rfl) ?_
      refine lv_icmp_eq (tgt := 28) hx hb d_CH_gives_23 (by decide) (fun h23_3 => ?_) (fun h23_3 => ?_)
      · skip
        refine lv_aload_n hx hb d_CH_gives_28 rfl (lv_at hl 0 rfl) ?_
        refine k_get (v := .ref k_d) S in_CH hK hP 0 rfl rfl 0 (by decide) ql_CH_9 rfl d_CH_gives_29 ?_
        refine lv_iload_n hx hb d_CH_gives_32 rfl (lv_at hl 2 rfl) ?_
        refine lv_iload_n hx hb d_CH_gives_33 rfl (lv_at hl 3 rfl) ?_
        refine k_st (k := i) (x := v) (ws' := [(k, .inr (2, [.ref k_d, .ref k_o])), (k_d, .inl (cI, 32, .inl (upd d i v))), (oc, .inr (1, [.ref oc_ops, .ref oc_opd, .ref oc_fr, .ref oc_to, .ref oc_tg, .int (nI n), .int (nI hn)]))]) hx hb hK hP hD hS 1 0 rfl rfl rfl (by have := has_lt (by assumption); omega) (by decide) rfl d_CH_gives_34 (fun H locs hP hD hS => ?_)
        refine lv_iconst (v := 1) hx hb d_CH_gives_35 (by decide) ?_
        exact k_zret hx hb hr hlocks hK hP hD hS (by decide) (by rw [f_CH_gives, if_neg h5_1, if_neg h13_2, if_pos h23_3]) (by rw [f_CH_gives, if_neg h5_1, if_neg h13_2, if_pos h23_3]) d_CH_gives_36
      · skip
        refine lv_iconst (v := 0) hx hb d_CH_gives_26 (by decide) ?_
        exact k_zret hx hb hr hlocks hK hP hD hS (by decide) (by rw [f_CH_gives, if_neg h5_1, if_neg h13_2, if_neg h23_3]) (by rw [f_CH_gives, if_neg h5_1, if_neg h13_2, if_neg h23_3]) d_CH_gives_27
