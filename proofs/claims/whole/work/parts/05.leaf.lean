theorem d_MO_outside_0 : decode b_MO_outside 0 = .ok (.iload_n 0, 1) := by decide +kernel
theorem d_MO_outside_1 : decode b_MO_outside 1 = .ok (.ifCond .lt 8, 3) := by decide +kernel
theorem d_MO_outside_4 : decode b_MO_outside 4 = .ok (.iload_n 0, 1) := by decide +kernel
theorem d_MO_outside_5 : decode b_MO_outside 5 = .ok (.iload_n 1, 1) := by decide +kernel
theorem d_MO_outside_6 : decode b_MO_outside 6 = .ok (.if_icmp .le 7, 3) := by decide +kernel
theorem d_MO_outside_9 : decode b_MO_outside 9 = .ok (.iconst 1, 1) := by decide +kernel
theorem d_MO_outside_10 : decode b_MO_outside 10 = .ok (.goto 4, 3) := by decide +kernel
theorem d_MO_outside_13 : decode b_MO_outside 13 = .ok (.iconst 0, 1) := by decide +kernel
theorem d_MO_outside_14 : decode b_MO_outside 14 = .ok (.ireturn, 1) := by decide +kernel
def f_MO_outside (v : Int32) (k : Int32) : Int32 := (if v < 0 then 1 else (if v ≤ k then 0 else 1))
set_option maxHeartbeats 1000000 in
set_option maxRecDepth 100000 in
theorem c_MO_outside (l : Launch) (D : va_G) (cI cZ : ClassId) (v k : Int32) : MG l y_MO_outside w_MO_outside (rmK 0 0) D classes (tyz cI cZ) E0 [.int v, .int k] [] (RI D classes (tyz cI cZ) (f_MO_outside v k) []) := by
  refine MG.of (cc := b_MO_outside) (maxL := 2) (ret := (some .boolean)) (own := "FlowFlattenerModel") rfl (by decide) rfl (Nat.le_of_ble_eq_true rfl) ?_
  intro p e s m below meth c A ls S hr hlocks hA hP hK hD hS hE hl
  have hx := S.1
  have hb := S.2.1
  have hl : lv_has ls 2 [(0, .int v), (1, .int k)] := hl
  refine lv_iload_n hx hb d_MO_outside_0 rfl (lv_at hl 0 rfl) ?_
  refine lv_if_lt (tgt := 9) hx hb d_MO_outside_1 (by decide) (fun h1_1 => ?_) (fun h1_1 => ?_)
  · skip
    refine lv_iconst (v := 1) hx hb d_MO_outside_9 (by decide) ?_
    refine lv_goto (tgt := 14) hx hb d_MO_outside_10 (by decide) ?_
    exact k_zret hx hb hr hlocks hK hP hD hS (by decide) (by rw [f_MO_outside, if_pos h1_1]) rfl d_MO_outside_14
  · skip
    refine lv_iload_n hx hb d_MO_outside_4 rfl (lv_at hl 0 rfl) ?_
    refine lv_iload_n hx hb d_MO_outside_5 rfl (lv_at hl 1 rfl) ?_
    refine lv_icmp_le (tgt := 13) hx hb d_MO_outside_6 (by decide) (fun h6_2 => ?_) (fun h6_2 => ?_)
    · skip
      refine lv_iconst (v := 0) hx hb d_MO_outside_13 (by decide) ?_
      exact k_zret hx hb hr hlocks hK hP hD hS (by decide) (by rw [f_MO_outside, if_neg h1_1, if_pos h6_2]) rfl d_MO_outside_14
    · skip
      refine lv_iconst (v := 1) hx hb d_MO_outside_9 (by decide) ?_
      refine lv_goto (tgt := 14) hx hb d_MO_outside_10 (by decide) ?_
      exact k_zret hx hb hr hlocks hK hP hD hS (by decide) (by rw [f_MO_outside, if_neg h1_1, if_neg h6_2]) rfl d_MO_outside_14

theorem d_MO_jumps_0 : decode b_MO_jumps 0 = .ok (.iload_n 0, 1) := by decide +kernel
theorem d_MO_jumps_1 : decode b_MO_jumps 1 = .ok (.bipush 13, 2) := by decide +kernel
theorem d_MO_jumps_3 : decode b_MO_jumps 3 = .ok (.if_icmp .eq 15, 3) := by decide +kernel
theorem d_MO_jumps_6 : decode b_MO_jumps 6 = .ok (.iload_n 0, 1) := by decide +kernel
theorem d_MO_jumps_7 : decode b_MO_jumps 7 = .ok (.bipush 14, 2) := by decide +kernel
theorem d_MO_jumps_9 : decode b_MO_jumps 9 = .ok (.if_icmp .eq 9, 3) := by decide +kernel
theorem d_MO_jumps_12 : decode b_MO_jumps 12 = .ok (.iload_n 0, 1) := by decide +kernel
theorem d_MO_jumps_13 : decode b_MO_jumps 13 = .ok (.bipush 15, 2) := by decide +kernel
theorem d_MO_jumps_15 : decode b_MO_jumps 15 = .ok (.if_icmp .ne 7, 3) := by decide +kernel
theorem d_MO_jumps_18 : decode b_MO_jumps 18 = .ok (.iconst 1, 1) := by decide +kernel
theorem d_MO_jumps_19 : decode b_MO_jumps 19 = .ok (.goto 4, 3) := by decide +kernel
theorem d_MO_jumps_22 : decode b_MO_jumps 22 = .ok (.iconst 0, 1) := by decide +kernel
theorem d_MO_jumps_23 : decode b_MO_jumps 23 = .ok (.ireturn, 1) := by decide +kernel
def f_MO_jumps (o : Int32) : Int32 := (if o = 13 then 1 else (if o = 14 then 1 else (if o = 15 then 1 else 0)))
set_option maxHeartbeats 1000000 in
set_option maxRecDepth 100000 in
theorem c_MO_jumps (l : Launch) (D : va_G) (cI cZ : ClassId) (o : Int32) : MG l y_MO_jumps w_MO_jumps (rmK 0 0) D classes (tyz cI cZ) E0 [.int o] [] (RI D classes (tyz cI cZ) (f_MO_jumps o) []) := by
  refine MG.of (cc := b_MO_jumps) (maxL := 1) (ret := (some .boolean)) (own := "FlowFlattenerModel") rfl (by decide) rfl (Nat.le_of_ble_eq_true rfl) ?_
  intro p e s m below meth c A ls S hr hlocks hA hP hK hD hS hE hl
  have hx := S.1
  have hb := S.2.1
  have hl : lv_has ls 1 [(0, .int o)] := hl
  refine lv_iload_n hx hb d_MO_jumps_0 rfl (lv_at hl 0 rfl) ?_
  refine lv_bipush (v := 13) hx hb d_MO_jumps_1 (by decide) ?_
  refine lv_icmp_eq (tgt := 18) hx hb d_MO_jumps_3 (by decide) (fun h3_1 => ?_) (fun h3_1 => ?_)
  · skip
    refine lv_iconst (v := 1) hx hb d_MO_jumps_18 (by decide) ?_
    refine lv_goto (tgt := 23) hx hb d_MO_jumps_19 (by decide) ?_
    exact k_zret hx hb hr hlocks hK hP hD hS (by decide) (by rw [f_MO_jumps, if_pos h3_1]) rfl d_MO_jumps_23
  · skip
    refine lv_iload_n hx hb d_MO_jumps_6 rfl (lv_at hl 0 rfl) ?_
    refine lv_bipush (v := 14) hx hb d_MO_jumps_7 (by decide) ?_
    refine lv_icmp_eq (tgt := 18) hx hb d_MO_jumps_9 (by decide) (fun h9_2 => ?_) (fun h9_2 => ?_)
    · skip
      refine lv_iconst (v := 1) hx hb d_MO_jumps_18 (by decide) ?_
      refine lv_goto (tgt := 23) hx hb d_MO_jumps_19 (by decide) ?_
      exact k_zret hx hb hr hlocks hK hP hD hS (by decide) (by rw [f_MO_jumps, if_neg h3_1, if_pos h9_2]) rfl d_MO_jumps_23
    · skip
      refine lv_iload_n hx hb d_MO_jumps_12 rfl (lv_at hl 0 rfl) ?_
      refine lv_bipush (v := 15) hx hb d_MO_jumps_13 (by decide) ?_
      refine lv_icmp_ne (tgt := 22) hx hb d_MO_jumps_15 (by decide) (fun h15_3 => ?_) (fun h15_3 => ?_)
      · skip
        refine lv_iconst (v := 0) hx hb d_MO_jumps_22 (by decide) ?_
        exact k_zret hx hb hr hlocks hK hP hD hS (by decide) (by rw [f_MO_jumps, if_neg h3_1, if_neg h9_2, if_neg h15_3]) rfl d_MO_jumps_23
      · skip
        refine lv_iconst (v := 1) hx hb d_MO_jumps_18 (by decide) ?_
        refine lv_goto (tgt := 23) hx hb d_MO_jumps_19 (by decide) ?_
        exact k_zret hx hb hr hlocks hK hP hD hS (by decide) (by rw [f_MO_jumps, if_neg h3_1, if_neg h9_2, if_pos h15_3]) rfl d_MO_jumps_23

theorem d_MO_bears_0 : decode b_MO_bears 0 = .ok (.iload_n 0, 1) := by decide +kernel
theorem d_MO_bears_1 : decode b_MO_bears 1 = .ok (.ifCond .eq 20, 3) := by decide +kernel
theorem d_MO_bears_4 : decode b_MO_bears 4 = .ok (.iload_n 0, 1) := by decide +kernel
theorem d_MO_bears_5 : decode b_MO_bears 5 = .ok (.iconst 1, 1) := by decide +kernel
theorem d_MO_bears_6 : decode b_MO_bears 6 = .ok (.if_icmp .eq 15, 3) := by decide +kernel
theorem d_MO_bears_9 : decode b_MO_bears 9 = .ok (.iload_n 0, 1) := by decide +kernel
theorem d_MO_bears_10 : decode b_MO_bears 10 = .ok (.iconst 2, 1) := by decide +kernel
theorem d_MO_bears_11 : decode b_MO_bears 11 = .ok (.if_icmp .eq 10, 3) := by decide +kernel
theorem d_MO_bears_14 : decode b_MO_bears 14 = .ok (.iload_n 0, 1) := by decide +kernel
theorem d_MO_bears_15 : decode b_MO_bears 15 = .ok (.invokestatic 73, 3) := by decide +kernel
theorem d_MO_bears_18 : decode b_MO_bears 18 = .ok (.ifCond .eq 7, 3) := by decide +kernel
theorem d_MO_bears_21 : decode b_MO_bears 21 = .ok (.iconst 1, 1) := by decide +kernel
theorem d_MO_bears_22 : decode b_MO_bears 22 = .ok (.goto 4, 3) := by decide +kernel
theorem d_MO_bears_25 : decode b_MO_bears 25 = .ok (.iconst 0, 1) := by decide +kernel
theorem d_MO_bears_26 : decode b_MO_bears 26 = .ok (.ireturn, 1) := by decide +kernel
def f_MO_bears (o : Int32) : Int32 := (if o = 0 then 1 else (if o = 1 then 1 else (if o = 2 then 1 else (if f_MO_jumps o = 0 then 0 else 1))))
set_option maxHeartbeats 1000000 in
set_option maxRecDepth 100000 in
theorem c_MO_bears (l : Launch) (D : va_G) (cI cZ : ClassId) (o : Int32) : MG l y_MO_bears w_MO_bears (rmK 1 20) D classes (tyz cI cZ) E0 [.int o] [] (RI D classes (tyz cI cZ) (f_MO_bears o) []) := by
  refine MG.of (cc := b_MO_bears) (maxL := 1) (ret := (some .boolean)) (own := "FlowFlattenerModel") rfl (by decide) rfl (Nat.le_of_ble_eq_true rfl) ?_
  intro p e s m below meth c A ls S hr hlocks hA hP hK hD hS hE hl
  have hx := S.1
  have hb := S.2.1
  have hl : lv_has ls 1 [(0, .int o)] := hl
  refine lv_iload_n hx hb d_MO_bears_0 rfl (lv_at hl 0 rfl) ?_
  refine lv_if_eq (tgt := 21) hx hb d_MO_bears_1 (by decide) (fun h1_1 => ?_) (fun h1_1 => ?_)
  · skip
    refine lv_iconst (v := 1) hx hb d_MO_bears_21 (by decide) ?_
    refine lv_goto (tgt := 26) hx hb d_MO_bears_22 (by decide) ?_
    exact k_zret hx hb hr hlocks hK hP hD hS (by decide) (by rw [f_MO_bears, if_pos h1_1]) rfl d_MO_bears_26
  · skip
    refine lv_iload_n hx hb d_MO_bears_4 rfl (lv_at hl 0 rfl) ?_
    refine lv_iconst (v := 1) hx hb d_MO_bears_5 (by decide) ?_
    refine lv_icmp_eq (tgt := 21) hx hb d_MO_bears_6 (by decide) (fun h6_2 => ?_) (fun h6_2 => ?_)
    · skip
      refine lv_iconst (v := 1) hx hb d_MO_bears_21 (by decide) ?_
      refine lv_goto (tgt := 26) hx hb d_MO_bears_22 (by decide) ?_
      exact k_zret hx hb hr hlocks hK hP hD hS (by decide) (by rw [f_MO_bears, if_neg h1_1, if_pos h6_2]) rfl d_MO_bears_26
    · skip
      refine lv_iload_n hx hb d_MO_bears_9 rfl (lv_at hl 0 rfl) ?_
      refine lv_iconst (v := 2) hx hb d_MO_bears_10 (by decide) ?_
      refine lv_icmp_eq (tgt := 21) hx hb d_MO_bears_11 (by decide) (fun h11_3 => ?_) (fun h11_3 => ?_)
      · skip
        refine lv_iconst (v := 1) hx hb d_MO_bears_21 (by decide) ?_
        refine lv_goto (tgt := 26) hx hb d_MO_bears_22 (by decide) ?_
        exact k_zret hx hb hr hlocks hK hP hD hS (by decide) (by rw [f_MO_bears, if_neg h1_1, if_neg h6_2, if_pos h11_3]) rfl d_MO_bears_26
      · skip
        refine lv_iload_n hx hb d_MO_bears_14 rfl (lv_at hl 0 rfl) ?_
        refine k_goi (ws' := []) (wr := []) (k_runS (As := [.int o]) (rest := []) (n := 1) S (c_MO_jumps l D cI cZ o) E0_b E0_t ql_MO_73 qt_MO_jumps qn_MO qc_MO_jumps (by decide +kernel) rfl ⟨rfl, rfl⟩ ⟨Nat.le_of_ble_eq_true rfl, Nat.le_of_ble_eq_true rfl⟩ hK hP hD [] rfl (by decide) hl.1 rfl (Nat.le_of_ble_eq_true rfl) d_MO_bears_15 ⟨Nat.zero_le _, Nat.zero_le _⟩) hP hD hS hA [] [] [] rfl rfl (by decide) (by decide) rfl (by decide) (fun H locs hP hD hS => ?_)
        refine lv_if_eq (tgt := 25) hx hb d_MO_bears_18 (by decide) (fun h18_4 => ?_) (fun h18_4 => ?_)
        · skip
          refine lv_iconst (v := 0) hx hb d_MO_bears_25 (by decide) ?_
          exact k_zret hx hb hr hlocks hK hP hD hS (by decide) (by rw [f_MO_bears, if_neg h1_1, if_neg h6_2, if_neg h11_3, if_pos h18_4]) rfl d_MO_bears_26
        · skip
          refine lv_iconst (v := 1) hx hb d_MO_bears_21 (by decide) ?_
          refine lv_goto (tgt := 26) hx hb d_MO_bears_22 (by decide) ?_
          exact k_zret hx hb hr hlocks hK hP hD hS (by decide) (by rw [f_MO_bears, if_neg h1_1, if_neg h6_2, if_neg h11_3, if_neg h18_4]) rfl d_MO_bears_26

theorem d_MO_takes_0 : decode b_MO_takes 0 = .ok (.iload_n 0, 1) := by decide +kernel
theorem d_MO_takes_1 : decode b_MO_takes 1 = .ok (.iconst 2, 1) := by decide +kernel
theorem d_MO_takes_2 : decode b_MO_takes 2 = .ok (.if_icmp .lt 9, 3) := by decide +kernel
theorem d_MO_takes_5 : decode b_MO_takes 5 = .ok (.iload_n 0, 1) := by decide +kernel
theorem d_MO_takes_6 : decode b_MO_takes 6 = .ok (.bipush 13, 2) := by decide +kernel
theorem d_MO_takes_8 : decode b_MO_takes 8 = .ok (.if_icmp .ne 7, 3) := by decide +kernel
theorem d_MO_takes_11 : decode b_MO_takes 11 = .ok (.iconst 0, 1) := by decide +kernel
theorem d_MO_takes_12 : decode b_MO_takes 12 = .ok (.goto 25, 3) := by decide +kernel
theorem d_MO_takes_15 : decode b_MO_takes 15 = .ok (.iload_n 0, 1) := by decide +kernel
theorem d_MO_takes_16 : decode b_MO_takes 16 = .ok (.iconst 3, 1) := by decide +kernel
theorem d_MO_takes_17 : decode b_MO_takes 17 = .ok (.if_icmp .lt 9, 3) := by decide +kernel
theorem d_MO_takes_20 : decode b_MO_takes 20 = .ok (.iload_n 0, 1) := by decide +kernel
theorem d_MO_takes_21 : decode b_MO_takes 21 = .ok (.bipush 8, 2) := by decide +kernel
theorem d_MO_takes_23 : decode b_MO_takes 23 = .ok (.if_icmp .le 9, 3) := by decide +kernel
theorem d_MO_takes_26 : decode b_MO_takes 26 = .ok (.iload_n 0, 1) := by decide +kernel
theorem d_MO_takes_27 : decode b_MO_takes 27 = .ok (.bipush 10, 2) := by decide +kernel
theorem d_MO_takes_29 : decode b_MO_takes 29 = .ok (.if_icmp .ne 7, 3) := by decide +kernel
theorem d_MO_takes_32 : decode b_MO_takes 32 = .ok (.iconst 2, 1) := by decide +kernel
theorem d_MO_takes_33 : decode b_MO_takes 33 = .ok (.goto 4, 3) := by decide +kernel
theorem d_MO_takes_36 : decode b_MO_takes 36 = .ok (.iconst 1, 1) := by decide +kernel
theorem d_MO_takes_37 : decode b_MO_takes 37 = .ok (.ireturn, 1) := by decide +kernel
def f_MO_takes (o : Int32) : Int32 := (if o < 2 then 0 else (if o = 13 then 0 else (if o < 3 then (if o = 10 then 2 else 1) else (if o ≤ 8 then 2 else (if o = 10 then 2 else 1)))))
set_option maxHeartbeats 1000000 in
set_option maxRecDepth 100000 in
theorem c_MO_takes (l : Launch) (D : va_G) (cI cZ : ClassId) (o : Int32) : MG l y_MO_takes w_MO_takes (rmK 0 0) D classes (tyz cI cZ) E0 [.int o] [] (RI D classes (tyz cI cZ) (f_MO_takes o) []) := by
  refine MG.of (cc := b_MO_takes) (maxL := 1) (ret := (some .int)) (own := "FlowFlattenerModel") rfl (by decide) rfl (Nat.le_of_ble_eq_true rfl) ?_
  intro p e s m below meth c A ls S hr hlocks hA hP hK hD hS hE hl
  have hx := S.1
  have hb := S.2.1
  have hl : lv_has ls 1 [(0, .int o)] := hl
  refine lv_iload_n hx hb d_MO_takes_0 rfl (lv_at hl 0 rfl) ?_
  refine lv_iconst (v := 2) hx hb d_MO_takes_1 (by decide) ?_
  refine lv_icmp_lt (tgt := 11) hx hb d_MO_takes_2 (by decide) (fun h2_1 => ?_) (fun h2_1 => ?_)
  · skip
    refine lv_iconst (v := 0) hx hb d_MO_takes_11 (by decide) ?_
    refine lv_goto (tgt := 37) hx hb d_MO_takes_12 (by decide) ?_
    exact k_iret hx hb hr hlocks hK hP hD hS (by rw [f_MO_takes, if_pos h2_1]) rfl d_MO_takes_37
  · skip
    refine lv_iload_n hx hb d_MO_takes_5 rfl (lv_at hl 0 rfl) ?_
    refine lv_bipush (v := 13) hx hb d_MO_takes_6 (by decide) ?_
    refine lv_icmp_ne (tgt := 15) hx hb d_MO_takes_8 (by decide) (fun h8_2 => ?_) (fun h8_2 => ?_)
    · skip
      refine lv_iload_n hx hb d_MO_takes_15 rfl (lv_at hl 0 rfl) ?_
      refine lv_iconst (v := 3) hx hb d_MO_takes_16 (by decide) ?_
      refine lv_icmp_lt (tgt := 26) hx hb d_MO_takes_17 (by decide) (fun h17_3 => ?_) (fun h17_3 => ?_)
      · skip
        refine lv_iload_n hx hb d_MO_takes_26 rfl (lv_at hl 0 rfl) ?_
        refine lv_bipush (v := 10) hx hb d_MO_takes_27 (by decide) ?_
        refine lv_icmp_ne (tgt := 36) hx hb d_MO_takes_29 (by decide) (fun h29_4 => ?_) (fun h29_4 => ?_)
        · skip
          refine lv_iconst (v := 1) hx hb d_MO_takes_36 (by decide) ?_
          exact k_iret hx hb hr hlocks hK hP hD hS (by rw [f_MO_takes, if_neg h2_1, if_neg h8_2, if_pos h17_3, if_neg h29_4]) rfl d_MO_takes_37
        · skip
          refine lv_iconst (v := 2) hx hb d_MO_takes_32 (by decide) ?_
          refine lv_goto (tgt := 37) hx hb d_MO_takes_33 (by decide) ?_
          exact k_iret hx hb hr hlocks hK hP hD hS (by rw [f_MO_takes, if_neg h2_1, if_neg h8_2, if_pos h17_3, if_pos h29_4]) rfl d_MO_takes_37
      · skip
        refine lv_iload_n hx hb d_MO_takes_20 rfl (lv_at hl 0 rfl) ?_
        refine lv_bipush (v := 8) hx hb d_MO_takes_21 (by decide) ?_
        refine lv_icmp_le (tgt := 32) hx hb d_MO_takes_23 (by decide) (fun h23_5 => ?_) (fun h23_5 => ?_)
        · skip
          refine lv_iconst (v := 2) hx hb d_MO_takes_32 (by decide) ?_
          refine lv_goto (tgt := 37) hx hb d_MO_takes_33 (by decide) ?_
          exact k_iret hx hb hr hlocks hK hP hD hS (by rw [f_MO_takes, if_neg h2_1, if_neg h8_2, if_neg h17_3, if_pos h23_5]) rfl d_MO_takes_37
        · skip
          refine lv_iload_n hx hb d_MO_takes_26 rfl (lv_at hl 0 rfl) ?_
          refine lv_bipush (v := 10) hx hb d_MO_takes_27 (by decide) ?_
          refine lv_icmp_ne (tgt := 36) hx hb d_MO_takes_29 (by decide) (fun h29_6 => ?_) (fun h29_6 => ?_)
          · skip
            refine lv_iconst (v := 1) hx hb d_MO_takes_36 (by decide) ?_
            exact k_iret hx hb hr hlocks hK hP hD hS (by rw [f_MO_takes, if_neg h2_1, if_neg h8_2, if_neg h17_3, if_neg h23_5, if_neg h29_6]) rfl d_MO_takes_37
          · skip
            refine lv_iconst (v := 2) hx hb d_MO_takes_32 (by decide) ?_
            refine lv_goto (tgt := 37) hx hb d_MO_takes_33 (by decide) ?_
            exact k_iret hx hb hr hlocks hK hP hD hS (by rw [f_MO_takes, if_neg h2_1, if_neg h8_2, if_neg h17_3, if_neg h23_5, if_pos h29_6]) rfl d_MO_takes_37
    · skip
      refine lv_iconst (v := 0) hx hb d_MO_takes_11 (by decide) ?_
      refine lv_goto (tgt := 37) hx hb d_MO_takes_12 (by decide) ?_
      exact k_iret hx hb hr hlocks hK hP hD hS (by rw [f_MO_takes, if_neg h2_1, if_pos h8_2]) rfl d_MO_takes_37

theorem d_MO_gives_0 : decode b_MO_gives 0 = .ok (.iload_n 0, 1) := by decide +kernel
theorem d_MO_gives_1 : decode b_MO_gives 1 = .ok (.iconst 2, 1) := by decide +kernel
theorem d_MO_gives_2 : decode b_MO_gives 2 = .ok (.if_icmp .lt 14, 3) := by decide +kernel
theorem d_MO_gives_5 : decode b_MO_gives 5 = .ok (.iload_n 0, 1) := by decide +kernel
theorem d_MO_gives_6 : decode b_MO_gives 6 = .ok (.iconst 3, 1) := by decide +kernel
theorem d_MO_gives_7 : decode b_MO_gives 7 = .ok (.if_icmp .lt 13, 3) := by decide +kernel
theorem d_MO_gives_10 : decode b_MO_gives 10 = .ok (.iload_n 0, 1) := by decide +kernel
theorem d_MO_gives_11 : decode b_MO_gives 11 = .ok (.bipush 8, 2) := by decide +kernel
theorem d_MO_gives_13 : decode b_MO_gives 13 = .ok (.if_icmp .gt 7, 3) := by decide +kernel
theorem d_MO_gives_16 : decode b_MO_gives 16 = .ok (.iconst 1, 1) := by decide +kernel
theorem d_MO_gives_17 : decode b_MO_gives 17 = .ok (.goto 20, 3) := by decide +kernel
theorem d_MO_gives_20 : decode b_MO_gives 20 = .ok (.iload_n 0, 1) := by decide +kernel
theorem d_MO_gives_21 : decode b_MO_gives 21 = .ok (.bipush 9, 2) := by decide +kernel
theorem d_MO_gives_23 : decode b_MO_gives 23 = .ok (.if_icmp .eq 9, 3) := by decide +kernel
theorem d_MO_gives_26 : decode b_MO_gives 26 = .ok (.iload_n 0, 1) := by decide +kernel
theorem d_MO_gives_27 : decode b_MO_gives 27 = .ok (.bipush 10, 2) := by decide +kernel
theorem d_MO_gives_29 : decode b_MO_gives 29 = .ok (.if_icmp .ne 7, 3) := by decide +kernel
theorem d_MO_gives_32 : decode b_MO_gives 32 = .ok (.iconst 2, 1) := by decide +kernel
theorem d_MO_gives_33 : decode b_MO_gives 33 = .ok (.goto 4, 3) := by decide +kernel
theorem d_MO_gives_36 : decode b_MO_gives 36 = .ok (.iconst 0, 1) := by decide +kernel
theorem d_MO_gives_37 : decode b_MO_gives 37 = .ok (.ireturn, 1) := by decide +kernel
def f_MO_gives (o : Int32) : Int32 := (if o < 2 then 1 else (if o < 3 then (if o = 9 then 2 else (if o = 10 then 2 else 0)) else (if 8 < o then (if o = 9 then 2 else (if o = 10 then 2 else 0)) else 1)))
set_option maxHeartbeats 1000000 in
set_option maxRecDepth 100000 in
theorem c_MO_gives (l : Launch) (D : va_G) (cI cZ : ClassId) (o : Int32) : MG l y_MO_gives w_MO_gives (rmK 0 0) D classes (tyz cI cZ) E0 [.int o] [] (RI D classes (tyz cI cZ) (f_MO_gives o) []) := by
  refine MG.of (cc := b_MO_gives) (maxL := 1) (ret := (some .int)) (own := "FlowFlattenerModel") rfl (by decide) rfl (Nat.le_of_ble_eq_true rfl) ?_
  intro p e s m below meth c A ls S hr hlocks hA hP hK hD hS hE hl
  have hx := S.1
  have hb := S.2.1
  have hl : lv_has ls 1 [(0, .int o)] := hl
  refine lv_iload_n hx hb d_MO_gives_0 rfl (lv_at hl 0 rfl) ?_
  refine lv_iconst (v := 2) hx hb d_MO_gives_1 (by decide) ?_
  refine lv_icmp_lt (tgt := 16) hx hb d_MO_gives_2 (by decide) (fun h2_1 => ?_) (fun h2_1 => ?_)
  · skip
    refine lv_iconst (v := 1) hx hb d_MO_gives_16 (by decide) ?_
    refine lv_goto (tgt := 37) hx hb d_MO_gives_17 (by decide) ?_
    exact k_iret hx hb hr hlocks hK hP hD hS (by rw [f_MO_gives, if_pos h2_1]) rfl d_MO_gives_37
  · skip
    refine lv_iload_n hx hb d_MO_gives_5 rfl (lv_at hl 0 rfl) ?_
    refine lv_iconst (v := 3) hx hb d_MO_gives_6 (by decide) ?_
    refine lv_icmp_lt (tgt := 20) hx hb d_MO_gives_7 (by decide) (fun h7_2 => ?_) (fun h7_2 => ?_)
    · skip
      refine lv_iload_n hx hb d_MO_gives_20 rfl (lv_at hl 0 rfl) ?_
      refine lv_bipush (v := 9) hx hb d_MO_gives_21 (by decide) ?_
      refine lv_icmp_eq (tgt := 32) hx hb d_MO_gives_23 (by decide) (fun h23_3 => ?_) (fun h23_3 => ?_)
      · skip
        refine lv_iconst (v := 2) hx hb d_MO_gives_32 (by decide) ?_
        refine lv_goto (tgt := 37) hx hb d_MO_gives_33 (by decide) ?_
        exact k_iret hx hb hr hlocks hK hP hD hS (by rw [f_MO_gives, if_neg h2_1, if_pos h7_2, if_pos h23_3]) rfl d_MO_gives_37
      · skip
        refine lv_iload_n hx hb d_MO_gives_26 rfl (lv_at hl 0 rfl) ?_
        refine lv_bipush (v := 10) hx hb d_MO_gives_27 (by decide) ?_
        refine lv_icmp_ne (tgt := 36) hx hb d_MO_gives_29 (by decide) (fun h29_4 => ?_) (fun h29_4 => ?_)
        · skip
          refine lv_iconst (v := 0) hx hb d_MO_gives_36 (by decide) ?_
          exact k_iret hx hb hr hlocks hK hP hD hS (by rw [f_MO_gives, if_neg h2_1, if_pos h7_2, if_neg h23_3, if_neg h29_4]) rfl d_MO_gives_37
        · skip
          refine lv_iconst (v := 2) hx hb d_MO_gives_32 (by decide) ?_
          refine lv_goto (tgt := 37) hx hb d_MO_gives_33 (by decide) ?_
          exact k_iret hx hb hr hlocks hK hP hD hS (by rw [f_MO_gives, if_neg h2_1, if_pos h7_2, if_neg h23_3, if_pos h29_4]) rfl d_MO_gives_37
    · skip
      refine lv_iload_n hx hb d_MO_gives_10 rfl (lv_at hl 0 rfl) ?_
      refine lv_bipush (v := 8) hx hb d_MO_gives_11 (by decide) ?_
      refine lv_icmp_gt (tgt := 20) hx hb d_MO_gives_13 (by decide) (fun h13_5 => ?_) (fun h13_5 => ?_)
      · skip
        refine lv_iload_n hx hb d_MO_gives_20 rfl (lv_at hl 0 rfl) ?_
        refine lv_bipush (v := 9) hx hb d_MO_gives_21 (by decide) ?_
        refine lv_icmp_eq (tgt := 32) hx hb d_MO_gives_23 (by decide) (fun h23_6 => ?_) (fun h23_6 => ?_)
        · skip
          refine lv_iconst (v := 2) hx hb d_MO_gives_32 (by decide) ?_
          refine lv_goto (tgt := 37) hx hb d_MO_gives_33 (by decide) ?_
          exact k_iret hx hb hr hlocks hK hP hD hS (by rw [f_MO_gives, if_neg h2_1, if_neg h7_2, if_pos h13_5, if_pos h23_6]) rfl d_MO_gives_37
        · skip
          refine lv_iload_n hx hb d_MO_gives_26 rfl (lv_at hl 0 rfl) ?_
          refine lv_bipush (v := 10) hx hb d_MO_gives_27 (by decide) ?_
          refine lv_icmp_ne (tgt := 36) hx hb d_MO_gives_29 (by decide) (fun h29_7 => ?_) (fun h29_7 => ?_)
          · skip
            refine lv_iconst (v := 0) hx hb d_MO_gives_36 (by decide) ?_
            exact k_iret hx hb hr hlocks hK hP hD hS (by rw [f_MO_gives, if_neg h2_1, if_neg h7_2, if_pos h13_5, if_neg h23_6, if_neg h29_7]) rfl d_MO_gives_37
          · skip
            refine lv_iconst (v := 2) hx hb d_MO_gives_32 (by decide) ?_
            refine lv_goto (tgt := 37) hx hb d_MO_gives_33 (by decide) ?_
            exact k_iret hx hb hr hlocks hK hP hD hS (by rw [f_MO_gives, if_neg h2_1, if_neg h7_2, if_pos h13_5, if_neg h23_6, if_pos h29_7]) rfl d_MO_gives_37
      · skip
        refine lv_iconst (v := 1) hx hb d_MO_gives_16 (by decide) ?_
        refine lv_goto (tgt := 37) hx hb d_MO_gives_17 (by decide) ?_
        exact k_iret hx hb hr hlocks hK hP hD hS (by rw [f_MO_gives, if_neg h2_1, if_neg h7_2, if_neg h13_5]) rfl d_MO_gives_37

theorem d_MO_ends_0 : decode b_MO_ends 0 = .ok (.iload_n 0, 1) := by decide +kernel
theorem d_MO_ends_1 : decode b_MO_ends 1 = .ok (.bipush 16, 2) := by decide +kernel
theorem d_MO_ends_3 : decode b_MO_ends 3 = .ok (.if_icmp .eq 9, 3) := by decide +kernel
theorem d_MO_ends_6 : decode b_MO_ends 6 = .ok (.iload_n 0, 1) := by decide +kernel
theorem d_MO_ends_7 : decode b_MO_ends 7 = .ok (.bipush 17, 2) := by decide +kernel
theorem d_MO_ends_9 : decode b_MO_ends 9 = .ok (.if_icmp .ne 7, 3) := by decide +kernel
theorem d_MO_ends_12 : decode b_MO_ends 12 = .ok (.iconst 1, 1) := by decide +kernel
theorem d_MO_ends_13 : decode b_MO_ends 13 = .ok (.goto 4, 3) := by decide +kernel
theorem d_MO_ends_16 : decode b_MO_ends 16 = .ok (.iconst 0, 1) := by decide +kernel
theorem d_MO_ends_17 : decode b_MO_ends 17 = .ok (.ireturn, 1) := by decide +kernel
def f_MO_ends (o : Int32) : Int32 := (if o = 16 then 1 else (if o = 17 then 1 else 0))
set_option maxHeartbeats 1000000 in
set_option maxRecDepth 100000 in
theorem c_MO_ends (l : Launch) (D : va_G) (cI cZ : ClassId) (o : Int32) : MG l y_MO_ends w_MO_ends (rmK 0 0) D classes (tyz cI cZ) E0 [.int o] [] (RI D classes (tyz cI cZ) (f_MO_ends o) []) := by
  refine MG.of (cc := b_MO_ends) (maxL := 1) (ret := (some .boolean)) (own := "FlowFlattenerModel") rfl (by decide) rfl (Nat.le_of_ble_eq_true rfl) ?_
  intro p e s m below meth c A ls S hr hlocks hA hP hK hD hS hE hl
  have hx := S.1
  have hb := S.2.1
  have hl : lv_has ls 1 [(0, .int o)] := hl
  refine lv_iload_n hx hb d_MO_ends_0 rfl (lv_at hl 0 rfl) ?_
  refine lv_bipush (v := 16) hx hb d_MO_ends_1 (by decide) ?_
  refine lv_icmp_eq (tgt := 12) hx hb d_MO_ends_3 (by decide) (fun h3_1 => ?_) (fun h3_1 => ?_)
  · skip
    refine lv_iconst (v := 1) hx hb d_MO_ends_12 (by decide) ?_
    refine lv_goto (tgt := 17) hx hb d_MO_ends_13 (by decide) ?_
    exact k_zret hx hb hr hlocks hK hP hD hS (by decide) (by rw [f_MO_ends, if_pos h3_1]) rfl d_MO_ends_17
  · skip
    refine lv_iload_n hx hb d_MO_ends_6 rfl (lv_at hl 0 rfl) ?_
    refine lv_bipush (v := 17) hx hb d_MO_ends_7 (by decide) ?_
    refine lv_icmp_ne (tgt := 16) hx hb d_MO_ends_9 (by decide) (fun h9_2 => ?_) (fun h9_2 => ?_)
    · skip
      refine lv_iconst (v := 0) hx hb d_MO_ends_16 (by decide) ?_
      exact k_zret hx hb hr hlocks hK hP hD hS (by decide) (by rw [f_MO_ends, if_neg h3_1, if_neg h9_2]) rfl d_MO_ends_17
    · skip
      refine lv_iconst (v := 1) hx hb d_MO_ends_12 (by decide) ?_
      refine lv_goto (tgt := 17) hx hb d_MO_ends_13 (by decide) ?_
      exact k_zret hx hb hr hlocks hK hP hD hS (by decide) (by rw [f_MO_ends, if_neg h3_1, if_pos h9_2]) rfl d_MO_ends_17
