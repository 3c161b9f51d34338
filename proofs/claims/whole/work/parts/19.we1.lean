theorem d_WE_write2_0 : decode b_WE_write2 0 = .ok (.aload_n 0, 1) := by decide +kernel
theorem d_WE_write2_1 : decode b_WE_write2 1 = .ok (.getfield 14, 3) := by decide +kernel
theorem d_WE_write2_4 : decode b_WE_write2 4 = .ok (.iload_n 1, 1) := by decide +kernel
theorem d_WE_write2_5 : decode b_WE_write2 5 = .ok (.iload_n 2, 1) := by decide +kernel
theorem d_WE_write2_6 : decode b_WE_write2 6 = .ok (.invokevirtual 163, 3) := by decide +kernel
theorem d_WE_write2_9 : decode b_WE_write2 9 = .ok (.return_, 1) := by decide +kernel
set_option maxHeartbeats 1000000 in
set_option maxRecDepth 100000 in
theorem c_WE_write2 (l : Launch) (D : va_G) (cI cZ : ClassId) (we bl dq : Nat) (fc fc_ops fc_opd fc_fr fc_to fc_tg fq fhn : Nat) (fo fa : Nat → Int32) (o b : Int32) (hfq : fq < 1328) : MG l y_WE_write2 w_WE_write2 (rmK 1 22) D classes (tyz cI cZ) E0 [.ref we, .int o, .int b] [(we, .inr (5, [.ref fc, .ref bl, .ref dq])), (fc, .inr (1, [.ref fc_ops, .ref fc_opd, .ref fc_fr, .ref fc_to, .ref fc_tg, .int (nI fq), .int (nI fhn)])), (fc_ops, .inl (cI, 1328, .inl fo)), (fc_opd, .inl (cI, 1328, .inl fa))] (RV D classes (tyz cI cZ) [(we, .inr (5, [.ref fc, .ref bl, .ref dq])), (fc, .inr (1, [.ref fc_ops, .ref fc_opd, .ref fc_fr, .ref fc_to, .ref fc_tg, .int (nI (fq + 1)), .int (nI fhn)])), (fc_ops, .inl (cI, 1328, .inl (upd fo fq o))), (fc_opd, .inl (cI, 1328, .inl (upd fa fq b)))]) := by
  refine MG.of (cc := b_WE_write2) (maxL := 3) (ret := none) (own := "FlowFlattener$Weaver") rfl (by decide) rfl (Nat.le_of_ble_eq_true rfl) ?_
  intro p e s m below meth c A ls S hr hlocks hA hP hK hD hS hE hl
  have hx := S.1
  have hb := S.2.1
  have hl : lv_has ls 3 [(0, .ref we), (1, .int o), (2, .int b)] := hl
  refine lv_aload_n hx hb d_WE_write2_0 rfl (lv_at hl 0 rfl) ?_
  refine k_get (v := .ref fc) S in_WE hK hP 0 rfl rfl 0 (by decide) ql_WE_14 rfl d_WE_write2_1 ?_
  refine lv_iload_n hx hb d_WE_write2_4 rfl (lv_at hl 1 rfl) ?_
  refine lv_iload_n hx hb d_WE_write2_5 rfl (lv_at hl 2 rfl) ?_
  refine k_gov (ws' := [(we, .inr (5, [.ref fc, .ref bl, .ref dq])), (fc, .inr (1, [.ref fc_ops, .ref fc_opd, .ref fc_fr, .ref fc_to, .ref fc_tg, .int (nI (fq + 1)), .int (nI fhn)])), (fc_ops, .inl (cI, 1328, .inl (upd fo fq o))), (fc_opd, .inl (cI, 1328, .inl (upd fa fq b)))]) (wr := [(we, .inr (5, [.ref fc, .ref bl, .ref dq]))]) (k_runV (q0 := 1) (As := [.int o, .int b]) (rest := []) (n := 2) S (c_CO_append l D cI cZ fc fc_ops fc_opd fc_fr fc_to fc_tg fq fhn 1328 fo fa o b (by omega) (by omega)) E0_b E0_t ql_WE_163 qi_CO_append qs_CO_append qn_CO qc_CO_append (by decide +kernel) rfl ⟨rfl, rfl⟩ ⟨Nat.le_of_ble_eq_true rfl, Nat.le_of_ble_eq_true rfl⟩ hK hP hD [1, 2, 3] rfl (by decide) rfl rfl hl.1 rfl (Nat.le_of_ble_eq_true rfl) d_WE_write2_6 ⟨Nat.zero_le _, Nat.zero_le _⟩) hP hD hS hA [1, 2, 3] [0] [0, 1, 2, 3] rfl rfl (by decide) (by decide) rfl (by decide) (fun H locs hP hD hS => ?_)
  exact k_vret hx hb hr hlocks hK hP hD hS rfl d_WE_write2_9

theorem d_WE_write1_0 : decode b_WE_write1 0 = .ok (.aload_n 0, 1) := by decide +kernel
theorem d_WE_write1_1 : decode b_WE_write1 1 = .ok (.getfield 14, 3) := by decide +kernel
theorem d_WE_write1_4 : decode b_WE_write1 4 = .ok (.iload_n 1, 1) := by decide +kernel
theorem d_WE_write1_5 : decode b_WE_write1 5 = .ok (.iconst 0, 1) := by decide +kernel
theorem d_WE_write1_6 : decode b_WE_write1 6 = .ok (.invokevirtual 163, 3) := by decide +kernel
theorem d_WE_write1_9 : decode b_WE_write1 9 = .ok (.return_, 1) := by decide +kernel
set_option maxHeartbeats 1000000 in
set_option maxRecDepth 100000 in
theorem c_WE_write1 (l : Launch) (D : va_G) (cI cZ : ClassId) (we bl dq : Nat) (fc fc_ops fc_opd fc_fr fc_to fc_tg fq fhn : Nat) (fo fa : Nat → Int32) (o : Int32) (hfq : fq < 1328) : MG l y_WE_write1 w_WE_write1 (rmK 1 22) D classes (tyz cI cZ) E0 [.ref we, .int o] [(we, .inr (5, [.ref fc, .ref bl, .ref dq])), (fc, .inr (1, [.ref fc_ops, .ref fc_opd, .ref fc_fr, .ref fc_to, .ref fc_tg, .int (nI fq), .int (nI fhn)])), (fc_ops, .inl (cI, 1328, .inl fo)), (fc_opd, .inl (cI, 1328, .inl fa))] (RV D classes (tyz cI cZ) [(we, .inr (5, [.ref fc, .ref bl, .ref dq])), (fc, .inr (1, [.ref fc_ops, .ref fc_opd, .ref fc_fr, .ref fc_to, .ref fc_tg, .int (nI (fq + 1)), .int (nI fhn)])), (fc_ops, .inl (cI, 1328, .inl (upd fo fq o))), (fc_opd, .inl (cI, 1328, .inl (upd fa fq 0)))]) := by
  refine MG.of (cc := b_WE_write1) (maxL := 2) (ret := none) (own := "FlowFlattener$Weaver") rfl (by decide) rfl (Nat.le_of_ble_eq_true rfl) ?_
  intro p e s m below meth c A ls S hr hlocks hA hP hK hD hS hE hl
  have hx := S.1
  have hb := S.2.1
  have hl : lv_has ls 2 [(0, .ref we), (1, .int o)] := hl
  refine lv_aload_n hx hb d_WE_write1_0 rfl (lv_at hl 0 rfl) ?_
  refine k_get (v := .ref fc) S in_WE hK hP 0 rfl rfl 0 (by decide) ql_WE_14 rfl d_WE_write1_1 ?_
  refine lv_iload_n hx hb d_WE_write1_4 rfl (lv_at hl 1 rfl) ?_
  refine lv_iconst (v := 0) hx hb d_WE_write1_5 (by decide) ?_
  refine k_gov (ws' := [(we, .inr (5, [.ref fc, .ref bl, .ref dq])), (fc, .inr (1, [.ref fc_ops, .ref fc_opd, .ref fc_fr, .ref fc_to, .ref fc_tg, .int (nI (fq + 1)), .int (nI fhn)])), (fc_ops, .inl (cI, 1328, .inl (upd fo fq o))), (fc_opd, .inl (cI, 1328, .inl (upd fa fq 0)))]) (wr := [(we, .inr (5, [.ref fc, .ref bl, .ref dq]))]) (k_runV (q0 := 1) (As := [.int o, .int 0]) (rest := []) (n := 2) S (c_CO_append l D cI cZ fc fc_ops fc_opd fc_fr fc_to fc_tg fq fhn 1328 fo fa o 0 (by omega) (by omega)) E0_b E0_t ql_WE_163 qi_CO_append qs_CO_append qn_CO qc_CO_append (by decide +kernel) rfl ⟨rfl, rfl⟩ ⟨Nat.le_of_ble_eq_true rfl, Nat.le_of_ble_eq_true rfl⟩ hK hP hD [1, 2, 3] rfl (by decide) rfl rfl hl.1 rfl (Nat.le_of_ble_eq_true rfl) d_WE_write1_6 ⟨Nat.zero_le _, Nat.zero_le _⟩) hP hD hS hA [1, 2, 3] [0] [0, 1, 2, 3] rfl rfl (by decide) (by decide) rfl (by decide) (fun H locs hP hD hS => ?_)
  exact k_vret hx hb hr hlocks hK hP hD hS rfl d_WE_write1_9

theorem d_WE_writeSquare_0 : decode b_WE_writeSquare 0 = .ok (.aload_n 0, 1) := by decide +kernel
theorem d_WE_writeSquare_1 : decode b_WE_writeSquare 1 = .ok (.iconst 1, 1) := by decide +kernel
theorem d_WE_writeSquare_2 : decode b_WE_writeSquare 2 = .ok (.iload_n 1, 1) := by decide +kernel
theorem d_WE_writeSquare_3 : decode b_WE_writeSquare 3 = .ok (.invokevirtual 89, 3) := by decide +kernel
theorem d_WE_writeSquare_6 : decode b_WE_writeSquare 6 = .ok (.aload_n 0, 1) := by decide +kernel
theorem d_WE_writeSquare_7 : decode b_WE_writeSquare 7 = .ok (.bipush 9, 2) := by decide +kernel
theorem d_WE_writeSquare_9 : decode b_WE_writeSquare 9 = .ok (.invokevirtual 92, 3) := by decide +kernel
theorem d_WE_writeSquare_12 : decode b_WE_writeSquare 12 = .ok (.aload_n 0, 1) := by decide +kernel
theorem d_WE_writeSquare_13 : decode b_WE_writeSquare 13 = .ok (.iconst 5, 1) := by decide +kernel
theorem d_WE_writeSquare_14 : decode b_WE_writeSquare 14 = .ok (.invokevirtual 92, 3) := by decide +kernel
theorem d_WE_writeSquare_17 : decode b_WE_writeSquare 17 = .ok (.return_, 1) := by decide +kernel
def f_WE_writeSquare (fq : Nat) (fo : Nat → Int32) (fa : Nat → Int32) (v : Int32) : Nat × (Nat → Int32) × (Nat → Int32) := (((fq + 1) + 1) + 1, upd (upd (upd fo fq 1) (fq + 1) 9) ((fq + 1) + 1) 5, upd (upd (upd fa fq v) (fq + 1) 0) ((fq + 1) + 1) 0)
set_option maxHeartbeats 1000000 in
set_option maxRecDepth 100000 in
theorem c_WE_writeSquare (l : Launch) (D : va_G) (cI cZ : ClassId) (we bl dq : Nat) (fc fc_ops fc_opd fc_fr fc_to fc_tg fq fhn : Nat) (fo fa : Nat → Int32) (v : Int32) (hfq : fq + 3 ≤ 1328) : MG l y_WE_writeSquare w_WE_writeSquare (rmK 2 44) D classes (tyz cI cZ) E0 [.ref we, .int v] [(we, .inr (5, [.ref fc, .ref bl, .ref dq])), (fc, .inr (1, [.ref fc_ops, .ref fc_opd, .ref fc_fr, .ref fc_to, .ref fc_tg, .int (nI fq), .int (nI fhn)])), (fc_ops, .inl (cI, 1328, .inl fo)), (fc_opd, .inl (cI, 1328, .inl fa))] (RV D classes (tyz cI cZ) [(we, .inr (5, [.ref fc, .ref bl, .ref dq])), (fc, .inr (1, [.ref fc_ops, .ref fc_opd, .ref fc_fr, .ref fc_to, .ref fc_tg, .int (nI ((f_WE_writeSquare fq fo fa v).1)), .int (nI fhn)])), (fc_ops, .inl (cI, 1328, .inl ((f_WE_writeSquare fq fo fa v).2.1))), (fc_opd, .inl (cI, 1328, .inl ((f_WE_writeSquare fq fo fa v).2.2)))]) := by
  refine MG.of (cc := b_WE_writeSquare) (maxL := 2) (ret := none) (own := "FlowFlattener$Weaver") rfl (by decide) rfl (Nat.le_of_ble_eq_true rfl) ?_
  intro p e s m below meth c A ls S hr hlocks hA hP hK hD hS hE hl
  have hx := S.1
  have hb := S.2.1
  have hl : lv_has ls 2 [(0, .ref we), (1, .int v)] := hl
  refine lv_aload_n hx hb d_WE_writeSquare_0 rfl (lv_at hl 0 rfl) ?_
  refine lv_iconst (v := 1) hx hb d_WE_writeSquare_1 (by decide) ?_
  refine lv_iload_n hx hb d_WE_writeSquare_2 rfl (lv_at hl 1 rfl) ?_
  refine k_gov (ws' := [(we, .inr (5, [.ref fc, .ref bl, .ref dq])), (fc, .inr (1, [.ref fc_ops, .ref fc_opd, .ref fc_fr, .ref fc_to, .ref fc_tg, .int (nI (fq + 1)), .int (nI fhn)])), (fc_ops, .inl (cI, 1328, .inl (upd fo fq 1))), (fc_opd, .inl (cI, 1328, .inl (upd fa fq v)))]) (wr := []) (k_runV (q0 := 0) (As := [.int 1, .int v]) (rest := []) (n := 2) S (c_WE_write2 l D cI cZ we bl dq fc fc_ops fc_opd fc_fr fc_to fc_tg fq fhn fo fa 1 v (by omega)) E0_b E0_t ql_WE_89 qi_WE_write2 qs_WE_write2 qn_WE qc_WE_write2 (by decide +kernel) rfl ⟨rfl, rfl⟩ ⟨Nat.le_of_ble_eq_true rfl, Nat.le_of_ble_eq_true rfl⟩ hK hP hD [0, 1, 2, 3] rfl (by decide) rfl rfl hl.1 rfl (Nat.le_of_ble_eq_true rfl) d_WE_writeSquare_3 ⟨Nat.zero_le _, Nat.zero_le _⟩) hP hD hS hA [0, 1, 2, 3] [] [0, 1, 2, 3] rfl rfl (by decide) (by decide) rfl (by decide) (fun H locs hP hD hS => ?_)
  refine lv_aload_n hx hb d_WE_writeSquare_6 rfl (lv_at hl 0 rfl) ?_
  refine lv_bipush (v := 9) hx hb d_WE_writeSquare_7 (by decide) ?_
  refine k_gov (ws' := [(we, .inr (5, [.ref fc, .ref bl, .ref dq])), (fc, .inr (1, [.ref fc_ops, .ref fc_opd, .ref fc_fr, .ref fc_to, .ref fc_tg, .int (nI ((fq + 1) + 1)), .int (nI fhn)])), (fc_ops, .inl (cI, 1328, .inl (upd (upd fo fq 1) (fq + 1) 9))), (fc_opd, .inl (cI, 1328, .inl (upd (upd fa fq v) (fq + 1) 0)))]) (wr := []) (k_runV (q0 := 0) (As := [.int 9]) (rest := []) (n := 1) S (c_WE_write1 l D cI cZ we bl dq fc fc_ops fc_opd fc_fr fc_to fc_tg (fq + 1) fhn (upd fo fq 1) (upd fa fq v) 9 (by omega)) E0_b E0_t ql_WE_92 qi_WE_write1 qs_WE_write1 qn_WE qc_WE_write1 (by decide +kernel) rfl ⟨rfl, rfl⟩ ⟨Nat.le_of_ble_eq_true rfl, Nat.le_of_ble_eq_true rfl⟩ hK hP hD [0, 1, 2, 3] rfl (by decide) rfl rfl hl.1 rfl (Nat.le_of_ble_eq_true rfl) d_WE_writeSquare_9 ⟨Nat.zero_le _, Nat.zero_le _⟩) hP hD hS hA [0, 1, 2, 3] [] [0, 1, 2, 3] rfl rfl (by decide) (by decide) rfl (by decide) (fun H locs hP hD hS => ?_)
  refine lv_aload_n hx hb d_WE_writeSquare_12 rfl (lv_at hl 0 rfl) ?_
  refine lv_iconst (v := 5) hx hb d_WE_writeSquare_13 (by decide) ?_
  refine k_gov (ws' := [(we, .inr (5, [.ref fc, .ref bl, .ref dq])), (fc, .inr (1, [.ref fc_ops, .ref fc_opd, .ref fc_fr, .ref fc_to, .ref fc_tg, .int (nI (((fq + 1) + 1) + 1)), .int (nI fhn)])), (fc_ops, .inl (cI, 1328, .inl (upd (upd (upd fo fq 1) (fq + 1) 9) ((fq + 1) + 1) 5))), (fc_opd, .inl (cI, 1328, .inl (upd (upd (upd fa fq v) (fq + 1) 0) ((fq + 1) + 1) 0)))]) (wr := []) (k_runV (q0 := 0) (As := [.int 5]) (rest := []) (n := 1) S (c_WE_write1 l D cI cZ we bl dq fc fc_ops fc_opd fc_fr fc_to fc_tg ((fq + 1) + 1) fhn (upd (upd fo fq 1) (fq + 1) 9) (upd (upd fa fq v) (fq + 1) 0) 5 (by omega)) E0_b E0_t ql_WE_92 qi_WE_write1 qs_WE_write1 qn_WE qc_WE_write1 (by decide +kernel) rfl ⟨rfl, rfl⟩ ⟨Nat.le_of_ble_eq_true rfl, Nat.le_of_ble_eq_true rfl⟩ hK hP hD [0, 1, 2, 3] rfl (by decide) rfl rfl hl.1 rfl (Nat.le_of_ble_eq_true rfl) d_WE_writeSquare_14 ⟨Nat.zero_le _, Nat.zero_le _⟩) hP hD hS hA [0, 1, 2, 3] [] [0, 1, 2, 3] rfl rfl (by decide) (by decide) rfl (by decide) (fun H locs hP hD hS => ?_)
  exact k_vret hx hb hr hlocks hK hP hD hS (by rw [f_WE_writeSquare]) d_WE_writeSquare_17

theorem wsq_c {fq : Nat} {fo fa : Nat → Int32} {v : Int32} : (f_WE_writeSquare fq fo fa v).1 = fq + 1 + 1 + 1 := rfl

theorem d_WE_writeEvenProduct_0 : decode b_WE_writeEvenProduct 0 = .ok (.aload_n 0, 1) := by decide +kernel
theorem d_WE_writeEvenProduct_1 : decode b_WE_writeEvenProduct 1 = .ok (.iconst 1, 1) := by decide +kernel
theorem d_WE_writeEvenProduct_2 : decode b_WE_writeEvenProduct 2 = .ok (.iload_n 1, 1) := by decide +kernel
theorem d_WE_writeEvenProduct_3 : decode b_WE_writeEvenProduct 3 = .ok (.invokevirtual 89, 3) := by decide +kernel
theorem d_WE_writeEvenProduct_6 : decode b_WE_writeEvenProduct 6 = .ok (.aload_n 0, 1) := by decide +kernel
theorem d_WE_writeEvenProduct_7 : decode b_WE_writeEvenProduct 7 = .ok (.bipush 9, 2) := by decide +kernel
theorem d_WE_writeEvenProduct_9 : decode b_WE_writeEvenProduct 9 = .ok (.invokevirtual 92, 3) := by decide +kernel
theorem d_WE_writeEvenProduct_12 : decode b_WE_writeEvenProduct 12 = .ok (.aload_n 0, 1) := by decide +kernel
theorem d_WE_writeEvenProduct_13 : decode b_WE_writeEvenProduct 13 = .ok (.iconst 0, 1) := by decide +kernel
theorem d_WE_writeEvenProduct_14 : decode b_WE_writeEvenProduct 14 = .ok (.iconst 1, 1) := by decide +kernel
theorem d_WE_writeEvenProduct_15 : decode b_WE_writeEvenProduct 15 = .ok (.invokevirtual 89, 3) := by decide +kernel
theorem d_WE_writeEvenProduct_18 : decode b_WE_writeEvenProduct 18 = .ok (.aload_n 0, 1) := by decide +kernel
theorem d_WE_writeEvenProduct_19 : decode b_WE_writeEvenProduct 19 = .ok (.iconst 3, 1) := by decide +kernel
theorem d_WE_writeEvenProduct_20 : decode b_WE_writeEvenProduct 20 = .ok (.invokevirtual 92, 3) := by decide +kernel
theorem d_WE_writeEvenProduct_23 : decode b_WE_writeEvenProduct 23 = .ok (.aload_n 0, 1) := by decide +kernel
theorem d_WE_writeEvenProduct_24 : decode b_WE_writeEvenProduct 24 = .ok (.iconst 5, 1) := by decide +kernel
theorem d_WE_writeEvenProduct_25 : decode b_WE_writeEvenProduct 25 = .ok (.invokevirtual 92, 3) := by decide +kernel
theorem d_WE_writeEvenProduct_28 : decode b_WE_writeEvenProduct 28 = .ok (.aload_n 0, 1) := by decide +kernel
theorem d_WE_writeEvenProduct_29 : decode b_WE_writeEvenProduct 29 = .ok (.iconst 0, 1) := by decide +kernel
theorem d_WE_writeEvenProduct_30 : decode b_WE_writeEvenProduct 30 = .ok (.iconst 1, 1) := by decide +kernel
theorem d_WE_writeEvenProduct_31 : decode b_WE_writeEvenProduct 31 = .ok (.invokevirtual 89, 3) := by decide +kernel
theorem d_WE_writeEvenProduct_34 : decode b_WE_writeEvenProduct 34 = .ok (.aload_n 0, 1) := by decide +kernel
theorem d_WE_writeEvenProduct_35 : decode b_WE_writeEvenProduct 35 = .ok (.bipush 7, 2) := by decide +kernel
theorem d_WE_writeEvenProduct_37 : decode b_WE_writeEvenProduct 37 = .ok (.invokevirtual 92, 3) := by decide +kernel
theorem d_WE_writeEvenProduct_40 : decode b_WE_writeEvenProduct 40 = .ok (.return_, 1) := by decide +kernel
def f_WE_writeEvenProduct (fq : Nat) (fo : Nat → Int32) (fa : Nat → Int32) (v : Int32) : Nat × (Nat → Int32) × (Nat → Int32) := (((((((fq + 1) + 1) + 1) + 1) + 1) + 1) + 1, upd (upd (upd (upd (upd (upd (upd fo fq 1) (fq + 1) 9) ((fq + 1) + 1) 0) (((fq + 1) + 1) + 1) 3) ((((fq + 1) + 1) + 1) + 1) 5) (((((fq + 1) + 1) + 1) + 1) + 1) 0) ((((((fq + 1) + 1) + 1) + 1) + 1) + 1) 7, upd (upd (upd (upd (upd (upd (upd fa fq v) (fq + 1) 0) ((fq + 1) + 1) 1) (((fq + 1) + 1) + 1) 0) ((((fq + 1) + 1) + 1) + 1) 0) (((((fq + 1) + 1) + 1) + 1) + 1) 1) ((((((fq + 1) + 1) + 1) + 1) + 1) + 1) 0)
set_option maxHeartbeats 1000000 in
set_option maxRecDepth 100000 in
theorem c_WE_writeEvenProduct (l : Launch) (D : va_G) (cI cZ : ClassId) (we bl dq : Nat) (fc fc_ops fc_opd fc_fr fc_to fc_tg fq fhn : Nat) (fo fa : Nat → Int32) (v : Int32) (hfq : fq + 7 ≤ 1328) : MG l y_WE_writeEvenProduct w_WE_writeEvenProduct (rmK 2 44) D classes (tyz cI cZ) E0 [.ref we, .int v] [(we, .inr (5, [.ref fc, .ref bl, .ref dq])), (fc, .inr (1, [.ref fc_ops, .ref fc_opd, .ref fc_fr, .ref fc_to, .ref fc_tg, .int (nI fq), .int (nI fhn)])), (fc_ops, .inl (cI, 1328, .inl fo)), (fc_opd, .inl (cI, 1328, .inl fa))] (RV D classes (tyz cI cZ) [(we, .inr (5, [.ref fc, .ref bl, .ref dq])), (fc, .inr (1, [.ref fc_ops, .ref fc_opd, .ref fc_fr, .ref fc_to, .ref fc_tg, .int (nI ((f_WE_writeEvenProduct fq fo fa v).1)), .int (nI fhn)])), (fc_ops, .inl (cI, 1328, .inl ((f_WE_writeEvenProduct fq fo fa v).2.1))), (fc_opd, .inl (cI, 1328, .inl ((f_WE_writeEvenProduct fq fo fa v).2.2)))]) := by
  refine MG.of (cc := b_WE_writeEvenProduct) (maxL := 2) (ret := none) (own := "FlowFlattener$Weaver") rfl (by decide) rfl (Nat.le_of_ble_eq_true rfl) ?_
  intro p e s m below meth c A ls S hr hlocks hA hP hK hD hS hE hl
  have hx := S.1
  have hb := S.2.1
  have hl : lv_has ls 2 [(0, .ref we), (1, .int v)] := hl
  refine lv_aload_n hx hb d_WE_writeEvenProduct_0 rfl (lv_at hl 0 rfl) ?_
  refine lv_iconst (v := 1) hx hb d_WE_writeEvenProduct_1 (by decide) ?_
  refine lv_iload_n hx hb d_WE_writeEvenProduct_2 rfl (lv_at hl 1 rfl) ?_
  refine k_gov (ws' := [(we, .inr (5, [.ref fc, .ref bl, .ref dq])), (fc, .inr (1, [.ref fc_ops, .ref fc_opd, .ref fc_fr, .ref fc_to, .ref fc_tg, .int (nI (fq + 1)), .int (nI fhn)])), (fc_ops, .inl (cI, 1328, .inl (upd fo fq 1))), (fc_opd, .inl (cI, 1328, .inl (upd fa fq v)))]) (wr := []) (k_runV (q0 := 0) (As := [.int 1, .int v]) (rest := []) (n := 2) S (c_WE_write2 l D cI cZ we bl dq fc fc_ops fc_opd fc_fr fc_to fc_tg fq fhn fo fa 1 v (by omega)) E0_b E0_t ql_WE_89 qi_WE_write2 qs_WE_write2 qn_WE qc_WE_write2 (by decide +kernel) rfl ⟨rfl, rfl⟩ ⟨Nat.le_of_ble_eq_true rfl, Nat.le_of_ble_eq_true rfl⟩ hK hP hD [0, 1, 2, 3] rfl (by decide) rfl rfl hl.1 rfl (Nat.le_of_ble_eq_true rfl) d_WE_writeEvenProduct_3 ⟨Nat.zero_le _, Nat.zero_le _⟩) hP hD hS hA [0, 1, 2, 3] [] [0, 1, 2, 3] rfl rfl (by decide) (by decide) rfl (by decide) (fun H locs hP hD hS => ?_)
  refine lv_aload_n hx hb d_WE_writeEvenProduct_6 rfl (lv_at hl 0 rfl) ?_
  refine lv_bipush (v := 9) hx hb d_WE_writeEvenProduct_7 (by decide) ?_
  refine k_gov (ws' := [(we, .inr (5, [.ref fc, .ref bl, .ref dq])), (fc, .inr (1, [.ref fc_ops, .ref fc_opd, .ref fc_fr, .ref fc_to, .ref fc_tg, .int (nI ((fq + 1) + 1)), .int (nI fhn)])), (fc_ops, .inl (cI, 1328, .inl (upd (upd fo fq 1) (fq + 1) 9))), (fc_opd, .inl (cI, 1328, .inl (upd (upd fa fq v) (fq + 1) 0)))]) (wr := []) (k_runV (q0 := 0) (As := [.int 9]) (rest := []) (n := 1) S (c_WE_write1 l D cI cZ we bl dq fc fc_ops fc_opd fc_fr fc_to fc_tg (fq + 1) fhn (upd fo fq 1) (upd fa fq v) 9 (by omega)) E0_b E0_t ql_WE_92 qi_WE_write1 qs_WE_write1 qn_WE qc_WE_write1 (by decide +kernel) rfl ⟨rfl, rfl⟩ ⟨Nat.le_of_ble_eq_true rfl, Nat.le_of_ble_eq_true rfl⟩ hK hP hD [0, 1, 2, 3] rfl (by decide) rfl rfl hl.1 rfl (Nat.le_of_ble_eq_true rfl) d_WE_writeEvenProduct_9 ⟨Nat.zero_le _, Nat.zero_le _⟩) hP hD hS hA [0, 1, 2, 3] [] [0, 1, 2, 3] rfl rfl (by decide) (by decide) rfl (by decide) (fun H locs hP hD hS => ?_)
  refine lv_aload_n hx hb d_WE_writeEvenProduct_12 rfl (lv_at hl 0 rfl) ?_
  refine lv_iconst (v := 0) hx hb d_WE_writeEvenProduct_13 (by decide) ?_
  refine lv_iconst (v := 1) hx hb d_WE_writeEvenProduct_14 (by decide) ?_
  refine k_gov (ws' := [(we, .inr (5, [.ref fc, .ref bl, .ref dq])), (fc, .inr (1, [.ref fc_ops, .ref fc_opd, .ref fc_fr, .ref fc_to, .ref fc_tg, .int (nI (((fq + 1) + 1) + 1)), .int (nI fhn)])), (fc_ops, .inl (cI, 1328, .inl (upd (upd (upd fo fq 1) (fq + 1) 9) ((fq + 1) + 1) 0))), (fc_opd, .inl (cI, 1328, .inl (upd (upd (upd fa fq v) (fq + 1) 0) ((fq + 1) + 1) 1)))]) (wr := []) (k_runV (q0 := 0) (As := [.int 0, .int 1]) (rest := []) (n := 2) S (c_WE_write2 l D cI cZ we bl dq fc fc_ops fc_opd fc_fr fc_to fc_tg ((fq + 1) + 1) fhn (upd (upd fo fq 1) (fq + 1) 9) (upd (upd fa fq v) (fq + 1) 0) 0 1 (by omega)) E0_b E0_t ql_WE_89 qi_WE_write2 qs_WE_write2 qn_WE qc_WE_write2 (by decide +kernel) rfl ⟨rfl, rfl⟩ ⟨Nat.le_of_ble_eq_true rfl, Nat.le_of_ble_eq_true rfl⟩ hK hP hD [0, 1, 2, 3] rfl (by decide) rfl rfl hl.1 rfl (Nat.le_of_ble_eq_true rfl) d_WE_writeEvenProduct_15 ⟨Nat.zero_le _, Nat.zero_le _⟩) hP hD hS hA [0, 1, 2, 3] [] [0, 1, 2, 3] rfl rfl (by decide) (by decide) rfl (by decide) (fun H locs hP hD hS => ?_)
  refine lv_aload_n hx hb d_WE_writeEvenProduct_18 rfl (lv_at hl 0 rfl) ?_
  refine lv_iconst (v := 3) hx hb d_WE_writeEvenProduct_19 (by decide) ?_
  refine k_gov (ws' := [(we, .inr (5, [.ref fc, .ref bl, .ref dq])), (fc, .inr (1, [.ref fc_ops, .ref fc_opd, .ref fc_fr, .ref fc_to, .ref fc_tg, .int (nI ((((fq + 1) + 1) + 1) + 1)), .int (nI fhn)])), (fc_ops, .inl (cI, 1328, .inl (upd (upd (upd (upd fo fq 1) (fq + 1) 9) ((fq + 1) + 1) 0) (((fq + 1) + 1) + 1) 3))), (fc_opd, .inl (cI, 1328, .inl (upd (upd (upd (upd fa fq v) (fq + 1) 0) ((fq + 1) + 1) 1) (((fq + 1) + 1) + 1) 0)))]) (wr := []) (k_runV (q0 := 0) (As := [.int 3]) (rest := []) (n := 1) S (c_WE_write1 l D cI cZ we bl dq fc fc_ops fc_opd fc_fr fc_to fc_tg (((fq + 1) + 1) + 1) fhn (upd (upd (upd fo fq 1) (fq + 1) 9) ((fq + 1) + 1) 0) (upd (upd (upd fa fq v) (fq + 1) 0) ((fq + 1) + 1) 1) 3 (by omega)) E0_b E0_t ql_WE_92 qi_WE_write1 qs_WE_write1 qn_WE qc_WE_write1 (by decide +kernel) rfl ⟨rfl, rfl⟩ ⟨Nat.le_of_ble_eq_true rfl, Nat.le_of_ble_eq_true rfl⟩ hK hP hD [0, 1, 2, 3] rfl (by decide) rfl rfl hl.1 rfl (Nat.le_of_ble_eq_true rfl) d_WE_writeEvenProduct_20 ⟨Nat.zero_le _, Nat.zero_le _⟩) hP hD hS hA [0, 1, 2, 3] [] [0, 1, 2, 3] rfl rfl (by decide) (by decide) rfl (by decide) (fun H locs hP hD hS => ?_)
  refine lv_aload_n hx hb d_WE_writeEvenProduct_23 rfl (lv_at hl 0 rfl) ?_
  refine lv_iconst (v := 5) hx hb d_WE_writeEvenProduct_24 (by decide) ?_
  refine k_gov (ws' := [(we, .inr (5, [.ref fc, .ref bl, .ref dq])), (fc, .inr (1, [.ref fc_ops, .ref fc_opd, .ref fc_fr, .ref fc_to, .ref fc_tg, .int (nI (((((fq + 1) + 1) + 1) + 1) + 1)), .int (nI fhn)])), (fc_ops, .inl (cI, 1328, .inl (upd (upd (upd (upd (upd fo fq 1) (fq + 1) 9) ((fq + 1) + 1) 0) (((fq + 1) + 1) + 1) 3) ((((fq + 1) + 1) + 1) + 1) 5))), (fc_opd, .inl (cI, 1328, .inl (upd (upd (upd (upd (upd fa fq v) (fq + 1) 0) ((fq + 1) + 1) 1) (((fq + 1) + 1) + 1) 0) ((((fq + 1) + 1) + 1) + 1) 0)))]) (wr := []) (k_runV (q0 := 0) (As := [.int 5]) (rest := []) (n := 1) S (c_WE_write1 l D cI cZ we bl dq fc fc_ops fc_opd fc_fr fc_to fc_tg ((((fq + 1) + 1) + 1) + 1) fhn (upd (upd (upd (upd fo fq 1) (fq + 1) 9) ((fq + 1) + 1) 0) (((fq + 1) + 1) + 1) 3) (upd (upd (upd (upd fa fq v) (fq + 1) 0) ((fq + 1) + 1) 1) (((fq + 1) + 1) + 1) 0) 5 (by omega)) E0_b E0_t ql_WE_92 qi_WE_write1 qs_WE_write1 qn_WE qc_WE_write1 (by decide +kernel) rfl ⟨rfl, rfl⟩ ⟨Nat.le_of_ble_eq_true rfl, Nat.le_of_ble_eq_true rfl⟩ hK hP hD [0, 1, 2, 3] rfl (by decide) rfl rfl hl.1 rfl (Nat.le_of_ble_eq_true rfl) d_WE_writeEvenProduct_25 ⟨Nat.zero_le _, Nat.zero_le _⟩) hP hD hS hA [0, 1, 2, 3] [] [0, 1, 2, 3] rfl rfl (by decide) (by decide) rfl (by decide) (fun H locs hP hD hS => ?_)
  refine lv_aload_n hx hb d_WE_writeEvenProduct_28 rfl (lv_at hl 0 rfl) ?_
  refine lv_iconst (v := 0) hx hb d_WE_writeEvenProduct_29 (by decide) ?_
  refine lv_iconst (v := 1) hx hb d_WE_writeEvenProduct_30 (by decide) ?_
  refine k_gov (ws' := [(we, .inr (5, [.ref fc, .ref bl, .ref dq])), (fc, .inr (1, [.ref fc_ops, .ref fc_opd, .ref fc_fr, .ref fc_to, .ref fc_tg, .int (nI ((((((fq + 1) + 1) + 1) + 1) + 1) + 1)), .int (nI fhn)])), (fc_ops, .inl (cI, 1328, .inl (upd (upd (upd (upd (upd (upd fo fq 1) (fq + 1) 9) ((fq + 1) + 1) 0) (((fq + 1) + 1) + 1) 3) ((((fq + 1) + 1) + 1) + 1) 5) (((((fq + 1) + 1) + 1) + 1) + 1) 0))), (fc_opd, .inl (cI, 1328, .inl (upd (upd (upd (upd (upd (upd fa fq v) (fq + 1) 0) ((fq + 1) + 1) 1) (((fq + 1) + 1) + 1) 0) ((((fq + 1) + 1) + 1) + 1) 0) (((((fq + 1) + 1) + 1) + 1) + 1) 1)))]) (wr := []) (k_runV (q0 := 0) (As := [.int 0, .int 1]) (rest := []) (n := 2) S (c_WE_write2 l D cI cZ we bl dq fc fc_ops fc_opd fc_fr fc_to fc_tg (((((fq + 1) + 1) + 1) + 1) + 1) fhn (upd (upd (upd (upd (upd fo fq 1) (fq + 1) 9) ((fq + 1) + 1) 0) (((fq + 1) + 1) + 1) 3) ((((fq + 1) + 1) + 1) + 1) 5) (upd (upd (upd (upd (upd fa fq v) (fq + 1) 0) ((fq + 1) + 1) 1) (((fq + 1) + 1) + 1) 0) ((((fq + 1) + 1) + 1) + 1) 0) 0 1 (by omega)) E0_b E0_t ql_WE_89 qi_WE_write2 qs_WE_write2 qn_WE qc_WE_write2 (by decide +kernel) rfl ⟨rfl, rfl⟩ ⟨Nat.le_of_ble_eq_true rfl, Nat.le_of_ble_eq_true rfl⟩ hK hP hD [0, 1, 2, 3] rfl (by decide) rfl rfl hl.1 rfl (Nat.le_of_ble_eq_true rfl) d_WE_writeEvenProduct_31 ⟨Nat.zero_le _, Nat.zero_le _⟩) hP hD hS hA [0, 1, 2, 3] [] [0, 1, 2, 3] rfl rfl (by decide) (by decide) rfl (by decide) (fun H locs hP hD hS => ?_)
  refine lv_aload_n hx hb d_WE_writeEvenProduct_34 rfl (lv_at hl 0 rfl) ?_
  refine lv_bipush (v := 7) hx hb d_WE_writeEvenProduct_35 (by decide) ?_
  refine k_gov (ws' := [(we, .inr (5, [.ref fc, .ref bl, .ref dq])), (fc, .inr (1, [.ref fc_ops, .ref fc_opd, .ref fc_fr, .ref fc_to, .ref fc_tg, .int (nI (((((((fq + 1) + 1) + 1) + 1) + 1) + 1) + 1)), .int (nI fhn)])), (fc_ops, .inl (cI, 1328, .inl (upd (upd (upd (upd (upd (upd (upd fo fq 1) (fq + 1) 9) ((fq + 1) + 1) 0) (((fq + 1) + 1) + 1) 3) ((((fq + 1) + 1) + 1) + 1) 5) (((((fq + 1) + 1) + 1) + 1) + 1) 0) ((((((fq + 1) + 1) + 1) + 1) + 1) + 1) 7))), (fc_opd, .inl (cI, 1328, .inl (upd (upd (upd (upd (upd (upd (upd fa fq v) (fq + 1) 0) ((fq + 1) + 1) 1) (((fq + 1) + 1) + 1) 0) ((((fq + 1) + 1) + 1) + 1) 0) (((((fq + 1) + 1) + 1) + 1) + 1) 1) ((((((fq + 1) + 1) + 1) + 1) + 1) + 1) 0)))]) (wr := []) (k_runV (q0 := 0) (As := [.int 7]) (rest := []) (n := 1) S (c_WE_write1 l D cI cZ we bl dq fc fc_ops fc_opd fc_fr fc_to fc_tg ((((((fq + 1) + 1) + 1) + 1) + 1) + 1) fhn (upd (upd (upd (upd (upd (upd fo fq 1) (fq + 1) 9) ((fq + 1) + 1) 0) (((fq + 1) + 1) + 1) 3) ((((fq + 1) + 1) + 1) + 1) 5) (((((fq + 1) + 1) + 1) + 1) + 1) 0) (upd (upd (upd (upd (upd (upd fa fq v) (fq + 1) 0) ((fq + 1) + 1) 1) (((fq + 1) + 1) + 1) 0) ((((fq + 1) + 1) + 1) + 1) 0) (((((fq + 1) + 1) + 1) + 1) + 1) 1) 7 (by omega)) E0_b E0_t ql_WE_92 qi_WE_write1 qs_WE_write1 qn_WE qc_WE_write1 (by decide +kernel) rfl ⟨rfl, rfl⟩ ⟨Nat.le_of_ble_eq_true rfl, Nat.le_of_ble_eq_true rfl⟩ hK hP hD [0, 1, 2, 3] rfl (by decide) rfl rfl hl.1 rfl (Nat.le_of_ble_eq_true rfl) d_WE_writeEvenProduct_37 ⟨Nat.zero_le _, Nat.zero_le _⟩) hP hD hS hA [0, 1, 2, 3] [] [0, 1, 2, 3] rfl rfl (by decide) (by decide) rfl (by decide) (fun H locs hP hD hS => ?_)
  exact k_vret hx hb hr hlocks hK hP hD hS (by rw [f_WE_writeEvenProduct]) d_WE_writeEvenProduct_40

theorem d_WE_writeSquareNeverTwo_0 : decode b_WE_writeSquareNeverTwo 0 = .ok (.aload_n 0, 1) := by decide +kernel
theorem d_WE_writeSquareNeverTwo_1 : decode b_WE_writeSquareNeverTwo 1 = .ok (.iload_n 1, 1) := by decide +kernel
theorem d_WE_writeSquareNeverTwo_2 : decode b_WE_writeSquareNeverTwo 2 = .ok (.invokevirtual 113, 3) := by decide +kernel
theorem d_WE_writeSquareNeverTwo_5 : decode b_WE_writeSquareNeverTwo 5 = .ok (.aload_n 0, 1) := by decide +kernel
theorem d_WE_writeSquareNeverTwo_6 : decode b_WE_writeSquareNeverTwo 6 = .ok (.iconst 0, 1) := by decide +kernel
theorem d_WE_writeSquareNeverTwo_7 : decode b_WE_writeSquareNeverTwo 7 = .ok (.iconst 3, 1) := by decide +kernel
theorem d_WE_writeSquareNeverTwo_8 : decode b_WE_writeSquareNeverTwo 8 = .ok (.invokevirtual 89, 3) := by decide +kernel
theorem d_WE_writeSquareNeverTwo_11 : decode b_WE_writeSquareNeverTwo 11 = .ok (.aload_n 0, 1) := by decide +kernel
theorem d_WE_writeSquareNeverTwo_12 : decode b_WE_writeSquareNeverTwo 12 = .ok (.bipush 7, 2) := by decide +kernel
theorem d_WE_writeSquareNeverTwo_14 : decode b_WE_writeSquareNeverTwo 14 = .ok (.invokevirtual 92, 3) := by decide +kernel
theorem d_WE_writeSquareNeverTwo_17 : decode b_WE_writeSquareNeverTwo 17 = .ok (.aload_n 0, 1) := by decide +kernel
theorem d_WE_writeSquareNeverTwo_18 : decode b_WE_writeSquareNeverTwo 18 = .ok (.iconst 0, 1) := by decide +kernel
theorem d_WE_writeSquareNeverTwo_19 : decode b_WE_writeSquareNeverTwo 19 = .ok (.iconst 2, 1) := by decide +kernel
theorem d_WE_writeSquareNeverTwo_20 : decode b_WE_writeSquareNeverTwo 20 = .ok (.invokevirtual 89, 3) := by decide +kernel
theorem d_WE_writeSquareNeverTwo_23 : decode b_WE_writeSquareNeverTwo 23 = .ok (.aload_n 0, 1) := by decide +kernel
theorem d_WE_writeSquareNeverTwo_24 : decode b_WE_writeSquareNeverTwo 24 = .ok (.bipush 8, 2) := by decide +kernel
theorem d_WE_writeSquareNeverTwo_26 : decode b_WE_writeSquareNeverTwo 26 = .ok (.invokevirtual 92, 3) := by decide +kernel
theorem d_WE_writeSquareNeverTwo_29 : decode b_WE_writeSquareNeverTwo 29 = .ok (.return_, 1) := by decide +kernel
def f_WE_writeSquareNeverTwo (fq : Nat) (fo : Nat → Int32) (fa : Nat → Int32) (v : Int32) : Nat × (Nat → Int32) × (Nat → Int32) := (((((fq + 1 + 1 + 1) + 1) + 1) + 1) + 1, upd (upd (upd (upd ((f_WE_writeSquare fq fo fa v).2.1) (fq + 1 + 1 + 1) 0) ((fq + 1 + 1 + 1) + 1) 7) (((fq + 1 + 1 + 1) + 1) + 1) 0) ((((fq + 1 + 1 + 1) + 1) + 1) + 1) 8, upd (upd (upd (upd ((f_WE_writeSquare fq fo fa v).2.2) (fq + 1 + 1 + 1) 3) ((fq + 1 + 1 + 1) + 1) 0) (((fq + 1 + 1 + 1) + 1) + 1) 2) ((((fq + 1 + 1 + 1) + 1) + 1) + 1) 0)
set_option maxHeartbeats 1000000 in
set_option maxRecDepth 100000 in
theorem c_WE_writeSquareNeverTwo (l : Launch) (D : va_G) (cI cZ : ClassId) (we bl dq : Nat) (fc fc_ops fc_opd fc_fr fc_to fc_tg fq fhn : Nat) (fo fa : Nat → Int32) (v : Int32) (hfq : fq + 7 ≤ 1328) : MG l y_WE_writeSquareNeverTwo w_WE_writeSquareNeverTwo (rmK 3 65) D classes (tyz cI cZ) E0 [.ref we, .int v] [(we, .inr (5, [.ref fc, .ref bl, .ref dq])), (fc, .inr (1, [.ref fc_ops, .ref fc_opd, .ref fc_fr, .ref fc_to, .ref fc_tg, .int (nI fq), .int (nI fhn)])), (fc_ops, .inl (cI, 1328, .inl fo)), (fc_opd, .inl (cI, 1328, .inl fa))] (RV D classes (tyz cI cZ) [(we, .inr (5, [.ref fc, .ref bl, .ref dq])), (fc, .inr (1, [.ref fc_ops, .ref fc_opd, .ref fc_fr, .ref fc_to, .ref fc_tg, .int (nI ((f_WE_writeSquareNeverTwo fq fo fa v).1)), .int (nI fhn)])), (fc_ops, .inl (cI, 1328, .inl ((f_WE_writeSquareNeverTwo fq fo fa v).2.1))), (fc_opd, .inl (cI, 1328, .inl ((f_WE_writeSquareNeverTwo fq fo fa v).2.2)))]) := by
  refine MG.of (cc := b_WE_writeSquareNeverTwo) (maxL := 2) (ret := none) (own := "FlowFlattener$Weaver") rfl (by decide) rfl (Nat.le_of_ble_eq_true rfl) ?_
  intro p e s m below meth c A ls S hr hlocks hA hP hK hD hS hE hl
  have hx := S.1
  have hb := S.2.1
  have hl : lv_has ls 2 [(0, .ref we), (1, .int v)] := hl
  refine lv_aload_n hx hb d_WE_writeSquareNeverTwo_0 rfl (lv_at hl 0 rfl) ?_
  refine lv_iload_n hx hb d_WE_writeSquareNeverTwo_1 rfl (lv_at hl 1 rfl) ?_
  refine k_gov (ws' := [(we, .inr (5, [.ref fc, .ref bl, .ref dq])), (fc, .inr (1, [.ref fc_ops, .ref fc_opd, .ref fc_fr, .ref fc_to, .ref fc_tg, .int (nI ((f_WE_writeSquare fq fo fa v).1)), .int (nI fhn)])), (fc_ops, .inl (cI, 1328, .inl ((f_WE_writeSquare fq fo fa v).2.1))), (fc_opd, .inl (cI, 1328, .inl ((f_WE_writeSquare fq fo fa v).2.2)))]) (wr := []) (k_runV (q0 := 0) (As := [.int v]) (rest := []) (n := 1) S (c_WE_writeSquare l D cI cZ we bl dq fc fc_ops fc_opd fc_fr fc_to fc_tg fq fhn fo fa v (by omega)) E0_b E0_t ql_WE_113 qi_WE_writeSquare qs_WE_writeSquare qn_WE qc_WE_writeSquare (by decide +kernel) rfl ⟨rfl, rfl⟩ ⟨Nat.le_of_ble_eq_true rfl, Nat.le_of_ble_eq_true rfl⟩ hK hP hD [0, 1, 2, 3] rfl (by decide) rfl rfl hl.1 rfl (Nat.le_of_ble_eq_true rfl) d_WE_writeSquareNeverTwo_2 ⟨Nat.zero_le _, Nat.zero_le _⟩) hP hD hS hA [0, 1, 2, 3] [] [0, 1, 2, 3] rfl rfl (by decide) (by decide) rfl (by decide) (fun H locs hP hD hS => ?_)
  rw [wsq_c] at hP hD
  refine lv_aload_n hx hb d_WE_writeSquareNeverTwo_5 rfl (lv_at hl 0 rfl) ?_
  refine lv_iconst (v := 0) hx hb d_WE_writeSquareNeverTwo_6 (by decide) ?_
  refine lv_iconst (v := 3) hx hb d_WE_writeSquareNeverTwo_7 (by decide) ?_
  refine k_gov (ws' := [(we, .inr (5, [.ref fc, .ref bl, .ref dq])), (fc, .inr (1, [.ref fc_ops, .ref fc_opd, .ref fc_fr, .ref fc_to, .ref fc_tg, .int (nI ((fq + 1 + 1 + 1) + 1)), .int (nI fhn)])), (fc_ops, .inl (cI, 1328, .inl (upd ((f_WE_writeSquare fq fo fa v).2.1) (fq + 1 + 1 + 1) 0))), (fc_opd, .inl (cI, 1328, .inl (upd ((f_WE_writeSquare fq fo fa v).2.2) (fq + 1 + 1 + 1) 3)))]) (wr := []) (k_runV (q0 := 0) (As := [.int 0, .int 3]) (rest := []) (n := 2) S (c_WE_write2 l D cI cZ we bl dq fc fc_ops fc_opd fc_fr fc_to fc_tg (fq + 1 + 1 + 1) fhn ((f_WE_writeSquare fq fo fa v).2.1) ((f_WE_writeSquare fq fo fa v).2.2) 0 3 (by omega)) E0_b E0_t ql_WE_89 qi_WE_write2 qs_WE_write2 qn_WE qc_WE_write2 (by decide +kernel) rfl ⟨rfl, rfl⟩ ⟨Nat.le_of_ble_eq_true rfl, Nat.le_of_ble_eq_true rfl⟩ hK hP hD [0, 1, 2, 3] rfl (by decide) rfl rfl hl.1 rfl (Nat.le_of_ble_eq_true rfl) d_WE_writeSquareNeverTwo_8 ⟨Nat.zero_le _, Nat.zero_le _⟩) hP hD hS hA [0, 1, 2, 3] [] [0, 1, 2, 3] rfl rfl (by decide) (by decide) rfl (by decide) (fun H locs hP hD hS => ?_)
  refine lv_aload_n hx hb d_WE_writeSquareNeverTwo_11 rfl (lv_at hl 0 rfl) ?_
  refine lv_bipush (v := 7) hx hb d_WE_writeSquareNeverTwo_12 (by decide) ?_
  refine k_gov (ws' := [(we, .inr (5, [.ref fc, .ref bl, .ref dq])), (fc, .inr (1, [.ref fc_ops, .ref fc_opd, .ref fc_fr, .ref fc_to, .ref fc_tg, .int (nI (((fq + 1 + 1 + 1) + 1) + 1)), .int (nI fhn)])), (fc_ops, .inl (cI, 1328, .inl (upd (upd ((f_WE_writeSquare fq fo fa v).2.1) (fq + 1 + 1 + 1) 0) ((fq + 1 + 1 + 1) + 1) 7))), (fc_opd, .inl (cI, 1328, .inl (upd (upd ((f_WE_writeSquare fq fo fa v).2.2) (fq + 1 + 1 + 1) 3) ((fq + 1 + 1 + 1) + 1) 0)))]) (wr := []) (k_runV (q0 := 0) (As := [.int 7]) (rest := []) (n := 1) S (c_WE_write1 l D cI cZ we bl dq fc fc_ops fc_opd fc_fr fc_to fc_tg ((fq + 1 + 1 + 1) + 1) fhn (upd ((f_WE_writeSquare fq fo fa v).2.1) (fq + 1 + 1 + 1) 0) (upd ((f_WE_writeSquare fq fo fa v).2.2) (fq + 1 + 1 + 1) 3) 7 (by omega)) E0_b E0_t ql_WE_92 qi_WE_write1 qs_WE_write1 qn_WE qc_WE_write1 (by decide +kernel) rfl ⟨rfl, rfl⟩ ⟨Nat.le_of_ble_eq_true rfl, Nat.le_of_ble_eq_true rfl⟩ hK hP hD [0, 1, 2, 3] rfl (by decide) rfl rfl hl.1 rfl (Nat.le_of_ble_eq_true rfl) d_WE_writeSquareNeverTwo_14 ⟨Nat.zero_le _, Nat.zero_le _⟩) hP hD hS hA [0, 1, 2, 3] [] [0, 1, 2, 3] rfl rfl (by decide) (by decide) rfl (by decide) (fun H locs hP hD hS => ?_)
  refine lv_aload_n hx hb d_WE_writeSquareNeverTwo_17 rfl (lv_at hl 0 rfl) ?_
  refine lv_iconst (v := 0) hx hb d_WE_writeSquareNeverTwo_18 (by decide) ?_
  refine lv_iconst (v := 2) hx hb d_WE_writeSquareNeverTwo_19 (by decide) ?_
  refine k_gov (ws' := [(we, .inr (5, [.ref fc, .ref bl, .ref dq])), (fc, .inr (1, [.ref fc_ops, .ref fc_opd, .ref fc_fr, .ref fc_to, .ref fc_tg, .int (nI ((((fq + 1 + 1 + 1) + 1) + 1) + 1)), .int (nI fhn)])), (fc_ops, .inl (cI, 1328, .inl (upd (upd (upd ((f_WE_writeSquare fq fo fa v).2.1) (fq + 1 + 1 + 1) 0) ((fq + 1 + 1 + 1) + 1) 7) (((fq + 1 + 1 + 1) + 1) + 1) 0))), (fc_opd, .inl (cI, 1328, .inl (upd (upd (upd ((f_WE_writeSquare fq fo fa v).2.2) (fq + 1 + 1 + 1) 3) ((fq + 1 + 1 + 1) + 1) 0) (((fq + 1 + 1 + 1) + 1) + 1) 2)))]) (wr := []) (k_runV (q0 := 0) (As := [.int 0, .int 2]) (rest := []) (n := 2) S (c_WE_write2 l D cI cZ we bl dq fc fc_ops fc_opd fc_fr fc_to fc_tg (((fq + 1 + 1 + 1) + 1) + 1) fhn (upd (upd ((f_WE_writeSquare fq fo fa v).2.1) (fq + 1 + 1 + 1) 0) ((fq + 1 + 1 + 1) + 1) 7) (upd (upd ((f_WE_writeSquare fq fo fa v).2.2) (fq + 1 + 1 + 1) 3) ((fq + 1 + 1 + 1) + 1) 0) 0 2 (by omega)) E0_b E0_t ql_WE_89 qi_WE_write2 qs_WE_write2 qn_WE qc_WE_write2 (by decide +kernel) rfl ⟨rfl, rfl⟩ ⟨Nat.le_of_ble_eq_true rfl, Nat.le_of_ble_eq_true rfl⟩ hK hP hD [0, 1, 2, 3] rfl (by decide) rfl rfl hl.1 rfl (Nat.le_of_ble_eq_true rfl) d_WE_writeSquareNeverTwo_20 ⟨Nat.zero_le _, Nat.zero_le _⟩) hP hD hS hA [0, 1, 2, 3] [] [0, 1, 2, 3] rfl rfl (by decide) (by decide) rfl (by decide) (fun H locs hP hD hS => ?_)
  refine lv_aload_n hx hb d_WE_writeSquareNeverTwo_23 rfl (lv_at hl 0 rfl) ?_
  refine lv_bipush (v := 8) hx hb d_WE_writeSquareNeverTwo_24 (by decide) ?_
  refine k_gov (ws' := [(we, .inr (5, [.ref fc, .ref bl, .ref dq])), (fc, .inr (1, [.ref fc_ops, .ref fc_opd, .ref fc_fr, .ref fc_to, .ref fc_tg, .int (nI (((((fq + 1 + 1 + 1) + 1) + 1) + 1) + 1)), .int (nI fhn)])), (fc_ops, .inl (cI, 1328, .inl (upd (upd (upd (upd ((f_WE_writeSquare fq fo fa v).2.1) (fq + 1 + 1 + 1) 0) ((fq + 1 + 1 + 1) + 1) 7) (((fq + 1 + 1 + 1) + 1) + 1) 0) ((((fq + 1 + 1 + 1) + 1) + 1) + 1) 8))), (fc_opd, .inl (cI, 1328, .inl (upd (upd (upd (upd ((f_WE_writeSquare fq fo fa v).2.2) (fq + 1 + 1 + 1) 3) ((fq + 1 + 1 + 1) + 1) 0) (((fq + 1 + 1 + 1) + 1) + 1) 2) ((((fq + 1 + 1 + 1) + 1) + 1) + 1) 0)))]) (wr := []) (k_runV (q0 := 0) (As := [.int 8]) (rest := []) (n := 1) S (c_WE_write1 l D cI cZ we bl dq fc fc_ops fc_opd fc_fr fc_to fc_tg ((((fq + 1 + 1 + 1) + 1) + 1) + 1) fhn (upd (upd (upd ((f_WE_writeSquare fq fo fa v).2.1) (fq + 1 + 1 + 1) 0) ((fq + 1 + 1 + 1) + 1) 7) (((fq + 1 + 1 + 1) + 1) + 1) 0) (upd (upd (upd ((f_WE_writeSquare fq fo fa v).2.2) (fq + 1 + 1 + 1) 3) ((fq + 1 + 1 + 1) + 1) 0) (((fq + 1 + 1 + 1) + 1) + 1) 2) 8 (by omega)) E0_b E0_t ql_WE_92 qi_WE_write1 qs_WE_write1 qn_WE qc_WE_write1 (by decide +kernel) rfl ⟨rfl, rfl⟩ ⟨Nat.le_of_ble_eq_true rfl, Nat.le_of_ble_eq_true rfl⟩ hK hP hD [0, 1, 2, 3] rfl (by decide) rfl rfl hl.1 rfl (Nat.le_of_ble_eq_true rfl) d_WE_writeSquareNeverTwo_26 ⟨Nat.zero_le _, Nat.zero_le _⟩) hP hD hS hA [0, 1, 2, 3] [] [0, 1, 2, 3] rfl rfl (by decide) (by decide) rfl (by decide) (fun H locs hP hD hS => ?_)
  exact k_vret hx hb hr hlocks hK hP hD hS (by rw [f_WE_writeSquareNeverTwo]) d_WE_writeSquareNeverTwo_29

theorem d_WE_writeSquaresNeverMeet_0 : decode b_WE_writeSquaresNeverMeet 0 = .ok (.aload_n 0, 1) := by decide +kernel
theorem d_WE_writeSquaresNeverMeet_1 : decode b_WE_writeSquaresNeverMeet 1 = .ok (.iload_n 1, 1) := by decide +kernel
theorem d_WE_writeSquaresNeverMeet_2 : decode b_WE_writeSquaresNeverMeet 2 = .ok (.invokevirtual 113, 3) := by decide +kernel
theorem d_WE_writeSquaresNeverMeet_5 : decode b_WE_writeSquaresNeverMeet 5 = .ok (.aload_n 0, 1) := by decide +kernel
theorem d_WE_writeSquaresNeverMeet_6 : decode b_WE_writeSquaresNeverMeet 6 = .ok (.iconst 0, 1) := by decide +kernel
theorem d_WE_writeSquaresNeverMeet_7 : decode b_WE_writeSquaresNeverMeet 7 = .ok (.bipush 7, 2) := by decide +kernel
theorem d_WE_writeSquaresNeverMeet_9 : decode b_WE_writeSquaresNeverMeet 9 = .ok (.invokevirtual 89, 3) := by decide +kernel
theorem d_WE_writeSquaresNeverMeet_12 : decode b_WE_writeSquaresNeverMeet 12 = .ok (.aload_n 0, 1) := by decide +kernel
theorem d_WE_writeSquaresNeverMeet_13 : decode b_WE_writeSquaresNeverMeet 13 = .ok (.iconst 5, 1) := by decide +kernel
theorem d_WE_writeSquaresNeverMeet_14 : decode b_WE_writeSquaresNeverMeet 14 = .ok (.invokevirtual 92, 3) := by decide +kernel
theorem d_WE_writeSquaresNeverMeet_17 : decode b_WE_writeSquaresNeverMeet 17 = .ok (.aload_n 0, 1) := by decide +kernel
theorem d_WE_writeSquaresNeverMeet_18 : decode b_WE_writeSquaresNeverMeet 18 = .ok (.iconst 0, 1) := by decide +kernel
theorem d_WE_writeSquaresNeverMeet_19 : decode b_WE_writeSquaresNeverMeet 19 = .ok (.iconst 1, 1) := by decide +kernel
theorem d_WE_writeSquaresNeverMeet_20 : decode b_WE_writeSquaresNeverMeet 20 = .ok (.invokevirtual 89, 3) := by decide +kernel
theorem d_WE_writeSquaresNeverMeet_23 : decode b_WE_writeSquaresNeverMeet 23 = .ok (.aload_n 0, 1) := by decide +kernel
theorem d_WE_writeSquaresNeverMeet_24 : decode b_WE_writeSquaresNeverMeet 24 = .ok (.iconst 4, 1) := by decide +kernel
theorem d_WE_writeSquaresNeverMeet_25 : decode b_WE_writeSquaresNeverMeet 25 = .ok (.invokevirtual 92, 3) := by decide +kernel
theorem d_WE_writeSquaresNeverMeet_28 : decode b_WE_writeSquaresNeverMeet 28 = .ok (.aload_n 0, 1) := by decide +kernel
theorem d_WE_writeSquaresNeverMeet_29 : decode b_WE_writeSquaresNeverMeet 29 = .ok (.iload_n 2, 1) := by decide +kernel
theorem d_WE_writeSquaresNeverMeet_30 : decode b_WE_writeSquaresNeverMeet 30 = .ok (.invokevirtual 113, 3) := by decide +kernel
theorem d_WE_writeSquaresNeverMeet_33 : decode b_WE_writeSquaresNeverMeet 33 = .ok (.aload_n 0, 1) := by decide +kernel
theorem d_WE_writeSquaresNeverMeet_34 : decode b_WE_writeSquaresNeverMeet 34 = .ok (.iconst 4, 1) := by decide +kernel
theorem d_WE_writeSquaresNeverMeet_35 : decode b_WE_writeSquaresNeverMeet 35 = .ok (.invokevirtual 92, 3) := by decide +kernel
theorem d_WE_writeSquaresNeverMeet_38 : decode b_WE_writeSquaresNeverMeet 38 = .ok (.return_, 1) := by decide +kernel
def f_WE_writeSquaresNeverMeet (fq : Nat) (fo : Nat → Int32) (fa : Nat → Int32) (u : Int32) (v : Int32) : Nat × (Nat → Int32) × (Nat → Int32) := ((fq + 1 + 1 + 1 + 1 + 1 + 1 + 1 + 1 + 1 + 1) + 1, upd ((f_WE_writeSquare (((((fq + 1 + 1 + 1) + 1) + 1) + 1) + 1) (upd (upd (upd (upd ((f_WE_writeSquare fq fo fa u).2.1) (fq + 1 + 1 + 1) 0) ((fq + 1 + 1 + 1) + 1) 5) (((fq + 1 + 1 + 1) + 1) + 1) 0) ((((fq + 1 + 1 + 1) + 1) + 1) + 1) 4) (upd (upd (upd (upd ((f_WE_writeSquare fq fo fa u).2.2) (fq + 1 + 1 + 1) 7) ((fq + 1 + 1 + 1) + 1) 0) (((fq + 1 + 1 + 1) + 1) + 1) 1) ((((fq + 1 + 1 + 1) + 1) + 1) + 1) 0) v).2.1) (fq + 1 + 1 + 1 + 1 + 1 + 1 + 1 + 1 + 1 + 1) 4, upd ((f_WE_writeSquare (((((fq + 1 + 1 + 1) + 1) + 1) + 1) + 1) (upd (upd (upd (upd ((f_WE_writeSquare fq fo fa u).2.1) (fq + 1 + 1 + 1) 0) ((fq + 1 + 1 + 1) + 1) 5) (((fq + 1 + 1 + 1) + 1) + 1) 0) ((((fq + 1 + 1 + 1) + 1) + 1) + 1) 4) (upd (upd (upd (upd ((f_WE_writeSquare fq fo fa u).2.2) (fq + 1 + 1 + 1) 7) ((fq + 1 + 1 + 1) + 1) 0) (((fq + 1 + 1 + 1) + 1) + 1) 1) ((((fq + 1 + 1 + 1) + 1) + 1) + 1) 0) v).2.2) (fq + 1 + 1 + 1 + 1 + 1 + 1 + 1 + 1 + 1 + 1) 0)
set_option maxHeartbeats 1000000 in
set_option maxRecDepth 100000 in
theorem c_WE_writeSquaresNeverMeet (l : Launch) (D : va_G) (cI cZ : ClassId) (we bl dq : Nat) (fc fc_ops fc_opd fc_fr fc_to fc_tg fq fhn : Nat) (fo fa : Nat → Int32) (u v : Int32) (hfq : fq + 11 ≤ 1328) : MG l y_WE_writeSquaresNeverMeet w_WE_writeSquaresNeverMeet (rmK 3 65) D classes (tyz cI cZ) E0 [.ref we, .int u, .int v] [(we, .inr (5, [.ref fc, .ref bl, .ref dq])), (fc, .inr (1, [.ref fc_ops, .ref fc_opd, .ref fc_fr, .ref fc_to, .ref fc_tg, .int (nI fq), .int (nI fhn)])), (fc_ops, .inl (cI, 1328, .inl fo)), (fc_opd, .inl (cI, 1328, .inl fa))] (RV D classes (tyz cI cZ) [(we, .inr (5, [.ref fc, .ref bl, .ref dq])), (fc, .inr (1, [.ref fc_ops, .ref fc_opd, .ref fc_fr, .ref fc_to, .ref fc_tg, .int (nI ((f_WE_writeSquaresNeverMeet fq fo fa u v).1)), .int (nI fhn)])), (fc_ops, .inl (cI, 1328, .inl ((f_WE_writeSquaresNeverMeet fq fo fa u v).2.1))), (fc_opd, .inl (cI, 1328, .inl ((f_WE_writeSquaresNeverMeet fq fo fa u v).2.2)))]) := by
  refine MG.of (cc := b_WE_writeSquaresNeverMeet) (maxL := 3) (ret := none) (own := "FlowFlattener$Weaver") rfl (by decide) rfl (Nat.le_of_ble_eq_true rfl) ?_
  intro p e s m below meth c A ls S hr hlocks hA hP hK hD hS hE hl
  have hx := S.1
  have hb := S.2.1
  have hl : lv_has ls 3 [(0, .ref we), (1, .int u), (2, .int v)] := hl
  refine lv_aload_n hx hb d_WE_writeSquaresNeverMeet_0 rfl (lv_at hl 0 rfl) ?_
  refine lv_iload_n hx hb d_WE_writeSquaresNeverMeet_1 rfl (lv_at hl 1 rfl) ?_
  refine k_gov (ws' := [(we, .inr (5, [.ref fc, .ref bl, .ref dq])), (fc, .inr (1, [.ref fc_ops, .ref fc_opd, .ref fc_fr, .ref fc_to, .ref fc_tg, .int (nI ((f_WE_writeSquare fq fo fa u).1)), .int (nI fhn)])), (fc_ops, .inl (cI, 1328, .inl ((f_WE_writeSquare fq fo fa u).2.1))), (fc_opd, .inl (cI, 1328, .inl ((f_WE_writeSquare fq fo fa u).2.2)))]) (wr := []) (k_runV (q0 := 0) (As := [.int u]) (rest := []) (n := 1) S (c_WE_writeSquare l D cI cZ we bl dq fc fc_ops fc_opd fc_fr fc_to fc_tg fq fhn fo fa u (by omega)) E0_b E0_t ql_WE_113 qi_WE_writeSquare qs_WE_writeSquare qn_WE qc_WE_writeSquare (by decide +kernel) rfl ⟨rfl, rfl⟩ ⟨Nat.le_of_ble_eq_true rfl, Nat.le_of_ble_eq_true rfl⟩ hK hP hD [0, 1, 2, 3] rfl (by decide) rfl rfl hl.1 rfl (Nat.le_of_ble_eq_true rfl) d_WE_writeSquaresNeverMeet_2 ⟨Nat.zero_le _, Nat.zero_le _⟩) hP hD hS hA [0, 1, 2, 3] [] [0, 1, 2, 3] rfl rfl (by decide) (by decide) rfl (by decide) (fun H locs hP hD hS => ?_)
  rw [wsq_c] at hP hD
  refine lv_aload_n hx hb d_WE_writeSquaresNeverMeet_5 rfl (lv_at hl 0 rfl) ?_
  refine lv_iconst (v := 0) hx hb d_WE_writeSquaresNeverMeet_6 (by decide) ?_
  refine lv_bipush (v := 7) hx hb d_WE_writeSquaresNeverMeet_7 (by decide) ?_
  refine k_gov (ws' := [(we, .inr (5, [.ref fc, .ref bl, .ref dq])), (fc, .inr (1, [.ref fc_ops, .ref fc_opd, .ref fc_fr, .ref fc_to, .ref fc_tg, .int (nI ((fq + 1 + 1 + 1) + 1)), .int (nI fhn)])), (fc_ops, .inl (cI, 1328, .inl (upd ((f_WE_writeSquare fq fo fa u).2.1) (fq + 1 + 1 + 1) 0))), (fc_opd, .inl (cI, 1328, .inl (upd ((f_WE_writeSquare fq fo fa u).2.2) (fq + 1 + 1 + 1) 7)))]) (wr := []) (k_runV (q0 := 0) (As := [.int 0, .int 7]) (rest := []) (n := 2) S (c_WE_write2 l D cI cZ we bl dq fc fc_ops fc_opd fc_fr fc_to fc_tg (fq + 1 + 1 + 1) fhn ((f_WE_writeSquare fq fo fa u).2.1) ((f_WE_writeSquare fq fo fa u).2.2) 0 7 (by omega)) E0_b E0_t ql_WE_89 qi_WE_write2 qs_WE_write2 qn_WE qc_WE_write2 (by decide +kernel) rfl ⟨rfl, rfl⟩ ⟨Nat.le_of_ble_eq_true rfl, Nat.le_of_ble_eq_true rfl⟩ hK hP hD [0, 1, 2, 3] rfl (by decide) rfl rfl hl.1 rfl (Nat.le_of_ble_eq_true rfl) d_WE_writeSquaresNeverMeet_9 ⟨Nat.zero_le _, Nat.zero_le _⟩) hP hD hS hA [0, 1, 2, 3] [] [0, 1, 2, 3] rfl rfl (by decide) (by decide) rfl (by decide) (fun H locs hP hD hS => ?_)
  refine lv_aload_n hx hb d_WE_writeSquaresNeverMeet_12 rfl (lv_at hl 0 rfl) ?_
  refine lv_iconst (v := 5) hx hb d_WE_writeSquaresNeverMeet_13 (by decide) ?_
  refine k_gov (ws' := [(we, .inr (5, [.ref fc, .ref bl, .ref dq])), (fc, .inr (1, [.ref fc_ops, .ref fc_opd, .ref fc_fr, .ref fc_to, .ref fc_tg, .int (nI (((fq + 1 + 1 + 1) + 1) + 1)), .int (nI fhn)])), (fc_ops, .inl (cI, 1328, .inl (upd (upd ((f_WE_writeSquare fq fo fa u).2.1) (fq + 1 + 1 + 1) 0) ((fq + 1 + 1 + 1) + 1) 5))), (fc_opd, .inl (cI, 1328, .inl (upd (upd ((f_WE_writeSquare fq fo fa u).2.2) (fq + 1 + 1 + 1) 7) ((fq + 1 + 1 + 1) + 1) 0)))]) (wr := []) (k_runV (q0 := 0) (As := [.int 5]) (rest := []) (n := 1) S (c_WE_write1 l D cI cZ we bl dq fc fc_ops fc_opd fc_fr fc_to fc_tg ((fq + 1 + 1 + 1) + 1) fhn (upd ((f_WE_writeSquare fq fo fa u).2.1) (fq + 1 + 1 + 1) 0) (upd ((f_WE_writeSquare fq fo fa u).2.2) (fq + 1 + 1 + 1) 7) 5 (by omega)) E0_b E0_t ql_WE_92 qi_WE_write1 qs_WE_write1 qn_WE qc_WE_write1 (by decide +kernel) rfl ⟨rfl, rfl⟩ ⟨Nat.le_of_ble_eq_true rfl, Nat.le_of_ble_eq_true rfl⟩ hK hP hD [0, 1, 2, 3] rfl (by decide) rfl rfl hl.1 rfl (Nat.le_of_ble_eq_true rfl) d_WE_writeSquaresNeverMeet_14 ⟨Nat.zero_le _, Nat.zero_le _⟩) hP hD hS hA [0, 1, 2, 3] [] [0, 1, 2, 3] rfl rfl (by decide) (by decide) rfl (by decide) (fun H locs hP hD hS => ?_)
  refine lv_aload_n hx hb d_WE_writeSquaresNeverMeet_17 rfl (lv_at hl 0 rfl) ?_
  refine lv_iconst (v := 0) hx hb d_WE_writeSquaresNeverMeet_18 (by decide) ?_
  refine lv_iconst (v := 1) hx hb d_WE_writeSquaresNeverMeet_19 (by decide) ?_
  refine k_gov (ws' := [(we, .inr (5, [.ref fc, .ref bl, .ref dq])), (fc, .inr (1, [.ref fc_ops, .ref fc_opd, .ref fc_fr, .ref fc_to, .ref fc_tg, .int (nI ((((fq + 1 + 1 + 1) + 1) + 1) + 1)), .int (nI fhn)])), (fc_ops, .inl (cI, 1328, .inl (upd (upd (upd ((f_WE_writeSquare fq fo fa u).2.1) (fq + 1 + 1 + 1) 0) ((fq + 1 + 1 + 1) + 1) 5) (((fq + 1 + 1 + 1) + 1) + 1) 0))), (fc_opd, .inl (cI, 1328, .inl (upd (upd (upd ((f_WE_writeSquare fq fo fa u).2.2) (fq + 1 + 1 + 1) 7) ((fq + 1 + 1 + 1) + 1) 0) (((fq + 1 + 1 + 1) + 1) + 1) 1)))]) (wr := []) (k_runV (q0 := 0) (As := [.int 0, .int 1]) (rest := []) (n := 2) S (c_WE_write2 l D cI cZ we bl dq fc fc_ops fc_opd fc_fr fc_to fc_tg (((fq + 1 + 1 + 1) + 1) + 1) fhn (upd (upd ((f_WE_writeSquare fq fo fa u).2.1) (fq + 1 + 1 + 1) 0) ((fq + 1 + 1 + 1) + 1) 5) (upd (upd ((f_WE_writeSquare fq fo fa u).2.2) (fq + 1 + 1 + 1) 7) ((fq + 1 + 1 + 1) + 1) 0) 0 1 (by omega)) E0_b E0_t ql_WE_89 qi_WE_write2 qs_WE_write2 qn_WE qc_WE_write2 (by decide +kernel) rfl ⟨rfl, rfl⟩ ⟨Nat.le_of_ble_eq_true rfl, Nat.le_of_ble_eq_true rfl⟩ hK hP hD [0, 1, 2, 3] rfl (by decide) rfl rfl hl.1 rfl (Nat.le_of_ble_eq_true rfl) d_WE_writeSquaresNeverMeet_20 ⟨Nat.zero_le _, Nat.zero_le _⟩) hP hD hS hA [0, 1, 2, 3] [] [0, 1, 2, 3] rfl rfl (by decide) (by decide) rfl (by decide) (fun H locs hP hD hS => ?_)
  refine lv_aload_n hx hb d_WE_writeSquaresNeverMeet_23 rfl (lv_at hl 0 rfl) ?_
  refine lv_iconst (v := 4) hx hb d_WE_writeSquaresNeverMeet_24 (by decide) ?_
  refine k_gov (ws' := [(we, .inr (5, [.ref fc, .ref bl, .ref dq])), (fc, .inr (1, [.ref fc_ops, .ref fc_opd, .ref fc_fr, .ref fc_to, .ref fc_tg, .int (nI (((((fq + 1 + 1 + 1) + 1) + 1) + 1) + 1)), .int (nI fhn)])), (fc_ops, .inl (cI, 1328, .inl (upd (upd (upd (upd ((f_WE_writeSquare fq fo fa u).2.1) (fq + 1 + 1 + 1) 0) ((fq + 1 + 1 + 1) + 1) 5) (((fq + 1 + 1 + 1) + 1) + 1) 0) ((((fq + 1 + 1 + 1) + 1) + 1) + 1) 4))), (fc_opd, .inl (cI, 1328, .inl (upd (upd (upd (upd ((f_WE_writeSquare fq fo fa u).2.2) (fq + 1 + 1 + 1) 7) ((fq + 1 + 1 + 1) + 1) 0) (((fq + 1 + 1 + 1) + 1) + 1) 1) ((((fq + 1 + 1 + 1) + 1) + 1) + 1) 0)))]) (wr := []) (k_runV (q0 := 0) (As := [.int 4]) (rest := []) (n := 1) S (c_WE_write1 l D cI cZ we bl dq fc fc_ops fc_opd fc_fr fc_to fc_tg ((((fq + 1 + 1 + 1) + 1) + 1) + 1) fhn (upd (upd (upd ((f_WE_writeSquare fq fo fa u).2.1) (fq + 1 + 1 + 1) 0) ((fq + 1 + 1 + 1) + 1) 5) (((fq + 1 + 1 + 1) + 1) + 1) 0) (upd (upd (upd ((f_WE_writeSquare fq fo fa u).2.2) (fq + 1 + 1 + 1) 7) ((fq + 1 + 1 + 1) + 1) 0) (((fq + 1 + 1 + 1) + 1) + 1) 1) 4 (by omega)) E0_b E0_t ql_WE_92 qi_WE_write1 qs_WE_write1 qn_WE qc_WE_write1 (by decide +kernel) rfl ⟨rfl, rfl⟩ ⟨Nat.le_of_ble_eq_true rfl, Nat.le_of_ble_eq_true rfl⟩ hK hP hD [0, 1, 2, 3] rfl (by decide) rfl rfl hl.1 rfl (Nat.le_of_ble_eq_true rfl) d_WE_writeSquaresNeverMeet_25 ⟨Nat.zero_le _, Nat.zero_le _⟩) hP hD hS hA [0, 1, 2, 3] [] [0, 1, 2, 3] rfl rfl (by decide) (by decide) rfl (by decide) (fun H locs hP hD hS => ?_)
  refine lv_aload_n hx hb d_WE_writeSquaresNeverMeet_28 rfl (lv_at hl 0 rfl) ?_
  refine lv_iload_n hx hb d_WE_writeSquaresNeverMeet_29 rfl (lv_at hl 2 rfl) ?_
  refine k_gov (ws' := [(we, .inr (5, [.ref fc, .ref bl, .ref dq])), (fc, .inr (1, [.ref fc_ops, .ref fc_opd, .ref fc_fr, .ref fc_to, .ref fc_tg, .int (nI ((f_WE_writeSquare (((((fq + 1 + 1 + 1) + 1) + 1) + 1) + 1) (upd (upd (upd (upd ((f_WE_writeSquare fq fo fa u).2.1) (fq + 1 + 1 + 1) 0) ((fq + 1 + 1 + 1) + 1) 5) (((fq + 1 + 1 + 1) + 1) + 1) 0) ((((fq + 1 + 1 + 1) + 1) + 1) + 1) 4) (upd (upd (upd (upd ((f_WE_writeSquare fq fo fa u).2.2) (fq + 1 + 1 + 1) 7) ((fq + 1 + 1 + 1) + 1) 0) (((fq + 1 + 1 + 1) + 1) + 1) 1) ((((fq + 1 + 1 + 1) + 1) + 1) + 1) 0) v).1)), .int (nI fhn)])), (fc_ops, .inl (cI, 1328, .inl ((f_WE_writeSquare (((((fq + 1 + 1 + 1) + 1) + 1) + 1) + 1) (upd (upd (upd (upd ((f_WE_writeSquare fq fo fa u).2.1) (fq + 1 + 1 + 1) 0) ((fq + 1 + 1 + 1) + 1) 5) (((fq + 1 + 1 + 1) + 1) + 1) 0) ((((fq + 1 + 1 + 1) + 1) + 1) + 1) 4) (upd (upd (upd (upd ((f_WE_writeSquare fq fo fa u).2.2) (fq + 1 + 1 + 1) 7) ((fq + 1 + 1 + 1) + 1) 0) (((fq + 1 + 1 + 1) + 1) + 1) 1) ((((fq + 1 + 1 + 1) + 1) + 1) + 1) 0) v).2.1))), (fc_opd, .inl (cI, 1328, .inl ((f_WE_writeSquare (((((fq + 1 + 1 + 1) + 1) + 1) + 1) + 1) (upd (upd (upd (upd ((f_WE_writeSquare fq fo fa u).2.1) (fq + 1 + 1 + 1) 0) ((fq + 1 + 1 + 1) + 1) 5) (((fq + 1 + 1 + 1) + 1) + 1) 0) ((((fq + 1 + 1 + 1) + 1) + 1) + 1) 4) (upd (upd (upd (upd ((f_WE_writeSquare fq fo fa u).2.2) (fq + 1 + 1 + 1) 7) ((fq + 1 + 1 + 1) + 1) 0) (((fq + 1 + 1 + 1) + 1) + 1) 1) ((((fq + 1 + 1 + 1) + 1) + 1) + 1) 0) v).2.2)))]) (wr := []) (k_runV (q0 := 0) (As := [.int v]) (rest := []) (n := 1) S (c_WE_writeSquare l D cI cZ we bl dq fc fc_ops fc_opd fc_fr fc_to fc_tg (((((fq + 1 + 1 + 1) + 1) + 1) + 1) + 1) fhn (upd (upd (upd (upd ((f_WE_writeSquare fq fo fa u).2.1) (fq + 1 + 1 + 1) 0) ((fq + 1 + 1 + 1) + 1) 5) (((fq + 1 + 1 + 1) + 1) + 1) 0) ((((fq + 1 + 1 + 1) + 1) + 1) + 1) 4) (upd (upd (upd (upd ((f_WE_writeSquare fq fo fa u).2.2) (fq + 1 + 1 + 1) 7) ((fq + 1 + 1 + 1) + 1) 0) (((fq + 1 + 1 + 1) + 1) + 1) 1) ((((fq + 1 + 1 + 1) + 1) + 1) + 1) 0) v (by omega)) E0_b E0_t ql_WE_113 qi_WE_writeSquare qs_WE_writeSquare qn_WE qc_WE_writeSquare (by decide +kernel) rfl ⟨rfl, rfl⟩ ⟨Nat.le_of_ble_eq_true rfl, Nat.le_of_ble_eq_true rfl⟩ hK hP hD [0, 1, 2, 3] rfl (by decide) rfl rfl hl.1 rfl (Nat.le_of_ble_eq_true rfl) d_WE_writeSquaresNeverMeet_30 ⟨Nat.zero_le _, Nat.zero_le _⟩) hP hD hS hA [0, 1, 2, 3] [] [0, 1, 2, 3] rfl rfl (by decide) (by decide) rfl (by decide) (fun H locs hP hD hS => ?_)
  rw [wsq_c] at hP hD
  refine lv_aload_n hx hb d_WE_writeSquaresNeverMeet_33 rfl (lv_at hl 0 rfl) ?_
  refine lv_iconst (v := 4) hx hb d_WE_writeSquaresNeverMeet_34 (by decide) ?_
  refine k_gov (ws' := [(we, .inr (5, [.ref fc, .ref bl, .ref dq])), (fc, .inr (1, [.ref fc_ops, .ref fc_opd, .ref fc_fr, .ref fc_to, .ref fc_tg, .int (nI ((fq + 1 + 1 + 1 + 1 + 1 + 1 + 1 + 1 + 1 + 1) + 1)), .int (nI fhn)])), (fc_ops, .inl (cI, 1328, .inl (upd ((f_WE_writeSquare (((((fq + 1 + 1 + 1) + 1) + 1) + 1) + 1) (upd (upd (upd (upd ((f_WE_writeSquare fq fo fa u).2.1) (fq + 1 + 1 + 1) 0) ((fq + 1 + 1 + 1) + 1) 5) (((fq + 1 + 1 + 1) + 1) + 1) 0) ((((fq + 1 + 1 + 1) + 1) + 1) + 1) 4) (upd (upd (upd (upd ((f_WE_writeSquare fq fo fa u).2.2) (fq + 1 + 1 + 1) 7) ((fq + 1 + 1 + 1) + 1) 0) (((fq + 1 + 1 + 1) + 1) + 1) 1) ((((fq + 1 + 1 + 1) + 1) + 1) + 1) 0) v).2.1) (fq + 1 + 1 + 1 + 1 + 1 + 1 + 1 + 1 + 1 + 1) 4))), (fc_opd, .inl (cI, 1328, .inl (upd ((f_WE_writeSquare (((((fq + 1 + 1 + 1) + 1) + 1) + 1) + 1) (upd (upd (upd (upd ((f_WE_writeSquare fq fo fa u).2.1) (fq + 1 + 1 + 1) 0) ((fq + 1 + 1 + 1) + 1) 5) (((fq + 1 + 1 + 1) + 1) + 1) 0) ((((fq + 1 + 1 + 1) + 1) + 1) + 1) 4) (upd (upd (upd (upd ((f_WE_writeSquare fq fo fa u).2.2) (fq + 1 + 1 + 1) 7) ((fq + 1 + 1 + 1) + 1) 0) (((fq + 1 + 1 + 1) + 1) + 1) 1) ((((fq + 1 + 1 + 1) + 1) + 1) + 1) 0) v).2.2) (fq + 1 + 1 + 1 + 1 + 1 + 1 + 1 + 1 + 1 + 1) 0)))]) (wr := []) (k_runV (q0 := 0) (As := [.int 4]) (rest := []) (n := 1) S (c_WE_write1 l D cI cZ we bl dq fc fc_ops fc_opd fc_fr fc_to fc_tg (fq + 1 + 1 + 1 + 1 + 1 + 1 + 1 + 1 + 1 + 1) fhn ((f_WE_writeSquare (((((fq + 1 + 1 + 1) + 1) + 1) + 1) + 1) (upd (upd (upd (upd ((f_WE_writeSquare fq fo fa u).2.1) (fq + 1 + 1 + 1) 0) ((fq + 1 + 1 + 1) + 1) 5) (((fq + 1 + 1 + 1) + 1) + 1) 0) ((((fq + 1 + 1 + 1) + 1) + 1) + 1) 4) (upd (upd (upd (upd ((f_WE_writeSquare fq fo fa u).2.2) (fq + 1 + 1 + 1) 7) ((fq + 1 + 1 + 1) + 1) 0) (((fq + 1 + 1 + 1) + 1) + 1) 1) ((((fq + 1 + 1 + 1) + 1) + 1) + 1) 0) v).2.1) ((f_WE_writeSquare (((((fq + 1 + 1 + 1) + 1) + 1) + 1) + 1) (upd (upd (upd (upd ((f_WE_writeSquare fq fo fa u).2.1) (fq + 1 + 1 + 1) 0) ((fq + 1 + 1 + 1) + 1) 5) (((fq + 1 + 1 + 1) + 1) + 1) 0) ((((fq + 1 + 1 + 1) + 1) + 1) + 1) 4) (upd (upd (upd (upd ((f_WE_writeSquare fq fo fa u).2.2) (fq + 1 + 1 + 1) 7) ((fq + 1 + 1 + 1) + 1) 0) (((fq + 1 + 1 + 1) + 1) + 1) 1) ((((fq + 1 + 1 + 1) + 1) + 1) + 1) 0) v).2.2) 4 (by omega)) E0_b E0_t ql_WE_92 qi_WE_write1 qs_WE_write1 qn_WE qc_WE_write1 (by decide +kernel) rfl ⟨rfl, rfl⟩ ⟨Nat.le_of_ble_eq_true rfl, Nat.le_of_ble_eq_true rfl⟩ hK hP hD [0, 1, 2, 3] rfl (by decide) rfl rfl hl.1 rfl (Nat.le_of_ble_eq_true rfl) d_WE_writeSquaresNeverMeet_35 ⟨Nat.zero_le _, Nat.zero_le _⟩) hP hD hS hA [0, 1, 2, 3] [] [0, 1, 2, 3] rfl rfl (by decide) (by decide) rfl (by decide) (fun H locs hP hD hS => ?_)
  exact k_vret hx hb hr hlocks hK hP hD hS (by rw [f_WE_writeSquaresNeverMeet]) d_WE_writeSquaresNeverMeet_38

theorem d_WE_writeGoingTo_0 : decode b_WE_writeGoingTo 0 = .ok (.aload_n 0, 1) := by decide +kernel
theorem d_WE_writeGoingTo_1 : decode b_WE_writeGoingTo 1 = .ok (.iconst 0, 1) := by decide +kernel
theorem d_WE_writeGoingTo_2 : decode b_WE_writeGoingTo 2 = .ok (.iload_n 1, 1) := by decide +kernel
theorem d_WE_writeGoingTo_3 : decode b_WE_writeGoingTo 3 = .ok (.invokevirtual 89, 3) := by decide +kernel
theorem d_WE_writeGoingTo_6 : decode b_WE_writeGoingTo 6 = .ok (.aload_n 0, 1) := by decide +kernel
theorem d_WE_writeGoingTo_7 : decode b_WE_writeGoingTo 7 = .ok (.iconst 2, 1) := by decide +kernel
theorem d_WE_writeGoingTo_8 : decode b_WE_writeGoingTo 8 = .ok (.iconst 4, 1) := by decide +kernel
theorem d_WE_writeGoingTo_9 : decode b_WE_writeGoingTo 9 = .ok (.invokevirtual 89, 3) := by decide +kernel
theorem d_WE_writeGoingTo_12 : decode b_WE_writeGoingTo 12 = .ok (.aload_n 0, 1) := by decide +kernel
theorem d_WE_writeGoingTo_13 : decode b_WE_writeGoingTo 13 = .ok (.bipush 13, 2) := by decide +kernel
theorem d_WE_writeGoingTo_15 : decode b_WE_writeGoingTo 15 = .ok (.iconst 2, 1) := by decide +kernel
theorem d_WE_writeGoingTo_16 : decode b_WE_writeGoingTo 16 = .ok (.invokevirtual 89, 3) := by decide +kernel
theorem d_WE_writeGoingTo_19 : decode b_WE_writeGoingTo 19 = .ok (.return_, 1) := by decide +kernel
def f_WE_writeGoingTo (fq : Nat) (fo : Nat → Int32) (fa : Nat → Int32) (v : Int32) : Nat × (Nat → Int32) × (Nat → Int32) := (((fq + 1) + 1) + 1, upd (upd (upd fo fq 0) (fq + 1) 2) ((fq + 1) + 1) 13, upd (upd (upd fa fq v) (fq + 1) 4) ((fq + 1) + 1) 2)
set_option maxHeartbeats 1000000 in
set_option maxRecDepth 100000 in
theorem c_WE_writeGoingTo (l : Launch) (D : va_G) (cI cZ : ClassId) (we bl dq : Nat) (fc fc_ops fc_opd fc_fr fc_to fc_tg fq fhn : Nat) (fo fa : Nat → Int32) (v : Int32) (hfq : fq + 3 ≤ 1328) : MG l y_WE_writeGoingTo w_WE_writeGoingTo (rmK 2 44) D classes (tyz cI cZ) E0 [.ref we, .int v] [(we, .inr (5, [.ref fc, .ref bl, .ref dq])), (fc, .inr (1, [.ref fc_ops, .ref fc_opd, .ref fc_fr, .ref fc_to, .ref fc_tg, .int (nI fq), .int (nI fhn)])), (fc_ops, .inl (cI, 1328, .inl fo)), (fc_opd, .inl (cI, 1328, .inl fa))] (RV D classes (tyz cI cZ) [(we, .inr (5, [.ref fc, .ref bl, .ref dq])), (fc, .inr (1, [.ref fc_ops, .ref fc_opd, .ref fc_fr, .ref fc_to, .ref fc_tg, .int (nI ((f_WE_writeGoingTo fq fo fa v).1)), .int (nI fhn)])), (fc_ops, .inl (cI, 1328, .inl ((f_WE_writeGoingTo fq fo fa v).2.1))), (fc_opd, .inl (cI, 1328, .inl ((f_WE_writeGoingTo fq fo fa v).2.2)))]) := by
  refine MG.of (cc := b_WE_writeGoingTo) (maxL := 2) (ret := none) (own := "FlowFlattener$Weaver") rfl (by decide) rfl (Nat.le_of_ble_eq_true rfl) ?_
  intro p e s m below meth c A ls S hr hlocks hA hP hK hD hS hE hl
  have hx := S.1
  have hb := S.2.1
  have hl : lv_has ls 2 [(0, .ref we), (1, .int v)] := hl
  refine lv_aload_n hx hb d_WE_writeGoingTo_0 rfl (lv_at hl 0 rfl) ?_
  refine lv_iconst (v := 0) hx hb d_WE_writeGoingTo_1 (by decide) ?_
  refine lv_iload_n hx hb d_WE_writeGoingTo_2 rfl (lv_at hl 1 rfl) ?_
  refine k_gov (ws' := [(we, .inr (5, [.ref fc, .ref bl, .ref dq])), (fc, .inr (1, [.ref fc_ops, .ref fc_opd, .ref fc_fr, .ref fc_to, .ref fc_tg, .int (nI (fq + 1)), .int (nI fhn)])), (fc_ops, .inl (cI, 1328, .inl (upd fo fq 0))), (fc_opd, .inl (cI, 1328, .inl (upd fa fq v)))]) (wr := []) (k_runV (q0 := 0) (As := [.int 0, .int v]) (rest := []) (n := 2) S (c_WE_write2 l D cI cZ we bl dq fc fc_ops fc_opd fc_fr fc_to fc_tg fq fhn fo fa 0 v (by omega)) E0_b E0_t ql_WE_89 qi_WE_write2 qs_WE_write2 qn_WE qc_WE_write2 (by decide +kernel) rfl ⟨rfl, rfl⟩ ⟨Nat.le_of_ble_eq_true rfl, Nat.le_of_ble_eq_true rfl⟩ hK hP hD [0, 1, 2, 3] rfl (by decide) rfl rfl hl.1 rfl (Nat.le_of_ble_eq_true rfl) d_WE_writeGoingTo_3 ⟨Nat.zero_le _, Nat.zero_le _⟩) hP hD hS hA [0, 1, 2, 3] [] [0, 1, 2, 3] rfl rfl (by decide) (by decide) rfl (by decide) (fun H locs hP hD hS => ?_)
  refine lv_aload_n hx hb d_WE_writeGoingTo_6 rfl (lv_at hl 0 rfl) ?_
  refine lv_iconst (v := 2) hx hb d_WE_writeGoingTo_7 (by decide) ?_
  refine lv_iconst (v := 4) hx hb d_WE_writeGoingTo_8 (by decide) ?_
  refine k_gov (ws' := [(we, .inr (5, [.ref fc, .ref bl, .ref dq])), (fc, .inr (1, [.ref fc_ops, .ref fc_opd, .ref fc_fr, .ref fc_to, .ref fc_tg, .int (nI ((fq + 1) + 1)), .int (nI fhn)])), (fc_ops, .inl (cI, 1328, .inl (upd (upd fo fq 0) (fq + 1) 2))), (fc_opd, .inl (cI, 1328, .inl (upd (upd fa fq v) (fq + 1) 4)))]) (wr := []) (k_runV (q0 := 0) (As := [.int 2, .int 4]) (rest := []) (n := 2) S (c_WE_write2 l D cI cZ we bl dq fc fc_ops fc_opd fc_fr fc_to fc_tg (fq + 1) fhn (upd fo fq 0) (upd fa fq v) 2 4 (by omega)) E0_b E0_t ql_WE_89 qi_WE_write2 qs_WE_write2 qn_WE qc_WE_write2 (by decide +kernel) rfl ⟨rfl, rfl⟩ ⟨Nat.le_of_ble_eq_true rfl, Nat.le_of_ble_eq_true rfl⟩ hK hP hD [0, 1, 2, 3] rfl (by decide) rfl rfl hl.1 rfl (Nat.le_of_ble_eq_true rfl) d_WE_writeGoingTo_9 ⟨Nat.zero_le _, Nat.zero_le _⟩) hP hD hS hA [0, 1, 2, 3] [] [0, 1, 2, 3] rfl rfl (by decide) (by decide) rfl (by decide) (fun H locs hP hD hS => ?_)
  refine lv_aload_n hx hb d_WE_writeGoingTo_12 rfl (lv_at hl 0 rfl) ?_
  refine lv_bipush (v := 13) hx hb d_WE_writeGoingTo_13 (by decide) ?_
  refine lv_iconst (v := 2) hx hb d_WE_writeGoingTo_15 (by decide) ?_
  refine k_gov (ws' := [(we, .inr (5, [.ref fc, .ref bl, .ref dq])), (fc, .inr (1, [.ref fc_ops, .ref fc_opd, .ref fc_fr, .ref fc_to, .ref fc_tg, .int (nI (((fq + 1) + 1) + 1)), .int (nI fhn)])), (fc_ops, .inl (cI, 1328, .inl (upd (upd (upd fo fq 0) (fq + 1) 2) ((fq + 1) + 1) 13))), (fc_opd, .inl (cI, 1328, .inl (upd (upd (upd fa fq v) (fq + 1) 4) ((fq + 1) + 1) 2)))]) (wr := []) (k_runV (q0 := 0) (As := [.int 13, .int 2]) (rest := []) (n := 2) S (c_WE_write2 l D cI cZ we bl dq fc fc_ops fc_opd fc_fr fc_to fc_tg ((fq + 1) + 1) fhn (upd (upd fo fq 0) (fq + 1) 2) (upd (upd fa fq v) (fq + 1) 4) 13 2 (by omega)) E0_b E0_t ql_WE_89 qi_WE_write2 qs_WE_write2 qn_WE qc_WE_write2 (by decide +kernel) rfl ⟨rfl, rfl⟩ ⟨Nat.le_of_ble_eq_true rfl, Nat.le_of_ble_eq_true rfl⟩ hK hP hD [0, 1, 2, 3] rfl (by decide) rfl rfl hl.1 rfl (Nat.le_of_ble_eq_true rfl) d_WE_writeGoingTo_16 ⟨Nat.zero_le _, Nat.zero_le _⟩) hP hD hS hA [0, 1, 2, 3] [] [0, 1, 2, 3] rfl rfl (by decide) (by decide) rfl (by decide) (fun H locs hP hD hS => ?_)
  exact k_vret hx hb hr hlocks hK hP hD hS (by rw [f_WE_writeGoingTo]) d_WE_writeGoingTo_19

theorem d_WE_writeLoop_0 : decode b_WE_writeLoop 0 = .ok (.aload_n 0, 1) := by decide +kernel
theorem d_WE_writeLoop_1 : decode b_WE_writeLoop 1 = .ok (.iconst 0, 1) := by decide +kernel
theorem d_WE_writeLoop_2 : decode b_WE_writeLoop 2 = .ok (.aload_n 0, 1) := by decide +kernel
theorem d_WE_writeLoop_3 : decode b_WE_writeLoop 3 = .ok (.getfield 23, 3) := by decide +kernel
theorem d_WE_writeLoop_6 : decode b_WE_writeLoop 6 = .ok (.getfield 86, 3) := by decide +kernel
theorem d_WE_writeLoop_9 : decode b_WE_writeLoop 9 = .ok (.iconst 0, 1) := by decide +kernel
theorem d_WE_writeLoop_10 : decode b_WE_writeLoop 10 = .ok (.iaload, 1) := by decide +kernel
theorem d_WE_writeLoop_11 : decode b_WE_writeLoop 11 = .ok (.invokevirtual 89, 3) := by decide +kernel
theorem d_WE_writeLoop_14 : decode b_WE_writeLoop 14 = .ok (.aload_n 0, 1) := by decide +kernel
theorem d_WE_writeLoop_15 : decode b_WE_writeLoop 15 = .ok (.iconst 2, 1) := by decide +kernel
theorem d_WE_writeLoop_16 : decode b_WE_writeLoop 16 = .ok (.iconst 4, 1) := by decide +kernel
theorem d_WE_writeLoop_17 : decode b_WE_writeLoop 17 = .ok (.invokevirtual 89, 3) := by decide +kernel
theorem d_WE_writeLoop_20 : decode b_WE_writeLoop 20 = .ok (.aload_n 0, 1) := by decide +kernel
theorem d_WE_writeLoop_21 : decode b_WE_writeLoop 21 = .ok (.iconst 1, 1) := by decide +kernel
theorem d_WE_writeLoop_22 : decode b_WE_writeLoop 22 = .ok (.iconst 4, 1) := by decide +kernel
theorem d_WE_writeLoop_23 : decode b_WE_writeLoop 23 = .ok (.invokevirtual 89, 3) := by decide +kernel
theorem d_WE_writeLoop_26 : decode b_WE_writeLoop 26 = .ok (.aload_n 0, 1) := by decide +kernel
theorem d_WE_writeLoop_27 : decode b_WE_writeLoop 27 = .ok (.bipush 18, 2) := by decide +kernel
theorem d_WE_writeLoop_29 : decode b_WE_writeLoop 29 = .ok (.invokevirtual 92, 3) := by decide +kernel
theorem d_WE_writeLoop_32 : decode b_WE_writeLoop 32 = .ok (.return_, 1) := by decide +kernel
def f_WE_writeLoop (fq : Nat) (fo : Nat → Int32) (fa : Nat → Int32) (st : Nat → Int32) : Nat × (Nat → Int32) × (Nat → Int32) := ((((fq + 1) + 1) + 1) + 1, upd (upd (upd (upd fo fq 0) (fq + 1) 2) ((fq + 1) + 1) 1) (((fq + 1) + 1) + 1) 18, upd (upd (upd (upd fa fq (st 0)) (fq + 1) 4) ((fq + 1) + 1) 4) (((fq + 1) + 1) + 1) 0)
set_option maxHeartbeats 1000000 in
set_option maxRecDepth 100000 in
theorem c_WE_writeLoop (l : Launch) (D : va_G) (cI cZ : ClassId) (we bl dq : Nat) (fc fc_ops fc_opd fc_fr fc_to fc_tg fq fhn : Nat) (fo fa : Nat → Int32) (bl_le bl_he bl_st bl_fi bl_be bl_by bl_sa bl_mk bc : Nat) (st : Nat → Int32) (hfq : fq + 4 ≤ 1328) : MG l y_WE_writeLoop w_WE_writeLoop (rmK 2 44) D classes (tyz cI cZ) E0 [.ref we] [(we, .inr (5, [.ref fc, .ref bl, .ref dq])), (fc, .inr (1, [.ref fc_ops, .ref fc_opd, .ref fc_fr, .ref fc_to, .ref fc_tg, .int (nI fq), .int (nI fhn)])), (fc_ops, .inl (cI, 1328, .inl fo)), (fc_opd, .inl (cI, 1328, .inl fa)), (bl, .inr (4, [.ref bl_le, .ref bl_he, .ref bl_st, .ref bl_fi, .ref bl_be, .ref bl_by, .ref bl_sa, .ref bl_mk, .int (nI bc)])), (bl_st, .inl (cI, 32, .inl st))] (RV D classes (tyz cI cZ) [(we, .inr (5, [.ref fc, .ref bl, .ref dq])), (fc, .inr (1, [.ref fc_ops, .ref fc_opd, .ref fc_fr, .ref fc_to, .ref fc_tg, .int (nI ((f_WE_writeLoop fq fo fa st).1)), .int (nI fhn)])), (fc_ops, .inl (cI, 1328, .inl ((f_WE_writeLoop fq fo fa st).2.1))), (fc_opd, .inl (cI, 1328, .inl ((f_WE_writeLoop fq fo fa st).2.2))), (bl, .inr (4, [.ref bl_le, .ref bl_he, .ref bl_st, .ref bl_fi, .ref bl_be, .ref bl_by, .ref bl_sa, .ref bl_mk, .int (nI bc)])), (bl_st, .inl (cI, 32, .inl st))]) := by
  refine MG.of (cc := b_WE_writeLoop) (maxL := 1) (ret := none) (own := "FlowFlattener$Weaver") rfl (by decide) rfl (Nat.le_of_ble_eq_true rfl) ?_
  intro p e s m below meth c A ls S hr hlocks hA hP hK hD hS hE hl
  have hx := S.1
  have hb := S.2.1
  have hl : lv_has ls 1 [(0, .ref we)] := hl
  refine lv_aload_n hx hb d_WE_writeLoop_0 rfl (lv_at hl 0 rfl) ?_
  refine lv_iconst (v := 0) hx hb d_WE_writeLoop_1 (by decide) ?_
  refine lv_aload_n hx hb d_WE_writeLoop_2 rfl (lv_at hl 0 rfl) ?_
  refine k_get (v := .ref bl) S in_WE hK hP 0 rfl rfl 1 (by decide) ql_WE_23 rfl d_WE_writeLoop_3 ?_
  refine k_get (v := .ref bl_st) S in_BL hK hP 4 rfl rfl 2 (by decide) ql_WE_86 rfl d_WE_writeLoop_6 ?_
  refine lv_iconst (v := 0) hx hb d_WE_writeLoop_9 (by decide) ?_
  refine k_ld (k := 0) hx hb hK hP 5 0 rfl rfl (by decide) (by omega) (by decide) d_WE_writeLoop_10 ?_
  refine k_gov (ws' := [(we, .inr (5, [.ref fc, .ref bl, .ref dq])), (fc, .inr (1, [.ref fc_ops, .ref fc_opd, .ref fc_fr, .ref fc_to, .ref fc_tg, .int (nI (fq + 1)), .int (nI fhn)])), (fc_ops, .inl (cI, 1328, .inl (upd fo fq 0))), (fc_opd, .inl (cI, 1328, .inl (upd fa fq (st 0)))), (bl, .inr (4, [.ref bl_le, .ref bl_he, .ref bl_st, .ref bl_fi, .ref bl_be, .ref bl_by, .ref bl_sa, .ref bl_mk, .int (nI bc)])), (bl_st, .inl (cI, 32, .inl st))]) (wr := [(bl, .inr (4, [.ref bl_le, .ref bl_he, .ref bl_st, .ref bl_fi, .ref bl_be, .ref bl_by, .ref bl_sa, .ref bl_mk, .int (nI bc)])), (bl_st, .inl (cI, 32, .inl st))]) (k_runV (q0 := 0) (As := [.int 0, .int (st 0)]) (rest := []) (n := 2) S (c_WE_write2 l D cI cZ we bl dq fc fc_ops fc_opd fc_fr fc_to fc_tg fq fhn fo fa 0 (st 0) (by omega)) E0_b E0_t ql_WE_89 qi_WE_write2 qs_WE_write2 qn_WE qc_WE_write2 (by decide +kernel) rfl ⟨rfl, rfl⟩ ⟨Nat.le_of_ble_eq_true rfl, Nat.le_of_ble_eq_true rfl⟩ hK hP hD [0, 1, 2, 3] rfl (by decide) rfl rfl hl.1 rfl (Nat.le_of_ble_eq_true rfl) d_WE_writeLoop_11 ⟨Nat.zero_le _, Nat.zero_le _⟩) hP hD hS hA [0, 1, 2, 3] [4, 5] [2, 3, 4, 5, 0, 1] rfl rfl (by decide) (by decide) rfl (by decide) (fun H locs hP hD hS => ?_)
  refine lv_aload_n hx hb d_WE_writeLoop_14 rfl (lv_at hl 0 rfl) ?_
  refine lv_iconst (v := 2) hx hb d_WE_writeLoop_15 (by decide) ?_
  refine lv_iconst (v := 4) hx hb d_WE_writeLoop_16 (by decide) ?_
  refine k_gov (ws' := [(we, .inr (5, [.ref fc, .ref bl, .ref dq])), (fc, .inr (1, [.ref fc_ops, .ref fc_opd, .ref fc_fr, .ref fc_to, .ref fc_tg, .int (nI ((fq + 1) + 1)), .int (nI fhn)])), (fc_ops, .inl (cI, 1328, .inl (upd (upd fo fq 0) (fq + 1) 2))), (fc_opd, .inl (cI, 1328, .inl (upd (upd fa fq (st 0)) (fq + 1) 4))), (bl, .inr (4, [.ref bl_le, .ref bl_he, .ref bl_st, .ref bl_fi, .ref bl_be, .ref bl_by, .ref bl_sa, .ref bl_mk, .int (nI bc)])), (bl_st, .inl (cI, 32, .inl st))]) (wr := [(bl, .inr (4, [.ref bl_le, .ref bl_he, .ref bl_st, .ref bl_fi, .ref bl_be, .ref bl_by, .ref bl_sa, .ref bl_mk, .int (nI bc)])), (bl_st, .inl (cI, 32, .inl st))]) (k_runV (q0 := 0) (As := [.int 2, .int 4]) (rest := []) (n := 2) S (c_WE_write2 l D cI cZ we bl dq fc fc_ops fc_opd fc_fr fc_to fc_tg (fq + 1) fhn (upd fo fq 0) (upd fa fq (st 0)) 2 4 (by omega)) E0_b E0_t ql_WE_89 qi_WE_write2 qs_WE_write2 qn_WE qc_WE_write2 (by decide +kernel) rfl ⟨rfl, rfl⟩ ⟨Nat.le_of_ble_eq_true rfl, Nat.le_of_ble_eq_true rfl⟩ hK hP hD [0, 1, 2, 3] rfl (by decide) rfl rfl hl.1 rfl (Nat.le_of_ble_eq_true rfl) d_WE_writeLoop_17 ⟨Nat.zero_le _, Nat.zero_le _⟩) hP hD hS hA [0, 1, 2, 3] [4, 5] [2, 3, 4, 5, 0, 1] rfl rfl (by decide) (by decide) rfl (by decide) (fun H locs hP hD hS => ?_)
  refine lv_aload_n hx hb d_WE_writeLoop_20 rfl (lv_at hl 0 rfl) ?_
  refine lv_iconst (v := 1) hx hb d_WE_writeLoop_21 (by decide) ?_
  refine lv_iconst (v := 4) hx hb d_WE_writeLoop_22 (by decide) ?_
  refine k_gov (ws' := [(we, .inr (5, [.ref fc, .ref bl, .ref dq])), (fc, .inr (1, [.ref fc_ops, .ref fc_opd, .ref fc_fr, .ref fc_to, .ref fc_tg, .int (nI (((fq + 1) + 1) + 1)), .int (nI fhn)])), (fc_ops, .inl (cI, 1328, .inl (upd (upd (upd fo fq 0) (fq + 1) 2) ((fq + 1) + 1) 1))), (fc_opd, .inl (cI, 1328, .inl (upd (upd (upd fa fq (st 0)) (fq + 1) 4) ((fq + 1) + 1) 4))), (bl, .inr (4, [.ref bl_le, .ref bl_he, .ref bl_st, .ref bl_fi, .ref bl_be, .ref bl_by, .ref bl_sa, .ref bl_mk, .int (nI bc)])), (bl_st, .inl (cI, 32, .inl st))]) (wr := [(bl, .inr (4, [.ref bl_le, .ref bl_he, .ref bl_st, .ref bl_fi, .ref bl_be, .ref bl_by, .ref bl_sa, .ref bl_mk, .int (nI bc)])), (bl_st, .inl (cI, 32, .inl st))]) (k_runV (q0 := 0) (As := [.int 1, .int 4]) (rest := []) (n := 2) S (c_WE_write2 l D cI cZ we bl dq fc fc_ops fc_opd fc_fr fc_to fc_tg ((fq + 1) + 1) fhn (upd (upd fo fq 0) (fq + 1) 2) (upd (upd fa fq (st 0)) (fq + 1) 4) 1 4 (by omega)) E0_b E0_t ql_WE_89 qi_WE_write2 qs_WE_write2 qn_WE qc_WE_write2 (by decide +kernel) rfl ⟨rfl, rfl⟩ ⟨Nat.le_of_ble_eq_true rfl, Nat.le_of_ble_eq_true rfl⟩ hK hP hD [0, 1, 2, 3] rfl (by decide) rfl rfl hl.1 rfl (Nat.le_of_ble_eq_true rfl) d_WE_writeLoop_23 ⟨Nat.zero_le _, Nat.zero_le _⟩) hP hD hS hA [0, 1, 2, 3] [4, 5] [2, 3, 4, 5, 0, 1] rfl rfl (by decide) (by decide) rfl (by decide) (fun H locs hP hD hS => ?_)
  refine lv_aload_n hx hb d_WE_writeLoop_26 rfl (lv_at hl 0 rfl) ?_
  refine lv_bipush (v := 18) hx hb d_WE_writeLoop_27 (by decide) ?_
  refine k_gov (ws' := [(we, .inr (5, [.ref fc, .ref bl, .ref dq])), (fc, .inr (1, [.ref fc_ops, .ref fc_opd, .ref fc_fr, .ref fc_to, .ref fc_tg, .int (nI ((((fq + 1) + 1) + 1) + 1)), .int (nI fhn)])), (fc_ops, .inl (cI, 1328, .inl (upd (upd (upd (upd fo fq 0) (fq + 1) 2) ((fq + 1) + 1) 1) (((fq + 1) + 1) + 1) 18))), (fc_opd, .inl (cI, 1328, .inl (upd (upd (upd (upd fa fq (st 0)) (fq + 1) 4) ((fq + 1) + 1) 4) (((fq + 1) + 1) + 1) 0))), (bl, .inr (4, [.ref bl_le, .ref bl_he, .ref bl_st, .ref bl_fi, .ref bl_be, .ref bl_by, .ref bl_sa, .ref bl_mk, .int (nI bc)])), (bl_st, .inl (cI, 32, .inl st))]) (wr := [(bl, .inr (4, [.ref bl_le, .ref bl_he, .ref bl_st, .ref bl_fi, .ref bl_be, .ref bl_by, .ref bl_sa, .ref bl_mk, .int (nI bc)])), (bl_st, .inl (cI, 32, .inl st))]) (k_runV (q0 := 0) (As := [.int 18]) (rest := []) (n := 1) S (c_WE_write1 l D cI cZ we bl dq fc fc_ops fc_opd fc_fr fc_to fc_tg (((fq + 1) + 1) + 1) fhn (upd (upd (upd fo fq 0) (fq + 1) 2) ((fq + 1) + 1) 1) (upd (upd (upd fa fq (st 0)) (fq + 1) 4) ((fq + 1) + 1) 4) 18 (by omega)) E0_b E0_t ql_WE_92 qi_WE_write1 qs_WE_write1 qn_WE qc_WE_write1 (by decide +kernel) rfl ⟨rfl, rfl⟩ ⟨Nat.le_of_ble_eq_true rfl, Nat.le_of_ble_eq_true rfl⟩ hK hP hD [0, 1, 2, 3] rfl (by decide) rfl rfl hl.1 rfl (Nat.le_of_ble_eq_true rfl) d_WE_writeLoop_29 ⟨Nat.zero_le _, Nat.zero_le _⟩) hP hD hS hA [0, 1, 2, 3] [4, 5] [2, 3, 4, 5, 0, 1] rfl rfl (by decide) (by decide) rfl (by decide) (fun H locs hP hD hS => ?_)
  exact k_vret hx hb hr hlocks hK hP hD hS (by rw [f_WE_writeLoop]) d_WE_writeLoop_32

theorem d_WE_leadSize_0 : decode b_WE_leadSize 0 = .ok (.aload_n 0, 1) := by decide +kernel
theorem d_WE_leadSize_1 : decode b_WE_leadSize 1 = .ok (.getfield 23, 3) := by decide +kernel
theorem d_WE_leadSize_4 : decode b_WE_leadSize 4 = .ok (.getfield 94, 3) := by decide +kernel
theorem d_WE_leadSize_7 : decode b_WE_leadSize 7 = .ok (.iload_n 1, 1) := by decide +kernel
theorem d_WE_leadSize_8 : decode b_WE_leadSize 8 = .ok (.iaload, 1) := by decide +kernel
theorem d_WE_leadSize_9 : decode b_WE_leadSize 9 = .ok (.iconst 5, 1) := by decide +kernel
theorem d_WE_leadSize_10 : decode b_WE_leadSize 10 = .ok (.iadd, 1) := by decide +kernel
theorem d_WE_leadSize_11 : decode b_WE_leadSize 11 = .ok (.ireturn, 1) := by decide +kernel
set_option maxHeartbeats 1000000 in
set_option maxRecDepth 100000 in
theorem c_WE_leadSize (l : Launch) (D : va_G) (cI cZ : ClassId) (we fc bl dq t : Nat) (bl_le bl_he bl_st bl_fi bl_be bl_by bl_sa bl_mk bc : Nat) (he : Nat → Int32) (ht : t < 32) (hhe : Nn he t 5) : MG l y_WE_leadSize w_WE_leadSize (rmK 0 0) D classes (tyz cI cZ) E0 [.ref we, .int (nI t)] [(we, .inr (5, [.ref fc, .ref bl, .ref dq])), (bl, .inr (4, [.ref bl_le, .ref bl_he, .ref bl_st, .ref bl_fi, .ref bl_be, .ref bl_by, .ref bl_sa, .ref bl_mk, .int (nI bc)])), (bl_he, .inl (cI, 32, .inl he))] (RI D classes (tyz cI cZ) (nI (tn (he t) + 5)) [(we, .inr (5, [.ref fc, .ref bl, .ref dq])), (bl, .inr (4, [.ref bl_le, .ref bl_he, .ref bl_st, .ref bl_fi, .ref bl_be, .ref bl_by, .ref bl_sa, .ref bl_mk, .int (nI bc)])), (bl_he, .inl (cI, 32, .inl he))]) := by
  refine MG.of (cc := b_WE_leadSize) (maxL := 2) (ret := (some .int)) (own := "FlowFlattener$Weaver") rfl (by decide) rfl (Nat.le_of_ble_eq_true rfl) ?_
  intro p e s m below meth c A ls S hr hlocks hA hP hK hD hS hE hl
  have hx := S.1
  have hb := S.2.1
  have hl : lv_has ls 2 [(0, .ref we), (1, .int (nI t))] := hl
  refine lv_aload_n hx hb d_WE_leadSize_0 rfl (lv_at hl 0 rfl) ?_
  refine k_get (v := .ref bl) S in_WE hK hP 0 rfl rfl 1 (by decide) ql_WE_23 rfl d_WE_leadSize_1 ?_
  refine k_get (v := .ref bl_he) S in_BL hK hP 1 rfl rfl 1 (by decide) ql_WE_94 rfl d_WE_leadSize_4 ?_
  refine lv_iload_n hx hb d_WE_leadSize_7 rfl (lv_at hl 1 rfl) ?_
  refine k_ld (k := t) hx hb hK hP 2 0 rfl rfl rfl (by omega) (by decide) d_WE_leadSize_8 ?_
  refine k_top (y := nI (tn (he t))) hhe.1 ?_
  refine lv_iconst (v := 5) hx hb d_WE_leadSize_9 (by decide) ?_
  refine lv_iadd hx hb d_WE_leadSize_10 ?_
  refine k_top (y := nI (tn (he t) + 5)) (nc_add rfl (by decide)) ?_
  exact k_iret hx hb hr hlocks hK hP hD hS rfl rfl d_WE_leadSize_11

theorem d_WE_writeTakingBack_0 : decode b_WE_writeTakingBack 0 = .ok (.iconst 0, 1) := by decide +kernel
theorem d_WE_writeTakingBack_1 : decode b_WE_writeTakingBack 1 = .ok (.istore_n 2, 1) := by decide +kernel
theorem d_WE_writeTakingBack_2 : decode b_WE_writeTakingBack 2 = .ok (.iload_n 2, 1) := by decide +kernel
theorem d_WE_writeTakingBack_3 : decode b_WE_writeTakingBack 3 = .ok (.aload_n 0, 1) := by decide +kernel
theorem d_WE_writeTakingBack_4 : decode b_WE_writeTakingBack 4 = .ok (.getfield 23, 3) := by decide +kernel
theorem d_WE_writeTakingBack_7 : decode b_WE_writeTakingBack 7 = .ok (.getfield 94, 3) := by decide +kernel
theorem d_WE_writeTakingBack_10 : decode b_WE_writeTakingBack 10 = .ok (.iload_n 1, 1) := by decide +kernel
theorem d_WE_writeTakingBack_11 : decode b_WE_writeTakingBack 11 = .ok (.iaload, 1) := by decide +kernel
theorem d_WE_writeTakingBack_12 : decode b_WE_writeTakingBack 12 = .ok (.if_icmp .ge 17, 3) := by decide +kernel
theorem d_WE_writeTakingBack_15 : decode b_WE_writeTakingBack 15 = .ok (.aload_n 0, 1) := by decide +kernel
theorem d_WE_writeTakingBack_16 : decode b_WE_writeTakingBack 16 = .ok (.iconst 1, 1) := by decide +kernel
theorem d_WE_writeTakingBack_17 : decode b_WE_writeTakingBack 17 = .ok (.iconst 5, 1) := by decide +kernel
theorem d_WE_writeTakingBack_18 : decode b_WE_writeTakingBack 18 = .ok (.iload_n 2, 1) := by decide +kernel
theorem d_WE_writeTakingBack_19 : decode b_WE_writeTakingBack 19 = .ok (.iadd, 1) := by decide +kernel
theorem d_WE_writeTakingBack_20 : decode b_WE_writeTakingBack 20 = .ok (.invokevirtual 89, 3) := by decide +kernel
theorem d_WE_writeTakingBack_23 : decode b_WE_writeTakingBack 23 = .ok (.iinc 2 1, 3) := by decide +kernel
theorem d_WE_writeTakingBack_26 : decode b_WE_writeTakingBack 26 = .ok (.goto (-24), 3) := by decide +kernel
theorem d_WE_writeTakingBack_29 : decode b_WE_writeTakingBack 29 = .ok (.return_, 1) := by decide +kernel
def lp_WE_tb  : Nat → Nat → (Nat → Int32) → (Nat → Int32) → Nat → (Nat → Int32) × (Nat → Int32) × Nat
  | 0, h, fo1, fa1, fq1 => (fo1, fa1, fq1)
  | kf + 1, h, fo1, fa1, fq1 => (lp_WE_tb kf (h + 1) (upd fo1 fq1 1) (upd fa1 fq1 (nI (5 + h))) (fq1 + 1))
def f_WE_writeTakingBack (fq : Nat) (fo : Nat → Int32) (fa : Nat → Int32) (b : Nat) (he : Nat → Int32) : Nat × (Nat → Int32) × (Nat → Int32) := (fq + tn (he b), (lp_WE_tb (tn (he b)) 0 fo fa fq).1, (lp_WE_tb (tn (he b)) 0 fo fa fq).2.1)
theorem wtb_cnt : ∀ (kf h : Nat) (fo fa : Nat → Int32) (fq : Nat), (lp_WE_tb kf h fo fa fq).2.2 = fq + kf := by
  intro kf
  induction kf with
  | zero => intro h fo fa fq; rfl
  | succ kf ih => intro h fo fa fq; rw [lp_WE_tb, ih]; omega
set_option maxHeartbeats 1000000 in
set_option maxRecDepth 100000 in
theorem c_WE_writeTakingBack (l : Launch) (D : va_G) (cI cZ : ClassId) (we bl dq : Nat) (fc fc_ops fc_opd fc_fr fc_to fc_tg fq fhn : Nat) (fo fa : Nat → Int32) (bl_le bl_he bl_st bl_fi bl_be bl_by bl_sa bl_mk bc : Nat) (b : Nat) (he : Nat → Int32) (hb : b < 32) (hhe : Nn he b 5) (hfq : fq + 4 ≤ 1328) : MG l y_WE_writeTakingBack w_WE_writeTakingBack (rmK 2 44) D classes (tyz cI cZ) E0 [.ref we, .int (nI b)] [(we, .inr (5, [.ref fc, .ref bl, .ref dq])), (fc, .inr (1, [.ref fc_ops, .ref fc_opd, .ref fc_fr, .ref fc_to, .ref fc_tg, .int (nI fq), .int (nI fhn)])), (fc_ops, .inl (cI, 1328, .inl fo)), (fc_opd, .inl (cI, 1328, .inl fa)), (bl, .inr (4, [.ref bl_le, .ref bl_he, .ref bl_st, .ref bl_fi, .ref bl_be, .ref bl_by, .ref bl_sa, .ref bl_mk, .int (nI bc)])), (bl_he, .inl (cI, 32, .inl he))] (RV D classes (tyz cI cZ) [(we, .inr (5, [.ref fc, .ref bl, .ref dq])), (fc, .inr (1, [.ref fc_ops, .ref fc_opd, .ref fc_fr, .ref fc_to, .ref fc_tg, .int (nI ((f_WE_writeTakingBack fq fo fa b he).1)), .int (nI fhn)])), (fc_ops, .inl (cI, 1328, .inl ((f_WE_writeTakingBack fq fo fa b he).2.1))), (fc_opd, .inl (cI, 1328, .inl ((f_WE_writeTakingBack fq fo fa b he).2.2))), (bl, .inr (4, [.ref bl_le, .ref bl_he, .ref bl_st, .ref bl_fi, .ref bl_be, .ref bl_by, .ref bl_sa, .ref bl_mk, .int (nI bc)])), (bl_he, .inl (cI, 32, .inl he))]) := by
  refine MG.of (cc := b_WE_writeTakingBack) (maxL := 3) (ret := none) (own := "FlowFlattener$Weaver") rfl (by decide) rfl (Nat.le_of_ble_eq_true rfl) ?_
  intro p e s m below meth c A ls S hr hlocks hA hP hK hD hS hE hl
  have hx := S.1
  have hb := S.2.1
  have hl : lv_has ls 3 [(0, .ref we), (1, .int (nI b))] := hl
  refine lv_iconst (v := nI 0) hx hb d_WE_writeTakingBack_0 (by decide) ?_
  refine lv_istore_n (lv' := [(2, .int (nI 0)), (0, .ref we), (1, .int (nI b))]) hx hb d_WE_writeTakingBack_1 rfl hl (by decide) rfl (fun ls hl => ?_)
  have LP2 : ∀ (kf : Nat) (h : Nat) (fo1 : Nat → Int32) (fa1 : Nat → Int32) (fq1 : Nat), (h + kf = tn (he b)) → (fq1 + kf ≤ 1328) → (tn (he b) < 5) → ∀ (ls : Array Slot) (H : Heap) (locs : List Loc), lv_has ls 3 [(0, .ref we), (1, .int (nI b)), (2, .int (nI h))] → va_P D classes [(we, .inr (5, [.ref fc, .ref bl, .ref dq])), (fc, .inr (1, [.ref fc_ops, .ref fc_opd, .ref fc_fr, .ref fc_to, .ref fc_tg, .int (nI fq1), .int (nI fhn)])), (fc_ops, .inl (cI, 1328, .inl fo1)), (fc_opd, .inl (cI, 1328, .inl fa1)), (bl, .inr (4, [.ref bl_le, .ref bl_he, .ref bl_st, .ref bl_fi, .ref bl_be, .ref bl_by, .ref bl_sa, .ref bl_mk, .int (nI bc)])), (bl_he, .inl (cI, 32, .inl he))] H → va_D A [(we, .inr (5, [.ref fc, .ref bl, .ref dq])), (fc, .inr (1, [.ref fc_ops, .ref fc_opd, .ref fc_fr, .ref fc_to, .ref fc_tg, .int (nI fq1), .int (nI fhn)])), (fc_ops, .inl (cI, 1328, .inl fo1)), (fc_opd, .inl (cI, 1328, .inl fa1)), (bl, .inr (4, [.ref bl_le, .ref bl_he, .ref bl_st, .ref bl_fi, .ref bl_be, .ref bl_by, .ref bl_sa, .ref bl_mk, .int (nI bc)])), (bl_he, .inl (cI, 32, .inl he))] → va_S A s.heap H locs → (∀ (ls : Array Slot) (H : Heap) (locs : List Loc), lv_has ls 3 [(0, .ref we), (1, .int (nI b))] → va_P D classes [(we, .inr (5, [.ref fc, .ref bl, .ref dq])), (fc, .inr (1, [.ref fc_ops, .ref fc_opd, .ref fc_fr, .ref fc_to, .ref fc_tg, .int (nI ((lp_WE_tb kf h fo1 fa1 fq1).2.2)), .int (nI fhn)])), (fc_ops, .inl (cI, 1328, .inl ((lp_WE_tb kf h fo1 fa1 fq1).1))), (fc_opd, .inl (cI, 1328, .inl ((lp_WE_tb kf h fo1 fa1 fq1).2.1))), (bl, .inr (4, [.ref bl_le, .ref bl_he, .ref bl_st, .ref bl_fi, .ref bl_be, .ref bl_by, .ref bl_sa, .ref bl_mk, .int (nI bc)])), (bl_he, .inl (cI, 32, .inl he))] H → va_D A [(we, .inr (5, [.ref fc, .ref bl, .ref dq])), (fc, .inr (1, [.ref fc_ops, .ref fc_opd, .ref fc_fr, .ref fc_to, .ref fc_tg, .int (nI ((lp_WE_tb kf h fo1 fa1 fq1).2.2)), .int (nI fhn)])), (fc_ops, .inl (cI, 1328, .inl ((lp_WE_tb kf h fo1 fa1 fq1).1))), (fc_opd, .inl (cI, 1328, .inl ((lp_WE_tb kf h fo1 fa1 fq1).2.1))), (bl, .inr (4, [.ref bl_le, .ref bl_he, .ref bl_st, .ref bl_fi, .ref bl_be, .ref bl_by, .ref bl_sa, .ref bl_mk, .int (nI bc)])), (bl_he, .inl (cI, 32, .inl he))] → va_S A s.heap H locs → W p l e (rmK 2 44) s m [.ref we, .int (nI b)].toArray below meth c H locs 0 0 (MQ below (RV D classes (tyz cI cZ) [(we, .inr (5, [.ref fc, .ref bl, .ref dq])), (fc, .inr (1, [.ref fc_ops, .ref fc_opd, .ref fc_fr, .ref fc_to, .ref fc_tg, .int (nI ((f_WE_writeTakingBack fq fo fa b he).1)), .int (nI fhn)])), (fc_ops, .inl (cI, 1328, .inl ((f_WE_writeTakingBack fq fo fa b he).2.1))), (fc_opd, .inl (cI, 1328, .inl ((f_WE_writeTakingBack fq fo fa b he).2.2))), (bl, .inr (4, [.ref bl_le, .ref bl_he, .ref bl_st, .ref bl_fi, .ref bl_be, .ref bl_by, .ref bl_sa, .ref bl_mk, .int (nI bc)])), (bl_he, .inl (cI, 32, .inl he))] A) [.ref we, .int (nI b)].toArray s 0 0 A) (F0 m 29 ls [])) → W p l e (rmK 2 44) s m [.ref we, .int (nI b)].toArray below meth c H locs 0 0 (MQ below (RV D classes (tyz cI cZ) [(we, .inr (5, [.ref fc, .ref bl, .ref dq])), (fc, .inr (1, [.ref fc_ops, .ref fc_opd, .ref fc_fr, .ref fc_to, .ref fc_tg, .int (nI ((f_WE_writeTakingBack fq fo fa b he).1)), .int (nI fhn)])), (fc_ops, .inl (cI, 1328, .inl ((f_WE_writeTakingBack fq fo fa b he).2.1))), (fc_opd, .inl (cI, 1328, .inl ((f_WE_writeTakingBack fq fo fa b he).2.2))), (bl, .inr (4, [.ref bl_le, .ref bl_he, .ref bl_st, .ref bl_fi, .ref bl_be, .ref bl_by, .ref bl_sa, .ref bl_mk, .int (nI bc)])), (bl_he, .inl (cI, 32, .inl he))] A) [.ref we, .int (nI b)].toArray s 0 0 A) (F0 m 2 ls []) := by
    intro kf
    induction kf with
    | zero =>
      intro h fo1 fa1 fq1 hk hfb h5 ls H locs hl hP hD hS kk
      refine lv_iload_n hx hb d_WE_writeTakingBack_2 rfl (lv_at hl 2 rfl) ?_
      refine lv_aload_n hx hb d_WE_writeTakingBack_3 rfl (lv_at hl 0 rfl) ?_
      refine k_get (v := .ref bl) S in_WE hK hP 0 rfl rfl 1 (by decide) ql_WE_23 rfl d_WE_writeTakingBack_4 ?_
      refine k_get (v := .ref bl_he) S in_BL hK hP 4 rfl rfl 1 (by decide) ql_WE_94 rfl d_WE_writeTakingBack_7 ?_
      refine lv_iload_n hx hb d_WE_writeTakingBack_10 rfl (lv_at hl 1 rfl) ?_
      refine k_ld (k := b) hx hb hK hP 5 0 rfl rfl rfl (by omega) (by decide) d_WE_writeTakingBack_11 ?_
      refine k_top (y := nI (tn (he b))) hhe.1 ?_
      refine n_icmp_ge (tgt := 29) (x := h) (y := tn (he b)) hx hb rfl rfl (by omega) (by omega) d_WE_writeTakingBack_12 (by decide) (fun h12_1 => ?_) (fun h12_1 => absurd h12_1 (by omega))
      have e9 : lp_WE_tb 0 h fo1 fa1 fq1 = (fo1, fa1, fq1) := by rw [lp_WE_tb]
      rw [e9] at kk
      exact kk _ _ _ (lv_sub hl [0, 1] rfl) hP hD hS
    | succ kf ih =>
      intro h fo1 fa1 fq1 hk hfb h5 ls H locs hl hP hD hS kk
      refine lv_iload_n hx hb d_WE_writeTakingBack_2 rfl (lv_at hl 2 rfl) ?_
      refine lv_aload_n hx hb d_WE_writeTakingBack_3 rfl (lv_at hl 0 rfl) ?_
      refine k_get (v := .ref bl) S in_WE hK hP 0 rfl rfl 1 (by decide) ql_WE_23 rfl d_WE_writeTakingBack_4 ?_
      refine k_get (v := .ref bl_he) S in_BL hK hP 4 rfl rfl 1 (by decide) ql_WE_94 rfl d_WE_writeTakingBack_7 ?_
      refine lv_iload_n hx hb d_WE_writeTakingBack_10 rfl (lv_at hl 1 rfl) ?_
      refine k_ld (k := b) hx hb hK hP 5 0 rfl rfl rfl (by omega) (by decide) d_WE_writeTakingBack_11 ?_
      refine k_top (y := nI (tn (he b))) hhe.1 ?_
      refine n_icmp_ge (tgt := 29) (x := h) (y := tn (he b)) hx hb rfl rfl (by omega) (by omega) d_WE_writeTakingBack_12 (by decide) (fun h12_2 => absurd h12_2 (by omega)) (fun h12_2 => ?_)
      refine lv_aload_n hx hb d_WE_writeTakingBack_15 rfl (lv_at hl 0 rfl) ?_
      refine lv_iconst (v := 1) hx hb d_WE_writeTakingBack_16 (by decide) ?_
      refine lv_iconst (v := 5) hx hb d_WE_writeTakingBack_17 (by decide) ?_
      refine lv_iload_n hx hb d_WE_writeTakingBack_18 rfl (lv_at hl 2 rfl) ?_
      refine lv_iadd hx hb d_WE_writeTakingBack_19 ?_
      refine k_top (y := nI (5 + h)) (nc_add (by decide) rfl) ?_
      refine k_gov (ws' := [(we, .inr (5, [.ref fc, .ref bl, .ref dq])), (fc, .inr (1, [.ref fc_ops, .ref fc_opd, .ref fc_fr, .ref fc_to, .ref fc_tg, .int (nI (fq1 + 1)), .int (nI fhn)])), (fc_ops, .inl (cI, 1328, .inl (upd fo1 fq1 1))), (fc_opd, .inl (cI, 1328, .inl (upd fa1 fq1 (nI (5 + h))))), (bl, .inr (4, [.ref bl_le, .ref bl_he, .ref bl_st, .ref bl_fi, .ref bl_be, .ref bl_by, .ref bl_sa, .ref bl_mk, .int (nI bc)])), (bl_he, .inl (cI, 32, .inl he))]) (wr := [(bl, .inr (4, [.ref bl_le, .ref bl_he, .ref bl_st, .ref bl_fi, .ref bl_be, .ref bl_by, .ref bl_sa, .ref bl_mk, .int (nI bc)])), (bl_he, .inl (cI, 32, .inl he))]) (k_runV (q0 := 0) (As := [.int 1, .int (nI (5 + h))]) (rest := []) (n := 2) S (c_WE_write2 l D cI cZ we bl dq fc fc_ops fc_opd fc_fr fc_to fc_tg fq1 fhn fo1 fa1 1 (nI (5 + h)) (by omega)) E0_b E0_t ql_WE_89 qi_WE_write2 qs_WE_write2 qn_WE qc_WE_write2 (by decide +kernel) rfl ⟨rfl, rfl⟩ ⟨Nat.le_of_ble_eq_true rfl, Nat.le_of_ble_eq_true rfl⟩ hK hP hD [0, 1, 2, 3] rfl (by decide) rfl rfl hl.1 rfl (Nat.le_of_ble_eq_true rfl) d_WE_writeTakingBack_20 ⟨Nat.zero_le _, Nat.zero_le _⟩) hP hD hS hA [0, 1, 2, 3] [4, 5] [2, 3, 4, 5, 0, 1] rfl rfl (by decide) (by decide) rfl (by decide) (fun H locs hP hD hS => ?_)
      refine lv_iinc (k := 2) (v := nI (h + 1)) (lv' := [(2, .int (nI (h + 1))), (0, .ref we), (1, .int (nI b))]) hx hb d_WE_writeTakingBack_23 hl rfl (nc_add rfl (by decide)) (by decide) rfl (fun ls hl => ?_)
      refine lv_goto (tgt := 2) hx hb d_WE_writeTakingBack_26 (by decide) ?_
      have e9 : lp_WE_tb (kf + 1) h fo1 fa1 fq1 = lp_WE_tb kf (h + 1) (upd fo1 fq1 1) (upd fa1 fq1 (nI (5 + h))) (fq1 + 1) := by rw [lp_WE_tb]
      rw [e9] at kk
      exact ih (h + 1) (upd fo1 fq1 1) (upd fa1 fq1 (nI (5 + h))) (fq1 + 1) (by omega) (by omega) h5 _ _ _ (lv_sub hl [1, 2, 0] rfl) hP hD hS kk
  refine LP2 (tn (he b)) 0 fo fa fq (by omega) (by have := hhe.2; omega) hhe.2 _ _ _ (lv_sub hl [1, 2, 0] rfl) hP hD hS (fun ls H locs hl hP hD hS => ?_)
  rw [wtb_cnt] at hP hD
  exact k_vret hx hb hr hlocks hK hP hD hS (by rw [f_WE_writeTakingBack]) d_WE_writeTakingBack_29

theorem d_WE_writeJunk_0 : decode b_WE_writeJunk 0 = .ok (.iconst 0, 1) := by decide +kernel
theorem d_WE_writeJunk_1 : decode b_WE_writeJunk 1 = .ok (.istore_n 3, 1) := by decide +kernel
theorem d_WE_writeJunk_2 : decode b_WE_writeJunk 2 = .ok (.iload_n 3, 1) := by decide +kernel
theorem d_WE_writeJunk_3 : decode b_WE_writeJunk 3 = .ok (.aload_n 0, 1) := by decide +kernel
theorem d_WE_writeJunk_4 : decode b_WE_writeJunk 4 = .ok (.getfield 23, 3) := by decide +kernel
theorem d_WE_writeJunk_7 : decode b_WE_writeJunk 7 = .ok (.getfield 94, 3) := by decide +kernel
theorem d_WE_writeJunk_10 : decode b_WE_writeJunk 10 = .ok (.iload_n 1, 1) := by decide +kernel
theorem d_WE_writeJunk_11 : decode b_WE_writeJunk 11 = .ok (.iaload, 1) := by decide +kernel
theorem d_WE_writeJunk_12 : decode b_WE_writeJunk 12 = .ok (.if_icmp .ge 15, 3) := by decide +kernel
theorem d_WE_writeJunk_15 : decode b_WE_writeJunk 15 = .ok (.aload_n 0, 1) := by decide +kernel
theorem d_WE_writeJunk_16 : decode b_WE_writeJunk 16 = .ok (.bipush 11, 2) := by decide +kernel
theorem d_WE_writeJunk_18 : decode b_WE_writeJunk 18 = .ok (.invokevirtual 92, 3) := by decide +kernel
theorem d_WE_writeJunk_21 : decode b_WE_writeJunk 21 = .ok (.iinc 3 1, 3) := by decide +kernel
theorem d_WE_writeJunk_24 : decode b_WE_writeJunk 24 = .ok (.goto (-22), 3) := by decide +kernel
theorem d_WE_writeJunk_27 : decode b_WE_writeJunk 27 = .ok (.aload_n 0, 1) := by decide +kernel
theorem d_WE_writeJunk_28 : decode b_WE_writeJunk 28 = .ok (.aload_n 0, 1) := by decide +kernel
theorem d_WE_writeJunk_29 : decode b_WE_writeJunk 29 = .ok (.getfield 23, 3) := by decide +kernel
theorem d_WE_writeJunk_32 : decode b_WE_writeJunk 32 = .ok (.getfield 86, 3) := by decide +kernel
theorem d_WE_writeJunk_35 : decode b_WE_writeJunk 35 = .ok (.iload_n 2, 1) := by decide +kernel
theorem d_WE_writeJunk_36 : decode b_WE_writeJunk 36 = .ok (.iaload, 1) := by decide +kernel
theorem d_WE_writeJunk_37 : decode b_WE_writeJunk 37 = .ok (.invokevirtual 116, 3) := by decide +kernel
theorem d_WE_writeJunk_40 : decode b_WE_writeJunk 40 = .ok (.return_, 1) := by decide +kernel
def lp_WE_ju  : Nat → Nat → (Nat → Int32) → (Nat → Int32) → Nat → (Nat → Int32) × (Nat → Int32) × Nat
  | 0, h, fo1, fa1, fq1 => (fo1, fa1, fq1)
  | kf + 1, h, fo1, fa1, fq1 => (lp_WE_ju kf (h + 1) (upd fo1 fq1 11) (upd fa1 fq1 0) (fq1 + 1))
def f_WE_writeJunk (fq : Nat) (fo : Nat → Int32) (fa : Nat → Int32) (b : Nat) (t : Nat) (he : Nat → Int32) (st : Nat → Int32) : Nat × (Nat → Int32) × (Nat → Int32) := ((f_WE_writeGoingTo (fq + tn (he b)) ((lp_WE_ju (tn (he b)) 0 fo fa fq).1) ((lp_WE_ju (tn (he b)) 0 fo fa fq).2.1) (st t)).1, (f_WE_writeGoingTo (fq + tn (he b)) ((lp_WE_ju (tn (he b)) 0 fo fa fq).1) ((lp_WE_ju (tn (he b)) 0 fo fa fq).2.1) (st t)).2.1, (f_WE_writeGoingTo (fq + tn (he b)) ((lp_WE_ju (tn (he b)) 0 fo fa fq).1) ((lp_WE_ju (tn (he b)) 0 fo fa fq).2.1) (st t)).2.2)
theorem wju_cnt : ∀ (kf h : Nat) (fo fa : Nat → Int32) (fq : Nat), (lp_WE_ju kf h fo fa fq).2.2 = fq + kf := by
  intro kf
  induction kf with
  | zero => intro h fo fa fq; rfl
  | succ kf ih => intro h fo fa fq; rw [lp_WE_ju, ih]; omega
set_option maxHeartbeats 1000000 in
set_option maxRecDepth 100000 in
theorem c_WE_writeJunk (l : Launch) (D : va_G) (cI cZ : ClassId) (we bl dq : Nat) (fc fc_ops fc_opd fc_fr fc_to fc_tg fq fhn : Nat) (fo fa : Nat → Int32) (bl_le bl_he bl_st bl_fi bl_be bl_by bl_sa bl_mk bc : Nat) (b t : Nat) (he st : Nat → Int32) (hb : b < 32) (ht : t < 32) (hhe : Nn he b 5) (hfq : fq + 7 ≤ 1328) : MG l y_WE_writeJunk w_WE_writeJunk (rmK 3 65) D classes (tyz cI cZ) E0 [.ref we, .int (nI b), .int (nI t)] [(we, .inr (5, [.ref fc, .ref bl, .ref dq])), (fc, .inr (1, [.ref fc_ops, .ref fc_opd, .ref fc_fr, .ref fc_to, .ref fc_tg, .int (nI fq), .int (nI fhn)])), (fc_ops, .inl (cI, 1328, .inl fo)), (fc_opd, .inl (cI, 1328, .inl fa)), (bl, .inr (4, [.ref bl_le, .ref bl_he, .ref bl_st, .ref bl_fi, .ref bl_be, .ref bl_by, .ref bl_sa, .ref bl_mk, .int (nI bc)])), (bl_he, .inl (cI, 32, .inl he)), (bl_st, .inl (cI, 32, .inl st))] (RV D classes (tyz cI cZ) [(we, .inr (5, [.ref fc, .ref bl, .ref dq])), (fc, .inr (1, [.ref fc_ops, .ref fc_opd, .ref fc_fr, .ref fc_to, .ref fc_tg, .int (nI ((f_WE_writeJunk fq fo fa b t he st).1)), .int (nI fhn)])), (fc_ops, .inl (cI, 1328, .inl ((f_WE_writeJunk fq fo fa b t he st).2.1))), (fc_opd, .inl (cI, 1328, .inl ((f_WE_writeJunk fq fo fa b t he st).2.2))), (bl, .inr (4, [.ref bl_le, .ref bl_he, .ref bl_st, .ref bl_fi, .ref bl_be, .ref bl_by, .ref bl_sa, .ref bl_mk, .int (nI bc)])), (bl_he, .inl (cI, 32, .inl he)), (bl_st, .inl (cI, 32, .inl st))]) := by
  refine MG.of (cc := b_WE_writeJunk) (maxL := 4) (ret := none) (own := "FlowFlattener$Weaver") rfl (by decide) rfl (Nat.le_of_ble_eq_true rfl) ?_
  intro p e s m below meth c A ls S hr hlocks hA hP hK hD hS hE hl
  have hx := S.1
  have hb := S.2.1
  have hl : lv_has ls 4 [(0, .ref we), (1, .int (nI b)), (2, .int (nI t))] := hl
  refine lv_iconst (v := nI 0) hx hb d_WE_writeJunk_0 (by decide) ?_
  refine lv_istore_n (lv' := [(3, .int (nI 0)), (0, .ref we), (1, .int (nI b)), (2, .int (nI t))]) hx hb d_WE_writeJunk_1 rfl hl (by decide) rfl (fun ls hl => ?_)
  have LP2 : ∀ (kf : Nat) (h : Nat) (fo1 : Nat → Int32) (fa1 : Nat → Int32) (fq1 : Nat), (h + kf = tn (he b)) → (fq1 + kf + 3 ≤ 1328) → (tn (he b) < 5) → ∀ (ls : Array Slot) (H : Heap) (locs : List Loc), lv_has ls 4 [(0, .ref we), (1, .int (nI b)), (2, .int (nI t)), (3, .int (nI h))] → va_P D classes [(we, .inr (5, [.ref fc, .ref bl, .ref dq])), (fc, .inr (1, [.ref fc_ops, .ref fc_opd, .ref fc_fr, .ref fc_to, .ref fc_tg, .int (nI fq1), .int (nI fhn)])), (fc_ops, .inl (cI, 1328, .inl fo1)), (fc_opd, .inl (cI, 1328, .inl fa1)), (bl, .inr (4, [.ref bl_le, .ref bl_he, .ref bl_st, .ref bl_fi, .ref bl_be, .ref bl_by, .ref bl_sa, .ref bl_mk, .int (nI bc)])), (bl_he, .inl (cI, 32, .inl he)), (bl_st, .inl (cI, 32, .inl st))] H → va_D A [(we, .inr (5, [.ref fc, .ref bl, .ref dq])), (fc, .inr (1, [.ref fc_ops, .ref fc_opd, .ref fc_fr, .ref fc_to, .ref fc_tg, .int (nI fq1), .int (nI fhn)])), (fc_ops, .inl (cI, 1328, .inl fo1)), (fc_opd, .inl (cI, 1328, .inl fa1)), (bl, .inr (4, [.ref bl_le, .ref bl_he, .ref bl_st, .ref bl_fi, .ref bl_be, .ref bl_by, .ref bl_sa, .ref bl_mk, .int (nI bc)])), (bl_he, .inl (cI, 32, .inl he)), (bl_st, .inl (cI, 32, .inl st))] → va_S A s.heap H locs → (∀ (ls : Array Slot) (H : Heap) (locs : List Loc), lv_has ls 4 [(0, .ref we), (1, .int (nI b)), (2, .int (nI t))] → va_P D classes [(we, .inr (5, [.ref fc, .ref bl, .ref dq])), (fc, .inr (1, [.ref fc_ops, .ref fc_opd, .ref fc_fr, .ref fc_to, .ref fc_tg, .int (nI ((lp_WE_ju kf h fo1 fa1 fq1).2.2)), .int (nI fhn)])), (fc_ops, .inl (cI, 1328, .inl ((lp_WE_ju kf h fo1 fa1 fq1).1))), (fc_opd, .inl (cI, 1328, .inl ((lp_WE_ju kf h fo1 fa1 fq1).2.1))), (bl, .inr (4, [.ref bl_le, .ref bl_he, .ref bl_st, .ref bl_fi, .ref bl_be, .ref bl_by, .ref bl_sa, .ref bl_mk, .int (nI bc)])), (bl_he, .inl (cI, 32, .inl he)), (bl_st, .inl (cI, 32, .inl st))] H → va_D A [(we, .inr (5, [.ref fc, .ref bl, .ref dq])), (fc, .inr (1, [.ref fc_ops, .ref fc_opd, .ref fc_fr, .ref fc_to, .ref fc_tg, .int (nI ((lp_WE_ju kf h fo1 fa1 fq1).2.2)), .int (nI fhn)])), (fc_ops, .inl (cI, 1328, .inl ((lp_WE_ju kf h fo1 fa1 fq1).1))), (fc_opd, .inl (cI, 1328, .inl ((lp_WE_ju kf h fo1 fa1 fq1).2.1))), (bl, .inr (4, [.ref bl_le, .ref bl_he, .ref bl_st, .ref bl_fi, .ref bl_be, .ref bl_by, .ref bl_sa, .ref bl_mk, .int (nI bc)])), (bl_he, .inl (cI, 32, .inl he)), (bl_st, .inl (cI, 32, .inl st))] → va_S A s.heap H locs → W p l e (rmK 3 65) s m [.ref we, .int (nI b), .int (nI t)].toArray below meth c H locs 0 0 (MQ below (RV D classes (tyz cI cZ) [(we, .inr (5, [.ref fc, .ref bl, .ref dq])), (fc, .inr (1, [.ref fc_ops, .ref fc_opd, .ref fc_fr, .ref fc_to, .ref fc_tg, .int (nI ((f_WE_writeJunk fq fo fa b t he st).1)), .int (nI fhn)])), (fc_ops, .inl (cI, 1328, .inl ((f_WE_writeJunk fq fo fa b t he st).2.1))), (fc_opd, .inl (cI, 1328, .inl ((f_WE_writeJunk fq fo fa b t he st).2.2))), (bl, .inr (4, [.ref bl_le, .ref bl_he, .ref bl_st, .ref bl_fi, .ref bl_be, .ref bl_by, .ref bl_sa, .ref bl_mk, .int (nI bc)])), (bl_he, .inl (cI, 32, .inl he)), (bl_st, .inl (cI, 32, .inl st))] A) [.ref we, .int (nI b), .int (nI t)].toArray s 0 0 A) (F0 m 27 ls [])) → W p l e (rmK 3 65) s m [.ref we, .int (nI b), .int (nI t)].toArray below meth c H locs 0 0 (MQ below (RV D classes (tyz cI cZ) [(we, .inr (5, [.ref fc, .ref bl, .ref dq])), (fc, .inr (1, [.ref fc_ops, .ref fc_opd, .ref fc_fr, .ref fc_to, .ref fc_tg, .int (nI ((f_WE_writeJunk fq fo fa b t he st).1)), .int (nI fhn)])), (fc_ops, .inl (cI, 1328, .inl ((f_WE_writeJunk fq fo fa b t he st).2.1))), (fc_opd, .inl (cI, 1328, .inl ((f_WE_writeJunk fq fo fa b t he st).2.2))), (bl, .inr (4, [.ref bl_le, .ref bl_he, .ref bl_st, .ref bl_fi, .ref bl_be, .ref bl_by, .ref bl_sa, .ref bl_mk, .int (nI bc)])), (bl_he, .inl (cI, 32, .inl he)), (bl_st, .inl (cI, 32, .inl st))] A) [.ref we, .int (nI b), .int (nI t)].toArray s 0 0 A) (F0 m 2 ls []) := by
    intro kf
    induction kf with
    | zero =>
      intro h fo1 fa1 fq1 hk hfb h5 ls H locs hl hP hD hS kk
      refine lv_iload_n hx hb d_WE_writeJunk_2 rfl (lv_at hl 3 rfl) ?_
      refine lv_aload_n hx hb d_WE_writeJunk_3 rfl (lv_at hl 0 rfl) ?_
      refine k_get (v := .ref bl) S in_WE hK hP 0 rfl rfl 1 (by decide) ql_WE_23 rfl d_WE_writeJunk_4 ?_
      refine k_get (v := .ref bl_he) S in_BL hK hP 4 rfl rfl 1 (by decide) ql_WE_94 rfl d_WE_writeJunk_7 ?_
      refine lv_iload_n hx hb d_WE_writeJunk_10 rfl (lv_at hl 1 rfl) ?_
      refine k_ld (k := b) hx hb hK hP 5 0 rfl rfl rfl (by omega) (by decide) d_WE_writeJunk_11 ?_
      refine k_top (y := nI (tn (he b))) hhe.1 ?_
      refine n_icmp_ge (tgt := 27) (x := h) (y := tn (he b)) hx hb rfl rfl (by omega) (by omega) d_WE_writeJunk_12 (by decide) (fun h12_1 => ?_) (fun h12_1 => absurd h12_1 (by omega))
      have e9 : lp_WE_ju 0 h fo1 fa1 fq1 = (fo1, fa1, fq1) := by rw [lp_WE_ju]
      rw [e9] at kk
      exact kk _ _ _ (lv_sub hl [0, 1, 2] rfl) hP hD hS
    | succ kf ih =>
      intro h fo1 fa1 fq1 hk hfb h5 ls H locs hl hP hD hS kk
      refine lv_iload_n hx hb d_WE_writeJunk_2 rfl (lv_at hl 3 rfl) ?_
      refine lv_aload_n hx hb d_WE_writeJunk_3 rfl (lv_at hl 0 rfl) ?_
      refine k_get (v := .ref bl) S in_WE hK hP 0 rfl rfl 1 (by decide) ql_WE_23 rfl d_WE_writeJunk_4 ?_
      refine k_get (v := .ref bl_he) S in_BL hK hP 4 rfl rfl 1 (by decide) ql_WE_94 rfl d_WE_writeJunk_7 ?_
      refine lv_iload_n hx hb d_WE_writeJunk_10 rfl (lv_at hl 1 rfl) ?_
      refine k_ld (k := b) hx hb hK hP 5 0 rfl rfl rfl (by omega) (by decide) d_WE_writeJunk_11 ?_
      refine k_top (y := nI (tn (he b))) hhe.1 ?_
      refine n_icmp_ge (tgt := 27) (x := h) (y := tn (he b)) hx hb rfl rfl (by omega) (by omega) d_WE_writeJunk_12 (by decide) (fun h12_2 => absurd h12_2 (by omega)) (fun h12_2 => ?_)
      refine lv_aload_n hx hb d_WE_writeJunk_15 rfl (lv_at hl 0 rfl) ?_
      refine lv_bipush (v := 11) hx hb d_WE_writeJunk_16 (by decide) ?_
      refine k_gov (ws' := [(we, .inr (5, [.ref fc, .ref bl, .ref dq])), (fc, .inr (1, [.ref fc_ops, .ref fc_opd, .ref fc_fr, .ref fc_to, .ref fc_tg, .int (nI (fq1 + 1)), .int (nI fhn)])), (fc_ops, .inl (cI, 1328, .inl (upd fo1 fq1 11))), (fc_opd, .inl (cI, 1328, .inl (upd fa1 fq1 0))), (bl, .inr (4, [.ref bl_le, .ref bl_he, .ref bl_st, .ref bl_fi, .ref bl_be, .ref bl_by, .ref bl_sa, .ref bl_mk, .int (nI bc)])), (bl_he, .inl (cI, 32, .inl he)), (bl_st, .inl (cI, 32, .inl st))]) (wr := [(bl, .inr (4, [.ref bl_le, .ref bl_he, .ref bl_st, .ref bl_fi, .ref bl_be, .ref bl_by, .ref bl_sa, .ref bl_mk, .int (nI bc)])), (bl_he, .inl (cI, 32, .inl he)), (bl_st, .inl (cI, 32, .inl st))]) (k_runV (q0 := 0) (As := [.int 11]) (rest := []) (n := 1) S (c_WE_write1 l D cI cZ we bl dq fc fc_ops fc_opd fc_fr fc_to fc_tg fq1 fhn fo1 fa1 11 (by omega)) E0_b E0_t ql_WE_92 qi_WE_write1 qs_WE_write1 qn_WE qc_WE_write1 (by decide +kernel) rfl ⟨rfl, rfl⟩ ⟨Nat.le_of_ble_eq_true rfl, Nat.le_of_ble_eq_true rfl⟩ hK hP hD [0, 1, 2, 3] rfl (by decide) rfl rfl hl.1 rfl (Nat.le_of_ble_eq_true rfl) d_WE_writeJunk_18 ⟨Nat.zero_le _, Nat.zero_le _⟩) hP hD hS hA [0, 1, 2, 3] [4, 5, 6] [3, 4, 5, 6, 0, 1, 2] rfl rfl (by decide) (by decide) rfl (by decide) (fun H locs hP hD hS => ?_)
      refine lv_iinc (k := 3) (v := nI (h + 1)) (lv' := [(3, .int (nI (h + 1))), (0, .ref we), (1, .int (nI b)), (2, .int (nI t))]) hx hb d_WE_writeJunk_21 hl rfl (nc_add rfl (by decide)) (by decide) rfl (fun ls hl => ?_)
      refine lv_goto (tgt := 2) hx hb d_WE_writeJunk_24 (by decide) ?_
      have e9 : lp_WE_ju (kf + 1) h fo1 fa1 fq1 = lp_WE_ju kf (h + 1) (upd fo1 fq1 11) (upd fa1 fq1 0) (fq1 + 1) := by rw [lp_WE_ju]
      rw [e9] at kk
      exact ih (h + 1) (upd fo1 fq1 11) (upd fa1 fq1 0) (fq1 + 1) (by omega) (by omega) h5 _ _ _ (lv_sub hl [1, 2, 3, 0] rfl) hP hD hS kk
  refine LP2 (tn (he b)) 0 fo fa fq (by omega) (by have := hhe.2; omega) hhe.2 _ _ _ (lv_sub hl [1, 2, 3, 0] rfl) hP hD hS (fun ls H locs hl hP hD hS => ?_)
  rw [wju_cnt] at hP hD
  have h25 := hhe.2
  refine lv_aload_n hx hb d_WE_writeJunk_27 rfl (lv_at hl 0 rfl) ?_
  refine lv_aload_n hx hb d_WE_writeJunk_28 rfl (lv_at hl 0 rfl) ?_
  refine k_get (v := .ref bl) S in_WE hK hP 0 rfl rfl 1 (by decide) ql_WE_23 rfl d_WE_writeJunk_29 ?_
  refine k_get (v := .ref bl_st) S in_BL hK hP 4 rfl rfl 2 (by decide) ql_WE_86 rfl d_WE_writeJunk_32 ?_
  refine lv_iload_n hx hb d_WE_writeJunk_35 rfl (lv_at hl 2 rfl) ?_
  refine k_ld (k := t) hx hb hK hP 6 0 rfl rfl rfl (by omega) (by decide) d_WE_writeJunk_36 ?_
  refine k_gov (ws' := [(we, .inr (5, [.ref fc, .ref bl, .ref dq])), (fc, .inr (1, [.ref fc_ops, .ref fc_opd, .ref fc_fr, .ref fc_to, .ref fc_tg, .int (nI ((f_WE_writeGoingTo (fq + tn (he b)) ((lp_WE_ju (tn (he b)) 0 fo fa fq).1) ((lp_WE_ju (tn (he b)) 0 fo fa fq).2.1) (st t)).1)), .int (nI fhn)])), (fc_ops, .inl (cI, 1328, .inl ((f_WE_writeGoingTo (fq + tn (he b)) ((lp_WE_ju (tn (he b)) 0 fo fa fq).1) ((lp_WE_ju (tn (he b)) 0 fo fa fq).2.1) (st t)).2.1))), (fc_opd, .inl (cI, 1328, .inl ((f_WE_writeGoingTo (fq + tn (he b)) ((lp_WE_ju (tn (he b)) 0 fo fa fq).1) ((lp_WE_ju (tn (he b)) 0 fo fa fq).2.1) (st t)).2.2))), (bl, .inr (4, [.ref bl_le, .ref bl_he, .ref bl_st, .ref bl_fi, .ref bl_be, .ref bl_by, .ref bl_sa, .ref bl_mk, .int (nI bc)])), (bl_he, .inl (cI, 32, .inl he)), (bl_st, .inl (cI, 32, .inl st))]) (wr := [(bl, .inr (4, [.ref bl_le, .ref bl_he, .ref bl_st, .ref bl_fi, .ref bl_be, .ref bl_by, .ref bl_sa, .ref bl_mk, .int (nI bc)])), (bl_he, .inl (cI, 32, .inl he)), (bl_st, .inl (cI, 32, .inl st))]) (k_runV (q0 := 0) (As := [.int (st t)]) (rest := []) (n := 1) S (c_WE_writeGoingTo l D cI cZ we bl dq fc fc_ops fc_opd fc_fr fc_to fc_tg (fq + tn (he b)) fhn ((lp_WE_ju (tn (he b)) 0 fo fa fq).1) ((lp_WE_ju (tn (he b)) 0 fo fa fq).2.1) (st t) (by omega)) E0_b E0_t ql_WE_116 qi_WE_writeGoingTo qs_WE_writeGoingTo qn_WE qc_WE_writeGoingTo (by decide +kernel) rfl ⟨rfl, rfl⟩ ⟨Nat.le_of_ble_eq_true rfl, Nat.le_of_ble_eq_true rfl⟩ hK hP hD [0, 1, 2, 3] rfl (by decide) rfl rfl hl.1 rfl (Nat.le_of_ble_eq_true rfl) d_WE_writeJunk_37 ⟨Nat.zero_le _, Nat.zero_le _⟩) hP hD hS hA [0, 1, 2, 3] [4, 5, 6] [3, 4, 5, 6, 0, 1, 2] rfl rfl (by decide) (by decide) rfl (by decide) (fun H locs hP hD hS => ?_)
  exact k_vret hx hb hr hlocks hK hP hD hS (by rw [f_WE_writeJunk]) d_WE_writeJunk_40
