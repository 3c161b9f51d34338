def LPp (p : Program) (l : Launch) (e : Env) (s : State) (m : MethodId) (below : List Frame) (meth : Method) (c : Code) (D : va_G) (cI cZ : ClassId) (A : Nat → Prop) (b i : Nat) (x oc oc_ops oc_opd oc_fr oc_to oc_tg k k_d k_o we fc fc_ops fc_opd fc_fr fc_to fc_tg bl bl_le bl_he bl_st bl_fi bl_be bl_by bl_sa bl_mk dq ma ma_lo ma_ke ma_sk q_st a q_op q_arg q_handler q_depth q_over q_flatOp q_flatArg q_flatHandler q_leader q_last q_height q_state q_begin q_drawn q_order q_starters q_emitted q_locals q_stack : Nat) : Prop := ∀ (n hn fq fh bc : Nat) (gg y_top y_at y_wu y_tk y_ec ye yo g2 xr x_top x_at : Int32) (f g fr to tg d ov fo fa xf xt xg le he st fi be bs sa mk lo ke sk sr hd fx la dw od : Nat → Int32), LI n hn fq fh bc f g fr to tg hd d fo fa xf xt xg fx st fi bs ye yo xr → ∀ (ls : Array Slot) (H : Heap) (locs : List Loc), lv_has ls 4 [(0, .ref b), (1, .ref x), (2, .ref a), (3, .int (nI i))] → va_P D classes (LWs cI cZ x oc oc_ops oc_opd oc_fr oc_to oc_tg k k_d k_o we fc fc_ops fc_opd fc_fr fc_to fc_tg bl bl_le bl_he bl_st bl_fi bl_be bl_by bl_sa bl_mk dq ma ma_lo ma_ke ma_sk q_st a q_op q_arg q_handler q_depth q_over q_flatOp q_flatArg q_flatHandler q_leader q_last q_height q_state q_begin q_drawn q_order q_starters q_emitted q_locals q_stack n hn fq fh bc gg y_top y_at y_wu y_tk y_ec ye yo g2 xr x_top x_at f g fr to tg d ov fo fa xf xt xg le he st fi be bs sa mk lo ke sk sr hd fx la dw od) H → va_D A (LWs cI cZ x oc oc_ops oc_opd oc_fr oc_to oc_tg k k_d k_o we fc fc_ops fc_opd fc_fr fc_to fc_tg bl bl_le bl_he bl_st bl_fi bl_be bl_by bl_sa bl_mk dq ma ma_lo ma_ke ma_sk q_st a q_op q_arg q_handler q_depth q_over q_flatOp q_flatArg q_flatHandler q_leader q_last q_height q_state q_begin q_drawn q_order q_starters q_emitted q_locals q_stack n hn fq fh bc gg y_top y_at y_wu y_tk y_ec ye yo g2 xr x_top x_at f g fr to tg d ov fo fa xf xt xg le he st fi be bs sa mk lo ke sk sr hd fx la dw od) → va_S A s.heap H locs → W p l e room_1 s m #[Value.ref b] below meth c H locs 600000 7302250 (lw_Z below #[Value.ref b] s) (F0 m 18 ls [])
theorem le4 {i L : Nat} (hi : i ≤ 4096) (hL : L ≤ 2048) : nI L - 4 < nI i ↔ ¬ i + 4 ≤ L := by
  by_cases h : 4 ≤ L
  · rw [nc_sub (X := nI L) (Y := 4) (x := L) (y := 4) rfl (by decide) h, nI_ltI (by omega) (by omega)]
    omega
  · have h1 : (nI L - 4).toInt < 0 := by
      have : L = 0 ∨ L = 1 ∨ L = 2 ∨ L = 3 := by omega
      rcases this with e | e | e | e <;> subst e <;> decide
    rw [Int32.lt_iff_toInt_lt, nI_toInt (n := i) (by omega)]
    omega
theorem TK_in : ∀ j, j < 19 → Cond.eq (.elem (.static "FlowFlattener" "TAKES" "[I") (.int (Int32.ofNat j))) (.int (TK j)) ∈ flatC (Jvm.Cond.and given_1 narrow_1) := by decide +kernel
theorem PU_in : ∀ j, j < 19 → Cond.eq (.elem (.static "FlowFlattener" "PUTS" "[I") (.int (Int32.ofNat j))) (.int (PU j)) ∈ flatC (Jvm.Cond.and given_1 narrow_1) := by decide +kernel
theorem lw_EN {s : State} {b : Nat} (hts : ∀ w ∈ lw_tbl, w.before #[Value.ref b] s = true) (hgv : (Jvm.Cond.and given_1 narrow_1).before #[Value.ref b] s = true) {A : Nat → Prop} (hA : ∀ a : Nat, a < s.heap.size → ¬ A a) : ∃ tt tp, EN tt tp A s := by
  have hs := flat_of_before _ hgv
  have hl1 : (Cond.laysStatic "FlowFlattener" "TAKES" "[I").before #[Value.ref b] s = true := hts _ (List.mem_append_right _ (List.mem_of_getElem? (i := 288) (by decide +kernel)))
  have hl2 : (Cond.laysStatic "FlowFlattener" "PUTS" "[I").before #[Value.ref b] s = true := hts _ (List.mem_append_right _ (List.mem_of_getElem? (i := 290) (by decide +kernel)))
  have hini : (Cond.initialized "FlowFlattener").before #[Value.ref b] s = true := hts _ (ws_l qn_FF)
  have ha1 : (Cond.arrayOf (.static "FlowFlattener" "TAKES" "[I") .int).before #[Value.ref b] s = true := hs _ (by decide +kernel)
  have ha2 : (Cond.arrayOf (.static "FlowFlattener" "PUTS" "[I") .int).before #[Value.ref b] s = true := hs _ (by decide +kernel)
  have hn1 : (Cond.eq (.length (.static "FlowFlattener" "TAKES" "[I")) (.int 19)).before #[Value.ref b] s = true := hs _ (by decide +kernel)
  have hn2 : (Cond.eq (.length (.static "FlowFlattener" "PUTS" "[I")) (.int 19)).before #[Value.ref b] s = true := hs _ (by decide +kernel)
  obtain ⟨tt, e1, T1⟩ := va_Tof (N := 19) (f := fun j => .int (TK j)) (A := A) (by decide) ha1 (va_eqt hn1) (fun j hj => va_eqt (hs _ (TK_in j hj))) hA
  obtain ⟨tp, e2, T2⟩ := va_Tof (N := 19) (f := fun j => .int (PU j)) (A := A) (by decide) ha2 (va_eqt hn2) (fun j hj => va_eqt (hs _ (PU_in j hj))) hA
  exact ⟨tt, tp, fun w h => va_Nw.of (nws_t w h) (hts w (nws_l w h)), va_Zof hl1 hini e1 hA, T1, va_Zof hl2 hini e2 hA, T2⟩
theorem lw_K {s : State} {b : Nat} (hts : ∀ w ∈ WS, w.before #[Value.ref b] s = true) : ∃ D cI cZ, va_K D classes (tyz cI cZ) s := by
  obtain ⟨c0, i0, k0⟩ := u_known (C := R_FF) (T := F_FF) (N := 5) hts in_FF (hts _ qb_FF)
  obtain ⟨c1, i1, k1⟩ := u_known (C := R_CO) (T := F_CO) (N := 7) hts in_CO (hts _ qb_CO)
  obtain ⟨c2, i2, k2⟩ := u_known (C := R_CH) (T := F_CH) (N := 2) hts in_CH (hts _ qb_CH)
  obtain ⟨c3, i3, k3⟩ := u_known (C := R_DR) (T := F_DR) (N := 1) hts in_DR (hts _ qb_DR)
  obtain ⟨c4, i4, k4⟩ := u_known (C := R_BL) (T := F_BL) (N := 9) hts in_BL (hts _ qb_BL)
  obtain ⟨c5, i5, k5⟩ := u_known (C := R_WE) (T := F_WE) (N := 3) hts in_WE (hts _ qb_WE)
  obtain ⟨c6, i6, k6⟩ := u_known (C := R_MA) (T := F_MA) (N := 10) hts in_MA (hts _ qb_MA)
  obtain ⟨c7, i7, k7⟩ := u_known (C := R_MO) (T := F_MO) (N := 32) hts in_MO (hts _ qb_MO)
  obtain ⟨cI, kI, pI, f1, f2, f3⟩ := Cond.arrayClass_spec (hts _ qa_int)
  obtain ⟨cZ, kZ, pZ, g1, g2, g3⟩ := Cond.arrayClass_spec (hts _ qa_boolean)
  refine ⟨(fun k => match k with
    | 0 => c0 | 1 => c1 | 2 => c2 | 3 => c3 | 4 => c4 | 5 => c5 | 6 => c6 | _ => c7, fun k => match k with
    | 0 => i0 | 1 => i1 | 2 => i2 | 3 => i3 | 4 => i4 | 5 => i5 | 6 => i6 | _ => i7), cI, cZ, ?_, ?_⟩
  · intro c q hq
    match c, hq with
    | 0, hq => cases hq; exact k0
    | 1, hq => cases hq; exact k1
    | 2, hq => cases hq; exact k2
    | 3, hq => cases hq; exact k3
    | 4, hq => cases hq; exact k4
    | 5, hq => cases hq; exact k5
    | 6, hq => cases hq; exact k6
    | 7, hq => cases hq; exact k7
    | c + 8, hq => cases hq
  · intro k q hk
    match k, hk with
    | 0, hk => cases hk; exact ⟨fun n z => ⟨fun k h => (by cases h), kI, f2, pI, f3⟩, f1⟩
    | 1, hk => cases hk; exact ⟨fun n z => ⟨fun k h => (by cases h), kZ, g2, pZ, g3⟩, g1⟩
    | k + 2, hk => cases hk
set_option maxHeartbeats 4000000 in
set_option maxRecDepth 100000 in
theorem law_loop {p : Program} {l : Launch} {e : Env} {s : State} {m : MethodId} {below : List Frame} {meth : Method} {c : Code} {D : va_G} {cI cZ : ClassId} {A : Nat → Prop} {b L tt tp : Nat} {xs : Nat → Int32} {x oc oc_ops oc_opd oc_fr oc_to oc_tg k k_d k_o we fc fc_ops fc_opd fc_fr fc_to fc_tg bl bl_le bl_he bl_st bl_fi bl_be bl_by bl_sa bl_mk dq ma ma_lo ma_ke ma_sk q_st a q_op q_arg q_handler q_depth q_over q_flatOp q_flatArg q_flatHandler q_leader q_last q_height q_state q_begin q_drawn q_order q_starters q_emitted q_locals q_stack : Nat} (S : CallFix p m c code 4 s #[Value.ref b] WS "FlowFlattenerLaw") (hK : va_K D classes (tyz cI cZ) s) (hA : ∀ q, s.heap.size ≤ q → A q) (hE : EN tt tp A s) (hX : va_X b L xs s s.heap) (hbl : b < s.heap.size) (hbA : ¬ A b) (hL : L ≤ 2048) (hr : meth.sig.returnType = ret) (hlocks : meth.locks = false) (hAq : ∀ q, A q → s.heap.size ≤ q) : ∀ (kf i : Nat), L ≤ i + 3 + 4 * kf → i ≤ L → LPp p l e s m below meth c D cI cZ A b i x oc oc_ops oc_opd oc_fr oc_to oc_tg k k_d k_o we fc fc_ops fc_opd fc_fr fc_to fc_tg bl bl_le bl_he bl_st bl_fi bl_be bl_by bl_sa bl_mk dq ma ma_lo ma_ke ma_sk q_st a q_op q_arg q_handler q_depth q_over q_flatOp q_flatArg q_flatHandler q_leader q_last q_height q_state q_begin q_drawn q_order q_starters q_emitted q_locals q_stack := by
  have hx := S.1
  have hb := S.2.1
  intro kf
  induction kf with
  | zero =>
    intro i h1 h2 n hn fq fh bc gg y_top y_at y_wu y_tk y_ec ye yo g2 xr x_top x_at f g fr to tg d ov fo fa xf xt xg le he st fi be bs sa mk lo ke sk sr hd fx la dw od I ls H locs hl hP hD hS
    refine lv_iload_n hx hb d_LA_law_18 rfl (lv_at hl 3 rfl) ?_
    refine lv_aload_n hx hb d_LA_law_19 rfl (lv_at hl 0 rfl) ?_
    refine k_slen hx hb hX hbl hbA hS d_LA_law_20 ?_
    refine lv_iconst (v := 4) hx hb d_LA_law_21 (by decide) ?_
    refine lv_isub hx hb d_LA_law_22 ?_
    refine lv_icmp_gt (tgt := 685) hx hb d_LA_law_23 (by decide) (fun hgt => ?_) (fun hgt => absurd ((le4 (by omega) hL).mpr (by omega)) hgt)
    refine va_forget (fun q hq => hAq _ (hS.2.2 q hq)) ?_
    refine lv_iconst (v := 1) hx hb d_LA_law_685 (by decide) ?_
    exact lw_ret hx hb hr hlocks d_LA_law_686
  | succ kf ih =>
    intro i h1 h2 n hn fq fh bc gg y_top y_at y_wu y_tk y_ec ye yo g2 xr x_top x_at f g fr to tg d ov fo fa xf xt xg le he st fi be bs sa mk lo ke sk sr hd fx la dw od I ls H locs hl hP hD hS
    refine lv_iload_n hx hb d_LA_law_18 rfl (lv_at hl 3 rfl) ?_
    refine lv_aload_n hx hb d_LA_law_19 rfl (lv_at hl 0 rfl) ?_
    refine k_slen hx hb hX hbl hbA hS d_LA_law_20 ?_
    refine lv_iconst (v := 4) hx hb d_LA_law_21 (by decide) ?_
    refine lv_isub hx hb d_LA_law_22 ?_
    refine lv_icmp_gt (tgt := 685) hx hb d_LA_law_23 (by decide) (fun hgt => ?_) (fun hgt => ?_)
    · skip
      refine va_forget (fun q hq => hAq _ (hS.2.2 q hq)) ?_
      refine lv_iconst (v := 1) hx hb d_LA_law_685 (by decide) ?_
      exact lw_ret hx hb hr hlocks d_LA_law_686
    have hi4 : i + 4 ≤ L := Classical.byContradiction (fun h9 => hgt ((le4 (by omega) hL).mpr h9))
    have kk : KKp p l e s m below meth c D cI cZ A b i x oc oc_ops oc_opd oc_fr oc_to oc_tg k k_d k_o we fc fc_ops fc_opd fc_fr fc_to fc_tg bl bl_le bl_he bl_st bl_fi bl_be bl_by bl_sa bl_mk dq ma ma_lo ma_ke ma_sk q_st a q_op q_arg q_handler q_depth q_over q_flatOp q_flatArg q_flatHandler q_leader q_last q_height q_state q_begin q_drawn q_order q_starters q_emitted q_locals q_stack := by
      intro n hn fq fh bc gg y_top y_at y_wu y_tk y_ec ye yo g2 xr x_top x_at f g fr to tg d ov fo fa xf xt xg le he st fi be bs sa mk lo ke sk sr hd fx la dw od I ls H locs hl hP hD hS
      refine lv_iinc (k := 3) (v := nI (i + 4)) (lv' := [(3, .int (nI (i + 4))), (0, .ref b), (1, .ref x), (2, .ref a)]) hx hb d_LA_law_679 hl rfl (nc_add rfl (by decide)) (by decide) rfl (fun ls hl => ?_)
      refine lv_goto (tgt := 18) hx hb d_LA_law_682 (by decide) ?_
      exact ih (i + 4) (by omega) hi4 n hn fq fh bc gg y_top y_at y_wu y_tk y_ec ye yo g2 xr x_top x_at f g fr to tg d ov fo fa xf xt xg le he st fi be bs sa mk lo ke sk sr hd fx la dw od I _ _ _ (lv_sub hl [1, 2, 3, 0] rfl) hP hD hS
    refine lv_aload_n hx hb d_LA_law_26 rfl (lv_at hl 0 rfl) ?_
    refine lv_iload_n hx hb d_LA_law_27 rfl (lv_at hl 3 rfl) ?_
    refine k_sld (k := i) hx hb hX hbl hbA hS rfl (by omega) (by omega) d_LA_law_28 ?_
    refine lv_bipush (v := 31) hx hb d_LA_law_29 (by decide) ?_
    refine lv_iand hx hb d_LA_law_31 ?_
    by_cases hq0 : xs i &&& 31 = 0
    · refine k_top hq0 ?_
      refine lv_tableIn (tgt := 124) hx hb d_LA_law_32 (by decide) (by decide) rfl (by decide) ?_
      exact law_case_0 S hK hA hE hX hbl hbA hL hi4 I hl hP hD hS kk
    by_cases hq1 : xs i &&& 31 = 1
    · refine k_top hq1 ?_
      refine lv_tableIn (tgt := 135) hx hb d_LA_law_32 (by decide) (by decide) rfl (by decide) ?_
      exact law_case_1 S hK hA hE hX hbl hbA hL hi4 I hl hP hD hS kk
    by_cases hq2 : xs i &&& 31 = 2
    · refine k_top hq2 ?_
      refine lv_tableIn (tgt := 168) hx hb d_LA_law_32 (by decide) (by decide) rfl (by decide) ?_
      exact law_case_2 S hK hA hE hX hbl hbA hL hi4 I hl hP hD hS kk
    by_cases hq3 : xs i &&& 31 = 3
    · refine k_top hq3 ?_
      refine lv_tableIn (tgt := 211) hx hb d_LA_law_32 (by decide) (by decide) rfl (by decide) ?_
      exact law_case_3 S hK hA hE hX hbl hbA hL hi4 I hl hP hD hS kk
    by_cases hq4 : xs i &&& 31 = 4
    · refine k_top hq4 ?_
      refine lv_tableIn (tgt := 224) hx hb d_LA_law_32 (by decide) (by decide) rfl (by decide) ?_
      exact law_case_4 S hK hA hE hX hbl hbA hL hi4 I hl hP hD hS kk
    by_cases hq5 : xs i &&& 31 = 5
    · refine k_top hq5 ?_
      refine lv_tableIn (tgt := 247) hx hb d_LA_law_32 (by decide) (by decide) rfl (by decide) ?_
      exact law_case_5 S hK hA hE hX hbl hbA hL hi4 I hl hP hD hS kk
    by_cases hq6 : xs i &&& 31 = 6
    · refine k_top hq6 ?_
      refine lv_tableIn (tgt := 270) hx hb d_LA_law_32 (by decide) (by decide) rfl (by decide) ?_
      exact law_case_6 S hK hA hE hX hbl hbA hL hi4 I hl hP hD hS kk
    by_cases hq7 : xs i &&& 31 = 7
    · refine k_top hq7 ?_
      refine lv_tableIn (tgt := 309) hx hb d_LA_law_32 (by decide) (by decide) rfl (by decide) ?_
      exact law_case_7 S hK hA hE hX hbl hbA hL hi4 I hl hP hD hS kk
    by_cases hq8 : xs i &&& 31 = 8
    · refine k_top hq8 ?_
      refine lv_tableIn (tgt := 358) hx hb d_LA_law_32 (by decide) (by decide) rfl (by decide) ?_
      exact law_case_8 S hK hA hE hX hbl hbA hL hi4 I hl hP hD hS kk
    by_cases hq9 : xs i &&& 31 = 9
    · refine k_top hq9 ?_
      refine lv_tableIn (tgt := 407) hx hb d_LA_law_32 (by decide) (by decide) rfl (by decide) ?_
      exact law_case_9 S hK hA hE hX hbl hbA hL hi4 I hl hP hD hS kk
    by_cases hq10 : xs i &&& 31 = 10
    · refine k_top hq10 ?_
      refine lv_tableIn (tgt := 466) hx hb d_LA_law_32 (by decide) (by decide) rfl (by decide) ?_
      exact law_case_10 S hK hA hE hX hbl hbA hL hi4 I hl hP hD hS kk
    by_cases hq11 : xs i &&& 31 = 11
    · refine k_top hq11 ?_
      refine lv_tableIn (tgt := 479) hx hb d_LA_law_32 (by decide) (by decide) rfl (by decide) ?_
      exact law_case_11 S hK hA hE hX hbl hbA hL hi4 I hl hP hD hS kk
    by_cases hq12 : xs i &&& 31 = 12
    · refine k_top hq12 ?_
      refine lv_tableIn (tgt := 512) hx hb d_LA_law_32 (by decide) (by decide) rfl (by decide) ?_
      exact law_case_12 S hK hA hE hX hbl hbA hL hi4 I hl hP hD hS kk
    by_cases hq13 : xs i &&& 31 = 13
    · refine k_top hq13 ?_
      refine lv_tableIn (tgt := 545) hx hb d_LA_law_32 (by decide) (by decide) rfl (by decide) ?_
      exact law_case_13 S hK hA hE hX hbl hbA hL hi4 I hl hP hD hS kk
    by_cases hq14 : xs i &&& 31 = 14
    · refine k_top hq14 ?_
      refine lv_tableIn (tgt := 594) hx hb d_LA_law_32 (by decide) (by decide) rfl (by decide) ?_
      exact law_case_14 S hK hA hE hX hbl hbA hL hi4 I hl hP hD hS kk
    by_cases hq15 : xs i &&& 31 = 15
    · refine k_top hq15 ?_
      refine lv_tableIn (tgt := 607) hx hb d_LA_law_32 (by decide) (by decide) rfl (by decide) ?_
      exact law_case_15 S hK hA hE hX hbl hbA hL hi4 I hl hP hD hS kk
    by_cases hq16 : xs i &&& 31 = 16
    · refine k_top hq16 ?_
      refine lv_tableIn (tgt := 620) hx hb d_LA_law_32 (by decide) (by decide) rfl (by decide) ?_
      exact law_case_16 S hK hA hE hX hbl hbA hL hi4 I hl hP hD hS kk
    by_cases hq17 : xs i &&& 31 = 17
    · refine k_top hq17 ?_
      refine lv_tableIn (tgt := 633) hx hb d_LA_law_32 (by decide) (by decide) rfl (by decide) ?_
      exact law_case_17 S hK hA hE hX hbl hbA hL hi4 I hl hP hD hS kk
    by_cases hq18 : xs i &&& 31 = 18
    · refine k_top hq18 ?_
      refine lv_tableIn (tgt := 656) hx hb d_LA_law_32 (by decide) (by decide) rfl (by decide) ?_
      exact law_case_18 S hK hA hE hX hbl hbA hL hi4 I hl hP hD hS kk
    refine lv_tableOut (tgt := 679) hx hb d_LA_law_32 (by have e0 := lv_neT hq0 (show (0 : Int32).toInt = 0 by decide); have e1 := lv_neT hq1 (show (1 : Int32).toInt = 1 by decide); have e2 := lv_neT hq2 (show (2 : Int32).toInt = 2 by decide); have e3 := lv_neT hq3 (show (3 : Int32).toInt = 3 by decide); have e4 := lv_neT hq4 (show (4 : Int32).toInt = 4 by decide); have e5 := lv_neT hq5 (show (5 : Int32).toInt = 5 by decide); have e6 := lv_neT hq6 (show (6 : Int32).toInt = 6 by decide); have e7 := lv_neT hq7 (show (7 : Int32).toInt = 7 by decide); have e8 := lv_neT hq8 (show (8 : Int32).toInt = 8 by decide); have e9 := lv_neT hq9 (show (9 : Int32).toInt = 9 by decide); have e10 := lv_neT hq10 (show (10 : Int32).toInt = 10 by decide); have e11 := lv_neT hq11 (show (11 : Int32).toInt = 11 by decide); have e12 := lv_neT hq12 (show (12 : Int32).toInt = 12 by decide); have e13 := lv_neT hq13 (show (13 : Int32).toInt = 13 by decide); have e14 := lv_neT hq14 (show (14 : Int32).toInt = 14 by decide); have e15 := lv_neT hq15 (show (15 : Int32).toInt = 15 by decide); have e16 := lv_neT hq16 (show (16 : Int32).toInt = 16 by decide); have e17 := lv_neT hq17 (show (17 : Int32).toInt = 17 by decide); have e18 := lv_neT hq18 (show (18 : Int32).toInt = 18 by decide); omega) (by decide) ?_
    exact kk n hn fq fh bc gg y_top y_at y_wu y_tk y_ec ye yo g2 xr x_top x_at f g fr to tg d ov fo fa xf xt xg le he st fi be bs sa mk lo ke sk sr hd fx la dw od I _ _ _ hl hP hD hS
