theorem d_BL_among_0 : decode b_BL_among 0 = .ok (.iconst 0, 1) := by decide +kernel
theorem d_BL_among_1 : decode b_BL_among 1 = .ok (.istore_n 3, 1) := by decide +kernel
theorem d_BL_among_2 : decode b_BL_among 2 = .ok (.iload_n 3, 1) := by decide +kernel
theorem d_BL_among_3 : decode b_BL_among 3 = .ok (.iload_n 1, 1) := by decide +kernel
theorem d_BL_among_4 : decode b_BL_among 4 = .ok (.if_icmp .ge 21, 3) := by decide +kernel
theorem d_BL_among_7 : decode b_BL_among 7 = .ok (.aload_n 0, 1) := by decide +kernel
theorem d_BL_among_8 : decode b_BL_among 8 = .ok (.getfield 18, 3) := by decide +kernel
theorem d_BL_among_11 : decode b_BL_among 11 = .ok (.iload_n 3, 1) := by decide +kernel
theorem d_BL_among_12 : decode b_BL_among 12 = .ok (.iaload, 1) := by decide +kernel
theorem d_BL_among_13 : decode b_BL_among 13 = .ok (.iload_n 2, 1) := by decide +kernel
theorem d_BL_among_14 : decode b_BL_among 14 = .ok (.if_icmp .ne 5, 3) := by decide +kernel
theorem d_BL_among_17 : decode b_BL_among 17 = .ok (.iload_n 3, 1) := by decide +kernel
theorem d_BL_among_18 : decode b_BL_among 18 = .ok (.ireturn, 1) := by decide +kernel
theorem d_BL_among_19 : decode b_BL_among 19 = .ok (.iinc 3 1, 3) := by decide +kernel
theorem d_BL_among_22 : decode b_BL_among 22 = .ok (.goto (-20), 3) := by decide +kernel
theorem d_BL_among_25 : decode b_BL_among 25 = .ok (.iconst (-1), 1) := by decide +kernel
theorem d_BL_among_26 : decode b_BL_among 26 = .ok (.ireturn, 1) := by decide +kernel
def lp_BL_among (st : Nat → Int32) (v : Int32) : Nat → Nat → Int32
  | 0, b => (-1)
  | kf + 1, b => (if st b = v then nI b else (lp_BL_among st v kf (b + 1)))
def f_BL_among (w : Nat) (st : Nat → Int32) (v : Int32) : Int32 := lp_BL_among st v w 0
set_option maxHeartbeats 1000000 in
set_option maxRecDepth 100000 in
theorem c_BL_among (l : Launch) (D : va_G) (cI cZ : ClassId) (bl : Nat) (bl_le bl_he bl_st bl_fi bl_be bl_by bl_sa bl_mk bc : Nat) (w : Nat) (st : Nat → Int32) (v : Int32) (hw : w ≤ 32) : MG l y_BL_among w_BL_among (rmK 0 0) D classes (tyz cI cZ) E0 [.ref bl, .int (nI w), .int v] [(bl, .inr (4, [.ref bl_le, .ref bl_he, .ref bl_st, .ref bl_fi, .ref bl_be, .ref bl_by, .ref bl_sa, .ref bl_mk, .int (nI bc)])), (bl_st, .inl (cI, 32, .inl st))] (RI D classes (tyz cI cZ) (f_BL_among w st v) [(bl, .inr (4, [.ref bl_le, .ref bl_he, .ref bl_st, .ref bl_fi, .ref bl_be, .ref bl_by, .ref bl_sa, .ref bl_mk, .int (nI bc)])), (bl_st, .inl (cI, 32, .inl st))]) := by
  refine MG.of (cc := b_BL_among) (maxL := 4) (ret := (some .int)) (own := "FlowFlattener$Blocks") rfl (by decide) rfl (Nat.le_of_ble_eq_true rfl) ?_
  intro p e s m below meth c A ls S hr hlocks hA hP hK hD hS hE hl
  have hx := S.1
  have hb := S.2.1
  have hl : lv_has ls 4 [(0, .ref bl), (1, .int (nI w)), (2, .int v)] := hl
  refine lv_iconst (v := nI 0) hx hb d_BL_among_0 (by decide) ?_
  refine lv_istore_n (lv' := [(3, .int (nI 0)), (0, .ref bl), (1, .int (nI w)), (2, .int v)]) hx hb d_BL_among_1 rfl hl (by decide) rfl (fun ls hl => ?_)
  have LP2 : ∀ (kf : Nat) (b : Nat), (b + kf = w) → lp_BL_among st v kf b = f_BL_among w st v → ∀ (ls : Array Slot) (H : Heap) (locs : List Loc), lv_has ls 4 [(0, .ref bl), (1, .int (nI w)), (2, .int v), (3, .int (nI b))] → va_P D classes [(bl, .inr (4, [.ref bl_le, .ref bl_he, .ref bl_st, .ref bl_fi, .ref bl_be, .ref bl_by, .ref bl_sa, .ref bl_mk, .int (nI bc)])), (bl_st, .inl (cI, 32, .inl st))] H → va_D A [(bl, .inr (4, [.ref bl_le, .ref bl_he, .ref bl_st, .ref bl_fi, .ref bl_be, .ref bl_by, .ref bl_sa, .ref bl_mk, .int (nI bc)])), (bl_st, .inl (cI, 32, .inl st))] → va_S A s.heap H locs → W p l e (rmK 0 0) s m [.ref bl, .int (nI w), .int v].toArray below meth c H locs 0 0 (MQ below (RI D classes (tyz cI cZ) (f_BL_among w st v) [(bl, .inr (4, [.ref bl_le, .ref bl_he, .ref bl_st, .ref bl_fi, .ref bl_be, .ref bl_by, .ref bl_sa, .ref bl_mk, .int (nI bc)])), (bl_st, .inl (cI, 32, .inl st))] A) [.ref bl, .int (nI w), .int v].toArray s 0 0 A) (F0 m 2 ls []) := by
    intro kf
    induction kf with
    | zero =>
      intro b hk hF2 ls H locs hl hP hD hS
      refine lv_iload_n hx hb d_BL_among_2 rfl (lv_at hl 3 rfl) ?_
      refine lv_iload_n hx hb d_BL_among_3 rfl (lv_at hl 1 rfl) ?_
      refine n_icmp_ge (tgt := 25) (x := b) (y := w) hx hb rfl rfl (by omega) (by omega) d_BL_among_4 (by decide) (fun h4_1 => ?_) (fun h4_1 => absurd h4_1 (by omega))
      refine lv_iconst (v := (-1)) hx hb d_BL_among_25 (by decide) ?_
      exact k_iret hx hb hr hlocks hK hP hD hS (by rw [← hF2, lp_BL_among]) rfl d_BL_among_26
    | succ kf ih =>
      intro b hk hF2 ls H locs hl hP hD hS
      refine lv_iload_n hx hb d_BL_among_2 rfl (lv_at hl 3 rfl) ?_
      refine lv_iload_n hx hb d_BL_among_3 rfl (lv_at hl 1 rfl) ?_
      refine n_icmp_ge (tgt := 25) (x := b) (y := w) hx hb rfl rfl (by omega) (by omega) d_BL_among_4 (by decide) (fun h4_2 => absurd h4_2 (by omega)) (fun h4_2 => ?_)
      refine lv_aload_n hx hb d_BL_among_7 rfl (lv_at hl 0 rfl) ?_
      refine k_get (v := .ref bl_st) S in_BL hK hP 0 rfl rfl 2 (by decide) ql_BL_18 rfl d_BL_among_8 ?_
      refine lv_iload_n hx hb d_BL_among_11 rfl (lv_at hl 3 rfl) ?_
      refine k_ld (k := b) hx hb hK hP 1 0 rfl rfl rfl (by omega) (by decide) d_BL_among_12 ?_
      refine lv_iload_n hx hb d_BL_among_13 rfl (lv_at hl 2 rfl) ?_
      refine lv_icmp_ne (tgt := 19) hx hb d_BL_among_14 (by decide) (fun h14_3 => ?_) (fun h14_3 => ?_)
      · skip
        refine lv_iinc (k := 3) (v := nI (b + 1)) (lv' := [(3, .int (nI (b + 1))), (0, .ref bl), (1, .int (nI w)), (2, .int v)]) hx hb d_BL_among_19 hl rfl (nc_add rfl (by decide)) (by decide) rfl (fun ls hl => ?_)
        refine lv_goto (tgt := 2) hx hb d_BL_among_22 (by decide) ?_
        have e9 : lp_BL_among st v (kf + 1) b = lp_BL_among st v kf (b + 1) := by rw [lp_BL_among, if_neg h14_3]
        rw [e9] at hF2
        exact ih (b + 1) (by omega) hF2 _ _ _ (lv_sub hl [1, 2, 3, 0] rfl) hP hD hS
      · skip
        refine lv_iload_n hx hb d_BL_among_17 rfl (lv_at hl 3 rfl) ?_
        exact k_iret hx hb hr hlocks hK hP hD hS (by rw [← hF2, lp_BL_among, if_pos h14_3]) rfl d_BL_among_18
  exact LP2 w 0 (by omega) (by rw [f_BL_among]) _ _ _ (lv_sub hl [1, 2, 3, 0] rfl) hP hD hS

theorem am_spec (st : Nat → Int32) (v : Int32) {w : Nat} (hw : w < 2 ^ 31) : ∀ (kf b : Nat), b + kf = w → ¬ lp_BL_among st v kf b = -1 → lp_BL_among st v kf b = nI (tn (lp_BL_among st v kf b)) ∧ tn (lp_BL_among st v kf b) < w := by
  intro kf
  induction kf with
  | zero => intro i h h2; exact absurd rfl h2
  | succ kf ih =>
    intro i h h2
    rw [lp_BL_among] at h2 ⊢
    by_cases h3 : st i = v
    · rw [if_pos h3] at h2 ⊢; rw [tn_nI (by omega)]; exact ⟨rfl, by omega⟩
    · rw [if_neg h3] at h2 ⊢; exact ih _ (by omega) h2
theorem am_lt {w : Nat} {st : Nat → Int32} {v : Int32} (hw : w < 2 ^ 31) (h : ¬ f_BL_among w st v = -1) : tn (f_BL_among w st v) < w := (am_spec st v hw w 0 (by omega) h).2
theorem am_eq {w : Nat} {st : Nat → Int32} {v : Int32} (hw : w < 2 ^ 31) (h : ¬ f_BL_among w st v = -1) : f_BL_among w st v = nI (tn (f_BL_among w st v)) := (am_spec st v hw w 0 (by omega) h).1

theorem d_BL_entry_0 : decode b_BL_entry 0 = .ok (.aload_n 0, 1) := by decide +kernel
theorem d_BL_entry_1 : decode b_BL_entry 1 = .ok (.aload_n 0, 1) := by decide +kernel
theorem d_BL_entry_2 : decode b_BL_entry 2 = .ok (.getfield 41, 3) := by decide +kernel
theorem d_BL_entry_5 : decode b_BL_entry 5 = .ok (.iload_n 1, 1) := by decide +kernel
theorem d_BL_entry_6 : decode b_BL_entry 6 = .ok (.invokevirtual 88, 3) := by decide +kernel
theorem d_BL_entry_9 : decode b_BL_entry 9 = .ok (.istore_n 2, 1) := by decide +kernel
theorem d_BL_entry_10 : decode b_BL_entry 10 = .ok (.iload_n 2, 1) := by decide +kernel
theorem d_BL_entry_11 : decode b_BL_entry 11 = .ok (.iconst (-1), 1) := by decide +kernel
theorem d_BL_entry_12 : decode b_BL_entry 12 = .ok (.if_icmp .ne 7, 3) := by decide +kernel
theorem d_BL_entry_15 : decode b_BL_entry 15 = .ok (.iconst (-1), 1) := by decide +kernel
theorem d_BL_entry_16 : decode b_BL_entry 16 = .ok (.goto 9, 3) := by decide +kernel
theorem d_BL_entry_19 : decode b_BL_entry 19 = .ok (.aload_n 0, 1) := by decide +kernel
theorem d_BL_entry_20 : decode b_BL_entry 20 = .ok (.getfield 21, 3) := by decide +kernel
theorem d_BL_entry_23 : decode b_BL_entry 23 = .ok (.iload_n 2, 1) := by decide +kernel
theorem d_BL_entry_24 : decode b_BL_entry 24 = .ok (.iaload, 1) := by decide +kernel
theorem d_BL_entry_25 : decode b_BL_entry 25 = .ok (.ireturn, 1) := by decide +kernel
def f_BL_entry (bc : Nat) (st : Nat → Int32) (fi : Nat → Int32) (v : Int32) : Int32 := (if f_BL_among bc st v = (-1) then (-1) else fi (tn (f_BL_among bc st v)))
set_option maxHeartbeats 1000000 in
set_option maxRecDepth 100000 in
theorem c_BL_entry (l : Launch) (D : va_G) (cI cZ : ClassId) (bl : Nat) (bl_le bl_he bl_st bl_fi bl_be bl_by bl_sa bl_mk bc : Nat) (st fi : Nat → Int32) (v : Int32) (hb32 : bc ≤ 32) : MG l y_BL_entry w_BL_entry (rmK 1 23) D classes (tyz cI cZ) E0 [.ref bl, .int v] [(bl, .inr (4, [.ref bl_le, .ref bl_he, .ref bl_st, .ref bl_fi, .ref bl_be, .ref bl_by, .ref bl_sa, .ref bl_mk, .int (nI bc)])), (bl_st, .inl (cI, 32, .inl st)), (bl_fi, .inl (cI, 32, .inl fi))] (RI D classes (tyz cI cZ) (f_BL_entry bc st fi v) [(bl, .inr (4, [.ref bl_le, .ref bl_he, .ref bl_st, .ref bl_fi, .ref bl_be, .ref bl_by, .ref bl_sa, .ref bl_mk, .int (nI bc)])), (bl_st, .inl (cI, 32, .inl st)), (bl_fi, .inl (cI, 32, .inl fi))]) := by
  refine MG.of (cc := b_BL_entry) (maxL := 3) (ret := (some .int)) (own := "FlowFlattener$Blocks") rfl (by decide) rfl (Nat.le_of_ble_eq_true rfl) ?_
  intro p e s m below meth c A ls S hr hlocks hA hP hK hD hS hE hl
  have hx := S.1
  have hb := S.2.1
  have hl : lv_has ls 3 [(0, .ref bl), (1, .int v)] := hl
  refine lv_aload_n hx hb d_BL_entry_0 rfl (lv_at hl 0 rfl) ?_
  refine lv_aload_n hx hb d_BL_entry_1 rfl (lv_at hl 0 rfl) ?_
  refine k_get (v := .int (nI bc)) S in_BL hK hP 0 rfl rfl 8 (by decide) ql_BL_41 rfl d_BL_entry_2 ?_
  refine lv_iload_n hx hb d_BL_entry_5 rfl (lv_at hl 1 rfl) ?_
  refine k_goi (ws' := [(bl, .inr (4, [.ref bl_le, .ref bl_he, .ref bl_st, .ref bl_fi, .ref bl_be, .ref bl_by, .ref bl_sa, .ref bl_mk, .int (nI bc)])), (bl_st, .inl (cI, 32, .inl st)), (bl_fi, .inl (cI, 32, .inl fi))]) (wr := [(bl_fi, .inl (cI, 32, .inl fi))]) (k_runV (q0 := 0) (As := [.int (nI bc), .int v]) (rest := []) (n := 2) S (c_BL_among l D cI cZ bl bl_le bl_he bl_st bl_fi bl_be bl_by bl_sa bl_mk bc bc st v (by omega)) E0_b E0_t ql_BL_88 qi_BL_among qs_BL_among qn_BL qc_BL_among (by decide +kernel) rfl ⟨rfl, rfl⟩ ⟨Nat.le_of_ble_eq_true rfl, Nat.le_of_ble_eq_true rfl⟩ hK hP hD [0, 1] rfl (by decide) rfl rfl hl.1 rfl (Nat.le_of_ble_eq_true rfl) d_BL_entry_6 ⟨Nat.zero_le _, Nat.zero_le _⟩) hP hD hS hA [0, 1] [2] [1, 2, 0] rfl rfl (by decide) (by decide) rfl (by decide) (fun H locs hP hD hS => ?_)
  refine lv_istore_n (lv' := [(2, .int (f_BL_among bc st v)), (0, .ref bl), (1, .int v)]) hx hb d_BL_entry_9 rfl hl (by decide) rfl (fun ls hl => ?_)
  refine lv_iload_n hx hb d_BL_entry_10 rfl (lv_at hl 0 rfl) ?_
  refine lv_iconst (v := (-1)) hx hb d_BL_entry_11 (by decide) ?_
  refine lv_icmp_ne (tgt := 19) hx hb d_BL_entry_12 (by decide) (fun h12_1 => ?_) (fun h12_1 => ?_)
  · skip
    refine lv_aload_n hx hb d_BL_entry_19 rfl (lv_at hl 1 rfl) ?_
    refine k_get (v := .ref bl_fi) S in_BL hK hP 0 rfl rfl 3 (by decide) ql_BL_21 rfl d_BL_entry_20 ?_
    refine lv_iload_n hx hb d_BL_entry_23 rfl (lv_at hl 0 rfl) ?_
    refine k_top (y := nI (tn (f_BL_among bc st v))) (am_eq (by omega) (by assumption)) ?_
    refine k_ld (k := tn (f_BL_among bc st v)) hx hb hK hP 2 0 rfl rfl rfl (by have := am_lt (w := bc) (st := st) (v := v) (by omega) (by assumption); omega) (by decide) d_BL_entry_24 ?_
    exact k_iret hx hb hr hlocks hK hP hD hS (by rw [f_BL_entry, if_neg h12_1]) rfl d_BL_entry_25
  · skip
    refine lv_iconst (v := (-1)) hx hb d_BL_entry_15 (by decide) ?_
    refine lv_goto (tgt := 25) hx hb d_BL_entry_16 (by decide) ?_
    exact k_iret hx hb hr hlocks hK hP hD hS (by rw [f_BL_entry, if_pos h12_1]) rfl d_BL_entry_25

theorem d_MA_push_0 : decode b_MA_push 0 = .ok (.aload_n 0, 1) := by decide +kernel
theorem d_MA_push_1 : decode b_MA_push 1 = .ok (.getfield 45, 3) := by decide +kernel
theorem d_MA_push_4 : decode b_MA_push 4 = .ok (.bipush 7, 2) := by decide +kernel
theorem d_MA_push_6 : decode b_MA_push 6 = .ok (.if_icmp .ge 23, 3) := by decide +kernel
theorem d_MA_push_9 : decode b_MA_push 9 = .ok (.aload_n 0, 1) := by decide +kernel
theorem d_MA_push_10 : decode b_MA_push 10 = .ok (.getfield 18, 3) := by decide +kernel
theorem d_MA_push_13 : decode b_MA_push 13 = .ok (.aload_n 0, 1) := by decide +kernel
theorem d_MA_push_14 : decode b_MA_push 14 = .ok (.getfield 45, 3) := by decide +kernel
theorem d_MA_push_17 : decode b_MA_push 17 = .ok (.iload_n 1, 1) := by decide +kernel
theorem d_MA_push_18 : decode b_MA_push 18 = .ok (.iastore, 1) := by decide +kernel
theorem d_MA_push_19 : decode b_MA_push 19 = .ok (.aload_n 0, 1) := by decide +kernel
theorem d_MA_push_20 : decode b_MA_push 20 = .ok (.dup, 1) := by decide +kernel
theorem d_MA_push_21 : decode b_MA_push 21 = .ok (.getfield 45, 3) := by decide +kernel
theorem d_MA_push_24 : decode b_MA_push 24 = .ok (.iconst 1, 1) := by decide +kernel
theorem d_MA_push_25 : decode b_MA_push 25 = .ok (.iadd, 1) := by decide +kernel
theorem d_MA_push_26 : decode b_MA_push 26 = .ok (.putfield 45, 3) := by decide +kernel
theorem d_MA_push_29 : decode b_MA_push 29 = .ok (.return_, 1) := by decide +kernel
set_option maxHeartbeats 1000000 in
set_option maxRecDepth 100000 in
theorem c_MA_push (l : Launch) (D : va_G) (cI cZ : ClassId) (ma : Nat) (ma_lo ma_ke ma_sk : Nat) (y_at y_wasUsed y_taken y_emitCount y_ending y_outcome : Int32) (tq : Nat) (sk : Nat → Int32) (v : Int32) (hq : tq < 7) : MG l y_MA_push w_MA_push (rmK 0 0) D classes (tyz cI cZ) E0 [.ref ma, .int v] [(ma, .inr (6, [.ref ma_lo, .ref ma_ke, .ref ma_sk, .int (nI tq), .int y_at, .int y_wasUsed, .int y_taken, .int y_emitCount, .int y_ending, .int y_outcome])), (ma_sk, .inl (cI, 7, .inl sk))] (RV D classes (tyz cI cZ) [(ma, .inr (6, [.ref ma_lo, .ref ma_ke, .ref ma_sk, .int (nI (tq + 1)), .int y_at, .int y_wasUsed, .int y_taken, .int y_emitCount, .int y_ending, .int y_outcome])), (ma_sk, .inl (cI, 7, .inl (upd sk tq v)))]) := by
  refine MG.of (cc := b_MA_push) (maxL := 2) (ret := none) (own := "FlowFlattener$Machine") rfl (by decide) rfl (Nat.le_of_ble_eq_true rfl) ?_
  intro p e s m below meth c A ls S hr hlocks hA hP hK hD hS hE hl
  have hx := S.1
  have hb := S.2.1
  have hl : lv_has ls 2 [(0, .ref ma), (1, .int v)] := hl
  refine lv_aload_n hx hb d_MA_push_0 rfl (lv_at hl 0 rfl) ?_
  refine k_get (v := .int (nI tq)) S in_MA hK hP 0 rfl rfl 3 (by decide) ql_MA_45 rfl d_MA_push_1 ?_
  refine lv_bipush (v := 7) hx hb d_MA_push_4 (by decide) ?_
  refine n_icmp_ge (tgt := 29) (x := tq) (y := 7) hx hb rfl (by decide) (by omega) (by omega) d_MA_push_6 (by decide) (fun h6_1 => absurd h6_1 (by omega)) (fun h6_1 => ?_)
  refine lv_aload_n hx hb d_MA_push_9 rfl (lv_at hl 0 rfl) ?_
  refine k_get (v := .ref ma_sk) S in_MA hK hP 0 rfl rfl 2 (by decide) ql_MA_18 rfl d_MA_push_10 ?_
  refine lv_aload_n hx hb d_MA_push_13 rfl (lv_at hl 0 rfl) ?_
  refine k_get (v := .int (nI tq)) S in_MA hK hP 0 rfl rfl 3 (by decide) ql_MA_45 rfl d_MA_push_14 ?_
  refine lv_iload_n hx hb d_MA_push_17 rfl (lv_at hl 1 rfl) ?_
  refine k_st (k := tq) (x := v) (ws' := [(ma, .inr (6, [.ref ma_lo, .ref ma_ke, .ref ma_sk, .int (nI tq), .int y_at, .int y_wasUsed, .int y_taken, .int y_emitCount, .int y_ending, .int y_outcome])), (ma_sk, .inl (cI, 7, .inl (upd sk tq v)))]) hx hb hK hP hD hS 1 0 rfl rfl rfl (by omega) (by decide) rfl d_MA_push_18 (fun H locs hP hD hS => ?_)
  refine lv_aload_n hx hb d_MA_push_19 rfl (lv_at hl 0 rfl) ?_
  refine lv_dup hx hb d_MA_push_20 rfl ?_
  refine k_get (v := .int (nI tq)) S in_MA hK hP 0 rfl rfl 3 (by decide) ql_MA_45 rfl d_MA_push_21 ?_
  refine lv_iconst (v := 1) hx hb d_MA_push_24 (by decide) ?_
  refine lv_iadd hx hb d_MA_push_25 ?_
  refine k_top (y := nI (tq + 1)) (nc_add rfl (by decide)) ?_
  refine k_put (v := .int (nI (tq + 1))) (ws' := [(ma, .inr (6, [.ref ma_lo, .ref ma_ke, .ref ma_sk, .int (nI (tq + 1)), .int y_at, .int y_wasUsed, .int y_taken, .int y_emitCount, .int y_ending, .int y_outcome])), (ma_sk, .inl (cI, 7, .inl (upd sk tq v)))]) S in_MA ty_MA nm_MA hK hP hD hS 0 rfl rfl 3 (by decide) ql_MA_45 rfl rfl rfl rfl (Nat.le_of_ble_eq_true rfl) rfl d_MA_push_26 (fun H locs hP hD hS => ?_)
  exact k_vret hx hb hr hlocks hK hP hD hS rfl d_MA_push_29

theorem d_MA_pop_0 : decode b_MA_pop 0 = .ok (.aload_n 0, 1) := by decide +kernel
theorem d_MA_pop_1 : decode b_MA_pop 1 = .ok (.getfield 45, 3) := by decide +kernel
theorem d_MA_pop_4 : decode b_MA_pop 4 = .ok (.ifCond .ne 5, 3) := by decide +kernel
theorem d_MA_pop_7 : decode b_MA_pop 7 = .ok (.iconst 0, 1) := by decide +kernel
theorem d_MA_pop_8 : decode b_MA_pop 8 = .ok (.ireturn, 1) := by decide +kernel
theorem d_MA_pop_9 : decode b_MA_pop 9 = .ok (.aload_n 0, 1) := by decide +kernel
theorem d_MA_pop_10 : decode b_MA_pop 10 = .ok (.dup, 1) := by decide +kernel
theorem d_MA_pop_11 : decode b_MA_pop 11 = .ok (.getfield 45, 3) := by decide +kernel
theorem d_MA_pop_14 : decode b_MA_pop 14 = .ok (.iconst 1, 1) := by decide +kernel
theorem d_MA_pop_15 : decode b_MA_pop 15 = .ok (.isub, 1) := by decide +kernel
theorem d_MA_pop_16 : decode b_MA_pop 16 = .ok (.putfield 45, 3) := by decide +kernel
theorem d_MA_pop_19 : decode b_MA_pop 19 = .ok (.aload_n 0, 1) := by decide +kernel
theorem d_MA_pop_20 : decode b_MA_pop 20 = .ok (.getfield 18, 3) := by decide +kernel
theorem d_MA_pop_23 : decode b_MA_pop 23 = .ok (.aload_n 0, 1) := by decide +kernel
theorem d_MA_pop_24 : decode b_MA_pop 24 = .ok (.getfield 45, 3) := by decide +kernel
theorem d_MA_pop_27 : decode b_MA_pop 27 = .ok (.iaload, 1) := by decide +kernel
theorem d_MA_pop_28 : decode b_MA_pop 28 = .ok (.ireturn, 1) := by decide +kernel
set_option maxHeartbeats 1000000 in
set_option maxRecDepth 100000 in
theorem c_MA_pop (l : Launch) (D : va_G) (cI cZ : ClassId) (ma : Nat) (ma_lo ma_ke ma_sk : Nat) (y_at y_wasUsed y_taken y_emitCount y_ending y_outcome : Int32) (tq : Nat) (sk : Nat → Int32) (hq : 1 ≤ tq) (hq7 : tq ≤ 7) : MG l y_MA_pop w_MA_pop (rmK 0 0) D classes (tyz cI cZ) E0 [.ref ma] [(ma, .inr (6, [.ref ma_lo, .ref ma_ke, .ref ma_sk, .int (nI tq), .int y_at, .int y_wasUsed, .int y_taken, .int y_emitCount, .int y_ending, .int y_outcome])), (ma_sk, .inl (cI, 7, .inl sk))] (RI D classes (tyz cI cZ) (sk (tq - 1)) [(ma, .inr (6, [.ref ma_lo, .ref ma_ke, .ref ma_sk, .int (nI (tq - 1)), .int y_at, .int y_wasUsed, .int y_taken, .int y_emitCount, .int y_ending, .int y_outcome])), (ma_sk, .inl (cI, 7, .inl sk))]) := by
  refine MG.of (cc := b_MA_pop) (maxL := 1) (ret := (some .int)) (own := "FlowFlattener$Machine") rfl (by decide) rfl (Nat.le_of_ble_eq_true rfl) ?_
  intro p e s m below meth c A ls S hr hlocks hA hP hK hD hS hE hl
  have hx := S.1
  have hb := S.2.1
  have hl : lv_has ls 1 [(0, .ref ma)] := hl
  refine lv_aload_n hx hb d_MA_pop_0 rfl (lv_at hl 0 rfl) ?_
  refine k_get (v := .int (nI tq)) S in_MA hK hP 0 rfl rfl 3 (by decide) ql_MA_45 rfl d_MA_pop_1 ?_
  refine n_if_ne (tgt := 9) hx hb (by omega) d_MA_pop_4 (by decide) (fun h4_1 => ?_) (fun h4_1 => absurd h4_1 (by omega))
  refine lv_aload_n hx hb d_MA_pop_9 rfl (lv_at hl 0 rfl) ?_
  refine lv_dup hx hb d_MA_pop_10 rfl ?_
  refine k_get (v := .int (nI tq)) S in_MA hK hP 0 rfl rfl 3 (by decide) ql_MA_45 rfl d_MA_pop_11 ?_
  refine lv_iconst (v := 1) hx hb d_MA_pop_14 (by decide) ?_
  refine lv_isub hx hb d_MA_pop_15 ?_
  refine k_top (y := nI (tq - 1)) (nc_sub rfl (by decide) (by omega)) ?_
  refine k_put (v := .int (nI (tq - 1))) (ws' := [(ma, .inr (6, [.ref ma_lo, .ref ma_ke, .ref ma_sk, .int (nI (tq - 1)), .int y_at, .int y_wasUsed, .int y_taken, .int y_emitCount, .int y_ending, .int y_outcome])), (ma_sk, .inl (cI, 7, .inl sk))]) S in_MA ty_MA nm_MA hK hP hD hS 0 rfl rfl 3 (by decide) ql_MA_45 rfl rfl rfl rfl (Nat.le_of_ble_eq_true rfl) rfl d_MA_pop_16 (fun H locs hP hD hS => ?_)
  refine lv_aload_n hx hb d_MA_pop_19 rfl (lv_at hl 0 rfl) ?_
  refine k_get (v := .ref ma_sk) S in_MA hK hP 0 rfl rfl 2 (by decide) ql_MA_18 rfl d_MA_pop_20 ?_
  refine lv_aload_n hx hb d_MA_pop_23 rfl (lv_at hl 0 rfl) ?_
  refine k_get (v := .int (nI (tq - 1))) S in_MA hK hP 0 rfl rfl 3 (by decide) ql_MA_45 rfl d_MA_pop_24 ?_
  refine k_ld (k := tq - 1) hx hb hK hP 1 0 rfl rfl rfl (by omega) (by decide) d_MA_pop_27 ?_
  exact k_iret hx hb hr hlocks hK hP hD hS rfl rfl d_MA_pop_28

theorem d_MA_end_0 : decode b_MA_end 0 = .ok (.aload_n 0, 1) := by decide +kernel
theorem d_MA_end_1 : decode b_MA_end 1 = .ok (.iload_n 1, 1) := by decide +kernel
theorem d_MA_end_2 : decode b_MA_end 2 = .ok (.putfield 25, 3) := by decide +kernel
theorem d_MA_end_5 : decode b_MA_end 5 = .ok (.aload_n 0, 1) := by decide +kernel
theorem d_MA_end_6 : decode b_MA_end 6 = .ok (.iload_n 2, 1) := by decide +kernel
theorem d_MA_end_7 : decode b_MA_end 7 = .ok (.putfield 55, 3) := by decide +kernel
theorem d_MA_end_10 : decode b_MA_end 10 = .ok (.return_, 1) := by decide +kernel
set_option maxHeartbeats 1000000 in
set_option maxRecDepth 100000 in
theorem c_MA_end (l : Launch) (D : va_G) (cI cZ : ClassId) (ma : Nat) (ma_lo ma_ke ma_sk : Nat) (y_top y_at y_wasUsed y_taken y_emitCount y_ending y_outcome : Int32) (u v : Int32) : MG l y_MA_end w_MA_end (rmK 0 0) D classes (tyz cI cZ) E0 [.ref ma, .int u, .int v] [(ma, .inr (6, [.ref ma_lo, .ref ma_ke, .ref ma_sk, .int y_top, .int y_at, .int y_wasUsed, .int y_taken, .int y_emitCount, .int y_ending, .int y_outcome]))] (RV D classes (tyz cI cZ) [(ma, .inr (6, [.ref ma_lo, .ref ma_ke, .ref ma_sk, .int y_top, .int y_at, .int y_wasUsed, .int y_taken, .int y_emitCount, .int u, .int v]))]) := by
  refine MG.of (cc := b_MA_end) (maxL := 3) (ret := none) (own := "FlowFlattener$Machine") rfl (by decide) rfl (Nat.le_of_ble_eq_true rfl) ?_
  intro p e s m below meth c A ls S hr hlocks hA hP hK hD hS hE hl
  have hx := S.1
  have hb := S.2.1
  have hl : lv_has ls 3 [(0, .ref ma), (1, .int u), (2, .int v)] := hl
  refine lv_aload_n hx hb d_MA_end_0 rfl (lv_at hl 0 rfl) ?_
  refine lv_iload_n hx hb d_MA_end_1 rfl (lv_at hl 1 rfl) ?_
  refine k_put (v := .int u) (ws' := [(ma, .inr (6, [.ref ma_lo, .ref ma_ke, .ref ma_sk, .int y_top, .int y_at, .int y_wasUsed, .int y_taken, .int y_emitCount, .int u, .int y_outcome]))]) S in_MA ty_MA nm_MA hK hP hD hS 0 rfl rfl 8 (by decide) ql_MA_25 rfl rfl rfl rfl (Nat.le_of_ble_eq_true rfl) rfl d_MA_end_2 (fun H locs hP hD hS => ?_)
  refine lv_aload_n hx hb d_MA_end_5 rfl (lv_at hl 0 rfl) ?_
  refine lv_iload_n hx hb d_MA_end_6 rfl (lv_at hl 2 rfl) ?_
  refine k_put (v := .int v) (ws' := [(ma, .inr (6, [.ref ma_lo, .ref ma_ke, .ref ma_sk, .int y_top, .int y_at, .int y_wasUsed, .int y_taken, .int y_emitCount, .int u, .int v]))]) S in_MA ty_MA nm_MA hK hP hD hS 0 rfl rfl 9 (by decide) ql_MA_55 rfl rfl rfl rfl (Nat.le_of_ble_eq_true rfl) rfl d_MA_end_7 (fun H locs hP hD hS => ?_)
  exact k_vret hx hb hr hlocks hK hP hD hS rfl d_MA_end_10

theorem d_MA_pushBoth_0 : decode b_MA_pushBoth 0 = .ok (.aload_n 0, 1) := by decide +kernel
theorem d_MA_pushBoth_1 : decode b_MA_pushBoth 1 = .ok (.iload_n 1, 1) := by decide +kernel
theorem d_MA_pushBoth_2 : decode b_MA_pushBoth 2 = .ok (.invokevirtual 89, 3) := by decide +kernel
theorem d_MA_pushBoth_5 : decode b_MA_pushBoth 5 = .ok (.aload_n 0, 1) := by decide +kernel
theorem d_MA_pushBoth_6 : decode b_MA_pushBoth 6 = .ok (.iload_n 1, 1) := by decide +kernel
theorem d_MA_pushBoth_7 : decode b_MA_pushBoth 7 = .ok (.invokevirtual 89, 3) := by decide +kernel
theorem d_MA_pushBoth_10 : decode b_MA_pushBoth 10 = .ok (.return_, 1) := by decide +kernel
set_option maxHeartbeats 1000000 in
set_option maxRecDepth 100000 in
theorem c_MA_pushBoth (l : Launch) (D : va_G) (cI cZ : ClassId) (ma : Nat) (ma_lo ma_ke ma_sk : Nat) (y_at y_wasUsed y_taken y_emitCount y_ending y_outcome : Int32) (tq : Nat) (sk : Nat → Int32) (v : Int32) (hq : tq < 6) : MG l y_MA_pushBoth w_MA_pushBoth (rmK 1 21) D classes (tyz cI cZ) E0 [.ref ma, .int v] [(ma, .inr (6, [.ref ma_lo, .ref ma_ke, .ref ma_sk, .int (nI tq), .int y_at, .int y_wasUsed, .int y_taken, .int y_emitCount, .int y_ending, .int y_outcome])), (ma_sk, .inl (cI, 7, .inl sk))] (RV D classes (tyz cI cZ) [(ma, .inr (6, [.ref ma_lo, .ref ma_ke, .ref ma_sk, .int (nI (tq + 1 + 1)), .int y_at, .int y_wasUsed, .int y_taken, .int y_emitCount, .int y_ending, .int y_outcome])), (ma_sk, .inl (cI, 7, .inl (upd (upd sk tq v) (tq + 1) v)))]) := by
  refine MG.of (cc := b_MA_pushBoth) (maxL := 2) (ret := none) (own := "FlowFlattener$Machine") rfl (by decide) rfl (Nat.le_of_ble_eq_true rfl) ?_
  intro p e s m below meth c A ls S hr hlocks hA hP hK hD hS hE hl
  have hx := S.1
  have hb := S.2.1
  have hl : lv_has ls 2 [(0, .ref ma), (1, .int v)] := hl
  refine lv_aload_n hx hb d_MA_pushBoth_0 rfl (lv_at hl 0 rfl) ?_
  refine lv_iload_n hx hb d_MA_pushBoth_1 rfl (lv_at hl 1 rfl) ?_
  refine k_gov (ws' := [(ma, .inr (6, [.ref ma_lo, .ref ma_ke, .ref ma_sk, .int (nI (tq + 1)), .int y_at, .int y_wasUsed, .int y_taken, .int y_emitCount, .int y_ending, .int y_outcome])), (ma_sk, .inl (cI, 7, .inl (upd sk tq v)))]) (wr := []) (k_runV (q0 := 0) (As := [.int v]) (rest := []) (n := 1) S (c_MA_push l D cI cZ ma ma_lo ma_ke ma_sk y_at y_wasUsed y_taken y_emitCount y_ending y_outcome tq sk v (by omega)) E0_b E0_t ql_MA_89 qi_MA_push qs_MA_push qn_MA qc_MA_push (by decide +kernel) rfl ⟨rfl, rfl⟩ ⟨Nat.le_of_ble_eq_true rfl, Nat.le_of_ble_eq_true rfl⟩ hK hP hD [0, 1] rfl (by decide) rfl rfl hl.1 rfl (Nat.le_of_ble_eq_true rfl) d_MA_pushBoth_2 ⟨Nat.zero_le _, Nat.zero_le _⟩) hP hD hS hA [0, 1] [] [0, 1] rfl rfl (by decide) (by decide) rfl (by decide) (fun H locs hP hD hS => ?_)
  refine lv_aload_n hx hb d_MA_pushBoth_5 rfl (lv_at hl 0 rfl) ?_
  refine lv_iload_n hx hb d_MA_pushBoth_6 rfl (lv_at hl 1 rfl) ?_
  refine k_gov (ws' := [(ma, .inr (6, [.ref ma_lo, .ref ma_ke, .ref ma_sk, .int (nI ((tq + 1) + 1)), .int y_at, .int y_wasUsed, .int y_taken, .int y_emitCount, .int y_ending, .int y_outcome])), (ma_sk, .inl (cI, 7, .inl (upd (upd sk tq v) (tq + 1) v)))]) (wr := []) (k_runV (q0 := 0) (As := [.int v]) (rest := []) (n := 1) S (c_MA_push l D cI cZ ma ma_lo ma_ke ma_sk y_at y_wasUsed y_taken y_emitCount y_ending y_outcome (tq + 1) (upd sk tq v) v (by omega)) E0_b E0_t ql_MA_89 qi_MA_push qs_MA_push qn_MA qc_MA_push (by decide +kernel) rfl ⟨rfl, rfl⟩ ⟨Nat.le_of_ble_eq_true rfl, Nat.le_of_ble_eq_true rfl⟩ hK hP hD [0, 1] rfl (by decide) rfl rfl hl.1 rfl (Nat.le_of_ble_eq_true rfl) d_MA_pushBoth_7 ⟨Nat.zero_le _, Nat.zero_le _⟩) hP hD hS hA [0, 1] [] [0, 1] rfl rfl (by decide) (by decide) rfl (by decide) (fun H locs hP hD hS => ?_)
  exact k_vret hx hb hr hlocks hK hP hD hS rfl d_MA_pushBoth_10

theorem d_MA_emit_0 : decode b_MA_emit 0 = .ok (.aload_n 0, 1) := by decide +kernel
theorem d_MA_emit_1 : decode b_MA_emit 1 = .ok (.getfield 52, 3) := by decide +kernel
theorem d_MA_emit_4 : decode b_MA_emit 4 = .ok (.bipush 40, 2) := by decide +kernel
theorem d_MA_emit_6 : decode b_MA_emit 6 = .ok (.if_icmp .ge 13, 3) := by decide +kernel
theorem d_MA_emit_9 : decode b_MA_emit 9 = .ok (.aload_n 0, 1) := by decide +kernel
theorem d_MA_emit_10 : decode b_MA_emit 10 = .ok (.getfield 15, 3) := by decide +kernel
theorem d_MA_emit_13 : decode b_MA_emit 13 = .ok (.aload_n 0, 1) := by decide +kernel
theorem d_MA_emit_14 : decode b_MA_emit 14 = .ok (.getfield 52, 3) := by decide +kernel
theorem d_MA_emit_17 : decode b_MA_emit 17 = .ok (.iload_n 1, 1) := by decide +kernel
theorem d_MA_emit_18 : decode b_MA_emit 18 = .ok (.iastore, 1) := by decide +kernel
theorem d_MA_emit_19 : decode b_MA_emit 19 = .ok (.aload_n 0, 1) := by decide +kernel
theorem d_MA_emit_20 : decode b_MA_emit 20 = .ok (.dup, 1) := by decide +kernel
theorem d_MA_emit_21 : decode b_MA_emit 21 = .ok (.getfield 52, 3) := by decide +kernel
theorem d_MA_emit_24 : decode b_MA_emit 24 = .ok (.iconst 1, 1) := by decide +kernel
theorem d_MA_emit_25 : decode b_MA_emit 25 = .ok (.iadd, 1) := by decide +kernel
theorem d_MA_emit_26 : decode b_MA_emit 26 = .ok (.putfield 52, 3) := by decide +kernel
theorem d_MA_emit_29 : decode b_MA_emit 29 = .ok (.return_, 1) := by decide +kernel
def f_MA_emit (em : Nat) (ke : Nat → Int32) (v : Int32) : (Nat → Int32) := (if 40 ≤ em then ke else upd ke em v)
set_option maxHeartbeats 1000000 in
set_option maxRecDepth 100000 in
theorem c_MA_emit (l : Launch) (D : va_G) (cI cZ : ClassId) (ma : Nat) (ma_lo ma_ke ma_sk : Nat) (y_top y_at y_wasUsed y_taken y_ending y_outcome : Int32) (em : Nat) (ke : Nat → Int32) (v : Int32) (hem : em < 2 ^ 31) : MG l y_MA_emit w_MA_emit (rmK 0 0) D classes (tyz cI cZ) E0 [.ref ma, .int v] [(ma, .inr (6, [.ref ma_lo, .ref ma_ke, .ref ma_sk, .int y_top, .int y_at, .int y_wasUsed, .int y_taken, .int (nI em), .int y_ending, .int y_outcome])), (ma_ke, .inl (cI, 40, .inl ke))] (RV D classes (tyz cI cZ) [(ma, .inr (6, [.ref ma_lo, .ref ma_ke, .ref ma_sk, .int y_top, .int y_at, .int y_wasUsed, .int y_taken, .int (nI (em + 1)), .int y_ending, .int y_outcome])), (ma_ke, .inl (cI, 40, .inl (f_MA_emit em ke v)))]) := by
  refine MG.of (cc := b_MA_emit) (maxL := 2) (ret := none) (own := "FlowFlattener$Machine") rfl (by decide) rfl (Nat.le_of_ble_eq_true rfl) ?_
  intro p e s m below meth c A ls S hr hlocks hA hP hK hD hS hE hl
  have hx := S.1
  have hb := S.2.1
  have hl : lv_has ls 2 [(0, .ref ma), (1, .int v)] := hl
  refine lv_aload_n hx hb d_MA_emit_0 rfl (lv_at hl 0 rfl) ?_
  refine k_get (v := .int (nI em)) S in_MA hK hP 0 rfl rfl 7 (by decide) ql_MA_52 rfl d_MA_emit_1 ?_
  refine lv_bipush (v := 40) hx hb d_MA_emit_4 (by decide) ?_
  refine n_icmp_ge (tgt := 19) (x := em) (y := 40) hx hb rfl (by decide) (by omega) (by omega) d_MA_emit_6 (by decide) (fun h6_1 => ?_) (fun h6_1 => ?_)
  · skip
    refine lv_aload_n hx hb d_MA_emit_19 rfl (lv_at hl 0 rfl) ?_
    refine lv_dup hx hb d_MA_emit_20 rfl ?_
    refine k_get (v := .int (nI em)) S in_MA hK hP 0 rfl rfl 7 (by decide) ql_MA_52 rfl d_MA_emit_21 ?_
    refine lv_iconst (v := 1) hx hb d_MA_emit_24 (by decide) ?_
    refine lv_iadd hx hb d_MA_emit_25 ?_
    refine k_top (y := nI (em + 1)) (nc_add rfl (by decide)) ?_
    refine k_put (v := .int (nI (em + 1))) (ws' := [(ma, .inr (6, [.ref ma_lo, .ref ma_ke, .ref ma_sk, .int y_top, .int y_at, .int y_wasUsed, .int y_taken, .int (nI (em + 1)), .int y_ending, .int y_outcome])), (ma_ke, .inl (cI, 40, .inl ke))]) S in_MA ty_MA nm_MA hK hP hD hS 0 rfl rfl 7 (by decide) ql_MA_52 rfl rfl rfl rfl (Nat.le_of_ble_eq_true rfl) rfl d_MA_emit_26 (fun H locs hP hD hS => ?_)
    exact k_vret hx hb hr hlocks hK hP hD hS (by rw [f_MA_emit, if_pos h6_1]) d_MA_emit_29
  · skip
    refine lv_aload_n hx hb d_MA_emit_9 rfl (lv_at hl 0 rfl) ?_
    refine k_get (v := .ref ma_ke) S in_MA hK hP 0 rfl rfl 1 (by decide) ql_MA_15 rfl d_MA_emit_10 ?_
    refine lv_aload_n hx hb d_MA_emit_13 rfl (lv_at hl 0 rfl) ?_
    refine k_get (v := .int (nI em)) S in_MA hK hP 0 rfl rfl 7 (by decide) ql_MA_52 rfl d_MA_emit_14 ?_
    refine lv_iload_n hx hb d_MA_emit_17 rfl (lv_at hl 1 rfl) ?_
    refine k_st (k := em) (x := v) (ws' := [(ma, .inr (6, [.ref ma_lo, .ref ma_ke, .ref ma_sk, .int y_top, .int y_at, .int y_wasUsed, .int y_taken, .int (nI em), .int y_ending, .int y_outcome])), (ma_ke, .inl (cI, 40, .inl (upd ke em v)))]) hx hb hK hP hD hS 1 0 rfl rfl rfl (by omega) (by decide) rfl d_MA_emit_18 (fun H locs hP hD hS => ?_)
    refine lv_aload_n hx hb d_MA_emit_19 rfl (lv_at hl 0 rfl) ?_
    refine lv_dup hx hb d_MA_emit_20 rfl ?_
    refine k_get (v := .int (nI em)) S in_MA hK hP 0 rfl rfl 7 (by decide) ql_MA_52 rfl d_MA_emit_21 ?_
    refine lv_iconst (v := 1) hx hb d_MA_emit_24 (by decide) ?_
    refine lv_iadd hx hb d_MA_emit_25 ?_
    refine k_top (y := nI (em + 1)) (nc_add rfl (by decide)) ?_
    refine k_put (v := .int (nI (em + 1))) (ws' := [(ma, .inr (6, [.ref ma_lo, .ref ma_ke, .ref ma_sk, .int y_top, .int y_at, .int y_wasUsed, .int y_taken, .int (nI (em + 1)), .int y_ending, .int y_outcome])), (ma_ke, .inl (cI, 40, .inl (upd ke em v)))]) S in_MA ty_MA nm_MA hK hP hD hS 0 rfl rfl 7 (by decide) ql_MA_52 rfl rfl rfl rfl (Nat.le_of_ble_eq_true rfl) rfl d_MA_emit_26 (fun H locs hP hD hS => ?_)
    exact k_vret hx hb hr hlocks hK hP hD hS (by rw [f_MA_emit, if_neg (show ¬ (40 ≤ em) by omega)]) d_MA_emit_29

theorem d_MA_calculated_0 : decode b_MA_calculated 0 = .ok (.iload_n 0, 1) := by decide +kernel
theorem d_MA_calculated_1 : decode b_MA_calculated 1 = .ok (.tableswitch 51 3 7 #[35, 39, 43, 51, 47], 35) := by decide +kernel
theorem d_MA_calculated_36 : decode b_MA_calculated 36 = .ok (.iload_n 1, 1) := by decide +kernel
theorem d_MA_calculated_37 : decode b_MA_calculated 37 = .ok (.iload_n 2, 1) := by decide +kernel
theorem d_MA_calculated_38 : decode b_MA_calculated 38 = .ok (.iadd, 1) := by decide +kernel
theorem d_MA_calculated_39 : decode b_MA_calculated 39 = .ok (.ireturn, 1) := by decide +kernel
theorem d_MA_calculated_40 : decode b_MA_calculated 40 = .ok (.iload_n 1, 1) := by decide +kernel
theorem d_MA_calculated_41 : decode b_MA_calculated 41 = .ok (.iload_n 2, 1) := by decide +kernel
theorem d_MA_calculated_42 : decode b_MA_calculated 42 = .ok (.isub, 1) := by decide +kernel
theorem d_MA_calculated_43 : decode b_MA_calculated 43 = .ok (.ireturn, 1) := by decide +kernel
theorem d_MA_calculated_44 : decode b_MA_calculated 44 = .ok (.iload_n 1, 1) := by decide +kernel
theorem d_MA_calculated_45 : decode b_MA_calculated 45 = .ok (.iload_n 2, 1) := by decide +kernel
theorem d_MA_calculated_46 : decode b_MA_calculated 46 = .ok (.imul, 1) := by decide +kernel
theorem d_MA_calculated_47 : decode b_MA_calculated 47 = .ok (.ireturn, 1) := by decide +kernel
theorem d_MA_calculated_48 : decode b_MA_calculated 48 = .ok (.iload_n 1, 1) := by decide +kernel
theorem d_MA_calculated_49 : decode b_MA_calculated 49 = .ok (.iload_n 2, 1) := by decide +kernel
theorem d_MA_calculated_50 : decode b_MA_calculated 50 = .ok (.iand, 1) := by decide +kernel
theorem d_MA_calculated_51 : decode b_MA_calculated 51 = .ok (.ireturn, 1) := by decide +kernel
theorem d_MA_calculated_52 : decode b_MA_calculated 52 = .ok (.iload_n 1, 1) := by decide +kernel
theorem d_MA_calculated_53 : decode b_MA_calculated 53 = .ok (.iload_n 2, 1) := by decide +kernel
theorem d_MA_calculated_54 : decode b_MA_calculated 54 = .ok (.ixor, 1) := by decide +kernel
theorem d_MA_calculated_55 : decode b_MA_calculated 55 = .ok (.ireturn, 1) := by decide +kernel
def f_MA_calculated (o : Int32) (u : Int32) (v : Int32) : Int32 := (if o = 3 then u + v else (if o = 4 then u - v else (if o = 5 then u * v else (if o = 7 then u &&& v else (if o = 6 then u ^^^ v else u ^^^ v)))))
set_option maxHeartbeats 1000000 in
set_option maxRecDepth 100000 in
theorem c_MA_calculated (l : Launch) (D : va_G) (cI cZ : ClassId) (o u v : Int32) : MG l y_MA_calculated w_MA_calculated (rmK 0 0) D classes (tyz cI cZ) E0 [.int o, .int u, .int v] [] (RI D classes (tyz cI cZ) (f_MA_calculated o u v) []) := by
  refine MG.of (cc := b_MA_calculated) (maxL := 3) (ret := (some .int)) (own := "FlowFlattener$Machine") rfl (by decide) rfl (Nat.le_of_ble_eq_true rfl) ?_
  intro p e s m below meth c A ls S hr hlocks hA hP hK hD hS hE hl
  have hx := S.1
  have hb := S.2.1
  have hl : lv_has ls 3 [(0, .int o), (1, .int u), (2, .int v)] := hl
  refine lv_iload_n hx hb d_MA_calculated_0 rfl (lv_at hl 0 rfl) ?_
  by_cases h1_1 : o = 3
  · skip
    refine k_top h1_1 ?_
    refine lv_tableIn (tgt := 36) hx hb d_MA_calculated_1 (by decide) (by decide) rfl (by decide) ?_
    refine lv_iload_n hx hb d_MA_calculated_36 rfl (lv_at hl 1 rfl) ?_
    refine lv_iload_n hx hb d_MA_calculated_37 rfl (lv_at hl 2 rfl) ?_
    refine lv_iadd hx hb d_MA_calculated_38 ?_
    exact k_iret hx hb hr hlocks hK hP hD hS (by rw [f_MA_calculated, if_pos h1_1]) rfl d_MA_calculated_39
  by_cases h1_2 : o = 4
  · skip
    refine k_top h1_2 ?_
    refine lv_tableIn (tgt := 40) hx hb d_MA_calculated_1 (by decide) (by decide) rfl (by decide) ?_
    refine lv_iload_n hx hb d_MA_calculated_40 rfl (lv_at hl 1 rfl) ?_
    refine lv_iload_n hx hb d_MA_calculated_41 rfl (lv_at hl 2 rfl) ?_
    refine lv_isub hx hb d_MA_calculated_42 ?_
    exact k_iret hx hb hr hlocks hK hP hD hS (by rw [f_MA_calculated, if_neg h1_1, if_pos h1_2]) rfl d_MA_calculated_43
  by_cases h1_3 : o = 5
  · skip
    refine k_top h1_3 ?_
    refine lv_tableIn (tgt := 44) hx hb d_MA_calculated_1 (by decide) (by decide) rfl (by decide) ?_
    refine lv_iload_n hx hb d_MA_calculated_44 rfl (lv_at hl 1 rfl) ?_
    refine lv_iload_n hx hb d_MA_calculated_45 rfl (lv_at hl 2 rfl) ?_
    refine lv_imul hx hb d_MA_calculated_46 ?_
    exact k_iret hx hb hr hlocks hK hP hD hS (by rw [f_MA_calculated, if_neg h1_1, if_neg h1_2, if_pos h1_3]) rfl d_MA_calculated_47
  by_cases h1_4 : o = 7
  · skip
    refine k_top h1_4 ?_
    refine lv_tableIn (tgt := 48) hx hb d_MA_calculated_1 (by decide) (by decide) rfl (by decide) ?_
    refine lv_iload_n hx hb d_MA_calculated_48 rfl (lv_at hl 1 rfl) ?_
    refine lv_iload_n hx hb d_MA_calculated_49 rfl (lv_at hl 2 rfl) ?_
    refine lv_iand hx hb d_MA_calculated_50 ?_
    exact k_iret hx hb hr hlocks hK hP hD hS (by rw [f_MA_calculated, if_neg h1_1, if_neg h1_2, if_neg h1_3, if_pos h1_4]) rfl d_MA_calculated_51
  by_cases h1_5 : o = 6
  · skip
    refine k_top h1_5 ?_
    refine lv_tableIn (tgt := 52) hx hb d_MA_calculated_1 (by decide) (by decide) rfl (by decide) ?_
    refine lv_iload_n hx hb d_MA_calculated_52 rfl (lv_at hl 1 rfl) ?_
    refine lv_iload_n hx hb d_MA_calculated_53 rfl (lv_at hl 2 rfl) ?_
    refine lv_ixor hx hb d_MA_calculated_54 ?_
    exact k_iret hx hb hr hlocks hK hP hD hS (by rw [f_MA_calculated, if_neg h1_1, if_neg h1_2, if_neg h1_3, if_neg h1_4, if_pos h1_5]) rfl d_MA_calculated_55
  refine lv_tableOut (tgt := 52) hx hb d_MA_calculated_1 (by have e0 := lv_neT h1_1 (show (3 : Int32).toInt = 3 by decide); have e1 := lv_neT h1_2 (show (4 : Int32).toInt = 4 by decide); have e2 := lv_neT h1_3 (show (5 : Int32).toInt = 5 by decide); have e3 := lv_neT h1_4 (show (7 : Int32).toInt = 7 by decide); have e4 := lv_neT h1_5 (show (6 : Int32).toInt = 6 by decide); omega) (by decide) ?_
  refine lv_iload_n hx hb d_MA_calculated_52 rfl (lv_at hl 1 rfl) ?_
  refine lv_iload_n hx hb d_MA_calculated_53 rfl (lv_at hl 2 rfl) ?_
  refine lv_ixor hx hb d_MA_calculated_54 ?_
  exact k_iret hx hb hr hlocks hK hP hD hS (by rw [f_MA_calculated, if_neg h1_1, if_neg h1_2, if_neg h1_3, if_neg h1_4, if_neg h1_5]) rfl d_MA_calculated_55

theorem d_MA_workOnTwo_0 : decode b_MA_workOnTwo 0 = .ok (.aload_n 0, 1) := by decide +kernel
theorem d_MA_workOnTwo_1 : decode b_MA_workOnTwo 1 = .ok (.invokevirtual 64, 3) := by decide +kernel
theorem d_MA_workOnTwo_4 : decode b_MA_workOnTwo 4 = .ok (.istore_n 2, 1) := by decide +kernel
theorem d_MA_workOnTwo_5 : decode b_MA_workOnTwo 5 = .ok (.aload_n 0, 1) := by decide +kernel
theorem d_MA_workOnTwo_6 : decode b_MA_workOnTwo 6 = .ok (.invokevirtual 64, 3) := by decide +kernel
theorem d_MA_workOnTwo_9 : decode b_MA_workOnTwo 9 = .ok (.istore_n 3, 1) := by decide +kernel
theorem d_MA_workOnTwo_10 : decode b_MA_workOnTwo 10 = .ok (.iload_n 1, 1) := by decide +kernel
theorem d_MA_workOnTwo_11 : decode b_MA_workOnTwo 11 = .ok (.bipush 10, 2) := by decide +kernel
theorem d_MA_workOnTwo_13 : decode b_MA_workOnTwo 13 = .ok (.if_icmp .ne 16, 3) := by decide +kernel
theorem d_MA_workOnTwo_16 : decode b_MA_workOnTwo 16 = .ok (.aload_n 0, 1) := by decide +kernel
theorem d_MA_workOnTwo_17 : decode b_MA_workOnTwo 17 = .ok (.iload_n 2, 1) := by decide +kernel
theorem d_MA_workOnTwo_18 : decode b_MA_workOnTwo 18 = .ok (.invokevirtual 89, 3) := by decide +kernel
theorem d_MA_workOnTwo_21 : decode b_MA_workOnTwo 21 = .ok (.aload_n 0, 1) := by decide +kernel
theorem d_MA_workOnTwo_22 : decode b_MA_workOnTwo 22 = .ok (.iload_n 3, 1) := by decide +kernel
theorem d_MA_workOnTwo_23 : decode b_MA_workOnTwo 23 = .ok (.invokevirtual 89, 3) := by decide +kernel
theorem d_MA_workOnTwo_26 : decode b_MA_workOnTwo 26 = .ok (.goto 13, 3) := by decide +kernel
theorem d_MA_workOnTwo_29 : decode b_MA_workOnTwo 29 = .ok (.aload_n 0, 1) := by decide +kernel
theorem d_MA_workOnTwo_30 : decode b_MA_workOnTwo 30 = .ok (.iload_n 1, 1) := by decide +kernel
theorem d_MA_workOnTwo_31 : decode b_MA_workOnTwo 31 = .ok (.iload_n 3, 1) := by decide +kernel
theorem d_MA_workOnTwo_32 : decode b_MA_workOnTwo 32 = .ok (.iload_n 2, 1) := by decide +kernel
theorem d_MA_workOnTwo_33 : decode b_MA_workOnTwo 33 = .ok (.invokestatic 102, 3) := by decide +kernel
theorem d_MA_workOnTwo_36 : decode b_MA_workOnTwo 36 = .ok (.invokevirtual 89, 3) := by decide +kernel
theorem d_MA_workOnTwo_39 : decode b_MA_workOnTwo 39 = .ok (.return_, 1) := by decide +kernel
def f_MA_workOnTwo (tq : Nat) (sk : Nat → Int32) (o : Int32) : (Nat → Int32) × Nat := (if o = 10 then (upd (upd sk ((tq - 1) - 1) (sk (tq - 1))) (((tq - 1) - 1) + 1) (sk ((tq - 1) - 1)), (((tq - 1) - 1) + 1) + 1) else (upd sk ((tq - 1) - 1) (f_MA_calculated o (sk ((tq - 1) - 1)) (sk (tq - 1))), ((tq - 1) - 1) + 1))
set_option maxHeartbeats 1000000 in
set_option maxRecDepth 100000 in
theorem c_MA_workOnTwo (l : Launch) (D : va_G) (cI cZ : ClassId) (ma : Nat) (ma_lo ma_ke ma_sk : Nat) (y_at y_wasUsed y_taken y_emitCount y_ending y_outcome : Int32) (tq : Nat) (sk : Nat → Int32) (o : Int32) (hq : 2 ≤ tq) (hq7 : tq ≤ 7) : MG l y_MA_workOnTwo w_MA_workOnTwo (rmK 1 22) D classes (tyz cI cZ) E0 [.ref ma, .int o] [(ma, .inr (6, [.ref ma_lo, .ref ma_ke, .ref ma_sk, .int (nI tq), .int y_at, .int y_wasUsed, .int y_taken, .int y_emitCount, .int y_ending, .int y_outcome])), (ma_sk, .inl (cI, 7, .inl sk))] (RV D classes (tyz cI cZ) [(ma, .inr (6, [.ref ma_lo, .ref ma_ke, .ref ma_sk, .int (nI ((f_MA_workOnTwo tq sk o).2)), .int y_at, .int y_wasUsed, .int y_taken, .int y_emitCount, .int y_ending, .int y_outcome])), (ma_sk, .inl (cI, 7, .inl ((f_MA_workOnTwo tq sk o).1)))]) := by
  refine MG.of (cc := b_MA_workOnTwo) (maxL := 4) (ret := none) (own := "FlowFlattener$Machine") rfl (by decide) rfl (Nat.le_of_ble_eq_true rfl) ?_
  intro p e s m below meth c A ls S hr hlocks hA hP hK hD hS hE hl
  have hx := S.1
  have hb := S.2.1
  have hl : lv_has ls 4 [(0, .ref ma), (1, .int o)] := hl
  refine lv_aload_n hx hb d_MA_workOnTwo_0 rfl (lv_at hl 0 rfl) ?_
  refine k_goi (ws' := [(ma, .inr (6, [.ref ma_lo, .ref ma_ke, .ref ma_sk, .int (nI (tq - 1)), .int y_at, .int y_wasUsed, .int y_taken, .int y_emitCount, .int y_ending, .int y_outcome])), (ma_sk, .inl (cI, 7, .inl sk))]) (wr := []) (k_runV (q0 := 0) (As := []) (rest := []) (n := 0) S (c_MA_pop l D cI cZ ma ma_lo ma_ke ma_sk y_at y_wasUsed y_taken y_emitCount y_ending y_outcome tq sk (by omega) (by omega)) E0_b E0_t ql_MA_64 qi_MA_pop qs_MA_pop qn_MA qc_MA_pop (by decide +kernel) rfl ⟨rfl, rfl⟩ ⟨Nat.le_of_ble_eq_true rfl, Nat.le_of_ble_eq_true rfl⟩ hK hP hD [0, 1] rfl (by decide) rfl rfl hl.1 rfl (Nat.le_of_ble_eq_true rfl) d_MA_workOnTwo_1 ⟨Nat.zero_le _, Nat.zero_le _⟩) hP hD hS hA [0, 1] [] [0, 1] rfl rfl (by decide) (by decide) rfl (by decide) (fun H locs hP hD hS => ?_)
  refine lv_istore_n (lv' := [(2, .int (sk (tq - 1))), (0, .ref ma), (1, .int o)]) hx hb d_MA_workOnTwo_4 rfl hl (by decide) rfl (fun ls hl => ?_)
  refine lv_aload_n hx hb d_MA_workOnTwo_5 rfl (lv_at hl 1 rfl) ?_
  refine k_goi (ws' := [(ma, .inr (6, [.ref ma_lo, .ref ma_ke, .ref ma_sk, .int (nI ((tq - 1) - 1)), .int y_at, .int y_wasUsed, .int y_taken, .int y_emitCount, .int y_ending, .int y_outcome])), (ma_sk, .inl (cI, 7, .inl sk))]) (wr := []) (k_runV (q0 := 0) (As := []) (rest := []) (n := 0) S (c_MA_pop l D cI cZ ma ma_lo ma_ke ma_sk y_at y_wasUsed y_taken y_emitCount y_ending y_outcome (tq - 1) sk (by omega) (by omega)) E0_b E0_t ql_MA_64 qi_MA_pop qs_MA_pop qn_MA qc_MA_pop (by decide +kernel) rfl ⟨rfl, rfl⟩ ⟨Nat.le_of_ble_eq_true rfl, Nat.le_of_ble_eq_true rfl⟩ hK hP hD [0, 1] rfl (by decide) rfl rfl hl.1 rfl (Nat.le_of_ble_eq_true rfl) d_MA_workOnTwo_6 ⟨Nat.zero_le _, Nat.zero_le _⟩) hP hD hS hA [0, 1] [] [0, 1] rfl rfl (by decide) (by decide) rfl (by decide) (fun H locs hP hD hS => ?_)
  refine lv_istore_n (lv' := [(3, .int (sk ((tq - 1) - 1))), (2, .int (sk (tq - 1))), (0, .ref ma), (1, .int o)]) hx hb d_MA_workOnTwo_9 rfl hl (by decide) rfl (fun ls hl => ?_)
  refine lv_iload_n hx hb d_MA_workOnTwo_10 rfl (lv_at hl 3 rfl) ?_
  refine lv_bipush (v := 10) hx hb d_MA_workOnTwo_11 (by decide) ?_
  refine lv_icmp_ne (tgt := 29) hx hb d_MA_workOnTwo_13 (by decide) (fun h13_1 => ?_) (fun h13_1 => ?_)
  · skip
    refine lv_aload_n hx hb d_MA_workOnTwo_29 rfl (lv_at hl 2 rfl) ?_
    refine lv_iload_n hx hb d_MA_workOnTwo_30 rfl (lv_at hl 3 rfl) ?_
    refine lv_iload_n hx hb d_MA_workOnTwo_31 rfl (lv_at hl 0 rfl) ?_
    refine lv_iload_n hx hb d_MA_workOnTwo_32 rfl (lv_at hl 1 rfl) ?_
    refine k_goi (ws' := [(ma, .inr (6, [.ref ma_lo, .ref ma_ke, .ref ma_sk, .int (nI ((tq - 1) - 1)), .int y_at, .int y_wasUsed, .int y_taken, .int y_emitCount, .int y_ending, .int y_outcome])), (ma_sk, .inl (cI, 7, .inl sk))]) (wr := [(ma, .inr (6, [.ref ma_lo, .ref ma_ke, .ref ma_sk, .int (nI ((tq - 1) - 1)), .int y_at, .int y_wasUsed, .int y_taken, .int y_emitCount, .int y_ending, .int y_outcome])), (ma_sk, .inl (cI, 7, .inl sk))]) (k_runS (As := [.int o, .int (sk ((tq - 1) - 1)), .int (sk (tq - 1))]) (rest := [.ref ma]) (n := 3) S (c_MA_calculated l D cI cZ o (sk ((tq - 1) - 1)) (sk (tq - 1))) E0_b E0_t ql_MA_102 qt_MA_calculated qn_MA qc_MA_calculated (by decide +kernel) rfl ⟨rfl, rfl⟩ ⟨Nat.le_of_ble_eq_true rfl, Nat.le_of_ble_eq_true rfl⟩ hK hP hD [] rfl (by decide) hl.1 rfl (Nat.le_of_ble_eq_true rfl) d_MA_workOnTwo_33 ⟨Nat.zero_le _, Nat.zero_le _⟩) hP hD hS hA [] [0, 1] [0, 1] rfl rfl (by decide) (by decide) rfl (by decide) (fun H locs hP hD hS => ?_)
    refine k_gov (ws' := [(ma, .inr (6, [.ref ma_lo, .ref ma_ke, .ref ma_sk, .int (nI (((tq - 1) - 1) + 1)), .int y_at, .int y_wasUsed, .int y_taken, .int y_emitCount, .int y_ending, .int y_outcome])), (ma_sk, .inl (cI, 7, .inl (upd sk ((tq - 1) - 1) (f_MA_calculated o (sk ((tq - 1) - 1)) (sk (tq - 1))))))]) (wr := []) (k_runV (q0 := 0) (As := [.int (f_MA_calculated o (sk ((tq - 1) - 1)) (sk (tq - 1)))]) (rest := []) (n := 1) S (c_MA_push l D cI cZ ma ma_lo ma_ke ma_sk y_at y_wasUsed y_taken y_emitCount y_ending y_outcome ((tq - 1) - 1) sk (f_MA_calculated o (sk ((tq - 1) - 1)) (sk (tq - 1))) (by omega)) E0_b E0_t ql_MA_89 qi_MA_push qs_MA_push qn_MA qc_MA_push (by decide +kernel) rfl ⟨rfl, rfl⟩ ⟨Nat.le_of_ble_eq_true rfl, Nat.le_of_ble_eq_true rfl⟩ hK hP hD [0, 1] rfl (by decide) rfl rfl hl.1 rfl (Nat.le_of_ble_eq_true rfl) d_MA_workOnTwo_36 ⟨Nat.zero_le _, Nat.zero_le _⟩) hP hD hS hA [0, 1] [] [0, 1] rfl rfl (by decide) (by decide) rfl (by decide) (fun H locs hP hD hS => ?_)
    exact k_vret hx hb hr hlocks hK hP hD hS (by rw [f_MA_workOnTwo, if_neg h13_1]) d_MA_workOnTwo_39
  · skip
    refine lv_aload_n hx hb d_MA_workOnTwo_16 rfl (lv_at hl 2 rfl) ?_
    refine lv_iload_n hx hb d_MA_workOnTwo_17 rfl (lv_at hl 1 rfl) ?_
    refine k_gov (ws' := [(ma, .inr (6, [.ref ma_lo, .ref ma_ke, .ref ma_sk, .int (nI (((tq - 1) - 1) + 1)), .int y_at, .int y_wasUsed, .int y_taken, .int y_emitCount, .int y_ending, .int y_outcome])), (ma_sk, .inl (cI, 7, .inl (upd sk ((tq - 1) - 1) (sk (tq - 1)))))]) (wr := []) (k_runV (q0 := 0) (As := [.int (sk (tq - 1))]) (rest := []) (n := 1) S (c_MA_push l D cI cZ ma ma_lo ma_ke ma_sk y_at y_wasUsed y_taken y_emitCount y_ending y_outcome ((tq - 1) - 1) sk (sk (tq - 1)) (by omega)) E0_b E0_t ql_MA_89 qi_MA_push qs_MA_push qn_MA qc_MA_push (by decide +kernel) rfl ⟨rfl, rfl⟩ ⟨Nat.le_of_ble_eq_true rfl, Nat.le_of_ble_eq_true rfl⟩ hK hP hD [0, 1] rfl (by decide) rfl rfl hl.1 rfl (Nat.le_of_ble_eq_true rfl) d_MA_workOnTwo_18 ⟨Nat.zero_le _, Nat.zero_le _⟩) hP hD hS hA [0, 1] [] [0, 1] rfl rfl (by decide) (by decide) rfl (by decide) (fun H locs hP hD hS => ?_)
    refine lv_aload_n hx hb d_MA_workOnTwo_21 rfl (lv_at hl 2 rfl) ?_
    refine lv_iload_n hx hb d_MA_workOnTwo_22 rfl (lv_at hl 0 rfl) ?_
    refine k_gov (ws' := [(ma, .inr (6, [.ref ma_lo, .ref ma_ke, .ref ma_sk, .int (nI ((((tq - 1) - 1) + 1) + 1)), .int y_at, .int y_wasUsed, .int y_taken, .int y_emitCount, .int y_ending, .int y_outcome])), (ma_sk, .inl (cI, 7, .inl (upd (upd sk ((tq - 1) - 1) (sk (tq - 1))) (((tq - 1) - 1) + 1) (sk ((tq - 1) - 1)))))]) (wr := []) (k_runV (q0 := 0) (As := [.int (sk ((tq - 1) - 1))]) (rest := []) (n := 1) S (c_MA_push l D cI cZ ma ma_lo ma_ke ma_sk y_at y_wasUsed y_taken y_emitCount y_ending y_outcome (((tq - 1) - 1) + 1) (upd sk ((tq - 1) - 1) (sk (tq - 1))) (sk ((tq - 1) - 1)) (by omega)) E0_b E0_t ql_MA_89 qi_MA_push qs_MA_push qn_MA qc_MA_push (by decide +kernel) rfl ⟨rfl, rfl⟩ ⟨Nat.le_of_ble_eq_true rfl, Nat.le_of_ble_eq_true rfl⟩ hK hP hD [0, 1] rfl (by decide) rfl rfl hl.1 rfl (Nat.le_of_ble_eq_true rfl) d_MA_workOnTwo_23 ⟨Nat.zero_le _, Nat.zero_le _⟩) hP hD hS hA [0, 1] [] [0, 1] rfl rfl (by decide) (by decide) rfl (by decide) (fun H locs hP hD hS => ?_)
    refine lv_goto (tgt := 39) hx hb d_MA_workOnTwo_26 (by decide) ?_
    exact k_vret hx hb hr hlocks hK hP hD hS (by rw [f_MA_workOnTwo, if_pos h13_1]) d_MA_workOnTwo_39

theorem d_MA_raise_0 : decode b_MA_raise 0 = .ok (.aload_n 1, 1) := by decide +kernel
theorem d_MA_raise_1 : decode b_MA_raise 1 = .ok (.aload_n 0, 1) := by decide +kernel
theorem d_MA_raise_2 : decode b_MA_raise 2 = .ok (.getfield 29, 3) := by decide +kernel
theorem d_MA_raise_5 : decode b_MA_raise 5 = .ok (.invokevirtual 106, 3) := by decide +kernel
theorem d_MA_raise_8 : decode b_MA_raise 8 = .ok (.istore_n 3, 1) := by decide +kernel
theorem d_MA_raise_9 : decode b_MA_raise 9 = .ok (.iload_n 3, 1) := by decide +kernel
theorem d_MA_raise_10 : decode b_MA_raise 10 = .ok (.iconst (-1), 1) := by decide +kernel
theorem d_MA_raise_11 : decode b_MA_raise 11 = .ok (.if_icmp .ne 12, 3) := by decide +kernel
theorem d_MA_raise_14 : decode b_MA_raise 14 = .ok (.aload_n 0, 1) := by decide +kernel
theorem d_MA_raise_15 : decode b_MA_raise 15 = .ok (.iconst 2, 1) := by decide +kernel
theorem d_MA_raise_16 : decode b_MA_raise 16 = .ok (.iload_n 2, 1) := by decide +kernel
theorem d_MA_raise_17 : decode b_MA_raise 17 = .ok (.invokevirtual 74, 3) := by decide +kernel
theorem d_MA_raise_20 : decode b_MA_raise 20 = .ok (.goto 18, 3) := by decide +kernel
theorem d_MA_raise_23 : decode b_MA_raise 23 = .ok (.aload_n 0, 1) := by decide +kernel
theorem d_MA_raise_24 : decode b_MA_raise 24 = .ok (.iconst 0, 1) := by decide +kernel
theorem d_MA_raise_25 : decode b_MA_raise 25 = .ok (.putfield 45, 3) := by decide +kernel
theorem d_MA_raise_28 : decode b_MA_raise 28 = .ok (.aload_n 0, 1) := by decide +kernel
theorem d_MA_raise_29 : decode b_MA_raise 29 = .ok (.iload_n 2, 1) := by decide +kernel
theorem d_MA_raise_30 : decode b_MA_raise 30 = .ok (.invokevirtual 89, 3) := by decide +kernel
theorem d_MA_raise_33 : decode b_MA_raise 33 = .ok (.aload_n 0, 1) := by decide +kernel
theorem d_MA_raise_34 : decode b_MA_raise 34 = .ok (.iload_n 3, 1) := by decide +kernel
theorem d_MA_raise_35 : decode b_MA_raise 35 = .ok (.putfield 29, 3) := by decide +kernel
theorem d_MA_raise_38 : decode b_MA_raise 38 = .ok (.return_, 1) := by decide +kernel
def f_MA_raise (y_at : Int32) (y_ending : Int32) (y_outcome : Int32) (hn : Nat) (tq : Nat) (sk : Nat → Int32) (fr : Nat → Int32) (to : Nat → Int32) (tg : Nat → Int32) (v : Int32) : (Nat → Int32) × Nat × Int32 × Int32 × Int32 := (if f_CO_catcher hn fr to tg y_at = (-1) then (sk, tq, y_at, 2, v) else (upd sk 0 v, 0 + 1, f_CO_catcher hn fr to tg y_at, y_ending, y_outcome))
set_option maxHeartbeats 1000000 in
set_option maxRecDepth 100000 in
theorem c_MA_raise (l : Launch) (D : va_G) (cI cZ : ClassId) (ma : Nat) (ma_lo ma_ke ma_sk : Nat) (y_at y_wasUsed y_taken y_emitCount y_ending y_outcome : Int32) (cd cd_ops cd_opd cd_fr cd_to cd_tg n hn : Nat) (tq z : Nat) (sk fr to tg : Nat → Int32) (v : Int32) (hz : hn ≤ z) (hz2 : z < 2 ^ 31) : MG l y_MA_raise w_MA_raise (rmK 2 44) D classes (tyz cI cZ) E0 [.ref ma, .ref cd, .int v] [(ma, .inr (6, [.ref ma_lo, .ref ma_ke, .ref ma_sk, .int (nI tq), .int y_at, .int y_wasUsed, .int y_taken, .int y_emitCount, .int y_ending, .int y_outcome])), (ma_sk, .inl (cI, 7, .inl sk)), (cd, .inr (1, [.ref cd_ops, .ref cd_opd, .ref cd_fr, .ref cd_to, .ref cd_tg, .int (nI n), .int (nI hn)])), (cd_fr, .inl (cI, z, .inl fr)), (cd_to, .inl (cI, z, .inl to)), (cd_tg, .inl (cI, z, .inl tg))] (RV D classes (tyz cI cZ) [(ma, .inr (6, [.ref ma_lo, .ref ma_ke, .ref ma_sk, .int (nI ((f_MA_raise y_at y_ending y_outcome hn tq sk fr to tg v).2.1)), .int ((f_MA_raise y_at y_ending y_outcome hn tq sk fr to tg v).2.2.1), .int y_wasUsed, .int y_taken, .int y_emitCount, .int ((f_MA_raise y_at y_ending y_outcome hn tq sk fr to tg v).2.2.2.1), .int ((f_MA_raise y_at y_ending y_outcome hn tq sk fr to tg v).2.2.2.2)])), (ma_sk, .inl (cI, 7, .inl ((f_MA_raise y_at y_ending y_outcome hn tq sk fr to tg v).1))), (cd, .inr (1, [.ref cd_ops, .ref cd_opd, .ref cd_fr, .ref cd_to, .ref cd_tg, .int (nI n), .int (nI hn)])), (cd_fr, .inl (cI, z, .inl fr)), (cd_to, .inl (cI, z, .inl to)), (cd_tg, .inl (cI, z, .inl tg))]) := by
  refine MG.of (cc := b_MA_raise) (maxL := 4) (ret := none) (own := "FlowFlattener$Machine") rfl (by decide) rfl (Nat.le_of_ble_eq_true rfl) ?_
  intro p e s m below meth c A ls S hr hlocks hA hP hK hD hS hE hl
  have hx := S.1
  have hb := S.2.1
  have hl : lv_has ls 4 [(0, .ref ma), (1, .ref cd), (2, .int v)] := hl
  refine lv_aload_n hx hb d_MA_raise_0 rfl (lv_at hl 1 rfl) ?_
  refine lv_aload_n hx hb d_MA_raise_1 rfl (lv_at hl 0 rfl) ?_
  refine k_get (v := .int y_at) S in_MA hK hP 0 rfl rfl 4 (by decide) ql_MA_29 rfl d_MA_raise_2 ?_
  refine k_goi (ws' := [(ma, .inr (6, [.ref ma_lo, .ref ma_ke, .ref ma_sk, .int (nI tq), .int y_at, .int y_wasUsed, .int y_taken, .int y_emitCount, .int y_ending, .int y_outcome])), (ma_sk, .inl (cI, 7, .inl sk)), (cd, .inr (1, [.ref cd_ops, .ref cd_opd, .ref cd_fr, .ref cd_to, .ref cd_tg, .int (nI n), .int (nI hn)])), (cd_fr, .inl (cI, z, .inl fr)), (cd_to, .inl (cI, z, .inl to)), (cd_tg, .inl (cI, z, .inl tg))]) (wr := [(ma, .inr (6, [.ref ma_lo, .ref ma_ke, .ref ma_sk, .int (nI tq), .int y_at, .int y_wasUsed, .int y_taken, .int y_emitCount, .int y_ending, .int y_outcome])), (ma_sk, .inl (cI, 7, .inl sk))]) (k_runV (q0 := 2) (As := [.int y_at]) (rest := []) (n := 1) S (c_CO_catcher l D cI cZ cd cd_ops cd_opd cd_fr cd_to cd_tg n hn z fr to tg y_at (by omega) (by omega)) E0_b E0_t ql_MA_106 qi_CO_catcher qs_CO_catcher qn_CO qc_CO_catcher (by decide +kernel) rfl ⟨rfl, rfl⟩ ⟨Nat.le_of_ble_eq_true rfl, Nat.le_of_ble_eq_true rfl⟩ hK hP hD [2, 3, 4, 5] rfl (by decide) rfl rfl hl.1 rfl (Nat.le_of_ble_eq_true rfl) d_MA_raise_5 ⟨Nat.zero_le _, Nat.zero_le _⟩) hP hD hS hA [2, 3, 4, 5] [0, 1] [0, 1, 2, 3, 4, 5] rfl rfl (by decide) (by decide) rfl (by decide) (fun H locs hP hD hS => ?_)
  refine lv_istore_n (lv' := [(3, .int (f_CO_catcher hn fr to tg y_at)), (0, .ref ma), (1, .ref cd), (2, .int v)]) hx hb d_MA_raise_8 rfl hl (by decide) rfl (fun ls hl => ?_)
  refine lv_iload_n hx hb d_MA_raise_9 rfl (lv_at hl 0 rfl) ?_
  refine lv_iconst (v := (-1)) hx hb d_MA_raise_10 (by decide) ?_
  refine lv_icmp_ne (tgt := 23) hx hb d_MA_raise_11 (by decide) (fun h11_1 => ?_) (fun h11_1 => ?_)
  · skip
    refine lv_aload_n hx hb d_MA_raise_23 rfl (lv_at hl 1 rfl) ?_
    refine lv_iconst (v := nI 0) hx hb d_MA_raise_24 (by decide) ?_
    refine k_put (v := .int (nI 0)) (ws' := [(ma, .inr (6, [.ref ma_lo, .ref ma_ke, .ref ma_sk, .int (nI 0), .int y_at, .int y_wasUsed, .int y_taken, .int y_emitCount, .int y_ending, .int y_outcome])), (ma_sk, .inl (cI, 7, .inl sk)), (cd, .inr (1, [.ref cd_ops, .ref cd_opd, .ref cd_fr, .ref cd_to, .ref cd_tg, .int (nI n), .int (nI hn)])), (cd_fr, .inl (cI, z, .inl fr)), (cd_to, .inl (cI, z, .inl to)), (cd_tg, .inl (cI, z, .inl tg))]) S in_MA ty_MA nm_MA hK hP hD hS 0 rfl rfl 3 (by decide) ql_MA_45 rfl rfl rfl rfl (Nat.le_of_ble_eq_true rfl) rfl d_MA_raise_25 (fun H locs hP hD hS => ?_)
    refine lv_aload_n hx hb d_MA_raise_28 rfl (lv_at hl 1 rfl) ?_
    refine lv_iload_n hx hb d_MA_raise_29 rfl (lv_at hl 3 rfl) ?_
    refine k_gov (ws' := [(ma, .inr (6, [.ref ma_lo, .ref ma_ke, .ref ma_sk, .int (nI (0 + 1)), .int y_at, .int y_wasUsed, .int y_taken, .int y_emitCount, .int y_ending, .int y_outcome])), (ma_sk, .inl (cI, 7, .inl (upd sk 0 v))), (cd, .inr (1, [.ref cd_ops, .ref cd_opd, .ref cd_fr, .ref cd_to, .ref cd_tg, .int (nI n), .int (nI hn)])), (cd_fr, .inl (cI, z, .inl fr)), (cd_to, .inl (cI, z, .inl to)), (cd_tg, .inl (cI, z, .inl tg))]) (wr := [(cd, .inr (1, [.ref cd_ops, .ref cd_opd, .ref cd_fr, .ref cd_to, .ref cd_tg, .int (nI n), .int (nI hn)])), (cd_fr, .inl (cI, z, .inl fr)), (cd_to, .inl (cI, z, .inl to)), (cd_tg, .inl (cI, z, .inl tg))]) (k_runV (q0 := 0) (As := [.int v]) (rest := []) (n := 1) S (c_MA_push l D cI cZ ma ma_lo ma_ke ma_sk y_at y_wasUsed y_taken y_emitCount y_ending y_outcome 0 sk v (by omega)) E0_b E0_t ql_MA_89 qi_MA_push qs_MA_push qn_MA qc_MA_push (by decide +kernel) rfl ⟨rfl, rfl⟩ ⟨Nat.le_of_ble_eq_true rfl, Nat.le_of_ble_eq_true rfl⟩ hK hP hD [0, 1] rfl (by decide) rfl rfl hl.1 rfl (Nat.le_of_ble_eq_true rfl) d_MA_raise_30 ⟨Nat.zero_le _, Nat.zero_le _⟩) hP hD hS hA [0, 1] [2, 3, 4, 5] [4, 5, 0, 1, 2, 3] rfl rfl (by decide) (by decide) rfl (by decide) (fun H locs hP hD hS => ?_)
    refine lv_aload_n hx hb d_MA_raise_33 rfl (lv_at hl 1 rfl) ?_
    refine lv_iload_n hx hb d_MA_raise_34 rfl (lv_at hl 0 rfl) ?_
    refine k_put (v := .int (f_CO_catcher hn fr to tg y_at)) (ws' := [(ma, .inr (6, [.ref ma_lo, .ref ma_ke, .ref ma_sk, .int (nI (0 + 1)), .int (f_CO_catcher hn fr to tg y_at), .int y_wasUsed, .int y_taken, .int y_emitCount, .int y_ending, .int y_outcome])), (ma_sk, .inl (cI, 7, .inl (upd sk 0 v))), (cd, .inr (1, [.ref cd_ops, .ref cd_opd, .ref cd_fr, .ref cd_to, .ref cd_tg, .int (nI n), .int (nI hn)])), (cd_fr, .inl (cI, z, .inl fr)), (cd_to, .inl (cI, z, .inl to)), (cd_tg, .inl (cI, z, .inl tg))]) S in_MA ty_MA nm_MA hK hP hD hS 0 rfl rfl 4 (by decide) ql_MA_29 rfl rfl rfl rfl (Nat.le_of_ble_eq_true rfl) rfl d_MA_raise_35 (fun H locs hP hD hS => ?_)
    exact k_vret hx hb hr hlocks hK hP hD hS (by rw [f_MA_raise, if_neg h11_1]) d_MA_raise_38
  · skip
    refine lv_aload_n hx hb d_MA_raise_14 rfl (lv_at hl 1 rfl) ?_
    refine lv_iconst (v := 2) hx hb d_MA_raise_15 (by decide) ?_
    refine lv_iload_n hx hb d_MA_raise_16 rfl (lv_at hl 3 rfl) ?_
    refine k_gov (ws' := [(ma, .inr (6, [.ref ma_lo, .ref ma_ke, .ref ma_sk, .int (nI tq), .int y_at, .int y_wasUsed, .int y_taken, .int y_emitCount, .int 2, .int v])), (ma_sk, .inl (cI, 7, .inl sk)), (cd, .inr (1, [.ref cd_ops, .ref cd_opd, .ref cd_fr, .ref cd_to, .ref cd_tg, .int (nI n), .int (nI hn)])), (cd_fr, .inl (cI, z, .inl fr)), (cd_to, .inl (cI, z, .inl to)), (cd_tg, .inl (cI, z, .inl tg))]) (wr := [(ma_sk, .inl (cI, 7, .inl sk)), (cd, .inr (1, [.ref cd_ops, .ref cd_opd, .ref cd_fr, .ref cd_to, .ref cd_tg, .int (nI n), .int (nI hn)])), (cd_fr, .inl (cI, z, .inl fr)), (cd_to, .inl (cI, z, .inl to)), (cd_tg, .inl (cI, z, .inl tg))]) (k_runV (q0 := 0) (As := [.int 2, .int v]) (rest := []) (n := 2) S (c_MA_end l D cI cZ ma ma_lo ma_ke ma_sk (nI tq) y_at y_wasUsed y_taken y_emitCount y_ending y_outcome 2 v) E0_b E0_t ql_MA_74 qi_MA_end qs_MA_end qn_MA qc_MA_end (by decide +kernel) rfl ⟨rfl, rfl⟩ ⟨Nat.le_of_ble_eq_true rfl, Nat.le_of_ble_eq_true rfl⟩ hK hP hD [0] rfl (by decide) rfl rfl hl.1 rfl (Nat.le_of_ble_eq_true rfl) d_MA_raise_17 ⟨Nat.zero_le _, Nat.zero_le _⟩) hP hD hS hA [0] [1, 2, 3, 4, 5] [5, 0, 1, 2, 3, 4] rfl rfl (by decide) (by decide) rfl (by decide) (fun H locs hP hD hS => ?_)
    refine lv_goto (tgt := 38) hx hb d_MA_raise_20 (by decide) ?_
    exact k_vret hx hb hr hlocks hK hP hD hS (by rw [f_MA_raise, if_pos h11_1]) d_MA_raise_38

theorem d_MA_divide_0 : decode b_MA_divide 0 = .ok (.aload_n 0, 1) := by decide +kernel
theorem d_MA_divide_1 : decode b_MA_divide 1 = .ok (.invokevirtual 64, 3) := by decide +kernel
theorem d_MA_divide_4 : decode b_MA_divide 4 = .ok (.istore_n 2, 1) := by decide +kernel
theorem d_MA_divide_5 : decode b_MA_divide 5 = .ok (.aload_n 0, 1) := by decide +kernel
theorem d_MA_divide_6 : decode b_MA_divide 6 = .ok (.invokevirtual 64, 3) := by decide +kernel
theorem d_MA_divide_9 : decode b_MA_divide 9 = .ok (.istore_n 3, 1) := by decide +kernel
theorem d_MA_divide_10 : decode b_MA_divide 10 = .ok (.iload_n 2, 1) := by decide +kernel
theorem d_MA_divide_11 : decode b_MA_divide 11 = .ok (.ifCond .ne 12, 3) := by decide +kernel
theorem d_MA_divide_14 : decode b_MA_divide 14 = .ok (.aload_n 0, 1) := by decide +kernel
theorem d_MA_divide_15 : decode b_MA_divide 15 = .ok (.aload_n 1, 1) := by decide +kernel
theorem d_MA_divide_16 : decode b_MA_divide 16 = .ok (.iconst (-1), 1) := by decide +kernel
theorem d_MA_divide_17 : decode b_MA_divide 17 = .ok (.invokevirtual 78, 3) := by decide +kernel
theorem d_MA_divide_20 : decode b_MA_divide 20 = .ok (.goto 20, 3) := by decide +kernel
theorem d_MA_divide_23 : decode b_MA_divide 23 = .ok (.aload_n 0, 1) := by decide +kernel
theorem d_MA_divide_24 : decode b_MA_divide 24 = .ok (.iload_n 3, 1) := by decide +kernel
theorem d_MA_divide_25 : decode b_MA_divide 25 = .ok (.iload_n 2, 1) := by decide +kernel
theorem d_MA_divide_26 : decode b_MA_divide 26 = .ok (.idiv, 1) := by decide +kernel
theorem d_MA_divide_27 : decode b_MA_divide 27 = .ok (.invokevirtual 89, 3) := by decide +kernel
theorem d_MA_divide_30 : decode b_MA_divide 30 = .ok (.aload_n 0, 1) := by decide +kernel
theorem d_MA_divide_31 : decode b_MA_divide 31 = .ok (.dup, 1) := by decide +kernel
theorem d_MA_divide_32 : decode b_MA_divide 32 = .ok (.getfield 29, 3) := by decide +kernel
theorem d_MA_divide_35 : decode b_MA_divide 35 = .ok (.iconst 1, 1) := by decide +kernel
theorem d_MA_divide_36 : decode b_MA_divide 36 = .ok (.iadd, 1) := by decide +kernel
theorem d_MA_divide_37 : decode b_MA_divide 37 = .ok (.putfield 29, 3) := by decide +kernel
theorem d_MA_divide_40 : decode b_MA_divide 40 = .ok (.return_, 1) := by decide +kernel
def f_MA_divide (y_at : Int32) (y_ending : Int32) (y_outcome : Int32) (hn : Nat) (tq : Nat) (sk : Nat → Int32) (fr : Nat → Int32) (to : Nat → Int32) (tg : Nat → Int32) : (Nat → Int32) × Nat × Int32 × Int32 × Int32 := (if sk (tq - 1) = 0 then ((f_MA_raise y_at y_ending y_outcome hn ((tq - 1) - 1) sk fr to tg (-1)).1, (f_MA_raise y_at y_ending y_outcome hn ((tq - 1) - 1) sk fr to tg (-1)).2.1, (f_MA_raise y_at y_ending y_outcome hn ((tq - 1) - 1) sk fr to tg (-1)).2.2.1, (f_MA_raise y_at y_ending y_outcome hn ((tq - 1) - 1) sk fr to tg (-1)).2.2.2.1, (f_MA_raise y_at y_ending y_outcome hn ((tq - 1) - 1) sk fr to tg (-1)).2.2.2.2) else (upd sk ((tq - 1) - 1) ((sk ((tq - 1) - 1)) / (sk (tq - 1))), ((tq - 1) - 1) + 1, y_at + 1, y_ending, y_outcome))
set_option maxHeartbeats 1000000 in
set_option maxRecDepth 100000 in
theorem c_MA_divide (l : Launch) (D : va_G) (cI cZ : ClassId) (ma : Nat) (ma_lo ma_ke ma_sk : Nat) (y_at y_wasUsed y_taken y_emitCount y_ending y_outcome : Int32) (cd cd_ops cd_opd cd_fr cd_to cd_tg n hn : Nat) (tq z : Nat) (sk fr to tg : Nat → Int32) (hq : 2 ≤ tq) (hq7 : tq ≤ 7) (hz : hn ≤ z) (hz2 : z < 2 ^ 31) : MG l y_MA_divide w_MA_divide (rmK 3 67) D classes (tyz cI cZ) E0 [.ref ma, .ref cd] [(ma, .inr (6, [.ref ma_lo, .ref ma_ke, .ref ma_sk, .int (nI tq), .int y_at, .int y_wasUsed, .int y_taken, .int y_emitCount, .int y_ending, .int y_outcome])), (ma_sk, .inl (cI, 7, .inl sk)), (cd, .inr (1, [.ref cd_ops, .ref cd_opd, .ref cd_fr, .ref cd_to, .ref cd_tg, .int (nI n), .int (nI hn)])), (cd_fr, .inl (cI, z, .inl fr)), (cd_to, .inl (cI, z, .inl to)), (cd_tg, .inl (cI, z, .inl tg))] (RV D classes (tyz cI cZ) [(ma, .inr (6, [.ref ma_lo, .ref ma_ke, .ref ma_sk, .int (nI ((f_MA_divide y_at y_ending y_outcome hn tq sk fr to tg).2.1)), .int ((f_MA_divide y_at y_ending y_outcome hn tq sk fr to tg).2.2.1), .int y_wasUsed, .int y_taken, .int y_emitCount, .int ((f_MA_divide y_at y_ending y_outcome hn tq sk fr to tg).2.2.2.1), .int ((f_MA_divide y_at y_ending y_outcome hn tq sk fr to tg).2.2.2.2)])), (ma_sk, .inl (cI, 7, .inl ((f_MA_divide y_at y_ending y_outcome hn tq sk fr to tg).1))), (cd, .inr (1, [.ref cd_ops, .ref cd_opd, .ref cd_fr, .ref cd_to, .ref cd_tg, .int (nI n), .int (nI hn)])), (cd_fr, .inl (cI, z, .inl fr)), (cd_to, .inl (cI, z, .inl to)), (cd_tg, .inl (cI, z, .inl tg))]) := by
  refine MG.of (cc := b_MA_divide) (maxL := 4) (ret := none) (own := "FlowFlattener$Machine") rfl (by decide) rfl (Nat.le_of_ble_eq_true rfl) ?_
  intro p e s m below meth c A ls S hr hlocks hA hP hK hD hS hE hl
  have hx := S.1
  have hb := S.2.1
  have hl : lv_has ls 4 [(0, .ref ma), (1, .ref cd)] := hl
  refine lv_aload_n hx hb d_MA_divide_0 rfl (lv_at hl 0 rfl) ?_
  refine k_goi (ws' := [(ma, .inr (6, [.ref ma_lo, .ref ma_ke, .ref ma_sk, .int (nI (tq - 1)), .int y_at, .int y_wasUsed, .int y_taken, .int y_emitCount, .int y_ending, .int y_outcome])), (ma_sk, .inl (cI, 7, .inl sk)), (cd, .inr (1, [.ref cd_ops, .ref cd_opd, .ref cd_fr, .ref cd_to, .ref cd_tg, .int (nI n), .int (nI hn)])), (cd_fr, .inl (cI, z, .inl fr)), (cd_to, .inl (cI, z, .inl to)), (cd_tg, .inl (cI, z, .inl tg))]) (wr := [(cd, .inr (1, [.ref cd_ops, .ref cd_opd, .ref cd_fr, .ref cd_to, .ref cd_tg, .int (nI n), .int (nI hn)])), (cd_fr, .inl (cI, z, .inl fr)), (cd_to, .inl (cI, z, .inl to)), (cd_tg, .inl (cI, z, .inl tg))]) (k_runV (q0 := 0) (As := []) (rest := []) (n := 0) S (c_MA_pop l D cI cZ ma ma_lo ma_ke ma_sk y_at y_wasUsed y_taken y_emitCount y_ending y_outcome tq sk (by omega) (by omega)) E0_b E0_t ql_MA_64 qi_MA_pop qs_MA_pop qn_MA qc_MA_pop (by decide +kernel) rfl ⟨rfl, rfl⟩ ⟨Nat.le_of_ble_eq_true rfl, Nat.le_of_ble_eq_true rfl⟩ hK hP hD [0, 1] rfl (by decide) rfl rfl hl.1 rfl (Nat.le_of_ble_eq_true rfl) d_MA_divide_1 ⟨Nat.zero_le _, Nat.zero_le _⟩) hP hD hS hA [0, 1] [2, 3, 4, 5] [4, 5, 0, 1, 2, 3] rfl rfl (by decide) (by decide) rfl (by decide) (fun H locs hP hD hS => ?_)
  refine lv_istore_n (lv' := [(2, .int (sk (tq - 1))), (0, .ref ma), (1, .ref cd)]) hx hb d_MA_divide_4 rfl hl (by decide) rfl (fun ls hl => ?_)
  refine lv_aload_n hx hb d_MA_divide_5 rfl (lv_at hl 1 rfl) ?_
  refine k_goi (ws' := [(ma, .inr (6, [.ref ma_lo, .ref ma_ke, .ref ma_sk, .int (nI ((tq - 1) - 1)), .int y_at, .int y_wasUsed, .int y_taken, .int y_emitCount, .int y_ending, .int y_outcome])), (ma_sk, .inl (cI, 7, .inl sk)), (cd, .inr (1, [.ref cd_ops, .ref cd_opd, .ref cd_fr, .ref cd_to, .ref cd_tg, .int (nI n), .int (nI hn)])), (cd_fr, .inl (cI, z, .inl fr)), (cd_to, .inl (cI, z, .inl to)), (cd_tg, .inl (cI, z, .inl tg))]) (wr := [(cd, .inr (1, [.ref cd_ops, .ref cd_opd, .ref cd_fr, .ref cd_to, .ref cd_tg, .int (nI n), .int (nI hn)])), (cd_fr, .inl (cI, z, .inl fr)), (cd_to, .inl (cI, z, .inl to)), (cd_tg, .inl (cI, z, .inl tg))]) (k_runV (q0 := 0) (As := []) (rest := []) (n := 0) S (c_MA_pop l D cI cZ ma ma_lo ma_ke ma_sk y_at y_wasUsed y_taken y_emitCount y_ending y_outcome (tq - 1) sk (by omega) (by omega)) E0_b E0_t ql_MA_64 qi_MA_pop qs_MA_pop qn_MA qc_MA_pop (by decide +kernel) rfl ⟨rfl, rfl⟩ ⟨Nat.le_of_ble_eq_true rfl, Nat.le_of_ble_eq_true rfl⟩ hK hP hD [0, 1] rfl (by decide) rfl rfl hl.1 rfl (Nat.le_of_ble_eq_true rfl) d_MA_divide_6 ⟨Nat.zero_le _, Nat.zero_le _⟩) hP hD hS hA [0, 1] [2, 3, 4, 5] [4, 5, 0, 1, 2, 3] rfl rfl (by decide) (by decide) rfl (by decide) (fun H locs hP hD hS => ?_)
  refine lv_istore_n (lv' := [(3, .int (sk ((tq - 1) - 1))), (2, .int (sk (tq - 1))), (0, .ref ma), (1, .ref cd)]) hx hb d_MA_divide_9 rfl hl (by decide) rfl (fun ls hl => ?_)
  refine lv_iload_n hx hb d_MA_divide_10 rfl (lv_at hl 1 rfl) ?_
  refine lv_if_ne (tgt := 23) hx hb d_MA_divide_11 (by decide) (fun h11_1 => ?_) (fun h11_1 => ?_)
  · skip
    refine lv_aload_n hx hb d_MA_divide_23 rfl (lv_at hl 2 rfl) ?_
    refine lv_iload_n hx hb d_MA_divide_24 rfl (lv_at hl 0 rfl) ?_
    refine lv_iload_n hx hb d_MA_divide_25 rfl (lv_at hl 1 rfl) ?_
    refine lv_idiv hx hb d_MA_divide_26 (by assumption) ?_
    refine k_gov (ws' := [(ma, .inr (6, [.ref ma_lo, .ref ma_ke, .ref ma_sk, .int (nI (((tq - 1) - 1) + 1)), .int y_at, .int y_wasUsed, .int y_taken, .int y_emitCount, .int y_ending, .int y_outcome])), (ma_sk, .inl (cI, 7, .inl (upd sk ((tq - 1) - 1) ((sk ((tq - 1) - 1)) / (sk (tq - 1)))))), (cd, .inr (1, [.ref cd_ops, .ref cd_opd, .ref cd_fr, .ref cd_to, .ref cd_tg, .int (nI n), .int (nI hn)])), (cd_fr, .inl (cI, z, .inl fr)), (cd_to, .inl (cI, z, .inl to)), (cd_tg, .inl (cI, z, .inl tg))]) (wr := [(cd, .inr (1, [.ref cd_ops, .ref cd_opd, .ref cd_fr, .ref cd_to, .ref cd_tg, .int (nI n), .int (nI hn)])), (cd_fr, .inl (cI, z, .inl fr)), (cd_to, .inl (cI, z, .inl to)), (cd_tg, .inl (cI, z, .inl tg))]) (k_runV (q0 := 0) (As := [.int ((sk ((tq - 1) - 1)) / (sk (tq - 1)))]) (rest := []) (n := 1) S (c_MA_push l D cI cZ ma ma_lo ma_ke ma_sk y_at y_wasUsed y_taken y_emitCount y_ending y_outcome ((tq - 1) - 1) sk ((sk ((tq - 1) - 1)) / (sk (tq - 1))) (by omega)) E0_b E0_t ql_MA_89 qi_MA_push qs_MA_push qn_MA qc_MA_push (by decide +kernel) rfl ⟨rfl, rfl⟩ ⟨Nat.le_of_ble_eq_true rfl, Nat.le_of_ble_eq_true rfl⟩ hK hP hD [0, 1] rfl (by decide) rfl rfl hl.1 rfl (Nat.le_of_ble_eq_true rfl) d_MA_divide_27 ⟨Nat.zero_le _, Nat.zero_le _⟩) hP hD hS hA [0, 1] [2, 3, 4, 5] [4, 5, 0, 1, 2, 3] rfl rfl (by decide) (by decide) rfl (by decide) (fun H locs hP hD hS => ?_)
    refine lv_aload_n hx hb d_MA_divide_30 rfl (lv_at hl 2 rfl) ?_
    refine lv_dup hx hb d_MA_divide_31 rfl ?_
    refine k_get (v := .int y_at) S in_MA hK hP 0 rfl rfl 4 (by decide) ql_MA_29 rfl d_MA_divide_32 ?_
    refine lv_iconst (v := 1) hx hb d_MA_divide_35 (by decide) ?_
    refine lv_iadd hx hb d_MA_divide_36 ?_
    refine k_put (v := .int (y_at + 1)) (ws' := [(ma, .inr (6, [.ref ma_lo, .ref ma_ke, .ref ma_sk, .int (nI (((tq - 1) - 1) + 1)), .int (y_at + 1), .int y_wasUsed, .int y_taken, .int y_emitCount, .int y_ending, .int y_outcome])), (ma_sk, .inl (cI, 7, .inl (upd sk ((tq - 1) - 1) ((sk ((tq - 1) - 1)) / (sk (tq - 1)))))), (cd, .inr (1, [.ref cd_ops, .ref cd_opd, .ref cd_fr, .ref cd_to, .ref cd_tg, .int (nI n), .int (nI hn)])), (cd_fr, .inl (cI, z, .inl fr)), (cd_to, .inl (cI, z, .inl to)), (cd_tg, .inl (cI, z, .inl tg))]) S in_MA ty_MA nm_MA hK hP hD hS 0 rfl rfl 4 (by decide) ql_MA_29 rfl rfl rfl rfl (Nat.le_of_ble_eq_true rfl) rfl d_MA_divide_37 (fun H locs hP hD hS => ?_)
    exact k_vret hx hb hr hlocks hK hP hD hS (by rw [f_MA_divide, if_neg h11_1]) d_MA_divide_40
  · skip
    refine lv_aload_n hx hb d_MA_divide_14 rfl (lv_at hl 2 rfl) ?_
    refine lv_aload_n hx hb d_MA_divide_15 rfl (lv_at hl 3 rfl) ?_
    refine lv_iconst (v := (-1)) hx hb d_MA_divide_16 (by decide) ?_
    refine k_gov (ws' := [(ma, .inr (6, [.ref ma_lo, .ref ma_ke, .ref ma_sk, .int (nI ((f_MA_raise y_at y_ending y_outcome hn ((tq - 1) - 1) sk fr to tg (-1)).2.1)), .int ((f_MA_raise y_at y_ending y_outcome hn ((tq - 1) - 1) sk fr to tg (-1)).2.2.1), .int y_wasUsed, .int y_taken, .int y_emitCount, .int ((f_MA_raise y_at y_ending y_outcome hn ((tq - 1) - 1) sk fr to tg (-1)).2.2.2.1), .int ((f_MA_raise y_at y_ending y_outcome hn ((tq - 1) - 1) sk fr to tg (-1)).2.2.2.2)])), (ma_sk, .inl (cI, 7, .inl ((f_MA_raise y_at y_ending y_outcome hn ((tq - 1) - 1) sk fr to tg (-1)).1))), (cd, .inr (1, [.ref cd_ops, .ref cd_opd, .ref cd_fr, .ref cd_to, .ref cd_tg, .int (nI n), .int (nI hn)])), (cd_fr, .inl (cI, z, .inl fr)), (cd_to, .inl (cI, z, .inl to)), (cd_tg, .inl (cI, z, .inl tg))]) (wr := []) (k_runV (q0 := 0) (As := [.ref cd, .int (-1)]) (rest := []) (n := 2) S (c_MA_raise l D cI cZ ma ma_lo ma_ke ma_sk y_at y_wasUsed y_taken y_emitCount y_ending y_outcome cd cd_ops cd_opd cd_fr cd_to cd_tg n hn ((tq - 1) - 1) z sk fr to tg (-1) (by omega) (by omega)) E0_b E0_t ql_MA_78 qi_MA_raise qs_MA_raise qn_MA qc_MA_raise (by decide +kernel) rfl ⟨rfl, rfl⟩ ⟨Nat.le_of_ble_eq_true rfl, Nat.le_of_ble_eq_true rfl⟩ hK hP hD [0, 1, 2, 3, 4, 5] rfl (by decide) rfl rfl hl.1 rfl (Nat.le_of_ble_eq_true rfl) d_MA_divide_17 ⟨Nat.zero_le _, Nat.zero_le _⟩) hP hD hS hA [0, 1, 2, 3, 4, 5] [] [0, 1, 2, 3, 4, 5] rfl rfl (by decide) (by decide) rfl (by decide) (fun H locs hP hD hS => ?_)
    refine lv_goto (tgt := 40) hx hb d_MA_divide_20 (by decide) ?_
    exact k_vret hx hb hr hlocks hK hP hD hS (by rw [f_MA_divide, if_pos h11_1]) d_MA_divide_40

theorem d_MA_work_0 : decode b_MA_work 0 = .ok (.iload_n 1, 1) := by decide +kernel
theorem d_MA_work_1 : decode b_MA_work 1 = .ok (.tableswitch 131 0 12 #[67, 75, 88, 131, 131, 131, 131, 131, 131, 101, 131, 112, 120], 67) := by decide +kernel
theorem d_MA_work_68 : decode b_MA_work 68 = .ok (.aload_n 0, 1) := by decide +kernel
theorem d_MA_work_69 : decode b_MA_work 69 = .ok (.iload_n 2, 1) := by decide +kernel
theorem d_MA_work_70 : decode b_MA_work 70 = .ok (.invokevirtual 89, 3) := by decide +kernel
theorem d_MA_work_73 : decode b_MA_work 73 = .ok (.goto 64, 3) := by decide +kernel
theorem d_MA_work_76 : decode b_MA_work 76 = .ok (.aload_n 0, 1) := by decide +kernel
theorem d_MA_work_77 : decode b_MA_work 77 = .ok (.aload_n 0, 1) := by decide +kernel
theorem d_MA_work_78 : decode b_MA_work 78 = .ok (.getfield 9, 3) := by decide +kernel
theorem d_MA_work_81 : decode b_MA_work 81 = .ok (.iload_n 2, 1) := by decide +kernel
theorem d_MA_work_82 : decode b_MA_work 82 = .ok (.iaload, 1) := by decide +kernel
theorem d_MA_work_83 : decode b_MA_work 83 = .ok (.invokevirtual 89, 3) := by decide +kernel
theorem d_MA_work_86 : decode b_MA_work 86 = .ok (.goto 51, 3) := by decide +kernel
theorem d_MA_work_89 : decode b_MA_work 89 = .ok (.aload_n 0, 1) := by decide +kernel
theorem d_MA_work_90 : decode b_MA_work 90 = .ok (.getfield 9, 3) := by decide +kernel
theorem d_MA_work_93 : decode b_MA_work 93 = .ok (.iload_n 2, 1) := by decide +kernel
theorem d_MA_work_94 : decode b_MA_work 94 = .ok (.aload_n 0, 1) := by decide +kernel
theorem d_MA_work_95 : decode b_MA_work 95 = .ok (.invokevirtual 64, 3) := by decide +kernel
theorem d_MA_work_98 : decode b_MA_work 98 = .ok (.iastore, 1) := by decide +kernel
theorem d_MA_work_99 : decode b_MA_work 99 = .ok (.goto 38, 3) := by decide +kernel
theorem d_MA_work_102 : decode b_MA_work 102 = .ok (.aload_n 0, 1) := by decide +kernel
theorem d_MA_work_103 : decode b_MA_work 103 = .ok (.aload_n 0, 1) := by decide +kernel
theorem d_MA_work_104 : decode b_MA_work 104 = .ok (.invokevirtual 64, 3) := by decide +kernel
theorem d_MA_work_107 : decode b_MA_work 107 = .ok (.invokevirtual 93, 3) := by decide +kernel
theorem d_MA_work_110 : decode b_MA_work 110 = .ok (.goto 27, 3) := by decide +kernel
theorem d_MA_work_113 : decode b_MA_work 113 = .ok (.aload_n 0, 1) := by decide +kernel
theorem d_MA_work_114 : decode b_MA_work 114 = .ok (.invokevirtual 64, 3) := by decide +kernel
theorem d_MA_work_117 : decode b_MA_work 117 = .ok (.pop, 1) := by decide +kernel
theorem d_MA_work_118 : decode b_MA_work 118 = .ok (.goto 19, 3) := by decide +kernel
theorem d_MA_work_121 : decode b_MA_work 121 = .ok (.aload_n 0, 1) := by decide +kernel
theorem d_MA_work_122 : decode b_MA_work 122 = .ok (.aload_n 0, 1) := by decide +kernel
theorem d_MA_work_123 : decode b_MA_work 123 = .ok (.invokevirtual 64, 3) := by decide +kernel
theorem d_MA_work_126 : decode b_MA_work 126 = .ok (.invokevirtual 96, 3) := by decide +kernel
theorem d_MA_work_129 : decode b_MA_work 129 = .ok (.goto 8, 3) := by decide +kernel
theorem d_MA_work_132 : decode b_MA_work 132 = .ok (.aload_n 0, 1) := by decide +kernel
theorem d_MA_work_133 : decode b_MA_work 133 = .ok (.iload_n 1, 1) := by decide +kernel
theorem d_MA_work_134 : decode b_MA_work 134 = .ok (.invokevirtual 99, 3) := by decide +kernel
theorem d_MA_work_137 : decode b_MA_work 137 = .ok (.return_, 1) := by decide +kernel
def f_MA_work (tq : Nat) (em : Nat) (lo : Nat → Int32) (ke : Nat → Int32) (sk : Nat → Int32) (o : Int32) (b : Int32) : (Nat → Int32) × (Nat → Int32) × (Nat → Int32) × Nat × Nat := (if o = 0 then (lo, ke, upd sk tq b, tq + 1, em) else (if o = 1 then (lo, ke, upd sk tq (lo (tn b)), tq + 1, em) else (if o = 2 then (upd lo (tn b) (sk (tq - 1)), ke, sk, tq - 1, em) else (if o = 9 then (lo, ke, upd (upd sk (tq - 1) (sk (tq - 1))) ((tq - 1) + 1) (sk (tq - 1)), (tq - 1) + 1 + 1, em) else (if o = 11 then (lo, ke, sk, tq - 1, em) else (if o = 12 then (lo, f_MA_emit em ke (sk (tq - 1)), sk, tq - 1, em + 1) else (if o = 3 then (lo, ke, (f_MA_workOnTwo tq sk o).1, (f_MA_workOnTwo tq sk o).2, em) else (if o = 4 then (lo, ke, (f_MA_workOnTwo tq sk o).1, (f_MA_workOnTwo tq sk o).2, em) else (if o = 5 then (lo, ke, (f_MA_workOnTwo tq sk o).1, (f_MA_workOnTwo tq sk o).2, em) else (if o = 6 then (lo, ke, (f_MA_workOnTwo tq sk o).1, (f_MA_workOnTwo tq sk o).2, em) else (if o = 7 then (lo, ke, (f_MA_workOnTwo tq sk o).1, (f_MA_workOnTwo tq sk o).2, em) else (if o = 8 then (lo, ke, (f_MA_workOnTwo tq sk o).1, (f_MA_workOnTwo tq sk o).2, em) else (if o = 10 then (lo, ke, (f_MA_workOnTwo tq sk o).1, (f_MA_workOnTwo tq sk o).2, em) else (lo, ke, (f_MA_workOnTwo tq sk o).1, (f_MA_workOnTwo tq sk o).2, em))))))))))))))
set_option maxHeartbeats 1000000 in
set_option maxRecDepth 100000 in
theorem c_MA_work (l : Launch) (D : va_G) (cI cZ : ClassId) (ma : Nat) (ma_lo ma_ke ma_sk : Nat) (y_at y_wasUsed y_taken y_ending y_outcome : Int32) (tq em : Nat) (lo ke sk : Nat → Int32) (o b : Int32) (hq7 : tq ≤ 7) (hem : em < 2 ^ 31) (q0 : o = 0 → tq < 7) (q1 : o = 1 → tq < 7 ∧ b = nI (tn (b)) ∧ tn (b) < 9) (q2 : o = 2 → 1 ≤ tq ∧ b = nI (tn (b)) ∧ tn (b) < 9) (q9 : o = 9 → 1 ≤ tq ∧ tq < 7) (q11 : o = 11 → 1 ≤ tq) (q12 : o = 12 → 1 ≤ tq) (qd : ¬ o = 0 → ¬ o = 1 → ¬ o = 2 → ¬ o = 9 → ¬ o = 11 → ¬ o = 12 → 2 ≤ tq) : MG l y_MA_work w_MA_work (rmK 2 45) D classes (tyz cI cZ) E0 [.ref ma, .int o, .int b] [(ma, .inr (6, [.ref ma_lo, .ref ma_ke, .ref ma_sk, .int (nI tq), .int y_at, .int y_wasUsed, .int y_taken, .int (nI em), .int y_ending, .int y_outcome])), (ma_lo, .inl (cI, 9, .inl lo)), (ma_ke, .inl (cI, 40, .inl ke)), (ma_sk, .inl (cI, 7, .inl sk))] (RV D classes (tyz cI cZ) [(ma, .inr (6, [.ref ma_lo, .ref ma_ke, .ref ma_sk, .int (nI ((f_MA_work tq em lo ke sk o b).2.2.2.1)), .int y_at, .int y_wasUsed, .int y_taken, .int (nI ((f_MA_work tq em lo ke sk o b).2.2.2.2)), .int y_ending, .int y_outcome])), (ma_lo, .inl (cI, 9, .inl ((f_MA_work tq em lo ke sk o b).1))), (ma_ke, .inl (cI, 40, .inl ((f_MA_work tq em lo ke sk o b).2.1))), (ma_sk, .inl (cI, 7, .inl ((f_MA_work tq em lo ke sk o b).2.2.1)))]) := by
  refine MG.of (cc := b_MA_work) (maxL := 3) (ret := none) (own := "FlowFlattener$Machine") rfl (by decide) rfl (Nat.le_of_ble_eq_true rfl) ?_
  intro p e s m below meth c A ls S hr hlocks hA hP hK hD hS hE hl
  have hx := S.1
  have hb := S.2.1
  have hl : lv_has ls 3 [(0, .ref ma), (1, .int o), (2, .int b)] := hl
  refine lv_iload_n hx hb d_MA_work_0 rfl (lv_at hl 1 rfl) ?_
  by_cases h1_1 : o = 0
  · skip
    refine k_top h1_1 ?_
    refine lv_tableIn (tgt := 68) hx hb d_MA_work_1 (by decide) (by decide) rfl (by decide) ?_
    refine lv_aload_n hx hb d_MA_work_68 rfl (lv_at hl 0 rfl) ?_
    refine lv_iload_n hx hb d_MA_work_69 rfl (lv_at hl 2 rfl) ?_
    refine k_gov (ws' := [(ma, .inr (6, [.ref ma_lo, .ref ma_ke, .ref ma_sk, .int (nI (tq + 1)), .int y_at, .int y_wasUsed, .int y_taken, .int (nI em), .int y_ending, .int y_outcome])), (ma_lo, .inl (cI, 9, .inl lo)), (ma_ke, .inl (cI, 40, .inl ke)), (ma_sk, .inl (cI, 7, .inl (upd sk tq b)))]) (wr := [(ma_lo, .inl (cI, 9, .inl lo)), (ma_ke, .inl (cI, 40, .inl ke))]) (k_runV (q0 := 0) (As := [.int b]) (rest := []) (n := 1) S (c_MA_push l D cI cZ ma ma_lo ma_ke ma_sk y_at y_wasUsed y_taken (nI em) y_ending y_outcome tq sk b (q0 (by assumption))) E0_b E0_t ql_MA_89 qi_MA_push qs_MA_push qn_MA qc_MA_push (by decide +kernel) rfl ⟨rfl, rfl⟩ ⟨Nat.le_of_ble_eq_true rfl, Nat.le_of_ble_eq_true rfl⟩ hK hP hD [0, 3] rfl (by decide) rfl rfl hl.1 rfl (Nat.le_of_ble_eq_true rfl) d_MA_work_70 ⟨Nat.zero_le _, Nat.zero_le _⟩) hP hD hS hA [0, 3] [1, 2] [2, 0, 1, 3] rfl rfl (by decide) (by decide) rfl (by decide) (fun H locs hP hD hS => ?_)
    refine lv_goto (tgt := 137) hx hb d_MA_work_73 (by decide) ?_
    exact k_vret hx hb hr hlocks hK hP hD hS (by rw [f_MA_work, if_pos h1_1]) d_MA_work_137
  by_cases h1_2 : o = 1
  · skip
    refine k_top h1_2 ?_
    refine lv_tableIn (tgt := 76) hx hb d_MA_work_1 (by decide) (by decide) rfl (by decide) ?_
    refine lv_aload_n hx hb d_MA_work_76 rfl (lv_at hl 0 rfl) ?_
    refine lv_aload_n hx hb d_MA_work_77 rfl (lv_at hl 0 rfl) ?_
    refine k_get (v := .ref ma_lo) S in_MA hK hP 0 rfl rfl 0 (by decide) ql_MA_9 rfl d_MA_work_78 ?_
    refine lv_iload_n hx hb d_MA_work_81 rfl (lv_at hl 2 rfl) ?_
    refine k_top (y := nI (tn b)) (q1 (by assumption)).2.1 ?_
    refine k_ld (k := tn b) hx hb hK hP 1 0 rfl rfl rfl (q1 (by assumption)).2.2 (by decide) d_MA_work_82 ?_
    refine k_gov (ws' := [(ma, .inr (6, [.ref ma_lo, .ref ma_ke, .ref ma_sk, .int (nI (tq + 1)), .int y_at, .int y_wasUsed, .int y_taken, .int (nI em), .int y_ending, .int y_outcome])), (ma_lo, .inl (cI, 9, .inl lo)), (ma_ke, .inl (cI, 40, .inl ke)), (ma_sk, .inl (cI, 7, .inl (upd sk tq (lo (tn b)))))]) (wr := [(ma_lo, .inl (cI, 9, .inl lo)), (ma_ke, .inl (cI, 40, .inl ke))]) (k_runV (q0 := 0) (As := [.int (lo (tn b))]) (rest := []) (n := 1) S (c_MA_push l D cI cZ ma ma_lo ma_ke ma_sk y_at y_wasUsed y_taken (nI em) y_ending y_outcome tq sk (lo (tn b)) (q1 (by assumption)).1) E0_b E0_t ql_MA_89 qi_MA_push qs_MA_push qn_MA qc_MA_push (by decide +kernel) rfl ⟨rfl, rfl⟩ ⟨Nat.le_of_ble_eq_true rfl, Nat.le_of_ble_eq_true rfl⟩ hK hP hD [0, 3] rfl (by decide) rfl rfl hl.1 rfl (Nat.le_of_ble_eq_true rfl) d_MA_work_83 ⟨Nat.zero_le _, Nat.zero_le _⟩) hP hD hS hA [0, 3] [1, 2] [2, 0, 1, 3] rfl rfl (by decide) (by decide) rfl (by decide) (fun H locs hP hD hS => ?_)
    refine lv_goto (tgt := 137) hx hb d_MA_work_86 (by decide) ?_
    exact k_vret hx hb hr hlocks hK hP hD hS (by rw [f_MA_work, if_neg h1_1, if_pos h1_2]) d_MA_work_137
  by_cases h1_3 : o = 2
  · skip
    refine k_top h1_3 ?_
    refine lv_tableIn (tgt := 89) hx hb d_MA_work_1 (by decide) (by decide) rfl (by decide) ?_
    refine lv_aload_n hx hb d_MA_work_89 rfl (lv_at hl 0 rfl) ?_
    refine k_get (v := .ref ma_lo) S in_MA hK hP 0 rfl rfl 0 (by decide) ql_MA_9 rfl d_MA_work_90 ?_
    refine lv_iload_n hx hb d_MA_work_93 rfl (lv_at hl 2 rfl) ?_
    refine k_top (y := nI (tn b)) (q2 (by assumption)).2.1 ?_
    refine lv_aload_n hx hb d_MA_work_94 rfl (lv_at hl 0 rfl) ?_
    refine k_goi (ws' := [(ma, .inr (6, [.ref ma_lo, .ref ma_ke, .ref ma_sk, .int (nI (tq - 1)), .int y_at, .int y_wasUsed, .int y_taken, .int (nI em), .int y_ending, .int y_outcome])), (ma_lo, .inl (cI, 9, .inl lo)), (ma_ke, .inl (cI, 40, .inl ke)), (ma_sk, .inl (cI, 7, .inl sk))]) (wr := [(ma_lo, .inl (cI, 9, .inl lo)), (ma_ke, .inl (cI, 40, .inl ke))]) (k_runV (q0 := 0) (As := []) (rest := [.int (nI (tn b)), .ref ma_lo]) (n := 0) S (c_MA_pop l D cI cZ ma ma_lo ma_ke ma_sk y_at y_wasUsed y_taken (nI em) y_ending y_outcome tq sk (q2 (by assumption)).1 (by omega)) E0_b E0_t ql_MA_64 qi_MA_pop qs_MA_pop qn_MA qc_MA_pop (by decide +kernel) rfl ⟨rfl, rfl⟩ ⟨Nat.le_of_ble_eq_true rfl, Nat.le_of_ble_eq_true rfl⟩ hK hP hD [0, 3] rfl (by decide) rfl rfl hl.1 rfl (Nat.le_of_ble_eq_true rfl) d_MA_work_95 ⟨Nat.zero_le _, Nat.zero_le _⟩) hP hD hS hA [0, 3] [1, 2] [2, 0, 1, 3] rfl rfl (by decide) (by decide) rfl (by decide) (fun H locs hP hD hS => ?_)
    refine k_st (k := tn b) (x := sk (tq - 1)) (ws' := [(ma, .inr (6, [.ref ma_lo, .ref ma_ke, .ref ma_sk, .int (nI (tq - 1)), .int y_at, .int y_wasUsed, .int y_taken, .int (nI em), .int y_ending, .int y_outcome])), (ma_lo, .inl (cI, 9, .inl (upd lo (tn b) (sk (tq - 1))))), (ma_ke, .inl (cI, 40, .inl ke)), (ma_sk, .inl (cI, 7, .inl sk))]) hx hb hK hP hD hS 1 0 rfl rfl rfl (q2 (by assumption)).2.2 (by decide) rfl d_MA_work_98 (fun H locs hP hD hS => ?_)
    refine lv_goto (tgt := 137) hx hb d_MA_work_99 (by decide) ?_
    exact k_vret hx hb hr hlocks hK hP hD hS (by rw [f_MA_work, if_neg h1_1, if_neg h1_2, if_pos h1_3]) d_MA_work_137
  by_cases h1_4 : o = 9
  · skip
    refine k_top h1_4 ?_
    refine lv_tableIn (tgt := 102) hx hb d_MA_work_1 (by decide) (by decide) rfl (by decide) ?_
    refine lv_aload_n hx hb d_MA_work_102 rfl (lv_at hl 0 rfl) ?_
    refine lv_aload_n hx hb d_MA_work_103 rfl (lv_at hl 0 rfl) ?_
    refine k_goi (ws' := [(ma, .inr (6, [.ref ma_lo, .ref ma_ke, .ref ma_sk, .int (nI (tq - 1)), .int y_at, .int y_wasUsed, .int y_taken, .int (nI em), .int y_ending, .int y_outcome])), (ma_lo, .inl (cI, 9, .inl lo)), (ma_ke, .inl (cI, 40, .inl ke)), (ma_sk, .inl (cI, 7, .inl sk))]) (wr := [(ma_lo, .inl (cI, 9, .inl lo)), (ma_ke, .inl (cI, 40, .inl ke))]) (k_runV (q0 := 0) (As := []) (rest := [.ref ma]) (n := 0) S (c_MA_pop l D cI cZ ma ma_lo ma_ke ma_sk y_at y_wasUsed y_taken (nI em) y_ending y_outcome tq sk (q9 (by assumption)).1 (by omega)) E0_b E0_t ql_MA_64 qi_MA_pop qs_MA_pop qn_MA qc_MA_pop (by decide +kernel) rfl ⟨rfl, rfl⟩ ⟨Nat.le_of_ble_eq_true rfl, Nat.le_of_ble_eq_true rfl⟩ hK hP hD [0, 3] rfl (by decide) rfl rfl hl.1 rfl (Nat.le_of_ble_eq_true rfl) d_MA_work_104 ⟨Nat.zero_le _, Nat.zero_le _⟩) hP hD hS hA [0, 3] [1, 2] [2, 0, 1, 3] rfl rfl (by decide) (by decide) rfl (by decide) (fun H locs hP hD hS => ?_)
    refine k_gov (ws' := [(ma, .inr (6, [.ref ma_lo, .ref ma_ke, .ref ma_sk, .int (nI ((tq - 1) + 1 + 1)), .int y_at, .int y_wasUsed, .int y_taken, .int (nI em), .int y_ending, .int y_outcome])), (ma_lo, .inl (cI, 9, .inl lo)), (ma_ke, .inl (cI, 40, .inl ke)), (ma_sk, .inl (cI, 7, .inl (upd (upd sk (tq - 1) (sk (tq - 1))) ((tq - 1) + 1) (sk (tq - 1)))))]) (wr := [(ma_lo, .inl (cI, 9, .inl lo)), (ma_ke, .inl (cI, 40, .inl ke))]) (k_runV (q0 := 0) (As := [.int (sk (tq - 1))]) (rest := []) (n := 1) S (c_MA_pushBoth l D cI cZ ma ma_lo ma_ke ma_sk y_at y_wasUsed y_taken (nI em) y_ending y_outcome (tq - 1) sk (sk (tq - 1)) (by have := q9 (by assumption); omega)) E0_b E0_t ql_MA_93 qi_MA_pushBoth qs_MA_pushBoth qn_MA qc_MA_pushBoth (by decide +kernel) rfl ⟨rfl, rfl⟩ ⟨Nat.le_of_ble_eq_true rfl, Nat.le_of_ble_eq_true rfl⟩ hK hP hD [0, 3] rfl (by decide) rfl rfl hl.1 rfl (Nat.le_of_ble_eq_true rfl) d_MA_work_107 ⟨Nat.zero_le _, Nat.zero_le _⟩) hP hD hS hA [0, 3] [1, 2] [2, 0, 1, 3] rfl rfl (by decide) (by decide) rfl (by decide) (fun H locs hP hD hS => ?_)
    refine lv_goto (tgt := 137) hx hb d_MA_work_110 (by decide) ?_
    exact k_vret hx hb hr hlocks hK hP hD hS (by rw [f_MA_work, if_neg h1_1, if_neg h1_2, if_neg h1_3, if_pos h1_4]) d_MA_work_137
  by_cases h1_5 : o = 11
  · skip
    refine k_top h1_5 ?_
    refine lv_tableIn (tgt := 113) hx hb d_MA_work_1 (by decide) (by decide) rfl (by decide) ?_
    refine lv_aload_n hx hb d_MA_work_113 rfl (lv_at hl 0 rfl) ?_
    refine k_goi (ws' := [(ma, .inr (6, [.ref ma_lo, .ref ma_ke, .ref ma_sk, .int (nI (tq - 1)), .int y_at, .int y_wasUsed, .int y_taken, .int (nI em), .int y_ending, .int y_outcome])), (ma_lo, .inl (cI, 9, .inl lo)), (ma_ke, .inl (cI, 40, .inl ke)), (ma_sk, .inl (cI, 7, .inl sk))]) (wr := [(ma_lo, .inl (cI, 9, .inl lo)), (ma_ke, .inl (cI, 40, .inl ke))]) (k_runV (q0 := 0) (As := []) (rest := []) (n := 0) S (c_MA_pop l D cI cZ ma ma_lo ma_ke ma_sk y_at y_wasUsed y_taken (nI em) y_ending y_outcome tq sk (q11 (by assumption)) (by omega)) E0_b E0_t ql_MA_64 qi_MA_pop qs_MA_pop qn_MA qc_MA_pop (by decide +kernel) rfl ⟨rfl, rfl⟩ ⟨Nat.le_of_ble_eq_true rfl, Nat.le_of_ble_eq_true rfl⟩ hK hP hD [0, 3] rfl (by decide) rfl rfl hl.1 rfl (Nat.le_of_ble_eq_true rfl) d_MA_work_114 ⟨Nat.zero_le _, Nat.zero_le _⟩) hP hD hS hA [0, 3] [1, 2] [2, 0, 1, 3] rfl rfl (by decide) (by decide) rfl (by decide) (fun H locs hP hD hS => ?_)
    refine lv_pop hx hb d_MA_work_117 rfl ?_
    refine lv_goto (tgt := 137) hx hb d_MA_work_118 (by decide) ?_
    exact k_vret hx hb hr hlocks hK hP hD hS (by rw [f_MA_work, if_neg h1_1, if_neg h1_2, if_neg h1_3, if_neg h1_4, if_pos h1_5]) d_MA_work_137
  by_cases h1_6 : o = 12
  · skip
    refine k_top h1_6 ?_
    refine lv_tableIn (tgt := 121) hx hb d_MA_work_1 (by decide) (by decide) rfl (by decide) ?_
    refine lv_aload_n hx hb d_MA_work_121 rfl (lv_at hl 0 rfl) ?_
    refine lv_aload_n hx hb d_MA_work_122 rfl (lv_at hl 0 rfl) ?_
    refine k_goi (ws' := [(ma, .inr (6, [.ref ma_lo, .ref ma_ke, .ref ma_sk, .int (nI (tq - 1)), .int y_at, .int y_wasUsed, .int y_taken, .int (nI em), .int y_ending, .int y_outcome])), (ma_lo, .inl (cI, 9, .inl lo)), (ma_ke, .inl (cI, 40, .inl ke)), (ma_sk, .inl (cI, 7, .inl sk))]) (wr := [(ma_lo, .inl (cI, 9, .inl lo)), (ma_ke, .inl (cI, 40, .inl ke))]) (k_runV (q0 := 0) (As := []) (rest := [.ref ma]) (n := 0) S (c_MA_pop l D cI cZ ma ma_lo ma_ke ma_sk y_at y_wasUsed y_taken (nI em) y_ending y_outcome tq sk (q12 (by assumption)) (by omega)) E0_b E0_t ql_MA_64 qi_MA_pop qs_MA_pop qn_MA qc_MA_pop (by decide +kernel) rfl ⟨rfl, rfl⟩ ⟨Nat.le_of_ble_eq_true rfl, Nat.le_of_ble_eq_true rfl⟩ hK hP hD [0, 3] rfl (by decide) rfl rfl hl.1 rfl (Nat.le_of_ble_eq_true rfl) d_MA_work_123 ⟨Nat.zero_le _, Nat.zero_le _⟩) hP hD hS hA [0, 3] [1, 2] [2, 0, 1, 3] rfl rfl (by decide) (by decide) rfl (by decide) (fun H locs hP hD hS => ?_)
    refine k_gov (ws' := [(ma, .inr (6, [.ref ma_lo, .ref ma_ke, .ref ma_sk, .int (nI (tq - 1)), .int y_at, .int y_wasUsed, .int y_taken, .int (nI (em + 1)), .int y_ending, .int y_outcome])), (ma_lo, .inl (cI, 9, .inl lo)), (ma_ke, .inl (cI, 40, .inl (f_MA_emit em ke (sk (tq - 1))))), (ma_sk, .inl (cI, 7, .inl sk))]) (wr := [(ma_lo, .inl (cI, 9, .inl lo)), (ma_sk, .inl (cI, 7, .inl sk))]) (k_runV (q0 := 0) (As := [.int (sk (tq - 1))]) (rest := []) (n := 1) S (c_MA_emit l D cI cZ ma ma_lo ma_ke ma_sk (nI (tq - 1)) y_at y_wasUsed y_taken y_ending y_outcome em ke (sk (tq - 1)) (by omega)) E0_b E0_t ql_MA_96 qi_MA_emit qs_MA_emit qn_MA qc_MA_emit (by decide +kernel) rfl ⟨rfl, rfl⟩ ⟨Nat.le_of_ble_eq_true rfl, Nat.le_of_ble_eq_true rfl⟩ hK hP hD [0, 2] rfl (by decide) rfl rfl hl.1 rfl (Nat.le_of_ble_eq_true rfl) d_MA_work_126 ⟨Nat.zero_le _, Nat.zero_le _⟩) hP hD hS hA [0, 2] [1, 3] [2, 0, 3, 1] rfl rfl (by decide) (by decide) rfl (by decide) (fun H locs hP hD hS => ?_)
    refine lv_goto (tgt := 137) hx hb d_MA_work_129 (by decide) ?_
    exact k_vret hx hb hr hlocks hK hP hD hS (by rw [f_MA_work, if_neg h1_1, if_neg h1_2, if_neg h1_3, if_neg h1_4, if_neg h1_5, if_pos h1_6]) d_MA_work_137
  by_cases h1_7 : o = 3
  · skip
    refine k_top h1_7 ?_
    refine lv_tableIn (tgt := 132) hx hb d_MA_work_1 (by decide) (by decide) rfl (by decide) ?_
    refine lv_aload_n hx hb d_MA_work_132 rfl (lv_at hl 0 rfl) ?_
    refine lv_iload_n hx hb d_MA_work_133 rfl (lv_at hl 1 rfl) ?_
    refine k_gov (ws' := [(ma, .inr (6, [.ref ma_lo, .ref ma_ke, .ref ma_sk, .int (nI ((f_MA_workOnTwo tq sk o).2)), .int y_at, .int y_wasUsed, .int y_taken, .int (nI em), .int y_ending, .int y_outcome])), (ma_lo, .inl (cI, 9, .inl lo)), (ma_ke, .inl (cI, 40, .inl ke)), (ma_sk, .inl (cI, 7, .inl ((f_MA_workOnTwo tq sk o).1)))]) (wr := [(ma_lo, .inl (cI, 9, .inl lo)), (ma_ke, .inl (cI, 40, .inl ke))]) (k_runV (q0 := 0) (As := [.int o]) (rest := []) (n := 1) S (c_MA_workOnTwo l D cI cZ ma ma_lo ma_ke ma_sk y_at y_wasUsed y_taken (nI em) y_ending y_outcome tq sk o (qd (by assumption) (by assumption) (by assumption) (by assumption) (by assumption) (by assumption)) (by omega)) E0_b E0_t ql_MA_99 qi_MA_workOnTwo qs_MA_workOnTwo qn_MA qc_MA_workOnTwo (by decide +kernel) rfl ⟨rfl, rfl⟩ ⟨Nat.le_of_ble_eq_true rfl, Nat.le_of_ble_eq_true rfl⟩ hK hP hD [0, 3] rfl (by decide) rfl rfl hl.1 rfl (Nat.le_of_ble_eq_true rfl) d_MA_work_134 ⟨Nat.zero_le _, Nat.zero_le _⟩) hP hD hS hA [0, 3] [1, 2] [2, 0, 1, 3] rfl rfl (by decide) (by decide) rfl (by decide) (fun H locs hP hD hS => ?_)
    exact k_vret hx hb hr hlocks hK hP hD hS (by rw [f_MA_work, if_neg h1_1, if_neg h1_2, if_neg h1_3, if_neg h1_4, if_neg h1_5, if_neg h1_6, if_pos h1_7]) d_MA_work_137
  by_cases h1_8 : o = 4
  · skip
    refine k_top h1_8 ?_
    refine lv_tableIn (tgt := 132) hx hb d_MA_work_1 (by decide) (by decide) rfl (by decide) ?_
    refine lv_aload_n hx hb d_MA_work_132 rfl (lv_at hl 0 rfl) ?_
    refine lv_iload_n hx hb d_MA_work_133 rfl (lv_at hl 1 rfl) ?_
    refine k_gov (ws' := [(ma, .inr (6, [.ref ma_lo, .ref ma_ke, .ref ma_sk, .int (nI ((f_MA_workOnTwo tq sk o).2)), .int y_at, .int y_wasUsed, .int y_taken, .int (nI em), .int y_ending, .int y_outcome])), (ma_lo, .inl (cI, 9, .inl lo)), (ma_ke, .inl (cI, 40, .inl ke)), (ma_sk, .inl (cI, 7, .inl ((f_MA_workOnTwo tq sk o).1)))]) (wr := [(ma_lo, .inl (cI, 9, .inl lo)), (ma_ke, .inl (cI, 40, .inl ke))]) (k_runV (q0 := 0) (As := [.int o]) (rest := []) (n := 1) S (c_MA_workOnTwo l D cI cZ ma ma_lo ma_ke ma_sk y_at y_wasUsed y_taken (nI em) y_ending y_outcome tq sk o (qd (by assumption) (by assumption) (by assumption) (by assumption) (by assumption) (by assumption)) (by omega)) E0_b E0_t ql_MA_99 qi_MA_workOnTwo qs_MA_workOnTwo qn_MA qc_MA_workOnTwo (by decide +kernel) rfl ⟨rfl, rfl⟩ ⟨Nat.le_of_ble_eq_true rfl, Nat.le_of_ble_eq_true rfl⟩ hK hP hD [0, 3] rfl (by decide) rfl rfl hl.1 rfl (Nat.le_of_ble_eq_true rfl) d_MA_work_134 ⟨Nat.zero_le _, Nat.zero_le _⟩) hP hD hS hA [0, 3] [1, 2] [2, 0, 1, 3] rfl rfl (by decide) (by decide) rfl (by decide) (fun H locs hP hD hS => ?_)
    exact k_vret hx hb hr hlocks hK hP hD hS (by rw [f_MA_work, if_neg h1_1, if_neg h1_2, if_neg h1_3, if_neg h1_4, if_neg h1_5, if_neg h1_6, if_neg h1_7, if_pos h1_8]) d_MA_work_137
  by_cases h1_9 : o = 5
  · skip
    refine k_top h1_9 ?_
    refine lv_tableIn (tgt := 132) hx hb d_MA_work_1 (by decide) (by decide) rfl (by decide) ?_
    refine lv_aload_n hx hb d_MA_work_132 rfl (lv_at hl 0 rfl) ?_
    refine lv_iload_n hx hb d_MA_work_133 rfl (lv_at hl 1 rfl) ?_
    refine k_gov (ws' := [(ma, .inr (6, [.ref ma_lo, .ref ma_ke, .ref ma_sk, .int (nI ((f_MA_workOnTwo tq sk o).2)), .int y_at, .int y_wasUsed, .int y_taken, .int (nI em), .int y_ending, .int y_outcome])), (ma_lo, .inl (cI, 9, .inl lo)), (ma_ke, .inl (cI, 40, .inl ke)), (ma_sk, .inl (cI, 7, .inl ((f_MA_workOnTwo tq sk o).1)))]) (wr := [(ma_lo, .inl (cI, 9, .inl lo)), (ma_ke, .inl (cI, 40, .inl ke))]) (k_runV (q0 := 0) (As := [.int o]) (rest := []) (n := 1) S (c_MA_workOnTwo l D cI cZ ma ma_lo ma_ke ma_sk y_at y_wasUsed y_taken (nI em) y_ending y_outcome tq sk o (qd (by assumption) (by assumption) (by assumption) (by assumption) (by assumption) (by assumption)) (by omega)) E0_b E0_t ql_MA_99 qi_MA_workOnTwo qs_MA_workOnTwo qn_MA qc_MA_workOnTwo (by decide +kernel) rfl ⟨rfl, rfl⟩ ⟨Nat.le_of_ble_eq_true rfl, Nat.le_of_ble_eq_true rfl⟩ hK hP hD [0, 3] rfl (by decide) rfl rfl hl.1 rfl (Nat.le_of_ble_eq_true rfl) d_MA_work_134 ⟨Nat.zero_le _, Nat.zero_le _⟩) hP hD hS hA [0, 3] [1, 2] [2, 0, 1, 3] rfl rfl (by decide) (by decide) rfl (by decide) (fun H locs hP hD hS => ?_)
    exact k_vret hx hb hr hlocks hK hP hD hS (by rw [f_MA_work, if_neg h1_1, if_neg h1_2, if_neg h1_3, if_neg h1_4, if_neg h1_5, if_neg h1_6, if_neg h1_7, if_neg h1_8, if_pos h1_9]) d_MA_work_137
  by_cases h1_10 : o = 6
  · skip
    refine k_top h1_10 ?_
    refine lv_tableIn (tgt := 132) hx hb d_MA_work_1 (by decide) (by decide) rfl (by decide) ?_
    refine lv_aload_n hx hb d_MA_work_132 rfl (lv_at hl 0 rfl) ?_
    refine lv_iload_n hx hb d_MA_work_133 rfl (lv_at hl 1 rfl) ?_
    refine k_gov (ws' := [(ma, .inr (6, [.ref ma_lo, .ref ma_ke, .ref ma_sk, .int (nI ((f_MA_workOnTwo tq sk o).2)), .int y_at, .int y_wasUsed, .int y_taken, .int (nI em), .int y_ending, .int y_outcome])), (ma_lo, .inl (cI, 9, .inl lo)), (ma_ke, .inl (cI, 40, .inl ke)), (ma_sk, .inl (cI, 7, .inl ((f_MA_workOnTwo tq sk o).1)))]) (wr := [(ma_lo, .inl (cI, 9, .inl lo)), (ma_ke, .inl (cI, 40, .inl ke))]) (k_runV (q0 := 0) (As := [.int o]) (rest := []) (n := 1) S (c_MA_workOnTwo l D cI cZ ma ma_lo ma_ke ma_sk y_at y_wasUsed y_taken (nI em) y_ending y_outcome tq sk o (qd (by assumption) (by assumption) (by assumption) (by assumption) (by assumption) (by assumption)) (by omega)) E0_b E0_t ql_MA_99 qi_MA_workOnTwo qs_MA_workOnTwo qn_MA qc_MA_workOnTwo (by decide +kernel) rfl ⟨rfl, rfl⟩ ⟨Nat.le_of_ble_eq_true rfl, Nat.le_of_ble_eq_true rfl⟩ hK hP hD [0, 3] rfl (by decide) rfl rfl hl.1 rfl (Nat.le_of_ble_eq_true rfl) d_MA_work_134 ⟨Nat.zero_le _, Nat.zero_le _⟩) hP hD hS hA [0, 3] [1, 2] [2, 0, 1, 3] rfl rfl (by decide) (by decide) rfl (by decide) (fun H locs hP hD hS => ?_)
    exact k_vret hx hb hr hlocks hK hP hD hS (by rw [f_MA_work, if_neg h1_1, if_neg h1_2, if_neg h1_3, if_neg h1_4, if_neg h1_5, if_neg h1_6, if_neg h1_7, if_neg h1_8, if_neg h1_9, if_pos h1_10]) d_MA_work_137
  by_cases h1_11 : o = 7
  · skip
    refine k_top h1_11 ?_
    refine lv_tableIn (tgt := 132) hx hb d_MA_work_1 (by decide) (by decide) rfl (by decide) ?_
    refine lv_aload_n hx hb d_MA_work_132 rfl (lv_at hl 0 rfl) ?_
    refine lv_iload_n hx hb d_MA_work_133 rfl (lv_at hl 1 rfl) ?_
    refine k_gov (ws' := [(ma, .inr (6, [.ref ma_lo, .ref ma_ke, .ref ma_sk, .int (nI ((f_MA_workOnTwo tq sk o).2)), .int y_at, .int y_wasUsed, .int y_taken, .int (nI em), .int y_ending, .int y_outcome])), (ma_lo, .inl (cI, 9, .inl lo)), (ma_ke, .inl (cI, 40, .inl ke)), (ma_sk, .inl (cI, 7, .inl ((f_MA_workOnTwo tq sk o).1)))]) (wr := [(ma_lo, .inl (cI, 9, .inl lo)), (ma_ke, .inl (cI, 40, .inl ke))]) (k_runV (q0 := 0) (As := [.int o]) (rest := []) (n := 1) S (c_MA_workOnTwo l D cI cZ ma ma_lo ma_ke ma_sk y_at y_wasUsed y_taken (nI em) y_ending y_outcome tq sk o (qd (by assumption) (by assumption) (by assumption) (by assumption) (by assumption) (by assumption)) (by omega)) E0_b E0_t ql_MA_99 qi_MA_workOnTwo qs_MA_workOnTwo qn_MA qc_MA_workOnTwo (by decide +kernel) rfl ⟨rfl, rfl⟩ ⟨Nat.le_of_ble_eq_true rfl, Nat.le_of_ble_eq_true rfl⟩ hK hP hD [0, 3] rfl (by decide) rfl rfl hl.1 rfl (Nat.le_of_ble_eq_true rfl) d_MA_work_134 ⟨Nat.zero_le _, Nat.zero_le _⟩) hP hD hS hA [0, 3] [1, 2] [2, 0, 1, 3] rfl rfl (by decide) (by decide) rfl (by decide) (fun H locs hP hD hS => ?_)
    exact k_vret hx hb hr hlocks hK hP hD hS (by rw [f_MA_work, if_neg h1_1, if_neg h1_2, if_neg h1_3, if_neg h1_4, if_neg h1_5, if_neg h1_6, if_neg h1_7, if_neg h1_8, if_neg h1_9, if_neg h1_10, if_pos h1_11]) d_MA_work_137
  by_cases h1_12 : o = 8
  · skip
    refine k_top h1_12 ?_
    refine lv_tableIn (tgt := 132) hx hb d_MA_work_1 (by decide) (by decide) rfl (by decide) ?_
    refine lv_aload_n hx hb d_MA_work_132 rfl (lv_at hl 0 rfl) ?_
    refine lv_iload_n hx hb d_MA_work_133 rfl (lv_at hl 1 rfl) ?_
    refine k_gov (ws' := [(ma, .inr (6, [.ref ma_lo, .ref ma_ke, .ref ma_sk, .int (nI ((f_MA_workOnTwo tq sk o).2)), .int y_at, .int y_wasUsed, .int y_taken, .int (nI em), .int y_ending, .int y_outcome])), (ma_lo, .inl (cI, 9, .inl lo)), (ma_ke, .inl (cI, 40, .inl ke)), (ma_sk, .inl (cI, 7, .inl ((f_MA_workOnTwo tq sk o).1)))]) (wr := [(ma_lo, .inl (cI, 9, .inl lo)), (ma_ke, .inl (cI, 40, .inl ke))]) (k_runV (q0 := 0) (As := [.int o]) (rest := []) (n := 1) S (c_MA_workOnTwo l D cI cZ ma ma_lo ma_ke ma_sk y_at y_wasUsed y_taken (nI em) y_ending y_outcome tq sk o (qd (by assumption) (by assumption) (by assumption) (by assumption) (by assumption) (by assumption)) (by omega)) E0_b E0_t ql_MA_99 qi_MA_workOnTwo qs_MA_workOnTwo qn_MA qc_MA_workOnTwo (by decide +kernel) rfl ⟨rfl, rfl⟩ ⟨Nat.le_of_ble_eq_true rfl, Nat.le_of_ble_eq_true rfl⟩ hK hP hD [0, 3] rfl (by decide) rfl rfl hl.1 rfl (Nat.le_of_ble_eq_true rfl) d_MA_work_134 ⟨Nat.zero_le _, Nat.zero_le _⟩) hP hD hS hA [0, 3] [1, 2] [2, 0, 1, 3] rfl rfl (by decide) (by decide) rfl (by decide) (fun H locs hP hD hS => ?_)
    exact k_vret hx hb hr hlocks hK hP hD hS (by rw [f_MA_work, if_neg h1_1, if_neg h1_2, if_neg h1_3, if_neg h1_4, if_neg h1_5, if_neg h1_6, if_neg h1_7, if_neg h1_8, if_neg h1_9, if_neg h1_10, if_neg h1_11, if_pos h1_12]) d_MA_work_137
  by_cases h1_13 : o = 10
  · skip
    refine k_top h1_13 ?_
    refine lv_tableIn (tgt := 132) hx hb d_MA_work_1 (by decide) (by decide) rfl (by decide) ?_
    refine lv_aload_n hx hb d_MA_work_132 rfl (lv_at hl 0 rfl) ?_
    refine lv_iload_n hx hb d_MA_work_133 rfl (lv_at hl 1 rfl) ?_
    refine k_gov (ws' := [(ma, .inr (6, [.ref ma_lo, .ref ma_ke, .ref ma_sk, .int (nI ((f_MA_workOnTwo tq sk o).2)), .int y_at, .int y_wasUsed, .int y_taken, .int (nI em), .int y_ending, .int y_outcome])), (ma_lo, .inl (cI, 9, .inl lo)), (ma_ke, .inl (cI, 40, .inl ke)), (ma_sk, .inl (cI, 7, .inl ((f_MA_workOnTwo tq sk o).1)))]) (wr := [(ma_lo, .inl (cI, 9, .inl lo)), (ma_ke, .inl (cI, 40, .inl ke))]) (k_runV (q0 := 0) (As := [.int o]) (rest := []) (n := 1) S (c_MA_workOnTwo l D cI cZ ma ma_lo ma_ke ma_sk y_at y_wasUsed y_taken (nI em) y_ending y_outcome tq sk o (qd (by assumption) (by assumption) (by assumption) (by assumption) (by assumption) (by assumption)) (by omega)) E0_b E0_t ql_MA_99 qi_MA_workOnTwo qs_MA_workOnTwo qn_MA qc_MA_workOnTwo (by decide +kernel) rfl ⟨rfl, rfl⟩ ⟨Nat.le_of_ble_eq_true rfl, Nat.le_of_ble_eq_true rfl⟩ hK hP hD [0, 3] rfl (by decide) rfl rfl hl.1 rfl (Nat.le_of_ble_eq_true rfl) d_MA_work_134 ⟨Nat.zero_le _, Nat.zero_le _⟩) hP hD hS hA [0, 3] [1, 2] [2, 0, 1, 3] rfl rfl (by decide) (by decide) rfl (by decide) (fun H locs hP hD hS => ?_)
    exact k_vret hx hb hr hlocks hK hP hD hS (by rw [f_MA_work, if_neg h1_1, if_neg h1_2, if_neg h1_3, if_neg h1_4, if_neg h1_5, if_neg h1_6, if_neg h1_7, if_neg h1_8, if_neg h1_9, if_neg h1_10, if_neg h1_11, if_neg h1_12, if_pos h1_13]) d_MA_work_137
  refine lv_tableOut (tgt := 132) hx hb d_MA_work_1 (by have e0 := lv_neT h1_1 (show (0 : Int32).toInt = 0 by decide); have e1 := lv_neT h1_2 (show (1 : Int32).toInt = 1 by decide); have e2 := lv_neT h1_3 (show (2 : Int32).toInt = 2 by decide); have e3 := lv_neT h1_4 (show (9 : Int32).toInt = 9 by decide); have e4 := lv_neT h1_5 (show (11 : Int32).toInt = 11 by decide); have e5 := lv_neT h1_6 (show (12 : Int32).toInt = 12 by decide); have e6 := lv_neT h1_7 (show (3 : Int32).toInt = 3 by decide); have e7 := lv_neT h1_8 (show (4 : Int32).toInt = 4 by decide); have e8 := lv_neT h1_9 (show (5 : Int32).toInt = 5 by decide); have e9 := lv_neT h1_10 (show (6 : Int32).toInt = 6 by decide); have e10 := lv_neT h1_11 (show (7 : Int32).toInt = 7 by decide); have e11 := lv_neT h1_12 (show (8 : Int32).toInt = 8 by decide); have e12 := lv_neT h1_13 (show (10 : Int32).toInt = 10 by decide); omega) (by decide) ?_
  refine lv_aload_n hx hb d_MA_work_132 rfl (lv_at hl 0 rfl) ?_
  refine lv_iload_n hx hb d_MA_work_133 rfl (lv_at hl 1 rfl) ?_
  refine k_gov (ws' := [(ma, .inr (6, [.ref ma_lo, .ref ma_ke, .ref ma_sk, .int (nI ((f_MA_workOnTwo tq sk o).2)), .int y_at, .int y_wasUsed, .int y_taken, .int (nI em), .int y_ending, .int y_outcome])), (ma_lo, .inl (cI, 9, .inl lo)), (ma_ke, .inl (cI, 40, .inl ke)), (ma_sk, .inl (cI, 7, .inl ((f_MA_workOnTwo tq sk o).1)))]) (wr := [(ma_lo, .inl (cI, 9, .inl lo)), (ma_ke, .inl (cI, 40, .inl ke))]) (k_runV (q0 := 0) (As := [.int o]) (rest := []) (n := 1) S (c_MA_workOnTwo l D cI cZ ma ma_lo ma_ke ma_sk y_at y_wasUsed y_taken (nI em) y_ending y_outcome tq sk o (qd (by assumption) (by assumption) (by assumption) (by assumption) (by assumption) (by assumption)) (by omega)) E0_b E0_t ql_MA_99 qi_MA_workOnTwo qs_MA_workOnTwo qn_MA qc_MA_workOnTwo (by decide +kernel) rfl ⟨rfl, rfl⟩ ⟨Nat.le_of_ble_eq_true rfl, Nat.le_of_ble_eq_true rfl⟩ hK hP hD [0, 3] rfl (by decide) rfl rfl hl.1 rfl (Nat.le_of_ble_eq_true rfl) d_MA_work_134 ⟨Nat.zero_le _, Nat.zero_le _⟩) hP hD hS hA [0, 3] [1, 2] [2, 0, 1, 3] rfl rfl (by decide) (by decide) rfl (by decide) (fun H locs hP hD hS => ?_)
  exact k_vret hx hb hr hlocks hK hP hD hS (by rw [f_MA_work, if_neg h1_1, if_neg h1_2, if_neg h1_3, if_neg h1_4, if_neg h1_5, if_neg h1_6, if_neg h1_7, if_neg h1_8, if_neg h1_9, if_neg h1_10, if_neg h1_11, if_neg h1_12, if_neg h1_13]) d_MA_work_137

theorem d_MA_goThrough_0 : decode b_MA_goThrough 0 = .ok (.aload_n 1, 1) := by decide +kernel
theorem d_MA_goThrough_1 : decode b_MA_goThrough 1 = .ok (.getfield 58, 3) := by decide +kernel
theorem d_MA_goThrough_4 : decode b_MA_goThrough 4 = .ok (.aload_n 0, 1) := by decide +kernel
theorem d_MA_goThrough_5 : decode b_MA_goThrough 5 = .ok (.getfield 29, 3) := by decide +kernel
theorem d_MA_goThrough_8 : decode b_MA_goThrough 8 = .ok (.iaload, 1) := by decide +kernel
theorem d_MA_goThrough_9 : decode b_MA_goThrough 9 = .ok (.istore_n 3, 1) := by decide +kernel
theorem d_MA_goThrough_10 : decode b_MA_goThrough 10 = .ok (.aload_n 1, 1) := by decide +kernel
theorem d_MA_goThrough_11 : decode b_MA_goThrough 11 = .ok (.getfield 61, 3) := by decide +kernel
theorem d_MA_goThrough_14 : decode b_MA_goThrough 14 = .ok (.aload_n 0, 1) := by decide +kernel
theorem d_MA_goThrough_15 : decode b_MA_goThrough 15 = .ok (.getfield 29, 3) := by decide +kernel
theorem d_MA_goThrough_18 : decode b_MA_goThrough 18 = .ok (.iaload, 1) := by decide +kernel
theorem d_MA_goThrough_19 : decode b_MA_goThrough 19 = .ok (.tableswitch 168 6 18 #[160, 168, 168, 168, 168, 168, 168, 65, 73, 97, 136, 148, 121], 65) := by decide +kernel
theorem d_MA_goThrough_84 : decode b_MA_goThrough 84 = .ok (.aload_n 0, 1) := by decide +kernel
theorem d_MA_goThrough_85 : decode b_MA_goThrough 85 = .ok (.iload_n 3, 1) := by decide +kernel
theorem d_MA_goThrough_86 : decode b_MA_goThrough 86 = .ok (.putfield 29, 3) := by decide +kernel
theorem d_MA_goThrough_89 : decode b_MA_goThrough 89 = .ok (.goto 122, 3) := by decide +kernel
theorem d_MA_goThrough_92 : decode b_MA_goThrough 92 = .ok (.aload_n 0, 1) := by decide +kernel
theorem d_MA_goThrough_93 : decode b_MA_goThrough 93 = .ok (.aload_n 0, 1) := by decide +kernel
theorem d_MA_goThrough_94 : decode b_MA_goThrough 94 = .ok (.invokevirtual 64, 3) := by decide +kernel
theorem d_MA_goThrough_97 : decode b_MA_goThrough 97 = .ok (.ifCond .ne 7, 3) := by decide +kernel
theorem d_MA_goThrough_100 : decode b_MA_goThrough 100 = .ok (.iload_n 3, 1) := by decide +kernel
theorem d_MA_goThrough_101 : decode b_MA_goThrough 101 = .ok (.goto 9, 3) := by decide +kernel
theorem d_MA_goThrough_104 : decode b_MA_goThrough 104 = .ok (.aload_n 0, 1) := by decide +kernel
theorem d_MA_goThrough_105 : decode b_MA_goThrough 105 = .ok (.getfield 29, 3) := by decide +kernel
theorem d_MA_goThrough_108 : decode b_MA_goThrough 108 = .ok (.iconst 1, 1) := by decide +kernel
theorem d_MA_goThrough_109 : decode b_MA_goThrough 109 = .ok (.iadd, 1) := by decide +kernel
theorem d_MA_goThrough_110 : decode b_MA_goThrough 110 = .ok (.putfield 29, 3) := by decide +kernel
theorem d_MA_goThrough_113 : decode b_MA_goThrough 113 = .ok (.goto 98, 3) := by decide +kernel
theorem d_MA_goThrough_116 : decode b_MA_goThrough 116 = .ok (.aload_n 0, 1) := by decide +kernel
theorem d_MA_goThrough_117 : decode b_MA_goThrough 117 = .ok (.aload_n 0, 1) := by decide +kernel
theorem d_MA_goThrough_118 : decode b_MA_goThrough 118 = .ok (.invokevirtual 64, 3) := by decide +kernel
theorem d_MA_goThrough_121 : decode b_MA_goThrough 121 = .ok (.ifCond .ge 7, 3) := by decide +kernel
theorem d_MA_goThrough_124 : decode b_MA_goThrough 124 = .ok (.iload_n 3, 1) := by decide +kernel
theorem d_MA_goThrough_125 : decode b_MA_goThrough 125 = .ok (.goto 9, 3) := by decide +kernel
theorem d_MA_goThrough_128 : decode b_MA_goThrough 128 = .ok (.aload_n 0, 1) := by decide +kernel
theorem d_MA_goThrough_129 : decode b_MA_goThrough 129 = .ok (.getfield 29, 3) := by decide +kernel
theorem d_MA_goThrough_132 : decode b_MA_goThrough 132 = .ok (.iconst 1, 1) := by decide +kernel
theorem d_MA_goThrough_133 : decode b_MA_goThrough 133 = .ok (.iadd, 1) := by decide +kernel
theorem d_MA_goThrough_134 : decode b_MA_goThrough 134 = .ok (.putfield 29, 3) := by decide +kernel
theorem d_MA_goThrough_137 : decode b_MA_goThrough 137 = .ok (.goto 74, 3) := by decide +kernel
theorem d_MA_goThrough_140 : decode b_MA_goThrough 140 = .ok (.aload_n 0, 1) := by decide +kernel
theorem d_MA_goThrough_141 : decode b_MA_goThrough 141 = .ok (.aload_n 2, 1) := by decide +kernel
theorem d_MA_goThrough_142 : decode b_MA_goThrough 142 = .ok (.aload_n 0, 1) := by decide +kernel
theorem d_MA_goThrough_143 : decode b_MA_goThrough 143 = .ok (.invokevirtual 64, 3) := by decide +kernel
theorem d_MA_goThrough_146 : decode b_MA_goThrough 146 = .ok (.invokevirtual 68, 3) := by decide +kernel
theorem d_MA_goThrough_149 : decode b_MA_goThrough 149 = .ok (.putfield 29, 3) := by decide +kernel
theorem d_MA_goThrough_152 : decode b_MA_goThrough 152 = .ok (.goto 59, 3) := by decide +kernel
theorem d_MA_goThrough_155 : decode b_MA_goThrough 155 = .ok (.aload_n 0, 1) := by decide +kernel
theorem d_MA_goThrough_156 : decode b_MA_goThrough 156 = .ok (.iconst 1, 1) := by decide +kernel
theorem d_MA_goThrough_157 : decode b_MA_goThrough 157 = .ok (.aload_n 0, 1) := by decide +kernel
theorem d_MA_goThrough_158 : decode b_MA_goThrough 158 = .ok (.invokevirtual 64, 3) := by decide +kernel
theorem d_MA_goThrough_161 : decode b_MA_goThrough 161 = .ok (.invokevirtual 74, 3) := by decide +kernel
theorem d_MA_goThrough_164 : decode b_MA_goThrough 164 = .ok (.goto 47, 3) := by decide +kernel
theorem d_MA_goThrough_167 : decode b_MA_goThrough 167 = .ok (.aload_n 0, 1) := by decide +kernel
theorem d_MA_goThrough_168 : decode b_MA_goThrough 168 = .ok (.aload_n 1, 1) := by decide +kernel
theorem d_MA_goThrough_169 : decode b_MA_goThrough 169 = .ok (.aload_n 0, 1) := by decide +kernel
theorem d_MA_goThrough_170 : decode b_MA_goThrough 170 = .ok (.invokevirtual 64, 3) := by decide +kernel
theorem d_MA_goThrough_173 : decode b_MA_goThrough 173 = .ok (.invokevirtual 78, 3) := by decide +kernel
theorem d_MA_goThrough_176 : decode b_MA_goThrough 176 = .ok (.goto 35, 3) := by decide +kernel
theorem d_MA_goThrough_179 : decode b_MA_goThrough 179 = .ok (.aload_n 0, 1) := by decide +kernel
theorem d_MA_goThrough_180 : decode b_MA_goThrough 180 = .ok (.aload_n 1, 1) := by decide +kernel
theorem d_MA_goThrough_181 : decode b_MA_goThrough 181 = .ok (.invokevirtual 82, 3) := by decide +kernel
theorem d_MA_goThrough_184 : decode b_MA_goThrough 184 = .ok (.goto 27, 3) := by decide +kernel
theorem d_MA_goThrough_187 : decode b_MA_goThrough 187 = .ok (.aload_n 0, 1) := by decide +kernel
theorem d_MA_goThrough_188 : decode b_MA_goThrough 188 = .ok (.aload_n 1, 1) := by decide +kernel
theorem d_MA_goThrough_189 : decode b_MA_goThrough 189 = .ok (.getfield 61, 3) := by decide +kernel
theorem d_MA_goThrough_192 : decode b_MA_goThrough 192 = .ok (.aload_n 0, 1) := by decide +kernel
theorem d_MA_goThrough_193 : decode b_MA_goThrough 193 = .ok (.getfield 29, 3) := by decide +kernel
theorem d_MA_goThrough_196 : decode b_MA_goThrough 196 = .ok (.iaload, 1) := by decide +kernel
theorem d_MA_goThrough_197 : decode b_MA_goThrough 197 = .ok (.iload_n 3, 1) := by decide +kernel
theorem d_MA_goThrough_198 : decode b_MA_goThrough 198 = .ok (.invokevirtual 86, 3) := by decide +kernel
theorem d_MA_goThrough_201 : decode b_MA_goThrough 201 = .ok (.aload_n 0, 1) := by decide +kernel
theorem d_MA_goThrough_202 : decode b_MA_goThrough 202 = .ok (.dup, 1) := by decide +kernel
theorem d_MA_goThrough_203 : decode b_MA_goThrough 203 = .ok (.getfield 29, 3) := by decide +kernel
theorem d_MA_goThrough_206 : decode b_MA_goThrough 206 = .ok (.iconst 1, 1) := by decide +kernel
theorem d_MA_goThrough_207 : decode b_MA_goThrough 207 = .ok (.iadd, 1) := by decide +kernel
theorem d_MA_goThrough_208 : decode b_MA_goThrough 208 = .ok (.putfield 29, 3) := by decide +kernel
theorem d_MA_goThrough_211 : decode b_MA_goThrough 211 = .ok (.return_, 1) := by decide +kernel
def f_MA_goThrough (y_ending : Int32) (y_outcome : Int32) (hn : Nat) (bc : Nat) (tq : Nat) (em : Nat) (ya : Int32) (lo : Nat → Int32) (ke : Nat → Int32) (sk : Nat → Int32) (f : Nat → Int32) (g : Nat → Int32) (fr : Nat → Int32) (to : Nat → Int32) (tg : Nat → Int32) (st : Nat → Int32) (fi : Nat → Int32) : (Nat → Int32) × (Nat → Int32) × (Nat → Int32) × Nat × Int32 × Nat × Int32 × Int32 := (if f (tn ya) = 6 then (lo, ke, (f_MA_divide ya y_ending y_outcome hn tq sk fr to tg).1, (f_MA_divide ya y_ending y_outcome hn tq sk fr to tg).2.1, (f_MA_divide ya y_ending y_outcome hn tq sk fr to tg).2.2.1, em, (f_MA_divide ya y_ending y_outcome hn tq sk fr to tg).2.2.2.1, (f_MA_divide ya y_ending y_outcome hn tq sk fr to tg).2.2.2.2) else (if f (tn ya) = 13 then (lo, ke, sk, tq, g (tn ya), em, y_ending, y_outcome) else (if f (tn ya) = 14 then (if sk (tq - 1) = 0 then (lo, ke, sk, tq - 1, g (tn ya), em, y_ending, y_outcome) else (lo, ke, sk, tq - 1, ya + 1, em, y_ending, y_outcome)) else (if f (tn ya) = 15 then (if 0 ≤ sk (tq - 1) then (lo, ke, sk, tq - 1, ya + 1, em, y_ending, y_outcome) else (lo, ke, sk, tq - 1, g (tn ya), em, y_ending, y_outcome)) else (if f (tn ya) = 16 then (lo, ke, sk, tq - 1, ya, em, 1, (sk (tq - 1))) else (if f (tn ya) = 17 then (lo, ke, (f_MA_raise ya y_ending y_outcome hn (tq - 1) sk fr to tg (sk (tq - 1))).1, (f_MA_raise ya y_ending y_outcome hn (tq - 1) sk fr to tg (sk (tq - 1))).2.1, (f_MA_raise ya y_ending y_outcome hn (tq - 1) sk fr to tg (sk (tq - 1))).2.2.1, em, (f_MA_raise ya y_ending y_outcome hn (tq - 1) sk fr to tg (sk (tq - 1))).2.2.2.1, (f_MA_raise ya y_ending y_outcome hn (tq - 1) sk fr to tg (sk (tq - 1))).2.2.2.2) else (if f (tn ya) = 18 then (lo, ke, sk, tq - 1, f_BL_entry bc st fi (sk (tq - 1)), em, y_ending, y_outcome) else (if f (tn ya) = 7 then ((f_MA_work tq em lo ke sk (f (tn ya)) (g (tn ya))).1, (f_MA_work tq em lo ke sk (f (tn ya)) (g (tn ya))).2.1, (f_MA_work tq em lo ke sk (f (tn ya)) (g (tn ya))).2.2.1, (f_MA_work tq em lo ke sk (f (tn ya)) (g (tn ya))).2.2.2.1, ya + 1, (f_MA_work tq em lo ke sk (f (tn ya)) (g (tn ya))).2.2.2.2, y_ending, y_outcome) else (if f (tn ya) = 8 then ((f_MA_work tq em lo ke sk (f (tn ya)) (g (tn ya))).1, (f_MA_work tq em lo ke sk (f (tn ya)) (g (tn ya))).2.1, (f_MA_work tq em lo ke sk (f (tn ya)) (g (tn ya))).2.2.1, (f_MA_work tq em lo ke sk (f (tn ya)) (g (tn ya))).2.2.2.1, ya + 1, (f_MA_work tq em lo ke sk (f (tn ya)) (g (tn ya))).2.2.2.2, y_ending, y_outcome) else (if f (tn ya) = 9 then ((f_MA_work tq em lo ke sk (f (tn ya)) (g (tn ya))).1, (f_MA_work tq em lo ke sk (f (tn ya)) (g (tn ya))).2.1, (f_MA_work tq em lo ke sk (f (tn ya)) (g (tn ya))).2.2.1, (f_MA_work tq em lo ke sk (f (tn ya)) (g (tn ya))).2.2.2.1, ya + 1, (f_MA_work tq em lo ke sk (f (tn ya)) (g (tn ya))).2.2.2.2, y_ending, y_outcome) else (if f (tn ya) = 10 then ((f_MA_work tq em lo ke sk (f (tn ya)) (g (tn ya))).1, (f_MA_work tq em lo ke sk (f (tn ya)) (g (tn ya))).2.1, (f_MA_work tq em lo ke sk (f (tn ya)) (g (tn ya))).2.2.1, (f_MA_work tq em lo ke sk (f (tn ya)) (g (tn ya))).2.2.2.1, ya + 1, (f_MA_work tq em lo ke sk (f (tn ya)) (g (tn ya))).2.2.2.2, y_ending, y_outcome) else (if f (tn ya) = 11 then ((f_MA_work tq em lo ke sk (f (tn ya)) (g (tn ya))).1, (f_MA_work tq em lo ke sk (f (tn ya)) (g (tn ya))).2.1, (f_MA_work tq em lo ke sk (f (tn ya)) (g (tn ya))).2.2.1, (f_MA_work tq em lo ke sk (f (tn ya)) (g (tn ya))).2.2.2.1, ya + 1, (f_MA_work tq em lo ke sk (f (tn ya)) (g (tn ya))).2.2.2.2, y_ending, y_outcome) else (if f (tn ya) = 12 then ((f_MA_work tq em lo ke sk (f (tn ya)) (g (tn ya))).1, (f_MA_work tq em lo ke sk (f (tn ya)) (g (tn ya))).2.1, (f_MA_work tq em lo ke sk (f (tn ya)) (g (tn ya))).2.2.1, (f_MA_work tq em lo ke sk (f (tn ya)) (g (tn ya))).2.2.2.1, ya + 1, (f_MA_work tq em lo ke sk (f (tn ya)) (g (tn ya))).2.2.2.2, y_ending, y_outcome) else ((f_MA_work tq em lo ke sk (f (tn ya)) (g (tn ya))).1, (f_MA_work tq em lo ke sk (f (tn ya)) (g (tn ya))).2.1, (f_MA_work tq em lo ke sk (f (tn ya)) (g (tn ya))).2.2.1, (f_MA_work tq em lo ke sk (f (tn ya)) (g (tn ya))).2.2.2.1, ya + 1, (f_MA_work tq em lo ke sk (f (tn ya)) (g (tn ya))).2.2.2.2, y_ending, y_outcome))))))))))))))
set_option maxHeartbeats 1000000 in
set_option maxRecDepth 100000 in
theorem c_MA_goThrough (l : Launch) (D : va_G) (cI cZ : ClassId) (ma : Nat) (ma_lo ma_ke ma_sk : Nat) (y_wasUsed y_taken y_ending y_outcome : Int32) (cd cd_ops cd_opd cd_fr cd_to cd_tg n hn : Nat) (bl : Nat) (bl_le bl_he bl_st bl_fi bl_be bl_by bl_sa bl_mk bc : Nat) (zi z tq em : Nat) (ya : Int32) (lo ke sk f g fr to tg st fi : Nat → Int32) (hq7 : tq ≤ 7) (hem : em < 2 ^ 31) (hat : ya = nI (tn ya) ∧ tn ya < zi) (hzi : zi < 2 ^ 31) (hz : hn ≤ z) (hz2 : z < 2 ^ 31) (hb32 : bc ≤ 32) (q0 : f (tn ya) = 0 → tq < 7) (q1 : f (tn ya) = 1 → tq < 7 ∧ g (tn ya) = nI (tn (g (tn ya))) ∧ tn (g (tn ya)) < 9) (q2 : f (tn ya) = 2 → 1 ≤ tq ∧ g (tn ya) = nI (tn (g (tn ya))) ∧ tn (g (tn ya)) < 9) (q9 : f (tn ya) = 9 → 1 ≤ tq ∧ tq < 7) (q11 : f (tn ya) = 11 → 1 ≤ tq) (q12 : f (tn ya) = 12 → 1 ≤ tq) (q14 : f (tn ya) = 14 → 1 ≤ tq) (q15 : f (tn ya) = 15 → 1 ≤ tq) (q16 : f (tn ya) = 16 → 1 ≤ tq) (q17 : f (tn ya) = 17 → 1 ≤ tq) (q18 : f (tn ya) = 18 → 1 ≤ tq) (q6 : f (tn ya) = 6 → 2 ≤ tq) (qd : ¬ f (tn ya) = 0 → ¬ f (tn ya) = 1 → ¬ f (tn ya) = 2 → ¬ f (tn ya) = 9 → ¬ f (tn ya) = 11 → ¬ f (tn ya) = 12 → ¬ f (tn ya) = 6 → ¬ f (tn ya) = 13 → ¬ f (tn ya) = 14 → ¬ f (tn ya) = 15 → ¬ f (tn ya) = 16 → ¬ f (tn ya) = 17 → ¬ f (tn ya) = 18 → 2 ≤ tq) : MG l y_MA_goThrough w_MA_goThrough (rmK 4 90) D classes (tyz cI cZ) E0 [.ref ma, .ref cd, .ref bl] [(ma, .inr (6, [.ref ma_lo, .ref ma_ke, .ref ma_sk, .int (nI tq), .int ya, .int y_wasUsed, .int y_taken, .int (nI em), .int y_ending, .int y_outcome])), (ma_lo, .inl (cI, 9, .inl lo)), (ma_ke, .inl (cI, 40, .inl ke)), (ma_sk, .inl (cI, 7, .inl sk)), (cd, .inr (1, [.ref cd_ops, .ref cd_opd, .ref cd_fr, .ref cd_to, .ref cd_tg, .int (nI n), .int (nI hn)])), (cd_ops, .inl (cI, zi, .inl f)), (cd_opd, .inl (cI, zi, .inl g)), (cd_fr, .inl (cI, z, .inl fr)), (cd_to, .inl (cI, z, .inl to)), (cd_tg, .inl (cI, z, .inl tg)), (bl, .inr (4, [.ref bl_le, .ref bl_he, .ref bl_st, .ref bl_fi, .ref bl_be, .ref bl_by, .ref bl_sa, .ref bl_mk, .int (nI bc)])), (bl_st, .inl (cI, 32, .inl st)), (bl_fi, .inl (cI, 32, .inl fi))] (RV D classes (tyz cI cZ) [(ma, .inr (6, [.ref ma_lo, .ref ma_ke, .ref ma_sk, .int (nI ((f_MA_goThrough y_ending y_outcome hn bc tq em ya lo ke sk f g fr to tg st fi).2.2.2.1)), .int ((f_MA_goThrough y_ending y_outcome hn bc tq em ya lo ke sk f g fr to tg st fi).2.2.2.2.1), .int y_wasUsed, .int y_taken, .int (nI ((f_MA_goThrough y_ending y_outcome hn bc tq em ya lo ke sk f g fr to tg st fi).2.2.2.2.2.1)), .int ((f_MA_goThrough y_ending y_outcome hn bc tq em ya lo ke sk f g fr to tg st fi).2.2.2.2.2.2.1), .int ((f_MA_goThrough y_ending y_outcome hn bc tq em ya lo ke sk f g fr to tg st fi).2.2.2.2.2.2.2)])), (ma_lo, .inl (cI, 9, .inl ((f_MA_goThrough y_ending y_outcome hn bc tq em ya lo ke sk f g fr to tg st fi).1))), (ma_ke, .inl (cI, 40, .inl ((f_MA_goThrough y_ending y_outcome hn bc tq em ya lo ke sk f g fr to tg st fi).2.1))), (ma_sk, .inl (cI, 7, .inl ((f_MA_goThrough y_ending y_outcome hn bc tq em ya lo ke sk f g fr to tg st fi).2.2.1))), (cd, .inr (1, [.ref cd_ops, .ref cd_opd, .ref cd_fr, .ref cd_to, .ref cd_tg, .int (nI n), .int (nI hn)])), (cd_ops, .inl (cI, zi, .inl f)), (cd_opd, .inl (cI, zi, .inl g)), (cd_fr, .inl (cI, z, .inl fr)), (cd_to, .inl (cI, z, .inl to)), (cd_tg, .inl (cI, z, .inl tg)), (bl, .inr (4, [.ref bl_le, .ref bl_he, .ref bl_st, .ref bl_fi, .ref bl_be, .ref bl_by, .ref bl_sa, .ref bl_mk, .int (nI bc)])), (bl_st, .inl (cI, 32, .inl st)), (bl_fi, .inl (cI, 32, .inl fi))]) := by
  refine MG.of (cc := b_MA_goThrough) (maxL := 4) (ret := none) (own := "FlowFlattener$Machine") rfl (by decide) rfl (Nat.le_of_ble_eq_true rfl) ?_
  intro p e s m below meth c A ls S hr hlocks hA hP hK hD hS hE hl
  have hx := S.1
  have hb := S.2.1
  have hl : lv_has ls 4 [(0, .ref ma), (1, .ref cd), (2, .ref bl)] := hl
  refine lv_aload_n hx hb d_MA_goThrough_0 rfl (lv_at hl 1 rfl) ?_
  refine k_get (v := .ref cd_opd) S in_CO hK hP 4 rfl rfl 1 (by decide) ql_MA_58 rfl d_MA_goThrough_1 ?_
  refine lv_aload_n hx hb d_MA_goThrough_4 rfl (lv_at hl 0 rfl) ?_
  refine k_get (v := .int ya) S in_MA hK hP 0 rfl rfl 4 (by decide) ql_MA_29 rfl d_MA_goThrough_5 ?_
  refine k_top (y := nI (tn ya)) hat.1 ?_
  refine k_ld (k := tn ya) hx hb hK hP 6 0 rfl rfl rfl hat.2 (by omega) d_MA_goThrough_8 ?_
  refine lv_istore_n (lv' := [(3, .int (g (tn ya))), (0, .ref ma), (1, .ref cd), (2, .ref bl)]) hx hb d_MA_goThrough_9 rfl hl (by decide) rfl (fun ls hl => ?_)
  refine lv_aload_n hx hb d_MA_goThrough_10 rfl (lv_at hl 2 rfl) ?_
  refine k_get (v := .ref cd_ops) S in_CO hK hP 4 rfl rfl 0 (by decide) ql_MA_61 rfl d_MA_goThrough_11 ?_
  refine lv_aload_n hx hb d_MA_goThrough_14 rfl (lv_at hl 1 rfl) ?_
  refine k_get (v := .int ya) S in_MA hK hP 0 rfl rfl 4 (by decide) ql_MA_29 rfl d_MA_goThrough_15 ?_
  refine k_top (y := nI (tn ya)) hat.1 ?_
  refine k_ld (k := tn ya) hx hb hK hP 5 0 rfl rfl rfl hat.2 (by omega) d_MA_goThrough_18 ?_
  by_cases h19_1 : f (tn ya) = 6
  · skip
    refine k_top h19_1 ?_
    refine lv_tableIn (tgt := 179) hx hb d_MA_goThrough_19 (by decide) (by decide) rfl (by decide) ?_
    refine lv_aload_n hx hb d_MA_goThrough_179 rfl (lv_at hl 1 rfl) ?_
    refine lv_aload_n hx hb d_MA_goThrough_180 rfl (lv_at hl 2 rfl) ?_
    refine k_gov (ws' := [(ma, .inr (6, [.ref ma_lo, .ref ma_ke, .ref ma_sk, .int (nI ((f_MA_divide ya y_ending y_outcome hn tq sk fr to tg).2.1)), .int ((f_MA_divide ya y_ending y_outcome hn tq sk fr to tg).2.2.1), .int y_wasUsed, .int y_taken, .int (nI em), .int ((f_MA_divide ya y_ending y_outcome hn tq sk fr to tg).2.2.2.1), .int ((f_MA_divide ya y_ending y_outcome hn tq sk fr to tg).2.2.2.2)])), (ma_lo, .inl (cI, 9, .inl lo)), (ma_ke, .inl (cI, 40, .inl ke)), (ma_sk, .inl (cI, 7, .inl ((f_MA_divide ya y_ending y_outcome hn tq sk fr to tg).1))), (cd, .inr (1, [.ref cd_ops, .ref cd_opd, .ref cd_fr, .ref cd_to, .ref cd_tg, .int (nI n), .int (nI hn)])), (cd_ops, .inl (cI, zi, .inl f)), (cd_opd, .inl (cI, zi, .inl g)), (cd_fr, .inl (cI, z, .inl fr)), (cd_to, .inl (cI, z, .inl to)), (cd_tg, .inl (cI, z, .inl tg)), (bl, .inr (4, [.ref bl_le, .ref bl_he, .ref bl_st, .ref bl_fi, .ref bl_be, .ref bl_by, .ref bl_sa, .ref bl_mk, .int (nI bc)])), (bl_st, .inl (cI, 32, .inl st)), (bl_fi, .inl (cI, 32, .inl fi))]) (wr := [(ma_lo, .inl (cI, 9, .inl lo)), (ma_ke, .inl (cI, 40, .inl ke)), (cd_ops, .inl (cI, zi, .inl f)), (cd_opd, .inl (cI, zi, .inl g)), (bl, .inr (4, [.ref bl_le, .ref bl_he, .ref bl_st, .ref bl_fi, .ref bl_be, .ref bl_by, .ref bl_sa, .ref bl_mk, .int (nI bc)])), (bl_st, .inl (cI, 32, .inl st)), (bl_fi, .inl (cI, 32, .inl fi))]) (k_runV (q0 := 0) (As := [.ref cd]) (rest := []) (n := 1) S (c_MA_divide l D cI cZ ma ma_lo ma_ke ma_sk ya y_wasUsed y_taken (nI em) y_ending y_outcome cd cd_ops cd_opd cd_fr cd_to cd_tg n hn tq z sk fr to tg (q6 (by assumption)) (by omega) (by omega) (by omega)) E0_b E0_t ql_MA_82 qi_MA_divide qs_MA_divide qn_MA qc_MA_divide (by decide +kernel) rfl ⟨rfl, rfl⟩ ⟨Nat.le_of_ble_eq_true rfl, Nat.le_of_ble_eq_true rfl⟩ hK hP hD [0, 3, 4, 7, 8, 9] rfl (by decide) rfl rfl hl.1 rfl (Nat.le_of_ble_eq_true rfl) d_MA_goThrough_181 ⟨Nat.zero_le _, Nat.zero_le _⟩) hP hD hS hA [0, 3, 4, 7, 8, 9] [1, 2, 5, 6, 10, 11, 12] [7, 0, 1, 8, 9, 2, 3, 10, 11, 12, 4, 5, 6] rfl rfl (by decide) (by decide) rfl (by decide) (fun H locs hP hD hS => ?_)
    refine lv_goto (tgt := 211) hx hb d_MA_goThrough_184 (by decide) ?_
    exact k_vret hx hb hr hlocks hK hP hD hS (by rw [f_MA_goThrough, if_pos h19_1]) d_MA_goThrough_211
  by_cases h19_2 : f (tn ya) = 13
  · skip
    refine k_top h19_2 ?_
    refine lv_tableIn (tgt := 84) hx hb d_MA_goThrough_19 (by decide) (by decide) rfl (by decide) ?_
    refine lv_aload_n hx hb d_MA_goThrough_84 rfl (lv_at hl 1 rfl) ?_
    refine lv_iload_n hx hb d_MA_goThrough_85 rfl (lv_at hl 0 rfl) ?_
    refine k_put (v := .int (g (tn ya))) (ws' := [(ma, .inr (6, [.ref ma_lo, .ref ma_ke, .ref ma_sk, .int (nI tq), .int (g (tn ya)), .int y_wasUsed, .int y_taken, .int (nI em), .int y_ending, .int y_outcome])), (ma_lo, .inl (cI, 9, .inl lo)), (ma_ke, .inl (cI, 40, .inl ke)), (ma_sk, .inl (cI, 7, .inl sk)), (cd, .inr (1, [.ref cd_ops, .ref cd_opd, .ref cd_fr, .ref cd_to, .ref cd_tg, .int (nI n), .int (nI hn)])), (cd_ops, .inl (cI, zi, .inl f)), (cd_opd, .inl (cI, zi, .inl g)), (cd_fr, .inl (cI, z, .inl fr)), (cd_to, .inl (cI, z, .inl to)), (cd_tg, .inl (cI, z, .inl tg)), (bl, .inr (4, [.ref bl_le, .ref bl_he, .ref bl_st, .ref bl_fi, .ref bl_be, .ref bl_by, .ref bl_sa, .ref bl_mk, .int (nI bc)])), (bl_st, .inl (cI, 32, .inl st)), (bl_fi, .inl (cI, 32, .inl fi))]) S in_MA ty_MA nm_MA hK hP hD hS 0 rfl rfl 4 (by decide) ql_MA_29 rfl rfl rfl rfl (Nat.le_of_ble_eq_true rfl) rfl d_MA_goThrough_86 (fun H locs hP hD hS => ?_)
    refine lv_goto (tgt := 211) hx hb d_MA_goThrough_89 (by decide) ?_
    exact k_vret hx hb hr hlocks hK hP hD hS (by rw [f_MA_goThrough, if_neg h19_1, if_pos h19_2]) d_MA_goThrough_211
  by_cases h19_3 : f (tn ya) = 14
  · skip
    refine k_top h19_3 ?_
    refine lv_tableIn (tgt := 92) hx hb d_MA_goThrough_19 (by decide) (by decide) rfl (by decide) ?_
    refine lv_aload_n hx hb d_MA_goThrough_92 rfl (lv_at hl 1 rfl) ?_
    refine lv_aload_n hx hb d_MA_goThrough_93 rfl (lv_at hl 1 rfl) ?_
    refine k_goi (ws' := [(ma, .inr (6, [.ref ma_lo, .ref ma_ke, .ref ma_sk, .int (nI (tq - 1)), .int ya, .int y_wasUsed, .int y_taken, .int (nI em), .int y_ending, .int y_outcome])), (ma_lo, .inl (cI, 9, .inl lo)), (ma_ke, .inl (cI, 40, .inl ke)), (ma_sk, .inl (cI, 7, .inl sk)), (cd, .inr (1, [.ref cd_ops, .ref cd_opd, .ref cd_fr, .ref cd_to, .ref cd_tg, .int (nI n), .int (nI hn)])), (cd_ops, .inl (cI, zi, .inl f)), (cd_opd, .inl (cI, zi, .inl g)), (cd_fr, .inl (cI, z, .inl fr)), (cd_to, .inl (cI, z, .inl to)), (cd_tg, .inl (cI, z, .inl tg)), (bl, .inr (4, [.ref bl_le, .ref bl_he, .ref bl_st, .ref bl_fi, .ref bl_be, .ref bl_by, .ref bl_sa, .ref bl_mk, .int (nI bc)])), (bl_st, .inl (cI, 32, .inl st)), (bl_fi, .inl (cI, 32, .inl fi))]) (wr := [(ma_lo, .inl (cI, 9, .inl lo)), (ma_ke, .inl (cI, 40, .inl ke)), (cd, .inr (1, [.ref cd_ops, .ref cd_opd, .ref cd_fr, .ref cd_to, .ref cd_tg, .int (nI n), .int (nI hn)])), (cd_ops, .inl (cI, zi, .inl f)), (cd_opd, .inl (cI, zi, .inl g)), (cd_fr, .inl (cI, z, .inl fr)), (cd_to, .inl (cI, z, .inl to)), (cd_tg, .inl (cI, z, .inl tg)), (bl, .inr (4, [.ref bl_le, .ref bl_he, .ref bl_st, .ref bl_fi, .ref bl_be, .ref bl_by, .ref bl_sa, .ref bl_mk, .int (nI bc)])), (bl_st, .inl (cI, 32, .inl st)), (bl_fi, .inl (cI, 32, .inl fi))]) (k_runV (q0 := 0) (As := []) (rest := [.ref ma]) (n := 0) S (c_MA_pop l D cI cZ ma ma_lo ma_ke ma_sk ya y_wasUsed y_taken (nI em) y_ending y_outcome tq sk (q14 (by assumption)) (by omega)) E0_b E0_t ql_MA_64 qi_MA_pop qs_MA_pop qn_MA qc_MA_pop (by decide +kernel) rfl ⟨rfl, rfl⟩ ⟨Nat.le_of_ble_eq_true rfl, Nat.le_of_ble_eq_true rfl⟩ hK hP hD [0, 3] rfl (by decide) rfl rfl hl.1 rfl (Nat.le_of_ble_eq_true rfl) d_MA_goThrough_94 ⟨Nat.zero_le _, Nat.zero_le _⟩) hP hD hS hA [0, 3] [1, 2, 4, 5, 6, 7, 8, 9, 10, 11, 12] [11, 0, 1, 12, 2, 3, 4, 5, 6, 7, 8, 9, 10] rfl rfl (by decide) (by decide) rfl (by decide) (fun H locs hP hD hS => ?_)
    refine lv_if_ne (tgt := 104) hx hb d_MA_goThrough_97 (by decide) (fun h97_4 => ?_) (fun h97_4 => ?_)
    · skip
      refine lv_aload_n hx hb d_MA_goThrough_104 rfl (lv_at hl 1 rfl) ?_
      refine k_get (v := .int ya) S in_MA hK hP 0 rfl rfl 4 (by decide) ql_MA_29 rfl d_MA_goThrough_105 ?_
      refine lv_iconst (v := 1) hx hb d_MA_goThrough_108 (by decide) ?_
      refine lv_iadd hx hb d_MA_goThrough_109 ?_
      refine k_put (v := .int (ya + 1)) (ws' := [(ma, .inr (6, [.ref ma_lo, .ref ma_ke, .ref ma_sk, .int (nI (tq - 1)), .int (ya + 1), .int y_wasUsed, .int y_taken, .int (nI em), .int y_ending, .int y_outcome])), (ma_lo, .inl (cI, 9, .inl lo)), (ma_ke, .inl (cI, 40, .inl ke)), (ma_sk, .inl (cI, 7, .inl sk)), (cd, .inr (1, [.ref cd_ops, .ref cd_opd, .ref cd_fr, .ref cd_to, .ref cd_tg, .int (nI n), .int (nI hn)])), (cd_ops, .inl (cI, zi, .inl f)), (cd_opd, .inl (cI, zi, .inl g)), (cd_fr, .inl (cI, z, .inl fr)), (cd_to, .inl (cI, z, .inl to)), (cd_tg, .inl (cI, z, .inl tg)), (bl, .inr (4, [.ref bl_le, .ref bl_he, .ref bl_st, .ref bl_fi, .ref bl_be, .ref bl_by, .ref bl_sa, .ref bl_mk, .int (nI bc)])), (bl_st, .inl (cI, 32, .inl st)), (bl_fi, .inl (cI, 32, .inl fi))]) S in_MA ty_MA nm_MA hK hP hD hS 0 rfl rfl 4 (by decide) ql_MA_29 rfl rfl rfl rfl (Nat.le_of_ble_eq_true rfl) rfl d_MA_goThrough_110 (fun H locs hP hD hS => ?_)
      refine lv_goto (tgt := 211) hx hb d_MA_goThrough_113 (by decide) ?_
      exact k_vret hx hb hr hlocks hK hP hD hS (by rw [f_MA_goThrough, if_neg h19_1, if_neg h19_2, if_pos h19_3, if_neg h97_4]) d_MA_goThrough_211
    · skip
      refine lv_iload_n hx hb d_MA_goThrough_100 rfl (lv_at hl 0 rfl) ?_
      refine lv_goto (tgt := 110) hx hb d_MA_goThrough_101 (by decide) ?_
      refine k_put (v := .int (g (tn ya))) (ws' := [(ma, .inr (6, [.ref ma_lo, .ref ma_ke, .ref ma_sk, .int (nI (tq - 1)), .int (g (tn ya)), .int y_wasUsed, .int y_taken, .int (nI em), .int y_ending, .int y_outcome])), (ma_lo, .inl (cI, 9, .inl lo)), (ma_ke, .inl (cI, 40, .inl ke)), (ma_sk, .inl (cI, 7, .inl sk)), (cd, .inr (1, [.ref cd_ops, .ref cd_opd, .ref cd_fr, .ref cd_to, .ref cd_tg, .int (nI n), .int (nI hn)])), (cd_ops, .inl (cI, zi, .inl f)), (cd_opd, .inl (cI, zi, .inl g)), (cd_fr, .inl (cI, z, .inl fr)), (cd_to, .inl (cI, z, .inl to)), (cd_tg, .inl (cI, z, .inl tg)), (bl, .inr (4, [.ref bl_le, .ref bl_he, .ref bl_st, .ref bl_fi, .ref bl_be, .ref bl_by, .ref bl_sa, .ref bl_mk, .int (nI bc)])), (bl_st, .inl (cI, 32, .inl st)), (bl_fi, .inl (cI, 32, .inl fi))]) S in_MA ty_MA nm_MA hK hP hD hS 0 rfl rfl 4 (by decide) ql_MA_29 rfl rfl rfl rfl (Nat.le_of_ble_eq_true rfl) rfl d_MA_goThrough_110 (fun H locs hP hD hS => ?_)
      refine lv_goto (tgt := 211) hx hb d_MA_goThrough_113 (by decide) ?_
      exact k_vret hx hb hr hlocks hK hP hD hS (by rw [f_MA_goThrough, if_neg h19_1, if_neg h19_2, if_pos h19_3, if_pos h97_4]) d_MA_goThrough_211
  by_cases h19_5 : f (tn ya) = 15
  · skip
    refine k_top h19_5 ?_
    refine lv_tableIn (tgt := 116) hx hb d_MA_goThrough_19 (by decide) (by decide) rfl (by decide) ?_
    refine lv_aload_n hx hb d_MA_goThrough_116 rfl (lv_at hl 1 rfl) ?_
    refine lv_aload_n hx hb d_MA_goThrough_117 rfl (lv_at hl 1 rfl) ?_
    refine k_goi (ws' := [(ma, .inr (6, [.ref ma_lo, .ref ma_ke, .ref ma_sk, .int (nI (tq - 1)), .int ya, .int y_wasUsed, .int y_taken, .int (nI em), .int y_ending, .int y_outcome])), (ma_lo, .inl (cI, 9, .inl lo)), (ma_ke, .inl (cI, 40, .inl ke)), (ma_sk, .inl (cI, 7, .inl sk)), (cd, .inr (1, [.ref cd_ops, .ref cd_opd, .ref cd_fr, .ref cd_to, .ref cd_tg, .int (nI n), .int (nI hn)])), (cd_ops, .inl (cI, zi, .inl f)), (cd_opd, .inl (cI, zi, .inl g)), (cd_fr, .inl (cI, z, .inl fr)), (cd_to, .inl (cI, z, .inl to)), (cd_tg, .inl (cI, z, .inl tg)), (bl, .inr (4, [.ref bl_le, .ref bl_he, .ref bl_st, .ref bl_fi, .ref bl_be, .ref bl_by, .ref bl_sa, .ref bl_mk, .int (nI bc)])), (bl_st, .inl (cI, 32, .inl st)), (bl_fi, .inl (cI, 32, .inl fi))]) (wr := [(ma_lo, .inl (cI, 9, .inl lo)), (ma_ke, .inl (cI, 40, .inl ke)), (cd, .inr (1, [.ref cd_ops, .ref cd_opd, .ref cd_fr, .ref cd_to, .ref cd_tg, .int (nI n), .int (nI hn)])), (cd_ops, .inl (cI, zi, .inl f)), (cd_opd, .inl (cI, zi, .inl g)), (cd_fr, .inl (cI, z, .inl fr)), (cd_to, .inl (cI, z, .inl to)), (cd_tg, .inl (cI, z, .inl tg)), (bl, .inr (4, [.ref bl_le, .ref bl_he, .ref bl_st, .ref bl_fi, .ref bl_be, .ref bl_by, .ref bl_sa, .ref bl_mk, .int (nI bc)])), (bl_st, .inl (cI, 32, .inl st)), (bl_fi, .inl (cI, 32, .inl fi))]) (k_runV (q0 := 0) (As := []) (rest := [.ref ma]) (n := 0) S (c_MA_pop l D cI cZ ma ma_lo ma_ke ma_sk ya y_wasUsed y_taken (nI em) y_ending y_outcome tq sk (q15 (by assumption)) (by omega)) E0_b E0_t ql_MA_64 qi_MA_pop qs_MA_pop qn_MA qc_MA_pop (by decide +kernel) rfl ⟨rfl, rfl⟩ ⟨Nat.le_of_ble_eq_true rfl, Nat.le_of_ble_eq_true rfl⟩ hK hP hD [0, 3] rfl (by decide) rfl rfl hl.1 rfl (Nat.le_of_ble_eq_true rfl) d_MA_goThrough_118 ⟨Nat.zero_le _, Nat.zero_le _⟩) hP hD hS hA [0, 3] [1, 2, 4, 5, 6, 7, 8, 9, 10, 11, 12] [11, 0, 1, 12, 2, 3, 4, 5, 6, 7, 8, 9, 10] rfl rfl (by decide) (by decide) rfl (by decide) (fun H locs hP hD hS => ?_)
    refine lv_if_ge (tgt := 128) hx hb d_MA_goThrough_121 (by decide) (fun h121_6 => ?_) (fun h121_6 => ?_)
    · skip
      refine lv_aload_n hx hb d_MA_goThrough_128 rfl (lv_at hl 1 rfl) ?_
      refine k_get (v := .int ya) S in_MA hK hP 0 rfl rfl 4 (by decide) ql_MA_29 rfl d_MA_goThrough_129 ?_
      refine lv_iconst (v := 1) hx hb d_MA_goThrough_132 (by decide) ?_
      refine lv_iadd hx hb d_MA_goThrough_133 ?_
      refine k_put (v := .int (ya + 1)) (ws' := [(ma, .inr (6, [.ref ma_lo, .ref ma_ke, .ref ma_sk, .int (nI (tq - 1)), .int (ya + 1), .int y_wasUsed, .int y_taken, .int (nI em), .int y_ending, .int y_outcome])), (ma_lo, .inl (cI, 9, .inl lo)), (ma_ke, .inl (cI, 40, .inl ke)), (ma_sk, .inl (cI, 7, .inl sk)), (cd, .inr (1, [.ref cd_ops, .ref cd_opd, .ref cd_fr, .ref cd_to, .ref cd_tg, .int (nI n), .int (nI hn)])), (cd_ops, .inl (cI, zi, .inl f)), (cd_opd, .inl (cI, zi, .inl g)), (cd_fr, .inl (cI, z, .inl fr)), (cd_to, .inl (cI, z, .inl to)), (cd_tg, .inl (cI, z, .inl tg)), (bl, .inr (4, [.ref bl_le, .ref bl_he, .ref bl_st, .ref bl_fi, .ref bl_be, .ref bl_by, .ref bl_sa, .ref bl_mk, .int (nI bc)])), (bl_st, .inl (cI, 32, .inl st)), (bl_fi, .inl (cI, 32, .inl fi))]) S in_MA ty_MA nm_MA hK hP hD hS 0 rfl rfl 4 (by decide) ql_MA_29 rfl rfl rfl rfl (Nat.le_of_ble_eq_true rfl) rfl d_MA_goThrough_134 (fun H locs hP hD hS => ?_)
      refine lv_goto (tgt := 211) hx hb d_MA_goThrough_137 (by decide) ?_
      exact k_vret hx hb hr hlocks hK hP hD hS (by rw [f_MA_goThrough, if_neg h19_1, if_neg h19_2, if_neg h19_3, if_pos h19_5, if_pos h121_6]) d_MA_goThrough_211
    · skip
      refine lv_iload_n hx hb d_MA_goThrough_124 rfl (lv_at hl 0 rfl) ?_
      refine lv_goto (tgt := 134) hx hb d_MA_goThrough_125 (by decide) ?_
      refine k_put (v := .int (g (tn ya))) (ws' := [(ma, .inr (6, [.ref ma_lo, .ref ma_ke, .ref ma_sk, .int (nI (tq - 1)), .int (g (tn ya)), .int y_wasUsed, .int y_taken, .int (nI em), .int y_ending, .int y_outcome])), (ma_lo, .inl (cI, 9, .inl lo)), (ma_ke, .inl (cI, 40, .inl ke)), (ma_sk, .inl (cI, 7, .inl sk)), (cd, .inr (1, [.ref cd_ops, .ref cd_opd, .ref cd_fr, .ref cd_to, .ref cd_tg, .int (nI n), .int (nI hn)])), (cd_ops, .inl (cI, zi, .inl f)), (cd_opd, .inl (cI, zi, .inl g)), (cd_fr, .inl (cI, z, .inl fr)), (cd_to, .inl (cI, z, .inl to)), (cd_tg, .inl (cI, z, .inl tg)), (bl, .inr (4, [.ref bl_le, .ref bl_he, .ref bl_st, .ref bl_fi, .ref bl_be, .ref bl_by, .ref bl_sa, .ref bl_mk, .int (nI bc)])), (bl_st, .inl (cI, 32, .inl st)), (bl_fi, .inl (cI, 32, .inl fi))]) S in_MA ty_MA nm_MA hK hP hD hS 0 rfl rfl 4 (by decide) ql_MA_29 rfl rfl rfl rfl (Nat.le_of_ble_eq_true rfl) rfl d_MA_goThrough_134 (fun H locs hP hD hS => ?_)
      refine lv_goto (tgt := 211) hx hb d_MA_goThrough_137 (by decide) ?_
      exact k_vret hx hb hr hlocks hK hP hD hS (by rw [f_MA_goThrough, if_neg h19_1, if_neg h19_2, if_neg h19_3, if_pos h19_5, if_neg h121_6]) d_MA_goThrough_211
  by_cases h19_7 : f (tn ya) = 16
  · skip
    refine k_top h19_7 ?_
    refine lv_tableIn (tgt := 155) hx hb d_MA_goThrough_19 (by decide) (by decide) rfl (by decide) ?_
    refine lv_aload_n hx hb d_MA_goThrough_155 rfl (lv_at hl 1 rfl) ?_
    refine lv_iconst (v := 1) hx hb d_MA_goThrough_156 (by decide) ?_
    refine lv_aload_n hx hb d_MA_goThrough_157 rfl (lv_at hl 1 rfl) ?_
    refine k_goi (ws' := [(ma, .inr (6, [.ref ma_lo, .ref ma_ke, .ref ma_sk, .int (nI (tq - 1)), .int ya, .int y_wasUsed, .int y_taken, .int (nI em), .int y_ending, .int y_outcome])), (ma_lo, .inl (cI, 9, .inl lo)), (ma_ke, .inl (cI, 40, .inl ke)), (ma_sk, .inl (cI, 7, .inl sk)), (cd, .inr (1, [.ref cd_ops, .ref cd_opd, .ref cd_fr, .ref cd_to, .ref cd_tg, .int (nI n), .int (nI hn)])), (cd_ops, .inl (cI, zi, .inl f)), (cd_opd, .inl (cI, zi, .inl g)), (cd_fr, .inl (cI, z, .inl fr)), (cd_to, .inl (cI, z, .inl to)), (cd_tg, .inl (cI, z, .inl tg)), (bl, .inr (4, [.ref bl_le, .ref bl_he, .ref bl_st, .ref bl_fi, .ref bl_be, .ref bl_by, .ref bl_sa, .ref bl_mk, .int (nI bc)])), (bl_st, .inl (cI, 32, .inl st)), (bl_fi, .inl (cI, 32, .inl fi))]) (wr := [(ma_lo, .inl (cI, 9, .inl lo)), (ma_ke, .inl (cI, 40, .inl ke)), (cd, .inr (1, [.ref cd_ops, .ref cd_opd, .ref cd_fr, .ref cd_to, .ref cd_tg, .int (nI n), .int (nI hn)])), (cd_ops, .inl (cI, zi, .inl f)), (cd_opd, .inl (cI, zi, .inl g)), (cd_fr, .inl (cI, z, .inl fr)), (cd_to, .inl (cI, z, .inl to)), (cd_tg, .inl (cI, z, .inl tg)), (bl, .inr (4, [.ref bl_le, .ref bl_he, .ref bl_st, .ref bl_fi, .ref bl_be, .ref bl_by, .ref bl_sa, .ref bl_mk, .int (nI bc)])), (bl_st, .inl (cI, 32, .inl st)), (bl_fi, .inl (cI, 32, .inl fi))]) (k_runV (q0 := 0) (As := []) (rest := [.int 1, .ref ma]) (n := 0) S (c_MA_pop l D cI cZ ma ma_lo ma_ke ma_sk ya y_wasUsed y_taken (nI em) y_ending y_outcome tq sk (q16 (by assumption)) (by omega)) E0_b E0_t ql_MA_64 qi_MA_pop qs_MA_pop qn_MA qc_MA_pop (by decide +kernel) rfl ⟨rfl, rfl⟩ ⟨Nat.le_of_ble_eq_true rfl, Nat.le_of_ble_eq_true rfl⟩ hK hP hD [0, 3] rfl (by decide) rfl rfl hl.1 rfl (Nat.le_of_ble_eq_true rfl) d_MA_goThrough_158 ⟨Nat.zero_le _, Nat.zero_le _⟩) hP hD hS hA [0, 3] [1, 2, 4, 5, 6, 7, 8, 9, 10, 11, 12] [11, 0, 1, 12, 2, 3, 4, 5, 6, 7, 8, 9, 10] rfl rfl (by decide) (by decide) rfl (by decide) (fun H locs hP hD hS => ?_)
    refine k_gov (ws' := [(ma, .inr (6, [.ref ma_lo, .ref ma_ke, .ref ma_sk, .int (nI (tq - 1)), .int ya, .int y_wasUsed, .int y_taken, .int (nI em), .int 1, .int (sk (tq - 1))])), (ma_lo, .inl (cI, 9, .inl lo)), (ma_ke, .inl (cI, 40, .inl ke)), (ma_sk, .inl (cI, 7, .inl sk)), (cd, .inr (1, [.ref cd_ops, .ref cd_opd, .ref cd_fr, .ref cd_to, .ref cd_tg, .int (nI n), .int (nI hn)])), (cd_ops, .inl (cI, zi, .inl f)), (cd_opd, .inl (cI, zi, .inl g)), (cd_fr, .inl (cI, z, .inl fr)), (cd_to, .inl (cI, z, .inl to)), (cd_tg, .inl (cI, z, .inl tg)), (bl, .inr (4, [.ref bl_le, .ref bl_he, .ref bl_st, .ref bl_fi, .ref bl_be, .ref bl_by, .ref bl_sa, .ref bl_mk, .int (nI bc)])), (bl_st, .inl (cI, 32, .inl st)), (bl_fi, .inl (cI, 32, .inl fi))]) (wr := [(ma_lo, .inl (cI, 9, .inl lo)), (ma_ke, .inl (cI, 40, .inl ke)), (ma_sk, .inl (cI, 7, .inl sk)), (cd, .inr (1, [.ref cd_ops, .ref cd_opd, .ref cd_fr, .ref cd_to, .ref cd_tg, .int (nI n), .int (nI hn)])), (cd_ops, .inl (cI, zi, .inl f)), (cd_opd, .inl (cI, zi, .inl g)), (cd_fr, .inl (cI, z, .inl fr)), (cd_to, .inl (cI, z, .inl to)), (cd_tg, .inl (cI, z, .inl tg)), (bl, .inr (4, [.ref bl_le, .ref bl_he, .ref bl_st, .ref bl_fi, .ref bl_be, .ref bl_by, .ref bl_sa, .ref bl_mk, .int (nI bc)])), (bl_st, .inl (cI, 32, .inl st)), (bl_fi, .inl (cI, 32, .inl fi))]) (k_runV (q0 := 0) (As := [.int 1, .int (sk (tq - 1))]) (rest := []) (n := 2) S (c_MA_end l D cI cZ ma ma_lo ma_ke ma_sk (nI (tq - 1)) ya y_wasUsed y_taken (nI em) y_ending y_outcome 1 (sk (tq - 1))) E0_b E0_t ql_MA_74 qi_MA_end qs_MA_end qn_MA qc_MA_end (by decide +kernel) rfl ⟨rfl, rfl⟩ ⟨Nat.le_of_ble_eq_true rfl, Nat.le_of_ble_eq_true rfl⟩ hK hP hD [0] rfl (by decide) rfl rfl hl.1 rfl (Nat.le_of_ble_eq_true rfl) d_MA_goThrough_161 ⟨Nat.zero_le _, Nat.zero_le _⟩) hP hD hS hA [0] [1, 2, 3, 4, 5, 6, 7, 8, 9, 10, 11, 12] [12, 0, 1, 2, 3, 4, 5, 6, 7, 8, 9, 10, 11] rfl rfl (by decide) (by decide) rfl (by decide) (fun H locs hP hD hS => ?_)
    refine lv_goto (tgt := 211) hx hb d_MA_goThrough_164 (by decide) ?_
    exact k_vret hx hb hr hlocks hK hP hD hS (by rw [f_MA_goThrough, if_neg h19_1, if_neg h19_2, if_neg h19_3, if_neg h19_5, if_pos h19_7]) d_MA_goThrough_211
  by_cases h19_8 : f (tn ya) = 17
  · skip
    refine k_top h19_8 ?_
    refine lv_tableIn (tgt := 167) hx hb d_MA_goThrough_19 (by decide) (by decide) rfl (by decide) ?_
    refine lv_aload_n hx hb d_MA_goThrough_167 rfl (lv_at hl 1 rfl) ?_
    refine lv_aload_n hx hb d_MA_goThrough_168 rfl (lv_at hl 2 rfl) ?_
    refine lv_aload_n hx hb d_MA_goThrough_169 rfl (lv_at hl 1 rfl) ?_
    refine k_goi (ws' := [(ma, .inr (6, [.ref ma_lo, .ref ma_ke, .ref ma_sk, .int (nI (tq - 1)), .int ya, .int y_wasUsed, .int y_taken, .int (nI em), .int y_ending, .int y_outcome])), (ma_lo, .inl (cI, 9, .inl lo)), (ma_ke, .inl (cI, 40, .inl ke)), (ma_sk, .inl (cI, 7, .inl sk)), (cd, .inr (1, [.ref cd_ops, .ref cd_opd, .ref cd_fr, .ref cd_to, .ref cd_tg, .int (nI n), .int (nI hn)])), (cd_ops, .inl (cI, zi, .inl f)), (cd_opd, .inl (cI, zi, .inl g)), (cd_fr, .inl (cI, z, .inl fr)), (cd_to, .inl (cI, z, .inl to)), (cd_tg, .inl (cI, z, .inl tg)), (bl, .inr (4, [.ref bl_le, .ref bl_he, .ref bl_st, .ref bl_fi, .ref bl_be, .ref bl_by, .ref bl_sa, .ref bl_mk, .int (nI bc)])), (bl_st, .inl (cI, 32, .inl st)), (bl_fi, .inl (cI, 32, .inl fi))]) (wr := [(ma_lo, .inl (cI, 9, .inl lo)), (ma_ke, .inl (cI, 40, .inl ke)), (cd, .inr (1, [.ref cd_ops, .ref cd_opd, .ref cd_fr, .ref cd_to, .ref cd_tg, .int (nI n), .int (nI hn)])), (cd_ops, .inl (cI, zi, .inl f)), (cd_opd, .inl (cI, zi, .inl g)), (cd_fr, .inl (cI, z, .inl fr)), (cd_to, .inl (cI, z, .inl to)), (cd_tg, .inl (cI, z, .inl tg)), (bl, .inr (4, [.ref bl_le, .ref bl_he, .ref bl_st, .ref bl_fi, .ref bl_be, .ref bl_by, .ref bl_sa, .ref bl_mk, .int (nI bc)])), (bl_st, .inl (cI, 32, .inl st)), (bl_fi, .inl (cI, 32, .inl fi))]) (k_runV (q0 := 0) (As := []) (rest := [.ref cd, .ref ma]) (n := 0) S (c_MA_pop l D cI cZ ma ma_lo ma_ke ma_sk ya y_wasUsed y_taken (nI em) y_ending y_outcome tq sk (q17 (by assumption)) (by omega)) E0_b E0_t ql_MA_64 qi_MA_pop qs_MA_pop qn_MA qc_MA_pop (by decide +kernel) rfl ⟨rfl, rfl⟩ ⟨Nat.le_of_ble_eq_true rfl, Nat.le_of_ble_eq_true rfl⟩ hK hP hD [0, 3] rfl (by decide) rfl rfl hl.1 rfl (Nat.le_of_ble_eq_true rfl) d_MA_goThrough_170 ⟨Nat.zero_le _, Nat.zero_le _⟩) hP hD hS hA [0, 3] [1, 2, 4, 5, 6, 7, 8, 9, 10, 11, 12] [11, 0, 1, 12, 2, 3, 4, 5, 6, 7, 8, 9, 10] rfl rfl (by decide) (by decide) rfl (by decide) (fun H locs hP hD hS => ?_)
    refine k_gov (ws' := [(ma, .inr (6, [.ref ma_lo, .ref ma_ke, .ref ma_sk, .int (nI ((f_MA_raise ya y_ending y_outcome hn (tq - 1) sk fr to tg (sk (tq - 1))).2.1)), .int ((f_MA_raise ya y_ending y_outcome hn (tq - 1) sk fr to tg (sk (tq - 1))).2.2.1), .int y_wasUsed, .int y_taken, .int (nI em), .int ((f_MA_raise ya y_ending y_outcome hn (tq - 1) sk fr to tg (sk (tq - 1))).2.2.2.1), .int ((f_MA_raise ya y_ending y_outcome hn (tq - 1) sk fr to tg (sk (tq - 1))).2.2.2.2)])), (ma_lo, .inl (cI, 9, .inl lo)), (ma_ke, .inl (cI, 40, .inl ke)), (ma_sk, .inl (cI, 7, .inl ((f_MA_raise ya y_ending y_outcome hn (tq - 1) sk fr to tg (sk (tq - 1))).1))), (cd, .inr (1, [.ref cd_ops, .ref cd_opd, .ref cd_fr, .ref cd_to, .ref cd_tg, .int (nI n), .int (nI hn)])), (cd_ops, .inl (cI, zi, .inl f)), (cd_opd, .inl (cI, zi, .inl g)), (cd_fr, .inl (cI, z, .inl fr)), (cd_to, .inl (cI, z, .inl to)), (cd_tg, .inl (cI, z, .inl tg)), (bl, .inr (4, [.ref bl_le, .ref bl_he, .ref bl_st, .ref bl_fi, .ref bl_be, .ref bl_by, .ref bl_sa, .ref bl_mk, .int (nI bc)])), (bl_st, .inl (cI, 32, .inl st)), (bl_fi, .inl (cI, 32, .inl fi))]) (wr := [(ma_lo, .inl (cI, 9, .inl lo)), (ma_ke, .inl (cI, 40, .inl ke)), (cd_ops, .inl (cI, zi, .inl f)), (cd_opd, .inl (cI, zi, .inl g)), (bl, .inr (4, [.ref bl_le, .ref bl_he, .ref bl_st, .ref bl_fi, .ref bl_be, .ref bl_by, .ref bl_sa, .ref bl_mk, .int (nI bc)])), (bl_st, .inl (cI, 32, .inl st)), (bl_fi, .inl (cI, 32, .inl fi))]) (k_runV (q0 := 0) (As := [.ref cd, .int (sk (tq - 1))]) (rest := []) (n := 2) S (c_MA_raise l D cI cZ ma ma_lo ma_ke ma_sk ya y_wasUsed y_taken (nI em) y_ending y_outcome cd cd_ops cd_opd cd_fr cd_to cd_tg n hn (tq - 1) z sk fr to tg (sk (tq - 1)) (by omega) (by omega)) E0_b E0_t ql_MA_78 qi_MA_raise qs_MA_raise qn_MA qc_MA_raise (by decide +kernel) rfl ⟨rfl, rfl⟩ ⟨Nat.le_of_ble_eq_true rfl, Nat.le_of_ble_eq_true rfl⟩ hK hP hD [0, 3, 4, 7, 8, 9] rfl (by decide) rfl rfl hl.1 rfl (Nat.le_of_ble_eq_true rfl) d_MA_goThrough_173 ⟨Nat.zero_le _, Nat.zero_le _⟩) hP hD hS hA [0, 3, 4, 7, 8, 9] [1, 2, 5, 6, 10, 11, 12] [7, 0, 1, 8, 9, 2, 3, 10, 11, 12, 4, 5, 6] rfl rfl (by decide) (by decide) rfl (by decide) (fun H locs hP hD hS => ?_)
    refine lv_goto (tgt := 211) hx hb d_MA_goThrough_176 (by decide) ?_
    exact k_vret hx hb hr hlocks hK hP hD hS (by rw [f_MA_goThrough, if_neg h19_1, if_neg h19_2, if_neg h19_3, if_neg h19_5, if_neg h19_7, if_pos h19_8]) d_MA_goThrough_211
  by_cases h19_9 : f (tn ya) = 18
  · skip
    refine k_top h19_9 ?_
    refine lv_tableIn (tgt := 140) hx hb d_MA_goThrough_19 (by decide) (by decide) rfl (by decide) ?_
    refine lv_aload_n hx hb d_MA_goThrough_140 rfl (lv_at hl 1 rfl) ?_
    refine lv_aload_n hx hb d_MA_goThrough_141 rfl (lv_at hl 3 rfl) ?_
    refine lv_aload_n hx hb d_MA_goThrough_142 rfl (lv_at hl 1 rfl) ?_
    refine k_goi (ws' := [(ma, .inr (6, [.ref ma_lo, .ref ma_ke, .ref ma_sk, .int (nI (tq - 1)), .int ya, .int y_wasUsed, .int y_taken, .int (nI em), .int y_ending, .int y_outcome])), (ma_lo, .inl (cI, 9, .inl lo)), (ma_ke, .inl (cI, 40, .inl ke)), (ma_sk, .inl (cI, 7, .inl sk)), (cd, .inr (1, [.ref cd_ops, .ref cd_opd, .ref cd_fr, .ref cd_to, .ref cd_tg, .int (nI n), .int (nI hn)])), (cd_ops, .inl (cI, zi, .inl f)), (cd_opd, .inl (cI, zi, .inl g)), (cd_fr, .inl (cI, z, .inl fr)), (cd_to, .inl (cI, z, .inl to)), (cd_tg, .inl (cI, z, .inl tg)), (bl, .inr (4, [.ref bl_le, .ref bl_he, .ref bl_st, .ref bl_fi, .ref bl_be, .ref bl_by, .ref bl_sa, .ref bl_mk, .int (nI bc)])), (bl_st, .inl (cI, 32, .inl st)), (bl_fi, .inl (cI, 32, .inl fi))]) (wr := [(ma_lo, .inl (cI, 9, .inl lo)), (ma_ke, .inl (cI, 40, .inl ke)), (cd, .inr (1, [.ref cd_ops, .ref cd_opd, .ref cd_fr, .ref cd_to, .ref cd_tg, .int (nI n), .int (nI hn)])), (cd_ops, .inl (cI, zi, .inl f)), (cd_opd, .inl (cI, zi, .inl g)), (cd_fr, .inl (cI, z, .inl fr)), (cd_to, .inl (cI, z, .inl to)), (cd_tg, .inl (cI, z, .inl tg)), (bl, .inr (4, [.ref bl_le, .ref bl_he, .ref bl_st, .ref bl_fi, .ref bl_be, .ref bl_by, .ref bl_sa, .ref bl_mk, .int (nI bc)])), (bl_st, .inl (cI, 32, .inl st)), (bl_fi, .inl (cI, 32, .inl fi))]) (k_runV (q0 := 0) (As := []) (rest := [.ref bl, .ref ma]) (n := 0) S (c_MA_pop l D cI cZ ma ma_lo ma_ke ma_sk ya y_wasUsed y_taken (nI em) y_ending y_outcome tq sk (q18 (by assumption)) (by omega)) E0_b E0_t ql_MA_64 qi_MA_pop qs_MA_pop qn_MA qc_MA_pop (by decide +kernel) rfl ⟨rfl, rfl⟩ ⟨Nat.le_of_ble_eq_true rfl, Nat.le_of_ble_eq_true rfl⟩ hK hP hD [0, 3] rfl (by decide) rfl rfl hl.1 rfl (Nat.le_of_ble_eq_true rfl) d_MA_goThrough_143 ⟨Nat.zero_le _, Nat.zero_le _⟩) hP hD hS hA [0, 3] [1, 2, 4, 5, 6, 7, 8, 9, 10, 11, 12] [11, 0, 1, 12, 2, 3, 4, 5, 6, 7, 8, 9, 10] rfl rfl (by decide) (by decide) rfl (by decide) (fun H locs hP hD hS => ?_)
    refine k_goi (ws' := [(ma, .inr (6, [.ref ma_lo, .ref ma_ke, .ref ma_sk, .int (nI (tq - 1)), .int ya, .int y_wasUsed, .int y_taken, .int (nI em), .int y_ending, .int y_outcome])), (ma_lo, .inl (cI, 9, .inl lo)), (ma_ke, .inl (cI, 40, .inl ke)), (ma_sk, .inl (cI, 7, .inl sk)), (cd, .inr (1, [.ref cd_ops, .ref cd_opd, .ref cd_fr, .ref cd_to, .ref cd_tg, .int (nI n), .int (nI hn)])), (cd_ops, .inl (cI, zi, .inl f)), (cd_opd, .inl (cI, zi, .inl g)), (cd_fr, .inl (cI, z, .inl fr)), (cd_to, .inl (cI, z, .inl to)), (cd_tg, .inl (cI, z, .inl tg)), (bl, .inr (4, [.ref bl_le, .ref bl_he, .ref bl_st, .ref bl_fi, .ref bl_be, .ref bl_by, .ref bl_sa, .ref bl_mk, .int (nI bc)])), (bl_st, .inl (cI, 32, .inl st)), (bl_fi, .inl (cI, 32, .inl fi))]) (wr := [(ma, .inr (6, [.ref ma_lo, .ref ma_ke, .ref ma_sk, .int (nI (tq - 1)), .int ya, .int y_wasUsed, .int y_taken, .int (nI em), .int y_ending, .int y_outcome])), (ma_lo, .inl (cI, 9, .inl lo)), (ma_ke, .inl (cI, 40, .inl ke)), (ma_sk, .inl (cI, 7, .inl sk)), (cd, .inr (1, [.ref cd_ops, .ref cd_opd, .ref cd_fr, .ref cd_to, .ref cd_tg, .int (nI n), .int (nI hn)])), (cd_ops, .inl (cI, zi, .inl f)), (cd_opd, .inl (cI, zi, .inl g)), (cd_fr, .inl (cI, z, .inl fr)), (cd_to, .inl (cI, z, .inl to)), (cd_tg, .inl (cI, z, .inl tg))]) (k_runV (q0 := 10) (As := [.int (sk (tq - 1))]) (rest := [.ref ma]) (n := 1) S (c_BL_entry l D cI cZ bl bl_le bl_he bl_st bl_fi bl_be bl_by bl_sa bl_mk bc st fi (sk (tq - 1)) (by omega)) E0_b E0_t ql_MA_68 qi_BL_entry qs_BL_entry qn_BL qc_BL_entry (by decide +kernel) rfl ⟨rfl, rfl⟩ ⟨Nat.le_of_ble_eq_true rfl, Nat.le_of_ble_eq_true rfl⟩ hK hP hD [10, 11, 12] rfl (by decide) rfl rfl hl.1 rfl (Nat.le_of_ble_eq_true rfl) d_MA_goThrough_146 ⟨Nat.zero_le _, Nat.zero_le _⟩) hP hD hS hA [10, 11, 12] [0, 1, 2, 3, 4, 5, 6, 7, 8, 9] [0, 1, 2, 3, 4, 5, 6, 7, 8, 9, 10, 11, 12] rfl rfl (by decide) (by decide) rfl (by decide) (fun H locs hP hD hS => ?_)
    refine k_put (v := .int (f_BL_entry bc st fi (sk (tq - 1)))) (ws' := [(ma, .inr (6, [.ref ma_lo, .ref ma_ke, .ref ma_sk, .int (nI (tq - 1)), .int (f_BL_entry bc st fi (sk (tq - 1))), .int y_wasUsed, .int y_taken, .int (nI em), .int y_ending, .int y_outcome])), (ma_lo, .inl (cI, 9, .inl lo)), (ma_ke, .inl (cI, 40, .inl ke)), (ma_sk, .inl (cI, 7, .inl sk)), (cd, .inr (1, [.ref cd_ops, .ref cd_opd, .ref cd_fr, .ref cd_to, .ref cd_tg, .int (nI n), .int (nI hn)])), (cd_ops, .inl (cI, zi, .inl f)), (cd_opd, .inl (cI, zi, .inl g)), (cd_fr, .inl (cI, z, .inl fr)), (cd_to, .inl (cI, z, .inl to)), (cd_tg, .inl (cI, z, .inl tg)), (bl, .inr (4, [.ref bl_le, .ref bl_he, .ref bl_st, .ref bl_fi, .ref bl_be, .ref bl_by, .ref bl_sa, .ref bl_mk, .int (nI bc)])), (bl_st, .inl (cI, 32, .inl st)), (bl_fi, .inl (cI, 32, .inl fi))]) S in_MA ty_MA nm_MA hK hP hD hS 0 rfl rfl 4 (by decide) ql_MA_29 rfl rfl rfl rfl (Nat.le_of_ble_eq_true rfl) rfl d_MA_goThrough_149 (fun H locs hP hD hS => ?_)
    refine lv_goto (tgt := 211) hx hb d_MA_goThrough_152 (by decide) ?_
    exact k_vret hx hb hr hlocks hK hP hD hS (by rw [f_MA_goThrough, if_neg h19_1, if_neg h19_2, if_neg h19_3, if_neg h19_5, if_neg h19_7, if_neg h19_8, if_pos h19_9]) d_MA_goThrough_211
  by_cases h19_10 : f (tn ya) = 7
  · skip
    refine k_top h19_10 ?_
    refine lv_tableIn (tgt := 187) hx hb d_MA_goThrough_19 (by decide) (by decide) rfl (by decide) ?_
    refine lv_aload_n hx hb d_MA_goThrough_187 rfl (lv_at hl 1 rfl) ?_
    refine lv_aload_n hx hb d_MA_goThrough_188 rfl (lv_at hl 2 rfl) ?_
    refine k_get (v := .ref cd_ops) S in_CO hK hP 4 rfl rfl 0 (by decide) ql_MA_61 rfl d_MA_goThrough_189 ?_
    refine lv_aload_n hx hb d_MA_goThrough_192 rfl (lv_at hl 1 rfl) ?_
    refine k_get (v := .int ya) S in_MA hK hP 0 rfl rfl 4 (by decide) ql_MA_29 rfl d_MA_goThrough_193 ?_
    refine k_top (y := nI (tn ya)) hat.1 ?_
    refine k_ld (k := tn ya) hx hb hK hP 5 0 rfl rfl rfl hat.2 (by omega) d_MA_goThrough_196 ?_
    refine lv_iload_n hx hb d_MA_goThrough_197 rfl (lv_at hl 0 rfl) ?_
    refine k_gov (ws' := [(ma, .inr (6, [.ref ma_lo, .ref ma_ke, .ref ma_sk, .int (nI ((f_MA_work tq em lo ke sk (f (tn ya)) (g (tn ya))).2.2.2.1)), .int ya, .int y_wasUsed, .int y_taken, .int (nI ((f_MA_work tq em lo ke sk (f (tn ya)) (g (tn ya))).2.2.2.2)), .int y_ending, .int y_outcome])), (ma_lo, .inl (cI, 9, .inl ((f_MA_work tq em lo ke sk (f (tn ya)) (g (tn ya))).1))), (ma_ke, .inl (cI, 40, .inl ((f_MA_work tq em lo ke sk (f (tn ya)) (g (tn ya))).2.1))), (ma_sk, .inl (cI, 7, .inl ((f_MA_work tq em lo ke sk (f (tn ya)) (g (tn ya))).2.2.1))), (cd, .inr (1, [.ref cd_ops, .ref cd_opd, .ref cd_fr, .ref cd_to, .ref cd_tg, .int (nI n), .int (nI hn)])), (cd_ops, .inl (cI, zi, .inl f)), (cd_opd, .inl (cI, zi, .inl g)), (cd_fr, .inl (cI, z, .inl fr)), (cd_to, .inl (cI, z, .inl to)), (cd_tg, .inl (cI, z, .inl tg)), (bl, .inr (4, [.ref bl_le, .ref bl_he, .ref bl_st, .ref bl_fi, .ref bl_be, .ref bl_by, .ref bl_sa, .ref bl_mk, .int (nI bc)])), (bl_st, .inl (cI, 32, .inl st)), (bl_fi, .inl (cI, 32, .inl fi))]) (wr := [(cd, .inr (1, [.ref cd_ops, .ref cd_opd, .ref cd_fr, .ref cd_to, .ref cd_tg, .int (nI n), .int (nI hn)])), (cd_ops, .inl (cI, zi, .inl f)), (cd_opd, .inl (cI, zi, .inl g)), (cd_fr, .inl (cI, z, .inl fr)), (cd_to, .inl (cI, z, .inl to)), (cd_tg, .inl (cI, z, .inl tg)), (bl, .inr (4, [.ref bl_le, .ref bl_he, .ref bl_st, .ref bl_fi, .ref bl_be, .ref bl_by, .ref bl_sa, .ref bl_mk, .int (nI bc)])), (bl_st, .inl (cI, 32, .inl st)), (bl_fi, .inl (cI, 32, .inl fi))]) (k_runV (q0 := 0) (As := [.int (f (tn ya)), .int (g (tn ya))]) (rest := []) (n := 2) S (c_MA_work l D cI cZ ma ma_lo ma_ke ma_sk ya y_wasUsed y_taken y_ending y_outcome tq em lo ke sk (f (tn ya)) (g (tn ya)) hq7 hem q0 q1 q2 q9 q11 q12 (fun a0 a1 a2 a3 a4 a5 => qd a0 a1 a2 a3 a4 a5 (by assumption) (by assumption) (by assumption) (by assumption) (by assumption) (by assumption) (by assumption))) E0_b E0_t ql_MA_86 qi_MA_work qs_MA_work qn_MA qc_MA_work (by decide +kernel) rfl ⟨rfl, rfl⟩ ⟨Nat.le_of_ble_eq_true rfl, Nat.le_of_ble_eq_true rfl⟩ hK hP hD [0, 1, 2, 3] rfl (by decide) rfl rfl hl.1 rfl (Nat.le_of_ble_eq_true rfl) d_MA_goThrough_198 ⟨Nat.zero_le _, Nat.zero_le _⟩) hP hD hS hA [0, 1, 2, 3] [4, 5, 6, 7, 8, 9, 10, 11, 12] [9, 10, 11, 12, 0, 1, 2, 3, 4, 5, 6, 7, 8] rfl rfl (by decide) (by decide) rfl (by decide) (fun H locs hP hD hS => ?_)
    refine lv_aload_n hx hb d_MA_goThrough_201 rfl (lv_at hl 1 rfl) ?_
    refine lv_dup hx hb d_MA_goThrough_202 rfl ?_
    refine k_get (v := .int ya) S in_MA hK hP 0 rfl rfl 4 (by decide) ql_MA_29 rfl d_MA_goThrough_203 ?_
    refine lv_iconst (v := 1) hx hb d_MA_goThrough_206 (by decide) ?_
    refine lv_iadd hx hb d_MA_goThrough_207 ?_
    refine k_put (v := .int (ya + 1)) (ws' := [(ma, .inr (6, [.ref ma_lo, .ref ma_ke, .ref ma_sk, .int (nI ((f_MA_work tq em lo ke sk (f (tn ya)) (g (tn ya))).2.2.2.1)), .int (ya + 1), .int y_wasUsed, .int y_taken, .int (nI ((f_MA_work tq em lo ke sk (f (tn ya)) (g (tn ya))).2.2.2.2)), .int y_ending, .int y_outcome])), (ma_lo, .inl (cI, 9, .inl ((f_MA_work tq em lo ke sk (f (tn ya)) (g (tn ya))).1))), (ma_ke, .inl (cI, 40, .inl ((f_MA_work tq em lo ke sk (f (tn ya)) (g (tn ya))).2.1))), (ma_sk, .inl (cI, 7, .inl ((f_MA_work tq em lo ke sk (f (tn ya)) (g (tn ya))).2.2.1))), (cd, .inr (1, [.ref cd_ops, .ref cd_opd, .ref cd_fr, .ref cd_to, .ref cd_tg, .int (nI n), .int (nI hn)])), (cd_ops, .inl (cI, zi, .inl f)), (cd_opd, .inl (cI, zi, .inl g)), (cd_fr, .inl (cI, z, .inl fr)), (cd_to, .inl (cI, z, .inl to)), (cd_tg, .inl (cI, z, .inl tg)), (bl, .inr (4, [.ref bl_le, .ref bl_he, .ref bl_st, .ref bl_fi, .ref bl_be, .ref bl_by, .ref bl_sa, .ref bl_mk, .int (nI bc)])), (bl_st, .inl (cI, 32, .inl st)), (bl_fi, .inl (cI, 32, .inl fi))]) S in_MA ty_MA nm_MA hK hP hD hS 0 rfl rfl 4 (by decide) ql_MA_29 rfl rfl rfl rfl (Nat.le_of_ble_eq_true rfl) rfl d_MA_goThrough_208 (fun H locs hP hD hS => ?_)
    exact k_vret hx hb hr hlocks hK hP hD hS (by rw [f_MA_goThrough, if_neg h19_1, if_neg h19_2, if_neg h19_3, if_neg h19_5, if_neg h19_7, if_neg h19_8, if_neg h19_9, if_pos h19_10]) d_MA_goThrough_211
  by_cases h19_11 : f (tn ya) = 8
  · skip
    refine k_top h19_11 ?_
    refine lv_tableIn (tgt := 187) hx hb d_MA_goThrough_19 (by decide) (by decide) rfl (by decide) ?_
    refine lv_aload_n hx hb d_MA_goThrough_187 rfl (lv_at hl 1 rfl) ?_
    refine lv_aload_n hx hb d_MA_goThrough_188 rfl (lv_at hl 2 rfl) ?_
    refine k_get (v := .ref cd_ops) S in_CO hK hP 4 rfl rfl 0 (by decide) ql_MA_61 rfl d_MA_goThrough_189 ?_
    refine lv_aload_n hx hb d_MA_goThrough_192 rfl (lv_at hl 1 rfl) ?_
    refine k_get (v := .int ya) S in_MA hK hP 0 rfl rfl 4 (by decide) ql_MA_29 rfl d_MA_goThrough_193 ?_
    refine k_top (y := nI (tn ya)) hat.1 ?_
    refine k_ld (k := tn ya) hx hb hK hP 5 0 rfl rfl rfl hat.2 (by omega) d_MA_goThrough_196 ?_
    refine lv_iload_n hx hb d_MA_goThrough_197 rfl (lv_at hl 0 rfl) ?_
    refine k_gov (ws' := [(ma, .inr (6, [.ref ma_lo, .ref ma_ke, .ref ma_sk, .int (nI ((f_MA_work tq em lo ke sk (f (tn ya)) (g (tn ya))).2.2.2.1)), .int ya, .int y_wasUsed, .int y_taken, .int (nI ((f_MA_work tq em lo ke sk (f (tn ya)) (g (tn ya))).2.2.2.2)), .int y_ending, .int y_outcome])), (ma_lo, .inl (cI, 9, .inl ((f_MA_work tq em lo ke sk (f (tn ya)) (g (tn ya))).1))), (ma_ke, .inl (cI, 40, .inl ((f_MA_work tq em lo ke sk (f (tn ya)) (g (tn ya))).2.1))), (ma_sk, .inl (cI, 7, .inl ((f_MA_work tq em lo ke sk (f (tn ya)) (g (tn ya))).2.2.1))), (cd, .inr (1, [.ref cd_ops, .ref cd_opd, .ref cd_fr, .ref cd_to, .ref cd_tg, .int (nI n), .int (nI hn)])), (cd_ops, .inl (cI, zi, .inl f)), (cd_opd, .inl (cI, zi, .inl g)), (cd_fr, .inl (cI, z, .inl fr)), (cd_to, .inl (cI, z, .inl to)), (cd_tg, .inl (cI, z, .inl tg)), (bl, .inr (4, [.ref bl_le, .ref bl_he, .ref bl_st, .ref bl_fi, .ref bl_be, .ref bl_by, .ref bl_sa, .ref bl_mk, .int (nI bc)])), (bl_st, .inl (cI, 32, .inl st)), (bl_fi, .inl (cI, 32, .inl fi))]) (wr := [(cd, .inr (1, [.ref cd_ops, .ref cd_opd, .ref cd_fr, .ref cd_to, .ref cd_tg, .int (nI n), .int (nI hn)])), (cd_ops, .inl (cI, zi, .inl f)), (cd_opd, .inl (cI, zi, .inl g)), (cd_fr, .inl (cI, z, .inl fr)), (cd_to, .inl (cI, z, .inl to)), (cd_tg, .inl (cI, z, .inl tg)), (bl, .inr (4, [.ref bl_le, .ref bl_he, .ref bl_st, .ref bl_fi, .ref bl_be, .ref bl_by, .ref bl_sa, .ref bl_mk, .int (nI bc)])), (bl_st, .inl (cI, 32, .inl st)), (bl_fi, .inl (cI, 32, .inl fi))]) (k_runV (q0 := 0) (As := [.int (f (tn ya)), .int (g (tn ya))]) (rest := []) (n := 2) S (c_MA_work l D cI cZ ma ma_lo ma_ke ma_sk ya y_wasUsed y_taken y_ending y_outcome tq em lo ke sk (f (tn ya)) (g (tn ya)) hq7 hem q0 q1 q2 q9 q11 q12 (fun a0 a1 a2 a3 a4 a5 => qd a0 a1 a2 a3 a4 a5 (by assumption) (by assumption) (by assumption) (by assumption) (by assumption) (by assumption) (by assumption))) E0_b E0_t ql_MA_86 qi_MA_work qs_MA_work qn_MA qc_MA_work (by decide +kernel) rfl ⟨rfl, rfl⟩ ⟨Nat.le_of_ble_eq_true rfl, Nat.le_of_ble_eq_true rfl⟩ hK hP hD [0, 1, 2, 3] rfl (by decide) rfl rfl hl.1 rfl (Nat.le_of_ble_eq_true rfl) d_MA_goThrough_198 ⟨Nat.zero_le _, Nat.zero_le _⟩) hP hD hS hA [0, 1, 2, 3] [4, 5, 6, 7, 8, 9, 10, 11, 12] [9, 10, 11, 12, 0, 1, 2, 3, 4, 5, 6, 7, 8] rfl rfl (by decide) (by decide) rfl (by decide) (fun H locs hP hD hS => ?_)
    refine lv_aload_n hx hb d_MA_goThrough_201 rfl (lv_at hl 1 rfl) ?_
    refine lv_dup hx hb d_MA_goThrough_202 rfl ?_
    refine k_get (v := .int ya) S in_MA hK hP 0 rfl rfl 4 (by decide) ql_MA_29 rfl d_MA_goThrough_203 ?_
    refine lv_iconst (v := 1) hx hb d_MA_goThrough_206 (by decide) ?_
    refine lv_iadd hx hb d_MA_goThrough_207 ?_
    refine k_put (v := .int (ya + 1)) (ws' := [(ma, .inr (6, [.ref ma_lo, .ref ma_ke, .ref ma_sk, .int (nI ((f_MA_work tq em lo ke sk (f (tn ya)) (g (tn ya))).2.2.2.1)), .int (ya + 1), .int y_wasUsed, .int y_taken, .int (nI ((f_MA_work tq em lo ke sk (f (tn ya)) (g (tn ya))).2.2.2.2)), .int y_ending, .int y_outcome])), (ma_lo, .inl (cI, 9, .inl ((f_MA_work tq em lo ke sk (f (tn ya)) (g (tn ya))).1))), (ma_ke, .inl (cI, 40, .inl ((f_MA_work tq em lo ke sk (f (tn ya)) (g (tn ya))).2.1))), (ma_sk, .inl (cI, 7, .inl ((f_MA_work tq em lo ke sk (f (tn ya)) (g (tn ya))).2.2.1))), (cd, .inr (1, [.ref cd_ops, .ref cd_opd, .ref cd_fr, .ref cd_to, .ref cd_tg, .int (nI n), .int (nI hn)])), (cd_ops, .inl (cI, zi, .inl f)), (cd_opd, .inl (cI, zi, .inl g)), (cd_fr, .inl (cI, z, .inl fr)), (cd_to, .inl (cI, z, .inl to)), (cd_tg, .inl (cI, z, .inl tg)), (bl, .inr (4, [.ref bl_le, .ref bl_he, .ref bl_st, .ref bl_fi, .ref bl_be, .ref bl_by, .ref bl_sa, .ref bl_mk, .int (nI bc)])), (bl_st, .inl (cI, 32, .inl st)), (bl_fi, .inl (cI, 32, .inl fi))]) S in_MA ty_MA nm_MA hK hP hD hS 0 rfl rfl 4 (by decide) ql_MA_29 rfl rfl rfl rfl (Nat.le_of_ble_eq_true rfl) rfl d_MA_goThrough_208 (fun H locs hP hD hS => ?_)
    exact k_vret hx hb hr hlocks hK hP hD hS (by rw [f_MA_goThrough, if_neg h19_1, if_neg h19_2, if_neg h19_3, if_neg h19_5, if_neg h19_7, if_neg h19_8, if_neg h19_9, if_neg h19_10, if_pos h19_11]) d_MA_goThrough_211
  by_cases h19_12 : f (tn ya) = 9
  · skip
    refine k_top h19_12 ?_
    refine lv_tableIn (tgt := 187) hx hb d_MA_goThrough_19 (by decide) (by decide) rfl (by decide) ?_
    refine lv_aload_n hx hb d_MA_goThrough_187 rfl (lv_at hl 1 rfl) ?_
    refine lv_aload_n hx hb d_MA_goThrough_188 rfl (lv_at hl 2 rfl) ?_
    refine k_get (v := .ref cd_ops) S in_CO hK hP 4 rfl rfl 0 (by decide) ql_MA_61 rfl d_MA_goThrough_189 ?_
    refine lv_aload_n hx hb d_MA_goThrough_192 rfl (lv_at hl 1 rfl) ?_
    refine k_get (v := .int ya) S in_MA hK hP 0 rfl rfl 4 (by decide) ql_MA_29 rfl d_MA_goThrough_193 ?_
    refine k_top (y := nI (tn ya)) hat.1 ?_
    refine k_ld (k := tn ya) hx hb hK hP 5 0 rfl rfl rfl hat.2 (by omega) d_MA_goThrough_196 ?_
    refine lv_iload_n hx hb d_MA_goThrough_197 rfl (lv_at hl 0 rfl) ?_
    refine k_gov (ws' := [(ma, .inr (6, [.ref ma_lo, .ref ma_ke, .ref ma_sk, .int (nI ((f_MA_work tq em lo ke sk (f (tn ya)) (g (tn ya))).2.2.2.1)), .int ya, .int y_wasUsed, .int y_taken, .int (nI ((f_MA_work tq em lo ke sk (f (tn ya)) (g (tn ya))).2.2.2.2)), .int y_ending, .int y_outcome])), (ma_lo, .inl (cI, 9, .inl ((f_MA_work tq em lo ke sk (f (tn ya)) (g (tn ya))).1))), (ma_ke, .inl (cI, 40, .inl ((f_MA_work tq em lo ke sk (f (tn ya)) (g (tn ya))).2.1))), (ma_sk, .inl (cI, 7, .inl ((f_MA_work tq em lo ke sk (f (tn ya)) (g (tn ya))).2.2.1))), (cd, .inr (1, [.ref cd_ops, .ref cd_opd, .ref cd_fr, .ref cd_to, .ref cd_tg, .int (nI n), .int (nI hn)])), (cd_ops, .inl (cI, zi, .inl f)), (cd_opd, .inl (cI, zi, .inl g)), (cd_fr, .inl (cI, z, .inl fr)), (cd_to, .inl (cI, z, .inl to)), (cd_tg, .inl (cI, z, .inl tg)), (bl, .inr (4, [.ref bl_le, .ref bl_he, .ref bl_st, .ref bl_fi, .ref bl_be, .ref bl_by, .ref bl_sa, .ref bl_mk, .int (nI bc)])), (bl_st, .inl (cI, 32, .inl st)), (bl_fi, .inl (cI, 32, .inl fi))]) (wr := [(cd, .inr (1, [.ref cd_ops, .ref cd_opd, .ref cd_fr, .ref cd_to, .ref cd_tg, .int (nI n), .int (nI hn)])), (cd_ops, .inl (cI, zi, .inl f)), (cd_opd, .inl (cI, zi, .inl g)), (cd_fr, .inl (cI, z, .inl fr)), (cd_to, .inl (cI, z, .inl to)), (cd_tg, .inl (cI, z, .inl tg)), (bl, .inr (4, [.ref bl_le, .ref bl_he, .ref bl_st, .ref bl_fi, .ref bl_be, .ref bl_by, .ref bl_sa, .ref bl_mk, .int (nI bc)])), (bl_st, .inl (cI, 32, .inl st)), (bl_fi, .inl (cI, 32, .inl fi))]) (k_runV (q0 := 0) (As := [.int (f (tn ya)), .int (g (tn ya))]) (rest := []) (n := 2) S (c_MA_work l D cI cZ ma ma_lo ma_ke ma_sk ya y_wasUsed y_taken y_ending y_outcome tq em lo ke sk (f (tn ya)) (g (tn ya)) hq7 hem q0 q1 q2 q9 q11 q12 (fun a0 a1 a2 a3 a4 a5 => qd a0 a1 a2 a3 a4 a5 (by assumption) (by assumption) (by assumption) (by assumption) (by assumption) (by assumption) (by assumption))) E0_b E0_t ql_MA_86 qi_MA_work qs_MA_work qn_MA qc_MA_work (by decide +kernel) rfl ⟨rfl, rfl⟩ ⟨Nat.le_of_ble_eq_true rfl, Nat.le_of_ble_eq_true rfl⟩ hK hP hD [0, 1, 2, 3] rfl (by decide) rfl rfl hl.1 rfl (Nat.le_of_ble_eq_true rfl) d_MA_goThrough_198 ⟨Nat.zero_le _, Nat.zero_le _⟩) hP hD hS hA [0, 1, 2, 3] [4, 5, 6, 7, 8, 9, 10, 11, 12] [9, 10, 11, 12, 0, 1, 2, 3, 4, 5, 6, 7, 8] rfl rfl (by decide) (by decide) rfl (by decide) (fun H locs hP hD hS => ?_)
    refine lv_aload_n hx hb d_MA_goThrough_201 rfl (lv_at hl 1 rfl) ?_
    refine lv_dup hx hb d_MA_goThrough_202 rfl ?_
    refine k_get (v := .int ya) S in_MA hK hP 0 rfl rfl 4 (by decide) ql_MA_29 rfl d_MA_goThrough_203 ?_
    refine lv_iconst (v := 1) hx hb d_MA_goThrough_206 (by decide) ?_
    refine lv_iadd hx hb d_MA_goThrough_207 ?_
    refine k_put (v := .int (ya + 1)) (ws' := [(ma, .inr (6, [.ref ma_lo, .ref ma_ke, .ref ma_sk, .int (nI ((f_MA_work tq em lo ke sk (f (tn ya)) (g (tn ya))).2.2.2.1)), .int (ya + 1), .int y_wasUsed, .int y_taken, .int (nI ((f_MA_work tq em lo ke sk (f (tn ya)) (g (tn ya))).2.2.2.2)), .int y_ending, .int y_outcome])), (ma_lo, .inl (cI, 9, .inl ((f_MA_work tq em lo ke sk (f (tn ya)) (g (tn ya))).1))), (ma_ke, .inl (cI, 40, .inl ((f_MA_work tq em lo ke sk (f (tn ya)) (g (tn ya))).2.1))), (ma_sk, .inl (cI, 7, .inl ((f_MA_work tq em lo ke sk (f (tn ya)) (g (tn ya))).2.2.1))), (cd, .inr (1, [.ref cd_ops, .ref cd_opd, .ref cd_fr, .ref cd_to, .ref cd_tg, .int (nI n), .int (nI hn)])), (cd_ops, .inl (cI, zi, .inl f)), (cd_opd, .inl (cI, zi, .inl g)), (cd_fr, .inl (cI, z, .inl fr)), (cd_to, .inl (cI, z, .inl to)), (cd_tg, .inl (cI, z, .inl tg)), (bl, .inr (4, [.ref bl_le, .ref bl_he, .ref bl_st, .ref bl_fi, .ref bl_be, .ref bl_by, .ref bl_sa, .ref bl_mk, .int (nI bc)])), (bl_st, .inl (cI, 32, .inl st)), (bl_fi, .inl (cI, 32, .inl fi))]) S in_MA ty_MA nm_MA hK hP hD hS 0 rfl rfl 4 (by decide) ql_MA_29 rfl rfl rfl rfl (Nat.le_of_ble_eq_true rfl) rfl d_MA_goThrough_208 (fun H locs hP hD hS => ?_)
    exact k_vret hx hb hr hlocks hK hP hD hS (by rw [f_MA_goThrough, if_neg h19_1, if_neg h19_2, if_neg h19_3, if_neg h19_5, if_neg h19_7, if_neg h19_8, if_neg h19_9, if_neg h19_10, if_neg h19_11, if_pos h19_12]) d_MA_goThrough_211
  by_cases h19_13 : f (tn ya) = 10
  · skip
    refine k_top h19_13 ?_
    refine lv_tableIn (tgt := 187) hx hb d_MA_goThrough_19 (by decide) (by decide) rfl (by decide) ?_
    refine lv_aload_n hx hb d_MA_goThrough_187 rfl (lv_at hl 1 rfl) ?_
    refine lv_aload_n hx hb d_MA_goThrough_188 rfl (lv_at hl 2 rfl) ?_
    refine k_get (v := .ref cd_ops) S in_CO hK hP 4 rfl rfl 0 (by decide) ql_MA_61 rfl d_MA_goThrough_189 ?_
    refine lv_aload_n hx hb d_MA_goThrough_192 rfl (lv_at hl 1 rfl) ?_
    refine k_get (v := .int ya) S in_MA hK hP 0 rfl rfl 4 (by decide) ql_MA_29 rfl d_MA_goThrough_193 ?_
    refine k_top (y := nI (tn ya)) hat.1 ?_
    refine k_ld (k := tn ya) hx hb hK hP 5 0 rfl rfl rfl hat.2 (by omega) d_MA_goThrough_196 ?_
    refine lv_iload_n hx hb d_MA_goThrough_197 rfl (lv_at hl 0 rfl) ?_
    refine k_gov (ws' := [(ma, .inr (6, [.ref ma_lo, .ref ma_ke, .ref ma_sk, .int (nI ((f_MA_work tq em lo ke sk (f (tn ya)) (g (tn ya))).2.2.2.1)), .int ya, .int y_wasUsed, .int y_taken, .int (nI ((f_MA_work tq em lo ke sk (f (tn ya)) (g (tn ya))).2.2.2.2)), .int y_ending, .int y_outcome])), (ma_lo, .inl (cI, 9, .inl ((f_MA_work tq em lo ke sk (f (tn ya)) (g (tn ya))).1))), (ma_ke, .inl (cI, 40, .inl ((f_MA_work tq em lo ke sk (f (tn ya)) (g (tn ya))).2.1))), (ma_sk, .inl (cI, 7, .inl ((f_MA_work tq em lo ke sk (f (tn ya)) (g (tn ya))).2.2.1))), (cd, .inr (1, [.ref cd_ops, .ref cd_opd, .ref cd_fr, .ref cd_to, .ref cd_tg, .int (nI n), .int (nI hn)])), (cd_ops, .inl (cI, zi, .inl f)), (cd_opd, .inl (cI, zi, .inl g)), (cd_fr, .inl (cI, z, .inl fr)), (cd_to, .inl (cI, z, .inl to)), (cd_tg, .inl (cI, z, .inl tg)), (bl, .inr (4, [.ref bl_le, .ref bl_he, .ref bl_st, .ref bl_fi, .ref bl_be, .ref bl_by, .ref bl_sa, .ref bl_mk, .int (nI bc)])), (bl_st, .inl (cI, 32, .inl st)), (bl_fi, .inl (cI, 32, .inl fi))]) (wr := [(cd, .inr (1, [.ref cd_ops, .ref cd_opd, .ref cd_fr, .ref cd_to, .ref cd_tg, .int (nI n), .int (nI hn)])), (cd_ops, .inl (cI, zi, .inl f)), (cd_opd, .inl (cI, zi, .inl g)), (cd_fr, .inl (cI, z, .inl fr)), (cd_to, .inl (cI, z, .inl to)), (cd_tg, .inl (cI, z, .inl tg)), (bl, .inr (4, [.ref bl_le, .ref bl_he, .ref bl_st, .ref bl_fi, .ref bl_be, .ref bl_by, .ref bl_sa, .ref bl_mk, .int (nI bc)])), (bl_st, .inl (cI, 32, .inl st)), (bl_fi, .inl (cI, 32, .inl fi))]) (k_runV (q0 := 0) (As := [.int (f (tn ya)), .int (g (tn ya))]) (rest := []) (n := 2) S (c_MA_work l D cI cZ ma ma_lo ma_ke ma_sk ya y_wasUsed y_taken y_ending y_outcome tq em lo ke sk (f (tn ya)) (g (tn ya)) hq7 hem q0 q1 q2 q9 q11 q12 (fun a0 a1 a2 a3 a4 a5 => qd a0 a1 a2 a3 a4 a5 (by assumption) (by assumption) (by assumption) (by assumption) (by assumption) (by assumption) (by assumption))) E0_b E0_t ql_MA_86 qi_MA_work qs_MA_work qn_MA qc_MA_work (by decide +kernel) rfl ⟨rfl, rfl⟩ ⟨Nat.le_of_ble_eq_true rfl, Nat.le_of_ble_eq_true rfl⟩ hK hP hD [0, 1, 2, 3] rfl (by decide) rfl rfl hl.1 rfl (Nat.le_of_ble_eq_true rfl) d_MA_goThrough_198 ⟨Nat.zero_le _, Nat.zero_le _⟩) hP hD hS hA [0, 1, 2, 3] [4, 5, 6, 7, 8, 9, 10, 11, 12] [9, 10, 11, 12, 0, 1, 2, 3, 4, 5, 6, 7, 8] rfl rfl (by decide) (by decide) rfl (by decide) (fun H locs hP hD hS => ?_)
    refine lv_aload_n hx hb d_MA_goThrough_201 rfl (lv_at hl 1 rfl) ?_
    refine lv_dup hx hb d_MA_goThrough_202 rfl ?_
    refine k_get (v := .int ya) S in_MA hK hP 0 rfl rfl 4 (by decide) ql_MA_29 rfl d_MA_goThrough_203 ?_
    refine lv_iconst (v := 1) hx hb d_MA_goThrough_206 (by decide) ?_
    refine lv_iadd hx hb d_MA_goThrough_207 ?_
    refine k_put (v := .int (ya + 1)) (ws' := [(ma, .inr (6, [.ref ma_lo, .ref ma_ke, .ref ma_sk, .int (nI ((f_MA_work tq em lo ke sk (f (tn ya)) (g (tn ya))).2.2.2.1)), .int (ya + 1), .int y_wasUsed, .int y_taken, .int (nI ((f_MA_work tq em lo ke sk (f (tn ya)) (g (tn ya))).2.2.2.2)), .int y_ending, .int y_outcome])), (ma_lo, .inl (cI, 9, .inl ((f_MA_work tq em lo ke sk (f (tn ya)) (g (tn ya))).1))), (ma_ke, .inl (cI, 40, .inl ((f_MA_work tq em lo ke sk (f (tn ya)) (g (tn ya))).2.1))), (ma_sk, .inl (cI, 7, .inl ((f_MA_work tq em lo ke sk (f (tn ya)) (g (tn ya))).2.2.1))), (cd, .inr (1, [.ref cd_ops, .ref cd_opd, .ref cd_fr, .ref cd_to, .ref cd_tg, .int (nI n), .int (nI hn)])), (cd_ops, .inl (cI, zi, .inl f)), (cd_opd, .inl (cI, zi, .inl g)), (cd_fr, .inl (cI, z, .inl fr)), (cd_to, .inl (cI, z, .inl to)), (cd_tg, .inl (cI, z, .inl tg)), (bl, .inr (4, [.ref bl_le, .ref bl_he, .ref bl_st, .ref bl_fi, .ref bl_be, .ref bl_by, .ref bl_sa, .ref bl_mk, .int (nI bc)])), (bl_st, .inl (cI, 32, .inl st)), (bl_fi, .inl (cI, 32, .inl fi))]) S in_MA ty_MA nm_MA hK hP hD hS 0 rfl rfl 4 (by decide) ql_MA_29 rfl rfl rfl rfl (Nat.le_of_ble_eq_true rfl) rfl d_MA_goThrough_208 (fun H locs hP hD hS => ?_)
    exact k_vret hx hb hr hlocks hK hP hD hS (by rw [f_MA_goThrough, if_neg h19_1, if_neg h19_2, if_neg h19_3, if_neg h19_5, if_neg h19_7, if_neg h19_8, if_neg h19_9, if_neg h19_10, if_neg h19_11, if_neg h19_12, if_pos h19_13]) d_MA_goThrough_211
  by_cases h19_14 : f (tn ya) = 11
  · skip
    refine k_top h19_14 ?_
    refine lv_tableIn (tgt := 187) hx hb d_MA_goThrough_19 (by decide) (by decide) rfl (by decide) ?_
    refine lv_aload_n hx hb d_MA_goThrough_187 rfl (lv_at hl 1 rfl) ?_
    refine lv_aload_n hx hb d_MA_goThrough_188 rfl (lv_at hl 2 rfl) ?_
    refine k_get (v := .ref cd_ops) S in_CO hK hP 4 rfl rfl 0 (by decide) ql_MA_61 rfl d_MA_goThrough_189 ?_
    refine lv_aload_n hx hb d_MA_goThrough_192 rfl (lv_at hl 1 rfl) ?_
    refine k_get (v := .int ya) S in_MA hK hP 0 rfl rfl 4 (by decide) ql_MA_29 rfl d_MA_goThrough_193 ?_
    refine k_top (y := nI (tn ya)) hat.1 ?_
    refine k_ld (k := tn ya) hx hb hK hP 5 0 rfl rfl rfl hat.2 (by omega) d_MA_goThrough_196 ?_
    refine lv_iload_n hx hb d_MA_goThrough_197 rfl (lv_at hl 0 rfl) ?_
    refine k_gov (ws' := [(ma, .inr (6, [.ref ma_lo, .ref ma_ke, .ref ma_sk, .int (nI ((f_MA_work tq em lo ke sk (f (tn ya)) (g (tn ya))).2.2.2.1)), .int ya, .int y_wasUsed, .int y_taken, .int (nI ((f_MA_work tq em lo ke sk (f (tn ya)) (g (tn ya))).2.2.2.2)), .int y_ending, .int y_outcome])), (ma_lo, .inl (cI, 9, .inl ((f_MA_work tq em lo ke sk (f (tn ya)) (g (tn ya))).1))), (ma_ke, .inl (cI, 40, .inl ((f_MA_work tq em lo ke sk (f (tn ya)) (g (tn ya))).2.1))), (ma_sk, .inl (cI, 7, .inl ((f_MA_work tq em lo ke sk (f (tn ya)) (g (tn ya))).2.2.1))), (cd, .inr (1, [.ref cd_ops, .ref cd_opd, .ref cd_fr, .ref cd_to, .ref cd_tg, .int (nI n), .int (nI hn)])), (cd_ops, .inl (cI, zi, .inl f)), (cd_opd, .inl (cI, zi, .inl g)), (cd_fr, .inl (cI, z, .inl fr)), (cd_to, .inl (cI, z, .inl to)), (cd_tg, .inl (cI, z, .inl tg)), (bl, .inr (4, [.ref bl_le, .ref bl_he, .ref bl_st, .ref bl_fi, .ref bl_be, .ref bl_by, .ref bl_sa, .ref bl_mk, .int (nI bc)])), (bl_st, .inl (cI, 32, .inl st)), (bl_fi, .inl (cI, 32, .inl fi))]) (wr := [(cd, .inr (1, [.ref cd_ops, .ref cd_opd, .ref cd_fr, .ref cd_to, .ref cd_tg, .int (nI n), .int (nI hn)])), (cd_ops, .inl (cI, zi, .inl f)), (cd_opd, .inl (cI, zi, .inl g)), (cd_fr, .inl (cI, z, .inl fr)), (cd_to, .inl (cI, z, .inl to)), (cd_tg, .inl (cI, z, .inl tg)), (bl, .inr (4, [.ref bl_le, .ref bl_he, .ref bl_st, .ref bl_fi, .ref bl_be, .ref bl_by, .ref bl_sa, .ref bl_mk, .int (nI bc)])), (bl_st, .inl (cI, 32, .inl st)), (bl_fi, .inl (cI, 32, .inl fi))]) (k_runV (q0 := 0) (As := [.int (f (tn ya)), .int (g (tn ya))]) (rest := []) (n := 2) S (c_MA_work l D cI cZ ma ma_lo ma_ke ma_sk ya y_wasUsed y_taken y_ending y_outcome tq em lo ke sk (f (tn ya)) (g (tn ya)) hq7 hem q0 q1 q2 q9 q11 q12 (fun a0 a1 a2 a3 a4 a5 => qd a0 a1 a2 a3 a4 a5 (by assumption) (by assumption) (by assumption) (by assumption) (by assumption) (by assumption) (by assumption))) E0_b E0_t ql_MA_86 qi_MA_work qs_MA_work qn_MA qc_MA_work (by decide +kernel) rfl ⟨rfl, rfl⟩ ⟨Nat.le_of_ble_eq_true rfl, Nat.le_of_ble_eq_true rfl⟩ hK hP hD [0, 1, 2, 3] rfl (by decide) rfl rfl hl.1 rfl (Nat.le_of_ble_eq_true rfl) d_MA_goThrough_198 ⟨Nat.zero_le _, Nat.zero_le _⟩) hP hD hS hA [0, 1, 2, 3] [4, 5, 6, 7, 8, 9, 10, 11, 12] [9, 10, 11, 12, 0, 1, 2, 3, 4, 5, 6, 7, 8] rfl rfl (by decide) (by decide) rfl (by decide) (fun H locs hP hD hS => ?_)
    refine lv_aload_n hx hb d_MA_goThrough_201 rfl (lv_at hl 1 rfl) ?_
    refine lv_dup hx hb d_MA_goThrough_202 rfl ?_
    refine k_get (v := .int ya) S in_MA hK hP 0 rfl rfl 4 (by decide) ql_MA_29 rfl d_MA_goThrough_203 ?_
    refine lv_iconst (v := 1) hx hb d_MA_goThrough_206 (by decide) ?_
    refine lv_iadd hx hb d_MA_goThrough_207 ?_
    refine k_put (v := .int (ya + 1)) (ws' := [(ma, .inr (6, [.ref ma_lo, .ref ma_ke, .ref ma_sk, .int (nI ((f_MA_work tq em lo ke sk (f (tn ya)) (g (tn ya))).2.2.2.1)), .int (ya + 1), .int y_wasUsed, .int y_taken, .int (nI ((f_MA_work tq em lo ke sk (f (tn ya)) (g (tn ya))).2.2.2.2)), .int y_ending, .int y_outcome])), (ma_lo, .inl (cI, 9, .inl ((f_MA_work tq em lo ke sk (f (tn ya)) (g (tn ya))).1))), (ma_ke, .inl (cI, 40, .inl ((f_MA_work tq em lo ke sk (f (tn ya)) (g (tn ya))).2.1))), (ma_sk, .inl (cI, 7, .inl ((f_MA_work tq em lo ke sk (f (tn ya)) (g (tn ya))).2.2.1))), (cd, .inr (1, [.ref cd_ops, .ref cd_opd, .ref cd_fr, .ref cd_to, .ref cd_tg, .int (nI n), .int (nI hn)])), (cd_ops, .inl (cI, zi, .inl f)), (cd_opd, .inl (cI, zi, .inl g)), (cd_fr, .inl (cI, z, .inl fr)), (cd_to, .inl (cI, z, .inl to)), (cd_tg, .inl (cI, z, .inl tg)), (bl, .inr (4, [.ref bl_le, .ref bl_he, .ref bl_st, .ref bl_fi, .ref bl_be, .ref bl_by, .ref bl_sa, .ref bl_mk, .int (nI bc)])), (bl_st, .inl (cI, 32, .inl st)), (bl_fi, .inl (cI, 32, .inl fi))]) S in_MA ty_MA nm_MA hK hP hD hS 0 rfl rfl 4 (by decide) ql_MA_29 rfl rfl rfl rfl (Nat.le_of_ble_eq_true rfl) rfl d_MA_goThrough_208 (fun H locs hP hD hS => ?_)
    exact k_vret hx hb hr hlocks hK hP hD hS (by rw [f_MA_goThrough, if_neg h19_1, if_neg h19_2, if_neg h19_3, if_neg h19_5, if_neg h19_7, if_neg h19_8, if_neg h19_9, if_neg h19_10, if_neg h19_11, if_neg h19_12, if_neg h19_13, if_pos h19_14]) d_MA_goThrough_211
  by_cases h19_15 : f (tn ya) = 12
  · skip
    refine k_top h19_15 ?_
    refine lv_tableIn (tgt := 187) hx hb d_MA_goThrough_19 (by decide) (by decide) rfl (by decide) ?_
    refine lv_aload_n hx hb d_MA_goThrough_187 rfl (lv_at hl 1 rfl) ?_
    refine lv_aload_n hx hb d_MA_goThrough_188 rfl (lv_at hl 2 rfl) ?_
    refine k_get (v := .ref cd_ops) S in_CO hK hP 4 rfl rfl 0 (by decide) ql_MA_61 rfl d_MA_goThrough_189 ?_
    refine lv_aload_n hx hb d_MA_goThrough_192 rfl (lv_at hl 1 rfl) ?_
    refine k_get (v := .int ya) S in_MA hK hP 0 rfl rfl 4 (by decide) ql_MA_29 rfl d_MA_goThrough_193 ?_
    refine k_top (y := nI (tn ya)) hat.1 ?_
    refine k_ld (k := tn ya) hx hb hK hP 5 0 rfl rfl rfl hat.2 (by omega) d_MA_goThrough_196 ?_
    refine lv_iload_n hx hb d_MA_goThrough_197 rfl (lv_at hl 0 rfl) ?_
    refine k_gov (ws' := [(ma, .inr (6, [.ref ma_lo, .ref ma_ke, .ref ma_sk, .int (nI ((f_MA_work tq em lo ke sk (f (tn ya)) (g (tn ya))).2.2.2.1)), .int ya, .int y_wasUsed, .int y_taken, .int (nI ((f_MA_work tq em lo ke sk (f (tn ya)) (g (tn ya))).2.2.2.2)), .int y_ending, .int y_outcome])), (ma_lo, .inl (cI, 9, .inl ((f_MA_work tq em lo ke sk (f (tn ya)) (g (tn ya))).1))), (ma_ke, .inl (cI, 40, .inl ((f_MA_work tq em lo ke sk (f (tn ya)) (g (tn ya))).2.1))), (ma_sk, .inl (cI, 7, .inl ((f_MA_work tq em lo ke sk (f (tn ya)) (g (tn ya))).2.2.1))), (cd, .inr (1, [.ref cd_ops, .ref cd_opd, .ref cd_fr, .ref cd_to, .ref cd_tg, .int (nI n), .int (nI hn)])), (cd_ops, .inl (cI, zi, .inl f)), (cd_opd, .inl (cI, zi, .inl g)), (cd_fr, .inl (cI, z, .inl fr)), (cd_to, .inl (cI, z, .inl to)), (cd_tg, .inl (cI, z, .inl tg)), (bl, .inr (4, [.ref bl_le, .ref bl_he, .ref bl_st, .ref bl_fi, .ref bl_be, .ref bl_by, .ref bl_sa, .ref bl_mk, .int (nI bc)])), (bl_st, .inl (cI, 32, .inl st)), (bl_fi, .inl (cI, 32, .inl fi))]) (wr := [(cd, .inr (1, [.ref cd_ops, .ref cd_opd, .ref cd_fr, .ref cd_to, .ref cd_tg, .int (nI n), .int (nI hn)])), (cd_ops, .inl (cI, zi, .inl f)), (cd_opd, .inl (cI, zi, .inl g)), (cd_fr, .inl (cI, z, .inl fr)), (cd_to, .inl (cI, z, .inl to)), (cd_tg, .inl (cI, z, .inl tg)), (bl, .inr (4, [.ref bl_le, .ref bl_he, .ref bl_st, .ref bl_fi, .ref bl_be, .ref bl_by, .ref bl_sa, .ref bl_mk, .int (nI bc)])), (bl_st, .inl (cI, 32, .inl st)), (bl_fi, .inl (cI, 32, .inl fi))]) (k_runV (q0 := 0) (As := [.int (f (tn ya)), .int (g (tn ya))]) (rest := []) (n := 2) S (c_MA_work l D cI cZ ma ma_lo ma_ke ma_sk ya y_wasUsed y_taken y_ending y_outcome tq em lo ke sk (f (tn ya)) (g (tn ya)) hq7 hem q0 q1 q2 q9 q11 q12 (fun a0 a1 a2 a3 a4 a5 => qd a0 a1 a2 a3 a4 a5 (by assumption) (by assumption) (by assumption) (by assumption) (by assumption) (by assumption) (by assumption))) E0_b E0_t ql_MA_86 qi_MA_work qs_MA_work qn_MA qc_MA_work (by decide +kernel) rfl ⟨rfl, rfl⟩ ⟨Nat.le_of_ble_eq_true rfl, Nat.le_of_ble_eq_true rfl⟩ hK hP hD [0, 1, 2, 3] rfl (by decide) rfl rfl hl.1 rfl (Nat.le_of_ble_eq_true rfl) d_MA_goThrough_198 ⟨Nat.zero_le _, Nat.zero_le _⟩) hP hD hS hA [0, 1, 2, 3] [4, 5, 6, 7, 8, 9, 10, 11, 12] [9, 10, 11, 12, 0, 1, 2, 3, 4, 5, 6, 7, 8] rfl rfl (by decide) (by decide) rfl (by decide) (fun H locs hP hD hS => ?_)
    refine lv_aload_n hx hb d_MA_goThrough_201 rfl (lv_at hl 1 rfl) ?_
    refine lv_dup hx hb d_MA_goThrough_202 rfl ?_
    refine k_get (v := .int ya) S in_MA hK hP 0 rfl rfl 4 (by decide) ql_MA_29 rfl d_MA_goThrough_203 ?_
    refine lv_iconst (v := 1) hx hb d_MA_goThrough_206 (by decide) ?_
    refine lv_iadd hx hb d_MA_goThrough_207 ?_
    refine k_put (v := .int (ya + 1)) (ws' := [(ma, .inr (6, [.ref ma_lo, .ref ma_ke, .ref ma_sk, .int (nI ((f_MA_work tq em lo ke sk (f (tn ya)) (g (tn ya))).2.2.2.1)), .int (ya + 1), .int y_wasUsed, .int y_taken, .int (nI ((f_MA_work tq em lo ke sk (f (tn ya)) (g (tn ya))).2.2.2.2)), .int y_ending, .int y_outcome])), (ma_lo, .inl (cI, 9, .inl ((f_MA_work tq em lo ke sk (f (tn ya)) (g (tn ya))).1))), (ma_ke, .inl (cI, 40, .inl ((f_MA_work tq em lo ke sk (f (tn ya)) (g (tn ya))).2.1))), (ma_sk, .inl (cI, 7, .inl ((f_MA_work tq em lo ke sk (f (tn ya)) (g (tn ya))).2.2.1))), (cd, .inr (1, [.ref cd_ops, .ref cd_opd, .ref cd_fr, .ref cd_to, .ref cd_tg, .int (nI n), .int (nI hn)])), (cd_ops, .inl (cI, zi, .inl f)), (cd_opd, .inl (cI, zi, .inl g)), (cd_fr, .inl (cI, z, .inl fr)), (cd_to, .inl (cI, z, .inl to)), (cd_tg, .inl (cI, z, .inl tg)), (bl, .inr (4, [.ref bl_le, .ref bl_he, .ref bl_st, .ref bl_fi, .ref bl_be, .ref bl_by, .ref bl_sa, .ref bl_mk, .int (nI bc)])), (bl_st, .inl (cI, 32, .inl st)), (bl_fi, .inl (cI, 32, .inl fi))]) S in_MA ty_MA nm_MA hK hP hD hS 0 rfl rfl 4 (by decide) ql_MA_29 rfl rfl rfl rfl (Nat.le_of_ble_eq_true rfl) rfl d_MA_goThrough_208 (fun H locs hP hD hS => ?_)
    exact k_vret hx hb hr hlocks hK hP hD hS (by rw [f_MA_goThrough, if_neg h19_1, if_neg h19_2, if_neg h19_3, if_neg h19_5, if_neg h19_7, if_neg h19_8, if_neg h19_9, if_neg h19_10, if_neg h19_11, if_neg h19_12, if_neg h19_13, if_neg h19_14, if_pos h19_15]) d_MA_goThrough_211
  refine lv_tableOut (tgt := 187) hx hb d_MA_goThrough_19 (by have e0 := lv_neT h19_1 (show (6 : Int32).toInt = 6 by decide); have e1 := lv_neT h19_2 (show (13 : Int32).toInt = 13 by decide); have e2 := lv_neT h19_3 (show (14 : Int32).toInt = 14 by decide); have e3 := lv_neT h19_5 (show (15 : Int32).toInt = 15 by decide); have e4 := lv_neT h19_7 (show (16 : Int32).toInt = 16 by decide); have e5 := lv_neT h19_8 (show (17 : Int32).toInt = 17 by decide); have e6 := lv_neT h19_9 (show (18 : Int32).toInt = 18 by decide); have e7 := lv_neT h19_10 (show (7 : Int32).toInt = 7 by decide); have e8 := lv_neT h19_11 (show (8 : Int32).toInt = 8 by decide); have e9 := lv_neT h19_12 (show (9 : Int32).toInt = 9 by decide); have e10 := lv_neT h19_13 (show (10 : Int32).toInt = 10 by decide); have e11 := lv_neT h19_14 (show (11 : Int32).toInt = 11 by decide); have e12 := lv_neT h19_15 (show (12 : Int32).toInt = 12 by decide); omega) (by decide) ?_
  refine lv_aload_n hx hb d_MA_goThrough_187 rfl (lv_at hl 1 rfl) ?_
  refine lv_aload_n hx hb d_MA_goThrough_188 rfl (lv_at hl 2 rfl) ?_
  refine k_get (v := .ref cd_ops) S in_CO hK hP 4 rfl rfl 0 (by decide) ql_MA_61 rfl d_MA_goThrough_189 ?_
  refine lv_aload_n hx hb d_MA_goThrough_192 rfl (lv_at hl 1 rfl) ?_
  refine k_get (v := .int ya) S in_MA hK hP 0 rfl rfl 4 (by decide) ql_MA_29 rfl d_MA_goThrough_193 ?_
  refine k_top (y := nI (tn ya)) hat.1 ?_
  refine k_ld (k := tn ya) hx hb hK hP 5 0 rfl rfl rfl hat.2 (by omega) d_MA_goThrough_196 ?_
  refine lv_iload_n hx hb d_MA_goThrough_197 rfl (lv_at hl 0 rfl) ?_
  refine k_gov (ws' := [(ma, .inr (6, [.ref ma_lo, .ref ma_ke, .ref ma_sk, .int (nI ((f_MA_work tq em lo ke sk (f (tn ya)) (g (tn ya))).2.2.2.1)), .int ya, .int y_wasUsed, .int y_taken, .int (nI ((f_MA_work tq em lo ke sk (f (tn ya)) (g (tn ya))).2.2.2.2)), .int y_ending, .int y_outcome])), (ma_lo, .inl (cI, 9, .inl ((f_MA_work tq em lo ke sk (f (tn ya)) (g (tn ya))).1))), (ma_ke, .inl (cI, 40, .inl ((f_MA_work tq em lo ke sk (f (tn ya)) (g (tn ya))).2.1))), (ma_sk, .inl (cI, 7, .inl ((f_MA_work tq em lo ke sk (f (tn ya)) (g (tn ya))).2.2.1))), (cd, .inr (1, [.ref cd_ops, .ref cd_opd, .ref cd_fr, .ref cd_to, .ref cd_tg, .int (nI n), .int (nI hn)])), (cd_ops, .inl (cI, zi, .inl f)), (cd_opd, .inl (cI, zi, .inl g)), (cd_fr, .inl (cI, z, .inl fr)), (cd_to, .inl (cI, z, .inl to)), (cd_tg, .inl (cI, z, .inl tg)), (bl, .inr (4, [.ref bl_le, .ref bl_he, .ref bl_st, .ref bl_fi, .ref bl_be, .ref bl_by, .ref bl_sa, .ref bl_mk, .int (nI bc)])), (bl_st, .inl (cI, 32, .inl st)), (bl_fi, .inl (cI, 32, .inl fi))]) (wr := [(cd, .inr (1, [.ref cd_ops, .ref cd_opd, .ref cd_fr, .ref cd_to, .ref cd_tg, .int (nI n), .int (nI hn)])), (cd_ops, .inl (cI, zi, .inl f)), (cd_opd, .inl (cI, zi, .inl g)), (cd_fr, .inl (cI, z, .inl fr)), (cd_to, .inl (cI, z, .inl to)), (cd_tg, .inl (cI, z, .inl tg)), (bl, .inr (4, [.ref bl_le, .ref bl_he, .ref bl_st, .ref bl_fi, .ref bl_be, .ref bl_by, .ref bl_sa, .ref bl_mk, .int (nI bc)])), (bl_st, .inl (cI, 32, .inl st)), (bl_fi, .inl (cI, 32, .inl fi))]) (k_runV (q0 := 0) (As := [.int (f (tn ya)), .int (g (tn ya))]) (rest := []) (n := 2) S (c_MA_work l D cI cZ ma ma_lo ma_ke ma_sk ya y_wasUsed y_taken y_ending y_outcome tq em lo ke sk (f (tn ya)) (g (tn ya)) hq7 hem q0 q1 q2 q9 q11 q12 (fun a0 a1 a2 a3 a4 a5 => qd a0 a1 a2 a3 a4 a5 (by assumption) (by assumption) (by assumption) (by assumption) (by assumption) (by assumption) (by assumption))) E0_b E0_t ql_MA_86 qi_MA_work qs_MA_work qn_MA qc_MA_work (by decide +kernel) rfl ⟨rfl, rfl⟩ ⟨Nat.le_of_ble_eq_true rfl, Nat.le_of_ble_eq_true rfl⟩ hK hP hD [0, 1, 2, 3] rfl (by decide) rfl rfl hl.1 rfl (Nat.le_of_ble_eq_true rfl) d_MA_goThrough_198 ⟨Nat.zero_le _, Nat.zero_le _⟩) hP hD hS hA [0, 1, 2, 3] [4, 5, 6, 7, 8, 9, 10, 11, 12] [9, 10, 11, 12, 0, 1, 2, 3, 4, 5, 6, 7, 8] rfl rfl (by decide) (by decide) rfl (by decide) (fun H locs hP hD hS => ?_)
  refine lv_aload_n hx hb d_MA_goThrough_201 rfl (lv_at hl 1 rfl) ?_
  refine lv_dup hx hb d_MA_goThrough_202 rfl ?_
  refine k_get (v := .int ya) S in_MA hK hP 0 rfl rfl 4 (by decide) ql_MA_29 rfl d_MA_goThrough_203 ?_
  refine lv_iconst (v := 1) hx hb d_MA_goThrough_206 (by decide) ?_
  refine lv_iadd hx hb d_MA_goThrough_207 ?_
  refine k_put (v := .int (ya + 1)) (ws' := [(ma, .inr (6, [.ref ma_lo, .ref ma_ke, .ref ma_sk, .int (nI ((f_MA_work tq em lo ke sk (f (tn ya)) (g (tn ya))).2.2.2.1)), .int (ya + 1), .int y_wasUsed, .int y_taken, .int (nI ((f_MA_work tq em lo ke sk (f (tn ya)) (g (tn ya))).2.2.2.2)), .int y_ending, .int y_outcome])), (ma_lo, .inl (cI, 9, .inl ((f_MA_work tq em lo ke sk (f (tn ya)) (g (tn ya))).1))), (ma_ke, .inl (cI, 40, .inl ((f_MA_work tq em lo ke sk (f (tn ya)) (g (tn ya))).2.1))), (ma_sk, .inl (cI, 7, .inl ((f_MA_work tq em lo ke sk (f (tn ya)) (g (tn ya))).2.2.1))), (cd, .inr (1, [.ref cd_ops, .ref cd_opd, .ref cd_fr, .ref cd_to, .ref cd_tg, .int (nI n), .int (nI hn)])), (cd_ops, .inl (cI, zi, .inl f)), (cd_opd, .inl (cI, zi, .inl g)), (cd_fr, .inl (cI, z, .inl fr)), (cd_to, .inl (cI, z, .inl to)), (cd_tg, .inl (cI, z, .inl tg)), (bl, .inr (4, [.ref bl_le, .ref bl_he, .ref bl_st, .ref bl_fi, .ref bl_be, .ref bl_by, .ref bl_sa, .ref bl_mk, .int (nI bc)])), (bl_st, .inl (cI, 32, .inl st)), (bl_fi, .inl (cI, 32, .inl fi))]) S in_MA ty_MA nm_MA hK hP hD hS 0 rfl rfl 4 (by decide) ql_MA_29 rfl rfl rfl rfl (Nat.le_of_ble_eq_true rfl) rfl d_MA_goThrough_208 (fun H locs hP hD hS => ?_)
  exact k_vret hx hb hr hlocks hK hP hD hS (by rw [f_MA_goThrough, if_neg h19_1, if_neg h19_2, if_neg h19_3, if_neg h19_5, if_neg h19_7, if_neg h19_8, if_neg h19_9, if_neg h19_10, if_neg h19_11, if_neg h19_12, if_neg h19_13, if_neg h19_14, if_neg h19_15]) d_MA_goThrough_211
