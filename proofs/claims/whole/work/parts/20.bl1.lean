theorem d_WE_writeLead_0 : decode b_WE_writeLead 0 = .ok (.aload_n 0, 1) := by decide +kernel
theorem d_WE_writeLead_1 : decode b_WE_writeLead 1 = .ok (.getfield 23, 3) := by decide +kernel
theorem d_WE_writeLead_4 : decode b_WE_writeLead 4 = .ok (.getfield 94, 3) := by decide +kernel
theorem d_WE_writeLead_7 : decode b_WE_writeLead 7 = .ok (.iload_n 2, 1) := by decide +kernel
theorem d_WE_writeLead_8 : decode b_WE_writeLead 8 = .ok (.iaload, 1) := by decide +kernel
theorem d_WE_writeLead_9 : decode b_WE_writeLead 9 = .ok (.iconst 1, 1) := by decide +kernel
theorem d_WE_writeLead_10 : decode b_WE_writeLead 10 = .ok (.isub, 1) := by decide +kernel
theorem d_WE_writeLead_11 : decode b_WE_writeLead 11 = .ok (.istore_n 3, 1) := by decide +kernel
theorem d_WE_writeLead_12 : decode b_WE_writeLead 12 = .ok (.iload_n 3, 1) := by decide +kernel
theorem d_WE_writeLead_13 : decode b_WE_writeLead 13 = .ok (.ifCond .lt 17, 3) := by decide +kernel
theorem d_WE_writeLead_16 : decode b_WE_writeLead 16 = .ok (.aload_n 0, 1) := by decide +kernel
theorem d_WE_writeLead_17 : decode b_WE_writeLead 17 = .ok (.iconst 2, 1) := by decide +kernel
theorem d_WE_writeLead_18 : decode b_WE_writeLead 18 = .ok (.iconst 5, 1) := by decide +kernel
theorem d_WE_writeLead_19 : decode b_WE_writeLead 19 = .ok (.iload_n 3, 1) := by decide +kernel
theorem d_WE_writeLead_20 : decode b_WE_writeLead 20 = .ok (.iadd, 1) := by decide +kernel
theorem d_WE_writeLead_21 : decode b_WE_writeLead 21 = .ok (.invokevirtual 89, 3) := by decide +kernel
theorem d_WE_writeLead_24 : decode b_WE_writeLead 24 = .ok (.iinc 3 (-1), 3) := by decide +kernel
theorem d_WE_writeLead_27 : decode b_WE_writeLead 27 = .ok (.goto (-15), 3) := by decide +kernel
theorem d_WE_writeLead_30 : decode b_WE_writeLead 30 = .ok (.aload_n 0, 1) := by decide +kernel
theorem d_WE_writeLead_31 : decode b_WE_writeLead 31 = .ok (.iconst 1, 1) := by decide +kernel
theorem d_WE_writeLead_32 : decode b_WE_writeLead 32 = .ok (.iconst 4, 1) := by decide +kernel
theorem d_WE_writeLead_33 : decode b_WE_writeLead 33 = .ok (.invokevirtual 89, 3) := by decide +kernel
theorem d_WE_writeLead_36 : decode b_WE_writeLead 36 = .ok (.aload_n 0, 1) := by decide +kernel
theorem d_WE_writeLead_37 : decode b_WE_writeLead 37 = .ok (.iconst 0, 1) := by decide +kernel
theorem d_WE_writeLead_38 : decode b_WE_writeLead 38 = .ok (.aload_n 0, 1) := by decide +kernel
theorem d_WE_writeLead_39 : decode b_WE_writeLead 39 = .ok (.getfield 23, 3) := by decide +kernel
theorem d_WE_writeLead_42 : decode b_WE_writeLead 42 = .ok (.getfield 86, 3) := by decide +kernel
theorem d_WE_writeLead_45 : decode b_WE_writeLead 45 = .ok (.iload_n 1, 1) := by decide +kernel
theorem d_WE_writeLead_46 : decode b_WE_writeLead 46 = .ok (.iaload, 1) := by decide +kernel
theorem d_WE_writeLead_47 : decode b_WE_writeLead 47 = .ok (.aload_n 0, 1) := by decide +kernel
theorem d_WE_writeLead_48 : decode b_WE_writeLead 48 = .ok (.getfield 23, 3) := by decide +kernel
theorem d_WE_writeLead_51 : decode b_WE_writeLead 51 = .ok (.getfield 86, 3) := by decide +kernel
theorem d_WE_writeLead_54 : decode b_WE_writeLead 54 = .ok (.iload_n 2, 1) := by decide +kernel
theorem d_WE_writeLead_55 : decode b_WE_writeLead 55 = .ok (.iaload, 1) := by decide +kernel
theorem d_WE_writeLead_56 : decode b_WE_writeLead 56 = .ok (.ixor, 1) := by decide +kernel
theorem d_WE_writeLead_57 : decode b_WE_writeLead 57 = .ok (.invokevirtual 89, 3) := by decide +kernel
theorem d_WE_writeLead_60 : decode b_WE_writeLead 60 = .ok (.aload_n 0, 1) := by decide +kernel
theorem d_WE_writeLead_61 : decode b_WE_writeLead 61 = .ok (.bipush 8, 2) := by decide +kernel
theorem d_WE_writeLead_63 : decode b_WE_writeLead 63 = .ok (.invokevirtual 92, 3) := by decide +kernel
theorem d_WE_writeLead_66 : decode b_WE_writeLead 66 = .ok (.aload_n 0, 1) := by decide +kernel
theorem d_WE_writeLead_67 : decode b_WE_writeLead 67 = .ok (.iconst 2, 1) := by decide +kernel
theorem d_WE_writeLead_68 : decode b_WE_writeLead 68 = .ok (.iconst 4, 1) := by decide +kernel
theorem d_WE_writeLead_69 : decode b_WE_writeLead 69 = .ok (.invokevirtual 89, 3) := by decide +kernel
theorem d_WE_writeLead_72 : decode b_WE_writeLead 72 = .ok (.aload_n 0, 1) := by decide +kernel
theorem d_WE_writeLead_73 : decode b_WE_writeLead 73 = .ok (.bipush 13, 2) := by decide +kernel
theorem d_WE_writeLead_75 : decode b_WE_writeLead 75 = .ok (.iconst 2, 1) := by decide +kernel
theorem d_WE_writeLead_76 : decode b_WE_writeLead 76 = .ok (.invokevirtual 89, 3) := by decide +kernel
theorem d_WE_writeLead_79 : decode b_WE_writeLead 79 = .ok (.return_, 1) := by decide +kernel
def lp_WE_le  : Nat → Int32 → (Nat → Int32) → (Nat → Int32) → Nat → (Nat → Int32) × (Nat → Int32) × Nat
  | 0, y, fo1, fa1, fq1 => (fo1, fa1, fq1)
  | kf + 1, y, fo1, fa1, fq1 => (lp_WE_le kf (y + (-1)) (upd fo1 fq1 2) (upd fa1 fq1 (nI (5 + kf))) (fq1 + 1))
def f_WE_writeLead (fq : Nat) (fo : Nat → Int32) (fa : Nat → Int32) (b : Nat) (t : Nat) (he : Nat → Int32) (st : Nat → Int32) : Nat × (Nat → Int32) × (Nat → Int32) := ((((((fq + tn (he t)) + 1) + 1) + 1) + 1) + 1, upd (upd (upd (upd (upd ((lp_WE_le (tn (he t)) ((nI (tn (he t))) - 1) fo fa fq).1) (fq + tn (he t)) 1) ((fq + tn (he t)) + 1) 0) (((fq + tn (he t)) + 1) + 1) 8) ((((fq + tn (he t)) + 1) + 1) + 1) 2) (((((fq + tn (he t)) + 1) + 1) + 1) + 1) 13, upd (upd (upd (upd (upd ((lp_WE_le (tn (he t)) ((nI (tn (he t))) - 1) fo fa fq).2.1) (fq + tn (he t)) 4) ((fq + tn (he t)) + 1) ((st b) ^^^ (st t))) (((fq + tn (he t)) + 1) + 1) 0) ((((fq + tn (he t)) + 1) + 1) + 1) 4) (((((fq + tn (he t)) + 1) + 1) + 1) + 1) 2)
theorem wle_cnt : ∀ (kf : Nat) (y : Int32) (fo fa : Nat → Int32) (fq : Nat), (lp_WE_le kf y fo fa fq).2.2 = fq + kf := by
  intro kf
  induction kf with
  | zero => intro h fo fa fq; rfl
  | succ kf ih => intro h fo fa fq; rw [lp_WE_le, ih]; omega
set_option maxHeartbeats 1000000 in
set_option maxRecDepth 100000 in
theorem c_WE_writeLead (l : Launch) (D : va_G) (cI cZ : ClassId) (we bl dq : Nat) (fc fc_ops fc_opd fc_fr fc_to fc_tg fq fhn : Nat) (fo fa : Nat → Int32) (bl_le bl_he bl_st bl_fi bl_be bl_by bl_sa bl_mk bc : Nat) (b t : Nat) (he st : Nat → Int32) (hb : b < 32) (ht : t < 32) (hhe : Nn he t 5) (hfq : fq + 9 ≤ 1328) : MG l y_WE_writeLead w_WE_writeLead (rmK 2 44) D classes (tyz cI cZ) E0 [.ref we, .int (nI b), .int (nI t)] [(we, .inr (5, [.ref fc, .ref bl, .ref dq])), (fc, .inr (1, [.ref fc_ops, .ref fc_opd, .ref fc_fr, .ref fc_to, .ref fc_tg, .int (nI fq), .int (nI fhn)])), (fc_ops, .inl (cI, 1328, .inl fo)), (fc_opd, .inl (cI, 1328, .inl fa)), (bl, .inr (4, [.ref bl_le, .ref bl_he, .ref bl_st, .ref bl_fi, .ref bl_be, .ref bl_by, .ref bl_sa, .ref bl_mk, .int (nI bc)])), (bl_he, .inl (cI, 32, .inl he)), (bl_st, .inl (cI, 32, .inl st))] (RV D classes (tyz cI cZ) [(we, .inr (5, [.ref fc, .ref bl, .ref dq])), (fc, .inr (1, [.ref fc_ops, .ref fc_opd, .ref fc_fr, .ref fc_to, .ref fc_tg, .int (nI ((f_WE_writeLead fq fo fa b t he st).1)), .int (nI fhn)])), (fc_ops, .inl (cI, 1328, .inl ((f_WE_writeLead fq fo fa b t he st).2.1))), (fc_opd, .inl (cI, 1328, .inl ((f_WE_writeLead fq fo fa b t he st).2.2))), (bl, .inr (4, [.ref bl_le, .ref bl_he, .ref bl_st, .ref bl_fi, .ref bl_be, .ref bl_by, .ref bl_sa, .ref bl_mk, .int (nI bc)])), (bl_he, .inl (cI, 32, .inl he)), (bl_st, .inl (cI, 32, .inl st))]) := by
  refine MG.of (cc := b_WE_writeLead) (maxL := 4) (ret := none) (own := "FlowFlattener$Weaver") rfl (by decide) rfl (Nat.le_of_ble_eq_true rfl) ?_
  intro p e s m below meth c A ls S hr hlocks hA hP hK hD hS hE hl
  have hx := S.1
  have hb := S.2.1
  have hl : lv_has ls 4 [(0, .ref we), (1, .int (nI b)), (2, .int (nI t))] := hl
  refine lv_aload_n hx hb d_WE_writeLead_0 rfl (lv_at hl 0 rfl) ?_
  refine k_get (v := .ref bl) S in_WE hK hP 0 rfl rfl 1 (by decide) ql_WE_23 rfl d_WE_writeLead_1 ?_
  refine k_get (v := .ref bl_he) S in_BL hK hP 4 rfl rfl 1 (by decide) ql_WE_94 rfl d_WE_writeLead_4 ?_
  refine lv_iload_n hx hb d_WE_writeLead_7 rfl (lv_at hl 2 rfl) ?_
  refine k_ld (k := t) hx hb hK hP 5 0 rfl rfl rfl (by omega) (by decide) d_WE_writeLead_8 ?_
  refine k_top (y := nI (tn (he t))) hhe.1 ?_
  refine lv_iconst (v := 1) hx hb d_WE_writeLead_9 (by decide) ?_
  refine lv_isub hx hb d_WE_writeLead_10 ?_
  refine lv_istore_n (lv' := [(3, .int ((nI (tn (he t))) - 1)), (0, .ref we), (1, .int (nI b)), (2, .int (nI t))]) hx hb d_WE_writeLead_11 rfl hl (by decide) rfl (fun ls hl => ?_)
  have LP12 : ∀ (kf : Nat) (y : Int32) (fo1 : Nat → Int32) (fa1 : Nat → Int32) (fq1 : Nat), (y = nI kf - 1) → (fq1 + kf + 5 ≤ 1328) → (kf < 5) → ∀ (ls : Array Slot) (H : Heap) (locs : List Loc), lv_has ls 4 [(0, .ref we), (1, .int (nI b)), (2, .int (nI t)), (3, .int y)] → va_P D classes [(we, .inr (5, [.ref fc, .ref bl, .ref dq])), (fc, .inr (1, [.ref fc_ops, .ref fc_opd, .ref fc_fr, .ref fc_to, .ref fc_tg, .int (nI fq1), .int (nI fhn)])), (fc_ops, .inl (cI, 1328, .inl fo1)), (fc_opd, .inl (cI, 1328, .inl fa1)), (bl, .inr (4, [.ref bl_le, .ref bl_he, .ref bl_st, .ref bl_fi, .ref bl_be, .ref bl_by, .ref bl_sa, .ref bl_mk, .int (nI bc)])), (bl_he, .inl (cI, 32, .inl he)), (bl_st, .inl (cI, 32, .inl st))] H → va_D A [(we, .inr (5, [.ref fc, .ref bl, .ref dq])), (fc, .inr (1, [.ref fc_ops, .ref fc_opd, .ref fc_fr, .ref fc_to, .ref fc_tg, .int (nI fq1), .int (nI fhn)])), (fc_ops, .inl (cI, 1328, .inl fo1)), (fc_opd, .inl (cI, 1328, .inl fa1)), (bl, .inr (4, [.ref bl_le, .ref bl_he, .ref bl_st, .ref bl_fi, .ref bl_be, .ref bl_by, .ref bl_sa, .ref bl_mk, .int (nI bc)])), (bl_he, .inl (cI, 32, .inl he)), (bl_st, .inl (cI, 32, .inl st))] → va_S A s.heap H locs → (∀ (ls : Array Slot) (H : Heap) (locs : List Loc), lv_has ls 4 [(0, .ref we), (1, .int (nI b)), (2, .int (nI t))] → va_P D classes [(we, .inr (5, [.ref fc, .ref bl, .ref dq])), (fc, .inr (1, [.ref fc_ops, .ref fc_opd, .ref fc_fr, .ref fc_to, .ref fc_tg, .int (nI ((lp_WE_le kf y fo1 fa1 fq1).2.2)), .int (nI fhn)])), (fc_ops, .inl (cI, 1328, .inl ((lp_WE_le kf y fo1 fa1 fq1).1))), (fc_opd, .inl (cI, 1328, .inl ((lp_WE_le kf y fo1 fa1 fq1).2.1))), (bl, .inr (4, [.ref bl_le, .ref bl_he, .ref bl_st, .ref bl_fi, .ref bl_be, .ref bl_by, .ref bl_sa, .ref bl_mk, .int (nI bc)])), (bl_he, .inl (cI, 32, .inl he)), (bl_st, .inl (cI, 32, .inl st))] H → va_D A [(we, .inr (5, [.ref fc, .ref bl, .ref dq])), (fc, .inr (1, [.ref fc_ops, .ref fc_opd, .ref fc_fr, .ref fc_to, .ref fc_tg, .int (nI ((lp_WE_le kf y fo1 fa1 fq1).2.2)), .int (nI fhn)])), (fc_ops, .inl (cI, 1328, .inl ((lp_WE_le kf y fo1 fa1 fq1).1))), (fc_opd, .inl (cI, 1328, .inl ((lp_WE_le kf y fo1 fa1 fq1).2.1))), (bl, .inr (4, [.ref bl_le, .ref bl_he, .ref bl_st, .ref bl_fi, .ref bl_be, .ref bl_by, .ref bl_sa, .ref bl_mk, .int (nI bc)])), (bl_he, .inl (cI, 32, .inl he)), (bl_st, .inl (cI, 32, .inl st))] → va_S A s.heap H locs → W p l e (rmK 2 44) s m [.ref we, .int (nI b), .int (nI t)].toArray below meth c H locs 0 0 (MQ below (RV D classes (tyz cI cZ) [(we, .inr (5, [.ref fc, .ref bl, .ref dq])), (fc, .inr (1, [.ref fc_ops, .ref fc_opd, .ref fc_fr, .ref fc_to, .ref fc_tg, .int (nI ((f_WE_writeLead fq fo fa b t he st).1)), .int (nI fhn)])), (fc_ops, .inl (cI, 1328, .inl ((f_WE_writeLead fq fo fa b t he st).2.1))), (fc_opd, .inl (cI, 1328, .inl ((f_WE_writeLead fq fo fa b t he st).2.2))), (bl, .inr (4, [.ref bl_le, .ref bl_he, .ref bl_st, .ref bl_fi, .ref bl_be, .ref bl_by, .ref bl_sa, .ref bl_mk, .int (nI bc)])), (bl_he, .inl (cI, 32, .inl he)), (bl_st, .inl (cI, 32, .inl st))] A) [.ref we, .int (nI b), .int (nI t)].toArray s 0 0 A) (F0 m 30 ls [])) → W p l e (rmK 2 44) s m [.ref we, .int (nI b), .int (nI t)].toArray below meth c H locs 0 0 (MQ below (RV D classes (tyz cI cZ) [(we, .inr (5, [.ref fc, .ref bl, .ref dq])), (fc, .inr (1, [.ref fc_ops, .ref fc_opd, .ref fc_fr, .ref fc_to, .ref fc_tg, .int (nI ((f_WE_writeLead fq fo fa b t he st).1)), .int (nI fhn)])), (fc_ops, .inl (cI, 1328, .inl ((f_WE_writeLead fq fo fa b t he st).2.1))), (fc_opd, .inl (cI, 1328, .inl ((f_WE_writeLead fq fo fa b t he st).2.2))), (bl, .inr (4, [.ref bl_le, .ref bl_he, .ref bl_st, .ref bl_fi, .ref bl_be, .ref bl_by, .ref bl_sa, .ref bl_mk, .int (nI bc)])), (bl_he, .inl (cI, 32, .inl he)), (bl_st, .inl (cI, 32, .inl st))] A) [.ref we, .int (nI b), .int (nI t)].toArray s 0 0 A) (F0 m 12 ls []) := by
    intro kf
    induction kf with
    | zero =>
      intro y fo1 fa1 fq1 hy hfb h5 ls H locs hl hP hD hS kk
      refine lv_iload_n hx hb d_WE_writeLead_12 rfl (lv_at hl 3 rfl) ?_
      refine lv_if_lt (tgt := 30) hx hb d_WE_writeLead_13 (by decide) (fun h13_1 => ?_) (fun h13_1 => absurd (by rw [hy]; decide) h13_1)
      have e9 : lp_WE_le 0 y fo1 fa1 fq1 = (fo1, fa1, fq1) := by rw [lp_WE_le]
      rw [e9] at kk
      exact kk _ _ _ (lv_sub hl [0, 1, 2] rfl) hP hD hS
    | succ kf ih =>
      intro y fo1 fa1 fq1 hy hfb h5 ls H locs hl hP hD hS kk
      refine lv_iload_n hx hb d_WE_writeLead_12 rfl (lv_at hl 3 rfl) ?_
      refine lv_if_lt (tgt := 30) hx hb d_WE_writeLead_13 (by decide) (fun h13_2 => absurd h13_2 (by rw [hy, nI_pred]; exact nI_pos (by omega))) (fun h13_2 => ?_)
      refine lv_aload_n hx hb d_WE_writeLead_16 rfl (lv_at hl 0 rfl) ?_
      refine lv_iconst (v := 2) hx hb d_WE_writeLead_17 (by decide) ?_
      refine lv_iconst (v := 5) hx hb d_WE_writeLead_18 (by decide) ?_
      refine lv_iload_n hx hb d_WE_writeLead_19 rfl (lv_at hl 3 rfl) ?_
      refine k_top (y := nI kf) (by rw [hy, nI_pred]) ?_
      refine lv_iadd hx hb d_WE_writeLead_20 ?_
      refine k_top (y := nI (5 + kf)) (nc_add (by decide) rfl) ?_
      refine k_gov (ws' := [(we, .inr (5, [.ref fc, .ref bl, .ref dq])), (fc, .inr (1, [.ref fc_ops, .ref fc_opd, .ref fc_fr, .ref fc_to, .ref fc_tg, .int (nI (fq1 + 1)), .int (nI fhn)])), (fc_ops, .inl (cI, 1328, .inl (upd fo1 fq1 2))), (fc_opd, .inl (cI, 1328, .inl (upd fa1 fq1 (nI (5 + kf))))), (bl, .inr (4, [.ref bl_le, .ref bl_he, .ref bl_st, .ref bl_fi, .ref bl_be, .ref bl_by, .ref bl_sa, .ref bl_mk, .int (nI bc)])), (bl_he, .inl (cI, 32, .inl he)), (bl_st, .inl (cI, 32, .inl st))]) (wr := [(bl, .inr (4, [.ref bl_le, .ref bl_he, .ref bl_st, .ref bl_fi, .ref bl_be, .ref bl_by, .ref bl_sa, .ref bl_mk, .int (nI bc)])), (bl_he, .inl (cI, 32, .inl he)), (bl_st, .inl (cI, 32, .inl st))]) (k_runV (q0 := 0) (As := [.int 2, .int (nI (5 + kf))]) (rest := []) (n := 2) S (c_WE_write2 l D cI cZ we bl dq fc fc_ops fc_opd fc_fr fc_to fc_tg fq1 fhn fo1 fa1 2 (nI (5 + kf)) (by omega)) E0_b E0_t ql_WE_89 qi_WE_write2 qs_WE_write2 qn_WE qc_WE_write2 (by decide +kernel) rfl ⟨rfl, rfl⟩ ⟨Nat.le_of_ble_eq_true rfl, Nat.le_of_ble_eq_true rfl⟩ hK hP hD [0, 1, 2, 3] rfl (by decide) rfl rfl hl.1 rfl (Nat.le_of_ble_eq_true rfl) d_WE_writeLead_21 ⟨Nat.zero_le _, Nat.zero_le _⟩) hP hD hS hA [0, 1, 2, 3] [4, 5, 6] [3, 4, 5, 6, 0, 1, 2] rfl rfl (by decide) (by decide) rfl (by decide) (fun H locs hP hD hS => ?_)
      refine lv_iinc (k := 3) (v := y + (-1)) (lv' := [(3, .int (y + (-1))), (0, .ref we), (1, .int (nI b)), (2, .int (nI t))]) hx hb d_WE_writeLead_24 hl rfl rfl (by decide) rfl (fun ls hl => ?_)
      refine lv_goto (tgt := 12) hx hb d_WE_writeLead_27 (by decide) ?_
      have e9 : lp_WE_le (kf + 1) y fo1 fa1 fq1 = lp_WE_le kf (y + (-1)) (upd fo1 fq1 2) (upd fa1 fq1 (nI (5 + kf))) (fq1 + 1) := by rw [lp_WE_le]
      rw [e9] at kk
      exact ih (y + (-1)) (upd fo1 fq1 2) (upd fa1 fq1 (nI (5 + kf))) (fq1 + 1) (by rw [hy, nI_pred, Int32.sub_eq_add_neg]) (by omega) (by omega) _ _ _ (lv_sub hl [1, 2, 3, 0] rfl) hP hD hS kk
  refine LP12 (tn (he t)) ((nI (tn (he t))) - 1) fo fa fq rfl (by have := hhe.2; omega) hhe.2 _ _ _ (lv_sub hl [1, 2, 3, 0] rfl) hP hD hS (fun ls H locs hl hP hD hS => ?_)
  rw [wle_cnt] at hP hD
  have h25 := hhe.2
  refine lv_aload_n hx hb d_WE_writeLead_30 rfl (lv_at hl 0 rfl) ?_
  refine lv_iconst (v := 1) hx hb d_WE_writeLead_31 (by decide) ?_
  refine lv_iconst (v := 4) hx hb d_WE_writeLead_32 (by decide) ?_
  refine k_gov (ws' := [(we, .inr (5, [.ref fc, .ref bl, .ref dq])), (fc, .inr (1, [.ref fc_ops, .ref fc_opd, .ref fc_fr, .ref fc_to, .ref fc_tg, .int (nI ((fq + tn (he t)) + 1)), .int (nI fhn)])), (fc_ops, .inl (cI, 1328, .inl (upd ((lp_WE_le (tn (he t)) ((nI (tn (he t))) - 1) fo fa fq).1) (fq + tn (he t)) 1))), (fc_opd, .inl (cI, 1328, .inl (upd ((lp_WE_le (tn (he t)) ((nI (tn (he t))) - 1) fo fa fq).2.1) (fq + tn (he t)) 4))), (bl, .inr (4, [.ref bl_le, .ref bl_he, .ref bl_st, .ref bl_fi, .ref bl_be, .ref bl_by, .ref bl_sa, .ref bl_mk, .int (nI bc)])), (bl_he, .inl (cI, 32, .inl he)), (bl_st, .inl (cI, 32, .inl st))]) (wr := [(bl, .inr (4, [.ref bl_le, .ref bl_he, .ref bl_st, .ref bl_fi, .ref bl_be, .ref bl_by, .ref bl_sa, .ref bl_mk, .int (nI bc)])), (bl_he, .inl (cI, 32, .inl he)), (bl_st, .inl (cI, 32, .inl st))]) (k_runV (q0 := 0) (As := [.int 1, .int 4]) (rest := []) (n := 2) S (c_WE_write2 l D cI cZ we bl dq fc fc_ops fc_opd fc_fr fc_to fc_tg (fq + tn (he t)) fhn ((lp_WE_le (tn (he t)) ((nI (tn (he t))) - 1) fo fa fq).1) ((lp_WE_le (tn (he t)) ((nI (tn (he t))) - 1) fo fa fq).2.1) 1 4 (by omega)) E0_b E0_t ql_WE_89 qi_WE_write2 qs_WE_write2 qn_WE qc_WE_write2 (by decide +kernel) rfl ⟨rfl, rfl⟩ ⟨Nat.le_of_ble_eq_true rfl, Nat.le_of_ble_eq_true rfl⟩ hK hP hD [0, 1, 2, 3] rfl (by decide) rfl rfl hl.1 rfl (Nat.le_of_ble_eq_true rfl) d_WE_writeLead_33 ⟨Nat.zero_le _, Nat.zero_le _⟩) hP hD hS hA [0, 1, 2, 3] [4, 5, 6] [3, 4, 5, 6, 0, 1, 2] rfl rfl (by decide) (by decide) rfl (by decide) (fun H locs hP hD hS => ?_)
  refine lv_aload_n hx hb d_WE_writeLead_36 rfl (lv_at hl 0 rfl) ?_
  refine lv_iconst (v := 0) hx hb d_WE_writeLead_37 (by decide) ?_
  refine lv_aload_n hx hb d_WE_writeLead_38 rfl (lv_at hl 0 rfl) ?_
  refine k_get (v := .ref bl) S in_WE hK hP 0 rfl rfl 1 (by decide) ql_WE_23 rfl d_WE_writeLead_39 ?_
  refine k_get (v := .ref bl_st) S in_BL hK hP 4 rfl rfl 2 (by decide) ql_WE_86 rfl d_WE_writeLead_42 ?_
  refine lv_iload_n hx hb d_WE_writeLead_45 rfl (lv_at hl 1 rfl) ?_
  refine k_ld (k := b) hx hb hK hP 6 0 rfl rfl rfl (by omega) (by decide) d_WE_writeLead_46 ?_
  refine lv_aload_n hx hb d_WE_writeLead_47 rfl (lv_at hl 0 rfl) ?_
  refine k_get (v := .ref bl) S in_WE hK hP 0 rfl rfl 1 (by decide) ql_WE_23 rfl d_WE_writeLead_48 ?_
  refine k_get (v := .ref bl_st) S in_BL hK hP 4 rfl rfl 2 (by decide) ql_WE_86 rfl d_WE_writeLead_51 ?_
  refine lv_iload_n hx hb d_WE_writeLead_54 rfl (lv_at hl 2 rfl) ?_
  refine k_ld (k := t) hx hb hK hP 6 0 rfl rfl rfl (by omega) (by decide) d_WE_writeLead_55 ?_
  refine lv_ixor hx hb d_WE_writeLead_56 ?_
  refine k_gov (ws' := [(we, .inr (5, [.ref fc, .ref bl, .ref dq])), (fc, .inr (1, [.ref fc_ops, .ref fc_opd, .ref fc_fr, .ref fc_to, .ref fc_tg, .int (nI (((fq + tn (he t)) + 1) + 1)), .int (nI fhn)])), (fc_ops, .inl (cI, 1328, .inl (upd (upd ((lp_WE_le (tn (he t)) ((nI (tn (he t))) - 1) fo fa fq).1) (fq + tn (he t)) 1) ((fq + tn (he t)) + 1) 0))), (fc_opd, .inl (cI, 1328, .inl (upd (upd ((lp_WE_le (tn (he t)) ((nI (tn (he t))) - 1) fo fa fq).2.1) (fq + tn (he t)) 4) ((fq + tn (he t)) + 1) ((st b) ^^^ (st t))))), (bl, .inr (4, [.ref bl_le, .ref bl_he, .ref bl_st, .ref bl_fi, .ref bl_be, .ref bl_by, .ref bl_sa, .ref bl_mk, .int (nI bc)])), (bl_he, .inl (cI, 32, .inl he)), (bl_st, .inl (cI, 32, .inl st))]) (wr := [(bl, .inr (4, [.ref bl_le, .ref bl_he, .ref bl_st, .ref bl_fi, .ref bl_be, .ref bl_by, .ref bl_sa, .ref bl_mk, .int (nI bc)])), (bl_he, .inl (cI, 32, .inl he)), (bl_st, .inl (cI, 32, .inl st))]) (k_runV (q0 := 0) (As := [.int 0, .int ((st b) ^^^ (st t))]) (rest := []) (n := 2) S (c_WE_write2 l D cI cZ we bl dq fc fc_ops fc_opd fc_fr fc_to fc_tg ((fq + tn (he t)) + 1) fhn (upd ((lp_WE_le (tn (he t)) ((nI (tn (he t))) - 1) fo fa fq).1) (fq + tn (he t)) 1) (upd ((lp_WE_le (tn (he t)) ((nI (tn (he t))) - 1) fo fa fq).2.1) (fq + tn (he t)) 4) 0 ((st b) ^^^ (st t)) (by omega)) E0_b E0_t ql_WE_89 qi_WE_write2 qs_WE_write2 qn_WE qc_WE_write2 (by decide +kernel) rfl ⟨rfl, rfl⟩ ⟨Nat.le_of_ble_eq_true rfl, Nat.le_of_ble_eq_true rfl⟩ hK hP hD [0, 1, 2, 3] rfl (by decide) rfl rfl hl.1 rfl (Nat.le_of_ble_eq_true rfl) d_WE_writeLead_57 ⟨Nat.zero_le _, Nat.zero_le _⟩) hP hD hS hA [0, 1, 2, 3] [4, 5, 6] [3, 4, 5, 6, 0, 1, 2] rfl rfl (by decide) (by decide) rfl (by decide) (fun H locs hP hD hS => ?_)
  refine lv_aload_n hx hb d_WE_writeLead_60 rfl (lv_at hl 0 rfl) ?_
  refine lv_bipush (v := 8) hx hb d_WE_writeLead_61 (by decide) ?_
  refine k_gov (ws' := [(we, .inr (5, [.ref fc, .ref bl, .ref dq])), (fc, .inr (1, [.ref fc_ops, .ref fc_opd, .ref fc_fr, .ref fc_to, .ref fc_tg, .int (nI ((((fq + tn (he t)) + 1) + 1) + 1)), .int (nI fhn)])), (fc_ops, .inl (cI, 1328, .inl (upd (upd (upd ((lp_WE_le (tn (he t)) ((nI (tn (he t))) - 1) fo fa fq).1) (fq + tn (he t)) 1) ((fq + tn (he t)) + 1) 0) (((fq + tn (he t)) + 1) + 1) 8))), (fc_opd, .inl (cI, 1328, .inl (upd (upd (upd ((lp_WE_le (tn (he t)) ((nI (tn (he t))) - 1) fo fa fq).2.1) (fq + tn (he t)) 4) ((fq + tn (he t)) + 1) ((st b) ^^^ (st t))) (((fq + tn (he t)) + 1) + 1) 0))), (bl, .inr (4, [.ref bl_le, .ref bl_he, .ref bl_st, .ref bl_fi, .ref bl_be, .ref bl_by, .ref bl_sa, .ref bl_mk, .int (nI bc)])), (bl_he, .inl (cI, 32, .inl he)), (bl_st, .inl (cI, 32, .inl st))]) (wr := [(bl, .inr (4, [.ref bl_le, .ref bl_he, .ref bl_st, .ref bl_fi, .ref bl_be, .ref bl_by, .ref bl_sa, .ref bl_mk, .int (nI bc)])), (bl_he, .inl (cI, 32, .inl he)), (bl_st, .inl (cI, 32, .inl st))]) (k_runV (q0 := 0) (As := [.int 8]) (rest := []) (n := 1) S (c_WE_write1 l D cI cZ we bl dq fc fc_ops fc_opd fc_fr fc_to fc_tg (((fq + tn (he t)) + 1) + 1) fhn (upd (upd ((lp_WE_le (tn (he t)) ((nI (tn (he t))) - 1) fo fa fq).1) (fq + tn (he t)) 1) ((fq + tn (he t)) + 1) 0) (upd (upd ((lp_WE_le (tn (he t)) ((nI (tn (he t))) - 1) fo fa fq).2.1) (fq + tn (he t)) 4) ((fq + tn (he t)) + 1) ((st b) ^^^ (st t))) 8 (by omega)) E0_b E0_t ql_WE_92 qi_WE_write1 qs_WE_write1 qn_WE qc_WE_write1 (by decide +kernel) rfl ⟨rfl, rfl⟩ ⟨Nat.le_of_ble_eq_true rfl, Nat.le_of_ble_eq_true rfl⟩ hK hP hD [0, 1, 2, 3] rfl (by decide) rfl rfl hl.1 rfl (Nat.le_of_ble_eq_true rfl) d_WE_writeLead_63 ⟨Nat.zero_le _, Nat.zero_le _⟩) hP hD hS hA [0, 1, 2, 3] [4, 5, 6] [3, 4, 5, 6, 0, 1, 2] rfl rfl (by decide) (by decide) rfl (by decide) (fun H locs hP hD hS => ?_)
  refine lv_aload_n hx hb d_WE_writeLead_66 rfl (lv_at hl 0 rfl) ?_
  refine lv_iconst (v := 2) hx hb d_WE_writeLead_67 (by decide) ?_
  refine lv_iconst (v := 4) hx hb d_WE_writeLead_68 (by decide) ?_
  refine k_gov (ws' := [(we, .inr (5, [.ref fc, .ref bl, .ref dq])), (fc, .inr (1, [.ref fc_ops, .ref fc_opd, .ref fc_fr, .ref fc_to, .ref fc_tg, .int (nI (((((fq + tn (he t)) + 1) + 1) + 1) + 1)), .int (nI fhn)])), (fc_ops, .inl (cI, 1328, .inl (upd (upd (upd (upd ((lp_WE_le (tn (he t)) ((nI (tn (he t))) - 1) fo fa fq).1) (fq + tn (he t)) 1) ((fq + tn (he t)) + 1) 0) (((fq + tn (he t)) + 1) + 1) 8) ((((fq + tn (he t)) + 1) + 1) + 1) 2))), (fc_opd, .inl (cI, 1328, .inl (upd (upd (upd (upd ((lp_WE_le (tn (he t)) ((nI (tn (he t))) - 1) fo fa fq).2.1) (fq + tn (he t)) 4) ((fq + tn (he t)) + 1) ((st b) ^^^ (st t))) (((fq + tn (he t)) + 1) + 1) 0) ((((fq + tn (he t)) + 1) + 1) + 1) 4))), (bl, .inr (4, [.ref bl_le, .ref bl_he, .ref bl_st, .ref bl_fi, .ref bl_be, .ref bl_by, .ref bl_sa, .ref bl_mk, .int (nI bc)])), (bl_he, .inl (cI, 32, .inl he)), (bl_st, .inl (cI, 32, .inl st))]) (wr := [(bl, .inr (4, [.ref bl_le, .ref bl_he, .ref bl_st, .ref bl_fi, .ref bl_be, .ref bl_by, .ref bl_sa, .ref bl_mk, .int (nI bc)])), (bl_he, .inl (cI, 32, .inl he)), (bl_st, .inl (cI, 32, .inl st))]) (k_runV (q0 := 0) (As := [.int 2, .int 4]) (rest := []) (n := 2) S (c_WE_write2 l D cI cZ we bl dq fc fc_ops fc_opd fc_fr fc_to fc_tg ((((fq + tn (he t)) + 1) + 1) + 1) fhn (upd (upd (upd ((lp_WE_le (tn (he t)) ((nI (tn (he t))) - 1) fo fa fq).1) (fq + tn (he t)) 1) ((fq + tn (he t)) + 1) 0) (((fq + tn (he t)) + 1) + 1) 8) (upd (upd (upd ((lp_WE_le (tn (he t)) ((nI (tn (he t))) - 1) fo fa fq).2.1) (fq + tn (he t)) 4) ((fq + tn (he t)) + 1) ((st b) ^^^ (st t))) (((fq + tn (he t)) + 1) + 1) 0) 2 4 (by omega)) E0_b E0_t ql_WE_89 qi_WE_write2 qs_WE_write2 qn_WE qc_WE_write2 (by decide +kernel) rfl ⟨rfl, rfl⟩ ⟨Nat.le_of_ble_eq_true rfl, Nat.le_of_ble_eq_true rfl⟩ hK hP hD [0, 1, 2, 3] rfl (by decide) rfl rfl hl.1 rfl (Nat.le_of_ble_eq_true rfl) d_WE_writeLead_69 ⟨Nat.zero_le _, Nat.zero_le _⟩) hP hD hS hA [0, 1, 2, 3] [4, 5, 6] [3, 4, 5, 6, 0, 1, 2] rfl rfl (by decide) (by decide) rfl (by decide) (fun H locs hP hD hS => ?_)
  refine lv_aload_n hx hb d_WE_writeLead_72 rfl (lv_at hl 0 rfl) ?_
  refine lv_bipush (v := 13) hx hb d_WE_writeLead_73 (by decide) ?_
  refine lv_iconst (v := 2) hx hb d_WE_writeLead_75 (by decide) ?_
  refine k_gov (ws' := [(we, .inr (5, [.ref fc, .ref bl, .ref dq])), (fc, .inr (1, [.ref fc_ops, .ref fc_opd, .ref fc_fr, .ref fc_to, .ref fc_tg, .int (nI ((((((fq + tn (he t)) + 1) + 1) + 1) + 1) + 1)), .int (nI fhn)])), (fc_ops, .inl (cI, 1328, .inl (upd (upd (upd (upd (upd ((lp_WE_le (tn (he t)) ((nI (tn (he t))) - 1) fo fa fq).1) (fq + tn (he t)) 1) ((fq + tn (he t)) + 1) 0) (((fq + tn (he t)) + 1) + 1) 8) ((((fq + tn (he t)) + 1) + 1) + 1) 2) (((((fq + tn (he t)) + 1) + 1) + 1) + 1) 13))), (fc_opd, .inl (cI, 1328, .inl (upd (upd (upd (upd (upd ((lp_WE_le (tn (he t)) ((nI (tn (he t))) - 1) fo fa fq).2.1) (fq + tn (he t)) 4) ((fq + tn (he t)) + 1) ((st b) ^^^ (st t))) (((fq + tn (he t)) + 1) + 1) 0) ((((fq + tn (he t)) + 1) + 1) + 1) 4) (((((fq + tn (he t)) + 1) + 1) + 1) + 1) 2))), (bl, .inr (4, [.ref bl_le, .ref bl_he, .ref bl_st, .ref bl_fi, .ref bl_be, .ref bl_by, .ref bl_sa, .ref bl_mk, .int (nI bc)])), (bl_he, .inl (cI, 32, .inl he)), (bl_st, .inl (cI, 32, .inl st))]) (wr := [(bl, .inr (4, [.ref bl_le, .ref bl_he, .ref bl_st, .ref bl_fi, .ref bl_be, .ref bl_by, .ref bl_sa, .ref bl_mk, .int (nI bc)])), (bl_he, .inl (cI, 32, .inl he)), (bl_st, .inl (cI, 32, .inl st))]) (k_runV (q0 := 0) (As := [.int 13, .int 2]) (rest := []) (n := 2) S (c_WE_write2 l D cI cZ we bl dq fc fc_ops fc_opd fc_fr fc_to fc_tg (((((fq + tn (he t)) + 1) + 1) + 1) + 1) fhn (upd (upd (upd (upd ((lp_WE_le (tn (he t)) ((nI (tn (he t))) - 1) fo fa fq).1) (fq + tn (he t)) 1) ((fq + tn (he t)) + 1) 0) (((fq + tn (he t)) + 1) + 1) 8) ((((fq + tn (he t)) + 1) + 1) + 1) 2) (upd (upd (upd (upd ((lp_WE_le (tn (he t)) ((nI (tn (he t))) - 1) fo fa fq).2.1) (fq + tn (he t)) 4) ((fq + tn (he t)) + 1) ((st b) ^^^ (st t))) (((fq + tn (he t)) + 1) + 1) 0) ((((fq + tn (he t)) + 1) + 1) + 1) 4) 13 2 (by omega)) E0_b E0_t ql_WE_89 qi_WE_write2 qs_WE_write2 qn_WE qc_WE_write2 (by decide +kernel) rfl ⟨rfl, rfl⟩ ⟨Nat.le_of_ble_eq_true rfl, Nat.le_of_ble_eq_true rfl⟩ hK hP hD [0, 1, 2, 3] rfl (by decide) rfl rfl hl.1 rfl (Nat.le_of_ble_eq_true rfl) d_WE_writeLead_76 ⟨Nat.zero_le _, Nat.zero_le _⟩) hP hD hS hA [0, 1, 2, 3] [4, 5, 6] [3, 4, 5, 6, 0, 1, 2] rfl rfl (by decide) (by decide) rfl (by decide) (fun H locs hP hD hS => ?_)
  exact k_vret hx hb hr hlocks hK hP hD hS (by rw [f_WE_writeLead]) d_WE_writeLead_79

theorem d_BL_mark_0 : decode b_BL_mark 0 = .ok (.iconst 0, 1) := by decide +kernel
theorem d_BL_mark_1 : decode b_BL_mark 1 = .ok (.istore_n 3, 1) := by decide +kernel
theorem d_BL_mark_2 : decode b_BL_mark 2 = .ok (.iload_n 3, 1) := by decide +kernel
theorem d_BL_mark_3 : decode b_BL_mark 3 = .ok (.bipush 32, 2) := by decide +kernel
theorem d_BL_mark_5 : decode b_BL_mark 5 = .ok (.if_icmp .gt 24, 3) := by decide +kernel
theorem d_BL_mark_8 : decode b_BL_mark 8 = .ok (.aload_n 0, 1) := by decide +kernel
theorem d_BL_mark_9 : decode b_BL_mark 9 = .ok (.getfield 33, 3) := by decide +kernel
theorem d_BL_mark_12 : decode b_BL_mark 12 = .ok (.iload_n 3, 1) := by decide +kernel
theorem d_BL_mark_13 : decode b_BL_mark 13 = .ok (.iload_n 3, 1) := by decide +kernel
theorem d_BL_mark_14 : decode b_BL_mark 14 = .ok (.ifCond .ne 7, 3) := by decide +kernel
theorem d_BL_mark_17 : decode b_BL_mark 17 = .ok (.iconst 1, 1) := by decide +kernel
theorem d_BL_mark_18 : decode b_BL_mark 18 = .ok (.goto 4, 3) := by decide +kernel
theorem d_BL_mark_21 : decode b_BL_mark 21 = .ok (.iconst 0, 1) := by decide +kernel
theorem d_BL_mark_22 : decode b_BL_mark 22 = .ok (.bastore, 1) := by decide +kernel
theorem d_BL_mark_23 : decode b_BL_mark 23 = .ok (.iinc 3 1, 3) := by decide +kernel
theorem d_BL_mark_26 : decode b_BL_mark 26 = .ok (.goto (-24), 3) := by decide +kernel
theorem d_BL_mark_29 : decode b_BL_mark 29 = .ok (.iconst 0, 1) := by decide +kernel
theorem d_BL_mark_30 : decode b_BL_mark 30 = .ok (.istore_n 3, 1) := by decide +kernel
theorem d_BL_mark_31 : decode b_BL_mark 31 = .ok (.iload_n 3, 1) := by decide +kernel
theorem d_BL_mark_32 : decode b_BL_mark 32 = .ok (.aload_n 1, 1) := by decide +kernel
theorem d_BL_mark_33 : decode b_BL_mark 33 = .ok (.getfield 54, 3) := by decide +kernel
theorem d_BL_mark_36 : decode b_BL_mark 36 = .ok (.if_icmp .ge 70, 3) := by decide +kernel
theorem d_BL_mark_39 : decode b_BL_mark 39 = .ok (.aload_n 2, 1) := by decide +kernel
theorem d_BL_mark_40 : decode b_BL_mark 40 = .ok (.iload_n 3, 1) := by decide +kernel
theorem d_BL_mark_41 : decode b_BL_mark 41 = .ok (.invokevirtual 45, 3) := by decide +kernel
theorem d_BL_mark_44 : decode b_BL_mark 44 = .ok (.ifCond .eq 27, 3) := by decide +kernel
theorem d_BL_mark_47 : decode b_BL_mark 47 = .ok (.aload_n 1, 1) := by decide +kernel
theorem d_BL_mark_48 : decode b_BL_mark 48 = .ok (.getfield 57, 3) := by decide +kernel
theorem d_BL_mark_51 : decode b_BL_mark 51 = .ok (.iload_n 3, 1) := by decide +kernel
theorem d_BL_mark_52 : decode b_BL_mark 52 = .ok (.iaload, 1) := by decide +kernel
theorem d_BL_mark_53 : decode b_BL_mark 53 = .ok (.invokestatic 60, 3) := by decide +kernel
theorem d_BL_mark_56 : decode b_BL_mark 56 = .ok (.ifCond .eq 15, 3) := by decide +kernel
theorem d_BL_mark_59 : decode b_BL_mark 59 = .ok (.aload_n 0, 1) := by decide +kernel
theorem d_BL_mark_60 : decode b_BL_mark 60 = .ok (.getfield 33, 3) := by decide +kernel
theorem d_BL_mark_63 : decode b_BL_mark 63 = .ok (.aload_n 1, 1) := by decide +kernel
theorem d_BL_mark_64 : decode b_BL_mark 64 = .ok (.getfield 63, 3) := by decide +kernel
theorem d_BL_mark_67 : decode b_BL_mark 67 = .ok (.iload_n 3, 1) := by decide +kernel
theorem d_BL_mark_68 : decode b_BL_mark 68 = .ok (.iaload, 1) := by decide +kernel
theorem d_BL_mark_69 : decode b_BL_mark 69 = .ok (.iconst 1, 1) := by decide +kernel
theorem d_BL_mark_70 : decode b_BL_mark 70 = .ok (.bastore, 1) := by decide +kernel
theorem d_BL_mark_71 : decode b_BL_mark 71 = .ok (.aload_n 2, 1) := by decide +kernel
theorem d_BL_mark_72 : decode b_BL_mark 72 = .ok (.iload_n 3, 1) := by decide +kernel
theorem d_BL_mark_73 : decode b_BL_mark 73 = .ok (.invokevirtual 45, 3) := by decide +kernel
theorem d_BL_mark_76 : decode b_BL_mark 76 = .ok (.ifCond .eq 24, 3) := by decide +kernel
theorem d_BL_mark_79 : decode b_BL_mark 79 = .ok (.aload_n 1, 1) := by decide +kernel
theorem d_BL_mark_80 : decode b_BL_mark 80 = .ok (.getfield 57, 3) := by decide +kernel
theorem d_BL_mark_83 : decode b_BL_mark 83 = .ok (.iload_n 3, 1) := by decide +kernel
theorem d_BL_mark_84 : decode b_BL_mark 84 = .ok (.iaload, 1) := by decide +kernel
theorem d_BL_mark_85 : decode b_BL_mark 85 = .ok (.invokestatic 66, 3) := by decide +kernel
theorem d_BL_mark_88 : decode b_BL_mark 88 = .ok (.ifCond .eq 12, 3) := by decide +kernel
theorem d_BL_mark_91 : decode b_BL_mark 91 = .ok (.aload_n 0, 1) := by decide +kernel
theorem d_BL_mark_92 : decode b_BL_mark 92 = .ok (.getfield 33, 3) := by decide +kernel
theorem d_BL_mark_95 : decode b_BL_mark 95 = .ok (.iload_n 3, 1) := by decide +kernel
theorem d_BL_mark_96 : decode b_BL_mark 96 = .ok (.iconst 1, 1) := by decide +kernel
theorem d_BL_mark_97 : decode b_BL_mark 97 = .ok (.iadd, 1) := by decide +kernel
theorem d_BL_mark_98 : decode b_BL_mark 98 = .ok (.iconst 1, 1) := by decide +kernel
theorem d_BL_mark_99 : decode b_BL_mark 99 = .ok (.bastore, 1) := by decide +kernel
theorem d_BL_mark_100 : decode b_BL_mark 100 = .ok (.iinc 3 1, 3) := by decide +kernel
theorem d_BL_mark_103 : decode b_BL_mark 103 = .ok (.goto (-72), 3) := by decide +kernel
theorem d_BL_mark_106 : decode b_BL_mark 106 = .ok (.iconst 0, 1) := by decide +kernel
theorem d_BL_mark_107 : decode b_BL_mark 107 = .ok (.istore_n 3, 1) := by decide +kernel
theorem d_BL_mark_108 : decode b_BL_mark 108 = .ok (.iload_n 3, 1) := by decide +kernel
theorem d_BL_mark_109 : decode b_BL_mark 109 = .ok (.aload_n 1, 1) := by decide +kernel
theorem d_BL_mark_110 : decode b_BL_mark 110 = .ok (.getfield 69, 3) := by decide +kernel
theorem d_BL_mark_113 : decode b_BL_mark 113 = .ok (.if_icmp .ge 45, 3) := by decide +kernel
theorem d_BL_mark_116 : decode b_BL_mark 116 = .ok (.aload_n 0, 1) := by decide +kernel
theorem d_BL_mark_117 : decode b_BL_mark 117 = .ok (.getfield 33, 3) := by decide +kernel
theorem d_BL_mark_120 : decode b_BL_mark 120 = .ok (.aload_n 1, 1) := by decide +kernel
theorem d_BL_mark_121 : decode b_BL_mark 121 = .ok (.getfield 72, 3) := by decide +kernel
theorem d_BL_mark_124 : decode b_BL_mark 124 = .ok (.iload_n 3, 1) := by decide +kernel
theorem d_BL_mark_125 : decode b_BL_mark 125 = .ok (.iaload, 1) := by decide +kernel
theorem d_BL_mark_126 : decode b_BL_mark 126 = .ok (.iconst 1, 1) := by decide +kernel
theorem d_BL_mark_127 : decode b_BL_mark 127 = .ok (.bastore, 1) := by decide +kernel
theorem d_BL_mark_128 : decode b_BL_mark 128 = .ok (.aload_n 0, 1) := by decide +kernel
theorem d_BL_mark_129 : decode b_BL_mark 129 = .ok (.getfield 33, 3) := by decide +kernel
theorem d_BL_mark_132 : decode b_BL_mark 132 = .ok (.aload_n 1, 1) := by decide +kernel
theorem d_BL_mark_133 : decode b_BL_mark 133 = .ok (.getfield 75, 3) := by decide +kernel
theorem d_BL_mark_136 : decode b_BL_mark 136 = .ok (.iload_n 3, 1) := by decide +kernel
theorem d_BL_mark_137 : decode b_BL_mark 137 = .ok (.iaload, 1) := by decide +kernel
theorem d_BL_mark_138 : decode b_BL_mark 138 = .ok (.iconst 1, 1) := by decide +kernel
theorem d_BL_mark_139 : decode b_BL_mark 139 = .ok (.bastore, 1) := by decide +kernel
theorem d_BL_mark_140 : decode b_BL_mark 140 = .ok (.aload_n 0, 1) := by decide +kernel
theorem d_BL_mark_141 : decode b_BL_mark 141 = .ok (.getfield 33, 3) := by decide +kernel
theorem d_BL_mark_144 : decode b_BL_mark 144 = .ok (.aload_n 1, 1) := by decide +kernel
theorem d_BL_mark_145 : decode b_BL_mark 145 = .ok (.getfield 78, 3) := by decide +kernel
theorem d_BL_mark_148 : decode b_BL_mark 148 = .ok (.iload_n 3, 1) := by decide +kernel
theorem d_BL_mark_149 : decode b_BL_mark 149 = .ok (.iaload, 1) := by decide +kernel
theorem d_BL_mark_150 : decode b_BL_mark 150 = .ok (.iconst 1, 1) := by decide +kernel
theorem d_BL_mark_151 : decode b_BL_mark 151 = .ok (.bastore, 1) := by decide +kernel
theorem d_BL_mark_152 : decode b_BL_mark 152 = .ok (.iinc 3 1, 3) := by decide +kernel
theorem d_BL_mark_155 : decode b_BL_mark 155 = .ok (.goto (-47), 3) := by decide +kernel
theorem d_BL_mark_158 : decode b_BL_mark 158 = .ok (.return_, 1) := by decide +kernel
def lp1_BL_mark  : Nat → Nat → (Nat → Int32) → (Nat → Int32)
  | 0, i, mk1 => mk1
  | kf + 1, i, mk1 => (if 0 < i then (lp1_BL_mark kf (i + 1) (upd mk1 i 0)) else (lp1_BL_mark kf (i + 1) (upd mk1 i 1)))
def lp2_BL_mark (f : Nat → Int32) (g : Nat → Int32) (d : Nat → Int32) : Nat → Nat → (Nat → Int32) → (Nat → Int32)
  | 0, i, mk2 => mk2
  | kf + 1, i, mk2 => (if f_CH_reached i d = 0 then (if f_CH_reached i d = 0 then (lp2_BL_mark f g d kf (i + 1) mk2) else (if f_FF_branches (f i) = 0 then (lp2_BL_mark f g d kf (i + 1) mk2) else (lp2_BL_mark f g d kf (i + 1) (upd mk2 (i + 1) 1)))) else (if f_FF_jumps (f i) = 0 then (if f_CH_reached i d = 0 then (lp2_BL_mark f g d kf (i + 1) mk2) else (if f_FF_branches (f i) = 0 then (lp2_BL_mark f g d kf (i + 1) mk2) else (lp2_BL_mark f g d kf (i + 1) (upd mk2 (i + 1) 1)))) else (if f_CH_reached i d = 0 then (lp2_BL_mark f g d kf (i + 1) (upd mk2 (tn (g i)) 1)) else (if f_FF_branches (f i) = 0 then (lp2_BL_mark f g d kf (i + 1) (upd mk2 (tn (g i)) 1)) else (lp2_BL_mark f g d kf (i + 1) (upd (upd mk2 (tn (g i)) 1) (i + 1) 1))))))
def lp3_BL_mark (fr : Nat → Int32) (to : Nat → Int32) (tg : Nat → Int32) : Nat → Nat → (Nat → Int32) → (Nat → Int32)
  | 0, h, mk3 => mk3
  | kf + 1, h, mk3 => (lp3_BL_mark fr to tg kf (h + 1) (upd (upd (upd mk3 (tn (fr h)) 1) (tn (to h)) 1) (tn (tg h)) 1))
def f_BL_mark (n : Nat) (hn : Nat) (mk : Nat → Int32) (f : Nat → Int32) (g : Nat → Int32) (fr : Nat → Int32) (to : Nat → Int32) (tg : Nat → Int32) (d : Nat → Int32) : (Nat → Int32) := lp3_BL_mark fr to tg hn 0 (lp2_BL_mark f g d n 0 (lp1_BL_mark 33 0 mk))
set_option maxHeartbeats 1000000 in
set_option maxRecDepth 100000 in
theorem c_BL_mark (l : Launch) (D : va_G) (cI cZ : ClassId) (tt tp bl k k_d k_o : Nat) (bl_le bl_he bl_st bl_fi bl_be bl_by bl_sa bl_mk bc : Nat) (oc oc_ops oc_opd oc_fr oc_to oc_tg n hn : Nat) (mk f g fr to tg d : Nat → Int32) (hh : n ≤ 32) (h3 : hn ≤ 3) (hj : ∀ i, i < n → ¬ f_FF_jumps (f i) = 0 → g i = nI (tn (g i)) ∧ tn (g i) < 32) (hbr : ∀ h, h < hn → Nn fr h 33 ∧ Nn to h 33 ∧ Nn tg h 33) : MG l y_BL_mark w_BL_mark (rmK 2 40) D classes (tyz cI cZ) (EN tt tp) [.ref bl, .ref oc, .ref k] [(bl, .inr (4, [.ref bl_le, .ref bl_he, .ref bl_st, .ref bl_fi, .ref bl_be, .ref bl_by, .ref bl_sa, .ref bl_mk, .int (nI bc)])), (bl_mk, .inl (cZ, 33, .inl mk)), (oc, .inr (1, [.ref oc_ops, .ref oc_opd, .ref oc_fr, .ref oc_to, .ref oc_tg, .int (nI n), .int (nI hn)])), (oc_ops, .inl (cI, 32, .inl f)), (oc_opd, .inl (cI, 32, .inl g)), (oc_fr, .inl (cI, 3, .inl fr)), (oc_to, .inl (cI, 3, .inl to)), (oc_tg, .inl (cI, 3, .inl tg)), (k, .inr (2, [.ref k_d, .ref k_o])), (k_d, .inl (cI, 32, .inl d))] (RV D classes (tyz cI cZ) [(bl, .inr (4, [.ref bl_le, .ref bl_he, .ref bl_st, .ref bl_fi, .ref bl_be, .ref bl_by, .ref bl_sa, .ref bl_mk, .int (nI bc)])), (bl_mk, .inl (cZ, 33, .inl (f_BL_mark n hn mk f g fr to tg d))), (oc, .inr (1, [.ref oc_ops, .ref oc_opd, .ref oc_fr, .ref oc_to, .ref oc_tg, .int (nI n), .int (nI hn)])), (oc_ops, .inl (cI, 32, .inl f)), (oc_opd, .inl (cI, 32, .inl g)), (oc_fr, .inl (cI, 3, .inl fr)), (oc_to, .inl (cI, 3, .inl to)), (oc_tg, .inl (cI, 3, .inl tg)), (k, .inr (2, [.ref k_d, .ref k_o])), (k_d, .inl (cI, 32, .inl d))]) := by
  refine MG.of (cc := b_BL_mark) (maxL := 4) (ret := none) (own := "FlowFlattener$Blocks") rfl (by decide) rfl (Nat.le_of_ble_eq_true rfl) ?_
  intro p e s m below meth c A ls S hr hlocks hA hP hK hD hS hE hl
  have hx := S.1
  have hb := S.2.1
  have hl : lv_has ls 4 [(0, .ref bl), (1, .ref oc), (2, .ref k)] := hl
  refine lv_iconst (v := nI 0) hx hb d_BL_mark_0 (by decide) ?_
  refine lv_istore_n (lv' := [(3, .int (nI 0)), (0, .ref bl), (1, .ref oc), (2, .ref k)]) hx hb d_BL_mark_1 rfl hl (by decide) rfl (fun ls hl => ?_)
  have LP2 : ∀ (kf : Nat) (i : Nat) (mk1 : Nat → Int32), (i + kf = 33) → ∀ (ls : Array Slot) (H : Heap) (locs : List Loc), lv_has ls 4 [(0, .ref bl), (1, .ref oc), (2, .ref k), (3, .int (nI i))] → va_P D classes [(bl, .inr (4, [.ref bl_le, .ref bl_he, .ref bl_st, .ref bl_fi, .ref bl_be, .ref bl_by, .ref bl_sa, .ref bl_mk, .int (nI bc)])), (bl_mk, .inl (cZ, 33, .inl mk1)), (oc, .inr (1, [.ref oc_ops, .ref oc_opd, .ref oc_fr, .ref oc_to, .ref oc_tg, .int (nI n), .int (nI hn)])), (oc_ops, .inl (cI, 32, .inl f)), (oc_opd, .inl (cI, 32, .inl g)), (oc_fr, .inl (cI, 3, .inl fr)), (oc_to, .inl (cI, 3, .inl to)), (oc_tg, .inl (cI, 3, .inl tg)), (k, .inr (2, [.ref k_d, .ref k_o])), (k_d, .inl (cI, 32, .inl d))] H → va_D A [(bl, .inr (4, [.ref bl_le, .ref bl_he, .ref bl_st, .ref bl_fi, .ref bl_be, .ref bl_by, .ref bl_sa, .ref bl_mk, .int (nI bc)])), (bl_mk, .inl (cZ, 33, .inl mk1)), (oc, .inr (1, [.ref oc_ops, .ref oc_opd, .ref oc_fr, .ref oc_to, .ref oc_tg, .int (nI n), .int (nI hn)])), (oc_ops, .inl (cI, 32, .inl f)), (oc_opd, .inl (cI, 32, .inl g)), (oc_fr, .inl (cI, 3, .inl fr)), (oc_to, .inl (cI, 3, .inl to)), (oc_tg, .inl (cI, 3, .inl tg)), (k, .inr (2, [.ref k_d, .ref k_o])), (k_d, .inl (cI, 32, .inl d))] → va_S A s.heap H locs → (∀ (ls : Array Slot) (H : Heap) (locs : List Loc), lv_has ls 4 [(0, .ref bl), (1, .ref oc), (2, .ref k)] → va_P D classes [(bl, .inr (4, [.ref bl_le, .ref bl_he, .ref bl_st, .ref bl_fi, .ref bl_be, .ref bl_by, .ref bl_sa, .ref bl_mk, .int (nI bc)])), (bl_mk, .inl (cZ, 33, .inl (lp1_BL_mark kf i mk1))), (oc, .inr (1, [.ref oc_ops, .ref oc_opd, .ref oc_fr, .ref oc_to, .ref oc_tg, .int (nI n), .int (nI hn)])), (oc_ops, .inl (cI, 32, .inl f)), (oc_opd, .inl (cI, 32, .inl g)), (oc_fr, .inl (cI, 3, .inl fr)), (oc_to, .inl (cI, 3, .inl to)), (oc_tg, .inl (cI, 3, .inl tg)), (k, .inr (2, [.ref k_d, .ref k_o])), (k_d, .inl (cI, 32, .inl d))] H → va_D A [(bl, .inr (4, [.ref bl_le, .ref bl_he, .ref bl_st, .ref bl_fi, .ref bl_be, .ref bl_by, .ref bl_sa, .ref bl_mk, .int (nI bc)])), (bl_mk, .inl (cZ, 33, .inl (lp1_BL_mark kf i mk1))), (oc, .inr (1, [.ref oc_ops, .ref oc_opd, .ref oc_fr, .ref oc_to, .ref oc_tg, .int (nI n), .int (nI hn)])), (oc_ops, .inl (cI, 32, .inl f)), (oc_opd, .inl (cI, 32, .inl g)), (oc_fr, .inl (cI, 3, .inl fr)), (oc_to, .inl (cI, 3, .inl to)), (oc_tg, .inl (cI, 3, .inl tg)), (k, .inr (2, [.ref k_d, .ref k_o])), (k_d, .inl (cI, 32, .inl d))] → va_S A s.heap H locs → W p l e (rmK 2 40) s m [.ref bl, .ref oc, .ref k].toArray below meth c H locs 0 0 (MQ below (RV D classes (tyz cI cZ) [(bl, .inr (4, [.ref bl_le, .ref bl_he, .ref bl_st, .ref bl_fi, .ref bl_be, .ref bl_by, .ref bl_sa, .ref bl_mk, .int (nI bc)])), (bl_mk, .inl (cZ, 33, .inl (f_BL_mark n hn mk f g fr to tg d))), (oc, .inr (1, [.ref oc_ops, .ref oc_opd, .ref oc_fr, .ref oc_to, .ref oc_tg, .int (nI n), .int (nI hn)])), (oc_ops, .inl (cI, 32, .inl f)), (oc_opd, .inl (cI, 32, .inl g)), (oc_fr, .inl (cI, 3, .inl fr)), (oc_to, .inl (cI, 3, .inl to)), (oc_tg, .inl (cI, 3, .inl tg)), (k, .inr (2, [.ref k_d, .ref k_o])), (k_d, .inl (cI, 32, .inl d))] A) [.ref bl, .ref oc, .ref k].toArray s 0 0 A) (F0 m 29 ls [])) → W p l e (rmK 2 40) s m [.ref bl, .ref oc, .ref k].toArray below meth c H locs 0 0 (MQ below (RV D classes (tyz cI cZ) [(bl, .inr (4, [.ref bl_le, .ref bl_he, .ref bl_st, .ref bl_fi, .ref bl_be, .ref bl_by, .ref bl_sa, .ref bl_mk, .int (nI bc)])), (bl_mk, .inl (cZ, 33, .inl (f_BL_mark n hn mk f g fr to tg d))), (oc, .inr (1, [.ref oc_ops, .ref oc_opd, .ref oc_fr, .ref oc_to, .ref oc_tg, .int (nI n), .int (nI hn)])), (oc_ops, .inl (cI, 32, .inl f)), (oc_opd, .inl (cI, 32, .inl g)), (oc_fr, .inl (cI, 3, .inl fr)), (oc_to, .inl (cI, 3, .inl to)), (oc_tg, .inl (cI, 3, .inl tg)), (k, .inr (2, [.ref k_d, .ref k_o])), (k_d, .inl (cI, 32, .inl d))] A) [.ref bl, .ref oc, .ref k].toArray s 0 0 A) (F0 m 2 ls []) := by
    intro kf
    induction kf with
    | zero =>
      intro i mk1 hk ls H locs hl hP hD hS kk
      refine lv_iload_n hx hb d_BL_mark_2 rfl (lv_at hl 3 rfl) ?_
      refine lv_bipush (v := 32) hx hb d_BL_mark_3 (by decide) ?_
      refine n_icmp_gt (tgt := 29) (x := i) (y := 32) hx hb rfl (by decide) (by omega) (by omega) d_BL_mark_5 (by decide) (fun h5_1 => ?_) (fun h5_1 => absurd h5_1 (by omega))
      have e9 : lp1_BL_mark 0 i mk1 = mk1 := by rw [lp1_BL_mark]
      rw [e9] at kk
      exact kk _ _ _ (lv_sub hl [0, 1, 2] rfl) hP hD hS
    | succ kf ih =>
      intro i mk1 hk ls H locs hl hP hD hS kk
      refine lv_iload_n hx hb d_BL_mark_2 rfl (lv_at hl 3 rfl) ?_
      refine lv_bipush (v := 32) hx hb d_BL_mark_3 (by decide) ?_
      refine n_icmp_gt (tgt := 29) (x := i) (y := 32) hx hb rfl (by decide) (by omega) (by omega) d_BL_mark_5 (by decide) (fun h5_2 => absurd h5_2 (by omega)) (fun h5_2 => ?_)
      refine lv_aload_n hx hb d_BL_mark_8 rfl (lv_at hl 0 rfl) ?_
      refine k_get (v := .ref bl_mk) S in_BL hK hP 0 rfl rfl 7 (by decide) ql_BL_33 rfl d_BL_mark_9 ?_
      refine lv_iload_n hx hb d_BL_mark_12 rfl (lv_at hl 3 rfl) ?_
      refine lv_iload_n hx hb d_BL_mark_13 rfl (lv_at hl 3 rfl) ?_
      refine n_if_ne (tgt := 21) hx hb (by omega) d_BL_mark_14 (by decide) (fun h14_3 => ?_) (fun h14_3 => ?_)
      · skip
        refine lv_iconst (v := 0) hx hb d_BL_mark_21 (by decide) ?_
        refine k_zst (k := i) (x := 0) (ws' := [(bl, .inr (4, [.ref bl_le, .ref bl_he, .ref bl_st, .ref bl_fi, .ref bl_be, .ref bl_by, .ref bl_sa, .ref bl_mk, .int (nI bc)])), (bl_mk, .inl (cZ, 33, .inl (upd mk1 i 0))), (oc, .inr (1, [.ref oc_ops, .ref oc_opd, .ref oc_fr, .ref oc_to, .ref oc_tg, .int (nI n), .int (nI hn)])), (oc_ops, .inl (cI, 32, .inl f)), (oc_opd, .inl (cI, 32, .inl g)), (oc_fr, .inl (cI, 3, .inl fr)), (oc_to, .inl (cI, 3, .inl to)), (oc_tg, .inl (cI, 3, .inl tg)), (k, .inr (2, [.ref k_d, .ref k_o])), (k_d, .inl (cI, 32, .inl d))]) hx hb hK hP hD hS 1 1 rfl rfl rfl (by decide) (by omega) (by decide) rfl d_BL_mark_22 (fun H locs hP hD hS => ?_)
        refine lv_iinc (k := 3) (v := nI (i + 1)) (lv' := [(3, .int (nI (i + 1))), (0, .ref bl), (1, .ref oc), (2, .ref k)]) hx hb d_BL_mark_23 hl rfl (nc_add rfl (by decide)) (by decide) rfl (fun ls hl => ?_)
        refine lv_goto (tgt := 2) hx hb d_BL_mark_26 (by decide) ?_
        have e9 : lp1_BL_mark (kf + 1) i mk1 = lp1_BL_mark kf (i + 1) (upd mk1 i 0) := by rw [lp1_BL_mark, if_pos h14_3]
        rw [e9] at kk
        exact ih (i + 1) (upd mk1 i 0) (by omega) _ _ _ (lv_sub hl [1, 2, 3, 0] rfl) hP hD hS kk
      · skip
        refine lv_iconst (v := 1) hx hb d_BL_mark_17 (by decide) ?_
        refine lv_goto (tgt := 22) hx hb d_BL_mark_18 (by decide) ?_
        refine k_zst (k := i) (x := 1) (ws' := [(bl, .inr (4, [.ref bl_le, .ref bl_he, .ref bl_st, .ref bl_fi, .ref bl_be, .ref bl_by, .ref bl_sa, .ref bl_mk, .int (nI bc)])), (bl_mk, .inl (cZ, 33, .inl (upd mk1 i 1))), (oc, .inr (1, [.ref oc_ops, .ref oc_opd, .ref oc_fr, .ref oc_to, .ref oc_tg, .int (nI n), .int (nI hn)])), (oc_ops, .inl (cI, 32, .inl f)), (oc_opd, .inl (cI, 32, .inl g)), (oc_fr, .inl (cI, 3, .inl fr)), (oc_to, .inl (cI, 3, .inl to)), (oc_tg, .inl (cI, 3, .inl tg)), (k, .inr (2, [.ref k_d, .ref k_o])), (k_d, .inl (cI, 32, .inl d))]) hx hb hK hP hD hS 1 1 rfl rfl rfl (by decide) (by omega) (by decide) rfl d_BL_mark_22 (fun H locs hP hD hS => ?_)
        refine lv_iinc (k := 3) (v := nI (i + 1)) (lv' := [(3, .int (nI (i + 1))), (0, .ref bl), (1, .ref oc), (2, .ref k)]) hx hb d_BL_mark_23 hl rfl (nc_add rfl (by decide)) (by decide) rfl (fun ls hl => ?_)
        refine lv_goto (tgt := 2) hx hb d_BL_mark_26 (by decide) ?_
        have e9 : lp1_BL_mark (kf + 1) i mk1 = lp1_BL_mark kf (i + 1) (upd mk1 i 1) := by rw [lp1_BL_mark, if_neg (show ¬ (0 < i) by omega)]
        rw [e9] at kk
        exact ih (i + 1) (upd mk1 i 1) (by omega) _ _ _ (lv_sub hl [1, 2, 3, 0] rfl) hP hD hS kk
  refine LP2 33 0 mk rfl _ _ _ (lv_sub hl [1, 2, 3, 0] rfl) hP hD hS (fun ls H locs hl hP hD hS => ?_)
  refine lv_iconst (v := nI 0) hx hb d_BL_mark_29 (by decide) ?_
  refine lv_istore_n (lv' := [(3, .int (nI 0)), (0, .ref bl), (1, .ref oc), (2, .ref k)]) hx hb d_BL_mark_30 rfl hl (by decide) rfl (fun ls hl => ?_)
  have LP31 : ∀ (kf : Nat) (i : Nat) (mk2 : Nat → Int32), (i + kf = n) → ∀ (ls : Array Slot) (H : Heap) (locs : List Loc), lv_has ls 4 [(0, .ref bl), (1, .ref oc), (2, .ref k), (3, .int (nI i))] → va_P D classes [(bl, .inr (4, [.ref bl_le, .ref bl_he, .ref bl_st, .ref bl_fi, .ref bl_be, .ref bl_by, .ref bl_sa, .ref bl_mk, .int (nI bc)])), (bl_mk, .inl (cZ, 33, .inl mk2)), (oc, .inr (1, [.ref oc_ops, .ref oc_opd, .ref oc_fr, .ref oc_to, .ref oc_tg, .int (nI n), .int (nI hn)])), (oc_ops, .inl (cI, 32, .inl f)), (oc_opd, .inl (cI, 32, .inl g)), (oc_fr, .inl (cI, 3, .inl fr)), (oc_to, .inl (cI, 3, .inl to)), (oc_tg, .inl (cI, 3, .inl tg)), (k, .inr (2, [.ref k_d, .ref k_o])), (k_d, .inl (cI, 32, .inl d))] H → va_D A [(bl, .inr (4, [.ref bl_le, .ref bl_he, .ref bl_st, .ref bl_fi, .ref bl_be, .ref bl_by, .ref bl_sa, .ref bl_mk, .int (nI bc)])), (bl_mk, .inl (cZ, 33, .inl mk2)), (oc, .inr (1, [.ref oc_ops, .ref oc_opd, .ref oc_fr, .ref oc_to, .ref oc_tg, .int (nI n), .int (nI hn)])), (oc_ops, .inl (cI, 32, .inl f)), (oc_opd, .inl (cI, 32, .inl g)), (oc_fr, .inl (cI, 3, .inl fr)), (oc_to, .inl (cI, 3, .inl to)), (oc_tg, .inl (cI, 3, .inl tg)), (k, .inr (2, [.ref k_d, .ref k_o])), (k_d, .inl (cI, 32, .inl d))] → va_S A s.heap H locs → (∀ (ls : Array Slot) (H : Heap) (locs : List Loc), lv_has ls 4 [(0, .ref bl), (1, .ref oc), (2, .ref k)] → va_P D classes [(bl, .inr (4, [.ref bl_le, .ref bl_he, .ref bl_st, .ref bl_fi, .ref bl_be, .ref bl_by, .ref bl_sa, .ref bl_mk, .int (nI bc)])), (bl_mk, .inl (cZ, 33, .inl (lp2_BL_mark f g d kf i mk2))), (oc, .inr (1, [.ref oc_ops, .ref oc_opd, .ref oc_fr, .ref oc_to, .ref oc_tg, .int (nI n), .int (nI hn)])), (oc_ops, .inl (cI, 32, .inl f)), (oc_opd, .inl (cI, 32, .inl g)), (oc_fr, .inl (cI, 3, .inl fr)), (oc_to, .inl (cI, 3, .inl to)), (oc_tg, .inl (cI, 3, .inl tg)), (k, .inr (2, [.ref k_d, .ref k_o])), (k_d, .inl (cI, 32, .inl d))] H → va_D A [(bl, .inr (4, [.ref bl_le, .ref bl_he, .ref bl_st, .ref bl_fi, .ref bl_be, .ref bl_by, .ref bl_sa, .ref bl_mk, .int (nI bc)])), (bl_mk, .inl (cZ, 33, .inl (lp2_BL_mark f g d kf i mk2))), (oc, .inr (1, [.ref oc_ops, .ref oc_opd, .ref oc_fr, .ref oc_to, .ref oc_tg, .int (nI n), .int (nI hn)])), (oc_ops, .inl (cI, 32, .inl f)), (oc_opd, .inl (cI, 32, .inl g)), (oc_fr, .inl (cI, 3, .inl fr)), (oc_to, .inl (cI, 3, .inl to)), (oc_tg, .inl (cI, 3, .inl tg)), (k, .inr (2, [.ref k_d, .ref k_o])), (k_d, .inl (cI, 32, .inl d))] → va_S A s.heap H locs → W p l e (rmK 2 40) s m [.ref bl, .ref oc, .ref k].toArray below meth c H locs 0 0 (MQ below (RV D classes (tyz cI cZ) [(bl, .inr (4, [.ref bl_le, .ref bl_he, .ref bl_st, .ref bl_fi, .ref bl_be, .ref bl_by, .ref bl_sa, .ref bl_mk, .int (nI bc)])), (bl_mk, .inl (cZ, 33, .inl (f_BL_mark n hn mk f g fr to tg d))), (oc, .inr (1, [.ref oc_ops, .ref oc_opd, .ref oc_fr, .ref oc_to, .ref oc_tg, .int (nI n), .int (nI hn)])), (oc_ops, .inl (cI, 32, .inl f)), (oc_opd, .inl (cI, 32, .inl g)), (oc_fr, .inl (cI, 3, .inl fr)), (oc_to, .inl (cI, 3, .inl to)), (oc_tg, .inl (cI, 3, .inl tg)), (k, .inr (2, [.ref k_d, .ref k_o])), (k_d, .inl (cI, 32, .inl d))] A) [.ref bl, .ref oc, .ref k].toArray s 0 0 A) (F0 m 106 ls [])) → W p l e (rmK 2 40) s m [.ref bl, .ref oc, .ref k].toArray below meth c H locs 0 0 (MQ below (RV D classes (tyz cI cZ) [(bl, .inr (4, [.ref bl_le, .ref bl_he, .ref bl_st, .ref bl_fi, .ref bl_be, .ref bl_by, .ref bl_sa, .ref bl_mk, .int (nI bc)])), (bl_mk, .inl (cZ, 33, .inl (f_BL_mark n hn mk f g fr to tg d))), (oc, .inr (1, [.ref oc_ops, .ref oc_opd, .ref oc_fr, .ref oc_to, .ref oc_tg, .int (nI n), .int (nI hn)])), (oc_ops, .inl (cI, 32, .inl f)), (oc_opd, .inl (cI, 32, .inl g)), (oc_fr, .inl (cI, 3, .inl fr)), (oc_to, .inl (cI, 3, .inl to)), (oc_tg, .inl (cI, 3, .inl tg)), (k, .inr (2, [.ref k_d, .ref k_o])), (k_d, .inl (cI, 32, .inl d))] A) [.ref bl, .ref oc, .ref k].toArray s 0 0 A) (F0 m 31 ls []) := by
    intro kf
    induction kf with
    | zero =>
      intro i mk2 hk ls H locs hl hP hD hS kk
      refine lv_iload_n hx hb d_BL_mark_31 rfl (lv_at hl 3 rfl) ?_
      refine lv_aload_n hx hb d_BL_mark_32 rfl (lv_at hl 1 rfl) ?_
      refine k_get (v := .int (nI n)) S in_CO hK hP 2 rfl rfl 5 (by decide) ql_BL_54 rfl d_BL_mark_33 ?_
      refine n_icmp_ge (tgt := 106) (x := i) (y := n) hx hb rfl rfl (by omega) (by omega) d_BL_mark_36 (by decide) (fun h36_4 => ?_) (fun h36_4 => absurd h36_4 (by omega))
      have e9 : lp2_BL_mark f g d 0 i mk2 = mk2 := by rw [lp2_BL_mark]
      rw [e9] at kk
      exact kk _ _ _ (lv_sub hl [0, 1, 2] rfl) hP hD hS
    | succ kf ih =>
      intro i mk2 hk ls H locs hl hP hD hS kk
      refine lv_iload_n hx hb d_BL_mark_31 rfl (lv_at hl 3 rfl) ?_
      refine lv_aload_n hx hb d_BL_mark_32 rfl (lv_at hl 1 rfl) ?_
      refine k_get (v := .int (nI n)) S in_CO hK hP 2 rfl rfl 5 (by decide) ql_BL_54 rfl d_BL_mark_33 ?_
      refine n_icmp_ge (tgt := 106) (x := i) (y := n) hx hb rfl rfl (by omega) (by omega) d_BL_mark_36 (by decide) (fun h36_5 => absurd h36_5 (by omega)) (fun h36_5 => ?_)
      refine lv_aload_n hx hb d_BL_mark_39 rfl (lv_at hl 2 rfl) ?_
      refine lv_iload_n hx hb d_BL_mark_40 rfl (lv_at hl 3 rfl) ?_
      refine k_goi (ws' := [(bl, .inr (4, [.ref bl_le, .ref bl_he, .ref bl_st, .ref bl_fi, .ref bl_be, .ref bl_by, .ref bl_sa, .ref bl_mk, .int (nI bc)])), (bl_mk, .inl (cZ, 33, .inl mk2)), (oc, .inr (1, [.ref oc_ops, .ref oc_opd, .ref oc_fr, .ref oc_to, .ref oc_tg, .int (nI n), .int (nI hn)])), (oc_ops, .inl (cI, 32, .inl f)), (oc_opd, .inl (cI, 32, .inl g)), (oc_fr, .inl (cI, 3, .inl fr)), (oc_to, .inl (cI, 3, .inl to)), (oc_tg, .inl (cI, 3, .inl tg)), (k, .inr (2, [.ref k_d, .ref k_o])), (k_d, .inl (cI, 32, .inl d))]) (wr := [(bl, .inr (4, [.ref bl_le, .ref bl_he, .ref bl_st, .ref bl_fi, .ref bl_be, .ref bl_by, .ref bl_sa, .ref bl_mk, .int (nI bc)])), (bl_mk, .inl (cZ, 33, .inl mk2)), (oc, .inr (1, [.ref oc_ops, .ref oc_opd, .ref oc_fr, .ref oc_to, .ref oc_tg, .int (nI n), .int (nI hn)])), (oc_ops, .inl (cI, 32, .inl f)), (oc_opd, .inl (cI, 32, .inl g)), (oc_fr, .inl (cI, 3, .inl fr)), (oc_to, .inl (cI, 3, .inl to)), (oc_tg, .inl (cI, 3, .inl tg))]) (k_runV (q0 := 8) (As := [.int (nI i)]) (rest := []) (n := 1) S (c_CH_reached l D cI cZ k k_d k_o i d (by omega)) E0_b E0_t ql_BL_45 qi_CH_reached qs_CH_reached qn_CH qc_CH_reached (by decide +kernel) rfl ⟨rfl, rfl⟩ ⟨Nat.le_of_ble_eq_true rfl, Nat.le_of_ble_eq_true rfl⟩ hK hP hD [8, 9] rfl (by decide) rfl rfl hl.1 rfl (Nat.le_of_ble_eq_true rfl) d_BL_mark_41 ⟨Nat.zero_le _, Nat.zero_le _⟩) hP hD hS hA [8, 9] [0, 1, 2, 3, 4, 5, 6, 7] [0, 1, 2, 3, 4, 5, 6, 7, 8, 9] rfl rfl (by decide) (by decide) rfl (by decide) (fun H locs hP hD hS => ?_)
      refine lv_if_eq (tgt := 71) hx hb d_BL_mark_44 (by decide) (fun h44_6 => ?_) (fun h44_6 => ?_)
      · skip
        refine lv_aload_n hx hb d_BL_mark_71 rfl (lv_at hl 2 rfl) ?_
        refine lv_iload_n hx hb d_BL_mark_72 rfl (lv_at hl 3 rfl) ?_
        refine k_goi (ws' := [(bl, .inr (4, [.ref bl_le, .ref bl_he, .ref bl_st, .ref bl_fi, .ref bl_be, .ref bl_by, .ref bl_sa, .ref bl_mk, .int (nI bc)])), (bl_mk, .inl (cZ, 33, .inl mk2)), (oc, .inr (1, [.ref oc_ops, .ref oc_opd, .ref oc_fr, .ref oc_to, .ref oc_tg, .int (nI n), .int (nI hn)])), (oc_ops, .inl (cI, 32, .inl f)), (oc_opd, .inl (cI, 32, .inl g)), (oc_fr, .inl (cI, 3, .inl fr)), (oc_to, .inl (cI, 3, .inl to)), (oc_tg, .inl (cI, 3, .inl tg)), (k, .inr (2, [.ref k_d, .ref k_o])), (k_d, .inl (cI, 32, .inl d))]) (wr := [(bl, .inr (4, [.ref bl_le, .ref bl_he, .ref bl_st, .ref bl_fi, .ref bl_be, .ref bl_by, .ref bl_sa, .ref bl_mk, .int (nI bc)])), (bl_mk, .inl (cZ, 33, .inl mk2)), (oc, .inr (1, [.ref oc_ops, .ref oc_opd, .ref oc_fr, .ref oc_to, .ref oc_tg, .int (nI n), .int (nI hn)])), (oc_ops, .inl (cI, 32, .inl f)), (oc_opd, .inl (cI, 32, .inl g)), (oc_fr, .inl (cI, 3, .inl fr)), (oc_to, .inl (cI, 3, .inl to)), (oc_tg, .inl (cI, 3, .inl tg))]) (k_runV (q0 := 8) (As := [.int (nI i)]) (rest := []) (n := 1) S (c_CH_reached l D cI cZ k k_d k_o i d (by omega)) E0_b E0_t ql_BL_45 qi_CH_reached qs_CH_reached qn_CH qc_CH_reached (by decide +kernel) rfl ⟨rfl, rfl⟩ ⟨Nat.le_of_ble_eq_true rfl, Nat.le_of_ble_eq_true rfl⟩ hK hP hD [8, 9] rfl (by decide) rfl rfl hl.1 rfl (Nat.le_of_ble_eq_true rfl) d_BL_mark_73 ⟨Nat.zero_le _, Nat.zero_le _⟩) hP hD hS hA [8, 9] [0, 1, 2, 3, 4, 5, 6, 7] [0, 1, 2, 3, 4, 5, 6, 7, 8, 9] rfl rfl (by decide) (by decide) rfl (by decide) (fun H locs hP hD hS => ?_)
        refine lv_if_eq (tgt := 100) hx hb d_BL_mark_76 (by decide) (fun h76_7 => ?_) (fun h76_7 => ?_)
        · skip
          refine lv_iinc (k := 3) (v := nI (i + 1)) (lv' := [(3, .int (nI (i + 1))), (0, .ref bl), (1, .ref oc), (2, .ref k)]) hx hb d_BL_mark_100 hl rfl (nc_add rfl (by decide)) (by decide) rfl (fun ls hl => ?_)
          refine lv_goto (tgt := 31) hx hb d_BL_mark_103 (by decide) ?_
          have e9 : lp2_BL_mark f g d (kf + 1) i mk2 = lp2_BL_mark f g d kf (i + 1) mk2 := by rw [lp2_BL_mark, if_pos h44_6, if_pos h76_7]
          rw [e9] at kk
          exact ih (i + 1) mk2 (by omega) _ _ _ (lv_sub hl [1, 2, 3, 0] rfl) hP hD hS kk
        · skip
          refine lv_aload_n hx hb d_BL_mark_79 rfl (lv_at hl 1 rfl) ?_
          refine k_get (v := .ref oc_ops) S in_CO hK hP 2 rfl rfl 0 (by decide) ql_BL_57 rfl d_BL_mark_80 ?_
          refine lv_iload_n hx hb d_BL_mark_83 rfl (lv_at hl 3 rfl) ?_
          refine k_ld (k := i) hx hb hK hP 3 0 rfl rfl rfl (by omega) (by decide) d_BL_mark_84 ?_
          refine k_goi (ws' := [(bl, .inr (4, [.ref bl_le, .ref bl_he, .ref bl_st, .ref bl_fi, .ref bl_be, .ref bl_by, .ref bl_sa, .ref bl_mk, .int (nI bc)])), (bl_mk, .inl (cZ, 33, .inl mk2)), (oc, .inr (1, [.ref oc_ops, .ref oc_opd, .ref oc_fr, .ref oc_to, .ref oc_tg, .int (nI n), .int (nI hn)])), (oc_ops, .inl (cI, 32, .inl f)), (oc_opd, .inl (cI, 32, .inl g)), (oc_fr, .inl (cI, 3, .inl fr)), (oc_to, .inl (cI, 3, .inl to)), (oc_tg, .inl (cI, 3, .inl tg)), (k, .inr (2, [.ref k_d, .ref k_o])), (k_d, .inl (cI, 32, .inl d))]) (wr := [(bl, .inr (4, [.ref bl_le, .ref bl_he, .ref bl_st, .ref bl_fi, .ref bl_be, .ref bl_by, .ref bl_sa, .ref bl_mk, .int (nI bc)])), (bl_mk, .inl (cZ, 33, .inl mk2)), (oc, .inr (1, [.ref oc_ops, .ref oc_opd, .ref oc_fr, .ref oc_to, .ref oc_tg, .int (nI n), .int (nI hn)])), (oc_ops, .inl (cI, 32, .inl f)), (oc_opd, .inl (cI, 32, .inl g)), (oc_fr, .inl (cI, 3, .inl fr)), (oc_to, .inl (cI, 3, .inl to)), (oc_tg, .inl (cI, 3, .inl tg)), (k, .inr (2, [.ref k_d, .ref k_o])), (k_d, .inl (cI, 32, .inl d))]) (k_runSN (As := [.int (f i)]) (rest := []) (n := 1) S (c_FF_branches l D cI cZ (f i)) E0_b E0_t (hE.1 _ (List.mem_of_getElem? (i := 10) rfl)) qt_FF_branches qn_FF qc_FF_branches (by decide +kernel) rfl ⟨rfl, rfl⟩ ⟨Nat.le_of_ble_eq_true rfl, Nat.le_of_ble_eq_true rfl⟩ hK hP hD [] rfl (by decide) hl.1 rfl (Nat.le_of_ble_eq_true rfl) d_BL_mark_85 ⟨Nat.zero_le _, Nat.zero_le _⟩) hP hD hS hA [] [0, 1, 2, 3, 4, 5, 6, 7, 8, 9] [0, 1, 2, 3, 4, 5, 6, 7, 8, 9] rfl rfl (by decide) (by decide) rfl (by decide) (fun H locs hP hD hS => ?_)
          refine lv_if_eq (tgt := 100) hx hb d_BL_mark_88 (by decide) (fun h88_8 => ?_) (fun h88_8 => ?_)
          · skip
            refine lv_iinc (k := 3) (v := nI (i + 1)) (lv' := [(3, .int (nI (i + 1))), (0, .ref bl), (1, .ref oc), (2, .ref k)]) hx hb d_BL_mark_100 hl rfl (nc_add rfl (by decide)) (by decide) rfl (fun ls hl => ?_)
            refine lv_goto (tgt := 31) hx hb d_BL_mark_103 (by decide) ?_
            have e9 : lp2_BL_mark f g d (kf + 1) i mk2 = lp2_BL_mark f g d kf (i + 1) mk2 := by rw [lp2_BL_mark, if_pos h44_6, if_neg h76_7, if_pos h88_8]
            rw [e9] at kk
            exact ih (i + 1) mk2 (by omega) _ _ _ (lv_sub hl [1, 2, 3, 0] rfl) hP hD hS kk
          · skip
            refine lv_aload_n hx hb d_BL_mark_91 rfl (lv_at hl 0 rfl) ?_
            refine k_get (v := .ref bl_mk) S in_BL hK hP 0 rfl rfl 7 (by decide) ql_BL_33 rfl d_BL_mark_92 ?_
            refine lv_iload_n hx hb d_BL_mark_95 rfl (lv_at hl 3 rfl) ?_
            refine lv_iconst (v := 1) hx hb d_BL_mark_96 (by decide) ?_
            refine lv_iadd hx hb d_BL_mark_97 ?_
            refine k_top (y := nI (i + 1)) (nc_add rfl (by decide)) ?_
            refine lv_iconst (v := 1) hx hb d_BL_mark_98 (by decide) ?_
            refine k_zst (k := i + 1) (x := 1) (ws' := [(bl, .inr (4, [.ref bl_le, .ref bl_he, .ref bl_st, .ref bl_fi, .ref bl_be, .ref bl_by, .ref bl_sa, .ref bl_mk, .int (nI bc)])), (bl_mk, .inl (cZ, 33, .inl (upd mk2 (i + 1) 1))), (oc, .inr (1, [.ref oc_ops, .ref oc_opd, .ref oc_fr, .ref oc_to, .ref oc_tg, .int (nI n), .int (nI hn)])), (oc_ops, .inl (cI, 32, .inl f)), (oc_opd, .inl (cI, 32, .inl g)), (oc_fr, .inl (cI, 3, .inl fr)), (oc_to, .inl (cI, 3, .inl to)), (oc_tg, .inl (cI, 3, .inl tg)), (k, .inr (2, [.ref k_d, .ref k_o])), (k_d, .inl (cI, 32, .inl d))]) hx hb hK hP hD hS 1 1 rfl rfl rfl (by decide) (by omega) (by decide) rfl d_BL_mark_99 (fun H locs hP hD hS => ?_)
            refine lv_iinc (k := 3) (v := nI (i + 1)) (lv' := [(3, .int (nI (i + 1))), (0, .ref bl), (1, .ref oc), (2, .ref k)]) hx hb d_BL_mark_100 hl rfl (nc_add rfl (by decide)) (by decide) rfl (fun ls hl => ?_)
            refine lv_goto (tgt := 31) hx hb d_BL_mark_103 (by decide) ?_
            have e9 : lp2_BL_mark f g d (kf + 1) i mk2 = lp2_BL_mark f g d kf (i + 1) (upd mk2 (i + 1) 1) := by rw [lp2_BL_mark, if_pos h44_6, if_neg h76_7, if_neg h88_8]
            rw [e9] at kk
            exact ih (i + 1) (upd mk2 (i + 1) 1) (by omega) _ _ _ (lv_sub hl [1, 2, 3, 0] rfl) hP hD hS kk
      · skip
        refine lv_aload_n hx hb d_BL_mark_47 rfl (lv_at hl 1 rfl) ?_
        refine k_get (v := .ref oc_ops) S in_CO hK hP 2 rfl rfl 0 (by decide) ql_BL_57 rfl d_BL_mark_48 ?_
        refine lv_iload_n hx hb d_BL_mark_51 rfl (lv_at hl 3 rfl) ?_
        refine k_ld (k := i) hx hb hK hP 3 0 rfl rfl rfl (by omega) (by decide) d_BL_mark_52 ?_
        refine k_goi (ws' := [(bl, .inr (4, [.ref bl_le, .ref bl_he, .ref bl_st, .ref bl_fi, .ref bl_be, .ref bl_by, .ref bl_sa, .ref bl_mk, .int (nI bc)])), (bl_mk, .inl (cZ, 33, .inl mk2)), (oc, .inr (1, [.ref oc_ops, .ref oc_opd, .ref oc_fr, .ref oc_to, .ref oc_tg, .int (nI n), .int (nI hn)])), (oc_ops, .inl (cI, 32, .inl f)), (oc_opd, .inl (cI, 32, .inl g)), (oc_fr, .inl (cI, 3, .inl fr)), (oc_to, .inl (cI, 3, .inl to)), (oc_tg, .inl (cI, 3, .inl tg)), (k, .inr (2, [.ref k_d, .ref k_o])), (k_d, .inl (cI, 32, .inl d))]) (wr := [(bl, .inr (4, [.ref bl_le, .ref bl_he, .ref bl_st, .ref bl_fi, .ref bl_be, .ref bl_by, .ref bl_sa, .ref bl_mk, .int (nI bc)])), (bl_mk, .inl (cZ, 33, .inl mk2)), (oc, .inr (1, [.ref oc_ops, .ref oc_opd, .ref oc_fr, .ref oc_to, .ref oc_tg, .int (nI n), .int (nI hn)])), (oc_ops, .inl (cI, 32, .inl f)), (oc_opd, .inl (cI, 32, .inl g)), (oc_fr, .inl (cI, 3, .inl fr)), (oc_to, .inl (cI, 3, .inl to)), (oc_tg, .inl (cI, 3, .inl tg)), (k, .inr (2, [.ref k_d, .ref k_o])), (k_d, .inl (cI, 32, .inl d))]) (k_runSN (As := [.int (f i)]) (rest := []) (n := 1) S (c_FF_jumps l D cI cZ (f i)) E0_b E0_t (hE.1 _ (List.mem_of_getElem? (i := 9) rfl)) qt_FF_jumps qn_FF qc_FF_jumps (by decide +kernel) rfl ⟨rfl, rfl⟩ ⟨Nat.le_of_ble_eq_true rfl, Nat.le_of_ble_eq_true rfl⟩ hK hP hD [] rfl (by decide) hl.1 rfl (Nat.le_of_ble_eq_true rfl) d_BL_mark_53 ⟨Nat.zero_le _, Nat.zero_le _⟩) hP hD hS hA [] [0, 1, 2, 3, 4, 5, 6, 7, 8, 9] [0, 1, 2, 3, 4, 5, 6, 7, 8, 9] rfl rfl (by decide) (by decide) rfl (by decide) (fun H locs hP hD hS => ?_)
        refine lv_if_eq (tgt := 71) hx hb d_BL_mark_56 (by decide) (fun h56_9 => ?_) (fun h56_9 => ?_)
        · skip
          refine lv_aload_n hx hb d_BL_mark_71 rfl (lv_at hl 2 rfl) ?_
          refine lv_iload_n hx hb d_BL_mark_72 rfl (lv_at hl 3 rfl) ?_
          refine k_goi (ws' := [(bl, .inr (4, [.ref bl_le, .ref bl_he, .ref bl_st, .ref bl_fi, .ref bl_be, .ref bl_by, .ref bl_sa, .ref bl_mk, .int (nI bc)])), (bl_mk, .inl (cZ, 33, .inl mk2)), (oc, .inr (1, [.ref oc_ops, .ref oc_opd, .ref oc_fr, .ref oc_to, .ref oc_tg, .int (nI n), .int (nI hn)])), (oc_ops, .inl (cI, 32, .inl f)), (oc_opd, .inl (cI, 32, .inl g)), (oc_fr, .inl (cI, 3, .inl fr)), (oc_to, .inl (cI, 3, .inl to)), (oc_tg, .inl (cI, 3, .inl tg)), (k, .inr (2, [.ref k_d, .ref k_o])), (k_d, .inl (cI, 32, .inl d))]) (wr := [(bl, .inr (4, [.ref bl_le, .ref bl_he, .ref bl_st, .ref bl_fi, .ref bl_be, .ref bl_by, .ref bl_sa, .ref bl_mk, .int (nI bc)])), (bl_mk, .inl (cZ, 33, .inl mk2)), (oc, .inr (1, [.ref oc_ops, .ref oc_opd, .ref oc_fr, .ref oc_to, .ref oc_tg, .int (nI n), .int (nI hn)])), (oc_ops, .inl (cI, 32, .inl f)), (oc_opd, .inl (cI, 32, .inl g)), (oc_fr, .inl (cI, 3, .inl fr)), (oc_to, .inl (cI, 3, .inl to)), (oc_tg, .inl (cI, 3, .inl tg))]) (k_runV (q0 := 8) (As := [.int (nI i)]) (rest := []) (n := 1) S (c_CH_reached l D cI cZ k k_d k_o i d (by omega)) E0_b E0_t ql_BL_45 qi_CH_reached qs_CH_reached qn_CH qc_CH_reached (by decide +kernel) rfl ⟨rfl, rfl⟩ ⟨Nat.le_of_ble_eq_true rfl, Nat.le_of_ble_eq_true rfl⟩ hK hP hD [8, 9] rfl (by decide) rfl rfl hl.1 rfl (Nat.le_of_ble_eq_true rfl) d_BL_mark_73 ⟨Nat.zero_le _, Nat.zero_le _⟩) hP hD hS hA [8, 9] [0, 1, 2, 3, 4, 5, 6, 7] [0, 1, 2, 3, 4, 5, 6, 7, 8, 9] rfl rfl (by decide) (by decide) rfl (by decide) (fun H locs hP hD hS => ?_)
          refine lv_if_eq (tgt := 100) hx hb d_BL_mark_76 (by decide) (fun h76_10 => ?_) (fun h76_10 => ?_)
          · skip
            refine lv_iinc (k := 3) (v := nI (i + 1)) (lv' := [(3, .int (nI (i + 1))), (0, .ref bl), (1, .ref oc), (2, .ref k)]) hx hb d_BL_mark_100 hl rfl (nc_add rfl (by decide)) (by decide) rfl (fun ls hl => ?_)
            refine lv_goto (tgt := 31) hx hb d_BL_mark_103 (by decide) ?_
            have e9 : lp2_BL_mark f g d (kf + 1) i mk2 = lp2_BL_mark f g d kf (i + 1) mk2 := by rw [lp2_BL_mark, if_neg h44_6, if_pos h56_9, if_pos h76_10]
            rw [e9] at kk
            exact ih (i + 1) mk2 (by omega) _ _ _ (lv_sub hl [1, 2, 3, 0] rfl) hP hD hS kk
          · skip
            refine lv_aload_n hx hb d_BL_mark_79 rfl (lv_at hl 1 rfl) ?_
            refine k_get (v := .ref oc_ops) S in_CO hK hP 2 rfl rfl 0 (by decide) ql_BL_57 rfl d_BL_mark_80 ?_
            refine lv_iload_n hx hb d_BL_mark_83 rfl (lv_at hl 3 rfl) ?_
            refine k_ld (k := i) hx hb hK hP 3 0 rfl rfl rfl (by omega) (by decide) d_BL_mark_84 ?_
            refine k_goi (ws' := [(bl, .inr (4, [.ref bl_le, .ref bl_he, .ref bl_st, .ref bl_fi, .ref bl_be, .ref bl_by, .ref bl_sa, .ref bl_mk, .int (nI bc)])), (bl_mk, .inl (cZ, 33, .inl mk2)), (oc, .inr (1, [.ref oc_ops, .ref oc_opd, .ref oc_fr, .ref oc_to, .ref oc_tg, .int (nI n), .int (nI hn)])), (oc_ops, .inl (cI, 32, .inl f)), (oc_opd, .inl (cI, 32, .inl g)), (oc_fr, .inl (cI, 3, .inl fr)), (oc_to, .inl (cI, 3, .inl to)), (oc_tg, .inl (cI, 3, .inl tg)), (k, .inr (2, [.ref k_d, .ref k_o])), (k_d, .inl (cI, 32, .inl d))]) (wr := [(bl, .inr (4, [.ref bl_le, .ref bl_he, .ref bl_st, .ref bl_fi, .ref bl_be, .ref bl_by, .ref bl_sa, .ref bl_mk, .int (nI bc)])), (bl_mk, .inl (cZ, 33, .inl mk2)), (oc, .inr (1, [.ref oc_ops, .ref oc_opd, .ref oc_fr, .ref oc_to, .ref oc_tg, .int (nI n), .int (nI hn)])), (oc_ops, .inl (cI, 32, .inl f)), (oc_opd, .inl (cI, 32, .inl g)), (oc_fr, .inl (cI, 3, .inl fr)), (oc_to, .inl (cI, 3, .inl to)), (oc_tg, .inl (cI, 3, .inl tg)), (k, .inr (2, [.ref k_d, .ref k_o])), (k_d, .inl (cI, 32, .inl d))]) (k_runSN (As := [.int (f i)]) (rest := []) (n := 1) S (c_FF_branches l D cI cZ (f i)) E0_b E0_t (hE.1 _ (List.mem_of_getElem? (i := 10) rfl)) qt_FF_branches qn_FF qc_FF_branches (by decide +kernel) rfl ⟨rfl, rfl⟩ ⟨Nat.le_of_ble_eq_true rfl, Nat.le_of_ble_eq_true rfl⟩ hK hP hD [] rfl (by decide) hl.1 rfl (Nat.le_of_ble_eq_true rfl) d_BL_mark_85 ⟨Nat.zero_le _, Nat.zero_le _⟩) hP hD hS hA [] [0, 1, 2, 3, 4, 5, 6, 7, 8, 9] [0, 1, 2, 3, 4, 5, 6, 7, 8, 9] rfl rfl (by decide) (by decide) rfl (by decide) (fun H locs hP hD hS => ?_)
            refine lv_if_eq (tgt := 100) hx hb d_BL_mark_88 (by decide) (fun h88_11 => ?_) (fun h88_11 => ?_)
            · skip
              refine lv_iinc (k := 3) (v := nI (i + 1)) (lv' := [(3, .int (nI (i + 1))), (0, .ref bl), (1, .ref oc), (2, .ref k)]) hx hb d_BL_mark_100 hl rfl (nc_add rfl (by decide)) (by decide) rfl (fun ls hl => ?_)
              refine lv_goto (tgt := 31) hx hb d_BL_mark_103 (by decide) ?_
              have e9 : lp2_BL_mark f g d (kf + 1) i mk2 = lp2_BL_mark f g d kf (i + 1) mk2 := by rw [lp2_BL_mark, if_neg h44_6, if_pos h56_9, if_neg h76_10, if_pos h88_11]
              rw [e9] at kk
              exact ih (i + 1) mk2 (by omega) _ _ _ (lv_sub hl [1, 2, 3, 0] rfl) hP hD hS kk
            · skip
              refine lv_aload_n hx hb d_BL_mark_91 rfl (lv_at hl 0 rfl) ?_
              refine k_get (v := .ref bl_mk) S in_BL hK hP 0 rfl rfl 7 (by decide) ql_BL_33 rfl d_BL_mark_92 ?_
              refine lv_iload_n hx hb d_BL_mark_95 rfl (lv_at hl 3 rfl) ?_
              refine lv_iconst (v := 1) hx hb d_BL_mark_96 (by decide) ?_
              refine lv_iadd hx hb d_BL_mark_97 ?_
              refine k_top (y := nI (i + 1)) (nc_add rfl (by decide)) ?_
              refine lv_iconst (v := 1) hx hb d_BL_mark_98 (by decide) ?_
              refine k_zst (k := i + 1) (x := 1) (ws' := [(bl, .inr (4, [.ref bl_le, .ref bl_he, .ref bl_st, .ref bl_fi, .ref bl_be, .ref bl_by, .ref bl_sa, .ref bl_mk, .int (nI bc)])), (bl_mk, .inl (cZ, 33, .inl (upd mk2 (i + 1) 1))), (oc, .inr (1, [.ref oc_ops, .ref oc_opd, .ref oc_fr, .ref oc_to, .ref oc_tg, .int (nI n), .int (nI hn)])), (oc_ops, .inl (cI, 32, .inl f)), (oc_opd, .inl (cI, 32, .inl g)), (oc_fr, .inl (cI, 3, .inl fr)), (oc_to, .inl (cI, 3, .inl to)), (oc_tg, .inl (cI, 3, .inl tg)), (k, .inr (2, [.ref k_d, .ref k_o])), (k_d, .inl (cI, 32, .inl d))]) hx hb hK hP hD hS 1 1 rfl rfl rfl (by decide) (by omega) (by decide) rfl d_BL_mark_99 (fun H locs hP hD hS => ?_)
              refine lv_iinc (k := 3) (v := nI (i + 1)) (lv' := [(3, .int (nI (i + 1))), (0, .ref bl), (1, .ref oc), (2, .ref k)]) hx hb d_BL_mark_100 hl rfl (nc_add rfl (by decide)) (by decide) rfl (fun ls hl => ?_)
              refine lv_goto (tgt := 31) hx hb d_BL_mark_103 (by decide) ?_
              have e9 : lp2_BL_mark f g d (kf + 1) i mk2 = lp2_BL_mark f g d kf (i + 1) (upd mk2 (i + 1) 1) := by rw [lp2_BL_mark, if_neg h44_6, if_pos h56_9, if_neg h76_10, if_neg h88_11]
              rw [e9] at kk
              exact ih (i + 1) (upd mk2 (i + 1) 1) (by omega) _ _ _ (lv_sub hl [1, 2, 3, 0] rfl) hP hD hS kk
        · skip
          refine lv_aload_n hx hb d_BL_mark_59 rfl (lv_at hl 0 rfl) ?_
          refine k_get (v := .ref bl_mk) S in_BL hK hP 0 rfl rfl 7 (by decide) ql_BL_33 rfl d_BL_mark_60 ?_
          refine lv_aload_n hx hb d_BL_mark_63 rfl (lv_at hl 1 rfl) ?_
          refine k_get (v := .ref oc_opd) S in_CO hK hP 2 rfl rfl 1 (by decide) ql_BL_63 rfl d_BL_mark_64 ?_
          refine lv_iload_n hx hb d_BL_mark_67 rfl (lv_at hl 3 rfl) ?_
          refine k_ld (k := i) hx hb hK hP 4 0 rfl rfl rfl (by omega) (by decide) d_BL_mark_68 ?_
          refine k_top (y := nI (tn (g i))) (hj i (by omega) (by assumption)).1 ?_
          refine lv_iconst (v := 1) hx hb d_BL_mark_69 (by decide) ?_
          refine k_zst (k := tn (g i)) (x := 1) (ws' := [(bl, .inr (4, [.ref bl_le, .ref bl_he, .ref bl_st, .ref bl_fi, .ref bl_be, .ref bl_by, .ref bl_sa, .ref bl_mk, .int (nI bc)])), (bl_mk, .inl (cZ, 33, .inl (upd mk2 (tn (g i)) 1))), (oc, .inr (1, [.ref oc_ops, .ref oc_opd, .ref oc_fr, .ref oc_to, .ref oc_tg, .int (nI n), .int (nI hn)])), (oc_ops, .inl (cI, 32, .inl f)), (oc_opd, .inl (cI, 32, .inl g)), (oc_fr, .inl (cI, 3, .inl fr)), (oc_to, .inl (cI, 3, .inl to)), (oc_tg, .inl (cI, 3, .inl tg)), (k, .inr (2, [.ref k_d, .ref k_o])), (k_d, .inl (cI, 32, .inl d))]) hx hb hK hP hD hS 1 1 rfl rfl rfl (by decide) (by have := (hj i (by omega) (by assumption)).2; omega) (by decide) rfl d_BL_mark_70 (fun H locs hP hD hS => ?_)
          refine lv_aload_n hx hb d_BL_mark_71 rfl (lv_at hl 2 rfl) ?_
          refine lv_iload_n hx hb d_BL_mark_72 rfl (lv_at hl 3 rfl) ?_
          refine k_goi (ws' := [(bl, .inr (4, [.ref bl_le, .ref bl_he, .ref bl_st, .ref bl_fi, .ref bl_be, .ref bl_by, .ref bl_sa, .ref bl_mk, .int (nI bc)])), (bl_mk, .inl (cZ, 33, .inl (upd mk2 (tn (g i)) 1))), (oc, .inr (1, [.ref oc_ops, .ref oc_opd, .ref oc_fr, .ref oc_to, .ref oc_tg, .int (nI n), .int (nI hn)])), (oc_ops, .inl (cI, 32, .inl f)), (oc_opd, .inl (cI, 32, .inl g)), (oc_fr, .inl (cI, 3, .inl fr)), (oc_to, .inl (cI, 3, .inl to)), (oc_tg, .inl (cI, 3, .inl tg)), (k, .inr (2, [.ref k_d, .ref k_o])), (k_d, .inl (cI, 32, .inl d))]) (wr := [(bl, .inr (4, [.ref bl_le, .ref bl_he, .ref bl_st, .ref bl_fi, .ref bl_be, .ref bl_by, .ref bl_sa, .ref bl_mk, .int (nI bc)])), (bl_mk, .inl (cZ, 33, .inl (upd mk2 (tn (g i)) 1))), (oc, .inr (1, [.ref oc_ops, .ref oc_opd, .ref oc_fr, .ref oc_to, .ref oc_tg, .int (nI n), .int (nI hn)])), (oc_ops, .inl (cI, 32, .inl f)), (oc_opd, .inl (cI, 32, .inl g)), (oc_fr, .inl (cI, 3, .inl fr)), (oc_to, .inl (cI, 3, .inl to)), (oc_tg, .inl (cI, 3, .inl tg))]) (k_runV (q0 := 8) (As := [.int (nI i)]) (rest := []) (n := 1) S (c_CH_reached l D cI cZ k k_d k_o i d (by omega)) E0_b E0_t ql_BL_45 qi_CH_reached qs_CH_reached qn_CH qc_CH_reached (by decide +kernel) rfl ⟨rfl, rfl⟩ ⟨Nat.le_of_ble_eq_true rfl, Nat.le_of_ble_eq_true rfl⟩ hK hP hD [8, 9] rfl (by decide) rfl rfl hl.1 rfl (Nat.le_of_ble_eq_true rfl) d_BL_mark_73 ⟨Nat.zero_le _, Nat.zero_le _⟩) hP hD hS hA [8, 9] [0, 1, 2, 3, 4, 5, 6, 7] [0, 1, 2, 3, 4, 5, 6, 7, 8, 9] rfl rfl (by decide) (by decide) rfl (by decide) (fun H locs hP hD hS => ?_)
          refine lv_if_eq (tgt := 100) hx hb d_BL_mark_76 (by decide) (fun h76_12 => ?_) (fun h76_12 => ?_)
          · skip
            refine lv_iinc (k := 3) (v := nI (i + 1)) (lv' := [(3, .int (nI (i + 1))), (0, .ref bl), (1, .ref oc), (2, .ref k)]) hx hb d_BL_mark_100 hl rfl (nc_add rfl (by decide)) (by decide) rfl (fun ls hl => ?_)
            refine lv_goto (tgt := 31) hx hb d_BL_mark_103 (by decide) ?_
            have e9 : lp2_BL_mark f g d (kf + 1) i mk2 = lp2_BL_mark f g d kf (i + 1) (upd mk2 (tn (g i)) 1) := by rw [lp2_BL_mark, if_neg h44_6, if_neg h56_9, if_pos h76_12]
            rw [e9] at kk
            exact ih (i + 1) (upd mk2 (tn (g i)) 1) (by omega) _ _ _ (lv_sub hl [1, 2, 3, 0] rfl) hP hD hS kk
          · skip
            refine lv_aload_n hx hb d_BL_mark_79 rfl (lv_at hl 1 rfl) ?_
            refine k_get (v := .ref oc_ops) S in_CO hK hP 2 rfl rfl 0 (by decide) ql_BL_57 rfl d_BL_mark_80 ?_
            refine lv_iload_n hx hb d_BL_mark_83 rfl (lv_at hl 3 rfl) ?_
            refine k_ld (k := i) hx hb hK hP 3 0 rfl rfl rfl (by omega) (by decide) d_BL_mark_84 ?_
            refine k_goi (ws' := [(bl, .inr (4, [.ref bl_le, .ref bl_he, .ref bl_st, .ref bl_fi, .ref bl_be, .ref bl_by, .ref bl_sa, .ref bl_mk, .int (nI bc)])), (bl_mk, .inl (cZ, 33, .inl (upd mk2 (tn (g i)) 1))), (oc, .inr (1, [.ref oc_ops, .ref oc_opd, .ref oc_fr, .ref oc_to, .ref oc_tg, .int (nI n), .int (nI hn)])), (oc_ops, .inl (cI, 32, .inl f)), (oc_opd, .inl (cI, 32, .inl g)), (oc_fr, .inl (cI, 3, .inl fr)), (oc_to, .inl (cI, 3, .inl to)), (oc_tg, .inl (cI, 3, .inl tg)), (k, .inr (2, [.ref k_d, .ref k_o])), (k_d, .inl (cI, 32, .inl d))]) (wr := [(bl, .inr (4, [.ref bl_le, .ref bl_he, .ref bl_st, .ref bl_fi, .ref bl_be, .ref bl_by, .ref bl_sa, .ref bl_mk, .int (nI bc)])), (bl_mk, .inl (cZ, 33, .inl (upd mk2 (tn (g i)) 1))), (oc, .inr (1, [.ref oc_ops, .ref oc_opd, .ref oc_fr, .ref oc_to, .ref oc_tg, .int (nI n), .int (nI hn)])), (oc_ops, .inl (cI, 32, .inl f)), (oc_opd, .inl (cI, 32, .inl g)), (oc_fr, .inl (cI, 3, .inl fr)), (oc_to, .inl (cI, 3, .inl to)), (oc_tg, .inl (cI, 3, .inl tg)), (k, .inr (2, [.ref k_d, .ref k_o])), (k_d, .inl (cI, 32, .inl d))]) (k_runSN (As := [.int (f i)]) (rest := []) (n := 1) S (c_FF_branches l D cI cZ (f i)) E0_b E0_t (hE.1 _ (List.mem_of_getElem? (i := 10) rfl)) qt_FF_branches qn_FF qc_FF_branches (by decide +kernel) rfl ⟨rfl, rfl⟩ ⟨Nat.le_of_ble_eq_true rfl, Nat.le_of_ble_eq_true rfl⟩ hK hP hD [] rfl (by decide) hl.1 rfl (Nat.le_of_ble_eq_true rfl) d_BL_mark_85 ⟨Nat.zero_le _, Nat.zero_le _⟩) hP hD hS hA [] [0, 1, 2, 3, 4, 5, 6, 7, 8, 9] [0, 1, 2, 3, 4, 5, 6, 7, 8, 9] rfl rfl (by decide) (by decide) rfl (by decide) (fun H locs hP hD hS => ?_)
            refine lv_if_eq (tgt := 100) hx hb d_BL_mark_88 (by decide) (fun h88_13 => ?_) (fun h88_13 => ?_)
            · skip
              refine lv_iinc (k := 3) (v := nI (i + 1)) (lv' := [(3, .int (nI (i + 1))), (0, .ref bl), (1, .ref oc), (2, .ref k)]) hx hb d_BL_mark_100 hl rfl (nc_add rfl (by decide)) (by decide) rfl (fun ls hl => ?_)
              refine lv_goto (tgt := 31) hx hb d_BL_mark_103 (by decide) ?_
              have e9 : lp2_BL_mark f g d (kf + 1) i mk2 = lp2_BL_mark f g d kf (i + 1) (upd mk2 (tn (g i)) 1) := by rw [lp2_BL_mark, if_neg h44_6, if_neg h56_9, if_neg h76_12, if_pos h88_13]
              rw [e9] at kk
              exact ih (i + 1) (upd mk2 (tn (g i)) 1) (by omega) _ _ _ (lv_sub hl [1, 2, 3, 0] rfl) hP hD hS kk
            · skip
              refine lv_aload_n hx hb d_BL_mark_91 rfl (lv_at hl 0 rfl) ?_
              refine k_get (v := .ref bl_mk) S in_BL hK hP 0 rfl rfl 7 (by decide) ql_BL_33 rfl d_BL_mark_92 ?_
              refine lv_iload_n hx hb d_BL_mark_95 rfl (lv_at hl 3 rfl) ?_
              refine lv_iconst (v := 1) hx hb d_BL_mark_96 (by decide) ?_
              refine lv_iadd hx hb d_BL_mark_97 ?_
              refine k_top (y := nI (i + 1)) (nc_add rfl (by decide)) ?_
              refine lv_iconst (v := 1) hx hb d_BL_mark_98 (by decide) ?_
              refine k_zst (k := i + 1) (x := 1) (ws' := [(bl, .inr (4, [.ref bl_le, .ref bl_he, .ref bl_st, .ref bl_fi, .ref bl_be, .ref bl_by, .ref bl_sa, .ref bl_mk, .int (nI bc)])), (bl_mk, .inl (cZ, 33, .inl (upd (upd mk2 (tn (g i)) 1) (i + 1) 1))), (oc, .inr (1, [.ref oc_ops, .ref oc_opd, .ref oc_fr, .ref oc_to, .ref oc_tg, .int (nI n), .int (nI hn)])), (oc_ops, .inl (cI, 32, .inl f)), (oc_opd, .inl (cI, 32, .inl g)), (oc_fr, .inl (cI, 3, .inl fr)), (oc_to, .inl (cI, 3, .inl to)), (oc_tg, .inl (cI, 3, .inl tg)), (k, .inr (2, [.ref k_d, .ref k_o])), (k_d, .inl (cI, 32, .inl d))]) hx hb hK hP hD hS 1 1 rfl rfl rfl (by decide) (by omega) (by decide) rfl d_BL_mark_99 (fun H locs hP hD hS => ?_)
              refine lv_iinc (k := 3) (v := nI (i + 1)) (lv' := [(3, .int (nI (i + 1))), (0, .ref bl), (1, .ref oc), (2, .ref k)]) hx hb d_BL_mark_100 hl rfl (nc_add rfl (by decide)) (by decide) rfl (fun ls hl => ?_)
              refine lv_goto (tgt := 31) hx hb d_BL_mark_103 (by decide) ?_
              have e9 : lp2_BL_mark f g d (kf + 1) i mk2 = lp2_BL_mark f g d kf (i + 1) (upd (upd mk2 (tn (g i)) 1) (i + 1) 1) := by rw [lp2_BL_mark, if_neg h44_6, if_neg h56_9, if_neg h76_12, if_neg h88_13]
              rw [e9] at kk
              exact ih (i + 1) (upd (upd mk2 (tn (g i)) 1) (i + 1) 1) (by omega) _ _ _ (lv_sub hl [1, 2, 3, 0] rfl) hP hD hS kk
  refine LP31 n 0 (lp1_BL_mark 33 0 mk) (by omega) _ _ _ (lv_sub hl [1, 2, 3, 0] rfl) hP hD hS (fun ls H locs hl hP hD hS => ?_)
  refine lv_iconst (v := nI 0) hx hb d_BL_mark_106 (by decide) ?_
  refine lv_istore_n (lv' := [(3, .int (nI 0)), (0, .ref bl), (1, .ref oc), (2, .ref k)]) hx hb d_BL_mark_107 rfl hl (by decide) rfl (fun ls hl => ?_)
  have LP108 : ∀ (kf : Nat) (h : Nat) (mk3 : Nat → Int32), (h + kf = hn) → ∀ (ls : Array Slot) (H : Heap) (locs : List Loc), lv_has ls 4 [(0, .ref bl), (1, .ref oc), (2, .ref k), (3, .int (nI h))] → va_P D classes [(bl, .inr (4, [.ref bl_le, .ref bl_he, .ref bl_st, .ref bl_fi, .ref bl_be, .ref bl_by, .ref bl_sa, .ref bl_mk, .int (nI bc)])), (bl_mk, .inl (cZ, 33, .inl mk3)), (oc, .inr (1, [.ref oc_ops, .ref oc_opd, .ref oc_fr, .ref oc_to, .ref oc_tg, .int (nI n), .int (nI hn)])), (oc_ops, .inl (cI, 32, .inl f)), (oc_opd, .inl (cI, 32, .inl g)), (oc_fr, .inl (cI, 3, .inl fr)), (oc_to, .inl (cI, 3, .inl to)), (oc_tg, .inl (cI, 3, .inl tg)), (k, .inr (2, [.ref k_d, .ref k_o])), (k_d, .inl (cI, 32, .inl d))] H → va_D A [(bl, .inr (4, [.ref bl_le, .ref bl_he, .ref bl_st, .ref bl_fi, .ref bl_be, .ref bl_by, .ref bl_sa, .ref bl_mk, .int (nI bc)])), (bl_mk, .inl (cZ, 33, .inl mk3)), (oc, .inr (1, [.ref oc_ops, .ref oc_opd, .ref oc_fr, .ref oc_to, .ref oc_tg, .int (nI n), .int (nI hn)])), (oc_ops, .inl (cI, 32, .inl f)), (oc_opd, .inl (cI, 32, .inl g)), (oc_fr, .inl (cI, 3, .inl fr)), (oc_to, .inl (cI, 3, .inl to)), (oc_tg, .inl (cI, 3, .inl tg)), (k, .inr (2, [.ref k_d, .ref k_o])), (k_d, .inl (cI, 32, .inl d))] → va_S A s.heap H locs → (∀ (ls : Array Slot) (H : Heap) (locs : List Loc), lv_has ls 4 [(0, .ref bl), (1, .ref oc), (2, .ref k)] → va_P D classes [(bl, .inr (4, [.ref bl_le, .ref bl_he, .ref bl_st, .ref bl_fi, .ref bl_be, .ref bl_by, .ref bl_sa, .ref bl_mk, .int (nI bc)])), (bl_mk, .inl (cZ, 33, .inl (lp3_BL_mark fr to tg kf h mk3))), (oc, .inr (1, [.ref oc_ops, .ref oc_opd, .ref oc_fr, .ref oc_to, .ref oc_tg, .int (nI n), .int (nI hn)])), (oc_ops, .inl (cI, 32, .inl f)), (oc_opd, .inl (cI, 32, .inl g)), (oc_fr, .inl (cI, 3, .inl fr)), (oc_to, .inl (cI, 3, .inl to)), (oc_tg, .inl (cI, 3, .inl tg)), (k, .inr (2, [.ref k_d, .ref k_o])), (k_d, .inl (cI, 32, .inl d))] H → va_D A [(bl, .inr (4, [.ref bl_le, .ref bl_he, .ref bl_st, .ref bl_fi, .ref bl_be, .ref bl_by, .ref bl_sa, .ref bl_mk, .int (nI bc)])), (bl_mk, .inl (cZ, 33, .inl (lp3_BL_mark fr to tg kf h mk3))), (oc, .inr (1, [.ref oc_ops, .ref oc_opd, .ref oc_fr, .ref oc_to, .ref oc_tg, .int (nI n), .int (nI hn)])), (oc_ops, .inl (cI, 32, .inl f)), (oc_opd, .inl (cI, 32, .inl g)), (oc_fr, .inl (cI, 3, .inl fr)), (oc_to, .inl (cI, 3, .inl to)), (oc_tg, .inl (cI, 3, .inl tg)), (k, .inr (2, [.ref k_d, .ref k_o])), (k_d, .inl (cI, 32, .inl d))] → va_S A s.heap H locs → W p l e (rmK 2 40) s m [.ref bl, .ref oc, .ref k].toArray below meth c H locs 0 0 (MQ below (RV D classes (tyz cI cZ) [(bl, .inr (4, [.ref bl_le, .ref bl_he, .ref bl_st, .ref bl_fi, .ref bl_be, .ref bl_by, .ref bl_sa, .ref bl_mk, .int (nI bc)])), (bl_mk, .inl (cZ, 33, .inl (f_BL_mark n hn mk f g fr to tg d))), (oc, .inr (1, [.ref oc_ops, .ref oc_opd, .ref oc_fr, .ref oc_to, .ref oc_tg, .int (nI n), .int (nI hn)])), (oc_ops, .inl (cI, 32, .inl f)), (oc_opd, .inl (cI, 32, .inl g)), (oc_fr, .inl (cI, 3, .inl fr)), (oc_to, .inl (cI, 3, .inl to)), (oc_tg, .inl (cI, 3, .inl tg)), (k, .inr (2, [.ref k_d, .ref k_o])), (k_d, .inl (cI, 32, .inl d))] A) [.ref bl, .ref oc, .ref k].toArray s 0 0 A) (F0 m 158 ls [])) → W p l e (rmK 2 40) s m [.ref bl, .ref oc, .ref k].toArray below meth c H locs 0 0 (MQ below (RV D classes (tyz cI cZ) [(bl, .inr (4, [.ref bl_le, .ref bl_he, .ref bl_st, .ref bl_fi, .ref bl_be, .ref bl_by, .ref bl_sa, .ref bl_mk, .int (nI bc)])), (bl_mk, .inl (cZ, 33, .inl (f_BL_mark n hn mk f g fr to tg d))), (oc, .inr (1, [.ref oc_ops, .ref oc_opd, .ref oc_fr, .ref oc_to, .ref oc_tg, .int (nI n), .int (nI hn)])), (oc_ops, .inl (cI, 32, .inl f)), (oc_opd, .inl (cI, 32, .inl g)), (oc_fr, .inl (cI, 3, .inl fr)), (oc_to, .inl (cI, 3, .inl to)), (oc_tg, .inl (cI, 3, .inl tg)), (k, .inr (2, [.ref k_d, .ref k_o])), (k_d, .inl (cI, 32, .inl d))] A) [.ref bl, .ref oc, .ref k].toArray s 0 0 A) (F0 m 108 ls []) := by
    intro kf
    induction kf with
    | zero =>
      intro h mk3 hk ls H locs hl hP hD hS kk
      refine lv_iload_n hx hb d_BL_mark_108 rfl (lv_at hl 3 rfl) ?_
      refine lv_aload_n hx hb d_BL_mark_109 rfl (lv_at hl 1 rfl) ?_
      refine k_get (v := .int (nI hn)) S in_CO hK hP 2 rfl rfl 6 (by decide) ql_BL_69 rfl d_BL_mark_110 ?_
      refine n_icmp_ge (tgt := 158) (x := h) (y := hn) hx hb rfl rfl (by omega) (by omega) d_BL_mark_113 (by decide) (fun h113_14 => ?_) (fun h113_14 => absurd h113_14 (by omega))
      have e9 : lp3_BL_mark fr to tg 0 h mk3 = mk3 := by rw [lp3_BL_mark]
      rw [e9] at kk
      exact kk _ _ _ (lv_sub hl [0, 1, 2] rfl) hP hD hS
    | succ kf ih =>
      intro h mk3 hk ls H locs hl hP hD hS kk
      refine lv_iload_n hx hb d_BL_mark_108 rfl (lv_at hl 3 rfl) ?_
      refine lv_aload_n hx hb d_BL_mark_109 rfl (lv_at hl 1 rfl) ?_
      refine k_get (v := .int (nI hn)) S in_CO hK hP 2 rfl rfl 6 (by decide) ql_BL_69 rfl d_BL_mark_110 ?_
      refine n_icmp_ge (tgt := 158) (x := h) (y := hn) hx hb rfl rfl (by omega) (by omega) d_BL_mark_113 (by decide) (fun h113_15 => absurd h113_15 (by omega)) (fun h113_15 => ?_)
      refine lv_aload_n hx hb d_BL_mark_116 rfl (lv_at hl 0 rfl) ?_
      refine k_get (v := .ref bl_mk) S in_BL hK hP 0 rfl rfl 7 (by decide) ql_BL_33 rfl d_BL_mark_117 ?_
      refine lv_aload_n hx hb d_BL_mark_120 rfl (lv_at hl 1 rfl) ?_
      refine k_get (v := .ref oc_fr) S in_CO hK hP 2 rfl rfl 2 (by decide) ql_BL_72 rfl d_BL_mark_121 ?_
      refine lv_iload_n hx hb d_BL_mark_124 rfl (lv_at hl 3 rfl) ?_
      refine k_ld (k := h) hx hb hK hP 5 0 rfl rfl rfl (by omega) (by decide) d_BL_mark_125 ?_
      refine k_top (y := nI (tn (fr h))) (hbr h (by omega)).1.1 ?_
      refine lv_iconst (v := 1) hx hb d_BL_mark_126 (by decide) ?_
      refine k_zst (k := tn (fr h)) (x := 1) (ws' := [(bl, .inr (4, [.ref bl_le, .ref bl_he, .ref bl_st, .ref bl_fi, .ref bl_be, .ref bl_by, .ref bl_sa, .ref bl_mk, .int (nI bc)])), (bl_mk, .inl (cZ, 33, .inl (upd mk3 (tn (fr h)) 1))), (oc, .inr (1, [.ref oc_ops, .ref oc_opd, .ref oc_fr, .ref oc_to, .ref oc_tg, .int (nI n), .int (nI hn)])), (oc_ops, .inl (cI, 32, .inl f)), (oc_opd, .inl (cI, 32, .inl g)), (oc_fr, .inl (cI, 3, .inl fr)), (oc_to, .inl (cI, 3, .inl to)), (oc_tg, .inl (cI, 3, .inl tg)), (k, .inr (2, [.ref k_d, .ref k_o])), (k_d, .inl (cI, 32, .inl d))]) hx hb hK hP hD hS 1 1 rfl rfl rfl (by decide) (hbr h (by omega)).1.2 (by decide) rfl d_BL_mark_127 (fun H locs hP hD hS => ?_)
      refine lv_aload_n hx hb d_BL_mark_128 rfl (lv_at hl 0 rfl) ?_
      refine k_get (v := .ref bl_mk) S in_BL hK hP 0 rfl rfl 7 (by decide) ql_BL_33 rfl d_BL_mark_129 ?_
      refine lv_aload_n hx hb d_BL_mark_132 rfl (lv_at hl 1 rfl) ?_
      refine k_get (v := .ref oc_to) S in_CO hK hP 2 rfl rfl 3 (by decide) ql_BL_75 rfl d_BL_mark_133 ?_
      refine lv_iload_n hx hb d_BL_mark_136 rfl (lv_at hl 3 rfl) ?_
      refine k_ld (k := h) hx hb hK hP 6 0 rfl rfl rfl (by omega) (by decide) d_BL_mark_137 ?_
      refine k_top (y := nI (tn (to h))) (hbr h (by omega)).2.1.1 ?_
      refine lv_iconst (v := 1) hx hb d_BL_mark_138 (by decide) ?_
      refine k_zst (k := tn (to h)) (x := 1) (ws' := [(bl, .inr (4, [.ref bl_le, .ref bl_he, .ref bl_st, .ref bl_fi, .ref bl_be, .ref bl_by, .ref bl_sa, .ref bl_mk, .int (nI bc)])), (bl_mk, .inl (cZ, 33, .inl (upd (upd mk3 (tn (fr h)) 1) (tn (to h)) 1))), (oc, .inr (1, [.ref oc_ops, .ref oc_opd, .ref oc_fr, .ref oc_to, .ref oc_tg, .int (nI n), .int (nI hn)])), (oc_ops, .inl (cI, 32, .inl f)), (oc_opd, .inl (cI, 32, .inl g)), (oc_fr, .inl (cI, 3, .inl fr)), (oc_to, .inl (cI, 3, .inl to)), (oc_tg, .inl (cI, 3, .inl tg)), (k, .inr (2, [.ref k_d, .ref k_o])), (k_d, .inl (cI, 32, .inl d))]) hx hb hK hP hD hS 1 1 rfl rfl rfl (by decide) (hbr h (by omega)).2.1.2 (by decide) rfl d_BL_mark_139 (fun H locs hP hD hS => ?_)
      refine lv_aload_n hx hb d_BL_mark_140 rfl (lv_at hl 0 rfl) ?_
      refine k_get (v := .ref bl_mk) S in_BL hK hP 0 rfl rfl 7 (by decide) ql_BL_33 rfl d_BL_mark_141 ?_
      refine lv_aload_n hx hb d_BL_mark_144 rfl (lv_at hl 1 rfl) ?_
      refine k_get (v := .ref oc_tg) S in_CO hK hP 2 rfl rfl 4 (by decide) ql_BL_78 rfl d_BL_mark_145 ?_
      refine lv_iload_n hx hb d_BL_mark_148 rfl (lv_at hl 3 rfl) ?_
      refine k_ld (k := h) hx hb hK hP 7 0 rfl rfl rfl (by omega) (by decide) d_BL_mark_149 ?_
      refine k_top (y := nI (tn (tg h))) (hbr h (by omega)).2.2.1 ?_
      refine lv_iconst (v := 1) hx hb d_BL_mark_150 (by decide) ?_
      refine k_zst (k := tn (tg h)) (x := 1) (ws' := [(bl, .inr (4, [.ref bl_le, .ref bl_he, .ref bl_st, .ref bl_fi, .ref bl_be, .ref bl_by, .ref bl_sa, .ref bl_mk, .int (nI bc)])), (bl_mk, .inl (cZ, 33, .inl (upd (upd (upd mk3 (tn (fr h)) 1) (tn (to h)) 1) (tn (tg h)) 1))), (oc, .inr (1, [.ref oc_ops, .ref oc_opd, .ref oc_fr, .ref oc_to, .ref oc_tg, .int (nI n), .int (nI hn)])), (oc_ops, .inl (cI, 32, .inl f)), (oc_opd, .inl (cI, 32, .inl g)), (oc_fr, .inl (cI, 3, .inl fr)), (oc_to, .inl (cI, 3, .inl to)), (oc_tg, .inl (cI, 3, .inl tg)), (k, .inr (2, [.ref k_d, .ref k_o])), (k_d, .inl (cI, 32, .inl d))]) hx hb hK hP hD hS 1 1 rfl rfl rfl (by decide) (hbr h (by omega)).2.2.2 (by decide) rfl d_BL_mark_151 (fun H locs hP hD hS => ?_)
      refine lv_iinc (k := 3) (v := nI (h + 1)) (lv' := [(3, .int (nI (h + 1))), (0, .ref bl), (1, .ref oc), (2, .ref k)]) hx hb d_BL_mark_152 hl rfl (nc_add rfl (by decide)) (by decide) rfl (fun ls hl => ?_)
      refine lv_goto (tgt := 108) hx hb d_BL_mark_155 (by decide) ?_
      have e9 : lp3_BL_mark fr to tg (kf + 1) h mk3 = lp3_BL_mark fr to tg kf (h + 1) (upd (upd (upd mk3 (tn (fr h)) 1) (tn (to h)) 1) (tn (tg h)) 1) := by rw [lp3_BL_mark]
      rw [e9] at kk
      exact ih (h + 1) (upd (upd (upd mk3 (tn (fr h)) 1) (tn (to h)) 1) (tn (tg h)) 1) (by omega) _ _ _ (lv_sub hl [1, 2, 3, 0] rfl) hP hD hS kk
  refine LP108 hn 0 (lp2_BL_mark f g d n 0 (lp1_BL_mark 33 0 mk)) (by omega) _ _ _ (lv_sub hl [1, 2, 3, 0] rfl) hP hD hS (fun ls H locs hl hP hD hS => ?_)
  exact k_vret hx hb hr hlocks hK hP hD hS (by rw [f_BL_mark]) d_BL_mark_158

theorem d_BL_find_0 : decode b_BL_find 0 = .ok (.aload_n 0, 1) := by decide +kernel
theorem d_BL_find_1 : decode b_BL_find 1 = .ok (.aload_n 1, 1) := by decide +kernel
theorem d_BL_find_2 : decode b_BL_find 2 = .ok (.aload_n 2, 1) := by decide +kernel
theorem d_BL_find_3 : decode b_BL_find 3 = .ok (.invokevirtual 37, 3) := by decide +kernel
theorem d_BL_find_6 : decode b_BL_find 6 = .ok (.aload_n 0, 1) := by decide +kernel
theorem d_BL_find_7 : decode b_BL_find 7 = .ok (.iconst 0, 1) := by decide +kernel
theorem d_BL_find_8 : decode b_BL_find 8 = .ok (.putfield 41, 3) := by decide +kernel
theorem d_BL_find_11 : decode b_BL_find 11 = .ok (.iconst 0, 1) := by decide +kernel
theorem d_BL_find_12 : decode b_BL_find 12 = .ok (.istore_n 3, 1) := by decide +kernel
theorem d_BL_find_13 : decode b_BL_find 13 = .ok (.iload_n 3, 1) := by decide +kernel
theorem d_BL_find_14 : decode b_BL_find 14 = .ok (.bipush 32, 2) := by decide +kernel
theorem d_BL_find_16 : decode b_BL_find 16 = .ok (.if_icmp .ge 78, 3) := by decide +kernel
theorem d_BL_find_19 : decode b_BL_find 19 = .ok (.aload_n 0, 1) := by decide +kernel
theorem d_BL_find_20 : decode b_BL_find 20 = .ok (.getfield 30, 3) := by decide +kernel
theorem d_BL_find_23 : decode b_BL_find 23 = .ok (.iload_n 3, 1) := by decide +kernel
theorem d_BL_find_24 : decode b_BL_find 24 = .ok (.iconst (-1), 1) := by decide +kernel
theorem d_BL_find_25 : decode b_BL_find 25 = .ok (.iastore, 1) := by decide +kernel
theorem d_BL_find_26 : decode b_BL_find 26 = .ok (.aload_n 0, 1) := by decide +kernel
theorem d_BL_find_27 : decode b_BL_find 27 = .ok (.getfield 33, 3) := by decide +kernel
theorem d_BL_find_30 : decode b_BL_find 30 = .ok (.iload_n 3, 1) := by decide +kernel
theorem d_BL_find_31 : decode b_BL_find 31 = .ok (.baload, 1) := by decide +kernel
theorem d_BL_find_32 : decode b_BL_find 32 = .ok (.ifCond .eq 56, 3) := by decide +kernel
theorem d_BL_find_35 : decode b_BL_find 35 = .ok (.aload_n 2, 1) := by decide +kernel
theorem d_BL_find_36 : decode b_BL_find 36 = .ok (.iload_n 3, 1) := by decide +kernel
theorem d_BL_find_37 : decode b_BL_find 37 = .ok (.invokevirtual 45, 3) := by decide +kernel
theorem d_BL_find_40 : decode b_BL_find 40 = .ok (.ifCond .eq 48, 3) := by decide +kernel
theorem d_BL_find_43 : decode b_BL_find 43 = .ok (.aload_n 0, 1) := by decide +kernel
theorem d_BL_find_44 : decode b_BL_find 44 = .ok (.getfield 30, 3) := by decide +kernel
theorem d_BL_find_47 : decode b_BL_find 47 = .ok (.iload_n 3, 1) := by decide +kernel
theorem d_BL_find_48 : decode b_BL_find 48 = .ok (.aload_n 0, 1) := by decide +kernel
theorem d_BL_find_49 : decode b_BL_find 49 = .ok (.getfield 41, 3) := by decide +kernel
theorem d_BL_find_52 : decode b_BL_find 52 = .ok (.iastore, 1) := by decide +kernel
theorem d_BL_find_53 : decode b_BL_find 53 = .ok (.aload_n 0, 1) := by decide +kernel
theorem d_BL_find_54 : decode b_BL_find 54 = .ok (.getfield 9, 3) := by decide +kernel
theorem d_BL_find_57 : decode b_BL_find 57 = .ok (.aload_n 0, 1) := by decide +kernel
theorem d_BL_find_58 : decode b_BL_find 58 = .ok (.getfield 41, 3) := by decide +kernel
theorem d_BL_find_61 : decode b_BL_find 61 = .ok (.iload_n 3, 1) := by decide +kernel
theorem d_BL_find_62 : decode b_BL_find 62 = .ok (.iastore, 1) := by decide +kernel
theorem d_BL_find_63 : decode b_BL_find 63 = .ok (.aload_n 0, 1) := by decide +kernel
theorem d_BL_find_64 : decode b_BL_find 64 = .ok (.getfield 15, 3) := by decide +kernel
theorem d_BL_find_67 : decode b_BL_find 67 = .ok (.aload_n 0, 1) := by decide +kernel
theorem d_BL_find_68 : decode b_BL_find 68 = .ok (.getfield 41, 3) := by decide +kernel
theorem d_BL_find_71 : decode b_BL_find 71 = .ok (.aload_n 2, 1) := by decide +kernel
theorem d_BL_find_72 : decode b_BL_find 72 = .ok (.getfield 51, 3) := by decide +kernel
theorem d_BL_find_75 : decode b_BL_find 75 = .ok (.iload_n 3, 1) := by decide +kernel
theorem d_BL_find_76 : decode b_BL_find 76 = .ok (.iaload, 1) := by decide +kernel
theorem d_BL_find_77 : decode b_BL_find 77 = .ok (.iastore, 1) := by decide +kernel
theorem d_BL_find_78 : decode b_BL_find 78 = .ok (.aload_n 0, 1) := by decide +kernel
theorem d_BL_find_79 : decode b_BL_find 79 = .ok (.dup, 1) := by decide +kernel
theorem d_BL_find_80 : decode b_BL_find 80 = .ok (.getfield 41, 3) := by decide +kernel
theorem d_BL_find_83 : decode b_BL_find 83 = .ok (.iconst 1, 1) := by decide +kernel
theorem d_BL_find_84 : decode b_BL_find 84 = .ok (.iadd, 1) := by decide +kernel
theorem d_BL_find_85 : decode b_BL_find 85 = .ok (.putfield 41, 3) := by decide +kernel
theorem d_BL_find_88 : decode b_BL_find 88 = .ok (.iinc 3 1, 3) := by decide +kernel
theorem d_BL_find_91 : decode b_BL_find 91 = .ok (.goto (-78), 3) := by decide +kernel
theorem d_BL_find_94 : decode b_BL_find 94 = .ok (.return_, 1) := by decide +kernel
def lp_BL_find (n : Nat) (hn : Nat) (mk : Nat → Int32) (f : Nat → Int32) (g : Nat → Int32) (fr : Nat → Int32) (to : Nat → Int32) (tg : Nat → Int32) (d : Nat → Int32) : Nat → Nat → Nat → (Nat → Int32) → (Nat → Int32) → (Nat → Int32) → Nat × (Nat → Int32) × (Nat → Int32) × (Nat → Int32)
  | 0, i, bq, le1, he1, sa1 => (bq, le1, he1, sa1)
  | kf + 1, i, bq, le1, he1, sa1 => (if (f_BL_mark n hn mk f g fr to tg d) i = 0 then (lp_BL_find n hn mk f g fr to tg d kf (i + 1) bq le1 he1 (upd sa1 i (-1))) else (if f_CH_reached i d = 0 then (lp_BL_find n hn mk f g fr to tg d kf (i + 1) bq le1 he1 (upd sa1 i (-1))) else (lp_BL_find n hn mk f g fr to tg d kf (i + 1) (bq + 1) (upd le1 bq (nI i)) (upd he1 bq (d i)) (upd (upd sa1 i (-1)) i (nI bq)))))
def f_BL_find (n : Nat) (hn : Nat) (mk : Nat → Int32) (f : Nat → Int32) (g : Nat → Int32) (fr : Nat → Int32) (to : Nat → Int32) (tg : Nat → Int32) (d : Nat → Int32) (le : Nat → Int32) (he : Nat → Int32) (sa : Nat → Int32) : (Nat → Int32) × Nat × (Nat → Int32) × (Nat → Int32) × (Nat → Int32) := (f_BL_mark n hn mk f g fr to tg d, (lp_BL_find n hn mk f g fr to tg d 32 0 0 le he sa).1, (lp_BL_find n hn mk f g fr to tg d 32 0 0 le he sa).2.1, (lp_BL_find n hn mk f g fr to tg d 32 0 0 le he sa).2.2.1, (lp_BL_find n hn mk f g fr to tg d 32 0 0 le he sa).2.2.2)
set_option maxHeartbeats 1000000 in
set_option maxRecDepth 100000 in
theorem c_BL_find (l : Launch) (D : va_G) (cI cZ : ClassId) (tt tp bl k k_d k_o : Nat) (bl_le bl_he bl_st bl_fi bl_be bl_by bl_sa bl_mk bc : Nat) (oc oc_ops oc_opd oc_fr oc_to oc_tg n hn : Nat) (mk f g fr to tg d : Nat → Int32) (le he sa : Nat → Int32) (hh : n ≤ 32) (h3 : hn ≤ 3) (hj : ∀ i, i < n → ¬ f_FF_jumps (f i) = 0 → g i = nI (tn (g i)) ∧ tn (g i) < 32) (hbr : ∀ h, h < hn → Nn fr h 33 ∧ Nn to h 33 ∧ Nn tg h 33) : MG l y_BL_find w_BL_find (rmK 3 63) D classes (tyz cI cZ) (EN tt tp) [.ref bl, .ref oc, .ref k] [(bl, .inr (4, [.ref bl_le, .ref bl_he, .ref bl_st, .ref bl_fi, .ref bl_be, .ref bl_by, .ref bl_sa, .ref bl_mk, .int (nI bc)])), (bl_mk, .inl (cZ, 33, .inl mk)), (oc, .inr (1, [.ref oc_ops, .ref oc_opd, .ref oc_fr, .ref oc_to, .ref oc_tg, .int (nI n), .int (nI hn)])), (oc_ops, .inl (cI, 32, .inl f)), (oc_opd, .inl (cI, 32, .inl g)), (oc_fr, .inl (cI, 3, .inl fr)), (oc_to, .inl (cI, 3, .inl to)), (oc_tg, .inl (cI, 3, .inl tg)), (k, .inr (2, [.ref k_d, .ref k_o])), (k_d, .inl (cI, 32, .inl d)), (bl_le, .inl (cI, 32, .inl le)), (bl_he, .inl (cI, 32, .inl he)), (bl_sa, .inl (cI, 32, .inl sa))] (RV D classes (tyz cI cZ) [(bl, .inr (4, [.ref bl_le, .ref bl_he, .ref bl_st, .ref bl_fi, .ref bl_be, .ref bl_by, .ref bl_sa, .ref bl_mk, .int (nI ((f_BL_find n hn mk f g fr to tg d le he sa).2.1))])), (bl_mk, .inl (cZ, 33, .inl ((f_BL_find n hn mk f g fr to tg d le he sa).1))), (oc, .inr (1, [.ref oc_ops, .ref oc_opd, .ref oc_fr, .ref oc_to, .ref oc_tg, .int (nI n), .int (nI hn)])), (oc_ops, .inl (cI, 32, .inl f)), (oc_opd, .inl (cI, 32, .inl g)), (oc_fr, .inl (cI, 3, .inl fr)), (oc_to, .inl (cI, 3, .inl to)), (oc_tg, .inl (cI, 3, .inl tg)), (k, .inr (2, [.ref k_d, .ref k_o])), (k_d, .inl (cI, 32, .inl d)), (bl_le, .inl (cI, 32, .inl ((f_BL_find n hn mk f g fr to tg d le he sa).2.2.1))), (bl_he, .inl (cI, 32, .inl ((f_BL_find n hn mk f g fr to tg d le he sa).2.2.2.1))), (bl_sa, .inl (cI, 32, .inl ((f_BL_find n hn mk f g fr to tg d le he sa).2.2.2.2)))]) := by
  refine MG.of (cc := b_BL_find) (maxL := 4) (ret := none) (own := "FlowFlattener$Blocks") rfl (by decide) rfl (Nat.le_of_ble_eq_true rfl) ?_
  intro p e s m below meth c A ls S hr hlocks hA hP hK hD hS hE hl
  have hx := S.1
  have hb := S.2.1
  have hl : lv_has ls 4 [(0, .ref bl), (1, .ref oc), (2, .ref k)] := hl
  refine lv_aload_n hx hb d_BL_find_0 rfl (lv_at hl 0 rfl) ?_
  refine lv_aload_n hx hb d_BL_find_1 rfl (lv_at hl 1 rfl) ?_
  refine lv_aload_n hx hb d_BL_find_2 rfl (lv_at hl 2 rfl) ?_
  refine k_gov (ws' := [(bl, .inr (4, [.ref bl_le, .ref bl_he, .ref bl_st, .ref bl_fi, .ref bl_be, .ref bl_by, .ref bl_sa, .ref bl_mk, .int (nI bc)])), (bl_mk, .inl (cZ, 33, .inl (f_BL_mark n hn mk f g fr to tg d))), (oc, .inr (1, [.ref oc_ops, .ref oc_opd, .ref oc_fr, .ref oc_to, .ref oc_tg, .int (nI n), .int (nI hn)])), (oc_ops, .inl (cI, 32, .inl f)), (oc_opd, .inl (cI, 32, .inl g)), (oc_fr, .inl (cI, 3, .inl fr)), (oc_to, .inl (cI, 3, .inl to)), (oc_tg, .inl (cI, 3, .inl tg)), (k, .inr (2, [.ref k_d, .ref k_o])), (k_d, .inl (cI, 32, .inl d)), (bl_le, .inl (cI, 32, .inl le)), (bl_he, .inl (cI, 32, .inl he)), (bl_sa, .inl (cI, 32, .inl sa))]) (wr := [(bl_le, .inl (cI, 32, .inl le)), (bl_he, .inl (cI, 32, .inl he)), (bl_sa, .inl (cI, 32, .inl sa))]) (k_runV (q0 := 0) (As := [.ref oc, .ref k]) (rest := []) (n := 2) S (c_BL_mark l D cI cZ tt tp bl k k_d k_o bl_le bl_he bl_st bl_fi bl_be bl_by bl_sa bl_mk bc oc oc_ops oc_opd oc_fr oc_to oc_tg n hn mk f g fr to tg d (by omega) (by omega) hj hbr) EN_b (EN_t hE hS (va_free (wc := [(bl, .inr (4, [.ref bl_le, .ref bl_he, .ref bl_st, .ref bl_fi, .ref bl_be, .ref bl_by, .ref bl_sa, .ref bl_mk, .int (nI bc)])), (bl_mk, .inl (cZ, 33, .inl mk)), (oc, .inr (1, [.ref oc_ops, .ref oc_opd, .ref oc_fr, .ref oc_to, .ref oc_tg, .int (nI n), .int (nI hn)])), (oc_ops, .inl (cI, 32, .inl f)), (oc_opd, .inl (cI, 32, .inl g)), (oc_fr, .inl (cI, 3, .inl fr)), (oc_to, .inl (cI, 3, .inl to)), (oc_tg, .inl (cI, 3, .inl tg)), (k, .inr (2, [.ref k_d, .ref k_o])), (k_d, .inl (cI, 32, .inl d))]) hD hS hA [0, 1, 2, 3, 4, 5, 6, 7, 8, 9] rfl)) ql_BL_37 qi_BL_mark qs_BL_mark qn_BL qc_BL_mark (by decide +kernel) rfl ⟨rfl, rfl⟩ ⟨Nat.le_of_ble_eq_true rfl, Nat.le_of_ble_eq_true rfl⟩ hK hP hD [0, 1, 2, 3, 4, 5, 6, 7, 8, 9] rfl (by decide) rfl rfl hl.1 rfl (Nat.le_of_ble_eq_true rfl) d_BL_find_3 ⟨Nat.zero_le _, Nat.zero_le _⟩) hP hD hS hA [0, 1, 2, 3, 4, 5, 6, 7, 8, 9] [10, 11, 12] [3, 4, 5, 6, 7, 8, 9, 10, 11, 12, 0, 1, 2] rfl rfl (by decide) (by decide) rfl (by decide) (fun H locs hP hD hS => ?_)
  refine lv_aload_n hx hb d_BL_find_6 rfl (lv_at hl 0 rfl) ?_
  refine lv_iconst (v := nI 0) hx hb d_BL_find_7 (by decide) ?_
  refine k_put (v := .int (nI 0)) (ws' := [(bl, .inr (4, [.ref bl_le, .ref bl_he, .ref bl_st, .ref bl_fi, .ref bl_be, .ref bl_by, .ref bl_sa, .ref bl_mk, .int (nI 0)])), (bl_mk, .inl (cZ, 33, .inl (f_BL_mark n hn mk f g fr to tg d))), (oc, .inr (1, [.ref oc_ops, .ref oc_opd, .ref oc_fr, .ref oc_to, .ref oc_tg, .int (nI n), .int (nI hn)])), (oc_ops, .inl (cI, 32, .inl f)), (oc_opd, .inl (cI, 32, .inl g)), (oc_fr, .inl (cI, 3, .inl fr)), (oc_to, .inl (cI, 3, .inl to)), (oc_tg, .inl (cI, 3, .inl tg)), (k, .inr (2, [.ref k_d, .ref k_o])), (k_d, .inl (cI, 32, .inl d)), (bl_le, .inl (cI, 32, .inl le)), (bl_he, .inl (cI, 32, .inl he)), (bl_sa, .inl (cI, 32, .inl sa))]) S in_BL ty_BL nm_BL hK hP hD hS 0 rfl rfl 8 (by decide) ql_BL_41 rfl rfl rfl rfl (Nat.le_of_ble_eq_true rfl) rfl d_BL_find_8 (fun H locs hP hD hS => ?_)
  refine lv_iconst (v := nI 0) hx hb d_BL_find_11 (by decide) ?_
  refine lv_istore_n (lv' := [(3, .int (nI 0)), (0, .ref bl), (1, .ref oc), (2, .ref k)]) hx hb d_BL_find_12 rfl hl (by decide) rfl (fun ls hl => ?_)
  have LP13 : ∀ (kf : Nat) (i : Nat) (bq : Nat) (le1 : Nat → Int32) (he1 : Nat → Int32) (sa1 : Nat → Int32), (i + kf = 32) → (bq ≤ i) → ∀ (ls : Array Slot) (H : Heap) (locs : List Loc), lv_has ls 4 [(0, .ref bl), (1, .ref oc), (2, .ref k), (3, .int (nI i))] → va_P D classes [(bl, .inr (4, [.ref bl_le, .ref bl_he, .ref bl_st, .ref bl_fi, .ref bl_be, .ref bl_by, .ref bl_sa, .ref bl_mk, .int (nI bq)])), (bl_mk, .inl (cZ, 33, .inl (f_BL_mark n hn mk f g fr to tg d))), (oc, .inr (1, [.ref oc_ops, .ref oc_opd, .ref oc_fr, .ref oc_to, .ref oc_tg, .int (nI n), .int (nI hn)])), (oc_ops, .inl (cI, 32, .inl f)), (oc_opd, .inl (cI, 32, .inl g)), (oc_fr, .inl (cI, 3, .inl fr)), (oc_to, .inl (cI, 3, .inl to)), (oc_tg, .inl (cI, 3, .inl tg)), (k, .inr (2, [.ref k_d, .ref k_o])), (k_d, .inl (cI, 32, .inl d)), (bl_le, .inl (cI, 32, .inl le1)), (bl_he, .inl (cI, 32, .inl he1)), (bl_sa, .inl (cI, 32, .inl sa1))] H → va_D A [(bl, .inr (4, [.ref bl_le, .ref bl_he, .ref bl_st, .ref bl_fi, .ref bl_be, .ref bl_by, .ref bl_sa, .ref bl_mk, .int (nI bq)])), (bl_mk, .inl (cZ, 33, .inl (f_BL_mark n hn mk f g fr to tg d))), (oc, .inr (1, [.ref oc_ops, .ref oc_opd, .ref oc_fr, .ref oc_to, .ref oc_tg, .int (nI n), .int (nI hn)])), (oc_ops, .inl (cI, 32, .inl f)), (oc_opd, .inl (cI, 32, .inl g)), (oc_fr, .inl (cI, 3, .inl fr)), (oc_to, .inl (cI, 3, .inl to)), (oc_tg, .inl (cI, 3, .inl tg)), (k, .inr (2, [.ref k_d, .ref k_o])), (k_d, .inl (cI, 32, .inl d)), (bl_le, .inl (cI, 32, .inl le1)), (bl_he, .inl (cI, 32, .inl he1)), (bl_sa, .inl (cI, 32, .inl sa1))] → va_S A s.heap H locs → (∀ (ls : Array Slot) (H : Heap) (locs : List Loc), lv_has ls 4 [(0, .ref bl), (1, .ref oc), (2, .ref k)] → va_P D classes [(bl, .inr (4, [.ref bl_le, .ref bl_he, .ref bl_st, .ref bl_fi, .ref bl_be, .ref bl_by, .ref bl_sa, .ref bl_mk, .int (nI ((lp_BL_find n hn mk f g fr to tg d kf i bq le1 he1 sa1).1))])), (bl_mk, .inl (cZ, 33, .inl (f_BL_mark n hn mk f g fr to tg d))), (oc, .inr (1, [.ref oc_ops, .ref oc_opd, .ref oc_fr, .ref oc_to, .ref oc_tg, .int (nI n), .int (nI hn)])), (oc_ops, .inl (cI, 32, .inl f)), (oc_opd, .inl (cI, 32, .inl g)), (oc_fr, .inl (cI, 3, .inl fr)), (oc_to, .inl (cI, 3, .inl to)), (oc_tg, .inl (cI, 3, .inl tg)), (k, .inr (2, [.ref k_d, .ref k_o])), (k_d, .inl (cI, 32, .inl d)), (bl_le, .inl (cI, 32, .inl ((lp_BL_find n hn mk f g fr to tg d kf i bq le1 he1 sa1).2.1))), (bl_he, .inl (cI, 32, .inl ((lp_BL_find n hn mk f g fr to tg d kf i bq le1 he1 sa1).2.2.1))), (bl_sa, .inl (cI, 32, .inl ((lp_BL_find n hn mk f g fr to tg d kf i bq le1 he1 sa1).2.2.2)))] H → va_D A [(bl, .inr (4, [.ref bl_le, .ref bl_he, .ref bl_st, .ref bl_fi, .ref bl_be, .ref bl_by, .ref bl_sa, .ref bl_mk, .int (nI ((lp_BL_find n hn mk f g fr to tg d kf i bq le1 he1 sa1).1))])), (bl_mk, .inl (cZ, 33, .inl (f_BL_mark n hn mk f g fr to tg d))), (oc, .inr (1, [.ref oc_ops, .ref oc_opd, .ref oc_fr, .ref oc_to, .ref oc_tg, .int (nI n), .int (nI hn)])), (oc_ops, .inl (cI, 32, .inl f)), (oc_opd, .inl (cI, 32, .inl g)), (oc_fr, .inl (cI, 3, .inl fr)), (oc_to, .inl (cI, 3, .inl to)), (oc_tg, .inl (cI, 3, .inl tg)), (k, .inr (2, [.ref k_d, .ref k_o])), (k_d, .inl (cI, 32, .inl d)), (bl_le, .inl (cI, 32, .inl ((lp_BL_find n hn mk f g fr to tg d kf i bq le1 he1 sa1).2.1))), (bl_he, .inl (cI, 32, .inl ((lp_BL_find n hn mk f g fr to tg d kf i bq le1 he1 sa1).2.2.1))), (bl_sa, .inl (cI, 32, .inl ((lp_BL_find n hn mk f g fr to tg d kf i bq le1 he1 sa1).2.2.2)))] → va_S A s.heap H locs → W p l e (rmK 3 63) s m [.ref bl, .ref oc, .ref k].toArray below meth c H locs 0 0 (MQ below (RV D classes (tyz cI cZ) [(bl, .inr (4, [.ref bl_le, .ref bl_he, .ref bl_st, .ref bl_fi, .ref bl_be, .ref bl_by, .ref bl_sa, .ref bl_mk, .int (nI ((f_BL_find n hn mk f g fr to tg d le he sa).2.1))])), (bl_mk, .inl (cZ, 33, .inl ((f_BL_find n hn mk f g fr to tg d le he sa).1))), (oc, .inr (1, [.ref oc_ops, .ref oc_opd, .ref oc_fr, .ref oc_to, .ref oc_tg, .int (nI n), .int (nI hn)])), (oc_ops, .inl (cI, 32, .inl f)), (oc_opd, .inl (cI, 32, .inl g)), (oc_fr, .inl (cI, 3, .inl fr)), (oc_to, .inl (cI, 3, .inl to)), (oc_tg, .inl (cI, 3, .inl tg)), (k, .inr (2, [.ref k_d, .ref k_o])), (k_d, .inl (cI, 32, .inl d)), (bl_le, .inl (cI, 32, .inl ((f_BL_find n hn mk f g fr to tg d le he sa).2.2.1))), (bl_he, .inl (cI, 32, .inl ((f_BL_find n hn mk f g fr to tg d le he sa).2.2.2.1))), (bl_sa, .inl (cI, 32, .inl ((f_BL_find n hn mk f g fr to tg d le he sa).2.2.2.2)))] A) [.ref bl, .ref oc, .ref k].toArray s 0 0 A) (F0 m 94 ls [])) → W p l e (rmK 3 63) s m [.ref bl, .ref oc, .ref k].toArray below meth c H locs 0 0 (MQ below (RV D classes (tyz cI cZ) [(bl, .inr (4, [.ref bl_le, .ref bl_he, .ref bl_st, .ref bl_fi, .ref bl_be, .ref bl_by, .ref bl_sa, .ref bl_mk, .int (nI ((f_BL_find n hn mk f g fr to tg d le he sa).2.1))])), (bl_mk, .inl (cZ, 33, .inl ((f_BL_find n hn mk f g fr to tg d le he sa).1))), (oc, .inr (1, [.ref oc_ops, .ref oc_opd, .ref oc_fr, .ref oc_to, .ref oc_tg, .int (nI n), .int (nI hn)])), (oc_ops, .inl (cI, 32, .inl f)), (oc_opd, .inl (cI, 32, .inl g)), (oc_fr, .inl (cI, 3, .inl fr)), (oc_to, .inl (cI, 3, .inl to)), (oc_tg, .inl (cI, 3, .inl tg)), (k, .inr (2, [.ref k_d, .ref k_o])), (k_d, .inl (cI, 32, .inl d)), (bl_le, .inl (cI, 32, .inl ((f_BL_find n hn mk f g fr to tg d le he sa).2.2.1))), (bl_he, .inl (cI, 32, .inl ((f_BL_find n hn mk f g fr to tg d le he sa).2.2.2.1))), (bl_sa, .inl (cI, 32, .inl ((f_BL_find n hn mk f g fr to tg d le he sa).2.2.2.2)))] A) [.ref bl, .ref oc, .ref k].toArray s 0 0 A) (F0 m 13 ls []) := by
    intro kf
    induction kf with
    | zero =>
      intro i bq le1 he1 sa1 hk hbq ls H locs hl hP hD hS kk
      refine lv_iload_n hx hb d_BL_find_13 rfl (lv_at hl 3 rfl) ?_
      refine lv_bipush (v := 32) hx hb d_BL_find_14 (by decide) ?_
      refine n_icmp_ge (tgt := 94) (x := i) (y := 32) hx hb rfl (by decide) (by omega) (by omega) d_BL_find_16 (by decide) (fun h16_1 => ?_) (fun h16_1 => absurd h16_1 (by omega))
      have e9 : lp_BL_find n hn mk f g fr to tg d 0 i bq le1 he1 sa1 = (bq, le1, he1, sa1) := by rw [lp_BL_find]
      rw [e9] at kk
      exact kk _ _ _ (lv_sub hl [0, 1, 2] rfl) hP hD hS
    | succ kf ih =>
      intro i bq le1 he1 sa1 hk hbq ls H locs hl hP hD hS kk
      refine lv_iload_n hx hb d_BL_find_13 rfl (lv_at hl 3 rfl) ?_
      refine lv_bipush (v := 32) hx hb d_BL_find_14 (by decide) ?_
      refine n_icmp_ge (tgt := 94) (x := i) (y := 32) hx hb rfl (by decide) (by omega) (by omega) d_BL_find_16 (by decide) (fun h16_2 => absurd h16_2 (by omega)) (fun h16_2 => ?_)
      refine lv_aload_n hx hb d_BL_find_19 rfl (lv_at hl 0 rfl) ?_
      refine k_get (v := .ref bl_sa) S in_BL hK hP 0 rfl rfl 6 (by decide) ql_BL_30 rfl d_BL_find_20 ?_
      refine lv_iload_n hx hb d_BL_find_23 rfl (lv_at hl 3 rfl) ?_
      refine lv_iconst (v := (-1)) hx hb d_BL_find_24 (by decide) ?_
      refine k_st (k := i) (x := (-1)) (ws' := [(bl, .inr (4, [.ref bl_le, .ref bl_he, .ref bl_st, .ref bl_fi, .ref bl_be, .ref bl_by, .ref bl_sa, .ref bl_mk, .int (nI bq)])), (bl_mk, .inl (cZ, 33, .inl (f_BL_mark n hn mk f g fr to tg d))), (oc, .inr (1, [.ref oc_ops, .ref oc_opd, .ref oc_fr, .ref oc_to, .ref oc_tg, .int (nI n), .int (nI hn)])), (oc_ops, .inl (cI, 32, .inl f)), (oc_opd, .inl (cI, 32, .inl g)), (oc_fr, .inl (cI, 3, .inl fr)), (oc_to, .inl (cI, 3, .inl to)), (oc_tg, .inl (cI, 3, .inl tg)), (k, .inr (2, [.ref k_d, .ref k_o])), (k_d, .inl (cI, 32, .inl d)), (bl_le, .inl (cI, 32, .inl le1)), (bl_he, .inl (cI, 32, .inl he1)), (bl_sa, .inl (cI, 32, .inl (upd sa1 i (-1))))]) hx hb hK hP hD hS 12 0 rfl rfl rfl (by omega) (by decide) rfl d_BL_find_25 (fun H locs hP hD hS => ?_)
      refine lv_aload_n hx hb d_BL_find_26 rfl (lv_at hl 0 rfl) ?_
      refine k_get (v := .ref bl_mk) S in_BL hK hP 0 rfl rfl 7 (by decide) ql_BL_33 rfl d_BL_find_27 ?_
      refine lv_iload_n hx hb d_BL_find_30 rfl (lv_at hl 3 rfl) ?_
      refine k_zld (k := i) hx hb hK hP 1 1 rfl rfl rfl (by omega) (by decide) d_BL_find_31 ?_
      refine lv_if_eq (tgt := 88) hx hb d_BL_find_32 (by decide) (fun h32_3 => ?_) (fun h32_3 => ?_)
      · skip
        refine lv_iinc (k := 3) (v := nI (i + 1)) (lv' := [(3, .int (nI (i + 1))), (0, .ref bl), (1, .ref oc), (2, .ref k)]) hx hb d_BL_find_88 hl rfl (nc_add rfl (by decide)) (by decide) rfl (fun ls hl => ?_)
        refine lv_goto (tgt := 13) hx hb d_BL_find_91 (by decide) ?_
        have e9 : lp_BL_find n hn mk f g fr to tg d (kf + 1) i bq le1 he1 sa1 = lp_BL_find n hn mk f g fr to tg d kf (i + 1) bq le1 he1 (upd sa1 i (-1)) := by rw [lp_BL_find, if_pos h32_3]
        rw [e9] at kk
        exact ih (i + 1) bq le1 he1 (upd sa1 i (-1)) (by omega) (by omega) _ _ _ (lv_sub hl [1, 2, 3, 0] rfl) hP hD hS kk
      · skip
        refine lv_aload_n hx hb d_BL_find_35 rfl (lv_at hl 2 rfl) ?_
        refine lv_iload_n hx hb d_BL_find_36 rfl (lv_at hl 3 rfl) ?_
        refine k_goi (ws' := [(bl, .inr (4, [.ref bl_le, .ref bl_he, .ref bl_st, .ref bl_fi, .ref bl_be, .ref bl_by, .ref bl_sa, .ref bl_mk, .int (nI bq)])), (bl_mk, .inl (cZ, 33, .inl (f_BL_mark n hn mk f g fr to tg d))), (oc, .inr (1, [.ref oc_ops, .ref oc_opd, .ref oc_fr, .ref oc_to, .ref oc_tg, .int (nI n), .int (nI hn)])), (oc_ops, .inl (cI, 32, .inl f)), (oc_opd, .inl (cI, 32, .inl g)), (oc_fr, .inl (cI, 3, .inl fr)), (oc_to, .inl (cI, 3, .inl to)), (oc_tg, .inl (cI, 3, .inl tg)), (k, .inr (2, [.ref k_d, .ref k_o])), (k_d, .inl (cI, 32, .inl d)), (bl_le, .inl (cI, 32, .inl le1)), (bl_he, .inl (cI, 32, .inl he1)), (bl_sa, .inl (cI, 32, .inl (upd sa1 i (-1))))]) (wr := [(bl, .inr (4, [.ref bl_le, .ref bl_he, .ref bl_st, .ref bl_fi, .ref bl_be, .ref bl_by, .ref bl_sa, .ref bl_mk, .int (nI bq)])), (bl_mk, .inl (cZ, 33, .inl (f_BL_mark n hn mk f g fr to tg d))), (oc, .inr (1, [.ref oc_ops, .ref oc_opd, .ref oc_fr, .ref oc_to, .ref oc_tg, .int (nI n), .int (nI hn)])), (oc_ops, .inl (cI, 32, .inl f)), (oc_opd, .inl (cI, 32, .inl g)), (oc_fr, .inl (cI, 3, .inl fr)), (oc_to, .inl (cI, 3, .inl to)), (oc_tg, .inl (cI, 3, .inl tg)), (bl_le, .inl (cI, 32, .inl le1)), (bl_he, .inl (cI, 32, .inl he1)), (bl_sa, .inl (cI, 32, .inl (upd sa1 i (-1))))]) (k_runV (q0 := 8) (As := [.int (nI i)]) (rest := []) (n := 1) S (c_CH_reached l D cI cZ k k_d k_o i d (by omega)) E0_b E0_t ql_BL_45 qi_CH_reached qs_CH_reached qn_CH qc_CH_reached (by decide +kernel) rfl ⟨rfl, rfl⟩ ⟨Nat.le_of_ble_eq_true rfl, Nat.le_of_ble_eq_true rfl⟩ hK hP hD [8, 9] rfl (by decide) rfl rfl hl.1 rfl (Nat.le_of_ble_eq_true rfl) d_BL_find_37 ⟨Nat.zero_le _, Nat.zero_le _⟩) hP hD hS hA [8, 9] [0, 1, 2, 3, 4, 5, 6, 7, 10, 11, 12] [0, 1, 2, 3, 4, 5, 6, 7, 11, 12, 8, 9, 10] rfl rfl (by decide) (by decide) rfl (by decide) (fun H locs hP hD hS => ?_)
        refine lv_if_eq (tgt := 88) hx hb d_BL_find_40 (by decide) (fun h40_4 => ?_) (fun h40_4 => ?_)
        · skip
          refine lv_iinc (k := 3) (v := nI (i + 1)) (lv' := [(3, .int (nI (i + 1))), (0, .ref bl), (1, .ref oc), (2, .ref k)]) hx hb d_BL_find_88 hl rfl (nc_add rfl (by decide)) (by decide) rfl (fun ls hl => ?_)
          refine lv_goto (tgt := 13) hx hb d_BL_find_91 (by decide) ?_
          have e9 : lp_BL_find n hn mk f g fr to tg d (kf + 1) i bq le1 he1 sa1 = lp_BL_find n hn mk f g fr to tg d kf (i + 1) bq le1 he1 (upd sa1 i (-1)) := by rw [lp_BL_find, if_neg h32_3, if_pos h40_4]
          rw [e9] at kk
          exact ih (i + 1) bq le1 he1 (upd sa1 i (-1)) (by omega) (by omega) _ _ _ (lv_sub hl [1, 2, 3, 0] rfl) hP hD hS kk
        · skip
          refine lv_aload_n hx hb d_BL_find_43 rfl (lv_at hl 0 rfl) ?_
          refine k_get (v := .ref bl_sa) S in_BL hK hP 0 rfl rfl 6 (by decide) ql_BL_30 rfl d_BL_find_44 ?_
          refine lv_iload_n hx hb d_BL_find_47 rfl (lv_at hl 3 rfl) ?_
          refine lv_aload_n hx hb d_BL_find_48 rfl (lv_at hl 0 rfl) ?_
          refine k_get (v := .int (nI bq)) S in_BL hK hP 0 rfl rfl 8 (by decide) ql_BL_41 rfl d_BL_find_49 ?_
          refine k_st (k := i) (x := nI bq) (ws' := [(bl, .inr (4, [.ref bl_le, .ref bl_he, .ref bl_st, .ref bl_fi, .ref bl_be, .ref bl_by, .ref bl_sa, .ref bl_mk, .int (nI bq)])), (bl_mk, .inl (cZ, 33, .inl (f_BL_mark n hn mk f g fr to tg d))), (oc, .inr (1, [.ref oc_ops, .ref oc_opd, .ref oc_fr, .ref oc_to, .ref oc_tg, .int (nI n), .int (nI hn)])), (oc_ops, .inl (cI, 32, .inl f)), (oc_opd, .inl (cI, 32, .inl g)), (oc_fr, .inl (cI, 3, .inl fr)), (oc_to, .inl (cI, 3, .inl to)), (oc_tg, .inl (cI, 3, .inl tg)), (k, .inr (2, [.ref k_d, .ref k_o])), (k_d, .inl (cI, 32, .inl d)), (bl_le, .inl (cI, 32, .inl le1)), (bl_he, .inl (cI, 32, .inl he1)), (bl_sa, .inl (cI, 32, .inl (upd (upd sa1 i (-1)) i (nI bq))))]) hx hb hK hP hD hS 12 0 rfl rfl rfl (by omega) (by decide) rfl d_BL_find_52 (fun H locs hP hD hS => ?_)
          refine lv_aload_n hx hb d_BL_find_53 rfl (lv_at hl 0 rfl) ?_
          refine k_get (v := .ref bl_le) S in_BL hK hP 0 rfl rfl 0 (by decide) ql_BL_9 rfl d_BL_find_54 ?_
          refine lv_aload_n hx hb d_BL_find_57 rfl (lv_at hl 0 rfl) ?_
          refine k_get (v := .int (nI bq)) S in_BL hK hP 0 rfl rfl 8 (by decide) ql_BL_41 rfl d_BL_find_58 ?_
          refine lv_iload_n hx hb d_BL_find_61 rfl (lv_at hl 3 rfl) ?_
          refine k_st (k := bq) (x := nI i) (ws' := [(bl, .inr (4, [.ref bl_le, .ref bl_he, .ref bl_st, .ref bl_fi, .ref bl_be, .ref bl_by, .ref bl_sa, .ref bl_mk, .int (nI bq)])), (bl_mk, .inl (cZ, 33, .inl (f_BL_mark n hn mk f g fr to tg d))), (oc, .inr (1, [.ref oc_ops, .ref oc_opd, .ref oc_fr, .ref oc_to, .ref oc_tg, .int (nI n), .int (nI hn)])), (oc_ops, .inl (cI, 32, .inl f)), (oc_opd, .inl (cI, 32, .inl g)), (oc_fr, .inl (cI, 3, .inl fr)), (oc_to, .inl (cI, 3, .inl to)), (oc_tg, .inl (cI, 3, .inl tg)), (k, .inr (2, [.ref k_d, .ref k_o])), (k_d, .inl (cI, 32, .inl d)), (bl_le, .inl (cI, 32, .inl (upd le1 bq (nI i)))), (bl_he, .inl (cI, 32, .inl he1)), (bl_sa, .inl (cI, 32, .inl (upd (upd sa1 i (-1)) i (nI bq))))]) hx hb hK hP hD hS 10 0 rfl rfl rfl (by omega) (by decide) rfl d_BL_find_62 (fun H locs hP hD hS => ?_)
          refine lv_aload_n hx hb d_BL_find_63 rfl (lv_at hl 0 rfl) ?_
          refine k_get (v := .ref bl_he) S in_BL hK hP 0 rfl rfl 1 (by decide) ql_BL_15 rfl d_BL_find_64 ?_
          refine lv_aload_n hx hb d_BL_find_67 rfl (lv_at hl 0 rfl) ?_
          refine k_get (v := .int (nI bq)) S in_BL hK hP 0 rfl rfl 8 (by decide) ql_BL_41 rfl d_BL_find_68 ?_
          refine lv_aload_n hx hb d_BL_find_71 rfl (lv_at hl 2 rfl) ?_
          refine k_get (v := .ref k_d) S in_CH hK hP 8 rfl rfl 0 (by decide) ql_BL_51 rfl d_BL_find_72 ?_
          refine lv_iload_n hx hb d_BL_find_75 rfl (lv_at hl 3 rfl) ?_
          refine k_ld (k := i) hx hb hK hP 9 0 rfl rfl rfl (by omega) (by decide) d_BL_find_76 ?_
          refine k_st (k := bq) (x := d i) (ws' := [(bl, .inr (4, [.ref bl_le, .ref bl_he, .ref bl_st, .ref bl_fi, .ref bl_be, .ref bl_by, .ref bl_sa, .ref bl_mk, .int (nI bq)])), (bl_mk, .inl (cZ, 33, .inl (f_BL_mark n hn mk f g fr to tg d))), (oc, .inr (1, [.ref oc_ops, .ref oc_opd, .ref oc_fr, .ref oc_to, .ref oc_tg, .int (nI n), .int (nI hn)])), (oc_ops, .inl (cI, 32, .inl f)), (oc_opd, .inl (cI, 32, .inl g)), (oc_fr, .inl (cI, 3, .inl fr)), (oc_to, .inl (cI, 3, .inl to)), (oc_tg, .inl (cI, 3, .inl tg)), (k, .inr (2, [.ref k_d, .ref k_o])), (k_d, .inl (cI, 32, .inl d)), (bl_le, .inl (cI, 32, .inl (upd le1 bq (nI i)))), (bl_he, .inl (cI, 32, .inl (upd he1 bq (d i)))), (bl_sa, .inl (cI, 32, .inl (upd (upd sa1 i (-1)) i (nI bq))))]) hx hb hK hP hD hS 11 0 rfl rfl rfl (by omega) (by decide) rfl d_BL_find_77 (fun H locs hP hD hS => ?_)
          refine lv_aload_n hx hb d_BL_find_78 rfl (lv_at hl 0 rfl) ?_
          refine lv_dup hx hb d_BL_find_79 rfl ?_
          refine k_get (v := .int (nI bq)) S in_BL hK hP 0 rfl rfl 8 (by decide) ql_BL_41 rfl d_BL_find_80 ?_
          refine lv_iconst (v := 1) hx hb d_BL_find_83 (by decide) ?_
          refine lv_iadd hx hb d_BL_find_84 ?_
          refine k_top (y := nI (bq + 1)) (nc_add rfl (by decide)) ?_
          refine k_put (v := .int (nI (bq + 1))) (ws' := [(bl, .inr (4, [.ref bl_le, .ref bl_he, .ref bl_st, .ref bl_fi, .ref bl_be, .ref bl_by, .ref bl_sa, .ref bl_mk, .int (nI (bq + 1))])), (bl_mk, .inl (cZ, 33, .inl (f_BL_mark n hn mk f g fr to tg d))), (oc, .inr (1, [.ref oc_ops, .ref oc_opd, .ref oc_fr, .ref oc_to, .ref oc_tg, .int (nI n), .int (nI hn)])), (oc_ops, .inl (cI, 32, .inl f)), (oc_opd, .inl (cI, 32, .inl g)), (oc_fr, .inl (cI, 3, .inl fr)), (oc_to, .inl (cI, 3, .inl to)), (oc_tg, .inl (cI, 3, .inl tg)), (k, .inr (2, [.ref k_d, .ref k_o])), (k_d, .inl (cI, 32, .inl d)), (bl_le, .inl (cI, 32, .inl (upd le1 bq (nI i)))), (bl_he, .inl (cI, 32, .inl (upd he1 bq (d i)))), (bl_sa, .inl (cI, 32, .inl (upd (upd sa1 i (-1)) i (nI bq))))]) S in_BL ty_BL nm_BL hK hP hD hS 0 rfl rfl 8 (by decide) ql_BL_41 rfl rfl rfl rfl (Nat.le_of_ble_eq_true rfl) rfl d_BL_find_85 (fun H locs hP hD hS => ?_)
          refine lv_iinc (k := 3) (v := nI (i + 1)) (lv' := [(3, .int (nI (i + 1))), (0, .ref bl), (1, .ref oc), (2, .ref k)]) hx hb d_BL_find_88 hl rfl (nc_add rfl (by decide)) (by decide) rfl (fun ls hl => ?_)
          refine lv_goto (tgt := 13) hx hb d_BL_find_91 (by decide) ?_
          have e9 : lp_BL_find n hn mk f g fr to tg d (kf + 1) i bq le1 he1 sa1 = lp_BL_find n hn mk f g fr to tg d kf (i + 1) (bq + 1) (upd le1 bq (nI i)) (upd he1 bq (d i)) (upd (upd sa1 i (-1)) i (nI bq)) := by rw [lp_BL_find, if_neg h32_3, if_neg h40_4]
          rw [e9] at kk
          exact ih (i + 1) (bq + 1) (upd le1 bq (nI i)) (upd he1 bq (d i)) (upd (upd sa1 i (-1)) i (nI bq)) (by omega) (by omega) _ _ _ (lv_sub hl [1, 2, 3, 0] rfl) hP hD hS kk
  refine LP13 32 0 0 le he sa rfl (Nat.le_refl _) _ _ _ (lv_sub hl [1, 2, 3, 0] rfl) hP hD hS (fun ls H locs hl hP hD hS => ?_)
  exact k_vret hx hb hr hlocks hK hP hD hS (by rw [f_BL_find]) d_BL_find_94

theorem Nn_upd {f : Nat → Int32} {j w v : Nat} (h : ∀ q, q < 32 → Nn f q w) {x : Int32} (hx : x = nI v) (hv : v < w) (hw : w < 2 ^ 31) : ∀ q, q < 32 → Nn (upd f j x) q w := by
  intro q hq
  unfold Nn
  by_cases e : q = j
  · subst e; rw [pk_us, hx, tn_nI (by omega)]; exact ⟨rfl, hv⟩
  · rw [pk_un e]; exact h q hq

theorem d_BL_sortByState_0 : decode b_BL_sortByState 0 = .ok (.iconst 0, 1) := by decide +kernel
theorem d_BL_sortByState_1 : decode b_BL_sortByState 1 = .ok (.istore_n 1, 1) := by decide +kernel
theorem d_BL_sortByState_2 : decode b_BL_sortByState 2 = .ok (.iload_n 1, 1) := by decide +kernel
theorem d_BL_sortByState_3 : decode b_BL_sortByState 3 = .ok (.aload_n 0, 1) := by decide +kernel
theorem d_BL_sortByState_4 : decode b_BL_sortByState 4 = .ok (.getfield 41, 3) := by decide +kernel
theorem d_BL_sortByState_7 : decode b_BL_sortByState 7 = .ok (.if_icmp .ge 64, 3) := by decide +kernel
theorem d_BL_sortByState_10 : decode b_BL_sortByState 10 = .ok (.iload_n 1, 1) := by decide +kernel
theorem d_BL_sortByState_11 : decode b_BL_sortByState 11 = .ok (.istore_n 2, 1) := by decide +kernel
theorem d_BL_sortByState_12 : decode b_BL_sortByState 12 = .ok (.iload_n 2, 1) := by decide +kernel
theorem d_BL_sortByState_13 : decode b_BL_sortByState 13 = .ok (.ifCond .le 45, 3) := by decide +kernel
theorem d_BL_sortByState_16 : decode b_BL_sortByState 16 = .ok (.aload_n 0, 1) := by decide +kernel
theorem d_BL_sortByState_17 : decode b_BL_sortByState 17 = .ok (.getfield 18, 3) := by decide +kernel
theorem d_BL_sortByState_20 : decode b_BL_sortByState 20 = .ok (.aload_n 0, 1) := by decide +kernel
theorem d_BL_sortByState_21 : decode b_BL_sortByState 21 = .ok (.getfield 27, 3) := by decide +kernel
theorem d_BL_sortByState_24 : decode b_BL_sortByState 24 = .ok (.iload_n 2, 1) := by decide +kernel
theorem d_BL_sortByState_25 : decode b_BL_sortByState 25 = .ok (.iconst 1, 1) := by decide +kernel
theorem d_BL_sortByState_26 : decode b_BL_sortByState 26 = .ok (.isub, 1) := by decide +kernel
theorem d_BL_sortByState_27 : decode b_BL_sortByState 27 = .ok (.iaload, 1) := by decide +kernel
theorem d_BL_sortByState_28 : decode b_BL_sortByState 28 = .ok (.iaload, 1) := by decide +kernel
theorem d_BL_sortByState_29 : decode b_BL_sortByState 29 = .ok (.aload_n 0, 1) := by decide +kernel
theorem d_BL_sortByState_30 : decode b_BL_sortByState 30 = .ok (.getfield 18, 3) := by decide +kernel
theorem d_BL_sortByState_33 : decode b_BL_sortByState 33 = .ok (.iload_n 1, 1) := by decide +kernel
theorem d_BL_sortByState_34 : decode b_BL_sortByState 34 = .ok (.iaload, 1) := by decide +kernel
theorem d_BL_sortByState_35 : decode b_BL_sortByState 35 = .ok (.if_icmp .le 23, 3) := by decide +kernel
theorem d_BL_sortByState_38 : decode b_BL_sortByState 38 = .ok (.aload_n 0, 1) := by decide +kernel
theorem d_BL_sortByState_39 : decode b_BL_sortByState 39 = .ok (.getfield 27, 3) := by decide +kernel
theorem d_BL_sortByState_42 : decode b_BL_sortByState 42 = .ok (.iload_n 2, 1) := by decide +kernel
theorem d_BL_sortByState_43 : decode b_BL_sortByState 43 = .ok (.aload_n 0, 1) := by decide +kernel
theorem d_BL_sortByState_44 : decode b_BL_sortByState 44 = .ok (.getfield 27, 3) := by decide +kernel
theorem d_BL_sortByState_47 : decode b_BL_sortByState 47 = .ok (.iload_n 2, 1) := by decide +kernel
theorem d_BL_sortByState_48 : decode b_BL_sortByState 48 = .ok (.iconst 1, 1) := by decide +kernel
theorem d_BL_sortByState_49 : decode b_BL_sortByState 49 = .ok (.isub, 1) := by decide +kernel
theorem d_BL_sortByState_50 : decode b_BL_sortByState 50 = .ok (.iaload, 1) := by decide +kernel
theorem d_BL_sortByState_51 : decode b_BL_sortByState 51 = .ok (.iastore, 1) := by decide +kernel
theorem d_BL_sortByState_52 : decode b_BL_sortByState 52 = .ok (.iinc 2 (-1), 3) := by decide +kernel
theorem d_BL_sortByState_55 : decode b_BL_sortByState 55 = .ok (.goto (-43), 3) := by decide +kernel
theorem d_BL_sortByState_58 : decode b_BL_sortByState 58 = .ok (.aload_n 0, 1) := by decide +kernel
theorem d_BL_sortByState_59 : decode b_BL_sortByState 59 = .ok (.getfield 27, 3) := by decide +kernel
theorem d_BL_sortByState_62 : decode b_BL_sortByState 62 = .ok (.iload_n 2, 1) := by decide +kernel
theorem d_BL_sortByState_63 : decode b_BL_sortByState 63 = .ok (.iload_n 1, 1) := by decide +kernel
theorem d_BL_sortByState_64 : decode b_BL_sortByState 64 = .ok (.iastore, 1) := by decide +kernel
theorem d_BL_sortByState_65 : decode b_BL_sortByState 65 = .ok (.iinc 1 1, 3) := by decide +kernel
theorem d_BL_sortByState_68 : decode b_BL_sortByState 68 = .ok (.goto (-66), 3) := by decide +kernel
theorem d_BL_sortByState_71 : decode b_BL_sortByState 71 = .ok (.return_, 1) := by decide +kernel
def lq_BL_sort (st : Nat → Int32) (b : Nat) : Nat → Nat → (Nat → Int32) → Nat × (Nat → Int32)
  | 0, pl, bs2 => (pl, bs2)
  | kf + 1, pl, bs2 => (if st (tn (bs2 (pl - 1))) ≤ st b then (pl, bs2) else (lq_BL_sort st b kf (pl - 1) (upd bs2 pl (bs2 (pl - 1)))))
def lp_BL_sort (st : Nat → Int32) : Nat → Nat → (Nat → Int32) → (Nat → Int32)
  | 0, b, bs1 => bs1
  | kf + 1, b, bs1 => (lp_BL_sort st kf (b + 1) (upd ((lq_BL_sort st b b b bs1).2) ((lq_BL_sort st b b b bs1).1) (nI b)))
def f_BL_sortByState (bc : Nat) (st : Nat → Int32) (bs : Nat → Int32) : (Nat → Int32) := lp_BL_sort st bc 0 bs
theorem ins_Nn (b : Nat) (st : Nat → Int32) : ∀ (kf pl : Nat) (bs : Nat → Int32), pl = kf → pl ≤ 31 → (∀ q, q < 32 → Nn bs q 32) → (∀ q, q < 32 → Nn (lq_BL_sort st b kf pl bs).2 q 32) ∧ (lq_BL_sort st b kf pl bs).1 ≤ 31 := by
  intro kf
  induction kf with
  | zero => intro pl bs h h2 h3; exact ⟨h3, h2⟩
  | succ kf ih =>
    intro pl bs h h2 h3
    rw [lq_BL_sort]
    split
    · exact ⟨h3, h2⟩
    · exact ih _ _ (by omega) (by omega) (Nn_upd h3 (h3 (pl - 1) (by omega)).1 (h3 (pl - 1) (by omega)).2 (by decide))
set_option maxHeartbeats 1000000 in
set_option maxRecDepth 100000 in
theorem c_BL_sortByState (l : Launch) (D : va_G) (cI cZ : ClassId) (bl : Nat) (bl_le bl_he bl_st bl_fi bl_be bl_by bl_sa bl_mk bc : Nat) (st bs : Nat → Int32) (hb32 : bc ≤ 32) (hbs : ∀ q, q < 32 → Nn bs q 32) : MG l y_BL_sortByState w_BL_sortByState (rmK 0 0) D classes (tyz cI cZ) E0 [.ref bl] [(bl, .inr (4, [.ref bl_le, .ref bl_he, .ref bl_st, .ref bl_fi, .ref bl_be, .ref bl_by, .ref bl_sa, .ref bl_mk, .int (nI bc)])), (bl_st, .inl (cI, 32, .inl st)), (bl_by, .inl (cI, 32, .inl bs))] (RV D classes (tyz cI cZ) [(bl, .inr (4, [.ref bl_le, .ref bl_he, .ref bl_st, .ref bl_fi, .ref bl_be, .ref bl_by, .ref bl_sa, .ref bl_mk, .int (nI bc)])), (bl_st, .inl (cI, 32, .inl st)), (bl_by, .inl (cI, 32, .inl (f_BL_sortByState bc st bs)))]) := by
  refine MG.of (cc := b_BL_sortByState) (maxL := 3) (ret := none) (own := "FlowFlattener$Blocks") rfl (by decide) rfl (Nat.le_of_ble_eq_true rfl) ?_
  intro p e s m below meth c A ls S hr hlocks hA hP hK hD hS hE hl
  have hx := S.1
  have hb := S.2.1
  have hl : lv_has ls 3 [(0, .ref bl)] := hl
  refine lv_iconst (v := nI 0) hx hb d_BL_sortByState_0 (by decide) ?_
  refine lv_istore_n (lv' := [(1, .int (nI 0)), (0, .ref bl)]) hx hb d_BL_sortByState_1 rfl hl (by decide) rfl (fun ls hl => ?_)
  have LP2 : ∀ (kf : Nat) (b : Nat) (bs1 : Nat → Int32), (b + kf = bc) → (∀ q, q < 32 → Nn bs1 q 32) → ∀ (ls : Array Slot) (H : Heap) (locs : List Loc), lv_has ls 3 [(0, .ref bl), (1, .int (nI b))] → va_P D classes [(bl, .inr (4, [.ref bl_le, .ref bl_he, .ref bl_st, .ref bl_fi, .ref bl_be, .ref bl_by, .ref bl_sa, .ref bl_mk, .int (nI bc)])), (bl_st, .inl (cI, 32, .inl st)), (bl_by, .inl (cI, 32, .inl bs1))] H → va_D A [(bl, .inr (4, [.ref bl_le, .ref bl_he, .ref bl_st, .ref bl_fi, .ref bl_be, .ref bl_by, .ref bl_sa, .ref bl_mk, .int (nI bc)])), (bl_st, .inl (cI, 32, .inl st)), (bl_by, .inl (cI, 32, .inl bs1))] → va_S A s.heap H locs → (∀ (ls : Array Slot) (H : Heap) (locs : List Loc), lv_has ls 3 [(0, .ref bl)] → va_P D classes [(bl, .inr (4, [.ref bl_le, .ref bl_he, .ref bl_st, .ref bl_fi, .ref bl_be, .ref bl_by, .ref bl_sa, .ref bl_mk, .int (nI bc)])), (bl_st, .inl (cI, 32, .inl st)), (bl_by, .inl (cI, 32, .inl (lp_BL_sort st kf b bs1)))] H → va_D A [(bl, .inr (4, [.ref bl_le, .ref bl_he, .ref bl_st, .ref bl_fi, .ref bl_be, .ref bl_by, .ref bl_sa, .ref bl_mk, .int (nI bc)])), (bl_st, .inl (cI, 32, .inl st)), (bl_by, .inl (cI, 32, .inl (lp_BL_sort st kf b bs1)))] → va_S A s.heap H locs → W p l e (rmK 0 0) s m [.ref bl].toArray below meth c H locs 0 0 (MQ below (RV D classes (tyz cI cZ) [(bl, .inr (4, [.ref bl_le, .ref bl_he, .ref bl_st, .ref bl_fi, .ref bl_be, .ref bl_by, .ref bl_sa, .ref bl_mk, .int (nI bc)])), (bl_st, .inl (cI, 32, .inl st)), (bl_by, .inl (cI, 32, .inl (f_BL_sortByState bc st bs)))] A) [.ref bl].toArray s 0 0 A) (F0 m 71 ls [])) → W p l e (rmK 0 0) s m [.ref bl].toArray below meth c H locs 0 0 (MQ below (RV D classes (tyz cI cZ) [(bl, .inr (4, [.ref bl_le, .ref bl_he, .ref bl_st, .ref bl_fi, .ref bl_be, .ref bl_by, .ref bl_sa, .ref bl_mk, .int (nI bc)])), (bl_st, .inl (cI, 32, .inl st)), (bl_by, .inl (cI, 32, .inl (f_BL_sortByState bc st bs)))] A) [.ref bl].toArray s 0 0 A) (F0 m 2 ls []) := by
    intro kf
    induction kf with
    | zero =>
      intro b bs1 hk hb1s ls H locs hl hP hD hS kk
      refine lv_iload_n hx hb d_BL_sortByState_2 rfl (lv_at hl 1 rfl) ?_
      refine lv_aload_n hx hb d_BL_sortByState_3 rfl (lv_at hl 0 rfl) ?_
      refine k_get (v := .int (nI bc)) S in_BL hK hP 0 rfl rfl 8 (by decide) ql_BL_41 rfl d_BL_sortByState_4 ?_
      refine n_icmp_ge (tgt := 71) (x := b) (y := bc) hx hb rfl rfl (by omega) (by omega) d_BL_sortByState_7 (by decide) (fun h7_1 => ?_) (fun h7_1 => absurd h7_1 (by omega))
      have e9 : lp_BL_sort st 0 b bs1 = bs1 := by rw [lp_BL_sort]
      rw [e9] at kk
      exact kk _ _ _ (lv_sub hl [0] rfl) hP hD hS
    | succ kf ih =>
      intro b bs1 hk hb1s ls H locs hl hP hD hS kk
      refine lv_iload_n hx hb d_BL_sortByState_2 rfl (lv_at hl 1 rfl) ?_
      refine lv_aload_n hx hb d_BL_sortByState_3 rfl (lv_at hl 0 rfl) ?_
      refine k_get (v := .int (nI bc)) S in_BL hK hP 0 rfl rfl 8 (by decide) ql_BL_41 rfl d_BL_sortByState_4 ?_
      refine n_icmp_ge (tgt := 71) (x := b) (y := bc) hx hb rfl rfl (by omega) (by omega) d_BL_sortByState_7 (by decide) (fun h7_2 => absurd h7_2 (by omega)) (fun h7_2 => ?_)
      refine lv_iload_n hx hb d_BL_sortByState_10 rfl (lv_at hl 1 rfl) ?_
      refine lv_istore_n (lv' := [(2, .int (nI b)), (0, .ref bl), (1, .int (nI b))]) hx hb d_BL_sortByState_11 rfl hl (by decide) rfl (fun ls hl => ?_)
      have LP12 : ∀ (kf : Nat) (pl : Nat) (bs2 : Nat → Int32), (pl = kf) → (pl ≤ 31) → (∀ q, q < 32 → Nn bs2 q 32) → ∀ (ls : Array Slot) (H : Heap) (locs : List Loc), lv_has ls 3 [(0, .ref bl), (1, .int (nI b)), (2, .int (nI pl))] → va_P D classes [(bl, .inr (4, [.ref bl_le, .ref bl_he, .ref bl_st, .ref bl_fi, .ref bl_be, .ref bl_by, .ref bl_sa, .ref bl_mk, .int (nI bc)])), (bl_st, .inl (cI, 32, .inl st)), (bl_by, .inl (cI, 32, .inl bs2))] H → va_D A [(bl, .inr (4, [.ref bl_le, .ref bl_he, .ref bl_st, .ref bl_fi, .ref bl_be, .ref bl_by, .ref bl_sa, .ref bl_mk, .int (nI bc)])), (bl_st, .inl (cI, 32, .inl st)), (bl_by, .inl (cI, 32, .inl bs2))] → va_S A s.heap H locs → (∀ (ls : Array Slot) (H : Heap) (locs : List Loc), lv_has ls 3 [(0, .ref bl), (1, .int (nI b)), (2, .int (nI ((lq_BL_sort st b kf pl bs2).1)))] → va_P D classes [(bl, .inr (4, [.ref bl_le, .ref bl_he, .ref bl_st, .ref bl_fi, .ref bl_be, .ref bl_by, .ref bl_sa, .ref bl_mk, .int (nI bc)])), (bl_st, .inl (cI, 32, .inl st)), (bl_by, .inl (cI, 32, .inl ((lq_BL_sort st b kf pl bs2).2)))] H → va_D A [(bl, .inr (4, [.ref bl_le, .ref bl_he, .ref bl_st, .ref bl_fi, .ref bl_be, .ref bl_by, .ref bl_sa, .ref bl_mk, .int (nI bc)])), (bl_st, .inl (cI, 32, .inl st)), (bl_by, .inl (cI, 32, .inl ((lq_BL_sort st b kf pl bs2).2)))] → va_S A s.heap H locs → W p l e (rmK 0 0) s m [.ref bl].toArray below meth c H locs 0 0 (MQ below (RV D classes (tyz cI cZ) [(bl, .inr (4, [.ref bl_le, .ref bl_he, .ref bl_st, .ref bl_fi, .ref bl_be, .ref bl_by, .ref bl_sa, .ref bl_mk, .int (nI bc)])), (bl_st, .inl (cI, 32, .inl st)), (bl_by, .inl (cI, 32, .inl (f_BL_sortByState bc st bs)))] A) [.ref bl].toArray s 0 0 A) (F0 m 58 ls [])) → W p l e (rmK 0 0) s m [.ref bl].toArray below meth c H locs 0 0 (MQ below (RV D classes (tyz cI cZ) [(bl, .inr (4, [.ref bl_le, .ref bl_he, .ref bl_st, .ref bl_fi, .ref bl_be, .ref bl_by, .ref bl_sa, .ref bl_mk, .int (nI bc)])), (bl_st, .inl (cI, 32, .inl st)), (bl_by, .inl (cI, 32, .inl (f_BL_sortByState bc st bs)))] A) [.ref bl].toArray s 0 0 A) (F0 m 12 ls []) := by
        intro kf
        induction kf with
        | zero =>
          intro pl bs2 hp hp2 hb2s ls H locs hl hP hD hS kk
          refine lv_iload_n hx hb d_BL_sortByState_12 rfl (lv_at hl 2 rfl) ?_
          refine n_if_le (tgt := 58) hx hb (by omega) d_BL_sortByState_13 (by decide) (fun h13_3 => ?_) (fun h13_3 => absurd h13_3 (by omega))
          have e9 : lq_BL_sort st b 0 pl bs2 = (pl, bs2) := by rw [lq_BL_sort]
          rw [e9] at kk
          exact kk _ _ _ (lv_sub hl [0, 1, 2] rfl) hP hD hS
        | succ kf ih =>
          intro pl bs2 hp hp2 hb2s ls H locs hl hP hD hS kk
          refine lv_iload_n hx hb d_BL_sortByState_12 rfl (lv_at hl 2 rfl) ?_
          refine n_if_le (tgt := 58) hx hb (by omega) d_BL_sortByState_13 (by decide) (fun h13_4 => absurd h13_4 (by omega)) (fun h13_4 => ?_)
          refine lv_aload_n hx hb d_BL_sortByState_16 rfl (lv_at hl 0 rfl) ?_
          refine k_get (v := .ref bl_st) S in_BL hK hP 0 rfl rfl 2 (by decide) ql_BL_18 rfl d_BL_sortByState_17 ?_
          refine lv_aload_n hx hb d_BL_sortByState_20 rfl (lv_at hl 0 rfl) ?_
          refine k_get (v := .ref bl_by) S in_BL hK hP 0 rfl rfl 5 (by decide) ql_BL_27 rfl d_BL_sortByState_21 ?_
          refine lv_iload_n hx hb d_BL_sortByState_24 rfl (lv_at hl 2 rfl) ?_
          refine lv_iconst (v := 1) hx hb d_BL_sortByState_25 (by decide) ?_
          refine lv_isub hx hb d_BL_sortByState_26 ?_
          refine k_top (y := nI (pl - 1)) (nc_sub rfl (by decide) (by omega)) ?_
          refine k_ld (k := pl - 1) hx hb hK hP 2 0 rfl rfl rfl (by omega) (by decide) d_BL_sortByState_27 ?_
          refine k_top (y := nI (tn (bs2 (pl - 1)))) (hb2s (pl - 1) (by omega)).1 ?_
          refine k_ld (k := tn (bs2 (pl - 1))) hx hb hK hP 1 0 rfl rfl rfl (hb2s (pl - 1) (by omega)).2 (by decide) d_BL_sortByState_28 ?_
          refine lv_aload_n hx hb d_BL_sortByState_29 rfl (lv_at hl 0 rfl) ?_
          refine k_get (v := .ref bl_st) S in_BL hK hP 0 rfl rfl 2 (by decide) ql_BL_18 rfl d_BL_sortByState_30 ?_
          refine lv_iload_n hx hb d_BL_sortByState_33 rfl (lv_at hl 1 rfl) ?_
          refine k_ld (k := b) hx hb hK hP 1 0 rfl rfl rfl (by omega) (by decide) d_BL_sortByState_34 ?_
          refine lv_icmp_le (tgt := 58) hx hb d_BL_sortByState_35 (by decide) (fun h35_5 => ?_) (fun h35_5 => ?_)
          · skip
            have e9 : lq_BL_sort st b (kf + 1) pl bs2 = (pl, bs2) := by rw [lq_BL_sort, if_pos h35_5]
            rw [e9] at kk
            exact kk _ _ _ (lv_sub hl [0, 1, 2] rfl) hP hD hS
          · skip
            refine lv_aload_n hx hb d_BL_sortByState_38 rfl (lv_at hl 0 rfl) ?_
            refine k_get (v := .ref bl_by) S in_BL hK hP 0 rfl rfl 5 (by decide) ql_BL_27 rfl d_BL_sortByState_39 ?_
            refine lv_iload_n hx hb d_BL_sortByState_42 rfl (lv_at hl 2 rfl) ?_
            refine lv_aload_n hx hb d_BL_sortByState_43 rfl (lv_at hl 0 rfl) ?_
            refine k_get (v := .ref bl_by) S in_BL hK hP 0 rfl rfl 5 (by decide) ql_BL_27 rfl d_BL_sortByState_44 ?_
            refine lv_iload_n hx hb d_BL_sortByState_47 rfl (lv_at hl 2 rfl) ?_
            refine lv_iconst (v := 1) hx hb d_BL_sortByState_48 (by decide) ?_
            refine lv_isub hx hb d_BL_sortByState_49 ?_
            refine k_top (y := nI (pl - 1)) (nc_sub rfl (by decide) (by omega)) ?_
            refine k_ld (k := pl - 1) hx hb hK hP 2 0 rfl rfl rfl (by omega) (by decide) d_BL_sortByState_50 ?_
            refine k_st (k := pl) (x := bs2 (pl - 1)) (ws' := [(bl, .inr (4, [.ref bl_le, .ref bl_he, .ref bl_st, .ref bl_fi, .ref bl_be, .ref bl_by, .ref bl_sa, .ref bl_mk, .int (nI bc)])), (bl_st, .inl (cI, 32, .inl st)), (bl_by, .inl (cI, 32, .inl (upd bs2 pl (bs2 (pl - 1)))))]) hx hb hK hP hD hS 2 0 rfl rfl rfl (by omega) (by decide) rfl d_BL_sortByState_51 (fun H locs hP hD hS => ?_)
            refine lv_iinc (k := 2) (v := nI (pl - 1)) (lv' := [(2, .int (nI (pl - 1))), (0, .ref bl), (1, .int (nI b))]) hx hb d_BL_sortByState_52 hl rfl (nc_dec (by omega)) (by decide) rfl (fun ls hl => ?_)
            refine lv_goto (tgt := 12) hx hb d_BL_sortByState_55 (by decide) ?_
            have e9 : lq_BL_sort st b (kf + 1) pl bs2 = lq_BL_sort st b kf (pl - 1) (upd bs2 pl (bs2 (pl - 1))) := by rw [lq_BL_sort, if_neg h35_5]
            rw [e9] at kk
            exact ih (pl - 1) (upd bs2 pl (bs2 (pl - 1))) (by omega) (by omega) (Nn_upd hb2s (hb2s (pl - 1) (by omega)).1 (hb2s (pl - 1) (by omega)).2 (by decide)) _ _ _ (lv_sub hl [1, 2, 0] rfl) hP hD hS kk
      refine LP12 b b bs1 rfl (by omega) hb1s _ _ _ (lv_sub hl [1, 2, 0] rfl) hP hD hS (fun ls H locs hl hP hD hS => ?_)
      refine lv_aload_n hx hb d_BL_sortByState_58 rfl (lv_at hl 0 rfl) ?_
      refine k_get (v := .ref bl_by) S in_BL hK hP 0 rfl rfl 5 (by decide) ql_BL_27 rfl d_BL_sortByState_59 ?_
      refine lv_iload_n hx hb d_BL_sortByState_62 rfl (lv_at hl 2 rfl) ?_
      refine lv_iload_n hx hb d_BL_sortByState_63 rfl (lv_at hl 1 rfl) ?_
      refine k_st (k := (lq_BL_sort st b b b bs1).1) (x := nI b) (ws' := [(bl, .inr (4, [.ref bl_le, .ref bl_he, .ref bl_st, .ref bl_fi, .ref bl_be, .ref bl_by, .ref bl_sa, .ref bl_mk, .int (nI bc)])), (bl_st, .inl (cI, 32, .inl st)), (bl_by, .inl (cI, 32, .inl (upd ((lq_BL_sort st b b b bs1).2) ((lq_BL_sort st b b b bs1).1) (nI b))))]) hx hb hK hP hD hS 2 0 rfl rfl rfl (by have := (ins_Nn b st b b bs1 rfl (by omega) hb1s).2; omega) (by decide) rfl d_BL_sortByState_64 (fun H locs hP hD hS => ?_)
      refine lv_iinc (k := 1) (v := nI (b + 1)) (lv' := [(1, .int (nI (b + 1))), (0, .ref bl), (2, .int (nI ((lq_BL_sort st b b b bs1).1)))]) hx hb d_BL_sortByState_65 hl rfl (nc_add rfl (by decide)) (by decide) rfl (fun ls hl => ?_)
      refine lv_goto (tgt := 2) hx hb d_BL_sortByState_68 (by decide) ?_
      have e9 : lp_BL_sort st (kf + 1) b bs1 = lp_BL_sort st kf (b + 1) (upd ((lq_BL_sort st b b b bs1).2) ((lq_BL_sort st b b b bs1).1) (nI b)) := by rw [lp_BL_sort]
      rw [e9] at kk
      exact ih (b + 1) (upd ((lq_BL_sort st b b b bs1).2) ((lq_BL_sort st b b b bs1).1) (nI b)) (by omega) (Nn_upd (v := b) (ins_Nn b st b b bs1 rfl (by omega) hb1s).1 rfl (by omega) (by decide)) _ _ _ (lv_sub hl [1, 0] rfl) hP hD hS kk
  refine LP2 bc 0 bs (by omega) hbs _ _ _ (lv_sub hl [1, 0] rfl) hP hD hS (fun ls H locs hl hP hD hS => ?_)
  exact k_vret hx hb hr hlocks hK hP hD hS (by rw [f_BL_sortByState]) d_BL_sortByState_71
