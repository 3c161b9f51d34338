theorem d_CH_givesTargets_0 : decode b_CH_givesTargets 0 = .ok (.iconst 1, 1) := by decide +kernel
theorem d_CH_givesTargets_1 : decode b_CH_givesTargets 1 = .ok (.istore_n 3, 1) := by decide +kernel
theorem d_CH_givesTargets_2 : decode b_CH_givesTargets 2 = .ok (.iconst 0, 1) := by decide +kernel
theorem d_CH_givesTargets_3 : decode b_CH_givesTargets 3 = .ok (.istore 4, 2) := by decide +kernel
theorem d_CH_givesTargets_5 : decode b_CH_givesTargets 5 = .ok (.iload 4, 2) := by decide +kernel
theorem d_CH_givesTargets_7 : decode b_CH_givesTargets 7 = .ok (.aload_n 1, 1) := by decide +kernel
theorem d_CH_givesTargets_8 : decode b_CH_givesTargets 8 = .ok (.getfield 71, 3) := by decide +kernel
theorem d_CH_givesTargets_11 : decode b_CH_givesTargets 11 = .ok (.if_icmp .ge 45, 3) := by decide +kernel
theorem d_CH_givesTargets_14 : decode b_CH_givesTargets 14 = .ok (.aload_n 1, 1) := by decide +kernel
theorem d_CH_givesTargets_15 : decode b_CH_givesTargets 15 = .ok (.iload 4, 2) := by decide +kernel
theorem d_CH_givesTargets_17 : decode b_CH_givesTargets 17 = .ok (.iload_n 2, 1) := by decide +kernel
theorem d_CH_givesTargets_18 : decode b_CH_givesTargets 18 = .ok (.invokevirtual 74, 3) := by decide +kernel
theorem d_CH_givesTargets_21 : decode b_CH_givesTargets 21 = .ok (.ifCond .eq 29, 3) := by decide +kernel
theorem d_CH_givesTargets_24 : decode b_CH_givesTargets 24 = .ok (.aload_n 0, 1) := by decide +kernel
theorem d_CH_givesTargets_25 : decode b_CH_givesTargets 25 = .ok (.aload_n 1, 1) := by decide +kernel
theorem d_CH_givesTargets_26 : decode b_CH_givesTargets 26 = .ok (.aload_n 1, 1) := by decide +kernel
theorem d_CH_givesTargets_27 : decode b_CH_givesTargets 27 = .ok (.getfield 78, 3) := by decide +kernel
theorem d_CH_givesTargets_30 : decode b_CH_givesTargets 30 = .ok (.iload 4, 2) := by decide +kernel
theorem d_CH_givesTargets_32 : decode b_CH_givesTargets 32 = .ok (.iaload, 1) := by decide +kernel
theorem d_CH_givesTargets_33 : decode b_CH_givesTargets 33 = .ok (.iconst 1, 1) := by decide +kernel
theorem d_CH_givesTargets_34 : decode b_CH_givesTargets 34 = .ok (.invokevirtual 55, 3) := by decide +kernel
theorem d_CH_givesTargets_37 : decode b_CH_givesTargets 37 = .ok (.ifCond .eq 11, 3) := by decide +kernel
theorem d_CH_givesTargets_40 : decode b_CH_givesTargets 40 = .ok (.iload_n 3, 1) := by decide +kernel
theorem d_CH_givesTargets_41 : decode b_CH_givesTargets 41 = .ok (.ifCond .eq 7, 3) := by decide +kernel
theorem d_CH_givesTargets_44 : decode b_CH_givesTargets 44 = .ok (.iconst 1, 1) := by decide +kernel
theorem d_CH_givesTargets_45 : decode b_CH_givesTargets 45 = .ok (.goto 4, 3) := by decide +kernel
theorem d_CH_givesTargets_48 : decode b_CH_givesTargets 48 = .ok (.iconst 0, 1) := by decide +kernel
theorem d_CH_givesTargets_49 : decode b_CH_givesTargets 49 = .ok (.istore_n 3, 1) := by decide +kernel
theorem d_CH_givesTargets_50 : decode b_CH_givesTargets 50 = .ok (.iinc 4 1, 3) := by decide +kernel
theorem d_CH_givesTargets_53 : decode b_CH_givesTargets 53 = .ok (.goto (-48), 3) := by decide +kernel
theorem d_CH_givesTargets_56 : decode b_CH_givesTargets 56 = .ok (.iload_n 3, 1) := by decide +kernel
theorem d_CH_givesTargets_57 : decode b_CH_givesTargets 57 = .ok (.ireturn, 1) := by decide +kernel
def lp_CH_givesTargets (n : Nat) (i : Nat) (fr : Nat → Int32) (to : Nat → Int32) (tg : Nat → Int32) : Nat → Nat → Int32 → (Nat → Int32) → Int32 × (Nat → Int32)
  | 0, h, b, d1 => (b, d1)
  | kf + 1, h, b, d1 => (if f_CO_covers h fr to (nI i) = 0 then (lp_CH_givesTargets n i fr to tg kf (h + 1) b d1) else (if (f_CH_gives n (tn (tg h)) d1 1).1 = 0 then (lp_CH_givesTargets n i fr to tg kf (h + 1) 0 ((f_CH_gives n (tn (tg h)) d1 1).2)) else (if b = 0 then (lp_CH_givesTargets n i fr to tg kf (h + 1) 0 ((f_CH_gives n (tn (tg h)) d1 1).2)) else (lp_CH_givesTargets n i fr to tg kf (h + 1) 1 ((f_CH_gives n (tn (tg h)) d1 1).2)))))
def f_CH_givesTargets (n : Nat) (hn : Nat) (i : Nat) (fr : Nat → Int32) (to : Nat → Int32) (tg : Nat → Int32) (d : Nat → Int32) : Int32 × (Nat → Int32) := ((lp_CH_givesTargets n i fr to tg hn 0 1 d).1, (lp_CH_givesTargets n i fr to tg hn 0 1 d).2)
theorem z_givesTargets (n i : Nat) (fr to tg : Nat → Int32) : ∀ (kf h : Nat) (b : Int32) (d : Nat → Int32), b = 0 ∨ b = 1 → (lp_CH_givesTargets n i fr to tg kf h b d).1 = 0 ∨ (lp_CH_givesTargets n i fr to tg kf h b d).1 = 1 := by
  intro kf
  induction kf with
  | zero => intro h g d hg; exact hg
  | succ kf ih =>
    intro h g d hg
    rw [lp_CH_givesTargets]
    split
    · exact ih _ _ _ hg
    · split
      · exact ih _ _ _ (Or.inl rfl)
      · split
        · exact ih _ _ _ (Or.inl rfl)
        · exact ih _ _ _ (Or.inr rfl)
set_option maxHeartbeats 1000000 in
set_option maxRecDepth 100000 in
theorem c_CH_givesTargets (l : Launch) (D : va_G) (cI cZ : ClassId) (k k_d k_o : Nat) (oc oc_ops oc_opd oc_fr oc_to oc_tg n hn : Nat) (i : Nat) (fr to tg d : Nat → Int32) (hh : n ≤ 32) (h3 : hn ≤ 3) (hg : ∀ h, h < hn → tg h = nI (tn (tg h)) ∧ tn (tg h) ≤ 32) : MG l y_CH_givesTargets w_CH_givesTargets (rmK 2 44) D classes (tyz cI cZ) E0 [.ref k, .ref oc, .int (nI i)] [(k, .inr (2, [.ref k_d, .ref k_o])), (k_d, .inl (cI, 32, .inl d)), (oc, .inr (1, [.ref oc_ops, .ref oc_opd, .ref oc_fr, .ref oc_to, .ref oc_tg, .int (nI n), .int (nI hn)])), (oc_fr, .inl (cI, 3, .inl fr)), (oc_to, .inl (cI, 3, .inl to)), (oc_tg, .inl (cI, 3, .inl tg))] (RI D classes (tyz cI cZ) ((f_CH_givesTargets n hn i fr to tg d).1) [(k, .inr (2, [.ref k_d, .ref k_o])), (k_d, .inl (cI, 32, .inl ((f_CH_givesTargets n hn i fr to tg d).2))), (oc, .inr (1, [.ref oc_ops, .ref oc_opd, .ref oc_fr, .ref oc_to, .ref oc_tg, .int (nI n), .int (nI hn)])), (oc_fr, .inl (cI, 3, .inl fr)), (oc_to, .inl (cI, 3, .inl to)), (oc_tg, .inl (cI, 3, .inl tg))]) := by
  refine MG.of (cc := b_CH_givesTargets) (maxL := 5) (ret := (some .boolean)) (own := "FlowFlattener$Checker") rfl (by decide) rfl (Nat.le_of_ble_eq_true rfl) ?_
  intro p e s m below meth c A ls S hr hlocks hA hP hK hD hS hE hl
  have hx := S.1
  have hb := S.2.1
  have hl : lv_has ls 5 [(0, .ref k), (1, .ref oc), (2, .int (nI i))] := hl
  refine lv_iconst (v := 1) hx hb d_CH_givesTargets_0 (by decide) ?_
  refine lv_istore_n (lv' := [(3, .int 1), (0, .ref k), (1, .ref oc), (2, .int (nI i))]) hx hb d_CH_givesTargets_1 rfl hl (by decide) rfl (fun ls hl => ?_)
  refine lv_iconst (v := nI 0) hx hb d_CH_givesTargets_2 (by decide) ?_
  refine lv_istore (lv' := [(4, .int (nI 0)), (3, .int 1), (0, .ref k), (1, .ref oc), (2, .int (nI i))]) hx hb d_CH_givesTargets_3 hl (by decide) rfl (fun ls hl => ?_)
  have LP5 : ∀ (kf : Nat) (h : Nat) (b : Int32) (d1 : Nat → Int32), (h + kf = hn) → ∀ (ls : Array Slot) (H : Heap) (locs : List Loc), lv_has ls 5 [(0, .ref k), (1, .ref oc), (2, .int (nI i)), (3, .int b), (4, .int (nI h))] → va_P D classes [(k, .inr (2, [.ref k_d, .ref k_o])), (k_d, .inl (cI, 32, .inl d1)), (oc, .inr (1, [.ref oc_ops, .ref oc_opd, .ref oc_fr, .ref oc_to, .ref oc_tg, .int (nI n), .int (nI hn)])), (oc_fr, .inl (cI, 3, .inl fr)), (oc_to, .inl (cI, 3, .inl to)), (oc_tg, .inl (cI, 3, .inl tg))] H → va_D A [(k, .inr (2, [.ref k_d, .ref k_o])), (k_d, .inl (cI, 32, .inl d1)), (oc, .inr (1, [.ref oc_ops, .ref oc_opd, .ref oc_fr, .ref oc_to, .ref oc_tg, .int (nI n), .int (nI hn)])), (oc_fr, .inl (cI, 3, .inl fr)), (oc_to, .inl (cI, 3, .inl to)), (oc_tg, .inl (cI, 3, .inl tg))] → va_S A s.heap H locs → (∀ (ls : Array Slot) (H : Heap) (locs : List Loc), lv_has ls 5 [(0, .ref k), (1, .ref oc), (2, .int (nI i)), (3, .int ((lp_CH_givesTargets n i fr to tg kf h b d1).1))] → va_P D classes [(k, .inr (2, [.ref k_d, .ref k_o])), (k_d, .inl (cI, 32, .inl ((lp_CH_givesTargets n i fr to tg kf h b d1).2))), (oc, .inr (1, [.ref oc_ops, .ref oc_opd, .ref oc_fr, .ref oc_to, .ref oc_tg, .int (nI n), .int (nI hn)])), (oc_fr, .inl (cI, 3, .inl fr)), (oc_to, .inl (cI, 3, .inl to)), (oc_tg, .inl (cI, 3, .inl tg))] H → va_D A [(k, .inr (2, [.ref k_d, .ref k_o])), (k_d, .inl (cI, 32, .inl ((lp_CH_givesTargets n i fr to tg kf h b d1).2))), (oc, .inr (1, [.ref oc_ops, .ref oc_opd, .ref oc_fr, .ref oc_to, .ref oc_tg, .int (nI n), .int (nI hn)])), (oc_fr, .inl (cI, 3, .inl fr)), (oc_to, .inl (cI, 3, .inl to)), (oc_tg, .inl (cI, 3, .inl tg))] → va_S A s.heap H locs → W p l e (rmK 2 44) s m [.ref k, .ref oc, .int (nI i)].toArray below meth c H locs 0 0 (MQ below (RI D classes (tyz cI cZ) ((f_CH_givesTargets n hn i fr to tg d).1) [(k, .inr (2, [.ref k_d, .ref k_o])), (k_d, .inl (cI, 32, .inl ((f_CH_givesTargets n hn i fr to tg d).2))), (oc, .inr (1, [.ref oc_ops, .ref oc_opd, .ref oc_fr, .ref oc_to, .ref oc_tg, .int (nI n), .int (nI hn)])), (oc_fr, .inl (cI, 3, .inl fr)), (oc_to, .inl (cI, 3, .inl to)), (oc_tg, .inl (cI, 3, .inl tg))] A) [.ref k, .ref oc, .int (nI i)].toArray s 0 0 A) (F0 m 56 ls [])) → W p l e (rmK 2 44) s m [.ref k, .ref oc, .int (nI i)].toArray below meth c H locs 0 0 (MQ below (RI D classes (tyz cI cZ) ((f_CH_givesTargets n hn i fr to tg d).1) [(k, .inr (2, [.ref k_d, .ref k_o])), (k_d, .inl (cI, 32, .inl ((f_CH_givesTargets n hn i fr to tg d).2))), (oc, .inr (1, [.ref oc_ops, .ref oc_opd, .ref oc_fr, .ref oc_to, .ref oc_tg, .int (nI n), .int (nI hn)])), (oc_fr, .inl (cI, 3, .inl fr)), (oc_to, .inl (cI, 3, .inl to)), (oc_tg, .inl (cI, 3, .inl tg))] A) [.ref k, .ref oc, .int (nI i)].toArray s 0 0 A) (F0 m 5 ls []) := by
    intro kf
    induction kf with
    | zero =>
      intro h b d1 hk ls H locs hl hP hD hS kk
      refine lv_iload hx hb d_CH_givesTargets_5 (lv_at hl 4 rfl) ?_
      refine lv_aload_n hx hb d_CH_givesTargets_7 rfl (lv_at hl 1 rfl) ?_
      refine k_get (v := .int (nI hn)) S in_CO hK hP 2 rfl rfl 6 (by decide) ql_CH_71 rfl d_CH_givesTargets_8 ?_
      refine n_icmp_ge (tgt := 56) (x := h) (y := hn) hx hb rfl rfl (by omega) (by omega) d_CH_givesTargets_11 (by decide) (fun h11_1 => ?_) (fun h11_1 => absurd h11_1 (by omega))
      have e9 : lp_CH_givesTargets n i fr to tg 0 h b d1 = (b, d1) := by rw [lp_CH_givesTargets]
      rw [e9] at kk
      exact kk _ _ _ (lv_sub hl [0, 1, 2, 3] rfl) hP hD hS
    | succ kf ih =>
      intro h b d1 hk ls H locs hl hP hD hS kk
      refine lv_iload hx hb d_CH_givesTargets_5 (lv_at hl 4 rfl) ?_
      refine lv_aload_n hx hb d_CH_givesTargets_7 rfl (lv_at hl 1 rfl) ?_
      refine k_get (v := .int (nI hn)) S in_CO hK hP 2 rfl rfl 6 (by decide) ql_CH_71 rfl d_CH_givesTargets_8 ?_
      refine n_icmp_ge (tgt := 56) (x := h) (y := hn) hx hb rfl rfl (by omega) (by omega) d_CH_givesTargets_11 (by decide) (fun h11_2 => absurd h11_2 (by omega)) (fun h11_2 => ?_)
      refine lv_aload_n hx hb d_CH_givesTargets_14 rfl (lv_at hl 1 rfl) ?_
      refine lv_iload hx hb d_CH_givesTargets_15 (lv_at hl 4 rfl) ?_
      refine lv_iload_n hx hb d_CH_givesTargets_17 rfl (lv_at hl 2 rfl) ?_
      refine k_goi (ws' := [(k, .inr (2, [.ref k_d, .ref k_o])), (k_d, .inl (cI, 32, .inl d1)), (oc, .inr (1, [.ref oc_ops, .ref oc_opd, .ref oc_fr, .ref oc_to, .ref oc_tg, .int (nI n), .int (nI hn)])), (oc_fr, .inl (cI, 3, .inl fr)), (oc_to, .inl (cI, 3, .inl to)), (oc_tg, .inl (cI, 3, .inl tg))]) (wr := [(k, .inr (2, [.ref k_d, .ref k_o])), (k_d, .inl (cI, 32, .inl d1)), (oc_tg, .inl (cI, 3, .inl tg))]) (k_runV (q0 := 2) (As := [.int (nI h), .int (nI i)]) (rest := []) (n := 2) S (c_CO_covers l D cI cZ oc oc_ops oc_opd oc_fr oc_to oc_tg n hn 3 h fr to (nI i) (by omega) (by omega)) E0_b E0_t ql_CH_74 qi_CO_covers qs_CO_covers qn_CO qc_CO_covers (by decide +kernel) rfl ⟨rfl, rfl⟩ ⟨Nat.le_of_ble_eq_true rfl, Nat.le_of_ble_eq_true rfl⟩ hK hP hD [2, 3, 4] rfl (by decide) rfl rfl hl.1 rfl (Nat.le_of_ble_eq_true rfl) d_CH_givesTargets_18 ⟨Nat.zero_le _, Nat.zero_le _⟩) hP hD hS hA [2, 3, 4] [0, 1, 5] [0, 1, 3, 4, 5, 2] rfl rfl (by decide) (by decide) rfl (by decide) (fun H locs hP hD hS => ?_)
      refine lv_if_eq (tgt := 50) hx hb d_CH_givesTargets_21 (by decide) (fun h21_3 => ?_) (fun h21_3 => ?_)
      · skip
        refine lv_iinc (k := 4) (v := nI (h + 1)) (lv' := [(4, .int (nI (h + 1))), (0, .ref k), (1, .ref oc), (2, .int (nI i)), (3, .int b)]) hx hb d_CH_givesTargets_50 hl rfl (nc_add rfl (by decide)) (by decide) rfl (fun ls hl => ?_)
        refine lv_goto (tgt := 5) hx hb d_CH_givesTargets_53 (by decide) ?_
        have e9 : lp_CH_givesTargets n i fr to tg (kf + 1) h b d1 = lp_CH_givesTargets n i fr to tg kf (h + 1) b d1 := by rw [lp_CH_givesTargets, if_pos h21_3]
        rw [e9] at kk
        exact ih (h + 1) b d1 (by omega) _ _ _ (lv_sub hl [1, 2, 3, 4, 0] rfl) hP hD hS kk
      · skip
        refine lv_aload_n hx hb d_CH_givesTargets_24 rfl (lv_at hl 0 rfl) ?_
        refine lv_aload_n hx hb d_CH_givesTargets_25 rfl (lv_at hl 1 rfl) ?_
        refine lv_aload_n hx hb d_CH_givesTargets_26 rfl (lv_at hl 1 rfl) ?_
        refine k_get (v := .ref oc_tg) S in_CO hK hP 2 rfl rfl 4 (by decide) ql_CH_78 rfl d_CH_givesTargets_27 ?_
        refine lv_iload hx hb d_CH_givesTargets_30 (lv_at hl 4 rfl) ?_
        refine k_ld (k := h) hx hb hK hP 5 0 rfl rfl rfl (by omega) (by decide) d_CH_givesTargets_32 ?_
        refine k_top (y := nI (tn (tg h))) (hg h (by omega)).1 ?_
        refine lv_iconst (v := 1) hx hb d_CH_givesTargets_33 (by decide) ?_
        refine k_goi (ws' := [(k, .inr (2, [.ref k_d, .ref k_o])), (k_d, .inl (cI, 32, .inl ((f_CH_gives n (tn (tg h)) d1 1).2))), (oc, .inr (1, [.ref oc_ops, .ref oc_opd, .ref oc_fr, .ref oc_to, .ref oc_tg, .int (nI n), .int (nI hn)])), (oc_fr, .inl (cI, 3, .inl fr)), (oc_to, .inl (cI, 3, .inl to)), (oc_tg, .inl (cI, 3, .inl tg))]) (wr := [(oc_fr, .inl (cI, 3, .inl fr)), (oc_to, .inl (cI, 3, .inl to)), (oc_tg, .inl (cI, 3, .inl tg))]) (k_runV (q0 := 0) (As := [.ref oc, .int (nI (tn (tg h))), .int 1]) (rest := []) (n := 3) S (c_CH_gives l D cI cZ k k_d k_o oc oc_ops oc_opd oc_fr oc_to oc_tg n hn (tn (tg h)) d1 1 (by omega) (by have := (hg h (by omega)).2; omega)) E0_b E0_t ql_CH_55 qi_CH_gives qs_CH_gives qn_CH qc_CH_gives (by decide +kernel) rfl ⟨rfl, rfl⟩ ⟨Nat.le_of_ble_eq_true rfl, Nat.le_of_ble_eq_true rfl⟩ hK hP hD [0, 1, 2] rfl (by decide) rfl rfl hl.1 rfl (Nat.le_of_ble_eq_true rfl) d_CH_givesTargets_34 ⟨Nat.zero_le _, Nat.zero_le _⟩) hP hD hS hA [0, 1, 2] [3, 4, 5] [3, 4, 5, 0, 1, 2] rfl rfl (by decide) (by decide) rfl (by decide) (fun H locs hP hD hS => ?_)
        refine lv_if_eq (tgt := 48) hx hb d_CH_givesTargets_37 (by decide) (fun h37_4 => ?_) (fun h37_4 => ?_)
        · skip
          refine lv_iconst (v := 0) hx hb d_CH_givesTargets_48 (by decide) ?_
          refine lv_istore_n (lv' := [(3, .int 0), (0, .ref k), (1, .ref oc), (2, .int (nI i)), (4, .int (nI h))]) hx hb d_CH_givesTargets_49 rfl hl (by decide) rfl (fun ls hl => ?_)
          refine lv_iinc (k := 4) (v := nI (h + 1)) (lv' := [(4, .int (nI (h + 1))), (3, .int 0), (0, .ref k), (1, .ref oc), (2, .int (nI i))]) hx hb d_CH_givesTargets_50 hl rfl (nc_add rfl (by decide)) (by decide) rfl (fun ls hl => ?_)
          refine lv_goto (tgt := 5) hx hb d_CH_givesTargets_53 (by decide) ?_
          have e9 : lp_CH_givesTargets n i fr to tg (kf + 1) h b d1 = lp_CH_givesTargets n i fr to tg kf (h + 1) 0 ((f_CH_gives n (tn (tg h)) d1 1).2) := by rw [lp_CH_givesTargets, if_neg h21_3, if_pos h37_4]
          rw [e9] at kk
          exact ih (h + 1) 0 ((f_CH_gives n (tn (tg h)) d1 1).2) (by omega) _ _ _ (lv_sub hl [2, 3, 4, 1, 0] rfl) hP hD hS kk
        · skip
          refine lv_iload_n hx hb d_CH_givesTargets_40 rfl (lv_at hl 3 rfl) ?_
          refine lv_if_eq (tgt := 48) hx hb d_CH_givesTargets_41 (by decide) (fun h41_5 => ?_) (fun h41_5 => ?_)
          · skip
            refine lv_iconst (v := 0) hx hb d_CH_givesTargets_48 (by decide) ?_
            refine lv_istore_n (lv' := [(3, .int 0), (0, .ref k), (1, .ref oc), (2, .int (nI i)), (4, .int (nI h))]) hx hb d_CH_givesTargets_49 rfl hl (by decide) rfl (fun ls hl => ?_)
            refine lv_iinc (k := 4) (v := nI (h + 1)) (lv' := [(4, .int (nI (h + 1))), (3, .int 0), (0, .ref k), (1, .ref oc), (2, .int (nI i))]) hx hb d_CH_givesTargets_50 hl rfl (nc_add rfl (by decide)) (by decide) rfl (fun ls hl => ?_)
            refine lv_goto (tgt := 5) hx hb d_CH_givesTargets_53 (by decide) ?_
            have e9 : lp_CH_givesTargets n i fr to tg (kf + 1) h b d1 = lp_CH_givesTargets n i fr to tg kf (h + 1) 0 ((f_CH_gives n (tn (tg h)) d1 1).2) := by rw [lp_CH_givesTargets, if_neg h21_3, if_neg h37_4, if_pos h41_5]
            rw [e9] at kk
            exact ih (h + 1) 0 ((f_CH_gives n (tn (tg h)) d1 1).2) (by omega) _ _ _ (lv_sub hl [2, 3, 4, 1, 0] rfl) hP hD hS kk
          · skip
            refine lv_iconst (v := 1) hx hb d_CH_givesTargets_44 (by decide) ?_
            refine lv_goto (tgt := 49) hx hb d_CH_givesTargets_45 (by decide) ?_
            refine lv_istore_n (lv' := [(3, .int 1), (0, .ref k), (1, .ref oc), (2, .int (nI i)), (4, .int (nI h))]) hx hb d_CH_givesTargets_49 rfl hl (by decide) rfl (fun ls hl => ?_)
            refine lv_iinc (k := 4) (v := nI (h + 1)) (lv' := [(4, .int (nI (h + 1))), (3, .int 1), (0, .ref k), (1, .ref oc), (2, .int (nI i))]) hx hb d_CH_givesTargets_50 hl rfl (nc_add rfl (by decide)) (by decide) rfl (fun ls hl => ?_)
            refine lv_goto (tgt := 5) hx hb d_CH_givesTargets_53 (by decide) ?_
            have e9 : lp_CH_givesTargets n i fr to tg (kf + 1) h b d1 = lp_CH_givesTargets n i fr to tg kf (h + 1) 1 ((f_CH_gives n (tn (tg h)) d1 1).2) := by rw [lp_CH_givesTargets, if_neg h21_3, if_neg h37_4, if_neg h41_5]
            rw [e9] at kk
            exact ih (h + 1) 1 ((f_CH_gives n (tn (tg h)) d1 1).2) (by omega) _ _ _ (lv_sub hl [2, 3, 4, 1, 0] rfl) hP hD hS kk
  refine LP5 hn 0 1 d (by omega) _ _ _ (lv_sub hl [2, 3, 4, 1, 0] rfl) hP hD hS (fun ls H locs hl hP hD hS => ?_)
  refine lv_iload_n hx hb d_CH_givesTargets_56 rfl (lv_at hl 3 rfl) ?_
  exact k_zret hx hb hr hlocks hK hP hD hS (z_givesTargets n i fr to tg hn 0 1 d (Or.inr rfl)) (by rw [f_CH_givesTargets]) (by rw [f_CH_givesTargets]) d_CH_givesTargets_57

theorem d_CH_goesOver_0 : decode b_CH_goesOver 0 = .ok (.aload_n 1, 1) := by decide +kernel
theorem d_CH_goesOver_1 : decode b_CH_goesOver 1 = .ok (.getfield 40, 3) := by decide +kernel
theorem d_CH_goesOver_4 : decode b_CH_goesOver 4 = .ok (.iload_n 2, 1) := by decide +kernel
theorem d_CH_goesOver_5 : decode b_CH_goesOver 5 = .ok (.iaload, 1) := by decide +kernel
theorem d_CH_goesOver_6 : decode b_CH_goesOver 6 = .ok (.istore_n 3, 1) := by decide +kernel
theorem d_CH_goesOver_7 : decode b_CH_goesOver 7 = .ok (.aload_n 0, 1) := by decide +kernel
theorem d_CH_goesOver_8 : decode b_CH_goesOver 8 = .ok (.getfield 9, 3) := by decide +kernel
theorem d_CH_goesOver_11 : decode b_CH_goesOver 11 = .ok (.iload_n 2, 1) := by decide +kernel
theorem d_CH_goesOver_12 : decode b_CH_goesOver 12 = .ok (.iaload, 1) := by decide +kernel
theorem d_CH_goesOver_13 : decode b_CH_goesOver 13 = .ok (.getstatic 43, 3) := by decide +kernel
theorem d_CH_goesOver_16 : decode b_CH_goesOver 16 = .ok (.iload_n 3, 1) := by decide +kernel
theorem d_CH_goesOver_17 : decode b_CH_goesOver 17 = .ok (.iaload, 1) := by decide +kernel
theorem d_CH_goesOver_18 : decode b_CH_goesOver 18 = .ok (.isub, 1) := by decide +kernel
theorem d_CH_goesOver_19 : decode b_CH_goesOver 19 = .ok (.getstatic 46, 3) := by decide +kernel
theorem d_CH_goesOver_22 : decode b_CH_goesOver 22 = .ok (.iload_n 3, 1) := by decide +kernel
theorem d_CH_goesOver_23 : decode b_CH_goesOver 23 = .ok (.iaload, 1) := by decide +kernel
theorem d_CH_goesOver_24 : decode b_CH_goesOver 24 = .ok (.iadd, 1) := by decide +kernel
theorem d_CH_goesOver_25 : decode b_CH_goesOver 25 = .ok (.istore 4, 2) := by decide +kernel
theorem d_CH_goesOver_27 : decode b_CH_goesOver 27 = .ok (.getstatic 43, 3) := by decide +kernel
theorem d_CH_goesOver_30 : decode b_CH_goesOver 30 = .ok (.iload_n 3, 1) := by decide +kernel
theorem d_CH_goesOver_31 : decode b_CH_goesOver 31 = .ok (.iaload, 1) := by decide +kernel
theorem d_CH_goesOver_32 : decode b_CH_goesOver 32 = .ok (.aload_n 0, 1) := by decide +kernel
theorem d_CH_goesOver_33 : decode b_CH_goesOver 33 = .ok (.getfield 9, 3) := by decide +kernel
theorem d_CH_goesOver_36 : decode b_CH_goesOver 36 = .ok (.iload_n 2, 1) := by decide +kernel
theorem d_CH_goesOver_37 : decode b_CH_goesOver 37 = .ok (.iaload, 1) := by decide +kernel
theorem d_CH_goesOver_38 : decode b_CH_goesOver 38 = .ok (.if_icmp .gt 17, 3) := by decide +kernel
theorem d_CH_goesOver_41 : decode b_CH_goesOver 41 = .ok (.iload 4, 2) := by decide +kernel
theorem d_CH_goesOver_43 : decode b_CH_goesOver 43 = .ok (.iconst 4, 1) := by decide +kernel
theorem d_CH_goesOver_44 : decode b_CH_goesOver 44 = .ok (.if_icmp .gt 11, 3) := by decide +kernel
theorem d_CH_goesOver_47 : decode b_CH_goesOver 47 = .ok (.aload_n 1, 1) := by decide +kernel
theorem d_CH_goesOver_48 : decode b_CH_goesOver 48 = .ok (.iload_n 2, 1) := by decide +kernel
theorem d_CH_goesOver_49 : decode b_CH_goesOver 49 = .ok (.invokestatic 49, 3) := by decide +kernel
theorem d_CH_goesOver_52 : decode b_CH_goesOver 52 = .ok (.ifCond .ne 5, 3) := by decide +kernel
theorem d_CH_goesOver_55 : decode b_CH_goesOver 55 = .ok (.iconst 0, 1) := by decide +kernel
theorem d_CH_goesOver_56 : decode b_CH_goesOver 56 = .ok (.ireturn, 1) := by decide +kernel
theorem d_CH_goesOver_57 : decode b_CH_goesOver 57 = .ok (.iconst 1, 1) := by decide +kernel
theorem d_CH_goesOver_58 : decode b_CH_goesOver 58 = .ok (.istore 5, 2) := by decide +kernel
theorem d_CH_goesOver_60 : decode b_CH_goesOver 60 = .ok (.iload_n 3, 1) := by decide +kernel
theorem d_CH_goesOver_61 : decode b_CH_goesOver 61 = .ok (.invokestatic 52, 3) := by decide +kernel
theorem d_CH_goesOver_64 : decode b_CH_goesOver 64 = .ok (.ifCond .eq 15, 3) := by decide +kernel
theorem d_CH_goesOver_67 : decode b_CH_goesOver 67 = .ok (.aload_n 0, 1) := by decide +kernel
theorem d_CH_goesOver_68 : decode b_CH_goesOver 68 = .ok (.aload_n 1, 1) := by decide +kernel
theorem d_CH_goesOver_69 : decode b_CH_goesOver 69 = .ok (.iload_n 2, 1) := by decide +kernel
theorem d_CH_goesOver_70 : decode b_CH_goesOver 70 = .ok (.iconst 1, 1) := by decide +kernel
theorem d_CH_goesOver_71 : decode b_CH_goesOver 71 = .ok (.iadd, 1) := by decide +kernel
theorem d_CH_goesOver_72 : decode b_CH_goesOver 72 = .ok (.iload 4, 2) := by decide +kernel
theorem d_CH_goesOver_74 : decode b_CH_goesOver 74 = .ok (.invokevirtual 55, 3) := by decide +kernel
theorem d_CH_goesOver_77 : decode b_CH_goesOver 77 = .ok (.istore 5, 2) := by decide +kernel
theorem d_CH_goesOver_79 : decode b_CH_goesOver 79 = .ok (.iload_n 3, 1) := by decide +kernel
theorem d_CH_goesOver_80 : decode b_CH_goesOver 80 = .ok (.invokestatic 59, 3) := by decide +kernel
theorem d_CH_goesOver_83 : decode b_CH_goesOver 83 = .ok (.ifCond .eq 31, 3) := by decide +kernel
theorem d_CH_goesOver_86 : decode b_CH_goesOver 86 = .ok (.aload_n 0, 1) := by decide +kernel
theorem d_CH_goesOver_87 : decode b_CH_goesOver 87 = .ok (.aload_n 1, 1) := by decide +kernel
theorem d_CH_goesOver_88 : decode b_CH_goesOver 88 = .ok (.aload_n 1, 1) := by decide +kernel
theorem d_CH_goesOver_89 : decode b_CH_goesOver 89 = .ok (.getfield 62, 3) := by decide +kernel
theorem d_CH_goesOver_92 : decode b_CH_goesOver 92 = .ok (.iload_n 2, 1) := by decide +kernel
theorem d_CH_goesOver_93 : decode b_CH_goesOver 93 = .ok (.iaload, 1) := by decide +kernel
theorem d_CH_goesOver_94 : decode b_CH_goesOver 94 = .ok (.iload 4, 2) := by decide +kernel
theorem d_CH_goesOver_96 : decode b_CH_goesOver 96 = .ok (.invokevirtual 55, 3) := by decide +kernel
theorem d_CH_goesOver_99 : decode b_CH_goesOver 99 = .ok (.ifCond .eq 12, 3) := by decide +kernel
theorem d_CH_goesOver_102 : decode b_CH_goesOver 102 = .ok (.iload 5, 2) := by decide +kernel
theorem d_CH_goesOver_104 : decode b_CH_goesOver 104 = .ok (.ifCond .eq 7, 3) := by decide +kernel
theorem d_CH_goesOver_107 : decode b_CH_goesOver 107 = .ok (.iconst 1, 1) := by decide +kernel
theorem d_CH_goesOver_108 : decode b_CH_goesOver 108 = .ok (.goto 4, 3) := by decide +kernel
theorem d_CH_goesOver_111 : decode b_CH_goesOver 111 = .ok (.iconst 0, 1) := by decide +kernel
theorem d_CH_goesOver_112 : decode b_CH_goesOver 112 = .ok (.istore 5, 2) := by decide +kernel
theorem d_CH_goesOver_114 : decode b_CH_goesOver 114 = .ok (.aload_n 0, 1) := by decide +kernel
theorem d_CH_goesOver_115 : decode b_CH_goesOver 115 = .ok (.aload_n 1, 1) := by decide +kernel
theorem d_CH_goesOver_116 : decode b_CH_goesOver 116 = .ok (.iload_n 2, 1) := by decide +kernel
theorem d_CH_goesOver_117 : decode b_CH_goesOver 117 = .ok (.invokevirtual 65, 3) := by decide +kernel
theorem d_CH_goesOver_120 : decode b_CH_goesOver 120 = .ok (.ifCond .eq 12, 3) := by decide +kernel
theorem d_CH_goesOver_123 : decode b_CH_goesOver 123 = .ok (.iload 5, 2) := by decide +kernel
theorem d_CH_goesOver_125 : decode b_CH_goesOver 125 = .ok (.ifCond .eq 7, 3) := by decide +kernel
theorem d_CH_goesOver_128 : decode b_CH_goesOver 128 = .ok (.iconst 1, 1) := by decide +kernel
theorem d_CH_goesOver_129 : decode b_CH_goesOver 129 = .ok (.goto 4, 3) := by decide +kernel
theorem d_CH_goesOver_132 : decode b_CH_goesOver 132 = .ok (.iconst 0, 1) := by decide +kernel
theorem d_CH_goesOver_133 : decode b_CH_goesOver 133 = .ok (.ireturn, 1) := by decide +kernel
def g60_CH_goesOver (n : Nat) (i : Nat) (f : Nat → Int32) (d : Nat → Int32) : Int32 × (Nat → Int32) := (if f_FF_goesToNext (f i) = 0 then (1, d) else ((f_CH_gives n (i + 1) d (((d i) - (TK (tn (f i)))) + (PU (tn (f i))))).1, (f_CH_gives n (i + 1) d (((d i) - (TK (tn (f i)))) + (PU (tn (f i))))).2))
def g79_CH_goesOver (n : Nat) (i : Nat) (f : Nat → Int32) (g : Nat → Int32) (d : Nat → Int32) : Int32 × (Nat → Int32) := (if f_FF_jumps (f i) = 0 then ((g60_CH_goesOver n i f d).1, (g60_CH_goesOver n i f d).2) else (if (f_CH_gives n (tn (g i)) ((g60_CH_goesOver n i f d).2) (((d i) - (TK (tn (f i)))) + (PU (tn (f i))))).1 = 0 then (0, (f_CH_gives n (tn (g i)) ((g60_CH_goesOver n i f d).2) (((d i) - (TK (tn (f i)))) + (PU (tn (f i))))).2) else (if (g60_CH_goesOver n i f d).1 = 0 then (0, (f_CH_gives n (tn (g i)) ((g60_CH_goesOver n i f d).2) (((d i) - (TK (tn (f i)))) + (PU (tn (f i))))).2) else (1, (f_CH_gives n (tn (g i)) ((g60_CH_goesOver n i f d).2) (((d i) - (TK (tn (f i)))) + (PU (tn (f i))))).2))))
def f_CH_goesOver (n : Nat) (hn : Nat) (i : Nat) (f : Nat → Int32) (g : Nat → Int32) (fr : Nat → Int32) (to : Nat → Int32) (tg : Nat → Int32) (d : Nat → Int32) : Int32 × (Nat → Int32) := (if d i < TK (tn (f i)) then (0, d) else (if 4 < ((d i) - (TK (tn (f i)))) + (PU (tn (f i))) then (0, d) else (if f_CH_staysInside n i f g = 0 then (0, d) else (if (f_CH_givesTargets n hn i fr to tg ((g79_CH_goesOver n i f g d).2)).1 = 0 then (0, (f_CH_givesTargets n hn i fr to tg ((g79_CH_goesOver n i f g d).2)).2) else (if (g79_CH_goesOver n i f g d).1 = 0 then (0, (f_CH_givesTargets n hn i fr to tg ((g79_CH_goesOver n i f g d).2)).2) else (1, (f_CH_givesTargets n hn i fr to tg ((g79_CH_goesOver n i f g d).2)).2))))))
set_option maxHeartbeats 1000000 in
set_option maxRecDepth 100000 in
theorem c_CH_goesOver (l : Launch) (D : va_G) (cI cZ : ClassId) (tt tp k k_d k_o : Nat) (oc oc_ops oc_opd oc_fr oc_to oc_tg n hn : Nat) (i : Nat) (f g fr to tg d : Nat → Int32) (hh : n ≤ 32) (h3 : hn ≤ 3) (hi : i < n) (ho : f i = nI (tn (f i)) ∧ tn (f i) < 18) (hj : ¬ f_FF_jumps (f i) = 0 → g i = nI (tn (g i)) ∧ tn (g i) < 32) (hg : ∀ h, h < hn → tg h = nI (tn (tg h)) ∧ tn (tg h) ≤ 32) : MG l y_CH_goesOver w_CH_goesOver (rmK 3 68) D classes (tyz cI cZ) (EN tt tp) [.ref k, .ref oc, .int (nI i)] [(k, .inr (2, [.ref k_d, .ref k_o])), (k_d, .inl (cI, 32, .inl d)), (oc, .inr (1, [.ref oc_ops, .ref oc_opd, .ref oc_fr, .ref oc_to, .ref oc_tg, .int (nI n), .int (nI hn)])), (oc_ops, .inl (cI, 32, .inl f)), (oc_opd, .inl (cI, 32, .inl g)), (oc_fr, .inl (cI, 3, .inl fr)), (oc_to, .inl (cI, 3, .inl to)), (oc_tg, .inl (cI, 3, .inl tg))] (RI D classes (tyz cI cZ) ((f_CH_goesOver n hn i f g fr to tg d).1) [(k, .inr (2, [.ref k_d, .ref k_o])), (k_d, .inl (cI, 32, .inl ((f_CH_goesOver n hn i f g fr to tg d).2))), (oc, .inr (1, [.ref oc_ops, .ref oc_opd, .ref oc_fr, .ref oc_to, .ref oc_tg, .int (nI n), .int (nI hn)])), (oc_ops, .inl (cI, 32, .inl f)), (oc_opd, .inl (cI, 32, .inl g)), (oc_fr, .inl (cI, 3, .inl fr)), (oc_to, .inl (cI, 3, .inl to)), (oc_tg, .inl (cI, 3, .inl tg))]) := by
  refine MG.of (cc := b_CH_goesOver) (maxL := 6) (ret := (some .boolean)) (own := "FlowFlattener$Checker") rfl (by decide) rfl (Nat.le_of_ble_eq_true rfl) ?_
  intro p e s m below meth c A ls S hr hlocks hA hP hK hD hS hE hl
  have hx := S.1
  have hb := S.2.1
  have hl : lv_has ls 6 [(0, .ref k), (1, .ref oc), (2, .int (nI i))] := hl
  refine lv_aload_n hx hb d_CH_goesOver_0 rfl (lv_at hl 1 rfl) ?_
  refine k_get (v := .ref oc_ops) S in_CO hK hP 2 rfl rfl 0 (by decide) ql_CH_40 rfl d_CH_goesOver_1 ?_
  refine lv_iload_n hx hb d_CH_goesOver_4 rfl (lv_at hl 2 rfl) ?_
  refine k_ld (k := i) hx hb hK hP 3 0 rfl rfl rfl (by omega) (by decide) d_CH_goesOver_5 ?_
  refine lv_istore_n (lv' := [(3, .int (f i)), (0, .ref k), (1, .ref oc), (2, .int (nI i))]) hx hb d_CH_goesOver_6 rfl hl (by decide) rfl (fun ls hl => ?_)
  refine lv_aload_n hx hb d_CH_goesOver_7 rfl (lv_at hl 1 rfl) ?_
  refine k_get (v := .ref k_d) S in_CH hK hP 0 rfl rfl 0 (by decide) ql_CH_9 rfl d_CH_goesOver_8 ?_
  refine lv_iload_n hx hb d_CH_goesOver_11 rfl (lv_at hl 3 rfl) ?_
  refine k_ld (k := i) hx hb hK hP 1 0 rfl rfl rfl (by omega) (by decide) d_CH_goesOver_12 ?_
  refine va_getsN hx hb hE.2.1 hS S.2.2.2.1 (va_Nw.use rfl (hE.1 _ (List.mem_of_getElem? (i := 5) rfl))) (fun _ h => h) d_CH_goesOver_13 ?_
  refine lv_iload_n hx hb d_CH_goesOver_16 rfl (lv_at hl 0 rfl) ?_
  refine k_top (y := nI (tn (f i))) ho.1 ?_
  refine k_ti (k := tn (f i)) hx hb hE.2.2.1 hS rfl (by have := ho.2; omega) (by decide) d_CH_goesOver_17 ?_
  refine lv_isub hx hb d_CH_goesOver_18 ?_
  refine va_getsN hx hb hE.2.2.2.1 hS S.2.2.2.1 (va_Nw.use rfl (hE.1 _ (List.mem_of_getElem? (i := 6) rfl))) (fun _ h => h) d_CH_goesOver_19 ?_
  refine lv_iload_n hx hb d_CH_goesOver_22 rfl (lv_at hl 0 rfl) ?_
  refine k_top (y := nI (tn (f i))) ho.1 ?_
  refine k_ti (k := tn (f i)) hx hb hE.2.2.2.2 hS rfl (by have := ho.2; omega) (by decide) d_CH_goesOver_23 ?_
  refine lv_iadd hx hb d_CH_goesOver_24 ?_
  refine lv_istore (lv' := [(4, .int (((d i) - (TK (tn (f i)))) + (PU (tn (f i))))), (3, .int (f i)), (0, .ref k), (1, .ref oc), (2, .int (nI i))]) hx hb d_CH_goesOver_25 hl (by decide) rfl (fun ls hl => ?_)
  refine va_getsN hx hb hE.2.1 hS S.2.2.2.1 (va_Nw.use rfl (hE.1 _ (List.mem_of_getElem? (i := 5) rfl))) (fun _ h => h) d_CH_goesOver_27 ?_
  refine lv_iload_n hx hb d_CH_goesOver_30 rfl (lv_at hl 1 rfl) ?_
  refine k_top (y := nI (tn (f i))) ho.1 ?_
  refine k_ti (k := tn (f i)) hx hb hE.2.2.1 hS rfl (by have := ho.2; omega) (by decide) d_CH_goesOver_31 ?_
  refine lv_aload_n hx hb d_CH_goesOver_32 rfl (lv_at hl 2 rfl) ?_
  refine k_get (v := .ref k_d) S in_CH hK hP 0 rfl rfl 0 (by decide) ql_CH_9 rfl d_CH_goesOver_33 ?_
  refine lv_iload_n hx hb d_CH_goesOver_36 rfl (lv_at hl 4 rfl) ?_
  refine k_ld (k := i) hx hb hK hP 1 0 rfl rfl rfl (by omega) (by decide) d_CH_goesOver_37 ?_
  refine lv_icmp_gt (tgt := 55) hx hb d_CH_goesOver_38 (by decide) (fun h38_1 => ?_) (fun h38_1 => ?_)
  · skip
    refine lv_iconst (v := 0) hx hb d_CH_goesOver_55 (by decide) ?_
    exact k_zret hx hb hr hlocks hK hP hD hS (by decide) (by rw [f_CH_goesOver, if_pos h38_1]) (by rw [f_CH_goesOver, if_pos h38_1]) d_CH_goesOver_56
  · skip
    refine lv_iload hx hb d_CH_goesOver_41 (lv_at hl 0 rfl) ?_
    refine lv_iconst (v := 4) hx hb d_CH_goesOver_43 (by decide) ?_
    refine lv_icmp_gt (tgt := 55) hx hb d_CH_goesOver_44 (by decide) (fun h44_2 => ?_) (fun h44_2 => ?_)
    · skip
      refine lv_iconst (v := 0) hx hb d_CH_goesOver_55 (by decide) ?_
      exact k_zret hx hb hr hlocks hK hP hD hS (by decide) (by rw [f_CH_goesOver, if_neg h38_1, if_pos h44_2]) (by rw [f_CH_goesOver, if_neg h38_1, if_pos h44_2]) d_CH_goesOver_56
    · skip
      refine lv_aload_n hx hb d_CH_goesOver_47 rfl (lv_at hl 3 rfl) ?_
      refine lv_iload_n hx hb d_CH_goesOver_48 rfl (lv_at hl 4 rfl) ?_
      refine k_goi (ws' := [(k, .inr (2, [.ref k_d, .ref k_o])), (k_d, .inl (cI, 32, .inl d)), (oc, .inr (1, [.ref oc_ops, .ref oc_opd, .ref oc_fr, .ref oc_to, .ref oc_tg, .int (nI n), .int (nI hn)])), (oc_ops, .inl (cI, 32, .inl f)), (oc_opd, .inl (cI, 32, .inl g)), (oc_fr, .inl (cI, 3, .inl fr)), (oc_to, .inl (cI, 3, .inl to)), (oc_tg, .inl (cI, 3, .inl tg))]) (wr := [(k, .inr (2, [.ref k_d, .ref k_o])), (k_d, .inl (cI, 32, .inl d)), (oc_fr, .inl (cI, 3, .inl fr)), (oc_to, .inl (cI, 3, .inl to)), (oc_tg, .inl (cI, 3, .inl tg))]) (k_runS (As := [.ref oc, .int (nI i)]) (rest := []) (n := 2) S (c_CH_staysInside l D cI cZ tt tp oc oc_ops oc_opd oc_fr oc_to oc_tg n hn i f g (by omega) (by omega) hj) EN_b (EN_t hE hS (va_free (wc := [(oc, .inr (1, [.ref oc_ops, .ref oc_opd, .ref oc_fr, .ref oc_to, .ref oc_tg, .int (nI n), .int (nI hn)])), (oc_ops, .inl (cI, 32, .inl f)), (oc_opd, .inl (cI, 32, .inl g))]) hD hS hA [2, 3, 4] rfl)) ql_CH_49 qt_CH_staysInside qn_CH qc_CH_staysInside (by decide +kernel) rfl ⟨rfl, rfl⟩ ⟨Nat.le_of_ble_eq_true rfl, Nat.le_of_ble_eq_true rfl⟩ hK hP hD [2, 3, 4] rfl (by decide) hl.1 rfl (Nat.le_of_ble_eq_true rfl) d_CH_goesOver_49 ⟨Nat.zero_le _, Nat.zero_le _⟩) hP hD hS hA [2, 3, 4] [0, 1, 5, 6, 7] [0, 1, 5, 6, 7, 2, 3, 4] rfl rfl (by decide) (by decide) rfl (by decide) (fun H locs hP hD hS => ?_)
      refine lv_if_ne (tgt := 57) hx hb d_CH_goesOver_52 (by decide) (fun h52_3 => ?_) (fun h52_3 => ?_)
      · skip
        refine lv_iconst (v := 1) hx hb d_CH_goesOver_57 (by decide) ?_
        refine lv_istore (lv' := [(5, .int 1), (4, .int (((d i) - (TK (tn (f i)))) + (PU (tn (f i))))), (3, .int (f i)), (0, .ref k), (1, .ref oc), (2, .int (nI i))]) hx hb d_CH_goesOver_58 hl (by decide) rfl (fun ls hl => ?_)
        have J79 : ∀ (ls : Array Slot) (H : Heap) (locs : List Loc), lv_has ls 6 [(0, .ref k), (1, .ref oc), (2, .int (nI i)), (3, .int (f i)), (4, .int (((d i) - (TK (tn (f i)))) + (PU (tn (f i))))), (5, .int ((g60_CH_goesOver n i f d).1))] → va_P D classes [(k, .inr (2, [.ref k_d, .ref k_o])), (k_d, .inl (cI, 32, .inl ((g60_CH_goesOver n i f d).2))), (oc, .inr (1, [.ref oc_ops, .ref oc_opd, .ref oc_fr, .ref oc_to, .ref oc_tg, .int (nI n), .int (nI hn)])), (oc_ops, .inl (cI, 32, .inl f)), (oc_opd, .inl (cI, 32, .inl g)), (oc_fr, .inl (cI, 3, .inl fr)), (oc_to, .inl (cI, 3, .inl to)), (oc_tg, .inl (cI, 3, .inl tg))] H → va_D A [(k, .inr (2, [.ref k_d, .ref k_o])), (k_d, .inl (cI, 32, .inl ((g60_CH_goesOver n i f d).2))), (oc, .inr (1, [.ref oc_ops, .ref oc_opd, .ref oc_fr, .ref oc_to, .ref oc_tg, .int (nI n), .int (nI hn)])), (oc_ops, .inl (cI, 32, .inl f)), (oc_opd, .inl (cI, 32, .inl g)), (oc_fr, .inl (cI, 3, .inl fr)), (oc_to, .inl (cI, 3, .inl to)), (oc_tg, .inl (cI, 3, .inl tg))] → va_S A s.heap H locs → W p l e (rmK 3 68) s m [.ref k, .ref oc, .int (nI i)].toArray below meth c H locs 0 0 (MQ below (RI D classes (tyz cI cZ) ((f_CH_goesOver n hn i f g fr to tg d).1) [(k, .inr (2, [.ref k_d, .ref k_o])), (k_d, .inl (cI, 32, .inl ((f_CH_goesOver n hn i f g fr to tg d).2))), (oc, .inr (1, [.ref oc_ops, .ref oc_opd, .ref oc_fr, .ref oc_to, .ref oc_tg, .int (nI n), .int (nI hn)])), (oc_ops, .inl (cI, 32, .inl f)), (oc_opd, .inl (cI, 32, .inl g)), (oc_fr, .inl (cI, 3, .inl fr)), (oc_to, .inl (cI, 3, .inl to)), (oc_tg, .inl (cI, 3, .inl tg))] A) [.ref k, .ref oc, .int (nI i)].toArray s 0 0 A) (F0 m 79 ls []) := by
          intro ls H locs hl hP hD hS
          have J114 : ∀ (ls : Array Slot) (H : Heap) (locs : List Loc), lv_has ls 6 [(0, .ref k), (1, .ref oc), (2, .int (nI i)), (3, .int (f i)), (4, .int (((d i) - (TK (tn (f i)))) + (PU (tn (f i))))), (5, .int ((g79_CH_goesOver n i f g d).1))] → va_P D classes [(k, .inr (2, [.ref k_d, .ref k_o])), (k_d, .inl (cI, 32, .inl ((g79_CH_goesOver n i f g d).2))), (oc, .inr (1, [.ref oc_ops, .ref oc_opd, .ref oc_fr, .ref oc_to, .ref oc_tg, .int (nI n), .int (nI hn)])), (oc_ops, .inl (cI, 32, .inl f)), (oc_opd, .inl (cI, 32, .inl g)), (oc_fr, .inl (cI, 3, .inl fr)), (oc_to, .inl (cI, 3, .inl to)), (oc_tg, .inl (cI, 3, .inl tg))] H → va_D A [(k, .inr (2, [.ref k_d, .ref k_o])), (k_d, .inl (cI, 32, .inl ((g79_CH_goesOver n i f g d).2))), (oc, .inr (1, [.ref oc_ops, .ref oc_opd, .ref oc_fr, .ref oc_to, .ref oc_tg, .int (nI n), .int (nI hn)])), (oc_ops, .inl (cI, 32, .inl f)), (oc_opd, .inl (cI, 32, .inl g)), (oc_fr, .inl (cI, 3, .inl fr)), (oc_to, .inl (cI, 3, .inl to)), (oc_tg, .inl (cI, 3, .inl tg))] → va_S A s.heap H locs → W p l e (rmK 3 68) s m [.ref k, .ref oc, .int (nI i)].toArray below meth c H locs 0 0 (MQ below (RI D classes (tyz cI cZ) ((f_CH_goesOver n hn i f g fr to tg d).1) [(k, .inr (2, [.ref k_d, .ref k_o])), (k_d, .inl (cI, 32, .inl ((f_CH_goesOver n hn i f g fr to tg d).2))), (oc, .inr (1, [.ref oc_ops, .ref oc_opd, .ref oc_fr, .ref oc_to, .ref oc_tg, .int (nI n), .int (nI hn)])), (oc_ops, .inl (cI, 32, .inl f)), (oc_opd, .inl (cI, 32, .inl g)), (oc_fr, .inl (cI, 3, .inl fr)), (oc_to, .inl (cI, 3, .inl to)), (oc_tg, .inl (cI, 3, .inl tg))] A) [.ref k, .ref oc, .int (nI i)].toArray s 0 0 A) (F0 m 114 ls []) := by
            intro ls H locs hl hP hD hS
            refine lv_aload_n hx hb d_CH_goesOver_114 rfl (lv_at hl 0 rfl) ?_
            refine lv_aload_n hx hb d_CH_goesOver_115 rfl (lv_at hl 1 rfl) ?_
            refine lv_iload_n hx hb d_CH_goesOver_116 rfl (lv_at hl 2 rfl) ?_
            refine k_goi (ws' := [(k, .inr (2, [.ref k_d, .ref k_o])), (k_d, .inl (cI, 32, .inl ((f_CH_givesTargets n hn i fr to tg ((g79_CH_goesOver n i f g d).2)).2))), (oc, .inr (1, [.ref oc_ops, .ref oc_opd, .ref oc_fr, .ref oc_to, .ref oc_tg, .int (nI n), .int (nI hn)])), (oc_ops, .inl (cI, 32, .inl f)), (oc_opd, .inl (cI, 32, .inl g)), (oc_fr, .inl (cI, 3, .inl fr)), (oc_to, .inl (cI, 3, .inl to)), (oc_tg, .inl (cI, 3, .inl tg))]) (wr := [(oc_ops, .inl (cI, 32, .inl f)), (oc_opd, .inl (cI, 32, .inl g))]) (k_runV (q0 := 0) (As := [.ref oc, .int (nI i)]) (rest := []) (n := 2) S (c_CH_givesTargets l D cI cZ k k_d k_o oc oc_ops oc_opd oc_fr oc_to oc_tg n hn i fr to tg ((g79_CH_goesOver n i f g d).2) (by omega) (by omega) hg) E0_b E0_t ql_CH_65 qi_CH_givesTargets qs_CH_givesTargets qn_CH qc_CH_givesTargets (by decide +kernel) rfl ⟨rfl, rfl⟩ ⟨Nat.le_of_ble_eq_true rfl, Nat.le_of_ble_eq_true rfl⟩ hK hP hD [0, 1, 2, 5, 6, 7] rfl (by decide) rfl rfl hl.1 rfl (Nat.le_of_ble_eq_true rfl) d_CH_goesOver_117 ⟨Nat.zero_le _, Nat.zero_le _⟩) hP hD hS hA [0, 1, 2, 5, 6, 7] [3, 4] [2, 3, 4, 0, 1, 5, 6, 7] rfl rfl (by decide) (by decide) rfl (by decide) (fun H locs hP hD hS => ?_)
            refine lv_if_eq (tgt := 132) hx hb d_CH_goesOver_120 (by decide) (fun h120_4 => ?_) (fun h120_4 => ?_)
            · skip
              refine lv_iconst (v := 0) hx hb d_CH_goesOver_132 (by decide) ?_
              exact k_zret hx hb hr hlocks hK hP hD hS (by decide) (by rw [f_CH_goesOver, if_neg h38_1, if_neg h44_2, if_neg h52_3, if_pos h120_4]) (by rw [f_CH_goesOver, if_neg h38_1, if_neg h44_2, if_neg h52_3, if_pos h120_4]) d_CH_goesOver_133
            · skip
              refine lv_iload hx hb d_CH_goesOver_123 (lv_at hl 5 rfl) ?_
              refine lv_if_eq (tgt := 132) hx hb d_CH_goesOver_125 (by decide) (fun h125_5 => ?_) (fun h125_5 => ?_)
              · skip
                refine lv_iconst (v := 0) hx hb d_CH_goesOver_132 (by decide) ?_
                exact k_zret hx hb hr hlocks hK hP hD hS (by decide) (by rw [f_CH_goesOver, if_neg h38_1, if_neg h44_2, if_neg h52_3, if_neg h120_4, if_pos h125_5]) (by rw [f_CH_goesOver, if_neg h38_1, if_neg h44_2, if_neg h52_3, if_neg h120_4, if_pos h125_5]) d_CH_goesOver_133
              · skip
                refine lv_iconst (v := 1) hx hb d_CH_goesOver_128 (by decide) ?_
                refine lv_goto (tgt := 133) hx hb d_CH_goesOver_129 (by decide) ?_
                exact k_zret hx hb hr hlocks hK hP hD hS (by decide) (by rw [f_CH_goesOver, if_neg h38_1, if_neg h44_2, if_neg h52_3, if_neg h120_4, if_neg h125_5]) (by rw [f_CH_goesOver, if_neg h38_1, if_neg h44_2, if_neg h52_3, if_neg h120_4, if_neg h125_5]) d_CH_goesOver_133
          refine lv_iload_n hx hb d_CH_goesOver_79 rfl (lv_at hl 3 rfl) ?_
          refine k_goi (ws' := [(k, .inr (2, [.ref k_d, .ref k_o])), (k_d, .inl (cI, 32, .inl ((g60_CH_goesOver n i f d).2))), (oc, .inr (1, [.ref oc_ops, .ref oc_opd, .ref oc_fr, .ref oc_to, .ref oc_tg, .int (nI n), .int (nI hn)])), (oc_ops, .inl (cI, 32, .inl f)), (oc_opd, .inl (cI, 32, .inl g)), (oc_fr, .inl (cI, 3, .inl fr)), (oc_to, .inl (cI, 3, .inl to)), (oc_tg, .inl (cI, 3, .inl tg))]) (wr := [(k, .inr (2, [.ref k_d, .ref k_o])), (k_d, .inl (cI, 32, .inl ((g60_CH_goesOver n i f d).2))), (oc, .inr (1, [.ref oc_ops, .ref oc_opd, .ref oc_fr, .ref oc_to, .ref oc_tg, .int (nI n), .int (nI hn)])), (oc_ops, .inl (cI, 32, .inl f)), (oc_opd, .inl (cI, 32, .inl g)), (oc_fr, .inl (cI, 3, .inl fr)), (oc_to, .inl (cI, 3, .inl to)), (oc_tg, .inl (cI, 3, .inl tg))]) (k_runSN (As := [.int (f i)]) (rest := []) (n := 1) S (c_FF_jumps l D cI cZ (f i)) E0_b E0_t (hE.1 _ (List.mem_of_getElem? (i := 8) rfl)) qt_FF_jumps qn_FF qc_FF_jumps (by decide +kernel) rfl ⟨rfl, rfl⟩ ⟨Nat.le_of_ble_eq_true rfl, Nat.le_of_ble_eq_true rfl⟩ hK hP hD [] rfl (by decide) hl.1 rfl (Nat.le_of_ble_eq_true rfl) d_CH_goesOver_80 ⟨Nat.zero_le _, Nat.zero_le _⟩) hP hD hS hA [] [0, 1, 2, 3, 4, 5, 6, 7] [0, 1, 2, 3, 4, 5, 6, 7] rfl rfl (by decide) (by decide) rfl (by decide) (fun H locs hP hD hS => ?_)
          refine lv_if_eq (tgt := 114) hx hb d_CH_goesOver_83 (by decide) (fun h83_6 => ?_) (fun h83_6 => ?_)
          · skip
            have e9 : g79_CH_goesOver n i f g d = ((g60_CH_goesOver n i f d).1, (g60_CH_goesOver n i f d).2) := by rw [g79_CH_goesOver, if_pos h83_6]
            rw [e9] at J114
            exact J114 _ _ _ (lv_sub hl [0, 1, 2, 3, 4, 5] rfl) hP hD hS
          · skip
            refine lv_aload_n hx hb d_CH_goesOver_86 rfl (lv_at hl 0 rfl) ?_
            refine lv_aload_n hx hb d_CH_goesOver_87 rfl (lv_at hl 1 rfl) ?_
            refine lv_aload_n hx hb d_CH_goesOver_88 rfl (lv_at hl 1 rfl) ?_
            refine k_get (v := .ref oc_opd) S in_CO hK hP 2 rfl rfl 1 (by decide) ql_CH_62 rfl d_CH_goesOver_89 ?_
            refine lv_iload_n hx hb d_CH_goesOver_92 rfl (lv_at hl 2 rfl) ?_
            refine k_ld (k := i) hx hb hK hP 4 0 rfl rfl rfl (by omega) (by decide) d_CH_goesOver_93 ?_
            refine k_top (y := nI (tn (g i))) (hj (by assumption)).1 ?_
            refine lv_iload hx hb d_CH_goesOver_94 (lv_at hl 4 rfl) ?_
            refine k_goi (ws' := [(k, .inr (2, [.ref k_d, .ref k_o])), (k_d, .inl (cI, 32, .inl ((f_CH_gives n (tn (g i)) ((g60_CH_goesOver n i f d).2) (((d i) - (TK (tn (f i)))) + (PU (tn (f i))))).2))), (oc, .inr (1, [.ref oc_ops, .ref oc_opd, .ref oc_fr, .ref oc_to, .ref oc_tg, .int (nI n), .int (nI hn)])), (oc_ops, .inl (cI, 32, .inl f)), (oc_opd, .inl (cI, 32, .inl g)), (oc_fr, .inl (cI, 3, .inl fr)), (oc_to, .inl (cI, 3, .inl to)), (oc_tg, .inl (cI, 3, .inl tg))]) (wr := [(oc_ops, .inl (cI, 32, .inl f)), (oc_opd, .inl (cI, 32, .inl g)), (oc_fr, .inl (cI, 3, .inl fr)), (oc_to, .inl (cI, 3, .inl to)), (oc_tg, .inl (cI, 3, .inl tg))]) (k_runV (q0 := 0) (As := [.ref oc, .int (nI (tn (g i))), .int (((d i) - (TK (tn (f i)))) + (PU (tn (f i))))]) (rest := []) (n := 3) S (c_CH_gives l D cI cZ k k_d k_o oc oc_ops oc_opd oc_fr oc_to oc_tg n hn (tn (g i)) ((g60_CH_goesOver n i f d).2) (((d i) - (TK (tn (f i)))) + (PU (tn (f i)))) (by omega) (by have := (hj (by assumption)).2; omega)) E0_b E0_t ql_CH_55 qi_CH_gives qs_CH_gives qn_CH qc_CH_gives (by decide +kernel) rfl ⟨rfl, rfl⟩ ⟨Nat.le_of_ble_eq_true rfl, Nat.le_of_ble_eq_true rfl⟩ hK hP hD [0, 1, 2] rfl (by decide) rfl rfl hl.1 rfl (Nat.le_of_ble_eq_true rfl) d_CH_goesOver_96 ⟨Nat.zero_le _, Nat.zero_le _⟩) hP hD hS hA [0, 1, 2] [3, 4, 5, 6, 7] [5, 6, 7, 0, 1, 2, 3, 4] rfl rfl (by decide) (by decide) rfl (by decide) (fun H locs hP hD hS => ?_)
            refine lv_if_eq (tgt := 111) hx hb d_CH_goesOver_99 (by decide) (fun h99_7 => ?_) (fun h99_7 => ?_)
            · skip
              refine lv_iconst (v := 0) hx hb d_CH_goesOver_111 (by decide) ?_
              refine lv_istore (lv' := [(5, .int 0), (0, .ref k), (1, .ref oc), (2, .int (nI i)), (3, .int (f i)), (4, .int (((d i) - (TK (tn (f i)))) + (PU (tn (f i)))))]) hx hb d_CH_goesOver_112 hl (by decide) rfl (fun ls hl => ?_)
              have e9 : g79_CH_goesOver n i f g d = (0, (f_CH_gives n (tn (g i)) ((g60_CH_goesOver n i f d).2) (((d i) - (TK (tn (f i)))) + (PU (tn (f i))))).2) := by rw [g79_CH_goesOver, if_neg h83_6, if_pos h99_7]
              rw [e9] at J114
              exact J114 _ _ _ (lv_sub hl [1, 2, 3, 4, 5, 0] rfl) hP hD hS
            · skip
              refine lv_iload hx hb d_CH_goesOver_102 (lv_at hl 5 rfl) ?_
              refine lv_if_eq (tgt := 111) hx hb d_CH_goesOver_104 (by decide) (fun h104_8 => ?_) (fun h104_8 => ?_)
              · skip
                refine lv_iconst (v := 0) hx hb d_CH_goesOver_111 (by decide) ?_
                refine lv_istore (lv' := [(5, .int 0), (0, .ref k), (1, .ref oc), (2, .int (nI i)), (3, .int (f i)), (4, .int (((d i) - (TK (tn (f i)))) + (PU (tn (f i)))))]) hx hb d_CH_goesOver_112 hl (by decide) rfl (fun ls hl => ?_)
                have e9 : g79_CH_goesOver n i f g d = (0, (f_CH_gives n (tn (g i)) ((g60_CH_goesOver n i f d).2) (((d i) - (TK (tn (f i)))) + (PU (tn (f i))))).2) := by rw [g79_CH_goesOver, if_neg h83_6, if_neg h99_7, if_pos h104_8]
                rw [e9] at J114
                exact J114 _ _ _ (lv_sub hl [1, 2, 3, 4, 5, 0] rfl) hP hD hS
              · skip
                refine lv_iconst (v := 1) hx hb d_CH_goesOver_107 (by decide) ?_
                refine lv_goto (tgt := 112) hx hb d_CH_goesOver_108 (by decide) ?_
                refine lv_istore (lv' := [(5, .int 1), (0, .ref k), (1, .ref oc), (2, .int (nI i)), (3, .int (f i)), (4, .int (((d i) - (TK (tn (f i)))) + (PU (tn (f i)))))]) hx hb d_CH_goesOver_112 hl (by decide) rfl (fun ls hl => ?_)
                have e9 : g79_CH_goesOver n i f g d = (1, (f_CH_gives n (tn (g i)) ((g60_CH_goesOver n i f d).2) (((d i) - (TK (tn (f i)))) + (PU (tn (f i))))).2) := by rw [g79_CH_goesOver, if_neg h83_6, if_neg h99_7, if_neg h104_8]
                rw [e9] at J114
                exact J114 _ _ _ (lv_sub hl [1, 2, 3, 4, 5, 0] rfl) hP hD hS
        refine lv_iload_n hx hb d_CH_goesOver_60 rfl (lv_at hl 2 rfl) ?_
        refine k_goi (ws' := [(k, .inr (2, [.ref k_d, .ref k_o])), (k_d, .inl (cI, 32, .inl d)), (oc, .inr (1, [.ref oc_ops, .ref oc_opd, .ref oc_fr, .ref oc_to, .ref oc_tg, .int (nI n), .int (nI hn)])), (oc_ops, .inl (cI, 32, .inl f)), (oc_opd, .inl (cI, 32, .inl g)), (oc_fr, .inl (cI, 3, .inl fr)), (oc_to, .inl (cI, 3, .inl to)), (oc_tg, .inl (cI, 3, .inl tg))]) (wr := [(k, .inr (2, [.ref k_d, .ref k_o])), (k_d, .inl (cI, 32, .inl d)), (oc, .inr (1, [.ref oc_ops, .ref oc_opd, .ref oc_fr, .ref oc_to, .ref oc_tg, .int (nI n), .int (nI hn)])), (oc_ops, .inl (cI, 32, .inl f)), (oc_opd, .inl (cI, 32, .inl g)), (oc_fr, .inl (cI, 3, .inl fr)), (oc_to, .inl (cI, 3, .inl to)), (oc_tg, .inl (cI, 3, .inl tg))]) (k_runSN (As := [.int (f i)]) (rest := []) (n := 1) S (c_FF_goesToNext l D cI cZ (f i)) E0_b E0_t (hE.1 _ (List.mem_of_getElem? (i := 7) rfl)) qt_FF_goesToNext qn_FF qc_FF_goesToNext (by decide +kernel) rfl ⟨rfl, rfl⟩ ⟨Nat.le_of_ble_eq_true rfl, Nat.le_of_ble_eq_true rfl⟩ hK hP hD [] rfl (by decide) hl.1 rfl (Nat.le_of_ble_eq_true rfl) d_CH_goesOver_61 ⟨Nat.zero_le _, Nat.zero_le _⟩) hP hD hS hA [] [0, 1, 2, 3, 4, 5, 6, 7] [0, 1, 2, 3, 4, 5, 6, 7] rfl rfl (by decide) (by decide) rfl (by decide) (fun H locs hP hD hS => ?_)
        refine lv_if_eq (tgt := 79) hx hb d_CH_goesOver_64 (by decide) (fun h64_9 => ?_) (fun h64_9 => ?_)
        · skip
          have e9 : g60_CH_goesOver n i f d = (1, d) := by rw [g60_CH_goesOver, if_pos h64_9]
          rw [e9] at J79
          exact J79 _ _ _ (lv_sub hl [3, 4, 5, 2, 1, 0] rfl) hP hD hS
        · skip
          refine lv_aload_n hx hb d_CH_goesOver_67 rfl (lv_at hl 3 rfl) ?_
          refine lv_aload_n hx hb d_CH_goesOver_68 rfl (lv_at hl 4 rfl) ?_
          refine lv_iload_n hx hb d_CH_goesOver_69 rfl (lv_at hl 5 rfl) ?_
          refine lv_iconst (v := 1) hx hb d_CH_goesOver_70 (by decide) ?_
          refine lv_iadd hx hb d_CH_goesOver_71 ?_
          refine k_top (y := nI (i + 1)) (nc_add rfl (by decide)) ?_
          refine lv_iload hx hb d_CH_goesOver_72 (lv_at hl 1 rfl) ?_
          refine k_goi (ws' := [(k, .inr (2, [.ref k_d, .ref k_o])), (k_d, .inl (cI, 32, .inl ((f_CH_gives n (i + 1) d (((d i) - (TK (tn (f i)))) + (PU (tn (f i))))).2))), (oc, .inr (1, [.ref oc_ops, .ref oc_opd, .ref oc_fr, .ref oc_to, .ref oc_tg, .int (nI n), .int (nI hn)])), (oc_ops, .inl (cI, 32, .inl f)), (oc_opd, .inl (cI, 32, .inl g)), (oc_fr, .inl (cI, 3, .inl fr)), (oc_to, .inl (cI, 3, .inl to)), (oc_tg, .inl (cI, 3, .inl tg))]) (wr := [(oc_ops, .inl (cI, 32, .inl f)), (oc_opd, .inl (cI, 32, .inl g)), (oc_fr, .inl (cI, 3, .inl fr)), (oc_to, .inl (cI, 3, .inl to)), (oc_tg, .inl (cI, 3, .inl tg))]) (k_runV (q0 := 0) (As := [.ref oc, .int (nI (i + 1)), .int (((d i) - (TK (tn (f i)))) + (PU (tn (f i))))]) (rest := []) (n := 3) S (c_CH_gives l D cI cZ k k_d k_o oc oc_ops oc_opd oc_fr oc_to oc_tg n hn (i + 1) d (((d i) - (TK (tn (f i)))) + (PU (tn (f i)))) (by omega) (by omega)) E0_b E0_t ql_CH_55 qi_CH_gives qs_CH_gives qn_CH qc_CH_gives (by decide +kernel) rfl ⟨rfl, rfl⟩ ⟨Nat.le_of_ble_eq_true rfl, Nat.le_of_ble_eq_true rfl⟩ hK hP hD [0, 1, 2] rfl (by decide) rfl rfl hl.1 rfl (Nat.le_of_ble_eq_true rfl) d_CH_goesOver_74 ⟨Nat.zero_le _, Nat.zero_le _⟩) hP hD hS hA [0, 1, 2] [3, 4, 5, 6, 7] [5, 6, 7, 0, 1, 2, 3, 4] rfl rfl (by decide) (by decide) rfl (by decide) (fun H locs hP hD hS => ?_)
          refine lv_istore (lv' := [(5, .int ((f_CH_gives n (i + 1) d (((d i) - (TK (tn (f i)))) + (PU (tn (f i))))).1)), (4, .int (((d i) - (TK (tn (f i)))) + (PU (tn (f i))))), (3, .int (f i)), (0, .ref k), (1, .ref oc), (2, .int (nI i))]) hx hb d_CH_goesOver_77 hl (by decide) rfl (fun ls hl => ?_)
          have e9 : g60_CH_goesOver n i f d = ((f_CH_gives n (i + 1) d (((d i) - (TK (tn (f i)))) + (PU (tn (f i))))).1, (f_CH_gives n (i + 1) d (((d i) - (TK (tn (f i)))) + (PU (tn (f i))))).2) := by rw [g60_CH_goesOver, if_neg h64_9]
          rw [e9] at J79
          exact J79 _ _ _ (lv_sub hl [3, 4, 5, 2, 1, 0] rfl) hP hD hS
      · skip
        refine lv_iconst (v := 0) hx hb d_CH_goesOver_55 (by decide) ?_
        exact k_zret hx hb hr hlocks hK hP hD hS (by decide) (by rw [f_CH_goesOver, if_neg h38_1, if_neg h44_2, if_pos h52_3]) (by rw [f_CH_goesOver, if_neg h38_1, if_neg h44_2, if_pos h52_3]) d_CH_goesOver_56

theorem ll_lt {n : Nat} {d o : Nat → Int32} (hn : n < 2 ^ 31) (h : ¬ f_CH_leastLeft n d o = -1) : tn (f_CH_leastLeft n d o) < n := (ll_spec d o hn n 0 (by omega) h).2
theorem ll_eq {n : Nat} {d o : Nat → Int32} (hn : n < 2 ^ 31) (h : ¬ f_CH_leastLeft n d o = -1) : f_CH_leastLeft n d o = nI (tn (f_CH_leastLeft n d o)) := (ll_spec d o hn n 0 (by omega) h).1

theorem d_CH_firstWrong_0 : decode b_CH_firstWrong 0 = .ok (.aload_n 0, 1) := by decide +kernel
theorem d_CH_firstWrong_1 : decode b_CH_firstWrong 1 = .ok (.invokevirtual 19, 3) := by decide +kernel
theorem d_CH_firstWrong_4 : decode b_CH_firstWrong 4 = .ok (.aload_n 0, 1) := by decide +kernel
theorem d_CH_firstWrong_5 : decode b_CH_firstWrong 5 = .ok (.getfield 9, 3) := by decide +kernel
theorem d_CH_firstWrong_8 : decode b_CH_firstWrong 8 = .ok (.iconst 0, 1) := by decide +kernel
theorem d_CH_firstWrong_9 : decode b_CH_firstWrong 9 = .ok (.iconst 0, 1) := by decide +kernel
theorem d_CH_firstWrong_10 : decode b_CH_firstWrong 10 = .ok (.iastore, 1) := by decide +kernel
theorem d_CH_firstWrong_11 : decode b_CH_firstWrong 11 = .ok (.iconst 0, 1) := by decide +kernel
theorem d_CH_firstWrong_12 : decode b_CH_firstWrong 12 = .ok (.istore_n 2, 1) := by decide +kernel
theorem d_CH_firstWrong_13 : decode b_CH_firstWrong 13 = .ok (.iload_n 2, 1) := by decide +kernel
theorem d_CH_firstWrong_14 : decode b_CH_firstWrong 14 = .ok (.bipush 32, 2) := by decide +kernel
theorem d_CH_firstWrong_16 : decode b_CH_firstWrong 16 = .ok (.if_icmp .ge 40, 3) := by decide +kernel
theorem d_CH_firstWrong_19 : decode b_CH_firstWrong 19 = .ok (.aload_n 0, 1) := by decide +kernel
theorem d_CH_firstWrong_20 : decode b_CH_firstWrong 20 = .ok (.aload_n 1, 1) := by decide +kernel
theorem d_CH_firstWrong_21 : decode b_CH_firstWrong 21 = .ok (.invokevirtual 22, 3) := by decide +kernel
theorem d_CH_firstWrong_24 : decode b_CH_firstWrong 24 = .ok (.istore_n 3, 1) := by decide +kernel
theorem d_CH_firstWrong_25 : decode b_CH_firstWrong 25 = .ok (.iload_n 3, 1) := by decide +kernel
theorem d_CH_firstWrong_26 : decode b_CH_firstWrong 26 = .ok (.iconst (-1), 1) := by decide +kernel
theorem d_CH_firstWrong_27 : decode b_CH_firstWrong 27 = .ok (.if_icmp .ne 5, 3) := by decide +kernel
theorem d_CH_firstWrong_30 : decode b_CH_firstWrong 30 = .ok (.iconst (-1), 1) := by decide +kernel
theorem d_CH_firstWrong_31 : decode b_CH_firstWrong 31 = .ok (.ireturn, 1) := by decide +kernel
theorem d_CH_firstWrong_32 : decode b_CH_firstWrong 32 = .ok (.aload_n 0, 1) := by decide +kernel
theorem d_CH_firstWrong_33 : decode b_CH_firstWrong 33 = .ok (.getfield 15, 3) := by decide +kernel
theorem d_CH_firstWrong_36 : decode b_CH_firstWrong 36 = .ok (.iload_n 3, 1) := by decide +kernel
theorem d_CH_firstWrong_37 : decode b_CH_firstWrong 37 = .ok (.iconst 1, 1) := by decide +kernel
theorem d_CH_firstWrong_38 : decode b_CH_firstWrong 38 = .ok (.bastore, 1) := by decide +kernel
theorem d_CH_firstWrong_39 : decode b_CH_firstWrong 39 = .ok (.aload_n 0, 1) := by decide +kernel
theorem d_CH_firstWrong_40 : decode b_CH_firstWrong 40 = .ok (.aload_n 1, 1) := by decide +kernel
theorem d_CH_firstWrong_41 : decode b_CH_firstWrong 41 = .ok (.iload_n 3, 1) := by decide +kernel
theorem d_CH_firstWrong_42 : decode b_CH_firstWrong 42 = .ok (.invokevirtual 26, 3) := by decide +kernel
theorem d_CH_firstWrong_45 : decode b_CH_firstWrong 45 = .ok (.ifCond .ne 5, 3) := by decide +kernel
theorem d_CH_firstWrong_48 : decode b_CH_firstWrong 48 = .ok (.iload_n 3, 1) := by decide +kernel
theorem d_CH_firstWrong_49 : decode b_CH_firstWrong 49 = .ok (.ireturn, 1) := by decide +kernel
theorem d_CH_firstWrong_50 : decode b_CH_firstWrong 50 = .ok (.iinc 2 1, 3) := by decide +kernel
theorem d_CH_firstWrong_53 : decode b_CH_firstWrong 53 = .ok (.goto (-40), 3) := by decide +kernel
theorem d_CH_firstWrong_56 : decode b_CH_firstWrong 56 = .ok (.iconst (-1), 1) := by decide +kernel
theorem d_CH_firstWrong_57 : decode b_CH_firstWrong 57 = .ok (.ireturn, 1) := by decide +kernel
def lp_CH_firstWrong (n : Nat) (hn : Nat) (f : Nat → Int32) (g : Nat → Int32) (fr : Nat → Int32) (to : Nat → Int32) (tg : Nat → Int32) : Nat → Nat → (Nat → Int32) → (Nat → Int32) → Int32 × (Nat → Int32) × (Nat → Int32)
  | 0, r, d1, o1 => ((-1), d1, o1)
  | kf + 1, r, d1, o1 => (if f_CH_leastLeft n d1 o1 = (-1) then ((-1), d1, o1) else (if (f_CH_goesOver n hn (tn (f_CH_leastLeft n d1 o1)) f g fr to tg d1).1 = 0 then (nI (tn (f_CH_leastLeft n d1 o1)), (f_CH_goesOver n hn (tn (f_CH_leastLeft n d1 o1)) f g fr to tg d1).2, upd o1 (tn (f_CH_leastLeft n d1 o1)) 1) else (lp_CH_firstWrong n hn f g fr to tg kf (r + 1) ((f_CH_goesOver n hn (tn (f_CH_leastLeft n d1 o1)) f g fr to tg d1).2) (upd o1 (tn (f_CH_leastLeft n d1 o1)) 1))))
def f_CH_firstWrong (n : Nat) (hn : Nat) (f : Nat → Int32) (g : Nat → Int32) (fr : Nat → Int32) (to : Nat → Int32) (tg : Nat → Int32) (d : Nat → Int32) (ov : Nat → Int32) : Int32 × (Nat → Int32) × (Nat → Int32) := lp_CH_firstWrong n hn f g fr to tg 32 0 (upd ((f_CH_forget d ov).1) 0 0) ((f_CH_forget d ov).2)
set_option maxHeartbeats 1000000 in
set_option maxRecDepth 100000 in
theorem c_CH_firstWrong (l : Launch) (D : va_G) (cI cZ : ClassId) (tt tp k k_d k_o : Nat) (oc oc_ops oc_opd oc_fr oc_to oc_tg n hn : Nat) (f g fr to tg d ov : Nat → Int32) (hh : n ≤ 32) (h3 : hn ≤ 3) (ho : ∀ i, i < n → f i = nI (tn (f i)) ∧ tn (f i) < 18) (hj : ∀ i, i < n → ¬ f_FF_jumps (f i) = 0 → g i = nI (tn (g i)) ∧ tn (g i) < 32) (hg : ∀ h, h < hn → tg h = nI (tn (tg h)) ∧ tn (tg h) ≤ 32) : MG l y_CH_firstWrong w_CH_firstWrong (rmK 4 93) D classes (tyz cI cZ) (EN tt tp) [.ref k, .ref oc] [(k, .inr (2, [.ref k_d, .ref k_o])), (k_d, .inl (cI, 32, .inl d)), (k_o, .inl (cZ, 32, .inl ov)), (oc, .inr (1, [.ref oc_ops, .ref oc_opd, .ref oc_fr, .ref oc_to, .ref oc_tg, .int (nI n), .int (nI hn)])), (oc_ops, .inl (cI, 32, .inl f)), (oc_opd, .inl (cI, 32, .inl g)), (oc_fr, .inl (cI, 3, .inl fr)), (oc_to, .inl (cI, 3, .inl to)), (oc_tg, .inl (cI, 3, .inl tg))] (RI D classes (tyz cI cZ) ((f_CH_firstWrong n hn f g fr to tg d ov).1) [(k, .inr (2, [.ref k_d, .ref k_o])), (k_d, .inl (cI, 32, .inl ((f_CH_firstWrong n hn f g fr to tg d ov).2.1))), (k_o, .inl (cZ, 32, .inl ((f_CH_firstWrong n hn f g fr to tg d ov).2.2))), (oc, .inr (1, [.ref oc_ops, .ref oc_opd, .ref oc_fr, .ref oc_to, .ref oc_tg, .int (nI n), .int (nI hn)])), (oc_ops, .inl (cI, 32, .inl f)), (oc_opd, .inl (cI, 32, .inl g)), (oc_fr, .inl (cI, 3, .inl fr)), (oc_to, .inl (cI, 3, .inl to)), (oc_tg, .inl (cI, 3, .inl tg))]) := by
  refine MG.of (cc := b_CH_firstWrong) (maxL := 4) (ret := (some .int)) (own := "FlowFlattener$Checker") rfl (by decide) rfl (Nat.le_of_ble_eq_true rfl) ?_
  intro p e s m below meth c A ls S hr hlocks hA hP hK hD hS hE hl
  have hx := S.1
  have hb := S.2.1
  have hl : lv_has ls 4 [(0, .ref k), (1, .ref oc)] := hl
  refine lv_aload_n hx hb d_CH_firstWrong_0 rfl (lv_at hl 0 rfl) ?_
  refine k_gov (ws' := [(k, .inr (2, [.ref k_d, .ref k_o])), (k_d, .inl (cI, 32, .inl ((f_CH_forget d ov).1))), (k_o, .inl (cZ, 32, .inl ((f_CH_forget d ov).2))), (oc, .inr (1, [.ref oc_ops, .ref oc_opd, .ref oc_fr, .ref oc_to, .ref oc_tg, .int (nI n), .int (nI hn)])), (oc_ops, .inl (cI, 32, .inl f)), (oc_opd, .inl (cI, 32, .inl g)), (oc_fr, .inl (cI, 3, .inl fr)), (oc_to, .inl (cI, 3, .inl to)), (oc_tg, .inl (cI, 3, .inl tg))]) (wr := [(oc, .inr (1, [.ref oc_ops, .ref oc_opd, .ref oc_fr, .ref oc_to, .ref oc_tg, .int (nI n), .int (nI hn)])), (oc_ops, .inl (cI, 32, .inl f)), (oc_opd, .inl (cI, 32, .inl g)), (oc_fr, .inl (cI, 3, .inl fr)), (oc_to, .inl (cI, 3, .inl to)), (oc_tg, .inl (cI, 3, .inl tg))]) (k_runV (q0 := 0) (As := []) (rest := []) (n := 0) S (c_CH_forget l D cI cZ k k_d k_o d ov) E0_b E0_t ql_CH_19 qi_CH_forget qs_CH_forget qn_CH qc_CH_forget (by decide +kernel) rfl ⟨rfl, rfl⟩ ⟨Nat.le_of_ble_eq_true rfl, Nat.le_of_ble_eq_true rfl⟩ hK hP hD [0, 1, 2] rfl (by decide) rfl rfl hl.1 rfl (Nat.le_of_ble_eq_true rfl) d_CH_firstWrong_1 ⟨Nat.zero_le _, Nat.zero_le _⟩) hP hD hS hA [0, 1, 2] [3, 4, 5, 6, 7, 8] [6, 7, 8, 0, 1, 2, 3, 4, 5] rfl rfl (by decide) (by decide) rfl (by decide) (fun H locs hP hD hS => ?_)
  refine lv_aload_n hx hb d_CH_firstWrong_4 rfl (lv_at hl 0 rfl) ?_
  refine k_get (v := .ref k_d) S in_CH hK hP 0 rfl rfl 0 (by decide) ql_CH_9 rfl d_CH_firstWrong_5 ?_
  refine lv_iconst (v := 0) hx hb d_CH_firstWrong_8 (by decide) ?_
  refine lv_iconst (v := 0) hx hb d_CH_firstWrong_9 (by decide) ?_
  refine k_st (k := 0) (x := 0) (ws' := [(k, .inr (2, [.ref k_d, .ref k_o])), (k_d, .inl (cI, 32, .inl (upd ((f_CH_forget d ov).1) 0 0))), (k_o, .inl (cZ, 32, .inl ((f_CH_forget d ov).2))), (oc, .inr (1, [.ref oc_ops, .ref oc_opd, .ref oc_fr, .ref oc_to, .ref oc_tg, .int (nI n), .int (nI hn)])), (oc_ops, .inl (cI, 32, .inl f)), (oc_opd, .inl (cI, 32, .inl g)), (oc_fr, .inl (cI, 3, .inl fr)), (oc_to, .inl (cI, 3, .inl to)), (oc_tg, .inl (cI, 3, .inl tg))]) hx hb hK hP hD hS 1 0 rfl rfl (by decide) (by omega) (by decide) rfl d_CH_firstWrong_10 (fun H locs hP hD hS => ?_)
  refine lv_iconst (v := nI 0) hx hb d_CH_firstWrong_11 (by decide) ?_
  refine lv_istore_n (lv' := [(2, .int (nI 0)), (0, .ref k), (1, .ref oc)]) hx hb d_CH_firstWrong_12 rfl hl (by decide) rfl (fun ls hl => ?_)
  have LP13 : ∀ (kf : Nat) (r : Nat) (d1 : Nat → Int32) (o1 : Nat → Int32), (r + kf = 32) → lp_CH_firstWrong n hn f g fr to tg kf r d1 o1 = f_CH_firstWrong n hn f g fr to tg d ov → ∀ (ls : Array Slot) (H : Heap) (locs : List Loc), lv_has ls 4 [(0, .ref k), (1, .ref oc), (2, .int (nI r))] → va_P D classes [(k, .inr (2, [.ref k_d, .ref k_o])), (k_d, .inl (cI, 32, .inl d1)), (k_o, .inl (cZ, 32, .inl o1)), (oc, .inr (1, [.ref oc_ops, .ref oc_opd, .ref oc_fr, .ref oc_to, .ref oc_tg, .int (nI n), .int (nI hn)])), (oc_ops, .inl (cI, 32, .inl f)), (oc_opd, .inl (cI, 32, .inl g)), (oc_fr, .inl (cI, 3, .inl fr)), (oc_to, .inl (cI, 3, .inl to)), (oc_tg, .inl (cI, 3, .inl tg))] H → va_D A [(k, .inr (2, [.ref k_d, .ref k_o])), (k_d, .inl (cI, 32, .inl d1)), (k_o, .inl (cZ, 32, .inl o1)), (oc, .inr (1, [.ref oc_ops, .ref oc_opd, .ref oc_fr, .ref oc_to, .ref oc_tg, .int (nI n), .int (nI hn)])), (oc_ops, .inl (cI, 32, .inl f)), (oc_opd, .inl (cI, 32, .inl g)), (oc_fr, .inl (cI, 3, .inl fr)), (oc_to, .inl (cI, 3, .inl to)), (oc_tg, .inl (cI, 3, .inl tg))] → va_S A s.heap H locs → W p l e (rmK 4 93) s m [.ref k, .ref oc].toArray below meth c H locs 0 0 (MQ below (RI D classes (tyz cI cZ) ((f_CH_firstWrong n hn f g fr to tg d ov).1) [(k, .inr (2, [.ref k_d, .ref k_o])), (k_d, .inl (cI, 32, .inl ((f_CH_firstWrong n hn f g fr to tg d ov).2.1))), (k_o, .inl (cZ, 32, .inl ((f_CH_firstWrong n hn f g fr to tg d ov).2.2))), (oc, .inr (1, [.ref oc_ops, .ref oc_opd, .ref oc_fr, .ref oc_to, .ref oc_tg, .int (nI n), .int (nI hn)])), (oc_ops, .inl (cI, 32, .inl f)), (oc_opd, .inl (cI, 32, .inl g)), (oc_fr, .inl (cI, 3, .inl fr)), (oc_to, .inl (cI, 3, .inl to)), (oc_tg, .inl (cI, 3, .inl tg))] A) [.ref k, .ref oc].toArray s 0 0 A) (F0 m 13 ls []) := by
    intro kf
    induction kf with
    | zero =>
      intro r d1 o1 hk hF13 ls H locs hl hP hD hS
      refine lv_iload_n hx hb d_CH_firstWrong_13 rfl (lv_at hl 2 rfl) ?_
      refine lv_bipush (v := 32) hx hb d_CH_firstWrong_14 (by decide) ?_
      refine n_icmp_ge (tgt := 56) (x := r) (y := 32) hx hb rfl (by decide) (by omega) (by omega) d_CH_firstWrong_16 (by decide) (fun h16_1 => ?_) (fun h16_1 => absurd h16_1 (by omega))
      refine lv_iconst (v := (-1)) hx hb d_CH_firstWrong_56 (by decide) ?_
      exact k_iret hx hb hr hlocks hK hP hD hS (by rw [← hF13, lp_CH_firstWrong]) (by rw [← hF13, lp_CH_firstWrong]) d_CH_firstWrong_57
    | succ kf ih =>
      intro r d1 o1 hk hF13 ls H locs hl hP hD hS
      refine lv_iload_n hx hb d_CH_firstWrong_13 rfl (lv_at hl 2 rfl) ?_
      refine lv_bipush (v := 32) hx hb d_CH_firstWrong_14 (by decide) ?_
      refine n_icmp_ge (tgt := 56) (x := r) (y := 32) hx hb rfl (by decide) (by omega) (by omega) d_CH_firstWrong_16 (by decide) (fun h16_2 => absurd h16_2 (by omega)) (fun h16_2 => ?_)
      refine lv_aload_n hx hb d_CH_firstWrong_19 rfl (lv_at hl 0 rfl) ?_
      refine lv_aload_n hx hb d_CH_firstWrong_20 rfl (lv_at hl 1 rfl) ?_
      refine k_goi (ws' := [(k, .inr (2, [.ref k_d, .ref k_o])), (k_d, .inl (cI, 32, .inl d1)), (k_o, .inl (cZ, 32, .inl o1)), (oc, .inr (1, [.ref oc_ops, .ref oc_opd, .ref oc_fr, .ref oc_to, .ref oc_tg, .int (nI n), .int (nI hn)])), (oc_ops, .inl (cI, 32, .inl f)), (oc_opd, .inl (cI, 32, .inl g)), (oc_fr, .inl (cI, 3, .inl fr)), (oc_to, .inl (cI, 3, .inl to)), (oc_tg, .inl (cI, 3, .inl tg))]) (wr := [(oc_ops, .inl (cI, 32, .inl f)), (oc_opd, .inl (cI, 32, .inl g)), (oc_fr, .inl (cI, 3, .inl fr)), (oc_to, .inl (cI, 3, .inl to)), (oc_tg, .inl (cI, 3, .inl tg))]) (k_runV (q0 := 0) (As := [.ref oc]) (rest := []) (n := 1) S (c_CH_leastLeft l D cI cZ k k_d k_o oc oc_ops oc_opd oc_fr oc_to oc_tg n hn d1 o1 (by omega)) E0_b E0_t ql_CH_22 qi_CH_leastLeft qs_CH_leastLeft qn_CH qc_CH_leastLeft (by decide +kernel) rfl ⟨rfl, rfl⟩ ⟨Nat.le_of_ble_eq_true rfl, Nat.le_of_ble_eq_true rfl⟩ hK hP hD [0, 1, 2, 3] rfl (by decide) rfl rfl hl.1 rfl (Nat.le_of_ble_eq_true rfl) d_CH_firstWrong_21 ⟨Nat.zero_le _, Nat.zero_le _⟩) hP hD hS hA [0, 1, 2, 3] [4, 5, 6, 7, 8] [5, 6, 7, 8, 0, 1, 2, 3, 4] rfl rfl (by decide) (by decide) rfl (by decide) (fun H locs hP hD hS => ?_)
      refine lv_istore_n (lv' := [(3, .int (f_CH_leastLeft n d1 o1)), (0, .ref k), (1, .ref oc), (2, .int (nI r))]) hx hb d_CH_firstWrong_24 rfl hl (by decide) rfl (fun ls hl => ?_)
      refine lv_iload_n hx hb d_CH_firstWrong_25 rfl (lv_at hl 0 rfl) ?_
      refine lv_iconst (v := (-1)) hx hb d_CH_firstWrong_26 (by decide) ?_
      refine lv_icmp_ne (tgt := 32) hx hb d_CH_firstWrong_27 (by decide) (fun h27_3 => ?_) (fun h27_3 => ?_)
      · skip
        rw [show f_CH_leastLeft n d1 o1 = nI (tn (f_CH_leastLeft n d1 o1)) from (ll_eq (by omega) (by assumption))] at hl
        refine lv_aload_n hx hb d_CH_firstWrong_32 rfl (lv_at hl 1 rfl) ?_
        refine k_get (v := .ref k_o) S in_CH hK hP 0 rfl rfl 1 (by decide) ql_CH_15 rfl d_CH_firstWrong_33 ?_
        refine lv_iload_n hx hb d_CH_firstWrong_36 rfl (lv_at hl 0 rfl) ?_
        refine lv_iconst (v := 1) hx hb d_CH_firstWrong_37 (by decide) ?_
        refine k_zst (k := tn (f_CH_leastLeft n d1 o1)) (x := 1) (ws' := [(k, .inr (2, [.ref k_d, .ref k_o])), (k_d, .inl (cI, 32, .inl d1)), (k_o, .inl (cZ, 32, .inl (upd o1 (tn (f_CH_leastLeft n d1 o1)) 1))), (oc, .inr (1, [.ref oc_ops, .ref oc_opd, .ref oc_fr, .ref oc_to, .ref oc_tg, .int (nI n), .int (nI hn)])), (oc_ops, .inl (cI, 32, .inl f)), (oc_opd, .inl (cI, 32, .inl g)), (oc_fr, .inl (cI, 3, .inl fr)), (oc_to, .inl (cI, 3, .inl to)), (oc_tg, .inl (cI, 3, .inl tg))]) hx hb hK hP hD hS 2 1 rfl rfl rfl (by decide) (by have := ll_lt (n := n) (d := d1) (o := o1) (by omega) (by assumption); omega) (by decide) rfl d_CH_firstWrong_38 (fun H locs hP hD hS => ?_)
        refine lv_aload_n hx hb d_CH_firstWrong_39 rfl (lv_at hl 1 rfl) ?_
        refine lv_aload_n hx hb d_CH_firstWrong_40 rfl (lv_at hl 2 rfl) ?_
        refine lv_iload_n hx hb d_CH_firstWrong_41 rfl (lv_at hl 0 rfl) ?_
        refine k_goi (ws' := [(k, .inr (2, [.ref k_d, .ref k_o])), (k_d, .inl (cI, 32, .inl ((f_CH_goesOver n hn (tn (f_CH_leastLeft n d1 o1)) f g fr to tg d1).2))), (k_o, .inl (cZ, 32, .inl (upd o1 (tn (f_CH_leastLeft n d1 o1)) 1))), (oc, .inr (1, [.ref oc_ops, .ref oc_opd, .ref oc_fr, .ref oc_to, .ref oc_tg, .int (nI n), .int (nI hn)])), (oc_ops, .inl (cI, 32, .inl f)), (oc_opd, .inl (cI, 32, .inl g)), (oc_fr, .inl (cI, 3, .inl fr)), (oc_to, .inl (cI, 3, .inl to)), (oc_tg, .inl (cI, 3, .inl tg))]) (wr := [(k_o, .inl (cZ, 32, .inl (upd o1 (tn (f_CH_leastLeft n d1 o1)) 1)))]) (k_runV (q0 := 0) (As := [.ref oc, .int (nI (tn (f_CH_leastLeft n d1 o1)))]) (rest := []) (n := 2) S (c_CH_goesOver l D cI cZ tt tp k k_d k_o oc oc_ops oc_opd oc_fr oc_to oc_tg n hn (tn (f_CH_leastLeft n d1 o1)) f g fr to tg d1 (by omega) (by omega) (ll_lt (by omega) (by assumption)) (ho _ (ll_lt (by omega) (by assumption))) (hj _ (ll_lt (by omega) (by assumption))) hg) EN_b (EN_t hE hS (va_free (wc := [(k, .inr (2, [.ref k_d, .ref k_o])), (k_d, .inl (cI, 32, .inl d1)), (oc, .inr (1, [.ref oc_ops, .ref oc_opd, .ref oc_fr, .ref oc_to, .ref oc_tg, .int (nI n), .int (nI hn)])), (oc_ops, .inl (cI, 32, .inl f)), (oc_opd, .inl (cI, 32, .inl g)), (oc_fr, .inl (cI, 3, .inl fr)), (oc_to, .inl (cI, 3, .inl to)), (oc_tg, .inl (cI, 3, .inl tg))]) hD hS hA [0, 1, 3, 4, 5, 6, 7, 8] rfl)) ql_CH_26 qi_CH_goesOver qs_CH_goesOver qn_CH qc_CH_goesOver (by decide +kernel) rfl ⟨rfl, rfl⟩ ⟨Nat.le_of_ble_eq_true rfl, Nat.le_of_ble_eq_true rfl⟩ hK hP hD [0, 1, 3, 4, 5, 6, 7, 8] rfl (by decide) rfl rfl hl.1 rfl (Nat.le_of_ble_eq_true rfl) d_CH_firstWrong_42 ⟨Nat.zero_le _, Nat.zero_le _⟩) hP hD hS hA [0, 1, 3, 4, 5, 6, 7, 8] [2] [1, 2, 0, 3, 4, 5, 6, 7, 8] rfl rfl (by decide) (by decide) rfl (by decide) (fun H locs hP hD hS => ?_)
        refine lv_if_ne (tgt := 50) hx hb d_CH_firstWrong_45 (by decide) (fun h45_4 => ?_) (fun h45_4 => ?_)
        · skip
          refine lv_iinc (k := 3) (v := nI (r + 1)) (lv' := [(2, .int (nI (r + 1))), (3, .int (nI (tn (f_CH_leastLeft n d1 o1)))), (0, .ref k), (1, .ref oc)]) hx hb d_CH_firstWrong_50 hl rfl (nc_add rfl (by decide)) (by decide) rfl (fun ls hl => ?_)
          refine lv_goto (tgt := 13) hx hb d_CH_firstWrong_53 (by decide) ?_
          have e9 : lp_CH_firstWrong n hn f g fr to tg (kf + 1) r d1 o1 = lp_CH_firstWrong n hn f g fr to tg kf (r + 1) ((f_CH_goesOver n hn (tn (f_CH_leastLeft n d1 o1)) f g fr to tg d1).2) (upd o1 (tn (f_CH_leastLeft n d1 o1)) 1) := by rw [lp_CH_firstWrong, if_neg h27_3, if_neg h45_4]
          rw [e9] at hF13
          exact ih (r + 1) ((f_CH_goesOver n hn (tn (f_CH_leastLeft n d1 o1)) f g fr to tg d1).2) (upd o1 (tn (f_CH_leastLeft n d1 o1)) 1) (by omega) hF13 _ _ _ (lv_sub hl [2, 3, 0] rfl) hP hD hS
        · skip
          refine lv_iload_n hx hb d_CH_firstWrong_48 rfl (lv_at hl 0 rfl) ?_
          exact k_iret hx hb hr hlocks hK hP hD hS (by rw [← hF13, lp_CH_firstWrong, if_neg h27_3, if_pos h45_4]) (by rw [← hF13, lp_CH_firstWrong, if_neg h27_3, if_pos h45_4]) d_CH_firstWrong_49
      · skip
        refine lv_iconst (v := (-1)) hx hb d_CH_firstWrong_30 (by decide) ?_
        exact k_iret hx hb hr hlocks hK hP hD hS (by rw [← hF13, lp_CH_firstWrong, if_pos h27_3]) (by rw [← hF13, lp_CH_firstWrong, if_pos h27_3]) d_CH_firstWrong_31
  exact LP13 32 0 (upd ((f_CH_forget d ov).1) 0 0) ((f_CH_forget d ov).2) rfl (by rw [f_CH_firstWrong]) _ _ _ (lv_sub hl [1, 2, 0] rfl) hP hD hS

theorem d_FF_clear_0 : decode b_FF_clear 0 = .ok (.aload_n 0, 1) := by decide +kernel
theorem d_FF_clear_1 : decode b_FF_clear 1 = .ok (.getfield 14, 3) := by decide +kernel
theorem d_FF_clear_4 : decode b_FF_clear 4 = .ok (.invokevirtual 43, 3) := by decide +kernel
theorem d_FF_clear_7 : decode b_FF_clear 7 = .ok (.return_, 1) := by decide +kernel
set_option maxHeartbeats 1000000 in
set_option maxRecDepth 100000 in
theorem c_FF_clear (l : Launch) (D : va_G) (cI cZ : ClassId) (k : Nat) (x we ma q_st : Nat) (oc oc_ops oc_opd oc_fr oc_to oc_tg n hn : Nat) : MG l y_FF_clear w_FF_clear (rmK 1 20) D classes (tyz cI cZ) E0 [.ref x] [(x, .inr (0, [.ref oc, .ref k, .ref we, .ref ma, .ref q_st])), (oc, .inr (1, [.ref oc_ops, .ref oc_opd, .ref oc_fr, .ref oc_to, .ref oc_tg, .int (nI n), .int (nI hn)]))] (RV D classes (tyz cI cZ) [(x, .inr (0, [.ref oc, .ref k, .ref we, .ref ma, .ref q_st])), (oc, .inr (1, [.ref oc_ops, .ref oc_opd, .ref oc_fr, .ref oc_to, .ref oc_tg, .int (nI 0), .int (nI 0)]))]) := by
  refine MG.of (cc := b_FF_clear) (maxL := 1) (ret := none) (own := "FlowFlattener") rfl (by decide) rfl (Nat.le_of_ble_eq_true rfl) ?_
  intro p e s m below meth c A ls S hr hlocks hA hP hK hD hS hE hl
  have hx := S.1
  have hb := S.2.1
  have hl : lv_has ls 1 [(0, .ref x)] := hl
  refine lv_aload_n hx hb d_FF_clear_0 rfl (lv_at hl 0 rfl) ?_
  refine k_get (v := .ref oc) S in_FF hK hP 0 rfl rfl 0 (by decide) ql_FF_14 rfl d_FF_clear_1 ?_
  refine k_gov (ws' := [(x, .inr (0, [.ref oc, .ref k, .ref we, .ref ma, .ref q_st])), (oc, .inr (1, [.ref oc_ops, .ref oc_opd, .ref oc_fr, .ref oc_to, .ref oc_tg, .int (nI 0), .int (nI 0)]))]) (wr := [(x, .inr (0, [.ref oc, .ref k, .ref we, .ref ma, .ref q_st]))]) (k_runV (q0 := 1) (As := []) (rest := []) (n := 0) S (c_CO_empty l D cI cZ oc oc_ops oc_opd oc_fr oc_to oc_tg n hn) E0_b E0_t ql_FF_43 qi_CO_empty qs_CO_empty qn_CO qc_CO_empty (by decide +kernel) rfl ⟨rfl, rfl⟩ ⟨Nat.le_of_ble_eq_true rfl, Nat.le_of_ble_eq_true rfl⟩ hK hP hD [1] rfl (by decide) rfl rfl hl.1 rfl (Nat.le_of_ble_eq_true rfl) d_FF_clear_4 ⟨Nat.zero_le _, Nat.zero_le _⟩) hP hD hS hA [1] [0] [0, 1] rfl rfl (by decide) (by decide) rfl (by decide) (fun H locs hP hD hS => ?_)
  exact k_vret hx hb hr hlocks hK hP hD hS rfl d_FF_clear_7

theorem d_FF_add_0 : decode b_FF_add 0 = .ok (.iload_n 1, 1) := by decide +kernel
theorem d_FF_add_1 : decode b_FF_add 1 = .ok (.ifCond .lt 29, 3) := by decide +kernel
theorem d_FF_add_4 : decode b_FF_add 4 = .ok (.iload_n 1, 1) := by decide +kernel
theorem d_FF_add_5 : decode b_FF_add 5 = .ok (.bipush 17, 2) := by decide +kernel
theorem d_FF_add_7 : decode b_FF_add 7 = .ok (.if_icmp .gt 23, 3) := by decide +kernel
theorem d_FF_add_10 : decode b_FF_add 10 = .ok (.aload_n 0, 1) := by decide +kernel
theorem d_FF_add_11 : decode b_FF_add 11 = .ok (.getfield 14, 3) := by decide +kernel
theorem d_FF_add_14 : decode b_FF_add 14 = .ok (.getfield 46, 3) := by decide +kernel
theorem d_FF_add_17 : decode b_FF_add 17 = .ok (.bipush 32, 2) := by decide +kernel
theorem d_FF_add_19 : decode b_FF_add 19 = .ok (.if_icmp .eq 11, 3) := by decide +kernel
theorem d_FF_add_22 : decode b_FF_add 22 = .ok (.iload_n 1, 1) := by decide +kernel
theorem d_FF_add_23 : decode b_FF_add 23 = .ok (.iload_n 2, 1) := by decide +kernel
theorem d_FF_add_24 : decode b_FF_add 24 = .ok (.invokestatic 50, 3) := by decide +kernel
theorem d_FF_add_27 : decode b_FF_add 27 = .ok (.ifCond .ne 5, 3) := by decide +kernel
theorem d_FF_add_30 : decode b_FF_add 30 = .ok (.iconst (-1), 1) := by decide +kernel
theorem d_FF_add_31 : decode b_FF_add 31 = .ok (.ireturn, 1) := by decide +kernel
theorem d_FF_add_32 : decode b_FF_add 32 = .ok (.aload_n 0, 1) := by decide +kernel
theorem d_FF_add_33 : decode b_FF_add 33 = .ok (.getfield 14, 3) := by decide +kernel
theorem d_FF_add_36 : decode b_FF_add 36 = .ok (.iload_n 1, 1) := by decide +kernel
theorem d_FF_add_37 : decode b_FF_add 37 = .ok (.iload_n 1, 1) := by decide +kernel
theorem d_FF_add_38 : decode b_FF_add 38 = .ok (.invokestatic 54, 3) := by decide +kernel
theorem d_FF_add_41 : decode b_FF_add 41 = .ok (.ifCond .eq 7, 3) := by decide +kernel
theorem d_FF_add_44 : decode b_FF_add 44 = .ok (.iload_n 2, 1) := by decide +kernel
theorem d_FF_add_45 : decode b_FF_add 45 = .ok (.goto 4, 3) := by decide +kernel
theorem d_FF_add_48 : decode b_FF_add 48 = .ok (.iconst 0, 1) := by decide +kernel
theorem d_FF_add_49 : decode b_FF_add 49 = .ok (.invokevirtual 58, 3) := by decide +kernel
theorem d_FF_add_52 : decode b_FF_add 52 = .ok (.aload_n 0, 1) := by decide +kernel
theorem d_FF_add_53 : decode b_FF_add 53 = .ok (.getfield 14, 3) := by decide +kernel
theorem d_FF_add_56 : decode b_FF_add 56 = .ok (.getfield 46, 3) := by decide +kernel
theorem d_FF_add_59 : decode b_FF_add 59 = .ok (.iconst 1, 1) := by decide +kernel
theorem d_FF_add_60 : decode b_FF_add 60 = .ok (.isub, 1) := by decide +kernel
theorem d_FF_add_61 : decode b_FF_add 61 = .ok (.ireturn, 1) := by decide +kernel
def f_FF_add (n : Nat) (f : Nat → Int32) (g : Nat → Int32) (o : Int32) (b : Int32) : Int32 × Nat × (Nat → Int32) × (Nat → Int32) := (if o < 0 then ((-1), n, f, g) else (if 17 < o then ((-1), n, f, g) else (if n = 32 then ((-1), n, f, g) else (if f_FF_takesOperand o b = 0 then ((-1), n, f, g) else (if f_FF_hasOperand o = 0 then (nI (n + 1 - 1), n + 1, upd f n o, upd g n 0) else (nI (n + 1 - 1), n + 1, upd f n o, upd g n b))))))
set_option maxHeartbeats 1000000 in
set_option maxRecDepth 100000 in
theorem c_FF_add (l : Launch) (D : va_G) (cI cZ : ClassId) (k : Nat) (x we ma q_st : Nat) (oc oc_ops oc_opd oc_fr oc_to oc_tg n hn : Nat) (f g : Nat → Int32) (o b : Int32) (hh : n ≤ 32) : MG l y_FF_add w_FF_add (rmK 3 61) D classes (tyz cI cZ) E0 [.ref x, .int o, .int b] [(x, .inr (0, [.ref oc, .ref k, .ref we, .ref ma, .ref q_st])), (oc, .inr (1, [.ref oc_ops, .ref oc_opd, .ref oc_fr, .ref oc_to, .ref oc_tg, .int (nI n), .int (nI hn)])), (oc_ops, .inl (cI, 32, .inl f)), (oc_opd, .inl (cI, 32, .inl g))] (RI D classes (tyz cI cZ) ((f_FF_add n f g o b).1) [(x, .inr (0, [.ref oc, .ref k, .ref we, .ref ma, .ref q_st])), (oc, .inr (1, [.ref oc_ops, .ref oc_opd, .ref oc_fr, .ref oc_to, .ref oc_tg, .int (nI ((f_FF_add n f g o b).2.1)), .int (nI hn)])), (oc_ops, .inl (cI, 32, .inl ((f_FF_add n f g o b).2.2.1))), (oc_opd, .inl (cI, 32, .inl ((f_FF_add n f g o b).2.2.2)))]) := by
  refine MG.of (cc := b_FF_add) (maxL := 3) (ret := (some .int)) (own := "FlowFlattener") rfl (by decide) rfl (Nat.le_of_ble_eq_true rfl) ?_
  intro p e s m below meth c A ls S hr hlocks hA hP hK hD hS hE hl
  have hx := S.1
  have hb := S.2.1
  have hl : lv_has ls 3 [(0, .ref x), (1, .int o), (2, .int b)] := hl
  refine lv_iload_n hx hb d_FF_add_0 rfl (lv_at hl 1 rfl) ?_
  refine lv_if_lt (tgt := 30) hx hb d_FF_add_1 (by decide) (fun h1_1 => ?_) (fun h1_1 => ?_)
  · skip
    refine lv_iconst (v := (-1)) hx hb d_FF_add_30 (by decide) ?_
    exact k_iret hx hb hr hlocks hK hP hD hS (by rw [f_FF_add, if_pos h1_1]) (by rw [f_FF_add, if_pos h1_1]) d_FF_add_31
  · skip
    refine lv_iload_n hx hb d_FF_add_4 rfl (lv_at hl 1 rfl) ?_
    refine lv_bipush (v := 17) hx hb d_FF_add_5 (by decide) ?_
    refine lv_icmp_gt (tgt := 30) hx hb d_FF_add_7 (by decide) (fun h7_2 => ?_) (fun h7_2 => ?_)
    · skip
      refine lv_iconst (v := (-1)) hx hb d_FF_add_30 (by decide) ?_
      exact k_iret hx hb hr hlocks hK hP hD hS (by rw [f_FF_add, if_neg h1_1, if_pos h7_2]) (by rw [f_FF_add, if_neg h1_1, if_pos h7_2]) d_FF_add_31
    · skip
      refine lv_aload_n hx hb d_FF_add_10 rfl (lv_at hl 0 rfl) ?_
      refine k_get (v := .ref oc) S in_FF hK hP 0 rfl rfl 0 (by decide) ql_FF_14 rfl d_FF_add_11 ?_
      refine k_get (v := .int (nI n)) S in_CO hK hP 1 rfl rfl 5 (by decide) ql_FF_46 rfl d_FF_add_14 ?_
      refine lv_bipush (v := 32) hx hb d_FF_add_17 (by decide) ?_
      refine n_icmp_eq (tgt := 30) (x := n) (y := 32) hx hb rfl (by decide) (by omega) (by omega) d_FF_add_19 (by decide) (fun h19_3 => ?_) (fun h19_3 => ?_)
      · skip
        refine lv_iconst (v := (-1)) hx hb d_FF_add_30 (by decide) ?_
        exact k_iret hx hb hr hlocks hK hP hD hS (by rw [f_FF_add, if_neg h1_1, if_neg h7_2, if_pos h19_3]) (by rw [f_FF_add, if_neg h1_1, if_neg h7_2, if_pos h19_3]) d_FF_add_31
      · skip
        refine lv_iload_n hx hb d_FF_add_22 rfl (lv_at hl 1 rfl) ?_
        refine lv_iload_n hx hb d_FF_add_23 rfl (lv_at hl 2 rfl) ?_
        refine k_goi (ws' := [(x, .inr (0, [.ref oc, .ref k, .ref we, .ref ma, .ref q_st])), (oc, .inr (1, [.ref oc_ops, .ref oc_opd, .ref oc_fr, .ref oc_to, .ref oc_tg, .int (nI n), .int (nI hn)])), (oc_ops, .inl (cI, 32, .inl f)), (oc_opd, .inl (cI, 32, .inl g))]) (wr := [(x, .inr (0, [.ref oc, .ref k, .ref we, .ref ma, .ref q_st])), (oc, .inr (1, [.ref oc_ops, .ref oc_opd, .ref oc_fr, .ref oc_to, .ref oc_tg, .int (nI n), .int (nI hn)])), (oc_ops, .inl (cI, 32, .inl f)), (oc_opd, .inl (cI, 32, .inl g))]) (k_runS (As := [.int o, .int b]) (rest := []) (n := 2) S (c_FF_takesOperand l D cI cZ o b) E0_b E0_t ql_FF_50 qt_FF_takesOperand qn_FF qc_FF_takesOperand (by decide +kernel) rfl ⟨rfl, rfl⟩ ⟨Nat.le_of_ble_eq_true rfl, Nat.le_of_ble_eq_true rfl⟩ hK hP hD [] rfl (by decide) hl.1 rfl (Nat.le_of_ble_eq_true rfl) d_FF_add_24 ⟨Nat.zero_le _, Nat.zero_le _⟩) hP hD hS hA [] [0, 1, 2, 3] [0, 1, 2, 3] rfl rfl (by decide) (by decide) rfl (by decide) (fun H locs hP hD hS => ?_)
        refine lv_if_ne (tgt := 32) hx hb d_FF_add_27 (by decide) (fun h27_4 => ?_) (fun h27_4 => ?_)
        · skip
          refine lv_aload_n hx hb d_FF_add_32 rfl (lv_at hl 0 rfl) ?_
          refine k_get (v := .ref oc) S in_FF hK hP 0 rfl rfl 0 (by decide) ql_FF_14 rfl d_FF_add_33 ?_
          refine lv_iload_n hx hb d_FF_add_36 rfl (lv_at hl 1 rfl) ?_
          refine lv_iload_n hx hb d_FF_add_37 rfl (lv_at hl 1 rfl) ?_
          refine k_goi (ws' := [(x, .inr (0, [.ref oc, .ref k, .ref we, .ref ma, .ref q_st])), (oc, .inr (1, [.ref oc_ops, .ref oc_opd, .ref oc_fr, .ref oc_to, .ref oc_tg, .int (nI n), .int (nI hn)])), (oc_ops, .inl (cI, 32, .inl f)), (oc_opd, .inl (cI, 32, .inl g))]) (wr := [(x, .inr (0, [.ref oc, .ref k, .ref we, .ref ma, .ref q_st])), (oc, .inr (1, [.ref oc_ops, .ref oc_opd, .ref oc_fr, .ref oc_to, .ref oc_tg, .int (nI n), .int (nI hn)])), (oc_ops, .inl (cI, 32, .inl f)), (oc_opd, .inl (cI, 32, .inl g))]) (k_runS (As := [.int o]) (rest := [.int o, .ref oc]) (n := 1) S (c_FF_hasOperand l D cI cZ o) E0_b E0_t ql_FF_54 qt_FF_hasOperand qn_FF qc_FF_hasOperand (by decide +kernel) rfl ⟨rfl, rfl⟩ ⟨Nat.le_of_ble_eq_true rfl, Nat.le_of_ble_eq_true rfl⟩ hK hP hD [] rfl (by decide) hl.1 rfl (Nat.le_of_ble_eq_true rfl) d_FF_add_38 ⟨Nat.zero_le _, Nat.zero_le _⟩) hP hD hS hA [] [0, 1, 2, 3] [0, 1, 2, 3] rfl rfl (by decide) (by decide) rfl (by decide) (fun H locs hP hD hS => ?_)
          refine lv_if_eq (tgt := 48) hx hb d_FF_add_41 (by decide) (fun h41_5 => ?_) (fun h41_5 => ?_)
          · skip
            refine lv_iconst (v := 0) hx hb d_FF_add_48 (by decide) ?_
            refine k_gov (ws' := [(x, .inr (0, [.ref oc, .ref k, .ref we, .ref ma, .ref q_st])), (oc, .inr (1, [.ref oc_ops, .ref oc_opd, .ref oc_fr, .ref oc_to, .ref oc_tg, .int (nI (n + 1)), .int (nI hn)])), (oc_ops, .inl (cI, 32, .inl (upd f n o))), (oc_opd, .inl (cI, 32, .inl (upd g n 0)))]) (wr := [(x, .inr (0, [.ref oc, .ref k, .ref we, .ref ma, .ref q_st]))]) (k_runV (q0 := 1) (As := [.int o, .int 0]) (rest := []) (n := 2) S (c_CO_append l D cI cZ oc oc_ops oc_opd oc_fr oc_to oc_tg n hn 32 f g o 0 (by omega) (by omega)) E0_b E0_t ql_FF_58 qi_CO_append qs_CO_append qn_CO qc_CO_append (by decide +kernel) rfl ⟨rfl, rfl⟩ ⟨Nat.le_of_ble_eq_true rfl, Nat.le_of_ble_eq_true rfl⟩ hK hP hD [1, 2, 3] rfl (by decide) rfl rfl hl.1 rfl (Nat.le_of_ble_eq_true rfl) d_FF_add_49 ⟨Nat.zero_le _, Nat.zero_le _⟩) hP hD hS hA [1, 2, 3] [0] [0, 1, 2, 3] rfl rfl (by decide) (by decide) rfl (by decide) (fun H locs hP hD hS => ?_)
            refine lv_aload_n hx hb d_FF_add_52 rfl (lv_at hl 0 rfl) ?_
            refine k_get (v := .ref oc) S in_FF hK hP 0 rfl rfl 0 (by decide) ql_FF_14 rfl d_FF_add_53 ?_
            refine k_get (v := .int (nI (n + 1))) S in_CO hK hP 1 rfl rfl 5 (by decide) ql_FF_46 rfl d_FF_add_56 ?_
            refine lv_iconst (v := 1) hx hb d_FF_add_59 (by decide) ?_
            refine lv_isub hx hb d_FF_add_60 ?_
            refine k_top (y := nI (n + 1 - 1)) (nc_sub rfl (by decide) (by omega)) ?_
            exact k_iret hx hb hr hlocks hK hP hD hS (by rw [f_FF_add, if_neg h1_1, if_neg h7_2, if_neg h19_3, if_neg h27_4, if_pos h41_5]) (by rw [f_FF_add, if_neg h1_1, if_neg h7_2, if_neg h19_3, if_neg h27_4, if_pos h41_5]) d_FF_add_61
          · skip
            refine lv_iload_n hx hb d_FF_add_44 rfl (lv_at hl 2 rfl) ?_
            refine lv_goto (tgt := 49) hx hb d_FF_add_45 (by decide) ?_
            refine k_gov (ws' := [(x, .inr (0, [.ref oc, .ref k, .ref we, .ref ma, .ref q_st])), (oc, .inr (1, [.ref oc_ops, .ref oc_opd, .ref oc_fr, .ref oc_to, .ref oc_tg, .int (nI (n + 1)), .int (nI hn)])), (oc_ops, .inl (cI, 32, .inl (upd f n o))), (oc_opd, .inl (cI, 32, .inl (upd g n b)))]) (wr := [(x, .inr (0, [.ref oc, .ref k, .ref we, .ref ma, .ref q_st]))]) (k_runV (q0 := 1) (As := [.int o, .int b]) (rest := []) (n := 2) S (c_CO_append l D cI cZ oc oc_ops oc_opd oc_fr oc_to oc_tg n hn 32 f g o b (by omega) (by omega)) E0_b E0_t ql_FF_58 qi_CO_append qs_CO_append qn_CO qc_CO_append (by decide +kernel) rfl ⟨rfl, rfl⟩ ⟨Nat.le_of_ble_eq_true rfl, Nat.le_of_ble_eq_true rfl⟩ hK hP hD [1, 2, 3] rfl (by decide) rfl rfl hl.1 rfl (Nat.le_of_ble_eq_true rfl) d_FF_add_49 ⟨Nat.zero_le _, Nat.zero_le _⟩) hP hD hS hA [1, 2, 3] [0] [0, 1, 2, 3] rfl rfl (by decide) (by decide) rfl (by decide) (fun H locs hP hD hS => ?_)
            refine lv_aload_n hx hb d_FF_add_52 rfl (lv_at hl 0 rfl) ?_
            refine k_get (v := .ref oc) S in_FF hK hP 0 rfl rfl 0 (by decide) ql_FF_14 rfl d_FF_add_53 ?_
            refine k_get (v := .int (nI (n + 1))) S in_CO hK hP 1 rfl rfl 5 (by decide) ql_FF_46 rfl d_FF_add_56 ?_
            refine lv_iconst (v := 1) hx hb d_FF_add_59 (by decide) ?_
            refine lv_isub hx hb d_FF_add_60 ?_
            refine k_top (y := nI (n + 1 - 1)) (nc_sub rfl (by decide) (by omega)) ?_
            exact k_iret hx hb hr hlocks hK hP hD hS (by rw [f_FF_add, if_neg h1_1, if_neg h7_2, if_neg h19_3, if_neg h27_4, if_neg h41_5]) (by rw [f_FF_add, if_neg h1_1, if_neg h7_2, if_neg h19_3, if_neg h27_4, if_neg h41_5]) d_FF_add_61
        · skip
          refine lv_iconst (v := (-1)) hx hb d_FF_add_30 (by decide) ?_
          exact k_iret hx hb hr hlocks hK hP hD hS (by rw [f_FF_add, if_neg h1_1, if_neg h7_2, if_neg h19_3, if_pos h27_4]) (by rw [f_FF_add, if_neg h1_1, if_neg h7_2, if_neg h19_3, if_pos h27_4]) d_FF_add_31

theorem d_FF_handler_0 : decode b_FF_handler 0 = .ok (.iload_n 1, 1) := by decide +kernel
theorem d_FF_handler_1 : decode b_FF_handler 1 = .ok (.invokestatic 61, 3) := by decide +kernel
theorem d_FF_handler_4 : decode b_FF_handler 4 = .ok (.ifCond .eq 33, 3) := by decide +kernel
theorem d_FF_handler_7 : decode b_FF_handler 7 = .ok (.iload_n 2, 1) := by decide +kernel
theorem d_FF_handler_8 : decode b_FF_handler 8 = .ok (.invokestatic 61, 3) := by decide +kernel
theorem d_FF_handler_11 : decode b_FF_handler 11 = .ok (.ifCond .eq 26, 3) := by decide +kernel
theorem d_FF_handler_14 : decode b_FF_handler 14 = .ok (.iload_n 3, 1) := by decide +kernel
theorem d_FF_handler_15 : decode b_FF_handler 15 = .ok (.invokestatic 61, 3) := by decide +kernel
theorem d_FF_handler_18 : decode b_FF_handler 18 = .ok (.ifCond .eq 19, 3) := by decide +kernel
theorem d_FF_handler_21 : decode b_FF_handler 21 = .ok (.iload_n 1, 1) := by decide +kernel
theorem d_FF_handler_22 : decode b_FF_handler 22 = .ok (.iload_n 2, 1) := by decide +kernel
theorem d_FF_handler_23 : decode b_FF_handler 23 = .ok (.if_icmp .ge 14, 3) := by decide +kernel
theorem d_FF_handler_26 : decode b_FF_handler 26 = .ok (.aload_n 0, 1) := by decide +kernel
theorem d_FF_handler_27 : decode b_FF_handler 27 = .ok (.getfield 14, 3) := by decide +kernel
theorem d_FF_handler_30 : decode b_FF_handler 30 = .ok (.getfield 64, 3) := by decide +kernel
theorem d_FF_handler_33 : decode b_FF_handler 33 = .ok (.iconst 3, 1) := by decide +kernel
theorem d_FF_handler_34 : decode b_FF_handler 34 = .ok (.if_icmp .ne 5, 3) := by decide +kernel
theorem d_FF_handler_37 : decode b_FF_handler 37 = .ok (.iconst 0, 1) := by decide +kernel
theorem d_FF_handler_38 : decode b_FF_handler 38 = .ok (.ireturn, 1) := by decide +kernel
theorem d_FF_handler_39 : decode b_FF_handler 39 = .ok (.aload_n 0, 1) := by decide +kernel
theorem d_FF_handler_40 : decode b_FF_handler 40 = .ok (.getfield 14, 3) := by decide +kernel
theorem d_FF_handler_43 : decode b_FF_handler 43 = .ok (.iload_n 1, 1) := by decide +kernel
theorem d_FF_handler_44 : decode b_FF_handler 44 = .ok (.iload_n 2, 1) := by decide +kernel
theorem d_FF_handler_45 : decode b_FF_handler 45 = .ok (.iload_n 3, 1) := by decide +kernel
theorem d_FF_handler_46 : decode b_FF_handler 46 = .ok (.invokevirtual 67, 3) := by decide +kernel
theorem d_FF_handler_49 : decode b_FF_handler 49 = .ok (.iconst 1, 1) := by decide +kernel
theorem d_FF_handler_50 : decode b_FF_handler 50 = .ok (.ireturn, 1) := by decide +kernel
def f_FF_handler (hn : Nat) (fr : Nat → Int32) (to : Nat → Int32) (tg : Nat → Int32) (u : Int32) (v : Int32) (w : Int32) : Int32 × Nat × (Nat → Int32) × (Nat → Int32) × (Nat → Int32) := (if f_FF_isPlace u = 0 then (0, hn, fr, to, tg) else (if f_FF_isPlace v = 0 then (0, hn, fr, to, tg) else (if f_FF_isPlace w = 0 then (0, hn, fr, to, tg) else (if v ≤ u then (0, hn, fr, to, tg) else (if hn = 3 then (0, hn, fr, to, tg) else (1, hn + 1, upd fr hn u, upd to hn v, upd tg hn w))))))
set_option maxHeartbeats 1000000 in
set_option maxRecDepth 100000 in
theorem c_FF_handler (l : Launch) (D : va_G) (cI cZ : ClassId) (k : Nat) (x we ma q_st : Nat) (oc oc_ops oc_opd oc_fr oc_to oc_tg n hn : Nat) (fr to tg : Nat → Int32) (u v w : Int32) (h3 : hn ≤ 3) : MG l y_FF_handler w_FF_handler (rmK 1 23) D classes (tyz cI cZ) E0 [.ref x, .int u, .int v, .int w] [(x, .inr (0, [.ref oc, .ref k, .ref we, .ref ma, .ref q_st])), (oc, .inr (1, [.ref oc_ops, .ref oc_opd, .ref oc_fr, .ref oc_to, .ref oc_tg, .int (nI n), .int (nI hn)])), (oc_fr, .inl (cI, 3, .inl fr)), (oc_to, .inl (cI, 3, .inl to)), (oc_tg, .inl (cI, 3, .inl tg))] (RI D classes (tyz cI cZ) ((f_FF_handler hn fr to tg u v w).1) [(x, .inr (0, [.ref oc, .ref k, .ref we, .ref ma, .ref q_st])), (oc, .inr (1, [.ref oc_ops, .ref oc_opd, .ref oc_fr, .ref oc_to, .ref oc_tg, .int (nI n), .int (nI ((f_FF_handler hn fr to tg u v w).2.1))])), (oc_fr, .inl (cI, 3, .inl ((f_FF_handler hn fr to tg u v w).2.2.1))), (oc_to, .inl (cI, 3, .inl ((f_FF_handler hn fr to tg u v w).2.2.2.1))), (oc_tg, .inl (cI, 3, .inl ((f_FF_handler hn fr to tg u v w).2.2.2.2)))]) := by
  refine MG.of (cc := b_FF_handler) (maxL := 4) (ret := (some .boolean)) (own := "FlowFlattener") rfl (by decide) rfl (Nat.le_of_ble_eq_true rfl) ?_
  intro p e s m below meth c A ls S hr hlocks hA hP hK hD hS hE hl
  have hx := S.1
  have hb := S.2.1
  have hl : lv_has ls 4 [(0, .ref x), (1, .int u), (2, .int v), (3, .int w)] := hl
  refine lv_iload_n hx hb d_FF_handler_0 rfl (lv_at hl 1 rfl) ?_
  refine k_goi (ws' := [(x, .inr (0, [.ref oc, .ref k, .ref we, .ref ma, .ref q_st])), (oc, .inr (1, [.ref oc_ops, .ref oc_opd, .ref oc_fr, .ref oc_to, .ref oc_tg, .int (nI n), .int (nI hn)])), (oc_fr, .inl (cI, 3, .inl fr)), (oc_to, .inl (cI, 3, .inl to)), (oc_tg, .inl (cI, 3, .inl tg))]) (wr := [(x, .inr (0, [.ref oc, .ref k, .ref we, .ref ma, .ref q_st])), (oc, .inr (1, [.ref oc_ops, .ref oc_opd, .ref oc_fr, .ref oc_to, .ref oc_tg, .int (nI n), .int (nI hn)])), (oc_fr, .inl (cI, 3, .inl fr)), (oc_to, .inl (cI, 3, .inl to)), (oc_tg, .inl (cI, 3, .inl tg))]) (k_runS (As := [.int u]) (rest := []) (n := 1) S (c_FF_isPlace l D cI cZ u) E0_b E0_t ql_FF_61 qt_FF_isPlace qn_FF qc_FF_isPlace (by decide +kernel) rfl ⟨rfl, rfl⟩ ⟨Nat.le_of_ble_eq_true rfl, Nat.le_of_ble_eq_true rfl⟩ hK hP hD [] rfl (by decide) hl.1 rfl (Nat.le_of_ble_eq_true rfl) d_FF_handler_1 ⟨Nat.zero_le _, Nat.zero_le _⟩) hP hD hS hA [] [0, 1, 2, 3, 4] [0, 1, 2, 3, 4] rfl rfl (by decide) (by decide) rfl (by decide) (fun H locs hP hD hS => ?_)
  refine lv_if_eq (tgt := 37) hx hb d_FF_handler_4 (by decide) (fun h4_1 => ?_) (fun h4_1 => ?_)
  · skip
    refine lv_iconst (v := 0) hx hb d_FF_handler_37 (by decide) ?_
    exact k_zret hx hb hr hlocks hK hP hD hS (by decide) (by rw [f_FF_handler, if_pos h4_1]) (by rw [f_FF_handler, if_pos h4_1]) d_FF_handler_38
  · skip
    refine lv_iload_n hx hb d_FF_handler_7 rfl (lv_at hl 2 rfl) ?_
    refine k_goi (ws' := [(x, .inr (0, [.ref oc, .ref k, .ref we, .ref ma, .ref q_st])), (oc, .inr (1, [.ref oc_ops, .ref oc_opd, .ref oc_fr, .ref oc_to, .ref oc_tg, .int (nI n), .int (nI hn)])), (oc_fr, .inl (cI, 3, .inl fr)), (oc_to, .inl (cI, 3, .inl to)), (oc_tg, .inl (cI, 3, .inl tg))]) (wr := [(x, .inr (0, [.ref oc, .ref k, .ref we, .ref ma, .ref q_st])), (oc, .inr (1, [.ref oc_ops, .ref oc_opd, .ref oc_fr, .ref oc_to, .ref oc_tg, .int (nI n), .int (nI hn)])), (oc_fr, .inl (cI, 3, .inl fr)), (oc_to, .inl (cI, 3, .inl to)), (oc_tg, .inl (cI, 3, .inl tg))]) (k_runS (As := [.int v]) (rest := []) (n := 1) S (c_FF_isPlace l D cI cZ v) E0_b E0_t ql_FF_61 qt_FF_isPlace qn_FF qc_FF_isPlace (by decide +kernel) rfl ⟨rfl, rfl⟩ ⟨Nat.le_of_ble_eq_true rfl, Nat.le_of_ble_eq_true rfl⟩ hK hP hD [] rfl (by decide) hl.1 rfl (Nat.le_of_ble_eq_true rfl) d_FF_handler_8 ⟨Nat.zero_le _, Nat.zero_le _⟩) hP hD hS hA [] [0, 1, 2, 3, 4] [0, 1, 2, 3, 4] rfl rfl (by decide) (by decide) rfl (by decide) (fun H locs hP hD hS => ?_)
    refine lv_if_eq (tgt := 37) hx hb d_FF_handler_11 (by decide) (fun h11_2 => ?_) (fun h11_2 => ?_)
    · skip
      refine lv_iconst (v := 0) hx hb d_FF_handler_37 (by decide) ?_
      exact k_zret hx hb hr hlocks hK hP hD hS (by decide) (by rw [f_FF_handler, if_neg h4_1, if_pos h11_2]) (by rw [f_FF_handler, if_neg h4_1, if_pos h11_2]) d_FF_handler_38
    · skip
      refine lv_iload_n hx hb d_FF_handler_14 rfl (lv_at hl 3 rfl) ?_
      refine k_goi (ws' := [(x, .inr (0, [.ref oc, .ref k, .ref we, .ref ma, .ref q_st])), (oc, .inr (1, [.ref oc_ops, .ref oc_opd, .ref oc_fr, .ref oc_to, .ref oc_tg, .int (nI n), .int (nI hn)])), (oc_fr, .inl (cI, 3, .inl fr)), (oc_to, .inl (cI, 3, .inl to)), (oc_tg, .inl (cI, 3, .inl tg))]) (wr := [(x, .inr (0, [.ref oc, .ref k, .ref we, .ref ma, .ref q_st])), (oc, .inr (1, [.ref oc_ops, .ref oc_opd, .ref oc_fr, .ref oc_to, .ref oc_tg, .int (nI n), .int (nI hn)])), (oc_fr, .inl (cI, 3, .inl fr)), (oc_to, .inl (cI, 3, .inl to)), (oc_tg, .inl (cI, 3, .inl tg))]) (k_runS (As := [.int w]) (rest := []) (n := 1) S (c_FF_isPlace l D cI cZ w) E0_b E0_t ql_FF_61 qt_FF_isPlace qn_FF qc_FF_isPlace (by decide +kernel) rfl ⟨rfl, rfl⟩ ⟨Nat.le_of_ble_eq_true rfl, Nat.le_of_ble_eq_true rfl⟩ hK hP hD [] rfl (by decide) hl.1 rfl (Nat.le_of_ble_eq_true rfl) d_FF_handler_15 ⟨Nat.zero_le _, Nat.zero_le _⟩) hP hD hS hA [] [0, 1, 2, 3, 4] [0, 1, 2, 3, 4] rfl rfl (by decide) (by decide) rfl (by decide) (fun H locs hP hD hS => ?_)
      refine lv_if_eq (tgt := 37) hx hb d_FF_handler_18 (by decide) (fun h18_3 => ?_) (fun h18_3 => ?_)
      · skip
        refine lv_iconst (v := 0) hx hb d_FF_handler_37 (by decide) ?_
        exact k_zret hx hb hr hlocks hK hP hD hS (by decide) (by rw [f_FF_handler, if_neg h4_1, if_neg h11_2, if_pos h18_3]) (by rw [f_FF_handler, if_neg h4_1, if_neg h11_2, if_pos h18_3]) d_FF_handler_38
      · skip
        refine lv_iload_n hx hb d_FF_handler_21 rfl (lv_at hl 1 rfl) ?_
        refine lv_iload_n hx hb d_FF_handler_22 rfl (lv_at hl 2 rfl) ?_
        refine lv_icmp_ge (tgt := 37) hx hb d_FF_handler_23 (by decide) (fun h23_4 => ?_) (fun h23_4 => ?_)
        · skip
          refine lv_iconst (v := 0) hx hb d_FF_handler_37 (by decide) ?_
          exact k_zret hx hb hr hlocks hK hP hD hS (by decide) (by rw [f_FF_handler, if_neg h4_1, if_neg h11_2, if_neg h18_3, if_pos h23_4]) (by rw [f_FF_handler, if_neg h4_1, if_neg h11_2, if_neg h18_3, if_pos h23_4]) d_FF_handler_38
        · skip
          refine lv_aload_n hx hb d_FF_handler_26 rfl (lv_at hl 0 rfl) ?_
          refine k_get (v := .ref oc) S in_FF hK hP 0 rfl rfl 0 (by decide) ql_FF_14 rfl d_FF_handler_27 ?_
          refine k_get (v := .int (nI hn)) S in_CO hK hP 1 rfl rfl 6 (by decide) ql_FF_64 rfl d_FF_handler_30 ?_
          refine lv_iconst (v := 3) hx hb d_FF_handler_33 (by decide) ?_
          refine n_icmp_ne (tgt := 39) (x := hn) (y := 3) hx hb rfl (by decide) (by omega) (by omega) d_FF_handler_34 (by decide) (fun h34_5 => ?_) (fun h34_5 => ?_)
          · skip
            refine lv_aload_n hx hb d_FF_handler_39 rfl (lv_at hl 0 rfl) ?_
            refine k_get (v := .ref oc) S in_FF hK hP 0 rfl rfl 0 (by decide) ql_FF_14 rfl d_FF_handler_40 ?_
            refine lv_iload_n hx hb d_FF_handler_43 rfl (lv_at hl 1 rfl) ?_
            refine lv_iload_n hx hb d_FF_handler_44 rfl (lv_at hl 2 rfl) ?_
            refine lv_iload_n hx hb d_FF_handler_45 rfl (lv_at hl 3 rfl) ?_
            refine k_gov (ws' := [(x, .inr (0, [.ref oc, .ref k, .ref we, .ref ma, .ref q_st])), (oc, .inr (1, [.ref oc_ops, .ref oc_opd, .ref oc_fr, .ref oc_to, .ref oc_tg, .int (nI n), .int (nI (hn + 1))])), (oc_fr, .inl (cI, 3, .inl (upd fr hn u))), (oc_to, .inl (cI, 3, .inl (upd to hn v))), (oc_tg, .inl (cI, 3, .inl (upd tg hn w)))]) (wr := [(x, .inr (0, [.ref oc, .ref k, .ref we, .ref ma, .ref q_st]))]) (k_runV (q0 := 1) (As := [.int u, .int v, .int w]) (rest := []) (n := 3) S (c_CO_appendHandler l D cI cZ oc oc_ops oc_opd oc_fr oc_to oc_tg n hn 3 fr to tg u v w (by omega) (by omega)) E0_b E0_t ql_FF_67 qi_CO_appendHandler qs_CO_appendHandler qn_CO qc_CO_appendHandler (by decide +kernel) rfl ⟨rfl, rfl⟩ ⟨Nat.le_of_ble_eq_true rfl, Nat.le_of_ble_eq_true rfl⟩ hK hP hD [1, 2, 3, 4] rfl (by decide) rfl rfl hl.1 rfl (Nat.le_of_ble_eq_true rfl) d_FF_handler_46 ⟨Nat.zero_le _, Nat.zero_le _⟩) hP hD hS hA [1, 2, 3, 4] [0] [0, 1, 2, 3, 4] rfl rfl (by decide) (by decide) rfl (by decide) (fun H locs hP hD hS => ?_)
            refine lv_iconst (v := 1) hx hb d_FF_handler_49 (by decide) ?_
            exact k_zret hx hb hr hlocks hK hP hD hS (by decide) (by rw [f_FF_handler, if_neg h4_1, if_neg h11_2, if_neg h18_3, if_neg h23_4, if_neg h34_5]) (by rw [f_FF_handler, if_neg h4_1, if_neg h11_2, if_neg h18_3, if_neg h23_4, if_neg h34_5]) d_FF_handler_50
          · skip
            refine lv_iconst (v := 0) hx hb d_FF_handler_37 (by decide) ?_
            exact k_zret hx hb hr hlocks hK hP hD hS (by decide) (by rw [f_FF_handler, if_neg h4_1, if_neg h11_2, if_neg h18_3, if_neg h23_4, if_pos h34_5]) (by rw [f_FF_handler, if_neg h4_1, if_neg h11_2, if_neg h18_3, if_neg h23_4, if_pos h34_5]) d_FF_handler_38

theorem d_FF_check_0 : decode b_FF_check 0 = .ok (.aload_n 0, 1) := by decide +kernel
theorem d_FF_check_1 : decode b_FF_check 1 = .ok (.getfield 14, 3) := by decide +kernel
theorem d_FF_check_4 : decode b_FF_check 4 = .ok (.getfield 46, 3) := by decide +kernel
theorem d_FF_check_7 : decode b_FF_check 7 = .ok (.ifCond .ne 7, 3) := by decide +kernel
theorem d_FF_check_10 : decode b_FF_check 10 = .ok (.iconst (-1), 1) := by decide +kernel
theorem d_FF_check_11 : decode b_FF_check 11 = .ok (.goto 16, 3) := by decide +kernel
theorem d_FF_check_14 : decode b_FF_check 14 = .ok (.iconst 1, 1) := by decide +kernel
theorem d_FF_check_15 : decode b_FF_check 15 = .ok (.aload_n 0, 1) := by decide +kernel
theorem d_FF_check_16 : decode b_FF_check 16 = .ok (.getfield 21, 3) := by decide +kernel
theorem d_FF_check_19 : decode b_FF_check 19 = .ok (.aload_n 0, 1) := by decide +kernel
theorem d_FF_check_20 : decode b_FF_check 20 = .ok (.getfield 14, 3) := by decide +kernel
theorem d_FF_check_23 : decode b_FF_check 23 = .ok (.invokevirtual 71, 3) := by decide +kernel
theorem d_FF_check_26 : decode b_FF_check 26 = .ok (.iadd, 1) := by decide +kernel
theorem d_FF_check_27 : decode b_FF_check 27 = .ok (.ireturn, 1) := by decide +kernel
def f_FF_check (n : Nat) (hn : Nat) (f : Nat → Int32) (g : Nat → Int32) (fr : Nat → Int32) (to : Nat → Int32) (tg : Nat → Int32) (d : Nat → Int32) (ov : Nat → Int32) : Int32 × (Nat → Int32) × (Nat → Int32) := (if 0 < n then (1 + ((f_CH_firstWrong n hn f g fr to tg d ov).1), (f_CH_firstWrong n hn f g fr to tg d ov).2.1, (f_CH_firstWrong n hn f g fr to tg d ov).2.2) else ((-1), d, ov))
set_option maxHeartbeats 1000000 in
set_option maxRecDepth 100000 in
theorem c_FF_check (l : Launch) (D : va_G) (cI cZ : ClassId) (x we ma q_st : Nat) (tt tp k k_d k_o : Nat) (oc oc_ops oc_opd oc_fr oc_to oc_tg n hn : Nat) (f g fr to tg d ov : Nat → Int32) (hh : n ≤ 32) (h3 : hn ≤ 3) (ho : ∀ i, i < n → f i = nI (tn (f i)) ∧ tn (f i) < 18) (hj : ∀ i, i < n → ¬ f_FF_jumps (f i) = 0 → g i = nI (tn (g i)) ∧ tn (g i) < 32) (hg : ∀ h, h < hn → tg h = nI (tn (tg h)) ∧ tn (tg h) ≤ 32) : MG l y_FF_check w_FF_check (rmK 5 116) D classes (tyz cI cZ) (EN tt tp) [.ref x] [(x, .inr (0, [.ref oc, .ref k, .ref we, .ref ma, .ref q_st])), (k, .inr (2, [.ref k_d, .ref k_o])), (k_d, .inl (cI, 32, .inl d)), (k_o, .inl (cZ, 32, .inl ov)), (oc, .inr (1, [.ref oc_ops, .ref oc_opd, .ref oc_fr, .ref oc_to, .ref oc_tg, .int (nI n), .int (nI hn)])), (oc_ops, .inl (cI, 32, .inl f)), (oc_opd, .inl (cI, 32, .inl g)), (oc_fr, .inl (cI, 3, .inl fr)), (oc_to, .inl (cI, 3, .inl to)), (oc_tg, .inl (cI, 3, .inl tg))] (RI D classes (tyz cI cZ) ((f_FF_check n hn f g fr to tg d ov).1) [(x, .inr (0, [.ref oc, .ref k, .ref we, .ref ma, .ref q_st])), (k, .inr (2, [.ref k_d, .ref k_o])), (k_d, .inl (cI, 32, .inl ((f_FF_check n hn f g fr to tg d ov).2.1))), (k_o, .inl (cZ, 32, .inl ((f_FF_check n hn f g fr to tg d ov).2.2))), (oc, .inr (1, [.ref oc_ops, .ref oc_opd, .ref oc_fr, .ref oc_to, .ref oc_tg, .int (nI n), .int (nI hn)])), (oc_ops, .inl (cI, 32, .inl f)), (oc_opd, .inl (cI, 32, .inl g)), (oc_fr, .inl (cI, 3, .inl fr)), (oc_to, .inl (cI, 3, .inl to)), (oc_tg, .inl (cI, 3, .inl tg))]) := by
  refine MG.of (cc := b_FF_check) (maxL := 1) (ret := (some .int)) (own := "FlowFlattener") rfl (by decide) rfl (Nat.le_of_ble_eq_true rfl) ?_
  intro p e s m below meth c A ls S hr hlocks hA hP hK hD hS hE hl
  have hx := S.1
  have hb := S.2.1
  have hl : lv_has ls 1 [(0, .ref x)] := hl
  refine lv_aload_n hx hb d_FF_check_0 rfl (lv_at hl 0 rfl) ?_
  refine k_get (v := .ref oc) S in_FF hK hP 0 rfl rfl 0 (by decide) ql_FF_14 rfl d_FF_check_1 ?_
  refine k_get (v := .int (nI n)) S in_CO hK hP 4 rfl rfl 5 (by decide) ql_FF_46 rfl d_FF_check_4 ?_
  refine n_if_ne (tgt := 14) hx hb (by omega) d_FF_check_7 (by decide) (fun h7_1 => ?_) (fun h7_1 => ?_)
  · skip
    refine lv_iconst (v := 1) hx hb d_FF_check_14 (by decide) ?_
    refine lv_aload_n hx hb d_FF_check_15 rfl (lv_at hl 0 rfl) ?_
    refine k_get (v := .ref k) S in_FF hK hP 0 rfl rfl 1 (by decide) ql_FF_21 rfl d_FF_check_16 ?_
    refine lv_aload_n hx hb d_FF_check_19 rfl (lv_at hl 0 rfl) ?_
    refine k_get (v := .ref oc) S in_FF hK hP 0 rfl rfl 0 (by decide) ql_FF_14 rfl d_FF_check_20 ?_
    refine k_goi (ws' := [(x, .inr (0, [.ref oc, .ref k, .ref we, .ref ma, .ref q_st])), (k, .inr (2, [.ref k_d, .ref k_o])), (k_d, .inl (cI, 32, .inl ((f_CH_firstWrong n hn f g fr to tg d ov).2.1))), (k_o, .inl (cZ, 32, .inl ((f_CH_firstWrong n hn f g fr to tg d ov).2.2))), (oc, .inr (1, [.ref oc_ops, .ref oc_opd, .ref oc_fr, .ref oc_to, .ref oc_tg, .int (nI n), .int (nI hn)])), (oc_ops, .inl (cI, 32, .inl f)), (oc_opd, .inl (cI, 32, .inl g)), (oc_fr, .inl (cI, 3, .inl fr)), (oc_to, .inl (cI, 3, .inl to)), (oc_tg, .inl (cI, 3, .inl tg))]) (wr := [(x, .inr (0, [.ref oc, .ref k, .ref we, .ref ma, .ref q_st]))]) (k_runV (q0 := 1) (As := [.ref oc]) (rest := [.int 1]) (n := 1) S (c_CH_firstWrong l D cI cZ tt tp k k_d k_o oc oc_ops oc_opd oc_fr oc_to oc_tg n hn f g fr to tg d ov hh h3 ho hj hg) EN_b (EN_t hE hS (va_free (wc := [(k, .inr (2, [.ref k_d, .ref k_o])), (k_d, .inl (cI, 32, .inl d)), (k_o, .inl (cZ, 32, .inl ov)), (oc, .inr (1, [.ref oc_ops, .ref oc_opd, .ref oc_fr, .ref oc_to, .ref oc_tg, .int (nI n), .int (nI hn)])), (oc_ops, .inl (cI, 32, .inl f)), (oc_opd, .inl (cI, 32, .inl g)), (oc_fr, .inl (cI, 3, .inl fr)), (oc_to, .inl (cI, 3, .inl to)), (oc_tg, .inl (cI, 3, .inl tg))]) hD hS hA [1, 2, 3, 4, 5, 6, 7, 8, 9] rfl)) ql_FF_71 qi_CH_firstWrong qs_CH_firstWrong qn_CH qc_CH_firstWrong (by decide +kernel) rfl ⟨rfl, rfl⟩ ⟨Nat.le_of_ble_eq_true rfl, Nat.le_of_ble_eq_true rfl⟩ hK hP hD [1, 2, 3, 4, 5, 6, 7, 8, 9] rfl (by decide) rfl rfl hl.1 rfl (Nat.le_of_ble_eq_true rfl) d_FF_check_23 ⟨Nat.zero_le _, Nat.zero_le _⟩) hP hD hS hA [1, 2, 3, 4, 5, 6, 7, 8, 9] [0] [0, 1, 2, 3, 4, 5, 6, 7, 8, 9] rfl rfl (by decide) (by decide) rfl (by decide) (fun H locs hP hD hS => ?_)
    refine lv_iadd hx hb d_FF_check_26 ?_
    exact k_iret hx hb hr hlocks hK hP hD hS (by rw [f_FF_check, if_pos h7_1]) (by rw [f_FF_check, if_pos h7_1]) d_FF_check_27
  · skip
    refine lv_iconst (v := (-1)) hx hb d_FF_check_10 (by decide) ?_
    refine lv_goto (tgt := 27) hx hb d_FF_check_11 (by decide) ?_
    exact k_iret hx hb hr hlocks hK hP hD hS (by rw [f_FF_check, if_neg (show ¬ (0 < n) by omega)]) (by rw [f_FF_check, if_neg (show ¬ (0 < n) by omega)]) d_FF_check_27

theorem d_FF_originalIsFine_0 : decode b_FF_originalIsFine 0 = .ok (.aload_n 0, 1) := by decide +kernel
theorem d_FF_originalIsFine_1 : decode b_FF_originalIsFine 1 = .ok (.getfield 14, 3) := by decide +kernel
theorem d_FF_originalIsFine_4 : decode b_FF_originalIsFine 4 = .ok (.getfield 46, 3) := by decide +kernel
theorem d_FF_originalIsFine_7 : decode b_FF_originalIsFine 7 = .ok (.ifCond .le 22, 3) := by decide +kernel
theorem d_FF_originalIsFine_10 : decode b_FF_originalIsFine 10 = .ok (.aload_n 0, 1) := by decide +kernel
theorem d_FF_originalIsFine_11 : decode b_FF_originalIsFine 11 = .ok (.getfield 21, 3) := by decide +kernel
theorem d_FF_originalIsFine_14 : decode b_FF_originalIsFine 14 = .ok (.aload_n 0, 1) := by decide +kernel
theorem d_FF_originalIsFine_15 : decode b_FF_originalIsFine 15 = .ok (.getfield 14, 3) := by decide +kernel
theorem d_FF_originalIsFine_18 : decode b_FF_originalIsFine 18 = .ok (.invokevirtual 71, 3) := by decide +kernel
theorem d_FF_originalIsFine_21 : decode b_FF_originalIsFine 21 = .ok (.iconst (-1), 1) := by decide +kernel
theorem d_FF_originalIsFine_22 : decode b_FF_originalIsFine 22 = .ok (.if_icmp .ne 7, 3) := by decide +kernel
theorem d_FF_originalIsFine_25 : decode b_FF_originalIsFine 25 = .ok (.iconst 1, 1) := by decide +kernel
theorem d_FF_originalIsFine_26 : decode b_FF_originalIsFine 26 = .ok (.goto 4, 3) := by decide +kernel
theorem d_FF_originalIsFine_29 : decode b_FF_originalIsFine 29 = .ok (.iconst 0, 1) := by decide +kernel
theorem d_FF_originalIsFine_30 : decode b_FF_originalIsFine 30 = .ok (.ireturn, 1) := by decide +kernel
def f_FF_originalIsFine (n : Nat) (hn : Nat) (f : Nat → Int32) (g : Nat → Int32) (fr : Nat → Int32) (to : Nat → Int32) (tg : Nat → Int32) (d : Nat → Int32) (ov : Nat → Int32) : Int32 × (Nat → Int32) × (Nat → Int32) := (if n = 0 then (0, d, ov) else (if (f_CH_firstWrong n hn f g fr to tg d ov).1 = (-1) then (1, (f_CH_firstWrong n hn f g fr to tg d ov).2.1, (f_CH_firstWrong n hn f g fr to tg d ov).2.2) else (0, (f_CH_firstWrong n hn f g fr to tg d ov).2.1, (f_CH_firstWrong n hn f g fr to tg d ov).2.2)))
set_option maxHeartbeats 1000000 in
set_option maxRecDepth 100000 in
theorem c_FF_originalIsFine (l : Launch) (D : va_G) (cI cZ : ClassId) (x we ma q_st : Nat) (tt tp k k_d k_o : Nat) (oc oc_ops oc_opd oc_fr oc_to oc_tg n hn : Nat) (f g fr to tg d ov : Nat → Int32) (hh : n ≤ 32) (h3 : hn ≤ 3) (ho : ∀ i, i < n → f i = nI (tn (f i)) ∧ tn (f i) < 18) (hj : ∀ i, i < n → ¬ f_FF_jumps (f i) = 0 → g i = nI (tn (g i)) ∧ tn (g i) < 32) (hg : ∀ h, h < hn → tg h = nI (tn (tg h)) ∧ tn (tg h) ≤ 32) : MG l y_FF_originalIsFine w_FF_originalIsFine (rmK 5 116) D classes (tyz cI cZ) (EN tt tp) [.ref x] [(x, .inr (0, [.ref oc, .ref k, .ref we, .ref ma, .ref q_st])), (k, .inr (2, [.ref k_d, .ref k_o])), (k_d, .inl (cI, 32, .inl d)), (k_o, .inl (cZ, 32, .inl ov)), (oc, .inr (1, [.ref oc_ops, .ref oc_opd, .ref oc_fr, .ref oc_to, .ref oc_tg, .int (nI n), .int (nI hn)])), (oc_ops, .inl (cI, 32, .inl f)), (oc_opd, .inl (cI, 32, .inl g)), (oc_fr, .inl (cI, 3, .inl fr)), (oc_to, .inl (cI, 3, .inl to)), (oc_tg, .inl (cI, 3, .inl tg))] (RI D classes (tyz cI cZ) ((f_FF_originalIsFine n hn f g fr to tg d ov).1) [(x, .inr (0, [.ref oc, .ref k, .ref we, .ref ma, .ref q_st])), (k, .inr (2, [.ref k_d, .ref k_o])), (k_d, .inl (cI, 32, .inl ((f_FF_originalIsFine n hn f g fr to tg d ov).2.1))), (k_o, .inl (cZ, 32, .inl ((f_FF_originalIsFine n hn f g fr to tg d ov).2.2))), (oc, .inr (1, [.ref oc_ops, .ref oc_opd, .ref oc_fr, .ref oc_to, .ref oc_tg, .int (nI n), .int (nI hn)])), (oc_ops, .inl (cI, 32, .inl f)), (oc_opd, .inl (cI, 32, .inl g)), (oc_fr, .inl (cI, 3, .inl fr)), (oc_to, .inl (cI, 3, .inl to)), (oc_tg, .inl (cI, 3, .inl tg))]) := by
  refine MG.of (cc := b_FF_originalIsFine) (maxL := 1) (ret := (some .boolean)) (own := "FlowFlattener") rfl (by decide) rfl (Nat.le_of_ble_eq_true rfl) ?_
  intro p e s m below meth c A ls S hr hlocks hA hP hK hD hS hE hl
  have hx := S.1
  have hb := S.2.1
  have hl : lv_has ls 1 [(0, .ref x)] := hl
  refine lv_aload_n hx hb d_FF_originalIsFine_0 rfl (lv_at hl 0 rfl) ?_
  refine k_get (v := .ref oc) S in_FF hK hP 0 rfl rfl 0 (by decide) ql_FF_14 rfl d_FF_originalIsFine_1 ?_
  refine k_get (v := .int (nI n)) S in_CO hK hP 4 rfl rfl 5 (by decide) ql_FF_46 rfl d_FF_originalIsFine_4 ?_
  refine n_if_le (tgt := 29) hx hb (by omega) d_FF_originalIsFine_7 (by decide) (fun h7_1 => ?_) (fun h7_1 => ?_)
  · skip
    refine lv_iconst (v := 0) hx hb d_FF_originalIsFine_29 (by decide) ?_
    exact k_zret hx hb hr hlocks hK hP hD hS (by decide) (by rw [f_FF_originalIsFine, if_pos h7_1]) (by rw [f_FF_originalIsFine, if_pos h7_1]) d_FF_originalIsFine_30
  · skip
    refine lv_aload_n hx hb d_FF_originalIsFine_10 rfl (lv_at hl 0 rfl) ?_
    refine k_get (v := .ref k) S in_FF hK hP 0 rfl rfl 1 (by decide) ql_FF_21 rfl d_FF_originalIsFine_11 ?_
    refine lv_aload_n hx hb d_FF_originalIsFine_14 rfl (lv_at hl 0 rfl) ?_
    refine k_get (v := .ref oc) S in_FF hK hP 0 rfl rfl 0 (by decide) ql_FF_14 rfl d_FF_originalIsFine_15 ?_
    refine k_goi (ws' := [(x, .inr (0, [.ref oc, .ref k, .ref we, .ref ma, .ref q_st])), (k, .inr (2, [.ref k_d, .ref k_o])), (k_d, .inl (cI, 32, .inl ((f_CH_firstWrong n hn f g fr to tg d ov).2.1))), (k_o, .inl (cZ, 32, .inl ((f_CH_firstWrong n hn f g fr to tg d ov).2.2))), (oc, .inr (1, [.ref oc_ops, .ref oc_opd, .ref oc_fr, .ref oc_to, .ref oc_tg, .int (nI n), .int (nI hn)])), (oc_ops, .inl (cI, 32, .inl f)), (oc_opd, .inl (cI, 32, .inl g)), (oc_fr, .inl (cI, 3, .inl fr)), (oc_to, .inl (cI, 3, .inl to)), (oc_tg, .inl (cI, 3, .inl tg))]) (wr := [(x, .inr (0, [.ref oc, .ref k, .ref we, .ref ma, .ref q_st]))]) (k_runV (q0 := 1) (As := [.ref oc]) (rest := []) (n := 1) S (c_CH_firstWrong l D cI cZ tt tp k k_d k_o oc oc_ops oc_opd oc_fr oc_to oc_tg n hn f g fr to tg d ov hh h3 ho hj hg) EN_b (EN_t hE hS (va_free (wc := [(k, .inr (2, [.ref k_d, .ref k_o])), (k_d, .inl (cI, 32, .inl d)), (k_o, .inl (cZ, 32, .inl ov)), (oc, .inr (1, [.ref oc_ops, .ref oc_opd, .ref oc_fr, .ref oc_to, .ref oc_tg, .int (nI n), .int (nI hn)])), (oc_ops, .inl (cI, 32, .inl f)), (oc_opd, .inl (cI, 32, .inl g)), (oc_fr, .inl (cI, 3, .inl fr)), (oc_to, .inl (cI, 3, .inl to)), (oc_tg, .inl (cI, 3, .inl tg))]) hD hS hA [1, 2, 3, 4, 5, 6, 7, 8, 9] rfl)) ql_FF_71 qi_CH_firstWrong qs_CH_firstWrong qn_CH qc_CH_firstWrong (by decide +kernel) rfl ⟨rfl, rfl⟩ ⟨Nat.le_of_ble_eq_true rfl, Nat.le_of_ble_eq_true rfl⟩ hK hP hD [1, 2, 3, 4, 5, 6, 7, 8, 9] rfl (by decide) rfl rfl hl.1 rfl (Nat.le_of_ble_eq_true rfl) d_FF_originalIsFine_18 ⟨Nat.zero_le _, Nat.zero_le _⟩) hP hD hS hA [1, 2, 3, 4, 5, 6, 7, 8, 9] [0] [0, 1, 2, 3, 4, 5, 6, 7, 8, 9] rfl rfl (by decide) (by decide) rfl (by decide) (fun H locs hP hD hS => ?_)
    refine lv_iconst (v := (-1)) hx hb d_FF_originalIsFine_21 (by decide) ?_
    refine lv_icmp_ne (tgt := 29) hx hb d_FF_originalIsFine_22 (by decide) (fun h22_2 => ?_) (fun h22_2 => ?_)
    · skip
      refine lv_iconst (v := 0) hx hb d_FF_originalIsFine_29 (by decide) ?_
      exact k_zret hx hb hr hlocks hK hP hD hS (by decide) (by rw [f_FF_originalIsFine, if_neg (show ¬ (n = 0) by omega), if_neg h22_2]) (by rw [f_FF_originalIsFine, if_neg (show ¬ (n = 0) by omega), if_neg h22_2]) d_FF_originalIsFine_30
    · skip
      refine lv_iconst (v := 1) hx hb d_FF_originalIsFine_25 (by decide) ?_
      refine lv_goto (tgt := 30) hx hb d_FF_originalIsFine_26 (by decide) ?_
      exact k_zret hx hb hr hlocks hK hP hD hS (by decide) (by rw [f_FF_originalIsFine, if_neg (show ¬ (n = 0) by omega), if_pos h22_2]) (by rw [f_FF_originalIsFine, if_neg (show ¬ (n = 0) by omega), if_pos h22_2]) d_FF_originalIsFine_30

theorem hasI_n {n : Nat} {x : Int32} (hn : n < 2 ^ 31) (h : ¬ f_CO_hasI n x = 0) : x = nI (tn x) ∧ tn x < n := by
  unfold f_CO_hasI at h
  split at h
  · exact absurd rfl h
  · split at h
    · exact absurd rfl h
    · exact ⟨tn_eq (by assumption), tn_lt (by assumption) hn (by assumption)⟩

theorem d_FF_depth_0 : decode b_FF_depth 0 = .ok (.aload_n 0, 1) := by decide +kernel
theorem d_FF_depth_1 : decode b_FF_depth 1 = .ok (.getfield 14, 3) := by decide +kernel
theorem d_FF_depth_4 : decode b_FF_depth 4 = .ok (.iload_n 1, 1) := by decide +kernel
theorem d_FF_depth_5 : decode b_FF_depth 5 = .ok (.invokevirtual 75, 3) := by decide +kernel
theorem d_FF_depth_8 : decode b_FF_depth 8 = .ok (.ifCond .ne 5, 3) := by decide +kernel
theorem d_FF_depth_11 : decode b_FF_depth 11 = .ok (.iconst (-1), 1) := by decide +kernel
theorem d_FF_depth_12 : decode b_FF_depth 12 = .ok (.ireturn, 1) := by decide +kernel
theorem d_FF_depth_13 : decode b_FF_depth 13 = .ok (.aload_n 0, 1) := by decide +kernel
theorem d_FF_depth_14 : decode b_FF_depth 14 = .ok (.getfield 21, 3) := by decide +kernel
theorem d_FF_depth_17 : decode b_FF_depth 17 = .ok (.aload_n 0, 1) := by decide +kernel
theorem d_FF_depth_18 : decode b_FF_depth 18 = .ok (.getfield 14, 3) := by decide +kernel
theorem d_FF_depth_21 : decode b_FF_depth 21 = .ok (.invokevirtual 71, 3) := by decide +kernel
theorem d_FF_depth_24 : decode b_FF_depth 24 = .ok (.pop, 1) := by decide +kernel
theorem d_FF_depth_25 : decode b_FF_depth 25 = .ok (.aload_n 0, 1) := by decide +kernel
theorem d_FF_depth_26 : decode b_FF_depth 26 = .ok (.getfield 21, 3) := by decide +kernel
theorem d_FF_depth_29 : decode b_FF_depth 29 = .ok (.iload_n 1, 1) := by decide +kernel
theorem d_FF_depth_30 : decode b_FF_depth 30 = .ok (.invokevirtual 78, 3) := by decide +kernel
theorem d_FF_depth_33 : decode b_FF_depth 33 = .ok (.ifCond .eq 15, 3) := by decide +kernel
theorem d_FF_depth_36 : decode b_FF_depth 36 = .ok (.aload_n 0, 1) := by decide +kernel
theorem d_FF_depth_37 : decode b_FF_depth 37 = .ok (.getfield 21, 3) := by decide +kernel
theorem d_FF_depth_40 : decode b_FF_depth 40 = .ok (.getfield 81, 3) := by decide +kernel
theorem d_FF_depth_43 : decode b_FF_depth 43 = .ok (.iload_n 1, 1) := by decide +kernel
theorem d_FF_depth_44 : decode b_FF_depth 44 = .ok (.iaload, 1) := by decide +kernel
theorem d_FF_depth_45 : decode b_FF_depth 45 = .ok (.goto 4, 3) := by decide +kernel
theorem d_FF_depth_48 : decode b_FF_depth 48 = .ok (.iconst (-1), 1) := by decide +kernel
theorem d_FF_depth_49 : decode b_FF_depth 49 = .ok (.ireturn, 1) := by decide +kernel
def f_FF_depth (n : Nat) (hn : Nat) (f : Nat → Int32) (g : Nat → Int32) (fr : Nat → Int32) (to : Nat → Int32) (tg : Nat → Int32) (d : Nat → Int32) (ov : Nat → Int32) (v : Int32) : Int32 × (Nat → Int32) × (Nat → Int32) := (if f_CO_hasI n v = 0 then ((-1), d, ov) else (if f_CH_reached (tn v) ((f_CH_firstWrong n hn f g fr to tg d ov).2.1) = 0 then ((-1), (f_CH_firstWrong n hn f g fr to tg d ov).2.1, (f_CH_firstWrong n hn f g fr to tg d ov).2.2) else (((f_CH_firstWrong n hn f g fr to tg d ov).2.1) (tn v), (f_CH_firstWrong n hn f g fr to tg d ov).2.1, (f_CH_firstWrong n hn f g fr to tg d ov).2.2)))
set_option maxHeartbeats 1000000 in
set_option maxRecDepth 100000 in
theorem c_FF_depth (l : Launch) (D : va_G) (cI cZ : ClassId) (x we ma q_st : Nat) (tt tp k k_d k_o : Nat) (oc oc_ops oc_opd oc_fr oc_to oc_tg n hn : Nat) (f g fr to tg d ov : Nat → Int32) (v : Int32) (hh : n ≤ 32) (h3 : hn ≤ 3) (ho : ∀ i, i < n → f i = nI (tn (f i)) ∧ tn (f i) < 18) (hj : ∀ i, i < n → ¬ f_FF_jumps (f i) = 0 → g i = nI (tn (g i)) ∧ tn (g i) < 32) (hg : ∀ h, h < hn → tg h = nI (tn (tg h)) ∧ tn (tg h) ≤ 32) : MG l y_FF_depth w_FF_depth (rmK 5 116) D classes (tyz cI cZ) (EN tt tp) [.ref x, .int v] [(x, .inr (0, [.ref oc, .ref k, .ref we, .ref ma, .ref q_st])), (k, .inr (2, [.ref k_d, .ref k_o])), (k_d, .inl (cI, 32, .inl d)), (k_o, .inl (cZ, 32, .inl ov)), (oc, .inr (1, [.ref oc_ops, .ref oc_opd, .ref oc_fr, .ref oc_to, .ref oc_tg, .int (nI n), .int (nI hn)])), (oc_ops, .inl (cI, 32, .inl f)), (oc_opd, .inl (cI, 32, .inl g)), (oc_fr, .inl (cI, 3, .inl fr)), (oc_to, .inl (cI, 3, .inl to)), (oc_tg, .inl (cI, 3, .inl tg))] (RI D classes (tyz cI cZ) ((f_FF_depth n hn f g fr to tg d ov v).1) [(x, .inr (0, [.ref oc, .ref k, .ref we, .ref ma, .ref q_st])), (k, .inr (2, [.ref k_d, .ref k_o])), (k_d, .inl (cI, 32, .inl ((f_FF_depth n hn f g fr to tg d ov v).2.1))), (k_o, .inl (cZ, 32, .inl ((f_FF_depth n hn f g fr to tg d ov v).2.2))), (oc, .inr (1, [.ref oc_ops, .ref oc_opd, .ref oc_fr, .ref oc_to, .ref oc_tg, .int (nI n), .int (nI hn)])), (oc_ops, .inl (cI, 32, .inl f)), (oc_opd, .inl (cI, 32, .inl g)), (oc_fr, .inl (cI, 3, .inl fr)), (oc_to, .inl (cI, 3, .inl to)), (oc_tg, .inl (cI, 3, .inl tg))]) := by
  refine MG.of (cc := b_FF_depth) (maxL := 2) (ret := (some .int)) (own := "FlowFlattener") rfl (by decide) rfl (Nat.le_of_ble_eq_true rfl) ?_
  intro p e s m below meth c A ls S hr hlocks hA hP hK hD hS hE hl
  have hx := S.1
  have hb := S.2.1
  have hl : lv_has ls 2 [(0, .ref x), (1, .int v)] := hl
  refine lv_aload_n hx hb d_FF_depth_0 rfl (lv_at hl 0 rfl) ?_
  refine k_get (v := .ref oc) S in_FF hK hP 0 rfl rfl 0 (by decide) ql_FF_14 rfl d_FF_depth_1 ?_
  refine lv_iload_n hx hb d_FF_depth_4 rfl (lv_at hl 1 rfl) ?_
  refine k_goi (ws' := [(x, .inr (0, [.ref oc, .ref k, .ref we, .ref ma, .ref q_st])), (k, .inr (2, [.ref k_d, .ref k_o])), (k_d, .inl (cI, 32, .inl d)), (k_o, .inl (cZ, 32, .inl ov)), (oc, .inr (1, [.ref oc_ops, .ref oc_opd, .ref oc_fr, .ref oc_to, .ref oc_tg, .int (nI n), .int (nI hn)])), (oc_ops, .inl (cI, 32, .inl f)), (oc_opd, .inl (cI, 32, .inl g)), (oc_fr, .inl (cI, 3, .inl fr)), (oc_to, .inl (cI, 3, .inl to)), (oc_tg, .inl (cI, 3, .inl tg))]) (wr := [(x, .inr (0, [.ref oc, .ref k, .ref we, .ref ma, .ref q_st])), (k, .inr (2, [.ref k_d, .ref k_o])), (k_d, .inl (cI, 32, .inl d)), (k_o, .inl (cZ, 32, .inl ov)), (oc_ops, .inl (cI, 32, .inl f)), (oc_opd, .inl (cI, 32, .inl g)), (oc_fr, .inl (cI, 3, .inl fr)), (oc_to, .inl (cI, 3, .inl to)), (oc_tg, .inl (cI, 3, .inl tg))]) (k_runV (q0 := 4) (As := [.int v]) (rest := []) (n := 1) S (c_CO_hasI l D cI cZ oc oc_ops oc_opd oc_fr oc_to oc_tg n hn v) E0_b E0_t ql_FF_75 qi_CO_has qs_CO_has qn_CO qc_CO_has (by decide +kernel) rfl ⟨rfl, rfl⟩ ⟨Nat.le_of_ble_eq_true rfl, Nat.le_of_ble_eq_true rfl⟩ hK hP hD [4] rfl (by decide) rfl rfl hl.1 rfl (Nat.le_of_ble_eq_true rfl) d_FF_depth_5 ⟨Nat.zero_le _, Nat.zero_le _⟩) hP hD hS hA [4] [0, 1, 2, 3, 5, 6, 7, 8, 9] [0, 1, 2, 3, 9, 4, 5, 6, 7, 8] rfl rfl (by decide) (by decide) rfl (by decide) (fun H locs hP hD hS => ?_)
  refine lv_if_ne (tgt := 13) hx hb d_FF_depth_8 (by decide) (fun h8_1 => ?_) (fun h8_1 => ?_)
  · skip
    refine lv_aload_n hx hb d_FF_depth_13 rfl (lv_at hl 0 rfl) ?_
    refine k_get (v := .ref k) S in_FF hK hP 0 rfl rfl 1 (by decide) ql_FF_21 rfl d_FF_depth_14 ?_
    refine lv_aload_n hx hb d_FF_depth_17 rfl (lv_at hl 0 rfl) ?_
    refine k_get (v := .ref oc) S in_FF hK hP 0 rfl rfl 0 (by decide) ql_FF_14 rfl d_FF_depth_18 ?_
    refine k_goi (ws' := [(x, .inr (0, [.ref oc, .ref k, .ref we, .ref ma, .ref q_st])), (k, .inr (2, [.ref k_d, .ref k_o])), (k_d, .inl (cI, 32, .inl ((f_CH_firstWrong n hn f g fr to tg d ov).2.1))), (k_o, .inl (cZ, 32, .inl ((f_CH_firstWrong n hn f g fr to tg d ov).2.2))), (oc, .inr (1, [.ref oc_ops, .ref oc_opd, .ref oc_fr, .ref oc_to, .ref oc_tg, .int (nI n), .int (nI hn)])), (oc_ops, .inl (cI, 32, .inl f)), (oc_opd, .inl (cI, 32, .inl g)), (oc_fr, .inl (cI, 3, .inl fr)), (oc_to, .inl (cI, 3, .inl to)), (oc_tg, .inl (cI, 3, .inl tg))]) (wr := [(x, .inr (0, [.ref oc, .ref k, .ref we, .ref ma, .ref q_st]))]) (k_runV (q0 := 1) (As := [.ref oc]) (rest := []) (n := 1) S (c_CH_firstWrong l D cI cZ tt tp k k_d k_o oc oc_ops oc_opd oc_fr oc_to oc_tg n hn f g fr to tg d ov hh h3 ho hj hg) EN_b (EN_t hE hS (va_free (wc := [(k, .inr (2, [.ref k_d, .ref k_o])), (k_d, .inl (cI, 32, .inl d)), (k_o, .inl (cZ, 32, .inl ov)), (oc, .inr (1, [.ref oc_ops, .ref oc_opd, .ref oc_fr, .ref oc_to, .ref oc_tg, .int (nI n), .int (nI hn)])), (oc_ops, .inl (cI, 32, .inl f)), (oc_opd, .inl (cI, 32, .inl g)), (oc_fr, .inl (cI, 3, .inl fr)), (oc_to, .inl (cI, 3, .inl to)), (oc_tg, .inl (cI, 3, .inl tg))]) hD hS hA [1, 2, 3, 4, 5, 6, 7, 8, 9] rfl)) ql_FF_71 qi_CH_firstWrong qs_CH_firstWrong qn_CH qc_CH_firstWrong (by decide +kernel) rfl ⟨rfl, rfl⟩ ⟨Nat.le_of_ble_eq_true rfl, Nat.le_of_ble_eq_true rfl⟩ hK hP hD [1, 2, 3, 4, 5, 6, 7, 8, 9] rfl (by decide) rfl rfl hl.1 rfl (Nat.le_of_ble_eq_true rfl) d_FF_depth_21 ⟨Nat.zero_le _, Nat.zero_le _⟩) hP hD hS hA [1, 2, 3, 4, 5, 6, 7, 8, 9] [0] [0, 1, 2, 3, 4, 5, 6, 7, 8, 9] rfl rfl (by decide) (by decide) rfl (by decide) (fun H locs hP hD hS => ?_)
    refine lv_pop hx hb d_FF_depth_24 rfl ?_
    refine lv_aload_n hx hb d_FF_depth_25 rfl (lv_at hl 0 rfl) ?_
    refine k_get (v := .ref k) S in_FF hK hP 0 rfl rfl 1 (by decide) ql_FF_21 rfl d_FF_depth_26 ?_
    refine lv_iload_n hx hb d_FF_depth_29 rfl (lv_at hl 1 rfl) ?_
    refine k_top (y := nI (tn v)) (hasI_n (n := n) (x := v) (by omega) (by assumption)).1 ?_
    refine k_goi (ws' := [(x, .inr (0, [.ref oc, .ref k, .ref we, .ref ma, .ref q_st])), (k, .inr (2, [.ref k_d, .ref k_o])), (k_d, .inl (cI, 32, .inl ((f_CH_firstWrong n hn f g fr to tg d ov).2.1))), (k_o, .inl (cZ, 32, .inl ((f_CH_firstWrong n hn f g fr to tg d ov).2.2))), (oc, .inr (1, [.ref oc_ops, .ref oc_opd, .ref oc_fr, .ref oc_to, .ref oc_tg, .int (nI n), .int (nI hn)])), (oc_ops, .inl (cI, 32, .inl f)), (oc_opd, .inl (cI, 32, .inl g)), (oc_fr, .inl (cI, 3, .inl fr)), (oc_to, .inl (cI, 3, .inl to)), (oc_tg, .inl (cI, 3, .inl tg))]) (wr := [(x, .inr (0, [.ref oc, .ref k, .ref we, .ref ma, .ref q_st])), (k_o, .inl (cZ, 32, .inl ((f_CH_firstWrong n hn f g fr to tg d ov).2.2))), (oc, .inr (1, [.ref oc_ops, .ref oc_opd, .ref oc_fr, .ref oc_to, .ref oc_tg, .int (nI n), .int (nI hn)])), (oc_ops, .inl (cI, 32, .inl f)), (oc_opd, .inl (cI, 32, .inl g)), (oc_fr, .inl (cI, 3, .inl fr)), (oc_to, .inl (cI, 3, .inl to)), (oc_tg, .inl (cI, 3, .inl tg))]) (k_runV (q0 := 1) (As := [.int (nI (tn v))]) (rest := []) (n := 1) S (c_CH_reached l D cI cZ k k_d k_o (tn v) ((f_CH_firstWrong n hn f g fr to tg d ov).2.1) (by have := (hasI_n (n := n) (x := v) (by omega) (by assumption)).2; omega)) E0_b E0_t ql_FF_78 qi_CH_reached qs_CH_reached qn_CH qc_CH_reached (by decide +kernel) rfl ⟨rfl, rfl⟩ ⟨Nat.le_of_ble_eq_true rfl, Nat.le_of_ble_eq_true rfl⟩ hK hP hD [1, 2] rfl (by decide) rfl rfl hl.1 rfl (Nat.le_of_ble_eq_true rfl) d_FF_depth_30 ⟨Nat.zero_le _, Nat.zero_le _⟩) hP hD hS hA [1, 2] [0, 3, 4, 5, 6, 7, 8, 9] [0, 8, 9, 1, 2, 3, 4, 5, 6, 7] rfl rfl (by decide) (by decide) rfl (by decide) (fun H locs hP hD hS => ?_)
    refine lv_if_eq (tgt := 48) hx hb d_FF_depth_33 (by decide) (fun h33_2 => ?_) (fun h33_2 => ?_)
    · skip
      refine lv_iconst (v := (-1)) hx hb d_FF_depth_48 (by decide) ?_
      exact k_iret hx hb hr hlocks hK hP hD hS (by rw [f_FF_depth, if_neg h8_1, if_pos h33_2]) (by rw [f_FF_depth, if_neg h8_1, if_pos h33_2]) d_FF_depth_49
    · skip
      refine lv_aload_n hx hb d_FF_depth_36 rfl (lv_at hl 0 rfl) ?_
      refine k_get (v := .ref k) S in_FF hK hP 0 rfl rfl 1 (by decide) ql_FF_21 rfl d_FF_depth_37 ?_
      refine k_get (v := .ref k_d) S in_CH hK hP 1 rfl rfl 0 (by decide) ql_FF_81 rfl d_FF_depth_40 ?_
      refine lv_iload_n hx hb d_FF_depth_43 rfl (lv_at hl 1 rfl) ?_
      refine k_top (y := nI (tn v)) (hasI_n (n := n) (x := v) (by omega) (by assumption)).1 ?_
      refine k_ld (k := tn v) hx hb hK hP 2 0 rfl rfl rfl (by have := (hasI_n (n := n) (x := v) (by omega) (by assumption)).2; omega) (by decide) d_FF_depth_44 ?_
      refine lv_goto (tgt := 49) hx hb d_FF_depth_45 (by decide) ?_
      exact k_iret hx hb hr hlocks hK hP hD hS (by rw [f_FF_depth, if_neg h8_1, if_neg h33_2]) (by rw [f_FF_depth, if_neg h8_1, if_neg h33_2]) d_FF_depth_49
  · skip
    refine lv_iconst (v := (-1)) hx hb d_FF_depth_11 (by decide) ?_
    exact k_iret hx hb hr hlocks hK hP hD hS (by rw [f_FF_depth, if_pos h8_1]) (by rw [f_FF_depth, if_pos h8_1]) d_FF_depth_12

theorem d_FF_chosen_0 : decode b_FF_chosen 0 = .ok (.iload_n 1, 1) := by decide +kernel
theorem d_FF_chosen_1 : decode b_FF_chosen 1 = .ok (.ifCond .eq 13, 3) := by decide +kernel
theorem d_FF_chosen_4 : decode b_FF_chosen 4 = .ok (.aload_n 0, 1) := by decide +kernel
theorem d_FF_chosen_5 : decode b_FF_chosen 5 = .ok (.getfield 28, 3) := by decide +kernel
theorem d_FF_chosen_8 : decode b_FF_chosen 8 = .ok (.getfield 92, 3) := by decide +kernel
theorem d_FF_chosen_11 : decode b_FF_chosen 11 = .ok (.goto 7, 3) := by decide +kernel
theorem d_FF_chosen_14 : decode b_FF_chosen 14 = .ok (.aload_n 0, 1) := by decide +kernel
theorem d_FF_chosen_15 : decode b_FF_chosen 15 = .ok (.getfield 14, 3) := by decide +kernel
theorem d_FF_chosen_18 : decode b_FF_chosen 18 = .ok (.areturn, 1) := by decide +kernel
set_option maxHeartbeats 1000000 in
set_option maxRecDepth 100000 in
theorem c_FF_chosen0 (l : Launch) (D : va_G) (cI cZ : ClassId) (k : Nat) (x we ma q_st : Nat) (oc : Nat) : MG l y_FF_chosen w_FF_chosen (rmK 0 0) D classes (tyz cI cZ) E0 [.ref x, .int 0] [(x, .inr (0, [.ref oc, .ref k, .ref we, .ref ma, .ref q_st]))] (RR D classes (tyz cI cZ) oc [(x, .inr (0, [.ref oc, .ref k, .ref we, .ref ma, .ref q_st]))]) := by
  refine MG.of (cc := b_FF_chosen) (maxL := 2) (ret := (some (.object "FlowFlattener$Code"))) (own := "FlowFlattener") rfl (by decide) rfl (Nat.le_of_ble_eq_true rfl) ?_
  intro p e s m below meth c A ls S hr hlocks hA hP hK hD hS hE hl
  have hx := S.1
  have hb := S.2.1
  have hl : lv_has ls 2 [(0, .ref x), (1, .int 0)] := hl
  refine lv_iload_n hx hb d_FF_chosen_0 rfl (lv_at hl 1 rfl) ?_
  refine lv_if_eq (tgt := 14) hx hb d_FF_chosen_1 (by decide) (fun h1_1 => ?_) (fun h1_1 => absurd h1_1 (by decide))
  refine lv_aload_n hx hb d_FF_chosen_14 rfl (lv_at hl 0 rfl) ?_
  refine k_get (v := .ref oc) S in_FF hK hP 0 rfl rfl 0 (by decide) ql_FF_14 rfl d_FF_chosen_15 ?_
  exact k_aret hx hb hr hlocks hK hP hD hS rfl rfl d_FF_chosen_18

set_option maxHeartbeats 1000000 in
set_option maxRecDepth 100000 in
theorem c_FF_chosen1 (l : Launch) (D : va_G) (cI cZ : ClassId) (k : Nat) (x we ma q_st : Nat) (oc fc bl dw : Nat) : MG l y_FF_chosen w_FF_chosen (rmK 0 0) D classes (tyz cI cZ) E0 [.ref x, .int 1] [(x, .inr (0, [.ref oc, .ref k, .ref we, .ref ma, .ref q_st])), (we, .inr (5, [.ref fc, .ref bl, .ref dw]))] (RR D classes (tyz cI cZ) fc [(x, .inr (0, [.ref oc, .ref k, .ref we, .ref ma, .ref q_st])), (we, .inr (5, [.ref fc, .ref bl, .ref dw]))]) := by
  refine MG.of (cc := b_FF_chosen) (maxL := 2) (ret := (some (.object "FlowFlattener$Code"))) (own := "FlowFlattener") rfl (by decide) rfl (Nat.le_of_ble_eq_true rfl) ?_
  intro p e s m below meth c A ls S hr hlocks hA hP hK hD hS hE hl
  have hx := S.1
  have hb := S.2.1
  have hl : lv_has ls 2 [(0, .ref x), (1, .int 1)] := hl
  refine lv_iload_n hx hb d_FF_chosen_0 rfl (lv_at hl 1 rfl) ?_
  refine lv_if_eq (tgt := 14) hx hb d_FF_chosen_1 (by decide) (fun h1_1 => absurd h1_1 (by decide)) (fun h1_1 => ?_)
  refine lv_aload_n hx hb d_FF_chosen_4 rfl (lv_at hl 0 rfl) ?_
  refine k_get (v := .ref we) S in_FF hK hP 0 rfl rfl 2 (by decide) ql_FF_28 rfl d_FF_chosen_5 ?_
  refine k_get (v := .ref fc) S in_WE hK hP 1 rfl rfl 0 (by decide) ql_FF_92 rfl d_FF_chosen_8 ?_
  refine lv_goto (tgt := 18) hx hb d_FF_chosen_11 (by decide) ?_
  exact k_aret hx hb hr hlocks hK hP hD hS rfl rfl d_FF_chosen_18

theorem d_FF_length_0 : decode b_FF_length 0 = .ok (.aload_n 0, 1) := by decide +kernel
theorem d_FF_length_1 : decode b_FF_length 1 = .ok (.iload_n 1, 1) := by decide +kernel
theorem d_FF_length_2 : decode b_FF_length 2 = .ok (.invokevirtual 95, 3) := by decide +kernel
theorem d_FF_length_5 : decode b_FF_length 5 = .ok (.getfield 46, 3) := by decide +kernel
theorem d_FF_length_8 : decode b_FF_length 8 = .ok (.ireturn, 1) := by decide +kernel
set_option maxHeartbeats 1000000 in
set_option maxRecDepth 100000 in
theorem c_FF_length0 (l : Launch) (D : va_G) (cI cZ : ClassId) (k : Nat) (x we ma q_st : Nat) (oc oc_ops oc_opd oc_fr oc_to oc_tg n hn : Nat) : MG l y_FF_length w_FF_length (rmK 1 21) D classes (tyz cI cZ) E0 [.ref x, .int 0] [(x, .inr (0, [.ref oc, .ref k, .ref we, .ref ma, .ref q_st])), (oc, .inr (1, [.ref oc_ops, .ref oc_opd, .ref oc_fr, .ref oc_to, .ref oc_tg, .int (nI n), .int (nI hn)]))] (RI D classes (tyz cI cZ) (nI n) [(x, .inr (0, [.ref oc, .ref k, .ref we, .ref ma, .ref q_st])), (oc, .inr (1, [.ref oc_ops, .ref oc_opd, .ref oc_fr, .ref oc_to, .ref oc_tg, .int (nI n), .int (nI hn)]))]) := by
  refine MG.of (cc := b_FF_length) (maxL := 2) (ret := (some .int)) (own := "FlowFlattener") rfl (by decide) rfl (Nat.le_of_ble_eq_true rfl) ?_
  intro p e s m below meth c A ls S hr hlocks hA hP hK hD hS hE hl
  have hx := S.1
  have hb := S.2.1
  have hl : lv_has ls 2 [(0, .ref x), (1, .int 0)] := hl
  refine lv_aload_n hx hb d_FF_length_0 rfl (lv_at hl 0 rfl) ?_
  refine lv_iload_n hx hb d_FF_length_1 rfl (lv_at hl 1 rfl) ?_
  refine k_gor (ws' := [(x, .inr (0, [.ref oc, .ref k, .ref we, .ref ma, .ref q_st])), (oc, .inr (1, [.ref oc_ops, .ref oc_opd, .ref oc_fr, .ref oc_to, .ref oc_tg, .int (nI n), .int (nI hn)]))]) (wr := [(oc, .inr (1, [.ref oc_ops, .ref oc_opd, .ref oc_fr, .ref oc_to, .ref oc_tg, .int (nI n), .int (nI hn)]))]) (k_runV (q0 := 0) (As := [.int 0]) (rest := []) (n := 1) S (c_FF_chosen0 l D cI cZ k x we ma q_st oc) E0_b E0_t ql_FF_95 qi_FF_chosen qs_FF_chosen qn_FF qc_FF_chosen (by decide +kernel) rfl ⟨rfl, rfl⟩ ⟨Nat.le_of_ble_eq_true rfl, Nat.le_of_ble_eq_true rfl⟩ hK hP hD [0] rfl (by decide) rfl rfl hl.1 rfl (Nat.le_of_ble_eq_true rfl) d_FF_length_2 ⟨Nat.zero_le _, Nat.zero_le _⟩) hP hD hS hA [0] [1] [1, 0] rfl rfl (by decide) (by decide) rfl (by decide) (fun H locs hP hD hS => ?_)
  refine k_get (v := .int (nI n)) S in_CO hK hP 1 rfl rfl 5 (by decide) ql_FF_46 rfl d_FF_length_5 ?_
  exact k_iret hx hb hr hlocks hK hP hD hS rfl rfl d_FF_length_8

set_option maxHeartbeats 1000000 in
set_option maxRecDepth 100000 in
theorem c_FF_length1 (l : Launch) (D : va_G) (cI cZ : ClassId) (k oc bl dw : Nat) (x we ma q_st : Nat) (fc fc_ops fc_opd fc_fr fc_to fc_tg fn fhn : Nat) : MG l y_FF_length w_FF_length (rmK 1 21) D classes (tyz cI cZ) E0 [.ref x, .int 1] [(x, .inr (0, [.ref oc, .ref k, .ref we, .ref ma, .ref q_st])), (we, .inr (5, [.ref fc, .ref bl, .ref dw])), (fc, .inr (1, [.ref fc_ops, .ref fc_opd, .ref fc_fr, .ref fc_to, .ref fc_tg, .int (nI fn), .int (nI fhn)]))] (RI D classes (tyz cI cZ) (nI fn) [(x, .inr (0, [.ref oc, .ref k, .ref we, .ref ma, .ref q_st])), (we, .inr (5, [.ref fc, .ref bl, .ref dw])), (fc, .inr (1, [.ref fc_ops, .ref fc_opd, .ref fc_fr, .ref fc_to, .ref fc_tg, .int (nI fn), .int (nI fhn)]))]) := by
  refine MG.of (cc := b_FF_length) (maxL := 2) (ret := (some .int)) (own := "FlowFlattener") rfl (by decide) rfl (Nat.le_of_ble_eq_true rfl) ?_
  intro p e s m below meth c A ls S hr hlocks hA hP hK hD hS hE hl
  have hx := S.1
  have hb := S.2.1
  have hl : lv_has ls 2 [(0, .ref x), (1, .int 1)] := hl
  refine lv_aload_n hx hb d_FF_length_0 rfl (lv_at hl 0 rfl) ?_
  refine lv_iload_n hx hb d_FF_length_1 rfl (lv_at hl 1 rfl) ?_
  refine k_gor (ws' := [(x, .inr (0, [.ref oc, .ref k, .ref we, .ref ma, .ref q_st])), (we, .inr (5, [.ref fc, .ref bl, .ref dw])), (fc, .inr (1, [.ref fc_ops, .ref fc_opd, .ref fc_fr, .ref fc_to, .ref fc_tg, .int (nI fn), .int (nI fhn)]))]) (wr := [(fc, .inr (1, [.ref fc_ops, .ref fc_opd, .ref fc_fr, .ref fc_to, .ref fc_tg, .int (nI fn), .int (nI fhn)]))]) (k_runV (q0 := 0) (As := [.int 1]) (rest := []) (n := 1) S (c_FF_chosen1 l D cI cZ k x we ma q_st oc fc bl dw) E0_b E0_t ql_FF_95 qi_FF_chosen qs_FF_chosen qn_FF qc_FF_chosen (by decide +kernel) rfl ⟨rfl, rfl⟩ ⟨Nat.le_of_ble_eq_true rfl, Nat.le_of_ble_eq_true rfl⟩ hK hP hD [0, 1] rfl (by decide) rfl rfl hl.1 rfl (Nat.le_of_ble_eq_true rfl) d_FF_length_2 ⟨Nat.zero_le _, Nat.zero_le _⟩) hP hD hS hA [0, 1] [2] [1, 2, 0] rfl rfl (by decide) (by decide) rfl (by decide) (fun H locs hP hD hS => ?_)
  refine k_get (v := .int (nI fn)) S in_CO hK hP 2 rfl rfl 5 (by decide) ql_FF_46 rfl d_FF_length_5 ?_
  exact k_iret hx hb hr hlocks hK hP hD hS rfl rfl d_FF_length_8

theorem d_FF_operation_0 : decode b_FF_operation 0 = .ok (.aload_n 0, 1) := by decide +kernel
theorem d_FF_operation_1 : decode b_FF_operation 1 = .ok (.iload_n 1, 1) := by decide +kernel
theorem d_FF_operation_2 : decode b_FF_operation 2 = .ok (.invokevirtual 95, 3) := by decide +kernel
theorem d_FF_operation_5 : decode b_FF_operation 5 = .ok (.astore_n 3, 1) := by decide +kernel
theorem d_FF_operation_6 : decode b_FF_operation 6 = .ok (.aload_n 3, 1) := by decide +kernel
theorem d_FF_operation_7 : decode b_FF_operation 7 = .ok (.iload_n 2, 1) := by decide +kernel
theorem d_FF_operation_8 : decode b_FF_operation 8 = .ok (.invokevirtual 75, 3) := by decide +kernel
theorem d_FF_operation_11 : decode b_FF_operation 11 = .ok (.ifCond .eq 12, 3) := by decide +kernel
theorem d_FF_operation_14 : decode b_FF_operation 14 = .ok (.aload_n 3, 1) := by decide +kernel
theorem d_FF_operation_15 : decode b_FF_operation 15 = .ok (.getfield 99, 3) := by decide +kernel
theorem d_FF_operation_18 : decode b_FF_operation 18 = .ok (.iload_n 2, 1) := by decide +kernel
theorem d_FF_operation_19 : decode b_FF_operation 19 = .ok (.iaload, 1) := by decide +kernel
theorem d_FF_operation_20 : decode b_FF_operation 20 = .ok (.goto 4, 3) := by decide +kernel
theorem d_FF_operation_23 : decode b_FF_operation 23 = .ok (.iconst (-1), 1) := by decide +kernel
theorem d_FF_operation_24 : decode b_FF_operation 24 = .ok (.ireturn, 1) := by decide +kernel
def f_FF_operation (n : Nat) (f : Nat → Int32) (v : Int32) : Int32 := (if f_CO_hasI n v = 0 then (-1) else f (tn v))
set_option maxHeartbeats 1000000 in
set_option maxRecDepth 100000 in
theorem c_FF_operation0 (l : Launch) (D : va_G) (cI cZ : ClassId) (k : Nat) (x we ma q_st : Nat) (oc oc_ops oc_opd oc_fr oc_to oc_tg n hn : Nat) (z : Nat) (f : Nat → Int32) (v : Int32) (hz : n ≤ z) (hz2 : z < 2 ^ 31) : MG l y_FF_operation w_FF_operation (rmK 1 21) D classes (tyz cI cZ) E0 [.ref x, .int 0, .int v] [(x, .inr (0, [.ref oc, .ref k, .ref we, .ref ma, .ref q_st])), (oc, .inr (1, [.ref oc_ops, .ref oc_opd, .ref oc_fr, .ref oc_to, .ref oc_tg, .int (nI n), .int (nI hn)])), (oc_ops, .inl (cI, z, .inl f))] (RI D classes (tyz cI cZ) (f_FF_operation n f v) [(x, .inr (0, [.ref oc, .ref k, .ref we, .ref ma, .ref q_st])), (oc, .inr (1, [.ref oc_ops, .ref oc_opd, .ref oc_fr, .ref oc_to, .ref oc_tg, .int (nI n), .int (nI hn)])), (oc_ops, .inl (cI, z, .inl f))]) := by
  refine MG.of (cc := b_FF_operation) (maxL := 4) (ret := (some .int)) (own := "FlowFlattener") rfl (by decide) rfl (Nat.le_of_ble_eq_true rfl) ?_
  intro p e s m below meth c A ls S hr hlocks hA hP hK hD hS hE hl
  have hx := S.1
  have hb := S.2.1
  have hl : lv_has ls 4 [(0, .ref x), (1, .int 0), (2, .int v)] := hl
  refine lv_aload_n hx hb d_FF_operation_0 rfl (lv_at hl 0 rfl) ?_
  refine lv_iload_n hx hb d_FF_operation_1 rfl (lv_at hl 1 rfl) ?_
  refine k_gor (ws' := [(x, .inr (0, [.ref oc, .ref k, .ref we, .ref ma, .ref q_st])), (oc, .inr (1, [.ref oc_ops, .ref oc_opd, .ref oc_fr, .ref oc_to, .ref oc_tg, .int (nI n), .int (nI hn)])), (oc_ops, .inl (cI, z, .inl f))]) (wr := [(oc, .inr (1, [.ref oc_ops, .ref oc_opd, .ref oc_fr, .ref oc_to, .ref oc_tg, .int (nI n), .int (nI hn)])), (oc_ops, .inl (cI, z, .inl f))]) (k_runV (q0 := 0) (As := [.int 0]) (rest := []) (n := 1) S (c_FF_chosen0 l D cI cZ k x we ma q_st oc) E0_b E0_t ql_FF_95 qi_FF_chosen qs_FF_chosen qn_FF qc_FF_chosen (by decide +kernel) rfl ⟨rfl, rfl⟩ ⟨Nat.le_of_ble_eq_true rfl, Nat.le_of_ble_eq_true rfl⟩ hK hP hD [0] rfl (by decide) rfl rfl hl.1 rfl (Nat.le_of_ble_eq_true rfl) d_FF_operation_2 ⟨Nat.zero_le _, Nat.zero_le _⟩) hP hD hS hA [0] [1, 2] [2, 0, 1] rfl rfl (by decide) (by decide) rfl (by decide) (fun H locs hP hD hS => ?_)
  refine lv_astore_n (lv' := [(3, .ref oc), (0, .ref x), (1, .int 0), (2, .int v)]) hx hb d_FF_operation_5 rfl hl (by decide) rfl (fun ls hl => ?_)
  refine lv_aload_n hx hb d_FF_operation_6 rfl (lv_at hl 0 rfl) ?_
  refine lv_iload_n hx hb d_FF_operation_7 rfl (lv_at hl 3 rfl) ?_
  refine k_goi (ws' := [(x, .inr (0, [.ref oc, .ref k, .ref we, .ref ma, .ref q_st])), (oc, .inr (1, [.ref oc_ops, .ref oc_opd, .ref oc_fr, .ref oc_to, .ref oc_tg, .int (nI n), .int (nI hn)])), (oc_ops, .inl (cI, z, .inl f))]) (wr := [(x, .inr (0, [.ref oc, .ref k, .ref we, .ref ma, .ref q_st])), (oc_ops, .inl (cI, z, .inl f))]) (k_runV (q0 := 1) (As := [.int v]) (rest := []) (n := 1) S (c_CO_hasI l D cI cZ oc oc_ops oc_opd oc_fr oc_to oc_tg n hn v) E0_b E0_t ql_FF_75 qi_CO_has qs_CO_has qn_CO qc_CO_has (by decide +kernel) rfl ⟨rfl, rfl⟩ ⟨Nat.le_of_ble_eq_true rfl, Nat.le_of_ble_eq_true rfl⟩ hK hP hD [1] rfl (by decide) rfl rfl hl.1 rfl (Nat.le_of_ble_eq_true rfl) d_FF_operation_8 ⟨Nat.zero_le _, Nat.zero_le _⟩) hP hD hS hA [1] [0, 2] [0, 2, 1] rfl rfl (by decide) (by decide) rfl (by decide) (fun H locs hP hD hS => ?_)
  refine lv_if_eq (tgt := 23) hx hb d_FF_operation_11 (by decide) (fun h11_1 => ?_) (fun h11_1 => ?_)
  · skip
    refine lv_iconst (v := (-1)) hx hb d_FF_operation_23 (by decide) ?_
    exact k_iret hx hb hr hlocks hK hP hD hS (by rw [f_FF_operation, if_pos h11_1]) rfl d_FF_operation_24
  · skip
    refine lv_aload_n hx hb d_FF_operation_14 rfl (lv_at hl 0 rfl) ?_
    refine k_get (v := .ref oc_ops) S in_CO hK hP 1 rfl rfl 0 (by decide) ql_FF_99 rfl d_FF_operation_15 ?_
    refine lv_iload_n hx hb d_FF_operation_18 rfl (lv_at hl 3 rfl) ?_
    refine k_top (y := nI (tn v)) (hasI_n (n := n) (x := v) (by omega) (by assumption)).1 ?_
    refine k_ld (k := tn v) hx hb hK hP 2 0 rfl rfl rfl (by have := (hasI_n (n := n) (x := v) (by omega) (by assumption)).2; omega) (by omega) d_FF_operation_19 ?_
    refine lv_goto (tgt := 24) hx hb d_FF_operation_20 (by decide) ?_
    exact k_iret hx hb hr hlocks hK hP hD hS (by rw [f_FF_operation, if_neg h11_1]) rfl d_FF_operation_24

set_option maxHeartbeats 1000000 in
set_option maxRecDepth 100000 in
theorem c_FF_operation1 (l : Launch) (D : va_G) (cI cZ : ClassId) (k oc bl dw : Nat) (x we ma q_st : Nat) (fc fc_ops fc_opd fc_fr fc_to fc_tg fn fhn : Nat) (z : Nat) (f : Nat → Int32) (v : Int32) (hz : fn ≤ z) (hz2 : z < 2 ^ 31) : MG l y_FF_operation w_FF_operation (rmK 1 21) D classes (tyz cI cZ) E0 [.ref x, .int 1, .int v] [(x, .inr (0, [.ref oc, .ref k, .ref we, .ref ma, .ref q_st])), (we, .inr (5, [.ref fc, .ref bl, .ref dw])), (fc, .inr (1, [.ref fc_ops, .ref fc_opd, .ref fc_fr, .ref fc_to, .ref fc_tg, .int (nI fn), .int (nI fhn)])), (fc_ops, .inl (cI, z, .inl f))] (RI D classes (tyz cI cZ) (f_FF_operation fn f v) [(x, .inr (0, [.ref oc, .ref k, .ref we, .ref ma, .ref q_st])), (we, .inr (5, [.ref fc, .ref bl, .ref dw])), (fc, .inr (1, [.ref fc_ops, .ref fc_opd, .ref fc_fr, .ref fc_to, .ref fc_tg, .int (nI fn), .int (nI fhn)])), (fc_ops, .inl (cI, z, .inl f))]) := by
  refine MG.of (cc := b_FF_operation) (maxL := 4) (ret := (some .int)) (own := "FlowFlattener") rfl (by decide) rfl (Nat.le_of_ble_eq_true rfl) ?_
  intro p e s m below meth c A ls S hr hlocks hA hP hK hD hS hE hl
  have hx := S.1
  have hb := S.2.1
  have hl : lv_has ls 4 [(0, .ref x), (1, .int 1), (2, .int v)] := hl
  refine lv_aload_n hx hb d_FF_operation_0 rfl (lv_at hl 0 rfl) ?_
  refine lv_iload_n hx hb d_FF_operation_1 rfl (lv_at hl 1 rfl) ?_
  refine k_gor (ws' := [(x, .inr (0, [.ref oc, .ref k, .ref we, .ref ma, .ref q_st])), (we, .inr (5, [.ref fc, .ref bl, .ref dw])), (fc, .inr (1, [.ref fc_ops, .ref fc_opd, .ref fc_fr, .ref fc_to, .ref fc_tg, .int (nI fn), .int (nI fhn)])), (fc_ops, .inl (cI, z, .inl f))]) (wr := [(fc, .inr (1, [.ref fc_ops, .ref fc_opd, .ref fc_fr, .ref fc_to, .ref fc_tg, .int (nI fn), .int (nI fhn)])), (fc_ops, .inl (cI, z, .inl f))]) (k_runV (q0 := 0) (As := [.int 1]) (rest := []) (n := 1) S (c_FF_chosen1 l D cI cZ k x we ma q_st oc fc bl dw) E0_b E0_t ql_FF_95 qi_FF_chosen qs_FF_chosen qn_FF qc_FF_chosen (by decide +kernel) rfl ⟨rfl, rfl⟩ ⟨Nat.le_of_ble_eq_true rfl, Nat.le_of_ble_eq_true rfl⟩ hK hP hD [0, 1] rfl (by decide) rfl rfl hl.1 rfl (Nat.le_of_ble_eq_true rfl) d_FF_operation_2 ⟨Nat.zero_le _, Nat.zero_le _⟩) hP hD hS hA [0, 1] [2, 3] [2, 3, 0, 1] rfl rfl (by decide) (by decide) rfl (by decide) (fun H locs hP hD hS => ?_)
  refine lv_astore_n (lv' := [(3, .ref fc), (0, .ref x), (1, .int 1), (2, .int v)]) hx hb d_FF_operation_5 rfl hl (by decide) rfl (fun ls hl => ?_)
  refine lv_aload_n hx hb d_FF_operation_6 rfl (lv_at hl 0 rfl) ?_
  refine lv_iload_n hx hb d_FF_operation_7 rfl (lv_at hl 3 rfl) ?_
  refine k_goi (ws' := [(x, .inr (0, [.ref oc, .ref k, .ref we, .ref ma, .ref q_st])), (we, .inr (5, [.ref fc, .ref bl, .ref dw])), (fc, .inr (1, [.ref fc_ops, .ref fc_opd, .ref fc_fr, .ref fc_to, .ref fc_tg, .int (nI fn), .int (nI fhn)])), (fc_ops, .inl (cI, z, .inl f))]) (wr := [(x, .inr (0, [.ref oc, .ref k, .ref we, .ref ma, .ref q_st])), (we, .inr (5, [.ref fc, .ref bl, .ref dw])), (fc_ops, .inl (cI, z, .inl f))]) (k_runV (q0 := 2) (As := [.int v]) (rest := []) (n := 1) S (c_CO_hasI l D cI cZ fc fc_ops fc_opd fc_fr fc_to fc_tg fn fhn v) E0_b E0_t ql_FF_75 qi_CO_has qs_CO_has qn_CO qc_CO_has (by decide +kernel) rfl ⟨rfl, rfl⟩ ⟨Nat.le_of_ble_eq_true rfl, Nat.le_of_ble_eq_true rfl⟩ hK hP hD [2] rfl (by decide) rfl rfl hl.1 rfl (Nat.le_of_ble_eq_true rfl) d_FF_operation_8 ⟨Nat.zero_le _, Nat.zero_le _⟩) hP hD hS hA [2] [0, 1, 3] [0, 1, 3, 2] rfl rfl (by decide) (by decide) rfl (by decide) (fun H locs hP hD hS => ?_)
  refine lv_if_eq (tgt := 23) hx hb d_FF_operation_11 (by decide) (fun h11_1 => ?_) (fun h11_1 => ?_)
  · skip
    refine lv_iconst (v := (-1)) hx hb d_FF_operation_23 (by decide) ?_
    exact k_iret hx hb hr hlocks hK hP hD hS (by rw [f_FF_operation, if_pos h11_1]) rfl d_FF_operation_24
  · skip
    refine lv_aload_n hx hb d_FF_operation_14 rfl (lv_at hl 0 rfl) ?_
    refine k_get (v := .ref fc_ops) S in_CO hK hP 2 rfl rfl 0 (by decide) ql_FF_99 rfl d_FF_operation_15 ?_
    refine lv_iload_n hx hb d_FF_operation_18 rfl (lv_at hl 3 rfl) ?_
    refine k_top (y := nI (tn v)) (hasI_n (n := fn) (x := v) (by omega) (by assumption)).1 ?_
    refine k_ld (k := tn v) hx hb hK hP 3 0 rfl rfl rfl (by have := (hasI_n (n := fn) (x := v) (by omega) (by assumption)).2; omega) (by omega) d_FF_operation_19 ?_
    refine lv_goto (tgt := 24) hx hb d_FF_operation_20 (by decide) ?_
    exact k_iret hx hb hr hlocks hK hP hD hS (by rw [f_FF_operation, if_neg h11_1]) rfl d_FF_operation_24

theorem d_FF_operand_0 : decode b_FF_operand 0 = .ok (.aload_n 0, 1) := by decide +kernel
theorem d_FF_operand_1 : decode b_FF_operand 1 = .ok (.iload_n 1, 1) := by decide +kernel
theorem d_FF_operand_2 : decode b_FF_operand 2 = .ok (.invokevirtual 95, 3) := by decide +kernel
theorem d_FF_operand_5 : decode b_FF_operand 5 = .ok (.astore_n 3, 1) := by decide +kernel
theorem d_FF_operand_6 : decode b_FF_operand 6 = .ok (.aload_n 3, 1) := by decide +kernel
theorem d_FF_operand_7 : decode b_FF_operand 7 = .ok (.iload_n 2, 1) := by decide +kernel
theorem d_FF_operand_8 : decode b_FF_operand 8 = .ok (.invokevirtual 75, 3) := by decide +kernel
theorem d_FF_operand_11 : decode b_FF_operand 11 = .ok (.ifCond .eq 12, 3) := by decide +kernel
theorem d_FF_operand_14 : decode b_FF_operand 14 = .ok (.aload_n 3, 1) := by decide +kernel
theorem d_FF_operand_15 : decode b_FF_operand 15 = .ok (.getfield 102, 3) := by decide +kernel
theorem d_FF_operand_18 : decode b_FF_operand 18 = .ok (.iload_n 2, 1) := by decide +kernel
theorem d_FF_operand_19 : decode b_FF_operand 19 = .ok (.iaload, 1) := by decide +kernel
theorem d_FF_operand_20 : decode b_FF_operand 20 = .ok (.goto 5, 3) := by decide +kernel
theorem d_FF_operand_23 : decode b_FF_operand 23 = .ok (.ldc 105, 2) := by decide +kernel
theorem d_FF_operand_25 : decode b_FF_operand 25 = .ok (.ireturn, 1) := by decide +kernel
def f_FF_operand (n : Nat) (f : Nat → Int32) (v : Int32) : Int32 := (if f_CO_hasI n v = 0 then (-2147483648) else f (tn v))
set_option maxHeartbeats 1000000 in
set_option maxRecDepth 100000 in
theorem c_FF_operand0 (l : Launch) (D : va_G) (cI cZ : ClassId) (k : Nat) (x we ma q_st : Nat) (oc oc_ops oc_opd oc_fr oc_to oc_tg n hn : Nat) (z : Nat) (f : Nat → Int32) (v : Int32) (hz : n ≤ z) (hz2 : z < 2 ^ 31) : MG l y_FF_operand w_FF_operand (rmK 1 21) D classes (tyz cI cZ) E0 [.ref x, .int 0, .int v] [(x, .inr (0, [.ref oc, .ref k, .ref we, .ref ma, .ref q_st])), (oc, .inr (1, [.ref oc_ops, .ref oc_opd, .ref oc_fr, .ref oc_to, .ref oc_tg, .int (nI n), .int (nI hn)])), (oc_opd, .inl (cI, z, .inl f))] (RI D classes (tyz cI cZ) (f_FF_operand n f v) [(x, .inr (0, [.ref oc, .ref k, .ref we, .ref ma, .ref q_st])), (oc, .inr (1, [.ref oc_ops, .ref oc_opd, .ref oc_fr, .ref oc_to, .ref oc_tg, .int (nI n), .int (nI hn)])), (oc_opd, .inl (cI, z, .inl f))]) := by
  refine MG.of (cc := b_FF_operand) (maxL := 4) (ret := (some .int)) (own := "FlowFlattener") rfl (by decide) rfl (Nat.le_of_ble_eq_true rfl) ?_
  intro p e s m below meth c A ls S hr hlocks hA hP hK hD hS hE hl
  have hx := S.1
  have hb := S.2.1
  have hl : lv_has ls 4 [(0, .ref x), (1, .int 0), (2, .int v)] := hl
  refine lv_aload_n hx hb d_FF_operand_0 rfl (lv_at hl 0 rfl) ?_
  refine lv_iload_n hx hb d_FF_operand_1 rfl (lv_at hl 1 rfl) ?_
  refine k_gor (ws' := [(x, .inr (0, [.ref oc, .ref k, .ref we, .ref ma, .ref q_st])), (oc, .inr (1, [.ref oc_ops, .ref oc_opd, .ref oc_fr, .ref oc_to, .ref oc_tg, .int (nI n), .int (nI hn)])), (oc_opd, .inl (cI, z, .inl f))]) (wr := [(oc, .inr (1, [.ref oc_ops, .ref oc_opd, .ref oc_fr, .ref oc_to, .ref oc_tg, .int (nI n), .int (nI hn)])), (oc_opd, .inl (cI, z, .inl f))]) (k_runV (q0 := 0) (As := [.int 0]) (rest := []) (n := 1) S (c_FF_chosen0 l D cI cZ k x we ma q_st oc) E0_b E0_t ql_FF_95 qi_FF_chosen qs_FF_chosen qn_FF qc_FF_chosen (by decide +kernel) rfl ⟨rfl, rfl⟩ ⟨Nat.le_of_ble_eq_true rfl, Nat.le_of_ble_eq_true rfl⟩ hK hP hD [0] rfl (by decide) rfl rfl hl.1 rfl (Nat.le_of_ble_eq_true rfl) d_FF_operand_2 ⟨Nat.zero_le _, Nat.zero_le _⟩) hP hD hS hA [0] [1, 2] [2, 0, 1] rfl rfl (by decide) (by decide) rfl (by decide) (fun H locs hP hD hS => ?_)
  refine lv_astore_n (lv' := [(3, .ref oc), (0, .ref x), (1, .int 0), (2, .int v)]) hx hb d_FF_operand_5 rfl hl (by decide) rfl (fun ls hl => ?_)
  refine lv_aload_n hx hb d_FF_operand_6 rfl (lv_at hl 0 rfl) ?_
  refine lv_iload_n hx hb d_FF_operand_7 rfl (lv_at hl 3 rfl) ?_
  refine k_goi (ws' := [(x, .inr (0, [.ref oc, .ref k, .ref we, .ref ma, .ref q_st])), (oc, .inr (1, [.ref oc_ops, .ref oc_opd, .ref oc_fr, .ref oc_to, .ref oc_tg, .int (nI n), .int (nI hn)])), (oc_opd, .inl (cI, z, .inl f))]) (wr := [(x, .inr (0, [.ref oc, .ref k, .ref we, .ref ma, .ref q_st])), (oc_opd, .inl (cI, z, .inl f))]) (k_runV (q0 := 1) (As := [.int v]) (rest := []) (n := 1) S (c_CO_hasI l D cI cZ oc oc_ops oc_opd oc_fr oc_to oc_tg n hn v) E0_b E0_t ql_FF_75 qi_CO_has qs_CO_has qn_CO qc_CO_has (by decide +kernel) rfl ⟨rfl, rfl⟩ ⟨Nat.le_of_ble_eq_true rfl, Nat.le_of_ble_eq_true rfl⟩ hK hP hD [1] rfl (by decide) rfl rfl hl.1 rfl (Nat.le_of_ble_eq_true rfl) d_FF_operand_8 ⟨Nat.zero_le _, Nat.zero_le _⟩) hP hD hS hA [1] [0, 2] [0, 2, 1] rfl rfl (by decide) (by decide) rfl (by decide) (fun H locs hP hD hS => ?_)
  refine lv_if_eq (tgt := 23) hx hb d_FF_operand_11 (by decide) (fun h11_1 => ?_) (fun h11_1 => ?_)
  · skip
    refine lv_ldc hx hb S.2.2.2.1 (S.2.2.2.2 _ ql_FF_105) d_FF_operand_23 ?_
    exact k_iret hx hb hr hlocks hK hP hD hS (by rw [f_FF_operand, if_pos h11_1]) rfl d_FF_operand_25
  · skip
    refine lv_aload_n hx hb d_FF_operand_14 rfl (lv_at hl 0 rfl) ?_
    refine k_get (v := .ref oc_opd) S in_CO hK hP 1 rfl rfl 1 (by decide) ql_FF_102 rfl d_FF_operand_15 ?_
    refine lv_iload_n hx hb d_FF_operand_18 rfl (lv_at hl 3 rfl) ?_
    refine k_top (y := nI (tn v)) (hasI_n (n := n) (x := v) (by omega) (by assumption)).1 ?_
    refine k_ld (k := tn v) hx hb hK hP 2 0 rfl rfl rfl (by have := (hasI_n (n := n) (x := v) (by omega) (by assumption)).2; omega) (by omega) d_FF_operand_19 ?_
    refine lv_goto (tgt := 25) hx hb d_FF_operand_20 (by decide) ?_
    exact k_iret hx hb hr hlocks hK hP hD hS (by rw [f_FF_operand, if_neg h11_1]) rfl d_FF_operand_25

set_option maxHeartbeats 1000000 in
set_option maxRecDepth 100000 in
theorem c_FF_operand1 (l : Launch) (D : va_G) (cI cZ : ClassId) (k oc bl dw : Nat) (x we ma q_st : Nat) (fc fc_ops fc_opd fc_fr fc_to fc_tg fn fhn : Nat) (z : Nat) (f : Nat → Int32) (v : Int32) (hz : fn ≤ z) (hz2 : z < 2 ^ 31) : MG l y_FF_operand w_FF_operand (rmK 1 21) D classes (tyz cI cZ) E0 [.ref x, .int 1, .int v] [(x, .inr (0, [.ref oc, .ref k, .ref we, .ref ma, .ref q_st])), (we, .inr (5, [.ref fc, .ref bl, .ref dw])), (fc, .inr (1, [.ref fc_ops, .ref fc_opd, .ref fc_fr, .ref fc_to, .ref fc_tg, .int (nI fn), .int (nI fhn)])), (fc_opd, .inl (cI, z, .inl f))] (RI D classes (tyz cI cZ) (f_FF_operand fn f v) [(x, .inr (0, [.ref oc, .ref k, .ref we, .ref ma, .ref q_st])), (we, .inr (5, [.ref fc, .ref bl, .ref dw])), (fc, .inr (1, [.ref fc_ops, .ref fc_opd, .ref fc_fr, .ref fc_to, .ref fc_tg, .int (nI fn), .int (nI fhn)])), (fc_opd, .inl (cI, z, .inl f))]) := by
  refine MG.of (cc := b_FF_operand) (maxL := 4) (ret := (some .int)) (own := "FlowFlattener") rfl (by decide) rfl (Nat.le_of_ble_eq_true rfl) ?_
  intro p e s m below meth c A ls S hr hlocks hA hP hK hD hS hE hl
  have hx := S.1
  have hb := S.2.1
  have hl : lv_has ls 4 [(0, .ref x), (1, .int 1), (2, .int v)] := hl
  refine lv_aload_n hx hb d_FF_operand_0 rfl (lv_at hl 0 rfl) ?_
  refine lv_iload_n hx hb d_FF_operand_1 rfl (lv_at hl 1 rfl) ?_
  refine k_gor (ws' := [(x, .inr (0, [.ref oc, .ref k, .ref we, .ref ma, .ref q_st])), (we, .inr (5, [.ref fc, .ref bl, .ref dw])), (fc, .inr (1, [.ref fc_ops, .ref fc_opd, .ref fc_fr, .ref fc_to, .ref fc_tg, .int (nI fn), .int (nI fhn)])), (fc_opd, .inl (cI, z, .inl f))]) (wr := [(fc, .inr (1, [.ref fc_ops, .ref fc_opd, .ref fc_fr, .ref fc_to, .ref fc_tg, .int (nI fn), .int (nI fhn)])), (fc_opd, .inl (cI, z, .inl f))]) (k_runV (q0 := 0) (As := [.int 1]) (rest := []) (n := 1) S (c_FF_chosen1 l D cI cZ k x we ma q_st oc fc bl dw) E0_b E0_t ql_FF_95 qi_FF_chosen qs_FF_chosen qn_FF qc_FF_chosen (by decide +kernel) rfl ⟨rfl, rfl⟩ ⟨Nat.le_of_ble_eq_true rfl, Nat.le_of_ble_eq_true rfl⟩ hK hP hD [0, 1] rfl (by decide) rfl rfl hl.1 rfl (Nat.le_of_ble_eq_true rfl) d_FF_operand_2 ⟨Nat.zero_le _, Nat.zero_le _⟩) hP hD hS hA [0, 1] [2, 3] [2, 3, 0, 1] rfl rfl (by decide) (by decide) rfl (by decide) (fun H locs hP hD hS => ?_)
  refine lv_astore_n (lv' := [(3, .ref fc), (0, .ref x), (1, .int 1), (2, .int v)]) hx hb d_FF_operand_5 rfl hl (by decide) rfl (fun ls hl => ?_)
  refine lv_aload_n hx hb d_FF_operand_6 rfl (lv_at hl 0 rfl) ?_
  refine lv_iload_n hx hb d_FF_operand_7 rfl (lv_at hl 3 rfl) ?_
  refine k_goi (ws' := [(x, .inr (0, [.ref oc, .ref k, .ref we, .ref ma, .ref q_st])), (we, .inr (5, [.ref fc, .ref bl, .ref dw])), (fc, .inr (1, [.ref fc_ops, .ref fc_opd, .ref fc_fr, .ref fc_to, .ref fc_tg, .int (nI fn), .int (nI fhn)])), (fc_opd, .inl (cI, z, .inl f))]) (wr := [(x, .inr (0, [.ref oc, .ref k, .ref we, .ref ma, .ref q_st])), (we, .inr (5, [.ref fc, .ref bl, .ref dw])), (fc_opd, .inl (cI, z, .inl f))]) (k_runV (q0 := 2) (As := [.int v]) (rest := []) (n := 1) S (c_CO_hasI l D cI cZ fc fc_ops fc_opd fc_fr fc_to fc_tg fn fhn v) E0_b E0_t ql_FF_75 qi_CO_has qs_CO_has qn_CO qc_CO_has (by decide +kernel) rfl ⟨rfl, rfl⟩ ⟨Nat.le_of_ble_eq_true rfl, Nat.le_of_ble_eq_true rfl⟩ hK hP hD [2] rfl (by decide) rfl rfl hl.1 rfl (Nat.le_of_ble_eq_true rfl) d_FF_operand_8 ⟨Nat.zero_le _, Nat.zero_le _⟩) hP hD hS hA [2] [0, 1, 3] [0, 1, 3, 2] rfl rfl (by decide) (by decide) rfl (by decide) (fun H locs hP hD hS => ?_)
  refine lv_if_eq (tgt := 23) hx hb d_FF_operand_11 (by decide) (fun h11_1 => ?_) (fun h11_1 => ?_)
  · skip
    refine lv_ldc hx hb S.2.2.2.1 (S.2.2.2.2 _ ql_FF_105) d_FF_operand_23 ?_
    exact k_iret hx hb hr hlocks hK hP hD hS (by rw [f_FF_operand, if_pos h11_1]) rfl d_FF_operand_25
  · skip
    refine lv_aload_n hx hb d_FF_operand_14 rfl (lv_at hl 0 rfl) ?_
    refine k_get (v := .ref fc_opd) S in_CO hK hP 2 rfl rfl 1 (by decide) ql_FF_102 rfl d_FF_operand_15 ?_
    refine lv_iload_n hx hb d_FF_operand_18 rfl (lv_at hl 3 rfl) ?_
    refine k_top (y := nI (tn v)) (hasI_n (n := fn) (x := v) (by omega) (by assumption)).1 ?_
    refine k_ld (k := tn v) hx hb hK hP 3 0 rfl rfl rfl (by have := (hasI_n (n := fn) (x := v) (by omega) (by assumption)).2; omega) (by omega) d_FF_operand_19 ?_
    refine lv_goto (tgt := 25) hx hb d_FF_operand_20 (by decide) ?_
    exact k_iret hx hb hr hlocks hK hP hD hS (by rw [f_FF_operand, if_neg h11_1]) rfl d_FF_operand_25

theorem d_FF_handlerAt_0 : decode b_FF_handlerAt 0 = .ok (.aload_n 0, 1) := by decide +kernel
theorem d_FF_handlerAt_1 : decode b_FF_handlerAt 1 = .ok (.iload_n 1, 1) := by decide +kernel
theorem d_FF_handlerAt_2 : decode b_FF_handlerAt 2 = .ok (.invokevirtual 95, 3) := by decide +kernel
theorem d_FF_handlerAt_5 : decode b_FF_handlerAt 5 = .ok (.astore 4, 2) := by decide +kernel
theorem d_FF_handlerAt_7 : decode b_FF_handlerAt 7 = .ok (.iload_n 2, 1) := by decide +kernel
theorem d_FF_handlerAt_8 : decode b_FF_handlerAt 8 = .ok (.ifCond .lt 12, 3) := by decide +kernel
theorem d_FF_handlerAt_11 : decode b_FF_handlerAt 11 = .ok (.iload_n 2, 1) := by decide +kernel
theorem d_FF_handlerAt_12 : decode b_FF_handlerAt 12 = .ok (.aload 4, 2) := by decide +kernel
theorem d_FF_handlerAt_14 : decode b_FF_handlerAt 14 = .ok (.getfield 64, 3) := by decide +kernel
theorem d_FF_handlerAt_17 : decode b_FF_handlerAt 17 = .ok (.if_icmp .lt 5, 3) := by decide +kernel
theorem d_FF_handlerAt_20 : decode b_FF_handlerAt 20 = .ok (.iconst (-1), 1) := by decide +kernel
theorem d_FF_handlerAt_21 : decode b_FF_handlerAt 21 = .ok (.ireturn, 1) := by decide +kernel
theorem d_FF_handlerAt_22 : decode b_FF_handlerAt 22 = .ok (.iload_n 3, 1) := by decide +kernel
theorem d_FF_handlerAt_23 : decode b_FF_handlerAt 23 = .ok (.tableswitch 49 0 2 #[25, 33, 41], 25) := by decide +kernel
theorem d_FF_handlerAt_48 : decode b_FF_handlerAt 48 = .ok (.aload 4, 2) := by decide +kernel
theorem d_FF_handlerAt_50 : decode b_FF_handlerAt 50 = .ok (.getfield 106, 3) := by decide +kernel
theorem d_FF_handlerAt_53 : decode b_FF_handlerAt 53 = .ok (.iload_n 2, 1) := by decide +kernel
theorem d_FF_handlerAt_54 : decode b_FF_handlerAt 54 = .ok (.iaload, 1) := by decide +kernel
theorem d_FF_handlerAt_55 : decode b_FF_handlerAt 55 = .ok (.ireturn, 1) := by decide +kernel
theorem d_FF_handlerAt_56 : decode b_FF_handlerAt 56 = .ok (.aload 4, 2) := by decide +kernel
theorem d_FF_handlerAt_58 : decode b_FF_handlerAt 58 = .ok (.getfield 109, 3) := by decide +kernel
theorem d_FF_handlerAt_61 : decode b_FF_handlerAt 61 = .ok (.iload_n 2, 1) := by decide +kernel
theorem d_FF_handlerAt_62 : decode b_FF_handlerAt 62 = .ok (.iaload, 1) := by decide +kernel
theorem d_FF_handlerAt_63 : decode b_FF_handlerAt 63 = .ok (.ireturn, 1) := by decide +kernel
theorem d_FF_handlerAt_64 : decode b_FF_handlerAt 64 = .ok (.aload 4, 2) := by decide +kernel
theorem d_FF_handlerAt_66 : decode b_FF_handlerAt 66 = .ok (.getfield 112, 3) := by decide +kernel
theorem d_FF_handlerAt_69 : decode b_FF_handlerAt 69 = .ok (.iload_n 2, 1) := by decide +kernel
theorem d_FF_handlerAt_70 : decode b_FF_handlerAt 70 = .ok (.iaload, 1) := by decide +kernel
theorem d_FF_handlerAt_71 : decode b_FF_handlerAt 71 = .ok (.ireturn, 1) := by decide +kernel
theorem d_FF_handlerAt_72 : decode b_FF_handlerAt 72 = .ok (.iconst (-1), 1) := by decide +kernel
theorem d_FF_handlerAt_73 : decode b_FF_handlerAt 73 = .ok (.ireturn, 1) := by decide +kernel
def f_FF_handlerAt0 (hn : Nat) (fr : Nat → Int32) (to : Nat → Int32) (tg : Nat → Int32) (u : Int32) (v : Int32) : Int32 := (if u < 0 then (-1) else (if u < nI hn then (if v = 0 then fr (tn u) else (if v = 1 then to (tn u) else (if v = 2 then tg (tn u) else (-1)))) else (-1)))
set_option maxHeartbeats 1000000 in
set_option maxRecDepth 100000 in
theorem c_FF_handlerAt0 (l : Launch) (D : va_G) (cI cZ : ClassId) (k : Nat) (x we ma q_st : Nat) (oc oc_ops oc_opd oc_fr oc_to oc_tg n hn : Nat) (z : Nat) (fr to tg : Nat → Int32) (u v : Int32) (hz : hn ≤ z) (hz2 : z < 2 ^ 31) : MG l y_FF_handlerAt w_FF_handlerAt (rmK 1 21) D classes (tyz cI cZ) E0 [.ref x, .int 0, .int u, .int v] [(x, .inr (0, [.ref oc, .ref k, .ref we, .ref ma, .ref q_st])), (oc, .inr (1, [.ref oc_ops, .ref oc_opd, .ref oc_fr, .ref oc_to, .ref oc_tg, .int (nI n), .int (nI hn)])), (oc_fr, .inl (cI, z, .inl fr)), (oc_to, .inl (cI, z, .inl to)), (oc_tg, .inl (cI, z, .inl tg))] (RI D classes (tyz cI cZ) (f_FF_handlerAt0 hn fr to tg u v) [(x, .inr (0, [.ref oc, .ref k, .ref we, .ref ma, .ref q_st])), (oc, .inr (1, [.ref oc_ops, .ref oc_opd, .ref oc_fr, .ref oc_to, .ref oc_tg, .int (nI n), .int (nI hn)])), (oc_fr, .inl (cI, z, .inl fr)), (oc_to, .inl (cI, z, .inl to)), (oc_tg, .inl (cI, z, .inl tg))]) := by
  refine MG.of (cc := b_FF_handlerAt) (maxL := 5) (ret := (some .int)) (own := "FlowFlattener") rfl (by decide) rfl (Nat.le_of_ble_eq_true rfl) ?_
  intro p e s m below meth c A ls S hr hlocks hA hP hK hD hS hE hl
  have hx := S.1
  have hb := S.2.1
  have hl : lv_has ls 5 [(0, .ref x), (1, .int 0), (2, .int u), (3, .int v)] := hl
  refine lv_aload_n hx hb d_FF_handlerAt_0 rfl (lv_at hl 0 rfl) ?_
  refine lv_iload_n hx hb d_FF_handlerAt_1 rfl (lv_at hl 1 rfl) ?_
  refine k_gor (ws' := [(x, .inr (0, [.ref oc, .ref k, .ref we, .ref ma, .ref q_st])), (oc, .inr (1, [.ref oc_ops, .ref oc_opd, .ref oc_fr, .ref oc_to, .ref oc_tg, .int (nI n), .int (nI hn)])), (oc_fr, .inl (cI, z, .inl fr)), (oc_to, .inl (cI, z, .inl to)), (oc_tg, .inl (cI, z, .inl tg))]) (wr := [(oc, .inr (1, [.ref oc_ops, .ref oc_opd, .ref oc_fr, .ref oc_to, .ref oc_tg, .int (nI n), .int (nI hn)])), (oc_fr, .inl (cI, z, .inl fr)), (oc_to, .inl (cI, z, .inl to)), (oc_tg, .inl (cI, z, .inl tg))]) (k_runV (q0 := 0) (As := [.int 0]) (rest := []) (n := 1) S (c_FF_chosen0 l D cI cZ k x we ma q_st oc) E0_b E0_t ql_FF_95 qi_FF_chosen qs_FF_chosen qn_FF qc_FF_chosen (by decide +kernel) rfl ⟨rfl, rfl⟩ ⟨Nat.le_of_ble_eq_true rfl, Nat.le_of_ble_eq_true rfl⟩ hK hP hD [0] rfl (by decide) rfl rfl hl.1 rfl (Nat.le_of_ble_eq_true rfl) d_FF_handlerAt_2 ⟨Nat.zero_le _, Nat.zero_le _⟩) hP hD hS hA [0] [1, 2, 3, 4] [4, 0, 1, 2, 3] rfl rfl (by decide) (by decide) rfl (by decide) (fun H locs hP hD hS => ?_)
  refine lv_astore (lv' := [(4, .ref oc), (0, .ref x), (1, .int 0), (2, .int u), (3, .int v)]) hx hb d_FF_handlerAt_5 hl (by decide) rfl (fun ls hl => ?_)
  refine lv_iload_n hx hb d_FF_handlerAt_7 rfl (lv_at hl 3 rfl) ?_
  refine lv_if_lt (tgt := 20) hx hb d_FF_handlerAt_8 (by decide) (fun h8_1 => ?_) (fun h8_1 => ?_)
  · skip
    refine lv_iconst (v := (-1)) hx hb d_FF_handlerAt_20 (by decide) ?_
    exact k_iret hx hb hr hlocks hK hP hD hS (by rw [f_FF_handlerAt0, if_pos h8_1]) rfl d_FF_handlerAt_21
  · skip
    refine lv_iload_n hx hb d_FF_handlerAt_11 rfl (lv_at hl 3 rfl) ?_
    refine lv_aload hx hb d_FF_handlerAt_12 (lv_at hl 0 rfl) ?_
    refine k_get (v := .int (nI hn)) S in_CO hK hP 1 rfl rfl 6 (by decide) ql_FF_64 rfl d_FF_handlerAt_14 ?_
    refine lv_icmp_lt (tgt := 22) hx hb d_FF_handlerAt_17 (by decide) (fun h17_2 => ?_) (fun h17_2 => ?_)
    · skip
      refine lv_iload_n hx hb d_FF_handlerAt_22 rfl (lv_at hl 4 rfl) ?_
      by_cases h23_3 : v = 0
      · skip
        refine k_top h23_3 ?_
        refine lv_tableIn (tgt := 48) hx hb d_FF_handlerAt_23 (by decide) (by decide) rfl (by decide) ?_
        refine lv_aload hx hb d_FF_handlerAt_48 (lv_at hl 0 rfl) ?_
        refine k_get (v := .ref oc_fr) S in_CO hK hP 1 rfl rfl 2 (by decide) ql_FF_106 rfl d_FF_handlerAt_50 ?_
        refine lv_iload_n hx hb d_FF_handlerAt_53 rfl (lv_at hl 3 rfl) ?_
        refine k_top (y := nI (tn u)) (tn_eq (by assumption)) ?_
        refine k_ld (k := tn u) hx hb hK hP 2 0 rfl rfl rfl (by have := tn_lt2 (n := hn) (x := u) (by assumption) (by omega) (by assumption); omega) (by omega) d_FF_handlerAt_54 ?_
        exact k_iret hx hb hr hlocks hK hP hD hS (by rw [f_FF_handlerAt0, if_neg h8_1, if_pos h17_2, if_pos h23_3]) rfl d_FF_handlerAt_55
      by_cases h23_4 : v = 1
      · skip
        refine k_top h23_4 ?_
        refine lv_tableIn (tgt := 56) hx hb d_FF_handlerAt_23 (by decide) (by decide) rfl (by decide) ?_
        refine lv_aload hx hb d_FF_handlerAt_56 (lv_at hl 0 rfl) ?_
        refine k_get (v := .ref oc_to) S in_CO hK hP 1 rfl rfl 3 (by decide) ql_FF_109 rfl d_FF_handlerAt_58 ?_
        refine lv_iload_n hx hb d_FF_handlerAt_61 rfl (lv_at hl 3 rfl) ?_
        refine k_top (y := nI (tn u)) (tn_eq (by assumption)) ?_
        refine k_ld (k := tn u) hx hb hK hP 3 0 rfl rfl rfl (by have := tn_lt2 (n := hn) (x := u) (by assumption) (by omega) (by assumption); omega) (by omega) d_FF_handlerAt_62 ?_
        exact k_iret hx hb hr hlocks hK hP hD hS (by rw [f_FF_handlerAt0, if_neg h8_1, if_pos h17_2, if_neg h23_3, if_pos h23_4]) rfl d_FF_handlerAt_63
      by_cases h23_5 : v = 2
      · skip
        refine k_top h23_5 ?_
        refine lv_tableIn (tgt := 64) hx hb d_FF_handlerAt_23 (by decide) (by decide) rfl (by decide) ?_
        refine lv_aload hx hb d_FF_handlerAt_64 (lv_at hl 0 rfl) ?_
        refine k_get (v := .ref oc_tg) S in_CO hK hP 1 rfl rfl 4 (by decide) ql_FF_112 rfl d_FF_handlerAt_66 ?_
        refine lv_iload_n hx hb d_FF_handlerAt_69 rfl (lv_at hl 3 rfl) ?_
        refine k_top (y := nI (tn u)) (tn_eq (by assumption)) ?_
        refine k_ld (k := tn u) hx hb hK hP 4 0 rfl rfl rfl (by have := tn_lt2 (n := hn) (x := u) (by assumption) (by omega) (by assumption); omega) (by omega) d_FF_handlerAt_70 ?_
        exact k_iret hx hb hr hlocks hK hP hD hS (by rw [f_FF_handlerAt0, if_neg h8_1, if_pos h17_2, if_neg h23_3, if_neg h23_4, if_pos h23_5]) rfl d_FF_handlerAt_71
      refine lv_tableOut (tgt := 72) hx hb d_FF_handlerAt_23 (by have e0 := lv_neT h23_3 (show (0 : Int32).toInt = 0 by decide); have e1 := lv_neT h23_4 (show (1 : Int32).toInt = 1 by decide); have e2 := lv_neT h23_5 (show (2 : Int32).toInt = 2 by decide); omega) (by decide) ?_
      refine lv_iconst (v := (-1)) hx hb d_FF_handlerAt_72 (by decide) ?_
      exact k_iret hx hb hr hlocks hK hP hD hS (by rw [f_FF_handlerAt0, if_neg h8_1, if_pos h17_2, if_neg h23_3, if_neg h23_4, if_neg h23_5]) rfl d_FF_handlerAt_73
    · skip
      refine lv_iconst (v := (-1)) hx hb d_FF_handlerAt_20 (by decide) ?_
      exact k_iret hx hb hr hlocks hK hP hD hS (by rw [f_FF_handlerAt0, if_neg h8_1, if_neg h17_2]) rfl d_FF_handlerAt_21

def f_FF_handlerAt1 (fhn : Nat) (fr : Nat → Int32) (to : Nat → Int32) (tg : Nat → Int32) (u : Int32) (v : Int32) : Int32 := (if u < 0 then (-1) else (if u < nI fhn then (if v = 0 then fr (tn u) else (if v = 1 then to (tn u) else (if v = 2 then tg (tn u) else (-1)))) else (-1)))
set_option maxHeartbeats 1000000 in
set_option maxRecDepth 100000 in
theorem c_FF_handlerAt1 (l : Launch) (D : va_G) (cI cZ : ClassId) (k oc bl dw : Nat) (x we ma q_st : Nat) (fc fc_ops fc_opd fc_fr fc_to fc_tg fn fhn : Nat) (z : Nat) (fr to tg : Nat → Int32) (u v : Int32) (hz : fhn ≤ z) (hz2 : z < 2 ^ 31) : MG l y_FF_handlerAt w_FF_handlerAt (rmK 1 21) D classes (tyz cI cZ) E0 [.ref x, .int 1, .int u, .int v] [(x, .inr (0, [.ref oc, .ref k, .ref we, .ref ma, .ref q_st])), (we, .inr (5, [.ref fc, .ref bl, .ref dw])), (fc, .inr (1, [.ref fc_ops, .ref fc_opd, .ref fc_fr, .ref fc_to, .ref fc_tg, .int (nI fn), .int (nI fhn)])), (fc_fr, .inl (cI, z, .inl fr)), (fc_to, .inl (cI, z, .inl to)), (fc_tg, .inl (cI, z, .inl tg))] (RI D classes (tyz cI cZ) (f_FF_handlerAt1 fhn fr to tg u v) [(x, .inr (0, [.ref oc, .ref k, .ref we, .ref ma, .ref q_st])), (we, .inr (5, [.ref fc, .ref bl, .ref dw])), (fc, .inr (1, [.ref fc_ops, .ref fc_opd, .ref fc_fr, .ref fc_to, .ref fc_tg, .int (nI fn), .int (nI fhn)])), (fc_fr, .inl (cI, z, .inl fr)), (fc_to, .inl (cI, z, .inl to)), (fc_tg, .inl (cI, z, .inl tg))]) := by
  refine MG.of (cc := b_FF_handlerAt) (maxL := 5) (ret := (some .int)) (own := "FlowFlattener") rfl (by decide) rfl (Nat.le_of_ble_eq_true rfl) ?_
  intro p e s m below meth c A ls S hr hlocks hA hP hK hD hS hE hl
  have hx := S.1
  have hb := S.2.1
  have hl : lv_has ls 5 [(0, .ref x), (1, .int 1), (2, .int u), (3, .int v)] := hl
  refine lv_aload_n hx hb d_FF_handlerAt_0 rfl (lv_at hl 0 rfl) ?_
  refine lv_iload_n hx hb d_FF_handlerAt_1 rfl (lv_at hl 1 rfl) ?_
  refine k_gor (ws' := [(x, .inr (0, [.ref oc, .ref k, .ref we, .ref ma, .ref q_st])), (we, .inr (5, [.ref fc, .ref bl, .ref dw])), (fc, .inr (1, [.ref fc_ops, .ref fc_opd, .ref fc_fr, .ref fc_to, .ref fc_tg, .int (nI fn), .int (nI fhn)])), (fc_fr, .inl (cI, z, .inl fr)), (fc_to, .inl (cI, z, .inl to)), (fc_tg, .inl (cI, z, .inl tg))]) (wr := [(fc, .inr (1, [.ref fc_ops, .ref fc_opd, .ref fc_fr, .ref fc_to, .ref fc_tg, .int (nI fn), .int (nI fhn)])), (fc_fr, .inl (cI, z, .inl fr)), (fc_to, .inl (cI, z, .inl to)), (fc_tg, .inl (cI, z, .inl tg))]) (k_runV (q0 := 0) (As := [.int 1]) (rest := []) (n := 1) S (c_FF_chosen1 l D cI cZ k x we ma q_st oc fc bl dw) E0_b E0_t ql_FF_95 qi_FF_chosen qs_FF_chosen qn_FF qc_FF_chosen (by decide +kernel) rfl ⟨rfl, rfl⟩ ⟨Nat.le_of_ble_eq_true rfl, Nat.le_of_ble_eq_true rfl⟩ hK hP hD [0, 1] rfl (by decide) rfl rfl hl.1 rfl (Nat.le_of_ble_eq_true rfl) d_FF_handlerAt_2 ⟨Nat.zero_le _, Nat.zero_le _⟩) hP hD hS hA [0, 1] [2, 3, 4, 5] [4, 5, 0, 1, 2, 3] rfl rfl (by decide) (by decide) rfl (by decide) (fun H locs hP hD hS => ?_)
  refine lv_astore (lv' := [(4, .ref fc), (0, .ref x), (1, .int 1), (2, .int u), (3, .int v)]) hx hb d_FF_handlerAt_5 hl (by decide) rfl (fun ls hl => ?_)
  refine lv_iload_n hx hb d_FF_handlerAt_7 rfl (lv_at hl 3 rfl) ?_
  refine lv_if_lt (tgt := 20) hx hb d_FF_handlerAt_8 (by decide) (fun h8_1 => ?_) (fun h8_1 => ?_)
  · skip
    refine lv_iconst (v := (-1)) hx hb d_FF_handlerAt_20 (by decide) ?_
    exact k_iret hx hb hr hlocks hK hP hD hS (by rw [f_FF_handlerAt1, if_pos h8_1]) rfl d_FF_handlerAt_21
  · skip
    refine lv_iload_n hx hb d_FF_handlerAt_11 rfl (lv_at hl 3 rfl) ?_
    refine lv_aload hx hb d_FF_handlerAt_12 (lv_at hl 0 rfl) ?_
    refine k_get (v := .int (nI fhn)) S in_CO hK hP 2 rfl rfl 6 (by decide) ql_FF_64 rfl d_FF_handlerAt_14 ?_
    refine lv_icmp_lt (tgt := 22) hx hb d_FF_handlerAt_17 (by decide) (fun h17_2 => ?_) (fun h17_2 => ?_)
    · skip
      refine lv_iload_n hx hb d_FF_handlerAt_22 rfl (lv_at hl 4 rfl) ?_
      by_cases h23_3 : v = 0
      · skip
        refine k_top h23_3 ?_
        refine lv_tableIn (tgt := 48) hx hb d_FF_handlerAt_23 (by decide) (by decide) rfl (by decide) ?_
        refine lv_aload hx hb d_FF_handlerAt_48 (lv_at hl 0 rfl) ?_
        refine k_get (v := .ref fc_fr) S in_CO hK hP 2 rfl rfl 2 (by decide) ql_FF_106 rfl d_FF_handlerAt_50 ?_
        refine lv_iload_n hx hb d_FF_handlerAt_53 rfl (lv_at hl 3 rfl) ?_
        refine k_top (y := nI (tn u)) (tn_eq (by assumption)) ?_
        refine k_ld (k := tn u) hx hb hK hP 3 0 rfl rfl rfl (by have := tn_lt2 (n := fhn) (x := u) (by assumption) (by omega) (by assumption); omega) (by omega) d_FF_handlerAt_54 ?_
        exact k_iret hx hb hr hlocks hK hP hD hS (by rw [f_FF_handlerAt1, if_neg h8_1, if_pos h17_2, if_pos h23_3]) rfl d_FF_handlerAt_55
      by_cases h23_4 : v = 1
      · skip
        refine k_top h23_4 ?_
        refine lv_tableIn (tgt := 56) hx hb d_FF_handlerAt_23 (by decide) (by decide) rfl (by decide) ?_
        refine lv_aload hx hb d_FF_handlerAt_56 (lv_at hl 0 rfl) ?_
        refine k_get (v := .ref fc_to) S in_CO hK hP 2 rfl rfl 3 (by decide) ql_FF_109 rfl d_FF_handlerAt_58 ?_
        refine lv_iload_n hx hb d_FF_handlerAt_61 rfl (lv_at hl 3 rfl) ?_
        refine k_top (y := nI (tn u)) (tn_eq (by assumption)) ?_
        refine k_ld (k := tn u) hx hb hK hP 4 0 rfl rfl rfl (by have := tn_lt2 (n := fhn) (x := u) (by assumption) (by omega) (by assumption); omega) (by omega) d_FF_handlerAt_62 ?_
        exact k_iret hx hb hr hlocks hK hP hD hS (by rw [f_FF_handlerAt1, if_neg h8_1, if_pos h17_2, if_neg h23_3, if_pos h23_4]) rfl d_FF_handlerAt_63
      by_cases h23_5 : v = 2
      · skip
        refine k_top h23_5 ?_
        refine lv_tableIn (tgt := 64) hx hb d_FF_handlerAt_23 (by decide) (by decide) rfl (by decide) ?_
        refine lv_aload hx hb d_FF_handlerAt_64 (lv_at hl 0 rfl) ?_
        refine k_get (v := .ref fc_tg) S in_CO hK hP 2 rfl rfl 4 (by decide) ql_FF_112 rfl d_FF_handlerAt_66 ?_
        refine lv_iload_n hx hb d_FF_handlerAt_69 rfl (lv_at hl 3 rfl) ?_
        refine k_top (y := nI (tn u)) (tn_eq (by assumption)) ?_
        refine k_ld (k := tn u) hx hb hK hP 5 0 rfl rfl rfl (by have := tn_lt2 (n := fhn) (x := u) (by assumption) (by omega) (by assumption); omega) (by omega) d_FF_handlerAt_70 ?_
        exact k_iret hx hb hr hlocks hK hP hD hS (by rw [f_FF_handlerAt1, if_neg h8_1, if_pos h17_2, if_neg h23_3, if_neg h23_4, if_pos h23_5]) rfl d_FF_handlerAt_71
      refine lv_tableOut (tgt := 72) hx hb d_FF_handlerAt_23 (by have e0 := lv_neT h23_3 (show (0 : Int32).toInt = 0 by decide); have e1 := lv_neT h23_4 (show (1 : Int32).toInt = 1 by decide); have e2 := lv_neT h23_5 (show (2 : Int32).toInt = 2 by decide); omega) (by decide) ?_
      refine lv_iconst (v := (-1)) hx hb d_FF_handlerAt_72 (by decide) ?_
      exact k_iret hx hb hr hlocks hK hP hD hS (by rw [f_FF_handlerAt1, if_neg h8_1, if_pos h17_2, if_neg h23_3, if_neg h23_4, if_neg h23_5]) rfl d_FF_handlerAt_73
    · skip
      refine lv_iconst (v := (-1)) hx hb d_FF_handlerAt_20 (by decide) ?_
      exact k_iret hx hb hr hlocks hK hP hD hS (by rw [f_FF_handlerAt1, if_neg h8_1, if_neg h17_2]) rfl d_FF_handlerAt_21

theorem d_FF_blocks_0 : decode b_FF_blocks 0 = .ok (.aload_n 0, 1) := by decide +kernel
theorem d_FF_blocks_1 : decode b_FF_blocks 1 = .ok (.getfield 28, 3) := by decide +kernel
theorem d_FF_blocks_4 : decode b_FF_blocks 4 = .ok (.getfield 115, 3) := by decide +kernel
theorem d_FF_blocks_7 : decode b_FF_blocks 7 = .ok (.getfield 119, 3) := by decide +kernel
theorem d_FF_blocks_10 : decode b_FF_blocks 10 = .ok (.ireturn, 1) := by decide +kernel
set_option maxHeartbeats 1000000 in
set_option maxRecDepth 100000 in
theorem c_FF_blocks (l : Launch) (D : va_G) (cI cZ : ClassId) (k oc fc dw bl : Nat) (x we ma q_st : Nat) (bl_le bl_he bl_st bl_fi bl_be bl_by bl_sa bl_mk bc : Nat) : MG l y_FF_blocks w_FF_blocks (rmK 0 0) D classes (tyz cI cZ) E0 [.ref x] [(x, .inr (0, [.ref oc, .ref k, .ref we, .ref ma, .ref q_st])), (we, .inr (5, [.ref fc, .ref bl, .ref dw])), (bl, .inr (4, [.ref bl_le, .ref bl_he, .ref bl_st, .ref bl_fi, .ref bl_be, .ref bl_by, .ref bl_sa, .ref bl_mk, .int (nI bc)]))] (RI D classes (tyz cI cZ) (nI bc) [(x, .inr (0, [.ref oc, .ref k, .ref we, .ref ma, .ref q_st])), (we, .inr (5, [.ref fc, .ref bl, .ref dw])), (bl, .inr (4, [.ref bl_le, .ref bl_he, .ref bl_st, .ref bl_fi, .ref bl_be, .ref bl_by, .ref bl_sa, .ref bl_mk, .int (nI bc)]))]) := by
  refine MG.of (cc := b_FF_blocks) (maxL := 1) (ret := (some .int)) (own := "FlowFlattener") rfl (by decide) rfl (Nat.le_of_ble_eq_true rfl) ?_
  intro p e s m below meth c A ls S hr hlocks hA hP hK hD hS hE hl
  have hx := S.1
  have hb := S.2.1
  have hl : lv_has ls 1 [(0, .ref x)] := hl
  refine lv_aload_n hx hb d_FF_blocks_0 rfl (lv_at hl 0 rfl) ?_
  refine k_get (v := .ref we) S in_FF hK hP 0 rfl rfl 2 (by decide) ql_FF_28 rfl d_FF_blocks_1 ?_
  refine k_get (v := .ref bl) S in_WE hK hP 1 rfl rfl 1 (by decide) ql_FF_115 rfl d_FF_blocks_4 ?_
  refine k_get (v := .int (nI bc)) S in_BL hK hP 2 rfl rfl 8 (by decide) ql_FF_119 rfl d_FF_blocks_7 ?_
  exact k_iret hx hb hr hlocks hK hP hD hS rfl rfl d_FF_blocks_10

theorem d_FF_block_0 : decode b_FF_block 0 = .ok (.aload_n 0, 1) := by decide +kernel
theorem d_FF_block_1 : decode b_FF_block 1 = .ok (.getfield 28, 3) := by decide +kernel
theorem d_FF_block_4 : decode b_FF_block 4 = .ok (.getfield 115, 3) := by decide +kernel
theorem d_FF_block_7 : decode b_FF_block 7 = .ok (.astore_n 3, 1) := by decide +kernel
theorem d_FF_block_8 : decode b_FF_block 8 = .ok (.iload_n 1, 1) := by decide +kernel
theorem d_FF_block_9 : decode b_FF_block 9 = .ok (.ifCond .lt 11, 3) := by decide +kernel
theorem d_FF_block_12 : decode b_FF_block 12 = .ok (.iload_n 1, 1) := by decide +kernel
theorem d_FF_block_13 : decode b_FF_block 13 = .ok (.aload_n 3, 1) := by decide +kernel
theorem d_FF_block_14 : decode b_FF_block 14 = .ok (.getfield 119, 3) := by decide +kernel
theorem d_FF_block_17 : decode b_FF_block 17 = .ok (.if_icmp .lt 5, 3) := by decide +kernel
theorem d_FF_block_20 : decode b_FF_block 20 = .ok (.iconst (-1), 1) := by decide +kernel
theorem d_FF_block_21 : decode b_FF_block 21 = .ok (.ireturn, 1) := by decide +kernel
theorem d_FF_block_22 : decode b_FF_block 22 = .ok (.iload_n 2, 1) := by decide +kernel
theorem d_FF_block_23 : decode b_FF_block 23 = .ok (.tableswitch 46 0 2 #[25, 32, 39], 25) := by decide +kernel
theorem d_FF_block_48 : decode b_FF_block 48 = .ok (.aload_n 3, 1) := by decide +kernel
theorem d_FF_block_49 : decode b_FF_block 49 = .ok (.getfield 122, 3) := by decide +kernel
theorem d_FF_block_52 : decode b_FF_block 52 = .ok (.iload_n 1, 1) := by decide +kernel
theorem d_FF_block_53 : decode b_FF_block 53 = .ok (.iaload, 1) := by decide +kernel
theorem d_FF_block_54 : decode b_FF_block 54 = .ok (.ireturn, 1) := by decide +kernel
theorem d_FF_block_55 : decode b_FF_block 55 = .ok (.aload_n 3, 1) := by decide +kernel
theorem d_FF_block_56 : decode b_FF_block 56 = .ok (.getfield 125, 3) := by decide +kernel
theorem d_FF_block_59 : decode b_FF_block 59 = .ok (.iload_n 1, 1) := by decide +kernel
theorem d_FF_block_60 : decode b_FF_block 60 = .ok (.iaload, 1) := by decide +kernel
theorem d_FF_block_61 : decode b_FF_block 61 = .ok (.ireturn, 1) := by decide +kernel
theorem d_FF_block_62 : decode b_FF_block 62 = .ok (.aload_n 3, 1) := by decide +kernel
theorem d_FF_block_63 : decode b_FF_block 63 = .ok (.getfield 128, 3) := by decide +kernel
theorem d_FF_block_66 : decode b_FF_block 66 = .ok (.iload_n 1, 1) := by decide +kernel
theorem d_FF_block_67 : decode b_FF_block 67 = .ok (.iaload, 1) := by decide +kernel
theorem d_FF_block_68 : decode b_FF_block 68 = .ok (.ireturn, 1) := by decide +kernel
theorem d_FF_block_69 : decode b_FF_block 69 = .ok (.iconst (-1), 1) := by decide +kernel
theorem d_FF_block_70 : decode b_FF_block 70 = .ok (.ireturn, 1) := by decide +kernel
def f_FF_block (bc : Nat) (le : Nat → Int32) (st : Nat → Int32) (fi : Nat → Int32) (u : Int32) (v : Int32) : Int32 := (if u < 0 then (-1) else (if u < nI bc then (if v = 0 then st (tn u) else (if v = 1 then fi (tn u) else (if v = 2 then le (tn u) else (-1)))) else (-1)))
set_option maxHeartbeats 1000000 in
set_option maxRecDepth 100000 in
theorem c_FF_block (l : Launch) (D : va_G) (cI cZ : ClassId) (k oc fc dw bl : Nat) (x we ma q_st : Nat) (bl_le bl_he bl_st bl_fi bl_be bl_by bl_sa bl_mk bc : Nat) (le st fi : Nat → Int32) (u v : Int32) (hb32 : bc ≤ 32) : MG l y_FF_block w_FF_block (rmK 0 0) D classes (tyz cI cZ) E0 [.ref x, .int u, .int v] [(x, .inr (0, [.ref oc, .ref k, .ref we, .ref ma, .ref q_st])), (we, .inr (5, [.ref fc, .ref bl, .ref dw])), (bl, .inr (4, [.ref bl_le, .ref bl_he, .ref bl_st, .ref bl_fi, .ref bl_be, .ref bl_by, .ref bl_sa, .ref bl_mk, .int (nI bc)])), (bl_le, .inl (cI, 32, .inl le)), (bl_st, .inl (cI, 32, .inl st)), (bl_fi, .inl (cI, 32, .inl fi))] (RI D classes (tyz cI cZ) (f_FF_block bc le st fi u v) [(x, .inr (0, [.ref oc, .ref k, .ref we, .ref ma, .ref q_st])), (we, .inr (5, [.ref fc, .ref bl, .ref dw])), (bl, .inr (4, [.ref bl_le, .ref bl_he, .ref bl_st, .ref bl_fi, .ref bl_be, .ref bl_by, .ref bl_sa, .ref bl_mk, .int (nI bc)])), (bl_le, .inl (cI, 32, .inl le)), (bl_st, .inl (cI, 32, .inl st)), (bl_fi, .inl (cI, 32, .inl fi))]) := by
  refine MG.of (cc := b_FF_block) (maxL := 4) (ret := (some .int)) (own := "FlowFlattener") rfl (by decide) rfl (Nat.le_of_ble_eq_true rfl) ?_
  intro p e s m below meth c A ls S hr hlocks hA hP hK hD hS hE hl
  have hx := S.1
  have hb := S.2.1
  have hl : lv_has ls 4 [(0, .ref x), (1, .int u), (2, .int v)] := hl
  refine lv_aload_n hx hb d_FF_block_0 rfl (lv_at hl 0 rfl) ?_
  refine k_get (v := .ref we) S in_FF hK hP 0 rfl rfl 2 (by decide) ql_FF_28 rfl d_FF_block_1 ?_
  refine k_get (v := .ref bl) S in_WE hK hP 1 rfl rfl 1 (by decide) ql_FF_115 rfl d_FF_block_4 ?_
  refine lv_astore_n (lv' := [(3, .ref bl), (0, .ref x), (1, .int u), (2, .int v)]) hx hb d_FF_block_7 rfl hl (by decide) rfl (fun ls hl => ?_)
  refine lv_iload_n hx hb d_FF_block_8 rfl (lv_at hl 2 rfl) ?_
  refine lv_if_lt (tgt := 20) hx hb d_FF_block_9 (by decide) (fun h9_1 => ?_) (fun h9_1 => ?_)
  · skip
    refine lv_iconst (v := (-1)) hx hb d_FF_block_20 (by decide) ?_
    exact k_iret hx hb hr hlocks hK hP hD hS (by rw [f_FF_block, if_pos h9_1]) rfl d_FF_block_21
  · skip
    refine lv_iload_n hx hb d_FF_block_12 rfl (lv_at hl 2 rfl) ?_
    refine lv_aload_n hx hb d_FF_block_13 rfl (lv_at hl 0 rfl) ?_
    refine k_get (v := .int (nI bc)) S in_BL hK hP 2 rfl rfl 8 (by decide) ql_FF_119 rfl d_FF_block_14 ?_
    refine lv_icmp_lt (tgt := 22) hx hb d_FF_block_17 (by decide) (fun h17_2 => ?_) (fun h17_2 => ?_)
    · skip
      refine lv_iload_n hx hb d_FF_block_22 rfl (lv_at hl 3 rfl) ?_
      by_cases h23_3 : v = 0
      · skip
        refine k_top h23_3 ?_
        refine lv_tableIn (tgt := 48) hx hb d_FF_block_23 (by decide) (by decide) rfl (by decide) ?_
        refine lv_aload_n hx hb d_FF_block_48 rfl (lv_at hl 0 rfl) ?_
        refine k_get (v := .ref bl_st) S in_BL hK hP 2 rfl rfl 2 (by decide) ql_FF_122 rfl d_FF_block_49 ?_
        refine lv_iload_n hx hb d_FF_block_52 rfl (lv_at hl 2 rfl) ?_
        refine k_top (y := nI (tn u)) (tn_eq (by assumption)) ?_
        refine k_ld (k := tn u) hx hb hK hP 4 0 rfl rfl rfl (by have := tn_lt2 (n := bc) (x := u) (by assumption) (by omega) (by assumption); omega) (by decide) d_FF_block_53 ?_
        exact k_iret hx hb hr hlocks hK hP hD hS (by rw [f_FF_block, if_neg h9_1, if_pos h17_2, if_pos h23_3]) rfl d_FF_block_54
      by_cases h23_4 : v = 1
      · skip
        refine k_top h23_4 ?_
        refine lv_tableIn (tgt := 55) hx hb d_FF_block_23 (by decide) (by decide) rfl (by decide) ?_
        refine lv_aload_n hx hb d_FF_block_55 rfl (lv_at hl 0 rfl) ?_
        refine k_get (v := .ref bl_fi) S in_BL hK hP 2 rfl rfl 3 (by decide) ql_FF_125 rfl d_FF_block_56 ?_
        refine lv_iload_n hx hb d_FF_block_59 rfl (lv_at hl 2 rfl) ?_
        refine k_top (y := nI (tn u)) (tn_eq (by assumption)) ?_
        refine k_ld (k := tn u) hx hb hK hP 5 0 rfl rfl rfl (by have := tn_lt2 (n := bc) (x := u) (by assumption) (by omega) (by assumption); omega) (by decide) d_FF_block_60 ?_
        exact k_iret hx hb hr hlocks hK hP hD hS (by rw [f_FF_block, if_neg h9_1, if_pos h17_2, if_neg h23_3, if_pos h23_4]) rfl d_FF_block_61
      by_cases h23_5 : v = 2
      · skip
        refine k_top h23_5 ?_
        refine lv_tableIn (tgt := 62) hx hb d_FF_block_23 (by decide) (by decide) rfl (by decide) ?_
        refine lv_aload_n hx hb d_FF_block_62 rfl (lv_at hl 0 rfl) ?_
        refine k_get (v := .ref bl_le) S in_BL hK hP 2 rfl rfl 0 (by decide) ql_FF_128 rfl d_FF_block_63 ?_
        refine lv_iload_n hx hb d_FF_block_66 rfl (lv_at hl 2 rfl) ?_
        refine k_top (y := nI (tn u)) (tn_eq (by assumption)) ?_
        refine k_ld (k := tn u) hx hb hK hP 3 0 rfl rfl rfl (by have := tn_lt2 (n := bc) (x := u) (by assumption) (by omega) (by assumption); omega) (by decide) d_FF_block_67 ?_
        exact k_iret hx hb hr hlocks hK hP hD hS (by rw [f_FF_block, if_neg h9_1, if_pos h17_2, if_neg h23_3, if_neg h23_4, if_pos h23_5]) rfl d_FF_block_68
      refine lv_tableOut (tgt := 69) hx hb d_FF_block_23 (by have e0 := lv_neT h23_3 (show (0 : Int32).toInt = 0 by decide); have e1 := lv_neT h23_4 (show (1 : Int32).toInt = 1 by decide); have e2 := lv_neT h23_5 (show (2 : Int32).toInt = 2 by decide); omega) (by decide) ?_
      refine lv_iconst (v := (-1)) hx hb d_FF_block_69 (by decide) ?_
      exact k_iret hx hb hr hlocks hK hP hD hS (by rw [f_FF_block, if_neg h9_1, if_pos h17_2, if_neg h23_3, if_neg h23_4, if_neg h23_5]) rfl d_FF_block_70
    · skip
      refine lv_iconst (v := (-1)) hx hb d_FF_block_20 (by decide) ?_
      exact k_iret hx hb hr hlocks hK hP hD hS (by rw [f_FF_block, if_neg h9_1, if_neg h17_2]) rfl d_FF_block_21

theorem d_FF_starter_0 : decode b_FF_starter 0 = .ok (.iload_n 1, 1) := by decide +kernel
theorem d_FF_starter_1 : decode b_FF_starter 1 = .ok (.ifCond .lt 8, 3) := by decide +kernel
theorem d_FF_starter_4 : decode b_FF_starter 4 = .ok (.iload_n 1, 1) := by decide +kernel
theorem d_FF_starter_5 : decode b_FF_starter 5 = .ok (.iconst 4, 1) := by decide +kernel
theorem d_FF_starter_6 : decode b_FF_starter 6 = .ok (.if_icmp .lt 5, 3) := by decide +kernel
theorem d_FF_starter_9 : decode b_FF_starter 9 = .ok (.iconst 0, 1) := by decide +kernel
theorem d_FF_starter_10 : decode b_FF_starter 10 = .ok (.ireturn, 1) := by decide +kernel
theorem d_FF_starter_11 : decode b_FF_starter 11 = .ok (.aload_n 0, 1) := by decide +kernel
theorem d_FF_starter_12 : decode b_FF_starter 12 = .ok (.getfield 39, 3) := by decide +kernel
theorem d_FF_starter_15 : decode b_FF_starter 15 = .ok (.iload_n 1, 1) := by decide +kernel
theorem d_FF_starter_16 : decode b_FF_starter 16 = .ok (.iload_n 2, 1) := by decide +kernel
theorem d_FF_starter_17 : decode b_FF_starter 17 = .ok (.iastore, 1) := by decide +kernel
theorem d_FF_starter_18 : decode b_FF_starter 18 = .ok (.iconst 1, 1) := by decide +kernel
theorem d_FF_starter_19 : decode b_FF_starter 19 = .ok (.ireturn, 1) := by decide +kernel
def f_FF_starter (sa : Nat → Int32) (u : Int32) (v : Int32) : Int32 × (Nat → Int32) := (if u < 0 then (0, sa) else (if u < 4 then (1, upd sa (tn u) v) else (0, sa)))
set_option maxHeartbeats 1000000 in
set_option maxRecDepth 100000 in
theorem c_FF_starter (l : Launch) (D : va_G) (cI cZ : ClassId) (k oc : Nat) (x we ma q_st : Nat) (sa : Nat → Int32) (u v : Int32) : MG l y_FF_starter w_FF_starter (rmK 0 0) D classes (tyz cI cZ) E0 [.ref x, .int u, .int v] [(x, .inr (0, [.ref oc, .ref k, .ref we, .ref ma, .ref q_st])), (q_st, .inl (cI, 4, .inl sa))] (RI D classes (tyz cI cZ) ((f_FF_starter sa u v).1) [(x, .inr (0, [.ref oc, .ref k, .ref we, .ref ma, .ref q_st])), (q_st, .inl (cI, 4, .inl ((f_FF_starter sa u v).2)))]) := by
  refine MG.of (cc := b_FF_starter) (maxL := 3) (ret := (some .boolean)) (own := "FlowFlattener") rfl (by decide) rfl (Nat.le_of_ble_eq_true rfl) ?_
  intro p e s m below meth c A ls S hr hlocks hA hP hK hD hS hE hl
  have hx := S.1
  have hb := S.2.1
  have hl : lv_has ls 3 [(0, .ref x), (1, .int u), (2, .int v)] := hl
  refine lv_iload_n hx hb d_FF_starter_0 rfl (lv_at hl 1 rfl) ?_
  refine lv_if_lt (tgt := 9) hx hb d_FF_starter_1 (by decide) (fun h1_1 => ?_) (fun h1_1 => ?_)
  · skip
    refine lv_iconst (v := 0) hx hb d_FF_starter_9 (by decide) ?_
    exact k_zret hx hb hr hlocks hK hP hD hS (by decide) (by rw [f_FF_starter, if_pos h1_1]) (by rw [f_FF_starter, if_pos h1_1]) d_FF_starter_10
  · skip
    refine lv_iload_n hx hb d_FF_starter_4 rfl (lv_at hl 1 rfl) ?_
    refine lv_iconst (v := 4) hx hb d_FF_starter_5 (by decide) ?_
    refine lv_icmp_lt (tgt := 11) hx hb d_FF_starter_6 (by decide) (fun h6_2 => ?_) (fun h6_2 => ?_)
    · skip
      refine lv_aload_n hx hb d_FF_starter_11 rfl (lv_at hl 0 rfl) ?_
      refine k_get (v := .ref q_st) S in_FF hK hP 0 rfl rfl 4 (by decide) ql_FF_39 rfl d_FF_starter_12 ?_
      refine lv_iload_n hx hb d_FF_starter_15 rfl (lv_at hl 1 rfl) ?_
      refine k_top (y := nI (tn u)) (tn_eq (by assumption)) ?_
      refine lv_iload_n hx hb d_FF_starter_16 rfl (lv_at hl 2 rfl) ?_
      refine k_st (k := tn u) (x := v) (ws' := [(x, .inr (0, [.ref oc, .ref k, .ref we, .ref ma, .ref q_st])), (q_st, .inl (cI, 4, .inl (upd sa (tn u) v)))]) hx hb hK hP hD hS 1 0 rfl rfl rfl (by have := tn_lt2 (n := 4) (x := u) (by assumption) (by omega) (by assumption); omega) (by decide) rfl d_FF_starter_17 (fun H locs hP hD hS => ?_)
      refine lv_iconst (v := 1) hx hb d_FF_starter_18 (by decide) ?_
      exact k_zret hx hb hr hlocks hK hP hD hS (by decide) (by rw [f_FF_starter, if_neg h1_1, if_pos h6_2]) (by rw [f_FF_starter, if_neg h1_1, if_pos h6_2]) d_FF_starter_19
    · skip
      refine lv_iconst (v := 0) hx hb d_FF_starter_9 (by decide) ?_
      exact k_zret hx hb hr hlocks hK hP hD hS (by decide) (by rw [f_FF_starter, if_neg h1_1, if_neg h6_2]) (by rw [f_FF_starter, if_neg h1_1, if_neg h6_2]) d_FF_starter_10

theorem d_FF_result_0 : decode b_FF_result 0 = .ok (.aload_n 0, 1) := by decide +kernel
theorem d_FF_result_1 : decode b_FF_result 1 = .ok (.getfield 35, 3) := by decide +kernel
theorem d_FF_result_4 : decode b_FF_result 4 = .ok (.getfield 135, 3) := by decide +kernel
theorem d_FF_result_7 : decode b_FF_result 7 = .ok (.ifCond .ne 8, 3) := by decide +kernel
theorem d_FF_result_10 : decode b_FF_result 10 = .ok (.ldc 105, 2) := by decide +kernel
theorem d_FF_result_12 : decode b_FF_result 12 = .ok (.goto 10, 3) := by decide +kernel
theorem d_FF_result_15 : decode b_FF_result 15 = .ok (.aload_n 0, 1) := by decide +kernel
theorem d_FF_result_16 : decode b_FF_result 16 = .ok (.getfield 35, 3) := by decide +kernel
theorem d_FF_result_19 : decode b_FF_result 19 = .ok (.getfield 138, 3) := by decide +kernel
theorem d_FF_result_22 : decode b_FF_result 22 = .ok (.ireturn, 1) := by decide +kernel
def f_FF_result (y_ending : Int32) (y_outcome : Int32) : Int32 := (if y_ending = 0 then (-2147483648) else y_outcome)
set_option maxHeartbeats 1000000 in
set_option maxRecDepth 100000 in
theorem c_FF_result (l : Launch) (D : va_G) (cI cZ : ClassId) (k oc : Nat) (x we ma q_st : Nat) (ma_lo ma_ke ma_sk : Nat) (y_top y_at y_wasUsed y_taken y_emitCount y_ending y_outcome : Int32) : MG l y_FF_result w_FF_result (rmK 0 0) D classes (tyz cI cZ) E0 [.ref x] [(x, .inr (0, [.ref oc, .ref k, .ref we, .ref ma, .ref q_st])), (ma, .inr (6, [.ref ma_lo, .ref ma_ke, .ref ma_sk, .int y_top, .int y_at, .int y_wasUsed, .int y_taken, .int y_emitCount, .int y_ending, .int y_outcome]))] (RI D classes (tyz cI cZ) (f_FF_result y_ending y_outcome) [(x, .inr (0, [.ref oc, .ref k, .ref we, .ref ma, .ref q_st])), (ma, .inr (6, [.ref ma_lo, .ref ma_ke, .ref ma_sk, .int y_top, .int y_at, .int y_wasUsed, .int y_taken, .int y_emitCount, .int y_ending, .int y_outcome]))]) := by
  refine MG.of (cc := b_FF_result) (maxL := 1) (ret := (some .int)) (own := "FlowFlattener") rfl (by decide) rfl (Nat.le_of_ble_eq_true rfl) ?_
  intro p e s m below meth c A ls S hr hlocks hA hP hK hD hS hE hl
  have hx := S.1
  have hb := S.2.1
  have hl : lv_has ls 1 [(0, .ref x)] := hl
  refine lv_aload_n hx hb d_FF_result_0 rfl (lv_at hl 0 rfl) ?_
  refine k_get (v := .ref ma) S in_FF hK hP 0 rfl rfl 3 (by decide) ql_FF_35 rfl d_FF_result_1 ?_
  refine k_get (v := .int y_ending) S in_MA hK hP 1 rfl rfl 8 (by decide) ql_FF_135 rfl d_FF_result_4 ?_
  refine lv_if_ne (tgt := 15) hx hb d_FF_result_7 (by decide) (fun h7_1 => ?_) (fun h7_1 => ?_)
  · skip
    refine lv_aload_n hx hb d_FF_result_15 rfl (lv_at hl 0 rfl) ?_
    refine k_get (v := .ref ma) S in_FF hK hP 0 rfl rfl 3 (by decide) ql_FF_35 rfl d_FF_result_16 ?_
    refine k_get (v := .int y_outcome) S in_MA hK hP 1 rfl rfl 9 (by decide) ql_FF_138 rfl d_FF_result_19 ?_
    exact k_iret hx hb hr hlocks hK hP hD hS (by rw [f_FF_result, if_neg h7_1]) rfl d_FF_result_22
  · skip
    refine lv_ldc hx hb S.2.2.2.1 (S.2.2.2.2 _ ql_FF_105) d_FF_result_10 ?_
    refine lv_goto (tgt := 22) hx hb d_FF_result_12 (by decide) ?_
    exact k_iret hx hb hr hlocks hK hP hD hS (by rw [f_FF_result, if_pos h7_1]) rfl d_FF_result_22

theorem d_FF_steps_0 : decode b_FF_steps 0 = .ok (.aload_n 0, 1) := by decide +kernel
theorem d_FF_steps_1 : decode b_FF_steps 1 = .ok (.getfield 35, 3) := by decide +kernel
theorem d_FF_steps_4 : decode b_FF_steps 4 = .ok (.getfield 141, 3) := by decide +kernel
theorem d_FF_steps_7 : decode b_FF_steps 7 = .ok (.ireturn, 1) := by decide +kernel
set_option maxHeartbeats 1000000 in
set_option maxRecDepth 100000 in
theorem c_FF_steps (l : Launch) (D : va_G) (cI cZ : ClassId) (k oc : Nat) (x we ma q_st : Nat) (ma_lo ma_ke ma_sk : Nat) (y_top y_at y_wasUsed y_taken y_emitCount y_ending y_outcome : Int32) : MG l y_FF_steps w_FF_steps (rmK 0 0) D classes (tyz cI cZ) E0 [.ref x] [(x, .inr (0, [.ref oc, .ref k, .ref we, .ref ma, .ref q_st])), (ma, .inr (6, [.ref ma_lo, .ref ma_ke, .ref ma_sk, .int y_top, .int y_at, .int y_wasUsed, .int y_taken, .int y_emitCount, .int y_ending, .int y_outcome]))] (RI D classes (tyz cI cZ) y_taken [(x, .inr (0, [.ref oc, .ref k, .ref we, .ref ma, .ref q_st])), (ma, .inr (6, [.ref ma_lo, .ref ma_ke, .ref ma_sk, .int y_top, .int y_at, .int y_wasUsed, .int y_taken, .int y_emitCount, .int y_ending, .int y_outcome]))]) := by
  refine MG.of (cc := b_FF_steps) (maxL := 1) (ret := (some .int)) (own := "FlowFlattener") rfl (by decide) rfl (Nat.le_of_ble_eq_true rfl) ?_
  intro p e s m below meth c A ls S hr hlocks hA hP hK hD hS hE hl
  have hx := S.1
  have hb := S.2.1
  have hl : lv_has ls 1 [(0, .ref x)] := hl
  refine lv_aload_n hx hb d_FF_steps_0 rfl (lv_at hl 0 rfl) ?_
  refine k_get (v := .ref ma) S in_FF hK hP 0 rfl rfl 3 (by decide) ql_FF_35 rfl d_FF_steps_1 ?_
  refine k_get (v := .int y_taken) S in_MA hK hP 1 rfl rfl 6 (by decide) ql_FF_141 rfl d_FF_steps_4 ?_
  exact k_iret hx hb hr hlocks hK hP hD hS rfl rfl d_FF_steps_7

theorem d_FF_emits_0 : decode b_FF_emits 0 = .ok (.aload_n 0, 1) := by decide +kernel
theorem d_FF_emits_1 : decode b_FF_emits 1 = .ok (.getfield 35, 3) := by decide +kernel
theorem d_FF_emits_4 : decode b_FF_emits 4 = .ok (.getfield 144, 3) := by decide +kernel
theorem d_FF_emits_7 : decode b_FF_emits 7 = .ok (.ireturn, 1) := by decide +kernel
set_option maxHeartbeats 1000000 in
set_option maxRecDepth 100000 in
theorem c_FF_emits (l : Launch) (D : va_G) (cI cZ : ClassId) (k oc : Nat) (x we ma q_st : Nat) (ma_lo ma_ke ma_sk : Nat) (y_top y_at y_wasUsed y_taken y_emitCount y_ending y_outcome : Int32) : MG l y_FF_emits w_FF_emits (rmK 0 0) D classes (tyz cI cZ) E0 [.ref x] [(x, .inr (0, [.ref oc, .ref k, .ref we, .ref ma, .ref q_st])), (ma, .inr (6, [.ref ma_lo, .ref ma_ke, .ref ma_sk, .int y_top, .int y_at, .int y_wasUsed, .int y_taken, .int y_emitCount, .int y_ending, .int y_outcome]))] (RI D classes (tyz cI cZ) y_emitCount [(x, .inr (0, [.ref oc, .ref k, .ref we, .ref ma, .ref q_st])), (ma, .inr (6, [.ref ma_lo, .ref ma_ke, .ref ma_sk, .int y_top, .int y_at, .int y_wasUsed, .int y_taken, .int y_emitCount, .int y_ending, .int y_outcome]))]) := by
  refine MG.of (cc := b_FF_emits) (maxL := 1) (ret := (some .int)) (own := "FlowFlattener") rfl (by decide) rfl (Nat.le_of_ble_eq_true rfl) ?_
  intro p e s m below meth c A ls S hr hlocks hA hP hK hD hS hE hl
  have hx := S.1
  have hb := S.2.1
  have hl : lv_has ls 1 [(0, .ref x)] := hl
  refine lv_aload_n hx hb d_FF_emits_0 rfl (lv_at hl 0 rfl) ?_
  refine k_get (v := .ref ma) S in_FF hK hP 0 rfl rfl 3 (by decide) ql_FF_35 rfl d_FF_emits_1 ?_
  refine k_get (v := .int y_emitCount) S in_MA hK hP 1 rfl rfl 7 (by decide) ql_FF_144 rfl d_FF_emits_4 ?_
  exact k_iret hx hb hr hlocks hK hP hD hS rfl rfl d_FF_emits_7

theorem d_FF_emitted_0 : decode b_FF_emitted 0 = .ok (.iload_n 1, 1) := by decide +kernel
theorem d_FF_emitted_1 : decode b_FF_emitted 1 = .ok (.ifCond .lt 32, 3) := by decide +kernel
theorem d_FF_emitted_4 : decode b_FF_emitted 4 = .ok (.iload_n 1, 1) := by decide +kernel
theorem d_FF_emitted_5 : decode b_FF_emitted 5 = .ok (.aload_n 0, 1) := by decide +kernel
theorem d_FF_emitted_6 : decode b_FF_emitted 6 = .ok (.getfield 35, 3) := by decide +kernel
theorem d_FF_emitted_9 : decode b_FF_emitted 9 = .ok (.getfield 144, 3) := by decide +kernel
theorem d_FF_emitted_12 : decode b_FF_emitted 12 = .ok (.if_icmp .ge 21, 3) := by decide +kernel
theorem d_FF_emitted_15 : decode b_FF_emitted 15 = .ok (.iload_n 1, 1) := by decide +kernel
theorem d_FF_emitted_16 : decode b_FF_emitted 16 = .ok (.bipush 40, 2) := by decide +kernel
theorem d_FF_emitted_18 : decode b_FF_emitted 18 = .ok (.if_icmp .ge 15, 3) := by decide +kernel
theorem d_FF_emitted_21 : decode b_FF_emitted 21 = .ok (.aload_n 0, 1) := by decide +kernel
theorem d_FF_emitted_22 : decode b_FF_emitted 22 = .ok (.getfield 35, 3) := by decide +kernel
theorem d_FF_emitted_25 : decode b_FF_emitted 25 = .ok (.getfield 147, 3) := by decide +kernel
theorem d_FF_emitted_28 : decode b_FF_emitted 28 = .ok (.iload_n 1, 1) := by decide +kernel
theorem d_FF_emitted_29 : decode b_FF_emitted 29 = .ok (.iaload, 1) := by decide +kernel
theorem d_FF_emitted_30 : decode b_FF_emitted 30 = .ok (.goto 5, 3) := by decide +kernel
theorem d_FF_emitted_33 : decode b_FF_emitted 33 = .ok (.ldc 105, 2) := by decide +kernel
theorem d_FF_emitted_35 : decode b_FF_emitted 35 = .ok (.ireturn, 1) := by decide +kernel
def f_FF_emitted (y_emitCount : Int32) (ke : Nat → Int32) (u : Int32) : Int32 := (if u < 0 then (-2147483648) else (if y_emitCount ≤ u then (-2147483648) else (if 40 ≤ u then (-2147483648) else ke (tn u))))
set_option maxHeartbeats 1000000 in
set_option maxRecDepth 100000 in
theorem c_FF_emitted (l : Launch) (D : va_G) (cI cZ : ClassId) (k oc : Nat) (x we ma q_st : Nat) (ma_lo ma_ke ma_sk : Nat) (y_top y_at y_wasUsed y_taken y_emitCount y_ending y_outcome : Int32) (ke : Nat → Int32) (u : Int32) : MG l y_FF_emitted w_FF_emitted (rmK 0 0) D classes (tyz cI cZ) E0 [.ref x, .int u] [(x, .inr (0, [.ref oc, .ref k, .ref we, .ref ma, .ref q_st])), (ma, .inr (6, [.ref ma_lo, .ref ma_ke, .ref ma_sk, .int y_top, .int y_at, .int y_wasUsed, .int y_taken, .int y_emitCount, .int y_ending, .int y_outcome])), (ma_ke, .inl (cI, 40, .inl ke))] (RI D classes (tyz cI cZ) (f_FF_emitted y_emitCount ke u) [(x, .inr (0, [.ref oc, .ref k, .ref we, .ref ma, .ref q_st])), (ma, .inr (6, [.ref ma_lo, .ref ma_ke, .ref ma_sk, .int y_top, .int y_at, .int y_wasUsed, .int y_taken, .int y_emitCount, .int y_ending, .int y_outcome])), (ma_ke, .inl (cI, 40, .inl ke))]) := by
  refine MG.of (cc := b_FF_emitted) (maxL := 2) (ret := (some .int)) (own := "FlowFlattener") rfl (by decide) rfl (Nat.le_of_ble_eq_true rfl) ?_
  intro p e s m below meth c A ls S hr hlocks hA hP hK hD hS hE hl
  have hx := S.1
  have hb := S.2.1
  have hl : lv_has ls 2 [(0, .ref x), (1, .int u)] := hl
  refine lv_iload_n hx hb d_FF_emitted_0 rfl (lv_at hl 1 rfl) ?_
  refine lv_if_lt (tgt := 33) hx hb d_FF_emitted_1 (by decide) (fun h1_1 => ?_) (fun h1_1 => ?_)
  · skip
    refine lv_ldc hx hb S.2.2.2.1 (S.2.2.2.2 _ ql_FF_105) d_FF_emitted_33 ?_
    exact k_iret hx hb hr hlocks hK hP hD hS (by rw [f_FF_emitted, if_pos h1_1]) rfl d_FF_emitted_35
  · skip
    refine lv_iload_n hx hb d_FF_emitted_4 rfl (lv_at hl 1 rfl) ?_
    refine lv_aload_n hx hb d_FF_emitted_5 rfl (lv_at hl 0 rfl) ?_
    refine k_get (v := .ref ma) S in_FF hK hP 0 rfl rfl 3 (by decide) ql_FF_35 rfl d_FF_emitted_6 ?_
    refine k_get (v := .int y_emitCount) S in_MA hK hP 1 rfl rfl 7 (by decide) ql_FF_144 rfl d_FF_emitted_9 ?_
    refine lv_icmp_ge (tgt := 33) hx hb d_FF_emitted_12 (by decide) (fun h12_2 => ?_) (fun h12_2 => ?_)
    · skip
      refine lv_ldc hx hb S.2.2.2.1 (S.2.2.2.2 _ ql_FF_105) d_FF_emitted_33 ?_
      exact k_iret hx hb hr hlocks hK hP hD hS (by rw [f_FF_emitted, if_neg h1_1, if_pos h12_2]) rfl d_FF_emitted_35
    · skip
      refine lv_iload_n hx hb d_FF_emitted_15 rfl (lv_at hl 1 rfl) ?_
      refine lv_bipush (v := 40) hx hb d_FF_emitted_16 (by decide) ?_
      refine lv_icmp_ge (tgt := 33) hx hb d_FF_emitted_18 (by decide) (fun h18_3 => ?_) (fun h18_3 => ?_)
      · skip
        refine lv_ldc hx hb S.2.2.2.1 (S.2.2.2.2 _ ql_FF_105) d_FF_emitted_33 ?_
        exact k_iret hx hb hr hlocks hK hP hD hS (by rw [f_FF_emitted, if_neg h1_1, if_neg h12_2, if_pos h18_3]) rfl d_FF_emitted_35
      · skip
        refine lv_aload_n hx hb d_FF_emitted_21 rfl (lv_at hl 0 rfl) ?_
        refine k_get (v := .ref ma) S in_FF hK hP 0 rfl rfl 3 (by decide) ql_FF_35 rfl d_FF_emitted_22 ?_
        refine k_get (v := .ref ma_ke) S in_MA hK hP 1 rfl rfl 1 (by decide) ql_FF_147 rfl d_FF_emitted_25 ?_
        refine lv_iload_n hx hb d_FF_emitted_28 rfl (lv_at hl 1 rfl) ?_
        refine k_top (y := nI (tn u)) (tn_eq (by assumption)) ?_
        refine k_ld (k := tn u) hx hb hK hP 2 0 rfl rfl rfl (by have := tn_lt (n := 40) (x := u) (by assumption) (by omega) (by assumption); omega) (by decide) d_FF_emitted_29 ?_
        refine lv_goto (tgt := 35) hx hb d_FF_emitted_30 (by decide) ?_
        exact k_iret hx hb hr hlocks hK hP hD hS (by rw [f_FF_emitted, if_neg h1_1, if_neg h12_2, if_neg h18_3]) rfl d_FF_emitted_35

theorem d_FF_local_0 : decode b_FF_local 0 = .ok (.aload_n 0, 1) := by decide +kernel
theorem d_FF_local_1 : decode b_FF_local 1 = .ok (.getfield 35, 3) := by decide +kernel
theorem d_FF_local_4 : decode b_FF_local 4 = .ok (.getfield 150, 3) := by decide +kernel
theorem d_FF_local_7 : decode b_FF_local 7 = .ok (.ifCond .eq 25, 3) := by decide +kernel
theorem d_FF_local_10 : decode b_FF_local 10 = .ok (.iload_n 1, 1) := by decide +kernel
theorem d_FF_local_11 : decode b_FF_local 11 = .ok (.ifCond .lt 21, 3) := by decide +kernel
theorem d_FF_local_14 : decode b_FF_local 14 = .ok (.iload_n 1, 1) := by decide +kernel
theorem d_FF_local_15 : decode b_FF_local 15 = .ok (.bipush 9, 2) := by decide +kernel
theorem d_FF_local_17 : decode b_FF_local 17 = .ok (.if_icmp .ge 15, 3) := by decide +kernel
theorem d_FF_local_20 : decode b_FF_local 20 = .ok (.aload_n 0, 1) := by decide +kernel
theorem d_FF_local_21 : decode b_FF_local 21 = .ok (.getfield 35, 3) := by decide +kernel
theorem d_FF_local_24 : decode b_FF_local 24 = .ok (.getfield 154, 3) := by decide +kernel
theorem d_FF_local_27 : decode b_FF_local 27 = .ok (.iload_n 1, 1) := by decide +kernel
theorem d_FF_local_28 : decode b_FF_local 28 = .ok (.iaload, 1) := by decide +kernel
theorem d_FF_local_29 : decode b_FF_local 29 = .ok (.goto 5, 3) := by decide +kernel
theorem d_FF_local_32 : decode b_FF_local 32 = .ok (.ldc 105, 2) := by decide +kernel
theorem d_FF_local_34 : decode b_FF_local 34 = .ok (.ireturn, 1) := by decide +kernel
def f_FF_local (y_wasUsed : Int32) (lo : Nat → Int32) (u : Int32) : Int32 := (if y_wasUsed = 0 then (-2147483648) else (if u < 0 then (-2147483648) else (if 9 ≤ u then (-2147483648) else lo (tn u))))
set_option maxHeartbeats 1000000 in
set_option maxRecDepth 100000 in
theorem c_FF_local (l : Launch) (D : va_G) (cI cZ : ClassId) (k oc : Nat) (x we ma q_st : Nat) (ma_lo ma_ke ma_sk : Nat) (y_top y_at y_wasUsed y_taken y_emitCount y_ending y_outcome : Int32) (lo : Nat → Int32) (u : Int32) : MG l y_FF_local w_FF_local (rmK 0 0) D classes (tyz cI cZ) E0 [.ref x, .int u] [(x, .inr (0, [.ref oc, .ref k, .ref we, .ref ma, .ref q_st])), (ma, .inr (6, [.ref ma_lo, .ref ma_ke, .ref ma_sk, .int y_top, .int y_at, .int y_wasUsed, .int y_taken, .int y_emitCount, .int y_ending, .int y_outcome])), (ma_lo, .inl (cI, 9, .inl lo))] (RI D classes (tyz cI cZ) (f_FF_local y_wasUsed lo u) [(x, .inr (0, [.ref oc, .ref k, .ref we, .ref ma, .ref q_st])), (ma, .inr (6, [.ref ma_lo, .ref ma_ke, .ref ma_sk, .int y_top, .int y_at, .int y_wasUsed, .int y_taken, .int y_emitCount, .int y_ending, .int y_outcome])), (ma_lo, .inl (cI, 9, .inl lo))]) := by
  refine MG.of (cc := b_FF_local) (maxL := 2) (ret := (some .int)) (own := "FlowFlattener") rfl (by decide) rfl (Nat.le_of_ble_eq_true rfl) ?_
  intro p e s m below meth c A ls S hr hlocks hA hP hK hD hS hE hl
  have hx := S.1
  have hb := S.2.1
  have hl : lv_has ls 2 [(0, .ref x), (1, .int u)] := hl
  refine lv_aload_n hx hb d_FF_local_0 rfl (lv_at hl 0 rfl) ?_
  refine k_get (v := .ref ma) S in_FF hK hP 0 rfl rfl 3 (by decide) ql_FF_35 rfl d_FF_local_1 ?_
  refine k_get (v := .int y_wasUsed) S in_MA hK hP 1 rfl rfl 5 (by decide) ql_FF_150 rfl d_FF_local_4 ?_
  refine lv_if_eq (tgt := 32) hx hb d_FF_local_7 (by decide) (fun h7_1 => ?_) (fun h7_1 => ?_)
  · skip
    refine lv_ldc hx hb S.2.2.2.1 (S.2.2.2.2 _ ql_FF_105) d_FF_local_32 ?_
    exact k_iret hx hb hr hlocks hK hP hD hS (by rw [f_FF_local, if_pos h7_1]) rfl d_FF_local_34
  · skip
    refine lv_iload_n hx hb d_FF_local_10 rfl (lv_at hl 1 rfl) ?_
    refine lv_if_lt (tgt := 32) hx hb d_FF_local_11 (by decide) (fun h11_2 => ?_) (fun h11_2 => ?_)
    · skip
      refine lv_ldc hx hb S.2.2.2.1 (S.2.2.2.2 _ ql_FF_105) d_FF_local_32 ?_
      exact k_iret hx hb hr hlocks hK hP hD hS (by rw [f_FF_local, if_neg h7_1, if_pos h11_2]) rfl d_FF_local_34
    · skip
      refine lv_iload_n hx hb d_FF_local_14 rfl (lv_at hl 1 rfl) ?_
      refine lv_bipush (v := 9) hx hb d_FF_local_15 (by decide) ?_
      refine lv_icmp_ge (tgt := 32) hx hb d_FF_local_17 (by decide) (fun h17_3 => ?_) (fun h17_3 => ?_)
      · skip
        refine lv_ldc hx hb S.2.2.2.1 (S.2.2.2.2 _ ql_FF_105) d_FF_local_32 ?_
        exact k_iret hx hb hr hlocks hK hP hD hS (by rw [f_FF_local, if_neg h7_1, if_neg h11_2, if_pos h17_3]) rfl d_FF_local_34
      · skip
        refine lv_aload_n hx hb d_FF_local_20 rfl (lv_at hl 0 rfl) ?_
        refine k_get (v := .ref ma) S in_FF hK hP 0 rfl rfl 3 (by decide) ql_FF_35 rfl d_FF_local_21 ?_
        refine k_get (v := .ref ma_lo) S in_MA hK hP 1 rfl rfl 0 (by decide) ql_FF_154 rfl d_FF_local_24 ?_
        refine lv_iload_n hx hb d_FF_local_27 rfl (lv_at hl 1 rfl) ?_
        refine k_top (y := nI (tn u)) (tn_eq (by assumption)) ?_
        refine k_ld (k := tn u) hx hb hK hP 2 0 rfl rfl rfl (by have := tn_lt (n := 9) (x := u) (by assumption) (by omega) (by assumption); omega) (by decide) d_FF_local_28 ?_
        refine lv_goto (tgt := 34) hx hb d_FF_local_29 (by decide) ?_
        exact k_iret hx hb hr hlocks hK hP hD hS (by rw [f_FF_local, if_neg h7_1, if_neg h11_2, if_neg h17_3]) rfl d_FF_local_34
