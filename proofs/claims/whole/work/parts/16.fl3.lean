def seen (st : Nat → Int32) : Nat → Int32 → Bool
  | 0, _ => false
  | b + 1, x => seen st b x || decide (st b = x)
theorem seen_ex {st : Nat → Int32} : ∀ {b : Nat} {x : Int32}, seen st b x = true → ∃ k, k < b ∧ st k = x := by
  intro b
  induction b with
  | zero => intro x h; cases h
  | succ b ih =>
    intro x h
    rw [seen, Bool.or_eq_true, decide_eq_true_eq] at h
    rcases h with h | h
    · obtain ⟨k, hk, e⟩ := ih h; exact ⟨k, by omega, e⟩
    · exact ⟨b, by omega, h⟩
theorem seen_of {st : Nat → Int32} {k : Nat} {x : Int32} (e : st k = x) : ∀ {b : Nat}, k < b → seen st b x = true := by
  intro b
  induction b with
  | zero => intro h; omega
  | succ b ih =>
    intro h
    rw [seen, Bool.or_eq_true, decide_eq_true_eq]
    by_cases hk : k = b
    · right; rw [← hk]; exact e
    · left; exact ih (by omega)
theorem seen_upd {st : Nat → Int32} {j : Nat} {v : Int32} : ∀ {b : Nat} {x : Int32}, b ≤ j → seen (upd st j v) b x = seen st b x := by
  intro b
  induction b with
  | zero => intro x h; rfl
  | succ b ih => intro x h; rw [seen, seen, ih (by omega), pk_un (by omega)]
theorem tk_lp (b : Nat) (st : Nat → Int32) : ∀ (kf i : Nat) (t : Int32), i + kf = b → t = (if seen st i (st b) = true then 1 else 0) → lp_MO_taken b st kf i t = (if seen st b (st b) = true then 1 else 0) := by
  intro kf
  induction kf with
  | zero => intro i t h ht; have e : i = b := (by omega); rw [lp_MO_taken, ht, e]
  | succ kf ih =>
    intro i t h ht
    rw [lp_MO_taken]
    have e : seen st (i + 1) (st b) = (seen st i (st b) || decide (st i = st b)) := rfl
    by_cases h1 : seen st i (st b) = true
    · rw [if_pos h1] at ht
      rw [ht, if_neg (by decide)]
      exact ih _ _ (by omega) (by rw [if_pos (by rw [e, h1]; rfl)])
    · rw [if_neg h1] at ht
      rw [ht, if_pos rfl]
      have h1' : seen st i (st b) = false := by cases hh : seen st i (st b) <;> simp_all
      by_cases h2 : st i = st b
      · rw [if_pos h2]
        exact ih _ _ (by omega) (by rw [if_pos (by rw [e, h1', h2]; simp)])
      · rw [if_neg h2]
        exact ih _ _ (by omega) (by rw [if_neg (by rw [e, h1']; simp [h2])])
theorem tk_eq (b : Nat) (st : Nat → Int32) : f_MO_taken b st = (if seen st b (st b) = true then 1 else 0) := tk_lp b st b 0 0 (by omega) rfl
theorem tk_0 (b : Nat) (st : Nat → Int32) : f_MO_taken b st = 0 ↔ seen st b (st b) = false := by
  rw [tk_eq]
  by_cases h : seen st b (st b) = true
  · rw [if_pos h, h]; constructor <;> intro h2 <;> cases h2
  · rw [if_neg h]
    have : seen st b (st b) = false := by cases hh : seen st b (st b) <;> simp_all
    rw [this]; exact ⟨fun _ => rfl, fun _ => rfl⟩
theorem rank_rk (b : Nat) (st : Nat → Int32) : ∀ (kf i t bc : Nat), i + kf = bc → t = rk st i (st b) → lp_MO_rank b st kf i t = rk st bc (st b) := by
  intro kf
  induction kf with
  | zero => intro i t bc h ht; have e : i = bc := (by omega); rw [lp_MO_rank, ht, e]
  | succ kf ih =>
    intro i t bc h ht
    rw [lp_MO_rank]
    by_cases h1 : st b ≤ st i
    · rw [if_pos h1]
      refine ih _ _ _ (by omega) ?_
      rw [rk, if_neg (by rw [i32_lt_iff]; rw [Int32.le_iff_toInt_le] at h1; omega), ht]
    · rw [if_neg h1]
      refine ih _ _ _ (by omega) ?_
      rw [rk, if_pos (by rw [i32_lt_iff]; rw [Int32.le_iff_toInt_le] at h1; omega), ht]
theorem rank_eq (b bc : Nat) (st : Nat → Int32) : f_MO_rank b bc st = rk st bc (st b) := rank_rk b st bc 0 0 bc (by omega) rfl
theorem rk_self (st : Nat → Int32) (c : Nat) {b : Nat} (hb : b < c) : rk st c (st b) < c := by
  induction c with
  | zero => omega
  | succ c ih =>
    rw [rk]
    by_cases h : b = c
    · subst h
      have h1 : ¬ st b < st b := by rw [i32_lt_iff]; omega
      rw [if_neg h1]
      have := rk_le st b (st b)
      omega
    · have := ih (by omega)
      split <;> omega

theorem d_MO_drawAll_0 : decode b_MO_drawAll 0 = .ok (.iconst 0, 1) := by decide +kernel
theorem d_MO_drawAll_1 : decode b_MO_drawAll 1 = .ok (.istore_n 1, 1) := by decide +kernel
theorem d_MO_drawAll_2 : decode b_MO_drawAll 2 = .ok (.iload_n 1, 1) := by decide +kernel
theorem d_MO_drawAll_3 : decode b_MO_drawAll 3 = .ok (.aload_n 0, 1) := by decide +kernel
theorem d_MO_drawAll_4 : decode b_MO_drawAll 4 = .ok (.getfield 116, 3) := by decide +kernel
theorem d_MO_drawAll_7 : decode b_MO_drawAll 7 = .ok (.if_icmp .ge 40, 3) := by decide +kernel
theorem d_MO_drawAll_10 : decode b_MO_drawAll 10 = .ok (.aload_n 0, 1) := by decide +kernel
theorem d_MO_drawAll_11 : decode b_MO_drawAll 11 = .ok (.getfield 44, 3) := by decide +kernel
theorem d_MO_drawAll_14 : decode b_MO_drawAll 14 = .ok (.iload_n 1, 1) := by decide +kernel
theorem d_MO_drawAll_15 : decode b_MO_drawAll 15 = .ok (.aload_n 0, 1) := by decide +kernel
theorem d_MO_drawAll_16 : decode b_MO_drawAll 16 = .ok (.invokevirtual 127, 3) := by decide +kernel
theorem d_MO_drawAll_19 : decode b_MO_drawAll 19 = .ok (.iastore, 1) := by decide +kernel
theorem d_MO_drawAll_20 : decode b_MO_drawAll 20 = .ok (.aload_n 0, 1) := by decide +kernel
theorem d_MO_drawAll_21 : decode b_MO_drawAll 21 = .ok (.iload_n 1, 1) := by decide +kernel
theorem d_MO_drawAll_22 : decode b_MO_drawAll 22 = .ok (.invokevirtual 130, 3) := by decide +kernel
theorem d_MO_drawAll_25 : decode b_MO_drawAll 25 = .ok (.ifCond .eq 16, 3) := by decide +kernel
theorem d_MO_drawAll_28 : decode b_MO_drawAll 28 = .ok (.aload_n 0, 1) := by decide +kernel
theorem d_MO_drawAll_29 : decode b_MO_drawAll 29 = .ok (.getfield 44, 3) := by decide +kernel
theorem d_MO_drawAll_32 : decode b_MO_drawAll 32 = .ok (.iload_n 1, 1) := by decide +kernel
theorem d_MO_drawAll_33 : decode b_MO_drawAll 33 = .ok (.aload_n 0, 1) := by decide +kernel
theorem d_MO_drawAll_34 : decode b_MO_drawAll 34 = .ok (.invokevirtual 127, 3) := by decide +kernel
theorem d_MO_drawAll_37 : decode b_MO_drawAll 37 = .ok (.iastore, 1) := by decide +kernel
theorem d_MO_drawAll_38 : decode b_MO_drawAll 38 = .ok (.goto (-18), 3) := by decide +kernel
theorem d_MO_drawAll_41 : decode b_MO_drawAll 41 = .ok (.iinc 1 1, 3) := by decide +kernel
theorem d_MO_drawAll_44 : decode b_MO_drawAll 44 = .ok (.goto (-42), 3) := by decide +kernel
theorem d_MO_drawAll_47 : decode b_MO_drawAll 47 = .ok (.iconst 0, 1) := by decide +kernel
theorem d_MO_drawAll_48 : decode b_MO_drawAll 48 = .ok (.istore_n 1, 1) := by decide +kernel
theorem d_MO_drawAll_49 : decode b_MO_drawAll 49 = .ok (.iload_n 1, 1) := by decide +kernel
theorem d_MO_drawAll_50 : decode b_MO_drawAll 50 = .ok (.aload_n 0, 1) := by decide +kernel
theorem d_MO_drawAll_51 : decode b_MO_drawAll 51 = .ok (.getfield 116, 3) := by decide +kernel
theorem d_MO_drawAll_54 : decode b_MO_drawAll 54 = .ok (.if_icmp .ge 20, 3) := by decide +kernel
theorem d_MO_drawAll_57 : decode b_MO_drawAll 57 = .ok (.aload_n 0, 1) := by decide +kernel
theorem d_MO_drawAll_58 : decode b_MO_drawAll 58 = .ok (.getfield 53, 3) := by decide +kernel
theorem d_MO_drawAll_61 : decode b_MO_drawAll 61 = .ok (.aload_n 0, 1) := by decide +kernel
theorem d_MO_drawAll_62 : decode b_MO_drawAll 62 = .ok (.iload_n 1, 1) := by decide +kernel
theorem d_MO_drawAll_63 : decode b_MO_drawAll 63 = .ok (.invokevirtual 133, 3) := by decide +kernel
theorem d_MO_drawAll_66 : decode b_MO_drawAll 66 = .ok (.iload_n 1, 1) := by decide +kernel
theorem d_MO_drawAll_67 : decode b_MO_drawAll 67 = .ok (.iastore, 1) := by decide +kernel
theorem d_MO_drawAll_68 : decode b_MO_drawAll 68 = .ok (.iinc 1 1, 3) := by decide +kernel
theorem d_MO_drawAll_71 : decode b_MO_drawAll 71 = .ok (.goto (-22), 3) := by decide +kernel
theorem d_MO_drawAll_74 : decode b_MO_drawAll 74 = .ok (.iconst 0, 1) := by decide +kernel
theorem d_MO_drawAll_75 : decode b_MO_drawAll 75 = .ok (.istore_n 1, 1) := by decide +kernel
theorem d_MO_drawAll_76 : decode b_MO_drawAll 76 = .ok (.iload_n 1, 1) := by decide +kernel
theorem d_MO_drawAll_77 : decode b_MO_drawAll 77 = .ok (.aload_n 0, 1) := by decide +kernel
theorem d_MO_drawAll_78 : decode b_MO_drawAll 78 = .ok (.getfield 116, 3) := by decide +kernel
theorem d_MO_drawAll_81 : decode b_MO_drawAll 81 = .ok (.if_icmp .ge 41, 3) := by decide +kernel
theorem d_MO_drawAll_84 : decode b_MO_drawAll 84 = .ok (.iconst 0, 1) := by decide +kernel
theorem d_MO_drawAll_85 : decode b_MO_drawAll 85 = .ok (.istore_n 2, 1) := by decide +kernel
theorem d_MO_drawAll_86 : decode b_MO_drawAll 86 = .ok (.iload_n 2, 1) := by decide +kernel
theorem d_MO_drawAll_87 : decode b_MO_drawAll 87 = .ok (.iconst 4, 1) := by decide +kernel
theorem d_MO_drawAll_88 : decode b_MO_drawAll 88 = .ok (.if_icmp .ge 28, 3) := by decide +kernel
theorem d_MO_drawAll_91 : decode b_MO_drawAll 91 = .ok (.aload_n 0, 1) := by decide +kernel
theorem d_MO_drawAll_92 : decode b_MO_drawAll 92 = .ok (.getfield 50, 3) := by decide +kernel
theorem d_MO_drawAll_95 : decode b_MO_drawAll 95 = .ok (.iconst 4, 1) := by decide +kernel
theorem d_MO_drawAll_96 : decode b_MO_drawAll 96 = .ok (.aload_n 0, 1) := by decide +kernel
theorem d_MO_drawAll_97 : decode b_MO_drawAll 97 = .ok (.getfield 53, 3) := by decide +kernel
theorem d_MO_drawAll_100 : decode b_MO_drawAll 100 = .ok (.iload_n 1, 1) := by decide +kernel
theorem d_MO_drawAll_101 : decode b_MO_drawAll 101 = .ok (.iaload, 1) := by decide +kernel
theorem d_MO_drawAll_102 : decode b_MO_drawAll 102 = .ok (.imul, 1) := by decide +kernel
theorem d_MO_drawAll_103 : decode b_MO_drawAll 103 = .ok (.iload_n 2, 1) := by decide +kernel
theorem d_MO_drawAll_104 : decode b_MO_drawAll 104 = .ok (.iadd, 1) := by decide +kernel
theorem d_MO_drawAll_105 : decode b_MO_drawAll 105 = .ok (.aload_n 0, 1) := by decide +kernel
theorem d_MO_drawAll_106 : decode b_MO_drawAll 106 = .ok (.invokevirtual 127, 3) := by decide +kernel
theorem d_MO_drawAll_109 : decode b_MO_drawAll 109 = .ok (.iastore, 1) := by decide +kernel
theorem d_MO_drawAll_110 : decode b_MO_drawAll 110 = .ok (.iinc 2 1, 3) := by decide +kernel
theorem d_MO_drawAll_113 : decode b_MO_drawAll 113 = .ok (.goto (-27), 3) := by decide +kernel
theorem d_MO_drawAll_116 : decode b_MO_drawAll 116 = .ok (.iinc 1 1, 3) := by decide +kernel
theorem d_MO_drawAll_119 : decode b_MO_drawAll 119 = .ok (.goto (-43), 3) := by decide +kernel
theorem d_MO_drawAll_122 : decode b_MO_drawAll 122 = .ok (.return_, 1) := by decide +kernel
noncomputable def lr_MO_drawAll (b : Nat) : Nat → (Nat → Int32) → Int32 → (Nat → Int32) × Int32
  | 0, st2, g2 => (st2, g2)
  | kf + 1, st2, g2 => (if f_MO_taken b st2 = 0 then (st2, g2) else (lr_MO_drawAll b kf (upd st2 b (dr (gn g2))) (gn g2)))
noncomputable def lpA_MO_drawAll  : Nat → Nat → (Nat → Int32) → Int32 → (Nat → Int32) × Int32
  | 0, b, st1, g1 => (st1, g1)
  | kf + 1, b, st1, g1 => (lpA_MO_drawAll kf (b + 1) ((lr_MO_drawAll b 7936 (upd st1 b (dr (gn g1))) (gn g1)).1) ((lr_MO_drawAll b 7936 (upd st1 b (dr (gn g1))) (gn g1)).2))
def lpB_MO_drawAll (bc : Nat) (st9 : Nat → Int32) : Nat → Nat → (Nat → Int32) → (Nat → Int32)
  | 0, b, od1 => od1
  | kf + 1, b, od1 => (lpB_MO_drawAll bc st9 kf (b + 1) (upd od1 (f_MO_rank b bc st9) (nI b)))
noncomputable def lpD_MO_drawAll (od9 : Nat → Int32) (q : Nat) : Nat → Nat → (Nat → Int32) → Int32 → (Nat → Int32) × Int32
  | 0, k2, dw2, g4 => (dw2, g4)
  | kf + 1, k2, dw2, g4 => (lpD_MO_drawAll od9 q kf (k2 + 1) (upd dw2 (4 * (tn (od9 q)) + k2) (dr (gn g4))) (gn g4))
noncomputable def lpC_MO_drawAll (od9 : Nat → Int32) : Nat → Nat → (Nat → Int32) → Int32 → (Nat → Int32) × Int32
  | 0, q, dw1, g3 => (dw1, g3)
  | kf + 1, q, dw1, g3 => (lpC_MO_drawAll od9 kf (q + 1) ((lpD_MO_drawAll od9 q 4 0 dw1 g3).1) ((lpD_MO_drawAll od9 q 4 0 dw1 g3).2))
noncomputable def f_MO_drawAll (bc : Nat) (gg : Int32) (st : Nat → Int32) (od : Nat → Int32) (dw : Nat → Int32) : Int32 × (Nat → Int32) × (Nat → Int32) × (Nat → Int32) := ((lpC_MO_drawAll (lpB_MO_drawAll bc ((lpA_MO_drawAll bc 0 st gg).1) bc 0 od) bc 0 dw ((lpA_MO_drawAll bc 0 st gg).2)).2, ((lpA_MO_drawAll bc 0 st gg).1), (lpB_MO_drawAll bc ((lpA_MO_drawAll bc 0 st gg).1) bc 0 od), (lpC_MO_drawAll (lpB_MO_drawAll bc ((lpA_MO_drawAll bc 0 st gg).1) bc 0 od) bc 0 dw ((lpA_MO_drawAll bc 0 st gg).2)).1)
theorem lr_rd (b : Nat) (st0 : Nat → Int32) : ∀ (kf : Nat) (st : Nat → Int32) (g : Int32), st b = dr g → (∀ k, k < b → st k = st0 k) → (lr_MO_drawAll b kf st g).2 = rd (seen st0 b) kf g ∧ (lr_MO_drawAll b kf st g).1 b = dr (rd (seen st0 b) kf g) ∧ ∀ k, k < b → (lr_MO_drawAll b kf st g).1 k = st0 k := by
  intro kf
  induction kf with
  | zero => intro st g h1 h2; exact ⟨rfl, h1, h2⟩
  | succ kf ih =>
    intro st g h1 h2
    have hs : ∀ c x, c ≤ b → seen st c x = seen st0 c x := by
      intro c
      induction c with
      | zero => intro x _; rfl
      | succ c ihc => intro x hc; rw [seen, seen, ihc x (by omega), h2 c (by omega)]
    rw [lr_MO_drawAll]
    unfold rd
    rw [rdh]
    by_cases h3 : f_MO_taken b st = 0
    · have h4 := (tk_0 b st).mp h3
      rw [hs b _ (Nat.le_refl _), h1] at h4
      rw [if_pos h3, if_neg (by rw [h4]; decide)]
      exact ⟨rfl, h1, h2⟩
    · have h4 : seen st0 b (dr g) = true := by
        cases hh : seen st0 b (dr g) with
        | true => rfl
        | false => exact absurd ((tk_0 b st).mpr (by rw [hs b _ (Nat.le_refl _), h1]; exact hh)) h3
      rw [if_neg h3, if_pos h4]
      exact ih _ _ pk_us (fun k hk => by rw [pk_un (by omega)]; exact h2 k hk)
theorem taken_ends {b : Nat} (hb : b ≤ 31) (st : Nat → Int32) (g : Int32) (h : st b = dr g) : f_MO_taken b (lr_MO_drawAll b 7936 st g).1 = 0 := by
  obtain ⟨h1, h2, h3⟩ := lr_rd b st 7936 st g h (fun _ _ => rfl)
  rw [tk_0, h2]
  have hs : ∀ c x, c ≤ b → seen (lr_MO_drawAll b 7936 st g).1 c x = seen st c x := by
    intro c
    induction c with
    | zero => intro x _; rfl
    | succ c ihc => intro x hc; rw [seen, seen, ihc x (by omega), h3 c (by omega)]
  rw [hs b _ (Nat.le_refl _)]
  exact rd_ends hb (fun x hx => seen_ex hx) g
set_option maxHeartbeats 1000000 in
set_option maxRecDepth 100000 in
theorem c_MO_drawAll (l : Launch) (D : va_G) (cI cZ : ClassId) (a q_op q_arg q_handler q_depth q_over q_flatOp q_flatArg q_flatHandler q_leader q_last q_height q_state q_begin q_drawn q_order q_starters q_emitted q_locals q_stack : Nat) (x_count x_handlers x_flatCount x_flatHandlers x_ran x_ended x_result x_steps x_emits x_top x_at : Int32) (bc : Nat) (gg : Int32) (st od dw : Nat → Int32) (hb32 : bc ≤ 32) (hod : ∀ q, q < bc → Nn (lpB_MO_drawAll bc (lpA_MO_drawAll bc 0 st gg).1 bc 0 od) q bc) : MG l y_MO_drawAll w_MO_drawAll (rmK 1 23) D classes (tyz cI cZ) E0 [.ref a] [(a, .inr (7, [.int x_count, .ref q_op, .ref q_arg, .int x_handlers, .ref q_handler, .ref q_depth, .ref q_over, .int x_flatCount, .ref q_flatOp, .ref q_flatArg, .int x_flatHandlers, .ref q_flatHandler, .int (nI bc), .ref q_leader, .ref q_last, .ref q_height, .ref q_state, .ref q_begin, .ref q_drawn, .ref q_order, .int gg, .ref q_starters, .int x_ran, .int x_ended, .int x_result, .int x_steps, .int x_emits, .ref q_emitted, .ref q_locals, .ref q_stack, .int x_top, .int x_at])), (q_state, .inl (cI, 32, .inl st)), (q_order, .inl (cI, 32, .inl od)), (q_drawn, .inl (cI, 128, .inl dw))] (RV D classes (tyz cI cZ) [(a, .inr (7, [.int x_count, .ref q_op, .ref q_arg, .int x_handlers, .ref q_handler, .ref q_depth, .ref q_over, .int x_flatCount, .ref q_flatOp, .ref q_flatArg, .int x_flatHandlers, .ref q_flatHandler, .int (nI bc), .ref q_leader, .ref q_last, .ref q_height, .ref q_state, .ref q_begin, .ref q_drawn, .ref q_order, .int ((f_MO_drawAll bc gg st od dw).1), .ref q_starters, .int x_ran, .int x_ended, .int x_result, .int x_steps, .int x_emits, .ref q_emitted, .ref q_locals, .ref q_stack, .int x_top, .int x_at])), (q_state, .inl (cI, 32, .inl ((f_MO_drawAll bc gg st od dw).2.1))), (q_order, .inl (cI, 32, .inl ((f_MO_drawAll bc gg st od dw).2.2.1))), (q_drawn, .inl (cI, 128, .inl ((f_MO_drawAll bc gg st od dw).2.2.2)))]) := by
  refine MG.of (cc := b_MO_drawAll) (maxL := 3) (ret := none) (own := "FlowFlattenerModel") rfl (by decide) rfl (Nat.le_of_ble_eq_true rfl) ?_
  intro p e s m below meth c A ls S hr hlocks hA hP hK hD hS hE hl
  have hx := S.1
  have hb := S.2.1
  have hl : lv_has ls 3 [(0, .ref a)] := hl
  refine lv_iconst (v := nI 0) hx hb d_MO_drawAll_0 (by decide) ?_
  refine lv_istore_n (lv' := [(1, .int (nI 0)), (0, .ref a)]) hx hb d_MO_drawAll_1 rfl hl (by decide) rfl (fun ls hl => ?_)
  have LP2 : ∀ (kf : Nat) (b : Nat) (st1 : Nat → Int32) (g1 : Int32), (b + kf = bc) → ∀ (ls : Array Slot) (H : Heap) (locs : List Loc), lv_has ls 3 [(0, .ref a), (1, .int (nI b))] → va_P D classes [(a, .inr (7, [.int x_count, .ref q_op, .ref q_arg, .int x_handlers, .ref q_handler, .ref q_depth, .ref q_over, .int x_flatCount, .ref q_flatOp, .ref q_flatArg, .int x_flatHandlers, .ref q_flatHandler, .int (nI bc), .ref q_leader, .ref q_last, .ref q_height, .ref q_state, .ref q_begin, .ref q_drawn, .ref q_order, .int g1, .ref q_starters, .int x_ran, .int x_ended, .int x_result, .int x_steps, .int x_emits, .ref q_emitted, .ref q_locals, .ref q_stack, .int x_top, .int x_at])), (q_state, .inl (cI, 32, .inl st1)), (q_order, .inl (cI, 32, .inl od)), (q_drawn, .inl (cI, 128, .inl dw))] H → va_D A [(a, .inr (7, [.int x_count, .ref q_op, .ref q_arg, .int x_handlers, .ref q_handler, .ref q_depth, .ref q_over, .int x_flatCount, .ref q_flatOp, .ref q_flatArg, .int x_flatHandlers, .ref q_flatHandler, .int (nI bc), .ref q_leader, .ref q_last, .ref q_height, .ref q_state, .ref q_begin, .ref q_drawn, .ref q_order, .int g1, .ref q_starters, .int x_ran, .int x_ended, .int x_result, .int x_steps, .int x_emits, .ref q_emitted, .ref q_locals, .ref q_stack, .int x_top, .int x_at])), (q_state, .inl (cI, 32, .inl st1)), (q_order, .inl (cI, 32, .inl od)), (q_drawn, .inl (cI, 128, .inl dw))] → va_S A s.heap H locs → (∀ (ls : Array Slot) (H : Heap) (locs : List Loc), lv_has ls 3 [(0, .ref a)] → va_P D classes [(a, .inr (7, [.int x_count, .ref q_op, .ref q_arg, .int x_handlers, .ref q_handler, .ref q_depth, .ref q_over, .int x_flatCount, .ref q_flatOp, .ref q_flatArg, .int x_flatHandlers, .ref q_flatHandler, .int (nI bc), .ref q_leader, .ref q_last, .ref q_height, .ref q_state, .ref q_begin, .ref q_drawn, .ref q_order, .int ((lpA_MO_drawAll kf b st1 g1).2), .ref q_starters, .int x_ran, .int x_ended, .int x_result, .int x_steps, .int x_emits, .ref q_emitted, .ref q_locals, .ref q_stack, .int x_top, .int x_at])), (q_state, .inl (cI, 32, .inl ((lpA_MO_drawAll kf b st1 g1).1))), (q_order, .inl (cI, 32, .inl od)), (q_drawn, .inl (cI, 128, .inl dw))] H → va_D A [(a, .inr (7, [.int x_count, .ref q_op, .ref q_arg, .int x_handlers, .ref q_handler, .ref q_depth, .ref q_over, .int x_flatCount, .ref q_flatOp, .ref q_flatArg, .int x_flatHandlers, .ref q_flatHandler, .int (nI bc), .ref q_leader, .ref q_last, .ref q_height, .ref q_state, .ref q_begin, .ref q_drawn, .ref q_order, .int ((lpA_MO_drawAll kf b st1 g1).2), .ref q_starters, .int x_ran, .int x_ended, .int x_result, .int x_steps, .int x_emits, .ref q_emitted, .ref q_locals, .ref q_stack, .int x_top, .int x_at])), (q_state, .inl (cI, 32, .inl ((lpA_MO_drawAll kf b st1 g1).1))), (q_order, .inl (cI, 32, .inl od)), (q_drawn, .inl (cI, 128, .inl dw))] → va_S A s.heap H locs → W p l e (rmK 1 23) s m [.ref a].toArray below meth c H locs 0 0 (MQ below (RV D classes (tyz cI cZ) [(a, .inr (7, [.int x_count, .ref q_op, .ref q_arg, .int x_handlers, .ref q_handler, .ref q_depth, .ref q_over, .int x_flatCount, .ref q_flatOp, .ref q_flatArg, .int x_flatHandlers, .ref q_flatHandler, .int (nI bc), .ref q_leader, .ref q_last, .ref q_height, .ref q_state, .ref q_begin, .ref q_drawn, .ref q_order, .int ((f_MO_drawAll bc gg st od dw).1), .ref q_starters, .int x_ran, .int x_ended, .int x_result, .int x_steps, .int x_emits, .ref q_emitted, .ref q_locals, .ref q_stack, .int x_top, .int x_at])), (q_state, .inl (cI, 32, .inl ((f_MO_drawAll bc gg st od dw).2.1))), (q_order, .inl (cI, 32, .inl ((f_MO_drawAll bc gg st od dw).2.2.1))), (q_drawn, .inl (cI, 128, .inl ((f_MO_drawAll bc gg st od dw).2.2.2)))] A) [.ref a].toArray s 0 0 A) (F0 m 47 ls [])) → W p l e (rmK 1 23) s m [.ref a].toArray below meth c H locs 0 0 (MQ below (RV D classes (tyz cI cZ) [(a, .inr (7, [.int x_count, .ref q_op, .ref q_arg, .int x_handlers, .ref q_handler, .ref q_depth, .ref q_over, .int x_flatCount, .ref q_flatOp, .ref q_flatArg, .int x_flatHandlers, .ref q_flatHandler, .int (nI bc), .ref q_leader, .ref q_last, .ref q_height, .ref q_state, .ref q_begin, .ref q_drawn, .ref q_order, .int ((f_MO_drawAll bc gg st od dw).1), .ref q_starters, .int x_ran, .int x_ended, .int x_result, .int x_steps, .int x_emits, .ref q_emitted, .ref q_locals, .ref q_stack, .int x_top, .int x_at])), (q_state, .inl (cI, 32, .inl ((f_MO_drawAll bc gg st od dw).2.1))), (q_order, .inl (cI, 32, .inl ((f_MO_drawAll bc gg st od dw).2.2.1))), (q_drawn, .inl (cI, 128, .inl ((f_MO_drawAll bc gg st od dw).2.2.2)))] A) [.ref a].toArray s 0 0 A) (F0 m 2 ls []) := by
    intro kf
    induction kf with
    | zero =>
      intro b st1 g1 hk ls H locs hl hP hD hS kk
      refine lv_iload_n hx hb d_MO_drawAll_2 rfl (lv_at hl 1 rfl) ?_
      refine lv_aload_n hx hb d_MO_drawAll_3 rfl (lv_at hl 0 rfl) ?_
      refine k_get (v := .int (nI bc)) S in_MO hK hP 0 rfl rfl 12 (by decide) ql_MO_116 rfl d_MO_drawAll_4 ?_
      refine n_icmp_ge (tgt := 47) (x := b) (y := bc) hx hb rfl rfl (by omega) (by omega) d_MO_drawAll_7 (by decide) (fun h7_1 => ?_) (fun h7_1 => absurd h7_1 (by omega))
      have e9 : lpA_MO_drawAll 0 b st1 g1 = (st1, g1) := by rw [lpA_MO_drawAll]
      rw [e9] at kk
      exact kk _ _ _ (lv_sub hl [0] rfl) hP hD hS
    | succ kf ih =>
      intro b st1 g1 hk ls H locs hl hP hD hS kk
      refine lv_iload_n hx hb d_MO_drawAll_2 rfl (lv_at hl 1 rfl) ?_
      refine lv_aload_n hx hb d_MO_drawAll_3 rfl (lv_at hl 0 rfl) ?_
      refine k_get (v := .int (nI bc)) S in_MO hK hP 0 rfl rfl 12 (by decide) ql_MO_116 rfl d_MO_drawAll_4 ?_
      refine n_icmp_ge (tgt := 47) (x := b) (y := bc) hx hb rfl rfl (by omega) (by omega) d_MO_drawAll_7 (by decide) (fun h7_2 => absurd h7_2 (by omega)) (fun h7_2 => ?_)
      refine lv_aload_n hx hb d_MO_drawAll_10 rfl (lv_at hl 0 rfl) ?_
      refine k_get (v := .ref q_state) S in_MO hK hP 0 rfl rfl 16 (by decide) ql_MO_44 rfl d_MO_drawAll_11 ?_
      refine lv_iload_n hx hb d_MO_drawAll_14 rfl (lv_at hl 1 rfl) ?_
      refine lv_aload_n hx hb d_MO_drawAll_15 rfl (lv_at hl 0 rfl) ?_
      refine k_goi (ws' := [(a, .inr (7, [.int x_count, .ref q_op, .ref q_arg, .int x_handlers, .ref q_handler, .ref q_depth, .ref q_over, .int x_flatCount, .ref q_flatOp, .ref q_flatArg, .int x_flatHandlers, .ref q_flatHandler, .int (nI bc), .ref q_leader, .ref q_last, .ref q_height, .ref q_state, .ref q_begin, .ref q_drawn, .ref q_order, .int (gn g1), .ref q_starters, .int x_ran, .int x_ended, .int x_result, .int x_steps, .int x_emits, .ref q_emitted, .ref q_locals, .ref q_stack, .int x_top, .int x_at])), (q_state, .inl (cI, 32, .inl st1)), (q_order, .inl (cI, 32, .inl od)), (q_drawn, .inl (cI, 128, .inl dw))]) (wr := [(q_state, .inl (cI, 32, .inl st1)), (q_order, .inl (cI, 32, .inl od)), (q_drawn, .inl (cI, 128, .inl dw))]) (k_runV (q0 := 0) (As := []) (rest := [.int (nI b), .ref q_state]) (n := 0) S (c_MO_draw l D cI cZ a q_op q_arg q_handler q_depth q_over q_flatOp q_flatArg q_flatHandler q_leader q_last q_height q_state q_begin q_drawn q_order q_starters q_emitted q_locals q_stack x_count x_handlers x_flatCount x_flatHandlers (nI bc) x_ran x_ended x_result x_steps x_emits x_top x_at g1) E0_b E0_t ql_MO_127 qi_MO_draw qs_MO_draw qn_MO qc_MO_draw (by decide +kernel) rfl ⟨rfl, rfl⟩ ⟨Nat.le_of_ble_eq_true rfl, Nat.le_of_ble_eq_true rfl⟩ hK hP hD [0] rfl (by decide) rfl rfl hl.1 rfl (Nat.le_of_ble_eq_true rfl) d_MO_drawAll_16 ⟨Nat.zero_le _, Nat.zero_le _⟩) hP hD hS hA [0] [1, 2, 3] [3, 0, 1, 2] rfl rfl (by decide) (by decide) rfl (by decide) (fun H locs hP hD hS => ?_)
      refine k_st (k := b) (x := dr (gn g1)) (ws' := [(a, .inr (7, [.int x_count, .ref q_op, .ref q_arg, .int x_handlers, .ref q_handler, .ref q_depth, .ref q_over, .int x_flatCount, .ref q_flatOp, .ref q_flatArg, .int x_flatHandlers, .ref q_flatHandler, .int (nI bc), .ref q_leader, .ref q_last, .ref q_height, .ref q_state, .ref q_begin, .ref q_drawn, .ref q_order, .int (gn g1), .ref q_starters, .int x_ran, .int x_ended, .int x_result, .int x_steps, .int x_emits, .ref q_emitted, .ref q_locals, .ref q_stack, .int x_top, .int x_at])), (q_state, .inl (cI, 32, .inl (upd st1 b (dr (gn g1))))), (q_order, .inl (cI, 32, .inl od)), (q_drawn, .inl (cI, 128, .inl dw))]) hx hb hK hP hD hS 1 0 rfl rfl rfl (by omega) (by decide) rfl d_MO_drawAll_19 (fun H locs hP hD hS => ?_)
      have LP20 : ∀ (kf : Nat) (st2 : Nat → Int32) (g2 : Int32), (f_MO_taken b (lr_MO_drawAll b kf st2 g2).1 = 0) → ∀ (ls : Array Slot) (H : Heap) (locs : List Loc), lv_has ls 3 [(0, .ref a), (1, .int (nI b))] → va_P D classes [(a, .inr (7, [.int x_count, .ref q_op, .ref q_arg, .int x_handlers, .ref q_handler, .ref q_depth, .ref q_over, .int x_flatCount, .ref q_flatOp, .ref q_flatArg, .int x_flatHandlers, .ref q_flatHandler, .int (nI bc), .ref q_leader, .ref q_last, .ref q_height, .ref q_state, .ref q_begin, .ref q_drawn, .ref q_order, .int g2, .ref q_starters, .int x_ran, .int x_ended, .int x_result, .int x_steps, .int x_emits, .ref q_emitted, .ref q_locals, .ref q_stack, .int x_top, .int x_at])), (q_state, .inl (cI, 32, .inl st2)), (q_order, .inl (cI, 32, .inl od)), (q_drawn, .inl (cI, 128, .inl dw))] H → va_D A [(a, .inr (7, [.int x_count, .ref q_op, .ref q_arg, .int x_handlers, .ref q_handler, .ref q_depth, .ref q_over, .int x_flatCount, .ref q_flatOp, .ref q_flatArg, .int x_flatHandlers, .ref q_flatHandler, .int (nI bc), .ref q_leader, .ref q_last, .ref q_height, .ref q_state, .ref q_begin, .ref q_drawn, .ref q_order, .int g2, .ref q_starters, .int x_ran, .int x_ended, .int x_result, .int x_steps, .int x_emits, .ref q_emitted, .ref q_locals, .ref q_stack, .int x_top, .int x_at])), (q_state, .inl (cI, 32, .inl st2)), (q_order, .inl (cI, 32, .inl od)), (q_drawn, .inl (cI, 128, .inl dw))] → va_S A s.heap H locs → (∀ (ls : Array Slot) (H : Heap) (locs : List Loc), lv_has ls 3 [(0, .ref a), (1, .int (nI b))] → va_P D classes [(a, .inr (7, [.int x_count, .ref q_op, .ref q_arg, .int x_handlers, .ref q_handler, .ref q_depth, .ref q_over, .int x_flatCount, .ref q_flatOp, .ref q_flatArg, .int x_flatHandlers, .ref q_flatHandler, .int (nI bc), .ref q_leader, .ref q_last, .ref q_height, .ref q_state, .ref q_begin, .ref q_drawn, .ref q_order, .int ((lr_MO_drawAll b kf st2 g2).2), .ref q_starters, .int x_ran, .int x_ended, .int x_result, .int x_steps, .int x_emits, .ref q_emitted, .ref q_locals, .ref q_stack, .int x_top, .int x_at])), (q_state, .inl (cI, 32, .inl ((lr_MO_drawAll b kf st2 g2).1))), (q_order, .inl (cI, 32, .inl od)), (q_drawn, .inl (cI, 128, .inl dw))] H → va_D A [(a, .inr (7, [.int x_count, .ref q_op, .ref q_arg, .int x_handlers, .ref q_handler, .ref q_depth, .ref q_over, .int x_flatCount, .ref q_flatOp, .ref q_flatArg, .int x_flatHandlers, .ref q_flatHandler, .int (nI bc), .ref q_leader, .ref q_last, .ref q_height, .ref q_state, .ref q_begin, .ref q_drawn, .ref q_order, .int ((lr_MO_drawAll b kf st2 g2).2), .ref q_starters, .int x_ran, .int x_ended, .int x_result, .int x_steps, .int x_emits, .ref q_emitted, .ref q_locals, .ref q_stack, .int x_top, .int x_at])), (q_state, .inl (cI, 32, .inl ((lr_MO_drawAll b kf st2 g2).1))), (q_order, .inl (cI, 32, .inl od)), (q_drawn, .inl (cI, 128, .inl dw))] → va_S A s.heap H locs → W p l e (rmK 1 23) s m [.ref a].toArray below meth c H locs 0 0 (MQ below (RV D classes (tyz cI cZ) [(a, .inr (7, [.int x_count, .ref q_op, .ref q_arg, .int x_handlers, .ref q_handler, .ref q_depth, .ref q_over, .int x_flatCount, .ref q_flatOp, .ref q_flatArg, .int x_flatHandlers, .ref q_flatHandler, .int (nI bc), .ref q_leader, .ref q_last, .ref q_height, .ref q_state, .ref q_begin, .ref q_drawn, .ref q_order, .int ((f_MO_drawAll bc gg st od dw).1), .ref q_starters, .int x_ran, .int x_ended, .int x_result, .int x_steps, .int x_emits, .ref q_emitted, .ref q_locals, .ref q_stack, .int x_top, .int x_at])), (q_state, .inl (cI, 32, .inl ((f_MO_drawAll bc gg st od dw).2.1))), (q_order, .inl (cI, 32, .inl ((f_MO_drawAll bc gg st od dw).2.2.1))), (q_drawn, .inl (cI, 128, .inl ((f_MO_drawAll bc gg st od dw).2.2.2)))] A) [.ref a].toArray s 0 0 A) (F0 m 41 ls [])) → W p l e (rmK 1 23) s m [.ref a].toArray below meth c H locs 0 0 (MQ below (RV D classes (tyz cI cZ) [(a, .inr (7, [.int x_count, .ref q_op, .ref q_arg, .int x_handlers, .ref q_handler, .ref q_depth, .ref q_over, .int x_flatCount, .ref q_flatOp, .ref q_flatArg, .int x_flatHandlers, .ref q_flatHandler, .int (nI bc), .ref q_leader, .ref q_last, .ref q_height, .ref q_state, .ref q_begin, .ref q_drawn, .ref q_order, .int ((f_MO_drawAll bc gg st od dw).1), .ref q_starters, .int x_ran, .int x_ended, .int x_result, .int x_steps, .int x_emits, .ref q_emitted, .ref q_locals, .ref q_stack, .int x_top, .int x_at])), (q_state, .inl (cI, 32, .inl ((f_MO_drawAll bc gg st od dw).2.1))), (q_order, .inl (cI, 32, .inl ((f_MO_drawAll bc gg st od dw).2.2.1))), (q_drawn, .inl (cI, 128, .inl ((f_MO_drawAll bc gg st od dw).2.2.2)))] A) [.ref a].toArray s 0 0 A) (F0 m 20 ls []) := by
        intro kf
        induction kf with
        | zero =>
          intro st2 g2 hfin ls H locs hl hP hD hS kk
          refine lv_aload_n hx hb d_MO_drawAll_20 rfl (lv_at hl 0 rfl) ?_
          refine lv_iload_n hx hb d_MO_drawAll_21 rfl (lv_at hl 1 rfl) ?_
          refine k_goi (ws' := [(a, .inr (7, [.int x_count, .ref q_op, .ref q_arg, .int x_handlers, .ref q_handler, .ref q_depth, .ref q_over, .int x_flatCount, .ref q_flatOp, .ref q_flatArg, .int x_flatHandlers, .ref q_flatHandler, .int (nI bc), .ref q_leader, .ref q_last, .ref q_height, .ref q_state, .ref q_begin, .ref q_drawn, .ref q_order, .int g2, .ref q_starters, .int x_ran, .int x_ended, .int x_result, .int x_steps, .int x_emits, .ref q_emitted, .ref q_locals, .ref q_stack, .int x_top, .int x_at])), (q_state, .inl (cI, 32, .inl st2)), (q_order, .inl (cI, 32, .inl od)), (q_drawn, .inl (cI, 128, .inl dw))]) (wr := [(q_order, .inl (cI, 32, .inl od)), (q_drawn, .inl (cI, 128, .inl dw))]) (k_runV (q0 := 0) (As := [.int (nI b)]) (rest := []) (n := 1) S (c_MO_taken l D cI cZ a q_op q_arg q_handler q_depth q_over q_flatOp q_flatArg q_flatHandler q_leader q_last q_height q_state q_begin q_drawn q_order q_starters q_emitted q_locals q_stack x_count x_handlers x_flatCount x_flatHandlers (nI bc) g2 x_ran x_ended x_result x_steps x_emits x_top x_at b st2 (by omega)) E0_b E0_t ql_MO_130 qi_MO_taken qs_MO_taken qn_MO qc_MO_taken (by decide +kernel) rfl ⟨rfl, rfl⟩ ⟨Nat.le_of_ble_eq_true rfl, Nat.le_of_ble_eq_true rfl⟩ hK hP hD [0, 1] rfl (by decide) rfl rfl hl.1 rfl (Nat.le_of_ble_eq_true rfl) d_MO_drawAll_22 ⟨Nat.zero_le _, Nat.zero_le _⟩) hP hD hS hA [0, 1] [2, 3] [2, 3, 0, 1] rfl rfl (by decide) (by decide) rfl (by decide) (fun H locs hP hD hS => ?_)
          refine lv_if_eq (tgt := 41) hx hb d_MO_drawAll_25 (by decide) (fun h25_3 => ?_) (fun h25_3 => absurd hfin h25_3)
          have e9 : lr_MO_drawAll b 0 st2 g2 = (st2, g2) := by rw [lr_MO_drawAll]
          rw [e9] at kk
          exact kk _ _ _ (lv_sub hl [0, 1] rfl) hP hD hS
        | succ kf ih =>
          intro st2 g2 hfin ls H locs hl hP hD hS kk
          refine lv_aload_n hx hb d_MO_drawAll_20 rfl (lv_at hl 0 rfl) ?_
          refine lv_iload_n hx hb d_MO_drawAll_21 rfl (lv_at hl 1 rfl) ?_
          refine k_goi (ws' := [(a, .inr (7, [.int x_count, .ref q_op, .ref q_arg, .int x_handlers, .ref q_handler, .ref q_depth, .ref q_over, .int x_flatCount, .ref q_flatOp, .ref q_flatArg, .int x_flatHandlers, .ref q_flatHandler, .int (nI bc), .ref q_leader, .ref q_last, .ref q_height, .ref q_state, .ref q_begin, .ref q_drawn, .ref q_order, .int g2, .ref q_starters, .int x_ran, .int x_ended, .int x_result, .int x_steps, .int x_emits, .ref q_emitted, .ref q_locals, .ref q_stack, .int x_top, .int x_at])), (q_state, .inl (cI, 32, .inl st2)), (q_order, .inl (cI, 32, .inl od)), (q_drawn, .inl (cI, 128, .inl dw))]) (wr := [(q_order, .inl (cI, 32, .inl od)), (q_drawn, .inl (cI, 128, .inl dw))]) (k_runV (q0 := 0) (As := [.int (nI b)]) (rest := []) (n := 1) S (c_MO_taken l D cI cZ a q_op q_arg q_handler q_depth q_over q_flatOp q_flatArg q_flatHandler q_leader q_last q_height q_state q_begin q_drawn q_order q_starters q_emitted q_locals q_stack x_count x_handlers x_flatCount x_flatHandlers (nI bc) g2 x_ran x_ended x_result x_steps x_emits x_top x_at b st2 (by omega)) E0_b E0_t ql_MO_130 qi_MO_taken qs_MO_taken qn_MO qc_MO_taken (by decide +kernel) rfl ⟨rfl, rfl⟩ ⟨Nat.le_of_ble_eq_true rfl, Nat.le_of_ble_eq_true rfl⟩ hK hP hD [0, 1] rfl (by decide) rfl rfl hl.1 rfl (Nat.le_of_ble_eq_true rfl) d_MO_drawAll_22 ⟨Nat.zero_le _, Nat.zero_le _⟩) hP hD hS hA [0, 1] [2, 3] [2, 3, 0, 1] rfl rfl (by decide) (by decide) rfl (by decide) (fun H locs hP hD hS => ?_)
          refine lv_if_eq (tgt := 41) hx hb d_MO_drawAll_25 (by decide) (fun h25_4 => ?_) (fun h25_4 => ?_)
          · skip
            have e9 : lr_MO_drawAll b (kf + 1) st2 g2 = (st2, g2) := by rw [lr_MO_drawAll, if_pos h25_4]
            rw [e9] at kk
            exact kk _ _ _ (lv_sub hl [0, 1] rfl) hP hD hS
          · skip
            refine lv_aload_n hx hb d_MO_drawAll_28 rfl (lv_at hl 0 rfl) ?_
            refine k_get (v := .ref q_state) S in_MO hK hP 0 rfl rfl 16 (by decide) ql_MO_44 rfl d_MO_drawAll_29 ?_
            refine lv_iload_n hx hb d_MO_drawAll_32 rfl (lv_at hl 1 rfl) ?_
            refine lv_aload_n hx hb d_MO_drawAll_33 rfl (lv_at hl 0 rfl) ?_
            refine k_goi (ws' := [(a, .inr (7, [.int x_count, .ref q_op, .ref q_arg, .int x_handlers, .ref q_handler, .ref q_depth, .ref q_over, .int x_flatCount, .ref q_flatOp, .ref q_flatArg, .int x_flatHandlers, .ref q_flatHandler, .int (nI bc), .ref q_leader, .ref q_last, .ref q_height, .ref q_state, .ref q_begin, .ref q_drawn, .ref q_order, .int (gn g2), .ref q_starters, .int x_ran, .int x_ended, .int x_result, .int x_steps, .int x_emits, .ref q_emitted, .ref q_locals, .ref q_stack, .int x_top, .int x_at])), (q_state, .inl (cI, 32, .inl st2)), (q_order, .inl (cI, 32, .inl od)), (q_drawn, .inl (cI, 128, .inl dw))]) (wr := [(q_state, .inl (cI, 32, .inl st2)), (q_order, .inl (cI, 32, .inl od)), (q_drawn, .inl (cI, 128, .inl dw))]) (k_runV (q0 := 0) (As := []) (rest := [.int (nI b), .ref q_state]) (n := 0) S (c_MO_draw l D cI cZ a q_op q_arg q_handler q_depth q_over q_flatOp q_flatArg q_flatHandler q_leader q_last q_height q_state q_begin q_drawn q_order q_starters q_emitted q_locals q_stack x_count x_handlers x_flatCount x_flatHandlers (nI bc) x_ran x_ended x_result x_steps x_emits x_top x_at g2) E0_b E0_t ql_MO_127 qi_MO_draw qs_MO_draw qn_MO qc_MO_draw (by decide +kernel) rfl ⟨rfl, rfl⟩ ⟨Nat.le_of_ble_eq_true rfl, Nat.le_of_ble_eq_true rfl⟩ hK hP hD [0] rfl (by decide) rfl rfl hl.1 rfl (Nat.le_of_ble_eq_true rfl) d_MO_drawAll_34 ⟨Nat.zero_le _, Nat.zero_le _⟩) hP hD hS hA [0] [1, 2, 3] [3, 0, 1, 2] rfl rfl (by decide) (by decide) rfl (by decide) (fun H locs hP hD hS => ?_)
            refine k_st (k := b) (x := dr (gn g2)) (ws' := [(a, .inr (7, [.int x_count, .ref q_op, .ref q_arg, .int x_handlers, .ref q_handler, .ref q_depth, .ref q_over, .int x_flatCount, .ref q_flatOp, .ref q_flatArg, .int x_flatHandlers, .ref q_flatHandler, .int (nI bc), .ref q_leader, .ref q_last, .ref q_height, .ref q_state, .ref q_begin, .ref q_drawn, .ref q_order, .int (gn g2), .ref q_starters, .int x_ran, .int x_ended, .int x_result, .int x_steps, .int x_emits, .ref q_emitted, .ref q_locals, .ref q_stack, .int x_top, .int x_at])), (q_state, .inl (cI, 32, .inl (upd st2 b (dr (gn g2))))), (q_order, .inl (cI, 32, .inl od)), (q_drawn, .inl (cI, 128, .inl dw))]) hx hb hK hP hD hS 1 0 rfl rfl rfl (by omega) (by decide) rfl d_MO_drawAll_37 (fun H locs hP hD hS => ?_)
            refine lv_goto (tgt := 20) hx hb d_MO_drawAll_38 (by decide) ?_
            have e9 : lr_MO_drawAll b (kf + 1) st2 g2 = lr_MO_drawAll b kf (upd st2 b (dr (gn g2))) (gn g2) := by rw [lr_MO_drawAll, if_neg h25_4]
            rw [e9] at kk
            exact ih (upd st2 b (dr (gn g2))) (gn g2) (by rw [← e9]; exact hfin) _ _ _ (lv_sub hl [0, 1] rfl) hP hD hS kk
      refine LP20 7936 (upd st1 b (dr (gn g1))) (gn g1) (taken_ends (by omega) _ _ pk_us) _ _ _ (lv_sub hl [0, 1] rfl) hP hD hS (fun ls H locs hl hP hD hS => ?_)
      refine lv_iinc (k := 1) (v := nI (b + 1)) (lv' := [(1, .int (nI (b + 1))), (0, .ref a)]) hx hb d_MO_drawAll_41 hl rfl (nc_add rfl (by decide)) (by decide) rfl (fun ls hl => ?_)
      refine lv_goto (tgt := 2) hx hb d_MO_drawAll_44 (by decide) ?_
      have e9 : lpA_MO_drawAll (kf + 1) b st1 g1 = lpA_MO_drawAll kf (b + 1) ((lr_MO_drawAll b 7936 (upd st1 b (dr (gn g1))) (gn g1)).1) ((lr_MO_drawAll b 7936 (upd st1 b (dr (gn g1))) (gn g1)).2) := by rw [lpA_MO_drawAll]
      rw [e9] at kk
      exact ih (b + 1) ((lr_MO_drawAll b 7936 (upd st1 b (dr (gn g1))) (gn g1)).1) ((lr_MO_drawAll b 7936 (upd st1 b (dr (gn g1))) (gn g1)).2) (by omega) _ _ _ (lv_sub hl [1, 0] rfl) hP hD hS kk
  refine LP2 bc 0 st gg (by omega) _ _ _ (lv_sub hl [1, 0] rfl) hP hD hS (fun ls H locs hl hP hD hS => ?_)
  obtain ⟨st9, h_st9⟩ : ∃ z, z = (lpA_MO_drawAll bc 0 st gg).1 := ⟨_, rfl⟩
  rw [← h_st9] at hP hD
  obtain ⟨g9, h_g9⟩ : ∃ z, z = (lpA_MO_drawAll bc 0 st gg).2 := ⟨_, rfl⟩
  rw [← h_g9] at hP hD
  rw [← h_st9] at hod
  refine lv_iconst (v := nI 0) hx hb d_MO_drawAll_47 (by decide) ?_
  refine lv_istore_n (lv' := [(1, .int (nI 0)), (0, .ref a)]) hx hb d_MO_drawAll_48 rfl hl (by decide) rfl (fun ls hl => ?_)
  have LP49 : ∀ (kf : Nat) (b : Nat) (od1 : Nat → Int32), (b + kf = bc) → ∀ (ls : Array Slot) (H : Heap) (locs : List Loc), lv_has ls 3 [(0, .ref a), (1, .int (nI b))] → va_P D classes [(a, .inr (7, [.int x_count, .ref q_op, .ref q_arg, .int x_handlers, .ref q_handler, .ref q_depth, .ref q_over, .int x_flatCount, .ref q_flatOp, .ref q_flatArg, .int x_flatHandlers, .ref q_flatHandler, .int (nI bc), .ref q_leader, .ref q_last, .ref q_height, .ref q_state, .ref q_begin, .ref q_drawn, .ref q_order, .int g9, .ref q_starters, .int x_ran, .int x_ended, .int x_result, .int x_steps, .int x_emits, .ref q_emitted, .ref q_locals, .ref q_stack, .int x_top, .int x_at])), (q_state, .inl (cI, 32, .inl st9)), (q_order, .inl (cI, 32, .inl od1)), (q_drawn, .inl (cI, 128, .inl dw))] H → va_D A [(a, .inr (7, [.int x_count, .ref q_op, .ref q_arg, .int x_handlers, .ref q_handler, .ref q_depth, .ref q_over, .int x_flatCount, .ref q_flatOp, .ref q_flatArg, .int x_flatHandlers, .ref q_flatHandler, .int (nI bc), .ref q_leader, .ref q_last, .ref q_height, .ref q_state, .ref q_begin, .ref q_drawn, .ref q_order, .int g9, .ref q_starters, .int x_ran, .int x_ended, .int x_result, .int x_steps, .int x_emits, .ref q_emitted, .ref q_locals, .ref q_stack, .int x_top, .int x_at])), (q_state, .inl (cI, 32, .inl st9)), (q_order, .inl (cI, 32, .inl od1)), (q_drawn, .inl (cI, 128, .inl dw))] → va_S A s.heap H locs → (∀ (ls : Array Slot) (H : Heap) (locs : List Loc), lv_has ls 3 [(0, .ref a)] → va_P D classes [(a, .inr (7, [.int x_count, .ref q_op, .ref q_arg, .int x_handlers, .ref q_handler, .ref q_depth, .ref q_over, .int x_flatCount, .ref q_flatOp, .ref q_flatArg, .int x_flatHandlers, .ref q_flatHandler, .int (nI bc), .ref q_leader, .ref q_last, .ref q_height, .ref q_state, .ref q_begin, .ref q_drawn, .ref q_order, .int g9, .ref q_starters, .int x_ran, .int x_ended, .int x_result, .int x_steps, .int x_emits, .ref q_emitted, .ref q_locals, .ref q_stack, .int x_top, .int x_at])), (q_state, .inl (cI, 32, .inl st9)), (q_order, .inl (cI, 32, .inl (lpB_MO_drawAll bc st9 kf b od1))), (q_drawn, .inl (cI, 128, .inl dw))] H → va_D A [(a, .inr (7, [.int x_count, .ref q_op, .ref q_arg, .int x_handlers, .ref q_handler, .ref q_depth, .ref q_over, .int x_flatCount, .ref q_flatOp, .ref q_flatArg, .int x_flatHandlers, .ref q_flatHandler, .int (nI bc), .ref q_leader, .ref q_last, .ref q_height, .ref q_state, .ref q_begin, .ref q_drawn, .ref q_order, .int g9, .ref q_starters, .int x_ran, .int x_ended, .int x_result, .int x_steps, .int x_emits, .ref q_emitted, .ref q_locals, .ref q_stack, .int x_top, .int x_at])), (q_state, .inl (cI, 32, .inl st9)), (q_order, .inl (cI, 32, .inl (lpB_MO_drawAll bc st9 kf b od1))), (q_drawn, .inl (cI, 128, .inl dw))] → va_S A s.heap H locs → W p l e (rmK 1 23) s m [.ref a].toArray below meth c H locs 0 0 (MQ below (RV D classes (tyz cI cZ) [(a, .inr (7, [.int x_count, .ref q_op, .ref q_arg, .int x_handlers, .ref q_handler, .ref q_depth, .ref q_over, .int x_flatCount, .ref q_flatOp, .ref q_flatArg, .int x_flatHandlers, .ref q_flatHandler, .int (nI bc), .ref q_leader, .ref q_last, .ref q_height, .ref q_state, .ref q_begin, .ref q_drawn, .ref q_order, .int ((f_MO_drawAll bc gg st od dw).1), .ref q_starters, .int x_ran, .int x_ended, .int x_result, .int x_steps, .int x_emits, .ref q_emitted, .ref q_locals, .ref q_stack, .int x_top, .int x_at])), (q_state, .inl (cI, 32, .inl ((f_MO_drawAll bc gg st od dw).2.1))), (q_order, .inl (cI, 32, .inl ((f_MO_drawAll bc gg st od dw).2.2.1))), (q_drawn, .inl (cI, 128, .inl ((f_MO_drawAll bc gg st od dw).2.2.2)))] A) [.ref a].toArray s 0 0 A) (F0 m 74 ls [])) → W p l e (rmK 1 23) s m [.ref a].toArray below meth c H locs 0 0 (MQ below (RV D classes (tyz cI cZ) [(a, .inr (7, [.int x_count, .ref q_op, .ref q_arg, .int x_handlers, .ref q_handler, .ref q_depth, .ref q_over, .int x_flatCount, .ref q_flatOp, .ref q_flatArg, .int x_flatHandlers, .ref q_flatHandler, .int (nI bc), .ref q_leader, .ref q_last, .ref q_height, .ref q_state, .ref q_begin, .ref q_drawn, .ref q_order, .int ((f_MO_drawAll bc gg st od dw).1), .ref q_starters, .int x_ran, .int x_ended, .int x_result, .int x_steps, .int x_emits, .ref q_emitted, .ref q_locals, .ref q_stack, .int x_top, .int x_at])), (q_state, .inl (cI, 32, .inl ((f_MO_drawAll bc gg st od dw).2.1))), (q_order, .inl (cI, 32, .inl ((f_MO_drawAll bc gg st od dw).2.2.1))), (q_drawn, .inl (cI, 128, .inl ((f_MO_drawAll bc gg st od dw).2.2.2)))] A) [.ref a].toArray s 0 0 A) (F0 m 49 ls []) := by
    intro kf
    induction kf with
    | zero =>
      intro b od1 hk ls H locs hl hP hD hS kk
      refine lv_iload_n hx hb d_MO_drawAll_49 rfl (lv_at hl 1 rfl) ?_
      refine lv_aload_n hx hb d_MO_drawAll_50 rfl (lv_at hl 0 rfl) ?_
      refine k_get (v := .int (nI bc)) S in_MO hK hP 0 rfl rfl 12 (by decide) ql_MO_116 rfl d_MO_drawAll_51 ?_
      refine n_icmp_ge (tgt := 74) (x := b) (y := bc) hx hb rfl rfl (by omega) (by omega) d_MO_drawAll_54 (by decide) (fun h54_5 => ?_) (fun h54_5 => absurd h54_5 (by omega))
      have e9 : lpB_MO_drawAll bc st9 0 b od1 = od1 := by rw [lpB_MO_drawAll]
      rw [e9] at kk
      exact kk _ _ _ (lv_sub hl [0] rfl) hP hD hS
    | succ kf ih =>
      intro b od1 hk ls H locs hl hP hD hS kk
      refine lv_iload_n hx hb d_MO_drawAll_49 rfl (lv_at hl 1 rfl) ?_
      refine lv_aload_n hx hb d_MO_drawAll_50 rfl (lv_at hl 0 rfl) ?_
      refine k_get (v := .int (nI bc)) S in_MO hK hP 0 rfl rfl 12 (by decide) ql_MO_116 rfl d_MO_drawAll_51 ?_
      refine n_icmp_ge (tgt := 74) (x := b) (y := bc) hx hb rfl rfl (by omega) (by omega) d_MO_drawAll_54 (by decide) (fun h54_6 => absurd h54_6 (by omega)) (fun h54_6 => ?_)
      refine lv_aload_n hx hb d_MO_drawAll_57 rfl (lv_at hl 0 rfl) ?_
      refine k_get (v := .ref q_order) S in_MO hK hP 0 rfl rfl 19 (by decide) ql_MO_53 rfl d_MO_drawAll_58 ?_
      refine lv_aload_n hx hb d_MO_drawAll_61 rfl (lv_at hl 0 rfl) ?_
      refine lv_iload_n hx hb d_MO_drawAll_62 rfl (lv_at hl 1 rfl) ?_
      refine k_goi (ws' := [(a, .inr (7, [.int x_count, .ref q_op, .ref q_arg, .int x_handlers, .ref q_handler, .ref q_depth, .ref q_over, .int x_flatCount, .ref q_flatOp, .ref q_flatArg, .int x_flatHandlers, .ref q_flatHandler, .int (nI bc), .ref q_leader, .ref q_last, .ref q_height, .ref q_state, .ref q_begin, .ref q_drawn, .ref q_order, .int g9, .ref q_starters, .int x_ran, .int x_ended, .int x_result, .int x_steps, .int x_emits, .ref q_emitted, .ref q_locals, .ref q_stack, .int x_top, .int x_at])), (q_state, .inl (cI, 32, .inl st9)), (q_order, .inl (cI, 32, .inl od1)), (q_drawn, .inl (cI, 128, .inl dw))]) (wr := [(q_order, .inl (cI, 32, .inl od1)), (q_drawn, .inl (cI, 128, .inl dw))]) (k_runV (q0 := 0) (As := [.int (nI b)]) (rest := [.ref q_order]) (n := 1) S (c_MO_rank l D cI cZ a q_op q_arg q_handler q_depth q_over q_flatOp q_flatArg q_flatHandler q_leader q_last q_height q_state q_begin q_drawn q_order q_starters q_emitted q_locals q_stack x_count x_handlers x_flatCount x_flatHandlers g9 x_ran x_ended x_result x_steps x_emits x_top x_at b bc st9 (by omega) (by omega)) E0_b E0_t ql_MO_133 qi_MO_rank qs_MO_rank qn_MO qc_MO_rank (by decide +kernel) rfl ⟨rfl, rfl⟩ ⟨Nat.le_of_ble_eq_true rfl, Nat.le_of_ble_eq_true rfl⟩ hK hP hD [0, 1] rfl (by decide) rfl rfl hl.1 rfl (Nat.le_of_ble_eq_true rfl) d_MO_drawAll_63 ⟨Nat.zero_le _, Nat.zero_le _⟩) hP hD hS hA [0, 1] [2, 3] [2, 3, 0, 1] rfl rfl (by decide) (by decide) rfl (by decide) (fun H locs hP hD hS => ?_)
      refine lv_iload_n hx hb d_MO_drawAll_66 rfl (lv_at hl 1 rfl) ?_
      refine k_st (k := f_MO_rank b bc st9) (x := nI b) (ws' := [(a, .inr (7, [.int x_count, .ref q_op, .ref q_arg, .int x_handlers, .ref q_handler, .ref q_depth, .ref q_over, .int x_flatCount, .ref q_flatOp, .ref q_flatArg, .int x_flatHandlers, .ref q_flatHandler, .int (nI bc), .ref q_leader, .ref q_last, .ref q_height, .ref q_state, .ref q_begin, .ref q_drawn, .ref q_order, .int g9, .ref q_starters, .int x_ran, .int x_ended, .int x_result, .int x_steps, .int x_emits, .ref q_emitted, .ref q_locals, .ref q_stack, .int x_top, .int x_at])), (q_state, .inl (cI, 32, .inl st9)), (q_order, .inl (cI, 32, .inl (upd od1 (f_MO_rank b bc st9) (nI b)))), (q_drawn, .inl (cI, 128, .inl dw))]) hx hb hK hP hD hS 2 0 rfl rfl rfl (by rw [rank_eq]; exact Nat.lt_of_lt_of_le (rk_self _ _ (by omega)) hb32) (by decide) rfl d_MO_drawAll_67 (fun H locs hP hD hS => ?_)
      refine lv_iinc (k := 1) (v := nI (b + 1)) (lv' := [(1, .int (nI (b + 1))), (0, .ref a)]) hx hb d_MO_drawAll_68 hl rfl (nc_add rfl (by decide)) (by decide) rfl (fun ls hl => ?_)
      refine lv_goto (tgt := 49) hx hb d_MO_drawAll_71 (by decide) ?_
      have e9 : lpB_MO_drawAll bc st9 (kf + 1) b od1 = lpB_MO_drawAll bc st9 kf (b + 1) (upd od1 (f_MO_rank b bc st9) (nI b)) := by rw [lpB_MO_drawAll]
      rw [e9] at kk
      exact ih (b + 1) (upd od1 (f_MO_rank b bc st9) (nI b)) (by omega) _ _ _ (lv_sub hl [1, 0] rfl) hP hD hS kk
  refine LP49 bc 0 od (by omega) _ _ _ (lv_sub hl [1, 0] rfl) hP hD hS (fun ls H locs hl hP hD hS => ?_)
  obtain ⟨od9, h_od9⟩ : ∃ z, z = lpB_MO_drawAll bc st9 bc 0 od := ⟨_, rfl⟩
  rw [← h_od9] at hP hD
  rw [← h_od9] at hod
  refine lv_iconst (v := nI 0) hx hb d_MO_drawAll_74 (by decide) ?_
  refine lv_istore_n (lv' := [(1, .int (nI 0)), (0, .ref a)]) hx hb d_MO_drawAll_75 rfl hl (by decide) rfl (fun ls hl => ?_)
  have LP76 : ∀ (kf : Nat) (q : Nat) (dw1 : Nat → Int32) (g3 : Int32), (q + kf = bc) → ∀ (ls : Array Slot) (H : Heap) (locs : List Loc), lv_has ls 3 [(0, .ref a), (1, .int (nI q))] → va_P D classes [(a, .inr (7, [.int x_count, .ref q_op, .ref q_arg, .int x_handlers, .ref q_handler, .ref q_depth, .ref q_over, .int x_flatCount, .ref q_flatOp, .ref q_flatArg, .int x_flatHandlers, .ref q_flatHandler, .int (nI bc), .ref q_leader, .ref q_last, .ref q_height, .ref q_state, .ref q_begin, .ref q_drawn, .ref q_order, .int g3, .ref q_starters, .int x_ran, .int x_ended, .int x_result, .int x_steps, .int x_emits, .ref q_emitted, .ref q_locals, .ref q_stack, .int x_top, .int x_at])), (q_state, .inl (cI, 32, .inl st9)), (q_order, .inl (cI, 32, .inl od9)), (q_drawn, .inl (cI, 128, .inl dw1))] H → va_D A [(a, .inr (7, [.int x_count, .ref q_op, .ref q_arg, .int x_handlers, .ref q_handler, .ref q_depth, .ref q_over, .int x_flatCount, .ref q_flatOp, .ref q_flatArg, .int x_flatHandlers, .ref q_flatHandler, .int (nI bc), .ref q_leader, .ref q_last, .ref q_height, .ref q_state, .ref q_begin, .ref q_drawn, .ref q_order, .int g3, .ref q_starters, .int x_ran, .int x_ended, .int x_result, .int x_steps, .int x_emits, .ref q_emitted, .ref q_locals, .ref q_stack, .int x_top, .int x_at])), (q_state, .inl (cI, 32, .inl st9)), (q_order, .inl (cI, 32, .inl od9)), (q_drawn, .inl (cI, 128, .inl dw1))] → va_S A s.heap H locs → (∀ (ls : Array Slot) (H : Heap) (locs : List Loc), lv_has ls 3 [(0, .ref a)] → va_P D classes [(a, .inr (7, [.int x_count, .ref q_op, .ref q_arg, .int x_handlers, .ref q_handler, .ref q_depth, .ref q_over, .int x_flatCount, .ref q_flatOp, .ref q_flatArg, .int x_flatHandlers, .ref q_flatHandler, .int (nI bc), .ref q_leader, .ref q_last, .ref q_height, .ref q_state, .ref q_begin, .ref q_drawn, .ref q_order, .int ((lpC_MO_drawAll od9 kf q dw1 g3).2), .ref q_starters, .int x_ran, .int x_ended, .int x_result, .int x_steps, .int x_emits, .ref q_emitted, .ref q_locals, .ref q_stack, .int x_top, .int x_at])), (q_state, .inl (cI, 32, .inl st9)), (q_order, .inl (cI, 32, .inl od9)), (q_drawn, .inl (cI, 128, .inl ((lpC_MO_drawAll od9 kf q dw1 g3).1)))] H → va_D A [(a, .inr (7, [.int x_count, .ref q_op, .ref q_arg, .int x_handlers, .ref q_handler, .ref q_depth, .ref q_over, .int x_flatCount, .ref q_flatOp, .ref q_flatArg, .int x_flatHandlers, .ref q_flatHandler, .int (nI bc), .ref q_leader, .ref q_last, .ref q_height, .ref q_state, .ref q_begin, .ref q_drawn, .ref q_order, .int ((lpC_MO_drawAll od9 kf q dw1 g3).2), .ref q_starters, .int x_ran, .int x_ended, .int x_result, .int x_steps, .int x_emits, .ref q_emitted, .ref q_locals, .ref q_stack, .int x_top, .int x_at])), (q_state, .inl (cI, 32, .inl st9)), (q_order, .inl (cI, 32, .inl od9)), (q_drawn, .inl (cI, 128, .inl ((lpC_MO_drawAll od9 kf q dw1 g3).1)))] → va_S A s.heap H locs → W p l e (rmK 1 23) s m [.ref a].toArray below meth c H locs 0 0 (MQ below (RV D classes (tyz cI cZ) [(a, .inr (7, [.int x_count, .ref q_op, .ref q_arg, .int x_handlers, .ref q_handler, .ref q_depth, .ref q_over, .int x_flatCount, .ref q_flatOp, .ref q_flatArg, .int x_flatHandlers, .ref q_flatHandler, .int (nI bc), .ref q_leader, .ref q_last, .ref q_height, .ref q_state, .ref q_begin, .ref q_drawn, .ref q_order, .int ((f_MO_drawAll bc gg st od dw).1), .ref q_starters, .int x_ran, .int x_ended, .int x_result, .int x_steps, .int x_emits, .ref q_emitted, .ref q_locals, .ref q_stack, .int x_top, .int x_at])), (q_state, .inl (cI, 32, .inl ((f_MO_drawAll bc gg st od dw).2.1))), (q_order, .inl (cI, 32, .inl ((f_MO_drawAll bc gg st od dw).2.2.1))), (q_drawn, .inl (cI, 128, .inl ((f_MO_drawAll bc gg st od dw).2.2.2)))] A) [.ref a].toArray s 0 0 A) (F0 m 122 ls [])) → W p l e (rmK 1 23) s m [.ref a].toArray below meth c H locs 0 0 (MQ below (RV D classes (tyz cI cZ) [(a, .inr (7, [.int x_count, .ref q_op, .ref q_arg, .int x_handlers, .ref q_handler, .ref q_depth, .ref q_over, .int x_flatCount, .ref q_flatOp, .ref q_flatArg, .int x_flatHandlers, .ref q_flatHandler, .int (nI bc), .ref q_leader, .ref q_last, .ref q_height, .ref q_state, .ref q_begin, .ref q_drawn, .ref q_order, .int ((f_MO_drawAll bc gg st od dw).1), .ref q_starters, .int x_ran, .int x_ended, .int x_result, .int x_steps, .int x_emits, .ref q_emitted, .ref q_locals, .ref q_stack, .int x_top, .int x_at])), (q_state, .inl (cI, 32, .inl ((f_MO_drawAll bc gg st od dw).2.1))), (q_order, .inl (cI, 32, .inl ((f_MO_drawAll bc gg st od dw).2.2.1))), (q_drawn, .inl (cI, 128, .inl ((f_MO_drawAll bc gg st od dw).2.2.2)))] A) [.ref a].toArray s 0 0 A) (F0 m 76 ls []) := by
    intro kf
    induction kf with
    | zero =>
      intro q dw1 g3 hk ls H locs hl hP hD hS kk
      refine lv_iload_n hx hb d_MO_drawAll_76 rfl (lv_at hl 1 rfl) ?_
      refine lv_aload_n hx hb d_MO_drawAll_77 rfl (lv_at hl 0 rfl) ?_
      refine k_get (v := .int (nI bc)) S in_MO hK hP 0 rfl rfl 12 (by decide) ql_MO_116 rfl d_MO_drawAll_78 ?_
      refine n_icmp_ge (tgt := 122) (x := q) (y := bc) hx hb rfl rfl (by omega) (by omega) d_MO_drawAll_81 (by decide) (fun h81_7 => ?_) (fun h81_7 => absurd h81_7 (by omega))
      have e9 : lpC_MO_drawAll od9 0 q dw1 g3 = (dw1, g3) := by rw [lpC_MO_drawAll]
      rw [e9] at kk
      exact kk _ _ _ (lv_sub hl [0] rfl) hP hD hS
    | succ kf ih =>
      intro q dw1 g3 hk ls H locs hl hP hD hS kk
      refine lv_iload_n hx hb d_MO_drawAll_76 rfl (lv_at hl 1 rfl) ?_
      refine lv_aload_n hx hb d_MO_drawAll_77 rfl (lv_at hl 0 rfl) ?_
      refine k_get (v := .int (nI bc)) S in_MO hK hP 0 rfl rfl 12 (by decide) ql_MO_116 rfl d_MO_drawAll_78 ?_
      refine n_icmp_ge (tgt := 122) (x := q) (y := bc) hx hb rfl rfl (by omega) (by omega) d_MO_drawAll_81 (by decide) (fun h81_8 => absurd h81_8 (by omega)) (fun h81_8 => ?_)
      refine lv_iconst (v := nI 0) hx hb d_MO_drawAll_84 (by decide) ?_
      refine lv_istore_n (lv' := [(2, .int (nI 0)), (0, .ref a), (1, .int (nI q))]) hx hb d_MO_drawAll_85 rfl hl (by decide) rfl (fun ls hl => ?_)
      have LP86 : ∀ (kf : Nat) (k2 : Nat) (dw2 : Nat → Int32) (g4 : Int32), (k2 + kf = 4) → ∀ (ls : Array Slot) (H : Heap) (locs : List Loc), lv_has ls 3 [(0, .ref a), (1, .int (nI q)), (2, .int (nI k2))] → va_P D classes [(a, .inr (7, [.int x_count, .ref q_op, .ref q_arg, .int x_handlers, .ref q_handler, .ref q_depth, .ref q_over, .int x_flatCount, .ref q_flatOp, .ref q_flatArg, .int x_flatHandlers, .ref q_flatHandler, .int (nI bc), .ref q_leader, .ref q_last, .ref q_height, .ref q_state, .ref q_begin, .ref q_drawn, .ref q_order, .int g4, .ref q_starters, .int x_ran, .int x_ended, .int x_result, .int x_steps, .int x_emits, .ref q_emitted, .ref q_locals, .ref q_stack, .int x_top, .int x_at])), (q_state, .inl (cI, 32, .inl st9)), (q_order, .inl (cI, 32, .inl od9)), (q_drawn, .inl (cI, 128, .inl dw2))] H → va_D A [(a, .inr (7, [.int x_count, .ref q_op, .ref q_arg, .int x_handlers, .ref q_handler, .ref q_depth, .ref q_over, .int x_flatCount, .ref q_flatOp, .ref q_flatArg, .int x_flatHandlers, .ref q_flatHandler, .int (nI bc), .ref q_leader, .ref q_last, .ref q_height, .ref q_state, .ref q_begin, .ref q_drawn, .ref q_order, .int g4, .ref q_starters, .int x_ran, .int x_ended, .int x_result, .int x_steps, .int x_emits, .ref q_emitted, .ref q_locals, .ref q_stack, .int x_top, .int x_at])), (q_state, .inl (cI, 32, .inl st9)), (q_order, .inl (cI, 32, .inl od9)), (q_drawn, .inl (cI, 128, .inl dw2))] → va_S A s.heap H locs → (∀ (ls : Array Slot) (H : Heap) (locs : List Loc), lv_has ls 3 [(0, .ref a), (1, .int (nI q))] → va_P D classes [(a, .inr (7, [.int x_count, .ref q_op, .ref q_arg, .int x_handlers, .ref q_handler, .ref q_depth, .ref q_over, .int x_flatCount, .ref q_flatOp, .ref q_flatArg, .int x_flatHandlers, .ref q_flatHandler, .int (nI bc), .ref q_leader, .ref q_last, .ref q_height, .ref q_state, .ref q_begin, .ref q_drawn, .ref q_order, .int ((lpD_MO_drawAll od9 q kf k2 dw2 g4).2), .ref q_starters, .int x_ran, .int x_ended, .int x_result, .int x_steps, .int x_emits, .ref q_emitted, .ref q_locals, .ref q_stack, .int x_top, .int x_at])), (q_state, .inl (cI, 32, .inl st9)), (q_order, .inl (cI, 32, .inl od9)), (q_drawn, .inl (cI, 128, .inl ((lpD_MO_drawAll od9 q kf k2 dw2 g4).1)))] H → va_D A [(a, .inr (7, [.int x_count, .ref q_op, .ref q_arg, .int x_handlers, .ref q_handler, .ref q_depth, .ref q_over, .int x_flatCount, .ref q_flatOp, .ref q_flatArg, .int x_flatHandlers, .ref q_flatHandler, .int (nI bc), .ref q_leader, .ref q_last, .ref q_height, .ref q_state, .ref q_begin, .ref q_drawn, .ref q_order, .int ((lpD_MO_drawAll od9 q kf k2 dw2 g4).2), .ref q_starters, .int x_ran, .int x_ended, .int x_result, .int x_steps, .int x_emits, .ref q_emitted, .ref q_locals, .ref q_stack, .int x_top, .int x_at])), (q_state, .inl (cI, 32, .inl st9)), (q_order, .inl (cI, 32, .inl od9)), (q_drawn, .inl (cI, 128, .inl ((lpD_MO_drawAll od9 q kf k2 dw2 g4).1)))] → va_S A s.heap H locs → W p l e (rmK 1 23) s m [.ref a].toArray below meth c H locs 0 0 (MQ below (RV D classes (tyz cI cZ) [(a, .inr (7, [.int x_count, .ref q_op, .ref q_arg, .int x_handlers, .ref q_handler, .ref q_depth, .ref q_over, .int x_flatCount, .ref q_flatOp, .ref q_flatArg, .int x_flatHandlers, .ref q_flatHandler, .int (nI bc), .ref q_leader, .ref q_last, .ref q_height, .ref q_state, .ref q_begin, .ref q_drawn, .ref q_order, .int ((f_MO_drawAll bc gg st od dw).1), .ref q_starters, .int x_ran, .int x_ended, .int x_result, .int x_steps, .int x_emits, .ref q_emitted, .ref q_locals, .ref q_stack, .int x_top, .int x_at])), (q_state, .inl (cI, 32, .inl ((f_MO_drawAll bc gg st od dw).2.1))), (q_order, .inl (cI, 32, .inl ((f_MO_drawAll bc gg st od dw).2.2.1))), (q_drawn, .inl (cI, 128, .inl ((f_MO_drawAll bc gg st od dw).2.2.2)))] A) [.ref a].toArray s 0 0 A) (F0 m 116 ls [])) → W p l e (rmK 1 23) s m [.ref a].toArray below meth c H locs 0 0 (MQ below (RV D classes (tyz cI cZ) [(a, .inr (7, [.int x_count, .ref q_op, .ref q_arg, .int x_handlers, .ref q_handler, .ref q_depth, .ref q_over, .int x_flatCount, .ref q_flatOp, .ref q_flatArg, .int x_flatHandlers, .ref q_flatHandler, .int (nI bc), .ref q_leader, .ref q_last, .ref q_height, .ref q_state, .ref q_begin, .ref q_drawn, .ref q_order, .int ((f_MO_drawAll bc gg st od dw).1), .ref q_starters, .int x_ran, .int x_ended, .int x_result, .int x_steps, .int x_emits, .ref q_emitted, .ref q_locals, .ref q_stack, .int x_top, .int x_at])), (q_state, .inl (cI, 32, .inl ((f_MO_drawAll bc gg st od dw).2.1))), (q_order, .inl (cI, 32, .inl ((f_MO_drawAll bc gg st od dw).2.2.1))), (q_drawn, .inl (cI, 128, .inl ((f_MO_drawAll bc gg st od dw).2.2.2)))] A) [.ref a].toArray s 0 0 A) (F0 m 86 ls []) := by
        intro kf
        induction kf with
        | zero =>
          intro k2 dw2 g4 hk2 ls H locs hl hP hD hS kk
          refine lv_iload_n hx hb d_MO_drawAll_86 rfl (lv_at hl 2 rfl) ?_
          refine lv_iconst (v := 4) hx hb d_MO_drawAll_87 (by decide) ?_
          refine n_icmp_ge (tgt := 116) (x := k2) (y := 4) hx hb rfl (by decide) (by omega) (by omega) d_MO_drawAll_88 (by decide) (fun h88_9 => ?_) (fun h88_9 => absurd h88_9 (by omega))
          have e9 : lpD_MO_drawAll od9 q 0 k2 dw2 g4 = (dw2, g4) := by rw [lpD_MO_drawAll]
          rw [e9] at kk
          exact kk _ _ _ (lv_sub hl [0, 1] rfl) hP hD hS
        | succ kf ih =>
          intro k2 dw2 g4 hk2 ls H locs hl hP hD hS kk
          refine lv_iload_n hx hb d_MO_drawAll_86 rfl (lv_at hl 2 rfl) ?_
          refine lv_iconst (v := 4) hx hb d_MO_drawAll_87 (by decide) ?_
          refine n_icmp_ge (tgt := 116) (x := k2) (y := 4) hx hb rfl (by decide) (by omega) (by omega) d_MO_drawAll_88 (by decide) (fun h88_10 => absurd h88_10 (by omega)) (fun h88_10 => ?_)
          refine lv_aload_n hx hb d_MO_drawAll_91 rfl (lv_at hl 0 rfl) ?_
          refine k_get (v := .ref q_drawn) S in_MO hK hP 0 rfl rfl 18 (by decide) ql_MO_50 rfl d_MO_drawAll_92 ?_
          refine lv_iconst (v := 4) hx hb d_MO_drawAll_95 (by decide) ?_
          refine lv_aload_n hx hb d_MO_drawAll_96 rfl (lv_at hl 0 rfl) ?_
          refine k_get (v := .ref q_order) S in_MO hK hP 0 rfl rfl 19 (by decide) ql_MO_53 rfl d_MO_drawAll_97 ?_
          refine lv_iload_n hx hb d_MO_drawAll_100 rfl (lv_at hl 1 rfl) ?_
          refine k_ld (k := q) hx hb hK hP 2 0 rfl rfl rfl (by omega) (by decide) d_MO_drawAll_101 ?_
          refine k_top (y := nI (tn (od9 q))) (hod q (by omega)).1 ?_
          refine lv_imul hx hb d_MO_drawAll_102 ?_
          refine k_top (y := nI (4 * (tn (od9 q)))) (nc_mul (by decide) rfl) ?_
          refine lv_iload_n hx hb d_MO_drawAll_103 rfl (lv_at hl 2 rfl) ?_
          refine lv_iadd hx hb d_MO_drawAll_104 ?_
          refine k_top (y := nI (4 * (tn (od9 q)) + k2)) (nc_add rfl rfl) ?_
          refine lv_aload_n hx hb d_MO_drawAll_105 rfl (lv_at hl 0 rfl) ?_
          refine k_goi (ws' := [(a, .inr (7, [.int x_count, .ref q_op, .ref q_arg, .int x_handlers, .ref q_handler, .ref q_depth, .ref q_over, .int x_flatCount, .ref q_flatOp, .ref q_flatArg, .int x_flatHandlers, .ref q_flatHandler, .int (nI bc), .ref q_leader, .ref q_last, .ref q_height, .ref q_state, .ref q_begin, .ref q_drawn, .ref q_order, .int (gn g4), .ref q_starters, .int x_ran, .int x_ended, .int x_result, .int x_steps, .int x_emits, .ref q_emitted, .ref q_locals, .ref q_stack, .int x_top, .int x_at])), (q_state, .inl (cI, 32, .inl st9)), (q_order, .inl (cI, 32, .inl od9)), (q_drawn, .inl (cI, 128, .inl dw2))]) (wr := [(q_state, .inl (cI, 32, .inl st9)), (q_order, .inl (cI, 32, .inl od9)), (q_drawn, .inl (cI, 128, .inl dw2))]) (k_runV (q0 := 0) (As := []) (rest := [.int (nI (4 * (tn (od9 q)) + k2)), .ref q_drawn]) (n := 0) S (c_MO_draw l D cI cZ a q_op q_arg q_handler q_depth q_over q_flatOp q_flatArg q_flatHandler q_leader q_last q_height q_state q_begin q_drawn q_order q_starters q_emitted q_locals q_stack x_count x_handlers x_flatCount x_flatHandlers (nI bc) x_ran x_ended x_result x_steps x_emits x_top x_at g4) E0_b E0_t ql_MO_127 qi_MO_draw qs_MO_draw qn_MO qc_MO_draw (by decide +kernel) rfl ⟨rfl, rfl⟩ ⟨Nat.le_of_ble_eq_true rfl, Nat.le_of_ble_eq_true rfl⟩ hK hP hD [0] rfl (by decide) rfl rfl hl.1 rfl (Nat.le_of_ble_eq_true rfl) d_MO_drawAll_106 ⟨Nat.zero_le _, Nat.zero_le _⟩) hP hD hS hA [0] [1, 2, 3] [3, 0, 1, 2] rfl rfl (by decide) (by decide) rfl (by decide) (fun H locs hP hD hS => ?_)
          refine k_st (k := 4 * (tn (od9 q)) + k2) (x := dr (gn g4)) (ws' := [(a, .inr (7, [.int x_count, .ref q_op, .ref q_arg, .int x_handlers, .ref q_handler, .ref q_depth, .ref q_over, .int x_flatCount, .ref q_flatOp, .ref q_flatArg, .int x_flatHandlers, .ref q_flatHandler, .int (nI bc), .ref q_leader, .ref q_last, .ref q_height, .ref q_state, .ref q_begin, .ref q_drawn, .ref q_order, .int (gn g4), .ref q_starters, .int x_ran, .int x_ended, .int x_result, .int x_steps, .int x_emits, .ref q_emitted, .ref q_locals, .ref q_stack, .int x_top, .int x_at])), (q_state, .inl (cI, 32, .inl st9)), (q_order, .inl (cI, 32, .inl od9)), (q_drawn, .inl (cI, 128, .inl (upd dw2 (4 * (tn (od9 q)) + k2) (dr (gn g4)))))]) hx hb hK hP hD hS 3 0 rfl rfl rfl (by have := (hod q (by omega)).2; omega) (by decide) rfl d_MO_drawAll_109 (fun H locs hP hD hS => ?_)
          refine lv_iinc (k := 2) (v := nI (k2 + 1)) (lv' := [(2, .int (nI (k2 + 1))), (0, .ref a), (1, .int (nI q))]) hx hb d_MO_drawAll_110 hl rfl (nc_add rfl (by decide)) (by decide) rfl (fun ls hl => ?_)
          refine lv_goto (tgt := 86) hx hb d_MO_drawAll_113 (by decide) ?_
          have e9 : lpD_MO_drawAll od9 q (kf + 1) k2 dw2 g4 = lpD_MO_drawAll od9 q kf (k2 + 1) (upd dw2 (4 * (tn (od9 q)) + k2) (dr (gn g4))) (gn g4) := by rw [lpD_MO_drawAll]
          rw [e9] at kk
          exact ih (k2 + 1) (upd dw2 (4 * (tn (od9 q)) + k2) (dr (gn g4))) (gn g4) (by omega) _ _ _ (lv_sub hl [1, 2, 0] rfl) hP hD hS kk
      refine LP86 4 0 dw1 g3 rfl _ _ _ (lv_sub hl [1, 2, 0] rfl) hP hD hS (fun ls H locs hl hP hD hS => ?_)
      refine lv_iinc (k := 1) (v := nI (q + 1)) (lv' := [(1, .int (nI (q + 1))), (0, .ref a)]) hx hb d_MO_drawAll_116 hl rfl (nc_add rfl (by decide)) (by decide) rfl (fun ls hl => ?_)
      refine lv_goto (tgt := 76) hx hb d_MO_drawAll_119 (by decide) ?_
      have e9 : lpC_MO_drawAll od9 (kf + 1) q dw1 g3 = lpC_MO_drawAll od9 kf (q + 1) ((lpD_MO_drawAll od9 q 4 0 dw1 g3).1) ((lpD_MO_drawAll od9 q 4 0 dw1 g3).2) := by rw [lpC_MO_drawAll]
      rw [e9] at kk
      exact ih (q + 1) ((lpD_MO_drawAll od9 q 4 0 dw1 g3).1) ((lpD_MO_drawAll od9 q 4 0 dw1 g3).2) (by omega) _ _ _ (lv_sub hl [1, 0] rfl) hP hD hS kk
  refine LP76 bc 0 dw g9 (by omega) _ _ _ (lv_sub hl [1, 0] rfl) hP hD hS (fun ls H locs hl hP hD hS => ?_)
  exact k_vret hx hb hr hlocks hK hP hD hS (by try rw [h_od9]; try rw [h_g9]; try rw [h_st9]; rw [f_MO_drawAll]) d_MO_drawAll_122
