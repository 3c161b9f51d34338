theorem am_lp (st : Nat → Int32) (v : Int32) {w : Nat} (hw : w < 2 ^ 31) : ∀ (kf i : Nat), i + kf = w → (lp_BL_among st v kf i = -1 ↔ ∀ k, i ≤ k → k < w → ¬ st k = v) := by
  intro kf
  induction kf with
  | zero => intro i h; exact ⟨fun _ k h1 h2 => by omega, fun _ => rfl⟩
  | succ kf ih =>
    intro i h
    rw [lp_BL_among]
    by_cases h1 : st i = v
    · rw [if_pos h1]
      constructor
      · intro h2
        exfalso
        have h3 : (nI i).toInt = (-1 : Int32).toInt := by rw [h2]
        rw [nI_toInt (by omega)] at h3
        have h4 : (-1 : Int32).toInt = -1 := by decide
        omega
      · intro h2; exact absurd h1 (h2 i (Nat.le_refl _) (by omega))
    · rw [if_neg h1, ih (i + 1) (by omega)]
      constructor
      · intro h2 k hk hk2
        by_cases e : k = i
        · rw [e]; exact h1
        · exact h2 k (by omega) hk2
      · intro h2 k hk hk2; exact h2 k (by omega) hk2
theorem am_0 {b : Nat} (hb : b < 2 ^ 31) (st : Nat → Int32) (v : Int32) : f_BL_among b st v = -1 ↔ seen st b v = false := by
  unfold f_BL_among
  rw [am_lp st v hb b 0 (by omega)]
  constructor
  · intro h
    cases hh : seen st b v with
    | false => rfl
    | true => obtain ⟨k, hk, e⟩ := seen_ex hh; exact absurd e (h k (Nat.zero_le _) hk)
  · intro h k _ hk e
    rw [seen_of e hk] at h
    cases h
theorem dr_n (x : Int32) : dr x = nI (tn (dr x)) ∧ tn (dr x) < 2 ^ 24 := by
  have h := u32_dr x
  have h2 := u32_lt x
  have h3 : dr x = nI (u32 (dr x)) := by
    apply Int32.toBitVec_inj.mp
    apply BitVec.eq_of_toNat_eq
    rw [pk_tn (u32_lt _)]
    rfl
  have h4 : u32 (dr x) < 2 ^ 24 := by omega
  have h5 : tn (dr x) = u32 (dr x) := by
    have e := tn_nI (k := u32 (dr x)) (by omega)
    rw [← h3] at e
    exact e
  rw [h5]
  exact ⟨h3, h4⟩

theorem d_BL_drawStates_0 : decode b_BL_drawStates 0 = .ok (.iconst 0, 1) := by decide +kernel
theorem d_BL_drawStates_1 : decode b_BL_drawStates 1 = .ok (.istore_n 2, 1) := by decide +kernel
theorem d_BL_drawStates_2 : decode b_BL_drawStates 2 = .ok (.iload_n 2, 1) := by decide +kernel
theorem d_BL_drawStates_3 : decode b_BL_drawStates 3 = .ok (.aload_n 0, 1) := by decide +kernel
theorem d_BL_drawStates_4 : decode b_BL_drawStates 4 = .ok (.getfield 41, 3) := by decide +kernel
theorem d_BL_drawStates_7 : decode b_BL_drawStates 7 = .ok (.if_icmp .ge 58, 3) := by decide +kernel
theorem d_BL_drawStates_10 : decode b_BL_drawStates 10 = .ok (.aload_n 0, 1) := by decide +kernel
theorem d_BL_drawStates_11 : decode b_BL_drawStates 11 = .ok (.getfield 18, 3) := by decide +kernel
theorem d_BL_drawStates_14 : decode b_BL_drawStates 14 = .ok (.iload_n 2, 1) := by decide +kernel
theorem d_BL_drawStates_15 : decode b_BL_drawStates 15 = .ok (.aload_n 1, 1) := by decide +kernel
theorem d_BL_drawStates_16 : decode b_BL_drawStates 16 = .ok (.invokevirtual 81, 3) := by decide +kernel
theorem d_BL_drawStates_19 : decode b_BL_drawStates 19 = .ok (.iastore, 1) := by decide +kernel
theorem d_BL_drawStates_20 : decode b_BL_drawStates 20 = .ok (.iconst 0, 1) := by decide +kernel
theorem d_BL_drawStates_21 : decode b_BL_drawStates 21 = .ok (.istore_n 3, 1) := by decide +kernel
theorem d_BL_drawStates_22 : decode b_BL_drawStates 22 = .ok (.iload_n 3, 1) := by decide +kernel
theorem d_BL_drawStates_23 : decode b_BL_drawStates 23 = .ok (.ldc 87, 2) := by decide +kernel
theorem d_BL_drawStates_25 : decode b_BL_drawStates 25 = .ok (.if_icmp .ge 34, 3) := by decide +kernel
theorem d_BL_drawStates_28 : decode b_BL_drawStates 28 = .ok (.aload_n 0, 1) := by decide +kernel
theorem d_BL_drawStates_29 : decode b_BL_drawStates 29 = .ok (.iload_n 2, 1) := by decide +kernel
theorem d_BL_drawStates_30 : decode b_BL_drawStates 30 = .ok (.aload_n 0, 1) := by decide +kernel
theorem d_BL_drawStates_31 : decode b_BL_drawStates 31 = .ok (.getfield 18, 3) := by decide +kernel
theorem d_BL_drawStates_34 : decode b_BL_drawStates 34 = .ok (.iload_n 2, 1) := by decide +kernel
theorem d_BL_drawStates_35 : decode b_BL_drawStates 35 = .ok (.iaload, 1) := by decide +kernel
theorem d_BL_drawStates_36 : decode b_BL_drawStates 36 = .ok (.invokevirtual 88, 3) := by decide +kernel
theorem d_BL_drawStates_39 : decode b_BL_drawStates 39 = .ok (.iconst (-1), 1) := by decide +kernel
theorem d_BL_drawStates_40 : decode b_BL_drawStates 40 = .ok (.if_icmp .eq 19, 3) := by decide +kernel
theorem d_BL_drawStates_43 : decode b_BL_drawStates 43 = .ok (.aload_n 0, 1) := by decide +kernel
theorem d_BL_drawStates_44 : decode b_BL_drawStates 44 = .ok (.getfield 18, 3) := by decide +kernel
theorem d_BL_drawStates_47 : decode b_BL_drawStates 47 = .ok (.iload_n 2, 1) := by decide +kernel
theorem d_BL_drawStates_48 : decode b_BL_drawStates 48 = .ok (.aload_n 1, 1) := by decide +kernel
theorem d_BL_drawStates_49 : decode b_BL_drawStates 49 = .ok (.invokevirtual 81, 3) := by decide +kernel
theorem d_BL_drawStates_52 : decode b_BL_drawStates 52 = .ok (.iastore, 1) := by decide +kernel
theorem d_BL_drawStates_53 : decode b_BL_drawStates 53 = .ok (.iinc 3 1, 3) := by decide +kernel
theorem d_BL_drawStates_56 : decode b_BL_drawStates 56 = .ok (.goto (-34), 3) := by decide +kernel
theorem d_BL_drawStates_59 : decode b_BL_drawStates 59 = .ok (.iinc 2 1, 3) := by decide +kernel
theorem d_BL_drawStates_62 : decode b_BL_drawStates 62 = .ok (.goto (-60), 3) := by decide +kernel
theorem d_BL_drawStates_65 : decode b_BL_drawStates 65 = .ok (.return_, 1) := by decide +kernel
noncomputable def lr_BL_drawStates (b : Nat) : Nat → Nat → (Nat → Int32) → Int32 → (Nat → Int32) × Int32
  | 0, ag, st2, g2 => (st2, g2)
  | kf + 1, ag, st2, g2 => (if f_BL_among b st2 (st2 b) = (-1) then (st2, g2) else (lr_BL_drawStates b kf (ag + 1) (upd st2 b (dr (gn g2))) (gn g2)))
noncomputable def lp_BL_drawStates  : Nat → Nat → (Nat → Int32) → Int32 → (Nat → Int32) × Int32
  | 0, b, st1, g1 => (st1, g1)
  | kf + 1, b, st1, g1 => (lp_BL_drawStates kf (b + 1) ((lr_BL_drawStates b 7936 0 (upd st1 b (dr (gn g1))) (gn g1)).1) ((lr_BL_drawStates b 7936 0 (upd st1 b (dr (gn g1))) (gn g1)).2))
noncomputable def f_BL_drawStates (bc : Nat) (gg : Int32) (st : Nat → Int32) : (Nat → Int32) × Int32 := ((lp_BL_drawStates bc 0 st gg).1, (lp_BL_drawStates bc 0 st gg).2)
theorem lrc_rd (b : Nat) (hb : b < 2 ^ 31) (st0 : Nat → Int32) : ∀ (kf ag : Nat) (st : Nat → Int32) (g : Int32), st b = dr g → (∀ k, k < b → st k = st0 k) → (lr_BL_drawStates b kf ag st g).2 = rd (seen st0 b) kf g ∧ (lr_BL_drawStates b kf ag st g).1 b = dr (rd (seen st0 b) kf g) ∧ ∀ k, k < b → (lr_BL_drawStates b kf ag st g).1 k = st0 k := by
  intro kf
  induction kf with
  | zero => intro ag st g h1 h2; exact ⟨rfl, h1, h2⟩
  | succ kf ih =>
    intro ag st g h1 h2
    have hs : ∀ c x, c ≤ b → seen st c x = seen st0 c x := by
      intro c
      induction c with
      | zero => intro x _; rfl
      | succ c ihc => intro x hc; rw [seen, seen, ihc x (by omega), h2 c (by omega)]
    rw [lr_BL_drawStates]
    unfold rd
    rw [rdh]
    by_cases h3 : f_BL_among b st (st b) = -1
    · have h4 := (am_0 hb st (st b)).mp h3
      rw [hs b _ (Nat.le_refl _), h1] at h4
      rw [if_pos h3, if_neg (by rw [h4]; decide)]
      exact ⟨rfl, h1, h2⟩
    · have h4 : seen st0 b (dr g) = true := by
        cases hh : seen st0 b (dr g) with
        | true => rfl
        | false => exact absurd ((am_0 hb st (st b)).mpr (by rw [hs b _ (Nat.le_refl _), h1]; exact hh)) h3
      rw [if_neg h3, if_pos h4]
      exact ih _ _ _ pk_us (fun k hk => by rw [pk_un (by omega)]; exact h2 k hk)
theorem among_ends {b : Nat} (hb : b ≤ 31) (ag : Nat) (st : Nat → Int32) (g : Int32) (h : st b = dr g) : f_BL_among b (lr_BL_drawStates b 7936 ag st g).1 ((lr_BL_drawStates b 7936 ag st g).1 b) = (-1) := by
  obtain ⟨h1, h2, h3⟩ := lrc_rd b (by omega) st 7936 ag st g h (fun _ _ => rfl)
  rw [am_0 (by omega), h2]
  have hs : ∀ c x, c ≤ b → seen (lr_BL_drawStates b 7936 ag st g).1 c x = seen st c x := by
    intro c
    induction c with
    | zero => intro x _; rfl
    | succ c ihc => intro x hc; rw [seen, seen, ihc x (by omega), h3 c (by omega)]
  rw [hs b _ (Nat.le_refl _)]
  exact rd_ends hb (fun x hx => seen_ex hx) g
set_option maxHeartbeats 1000000 in
set_option maxRecDepth 100000 in
theorem c_BL_drawStates (l : Launch) (D : va_G) (cI cZ : ClassId) (bl dq : Nat) (bl_le bl_he bl_st bl_fi bl_be bl_by bl_sa bl_mk bc : Nat) (gg : Int32) (st : Nat → Int32) (hb32 : bc ≤ 32) : MG l y_BL_drawStates w_BL_drawStates (rmK 1 23) D classes (tyz cI cZ) E0 [.ref bl, .ref dq] [(bl, .inr (4, [.ref bl_le, .ref bl_he, .ref bl_st, .ref bl_fi, .ref bl_be, .ref bl_by, .ref bl_sa, .ref bl_mk, .int (nI bc)])), (bl_st, .inl (cI, 32, .inl st)), (dq, .inr (3, [.int gg]))] (RV D classes (tyz cI cZ) [(bl, .inr (4, [.ref bl_le, .ref bl_he, .ref bl_st, .ref bl_fi, .ref bl_be, .ref bl_by, .ref bl_sa, .ref bl_mk, .int (nI bc)])), (bl_st, .inl (cI, 32, .inl ((f_BL_drawStates bc gg st).1))), (dq, .inr (3, [.int ((f_BL_drawStates bc gg st).2)]))]) := by
  refine MG.of (cc := b_BL_drawStates) (maxL := 4) (ret := none) (own := "FlowFlattener$Blocks") rfl (by decide) rfl (Nat.le_of_ble_eq_true rfl) ?_
  intro p e s m below meth c A ls S hr hlocks hA hP hK hD hS hE hl
  have hx := S.1
  have hb := S.2.1
  have hl : lv_has ls 4 [(0, .ref bl), (1, .ref dq)] := hl
  refine lv_iconst (v := nI 0) hx hb d_BL_drawStates_0 (by decide) ?_
  refine lv_istore_n (lv' := [(2, .int (nI 0)), (0, .ref bl), (1, .ref dq)]) hx hb d_BL_drawStates_1 rfl hl (by decide) rfl (fun ls hl => ?_)
  have LP2 : ∀ (kf : Nat) (b : Nat) (st1 : Nat → Int32) (g1 : Int32), (b + kf = bc) → ∀ (ls : Array Slot) (H : Heap) (locs : List Loc), lv_has ls 4 [(0, .ref bl), (1, .ref dq), (2, .int (nI b))] → va_P D classes [(bl, .inr (4, [.ref bl_le, .ref bl_he, .ref bl_st, .ref bl_fi, .ref bl_be, .ref bl_by, .ref bl_sa, .ref bl_mk, .int (nI bc)])), (bl_st, .inl (cI, 32, .inl st1)), (dq, .inr (3, [.int g1]))] H → va_D A [(bl, .inr (4, [.ref bl_le, .ref bl_he, .ref bl_st, .ref bl_fi, .ref bl_be, .ref bl_by, .ref bl_sa, .ref bl_mk, .int (nI bc)])), (bl_st, .inl (cI, 32, .inl st1)), (dq, .inr (3, [.int g1]))] → va_S A s.heap H locs → (∀ (ls : Array Slot) (H : Heap) (locs : List Loc), lv_has ls 4 [(0, .ref bl), (1, .ref dq)] → va_P D classes [(bl, .inr (4, [.ref bl_le, .ref bl_he, .ref bl_st, .ref bl_fi, .ref bl_be, .ref bl_by, .ref bl_sa, .ref bl_mk, .int (nI bc)])), (bl_st, .inl (cI, 32, .inl ((lp_BL_drawStates kf b st1 g1).1))), (dq, .inr (3, [.int ((lp_BL_drawStates kf b st1 g1).2)]))] H → va_D A [(bl, .inr (4, [.ref bl_le, .ref bl_he, .ref bl_st, .ref bl_fi, .ref bl_be, .ref bl_by, .ref bl_sa, .ref bl_mk, .int (nI bc)])), (bl_st, .inl (cI, 32, .inl ((lp_BL_drawStates kf b st1 g1).1))), (dq, .inr (3, [.int ((lp_BL_drawStates kf b st1 g1).2)]))] → va_S A s.heap H locs → W p l e (rmK 1 23) s m [.ref bl, .ref dq].toArray below meth c H locs 0 0 (MQ below (RV D classes (tyz cI cZ) [(bl, .inr (4, [.ref bl_le, .ref bl_he, .ref bl_st, .ref bl_fi, .ref bl_be, .ref bl_by, .ref bl_sa, .ref bl_mk, .int (nI bc)])), (bl_st, .inl (cI, 32, .inl ((f_BL_drawStates bc gg st).1))), (dq, .inr (3, [.int ((f_BL_drawStates bc gg st).2)]))] A) [.ref bl, .ref dq].toArray s 0 0 A) (F0 m 65 ls [])) → W p l e (rmK 1 23) s m [.ref bl, .ref dq].toArray below meth c H locs 0 0 (MQ below (RV D classes (tyz cI cZ) [(bl, .inr (4, [.ref bl_le, .ref bl_he, .ref bl_st, .ref bl_fi, .ref bl_be, .ref bl_by, .ref bl_sa, .ref bl_mk, .int (nI bc)])), (bl_st, .inl (cI, 32, .inl ((f_BL_drawStates bc gg st).1))), (dq, .inr (3, [.int ((f_BL_drawStates bc gg st).2)]))] A) [.ref bl, .ref dq].toArray s 0 0 A) (F0 m 2 ls []) := by
    intro kf
    induction kf with
    | zero =>
      intro b st1 g1 hk ls H locs hl hP hD hS kk
      refine lv_iload_n hx hb d_BL_drawStates_2 rfl (lv_at hl 2 rfl) ?_
      refine lv_aload_n hx hb d_BL_drawStates_3 rfl (lv_at hl 0 rfl) ?_
      refine k_get (v := .int (nI bc)) S in_BL hK hP 0 rfl rfl 8 (by decide) ql_BL_41 rfl d_BL_drawStates_4 ?_
      refine n_icmp_ge (tgt := 65) (x := b) (y := bc) hx hb rfl rfl (by omega) (by omega) d_BL_drawStates_7 (by decide) (fun h7_1 => ?_) (fun h7_1 => absurd h7_1 (by omega))
      have e9 : lp_BL_drawStates 0 b st1 g1 = (st1, g1) := by rw [lp_BL_drawStates]
      rw [e9] at kk
      exact kk _ _ _ (lv_sub hl [0, 1] rfl) hP hD hS
    | succ kf ih =>
      intro b st1 g1 hk ls H locs hl hP hD hS kk
      refine lv_iload_n hx hb d_BL_drawStates_2 rfl (lv_at hl 2 rfl) ?_
      refine lv_aload_n hx hb d_BL_drawStates_3 rfl (lv_at hl 0 rfl) ?_
      refine k_get (v := .int (nI bc)) S in_BL hK hP 0 rfl rfl 8 (by decide) ql_BL_41 rfl d_BL_drawStates_4 ?_
      refine n_icmp_ge (tgt := 65) (x := b) (y := bc) hx hb rfl rfl (by omega) (by omega) d_BL_drawStates_7 (by decide) (fun h7_2 => absurd h7_2 (by omega)) (fun h7_2 => ?_)
      refine lv_aload_n hx hb d_BL_drawStates_10 rfl (lv_at hl 0 rfl) ?_
      refine k_get (v := .ref bl_st) S in_BL hK hP 0 rfl rfl 2 (by decide) ql_BL_18 rfl d_BL_drawStates_11 ?_
      refine lv_iload_n hx hb d_BL_drawStates_14 rfl (lv_at hl 2 rfl) ?_
      refine lv_aload_n hx hb d_BL_drawStates_15 rfl (lv_at hl 1 rfl) ?_
      refine k_goi (ws' := [(bl, .inr (4, [.ref bl_le, .ref bl_he, .ref bl_st, .ref bl_fi, .ref bl_be, .ref bl_by, .ref bl_sa, .ref bl_mk, .int (nI bc)])), (bl_st, .inl (cI, 32, .inl st1)), (dq, .inr (3, [.int (gn g1)]))]) (wr := [(bl, .inr (4, [.ref bl_le, .ref bl_he, .ref bl_st, .ref bl_fi, .ref bl_be, .ref bl_by, .ref bl_sa, .ref bl_mk, .int (nI bc)])), (bl_st, .inl (cI, 32, .inl st1))]) (k_runV (q0 := 2) (As := []) (rest := [.int (nI b), .ref bl_st]) (n := 0) S (c_DR_next l D cI cZ dq g1) E0_b E0_t ql_BL_81 qi_DR_next qs_DR_next qn_DR qc_DR_next (by decide +kernel) rfl ⟨rfl, rfl⟩ ⟨Nat.le_of_ble_eq_true rfl, Nat.le_of_ble_eq_true rfl⟩ hK hP hD [2] rfl (by decide) rfl rfl hl.1 rfl (Nat.le_of_ble_eq_true rfl) d_BL_drawStates_16 ⟨Nat.zero_le _, Nat.zero_le _⟩) hP hD hS hA [2] [0, 1] [0, 1, 2] rfl rfl (by decide) (by decide) rfl (by decide) (fun H locs hP hD hS => ?_)
      refine k_st (k := b) (x := dr (gn g1)) (ws' := [(bl, .inr (4, [.ref bl_le, .ref bl_he, .ref bl_st, .ref bl_fi, .ref bl_be, .ref bl_by, .ref bl_sa, .ref bl_mk, .int (nI bc)])), (bl_st, .inl (cI, 32, .inl (upd st1 b (dr (gn g1))))), (dq, .inr (3, [.int (gn g1)]))]) hx hb hK hP hD hS 1 0 rfl rfl rfl (by omega) (by decide) rfl d_BL_drawStates_19 (fun H locs hP hD hS => ?_)
      refine lv_iconst (v := nI 0) hx hb d_BL_drawStates_20 (by decide) ?_
      refine lv_istore_n (lv' := [(3, .int (nI 0)), (0, .ref bl), (1, .ref dq), (2, .int (nI b))]) hx hb d_BL_drawStates_21 rfl hl (by decide) rfl (fun ls hl => ?_)
      have LP22 : ∀ (kf : Nat) (ag : Nat) (st2 : Nat → Int32) (g2 : Int32), (ag + kf ≤ 7936) → (f_BL_among b (lr_BL_drawStates b kf ag st2 g2).1 ((lr_BL_drawStates b kf ag st2 g2).1 b) = (-1)) → ∀ (ls : Array Slot) (H : Heap) (locs : List Loc), lv_has ls 4 [(0, .ref bl), (1, .ref dq), (2, .int (nI b)), (3, .int (nI ag))] → va_P D classes [(bl, .inr (4, [.ref bl_le, .ref bl_he, .ref bl_st, .ref bl_fi, .ref bl_be, .ref bl_by, .ref bl_sa, .ref bl_mk, .int (nI bc)])), (bl_st, .inl (cI, 32, .inl st2)), (dq, .inr (3, [.int g2]))] H → va_D A [(bl, .inr (4, [.ref bl_le, .ref bl_he, .ref bl_st, .ref bl_fi, .ref bl_be, .ref bl_by, .ref bl_sa, .ref bl_mk, .int (nI bc)])), (bl_st, .inl (cI, 32, .inl st2)), (dq, .inr (3, [.int g2]))] → va_S A s.heap H locs → (∀ (ls : Array Slot) (H : Heap) (locs : List Loc), lv_has ls 4 [(0, .ref bl), (1, .ref dq), (2, .int (nI b))] → va_P D classes [(bl, .inr (4, [.ref bl_le, .ref bl_he, .ref bl_st, .ref bl_fi, .ref bl_be, .ref bl_by, .ref bl_sa, .ref bl_mk, .int (nI bc)])), (bl_st, .inl (cI, 32, .inl ((lr_BL_drawStates b kf ag st2 g2).1))), (dq, .inr (3, [.int ((lr_BL_drawStates b kf ag st2 g2).2)]))] H → va_D A [(bl, .inr (4, [.ref bl_le, .ref bl_he, .ref bl_st, .ref bl_fi, .ref bl_be, .ref bl_by, .ref bl_sa, .ref bl_mk, .int (nI bc)])), (bl_st, .inl (cI, 32, .inl ((lr_BL_drawStates b kf ag st2 g2).1))), (dq, .inr (3, [.int ((lr_BL_drawStates b kf ag st2 g2).2)]))] → va_S A s.heap H locs → W p l e (rmK 1 23) s m [.ref bl, .ref dq].toArray below meth c H locs 0 0 (MQ below (RV D classes (tyz cI cZ) [(bl, .inr (4, [.ref bl_le, .ref bl_he, .ref bl_st, .ref bl_fi, .ref bl_be, .ref bl_by, .ref bl_sa, .ref bl_mk, .int (nI bc)])), (bl_st, .inl (cI, 32, .inl ((f_BL_drawStates bc gg st).1))), (dq, .inr (3, [.int ((f_BL_drawStates bc gg st).2)]))] A) [.ref bl, .ref dq].toArray s 0 0 A) (F0 m 59 ls [])) → W p l e (rmK 1 23) s m [.ref bl, .ref dq].toArray below meth c H locs 0 0 (MQ below (RV D classes (tyz cI cZ) [(bl, .inr (4, [.ref bl_le, .ref bl_he, .ref bl_st, .ref bl_fi, .ref bl_be, .ref bl_by, .ref bl_sa, .ref bl_mk, .int (nI bc)])), (bl_st, .inl (cI, 32, .inl ((f_BL_drawStates bc gg st).1))), (dq, .inr (3, [.int ((f_BL_drawStates bc gg st).2)]))] A) [.ref bl, .ref dq].toArray s 0 0 A) (F0 m 22 ls []) := by
        intro kf
        induction kf with
        | zero =>
          intro ag st2 g2 hag hfin ls H locs hl hP hD hS kk
          refine lv_iload_n hx hb d_BL_drawStates_22 rfl (lv_at hl 3 rfl) ?_
          refine lv_ldc hx hb S.2.2.2.1 (S.2.2.2.2 _ ql_BL_87) d_BL_drawStates_23 ?_
          refine n_icmp_ge (tgt := 59) (x := ag) (y := 1000000) hx hb rfl (by decide) (by omega) (by omega) d_BL_drawStates_25 (by decide) (fun h25_3 => absurd h25_3 (by omega)) (fun h25_3 => ?_)
          refine lv_aload_n hx hb d_BL_drawStates_28 rfl (lv_at hl 0 rfl) ?_
          refine lv_iload_n hx hb d_BL_drawStates_29 rfl (lv_at hl 2 rfl) ?_
          refine lv_aload_n hx hb d_BL_drawStates_30 rfl (lv_at hl 0 rfl) ?_
          refine k_get (v := .ref bl_st) S in_BL hK hP 0 rfl rfl 2 (by decide) ql_BL_18 rfl d_BL_drawStates_31 ?_
          refine lv_iload_n hx hb d_BL_drawStates_34 rfl (lv_at hl 2 rfl) ?_
          refine k_ld (k := b) hx hb hK hP 1 0 rfl rfl rfl (by omega) (by decide) d_BL_drawStates_35 ?_
          refine k_goi (ws' := [(bl, .inr (4, [.ref bl_le, .ref bl_he, .ref bl_st, .ref bl_fi, .ref bl_be, .ref bl_by, .ref bl_sa, .ref bl_mk, .int (nI bc)])), (bl_st, .inl (cI, 32, .inl st2)), (dq, .inr (3, [.int g2]))]) (wr := [(dq, .inr (3, [.int g2]))]) (k_runV (q0 := 0) (As := [.int (nI b), .int (st2 b)]) (rest := []) (n := 2) S (c_BL_among l D cI cZ bl bl_le bl_he bl_st bl_fi bl_be bl_by bl_sa bl_mk bc b st2 (st2 b) (by omega)) E0_b E0_t ql_BL_88 qi_BL_among qs_BL_among qn_BL qc_BL_among (by decide +kernel) rfl ⟨rfl, rfl⟩ ⟨Nat.le_of_ble_eq_true rfl, Nat.le_of_ble_eq_true rfl⟩ hK hP hD [0, 1] rfl (by decide) rfl rfl hl.1 rfl (Nat.le_of_ble_eq_true rfl) d_BL_drawStates_36 ⟨Nat.zero_le _, Nat.zero_le _⟩) hP hD hS hA [0, 1] [2] [1, 2, 0] rfl rfl (by decide) (by decide) rfl (by decide) (fun H locs hP hD hS => ?_)
          refine lv_iconst (v := (-1)) hx hb d_BL_drawStates_39 (by decide) ?_
          refine lv_icmp_eq (tgt := 59) hx hb d_BL_drawStates_40 (by decide) (fun h40_4 => ?_) (fun h40_4 => absurd hfin h40_4)
          have e9 : lr_BL_drawStates b 0 ag st2 g2 = (st2, g2) := by rw [lr_BL_drawStates]
          rw [e9] at kk
          exact kk _ _ _ (lv_sub hl [0, 1, 2] rfl) hP hD hS
        | succ kf ih =>
          intro ag st2 g2 hag hfin ls H locs hl hP hD hS kk
          refine lv_iload_n hx hb d_BL_drawStates_22 rfl (lv_at hl 3 rfl) ?_
          refine lv_ldc hx hb S.2.2.2.1 (S.2.2.2.2 _ ql_BL_87) d_BL_drawStates_23 ?_
          refine n_icmp_ge (tgt := 59) (x := ag) (y := 1000000) hx hb rfl (by decide) (by omega) (by omega) d_BL_drawStates_25 (by decide) (fun h25_5 => absurd h25_5 (by omega)) (fun h25_5 => ?_)
          refine lv_aload_n hx hb d_BL_drawStates_28 rfl (lv_at hl 0 rfl) ?_
          refine lv_iload_n hx hb d_BL_drawStates_29 rfl (lv_at hl 2 rfl) ?_
          refine lv_aload_n hx hb d_BL_drawStates_30 rfl (lv_at hl 0 rfl) ?_
          refine k_get (v := .ref bl_st) S in_BL hK hP 0 rfl rfl 2 (by decide) ql_BL_18 rfl d_BL_drawStates_31 ?_
          refine lv_iload_n hx hb d_BL_drawStates_34 rfl (lv_at hl 2 rfl) ?_
          refine k_ld (k := b) hx hb hK hP 1 0 rfl rfl rfl (by omega) (by decide) d_BL_drawStates_35 ?_
          refine k_goi (ws' := [(bl, .inr (4, [.ref bl_le, .ref bl_he, .ref bl_st, .ref bl_fi, .ref bl_be, .ref bl_by, .ref bl_sa, .ref bl_mk, .int (nI bc)])), (bl_st, .inl (cI, 32, .inl st2)), (dq, .inr (3, [.int g2]))]) (wr := [(dq, .inr (3, [.int g2]))]) (k_runV (q0 := 0) (As := [.int (nI b), .int (st2 b)]) (rest := []) (n := 2) S (c_BL_among l D cI cZ bl bl_le bl_he bl_st bl_fi bl_be bl_by bl_sa bl_mk bc b st2 (st2 b) (by omega)) E0_b E0_t ql_BL_88 qi_BL_among qs_BL_among qn_BL qc_BL_among (by decide +kernel) rfl ⟨rfl, rfl⟩ ⟨Nat.le_of_ble_eq_true rfl, Nat.le_of_ble_eq_true rfl⟩ hK hP hD [0, 1] rfl (by decide) rfl rfl hl.1 rfl (Nat.le_of_ble_eq_true rfl) d_BL_drawStates_36 ⟨Nat.zero_le _, Nat.zero_le _⟩) hP hD hS hA [0, 1] [2] [1, 2, 0] rfl rfl (by decide) (by decide) rfl (by decide) (fun H locs hP hD hS => ?_)
          refine lv_iconst (v := (-1)) hx hb d_BL_drawStates_39 (by decide) ?_
          refine lv_icmp_eq (tgt := 59) hx hb d_BL_drawStates_40 (by decide) (fun h40_6 => ?_) (fun h40_6 => ?_)
          · skip
            have e9 : lr_BL_drawStates b (kf + 1) ag st2 g2 = (st2, g2) := by rw [lr_BL_drawStates, if_pos h40_6]
            rw [e9] at kk
            exact kk _ _ _ (lv_sub hl [0, 1, 2] rfl) hP hD hS
          · skip
            refine lv_aload_n hx hb d_BL_drawStates_43 rfl (lv_at hl 0 rfl) ?_
            refine k_get (v := .ref bl_st) S in_BL hK hP 0 rfl rfl 2 (by decide) ql_BL_18 rfl d_BL_drawStates_44 ?_
            refine lv_iload_n hx hb d_BL_drawStates_47 rfl (lv_at hl 2 rfl) ?_
            refine lv_aload_n hx hb d_BL_drawStates_48 rfl (lv_at hl 1 rfl) ?_
            refine k_goi (ws' := [(bl, .inr (4, [.ref bl_le, .ref bl_he, .ref bl_st, .ref bl_fi, .ref bl_be, .ref bl_by, .ref bl_sa, .ref bl_mk, .int (nI bc)])), (bl_st, .inl (cI, 32, .inl st2)), (dq, .inr (3, [.int (gn g2)]))]) (wr := [(bl, .inr (4, [.ref bl_le, .ref bl_he, .ref bl_st, .ref bl_fi, .ref bl_be, .ref bl_by, .ref bl_sa, .ref bl_mk, .int (nI bc)])), (bl_st, .inl (cI, 32, .inl st2))]) (k_runV (q0 := 2) (As := []) (rest := [.int (nI b), .ref bl_st]) (n := 0) S (c_DR_next l D cI cZ dq g2) E0_b E0_t ql_BL_81 qi_DR_next qs_DR_next qn_DR qc_DR_next (by decide +kernel) rfl ⟨rfl, rfl⟩ ⟨Nat.le_of_ble_eq_true rfl, Nat.le_of_ble_eq_true rfl⟩ hK hP hD [2] rfl (by decide) rfl rfl hl.1 rfl (Nat.le_of_ble_eq_true rfl) d_BL_drawStates_49 ⟨Nat.zero_le _, Nat.zero_le _⟩) hP hD hS hA [2] [0, 1] [0, 1, 2] rfl rfl (by decide) (by decide) rfl (by decide) (fun H locs hP hD hS => ?_)
            refine k_st (k := b) (x := dr (gn g2)) (ws' := [(bl, .inr (4, [.ref bl_le, .ref bl_he, .ref bl_st, .ref bl_fi, .ref bl_be, .ref bl_by, .ref bl_sa, .ref bl_mk, .int (nI bc)])), (bl_st, .inl (cI, 32, .inl (upd st2 b (dr (gn g2))))), (dq, .inr (3, [.int (gn g2)]))]) hx hb hK hP hD hS 1 0 rfl rfl rfl (by omega) (by decide) rfl d_BL_drawStates_52 (fun H locs hP hD hS => ?_)
            refine lv_iinc (k := 3) (v := nI (ag + 1)) (lv' := [(3, .int (nI (ag + 1))), (0, .ref bl), (1, .ref dq), (2, .int (nI b))]) hx hb d_BL_drawStates_53 hl rfl (nc_add rfl (by decide)) (by decide) rfl (fun ls hl => ?_)
            refine lv_goto (tgt := 22) hx hb d_BL_drawStates_56 (by decide) ?_
            have e9 : lr_BL_drawStates b (kf + 1) ag st2 g2 = lr_BL_drawStates b kf (ag + 1) (upd st2 b (dr (gn g2))) (gn g2) := by rw [lr_BL_drawStates, if_neg h40_6]
            rw [e9] at kk
            exact ih (ag + 1) (upd st2 b (dr (gn g2))) (gn g2) (by omega) (by rw [← e9]; exact hfin) _ _ _ (lv_sub hl [1, 2, 3, 0] rfl) hP hD hS kk
      refine LP22 7936 0 (upd st1 b (dr (gn g1))) (gn g1) (by omega) (among_ends (by omega) _ _ _ pk_us) _ _ _ (lv_sub hl [1, 2, 3, 0] rfl) hP hD hS (fun ls H locs hl hP hD hS => ?_)
      refine lv_iinc (k := 2) (v := nI (b + 1)) (lv' := [(2, .int (nI (b + 1))), (0, .ref bl), (1, .ref dq)]) hx hb d_BL_drawStates_59 hl rfl (nc_add rfl (by decide)) (by decide) rfl (fun ls hl => ?_)
      refine lv_goto (tgt := 2) hx hb d_BL_drawStates_62 (by decide) ?_
      have e9 : lp_BL_drawStates (kf + 1) b st1 g1 = lp_BL_drawStates kf (b + 1) ((lr_BL_drawStates b 7936 0 (upd st1 b (dr (gn g1))) (gn g1)).1) ((lr_BL_drawStates b 7936 0 (upd st1 b (dr (gn g1))) (gn g1)).2) := by rw [lp_BL_drawStates]
      rw [e9] at kk
      exact ih (b + 1) ((lr_BL_drawStates b 7936 0 (upd st1 b (dr (gn g1))) (gn g1)).1) ((lr_BL_drawStates b 7936 0 (upd st1 b (dr (gn g1))) (gn g1)).2) (by omega) _ _ _ (lv_sub hl [1, 2, 0] rfl) hP hD hS kk
  refine LP2 bc 0 st gg (by omega) _ _ _ (lv_sub hl [1, 2, 0] rfl) hP hD hS (fun ls H locs hl hP hD hS => ?_)
  exact k_vret hx hb hr hlocks hK hP hD hS (by rw [f_BL_drawStates]) d_BL_drawStates_65

theorem wev_c {fq : Nat} {fo fa : Nat → Int32} {v : Int32} : (f_WE_writeEvenProduct fq fo fa v).1 = fq + 7 := rfl
theorem wst_c {fq : Nat} {fo fa : Nat → Int32} {v : Int32} : (f_WE_writeSquareNeverTwo fq fo fa v).1 = fq + 7 := rfl
theorem wsm_c {fq : Nat} {fo fa : Nat → Int32} {u v : Int32} : (f_WE_writeSquaresNeverMeet fq fo fa u v).1 = fq + 11 := rfl
theorem wle_c {fq b t : Nat} {fo fa he st : Nat → Int32} : (f_WE_writeLead fq fo fa b t he st).1 = fq + tn (he t) + 5 := rfl

theorem d_WE_writeCondition_0 : decode b_WE_writeCondition 0 = .ok (.aload_n 0, 1) := by decide +kernel
theorem d_WE_writeCondition_1 : decode b_WE_writeCondition 1 = .ok (.getfield 30, 3) := by decide +kernel
theorem d_WE_writeCondition_4 : decode b_WE_writeCondition 4 = .ok (.invokevirtual 97, 3) := by decide +kernel
theorem d_WE_writeCondition_7 : decode b_WE_writeCondition 7 = .ok (.iconst 4, 1) := by decide +kernel
theorem d_WE_writeCondition_8 : decode b_WE_writeCondition 8 = .ok (.irem, 1) := by decide +kernel
theorem d_WE_writeCondition_9 : decode b_WE_writeCondition 9 = .ok (.istore_n 2, 1) := by decide +kernel
theorem d_WE_writeCondition_10 : decode b_WE_writeCondition 10 = .ok (.aload_n 0, 1) := by decide +kernel
theorem d_WE_writeCondition_11 : decode b_WE_writeCondition 11 = .ok (.getfield 30, 3) := by decide +kernel
theorem d_WE_writeCondition_14 : decode b_WE_writeCondition 14 = .ok (.invokevirtual 97, 3) := by decide +kernel
theorem d_WE_writeCondition_17 : decode b_WE_writeCondition 17 = .ok (.iconst 4, 1) := by decide +kernel
theorem d_WE_writeCondition_18 : decode b_WE_writeCondition 18 = .ok (.irem, 1) := by decide +kernel
theorem d_WE_writeCondition_19 : decode b_WE_writeCondition 19 = .ok (.istore_n 3, 1) := by decide +kernel
theorem d_WE_writeCondition_20 : decode b_WE_writeCondition 20 = .ok (.aload_n 0, 1) := by decide +kernel
theorem d_WE_writeCondition_21 : decode b_WE_writeCondition 21 = .ok (.getfield 30, 3) := by decide +kernel
theorem d_WE_writeCondition_24 : decode b_WE_writeCondition 24 = .ok (.invokevirtual 97, 3) := by decide +kernel
theorem d_WE_writeCondition_27 : decode b_WE_writeCondition 27 = .ok (.iconst 4, 1) := by decide +kernel
theorem d_WE_writeCondition_28 : decode b_WE_writeCondition 28 = .ok (.irem, 1) := by decide +kernel
theorem d_WE_writeCondition_29 : decode b_WE_writeCondition 29 = .ok (.istore 4, 2) := by decide +kernel
theorem d_WE_writeCondition_31 : decode b_WE_writeCondition 31 = .ok (.aload_n 0, 1) := by decide +kernel
theorem d_WE_writeCondition_32 : decode b_WE_writeCondition 32 = .ok (.getfield 30, 3) := by decide +kernel
theorem d_WE_writeCondition_35 : decode b_WE_writeCondition 35 = .ok (.invokevirtual 97, 3) := by decide +kernel
theorem d_WE_writeCondition_38 : decode b_WE_writeCondition 38 = .ok (.aload_n 0, 1) := by decide +kernel
theorem d_WE_writeCondition_39 : decode b_WE_writeCondition 39 = .ok (.getfield 23, 3) := by decide +kernel
theorem d_WE_writeCondition_42 : decode b_WE_writeCondition 42 = .ok (.getfield 55, 3) := by decide +kernel
theorem d_WE_writeCondition_45 : decode b_WE_writeCondition 45 = .ok (.irem, 1) := by decide +kernel
theorem d_WE_writeCondition_46 : decode b_WE_writeCondition 46 = .ok (.istore 5, 2) := by decide +kernel
theorem d_WE_writeCondition_48 : decode b_WE_writeCondition 48 = .ok (.aload_n 0, 1) := by decide +kernel
theorem d_WE_writeCondition_49 : decode b_WE_writeCondition 49 = .ok (.getfield 23, 3) := by decide +kernel
theorem d_WE_writeCondition_52 : decode b_WE_writeCondition 52 = .ok (.getfield 94, 3) := by decide +kernel
theorem d_WE_writeCondition_55 : decode b_WE_writeCondition 55 = .ok (.iload_n 1, 1) := by decide +kernel
theorem d_WE_writeCondition_56 : decode b_WE_writeCondition 56 = .ok (.iaload, 1) := by decide +kernel
theorem d_WE_writeCondition_57 : decode b_WE_writeCondition 57 = .ok (.iconst 3, 1) := by decide +kernel
theorem d_WE_writeCondition_58 : decode b_WE_writeCondition 58 = .ok (.iadd, 1) := by decide +kernel
theorem d_WE_writeCondition_59 : decode b_WE_writeCondition 59 = .ok (.istore 6, 2) := by decide +kernel
theorem d_WE_writeCondition_61 : decode b_WE_writeCondition 61 = .ok (.iload_n 2, 1) := by decide +kernel
theorem d_WE_writeCondition_62 : decode b_WE_writeCondition 62 = .ok (.ifCond .ne 4, 3) := by decide +kernel
theorem d_WE_writeCondition_65 : decode b_WE_writeCondition 65 = .ok (.return_, 1) := by decide +kernel
theorem d_WE_writeCondition_66 : decode b_WE_writeCondition 66 = .ok (.iload_n 2, 1) := by decide +kernel
theorem d_WE_writeCondition_67 : decode b_WE_writeCondition 67 = .ok (.iconst 1, 1) := by decide +kernel
theorem d_WE_writeCondition_68 : decode b_WE_writeCondition 68 = .ok (.if_icmp .ne 30, 3) := by decide +kernel
theorem d_WE_writeCondition_71 : decode b_WE_writeCondition 71 = .ok (.aload_n 0, 1) := by decide +kernel
theorem d_WE_writeCondition_72 : decode b_WE_writeCondition 72 = .ok (.iload 4, 2) := by decide +kernel
theorem d_WE_writeCondition_74 : decode b_WE_writeCondition 74 = .ok (.invokevirtual 101, 3) := by decide +kernel
theorem d_WE_writeCondition_77 : decode b_WE_writeCondition 77 = .ok (.aload_n 0, 1) := by decide +kernel
theorem d_WE_writeCondition_78 : decode b_WE_writeCondition 78 = .ok (.bipush 14, 2) := by decide +kernel
theorem d_WE_writeCondition_80 : decode b_WE_writeCondition 80 = .ok (.aload_n 0, 1) := by decide +kernel
theorem d_WE_writeCondition_81 : decode b_WE_writeCondition 81 = .ok (.getfield 14, 3) := by decide +kernel
theorem d_WE_writeCondition_84 : decode b_WE_writeCondition 84 = .ok (.getfield 66, 3) := by decide +kernel
theorem d_WE_writeCondition_87 : decode b_WE_writeCondition 87 = .ok (.iconst 1, 1) := by decide +kernel
theorem d_WE_writeCondition_88 : decode b_WE_writeCondition 88 = .ok (.iadd, 1) := by decide +kernel
theorem d_WE_writeCondition_89 : decode b_WE_writeCondition 89 = .ok (.iload 6, 2) := by decide +kernel
theorem d_WE_writeCondition_91 : decode b_WE_writeCondition 91 = .ok (.iadd, 1) := by decide +kernel
theorem d_WE_writeCondition_92 : decode b_WE_writeCondition 92 = .ok (.invokevirtual 89, 3) := by decide +kernel
theorem d_WE_writeCondition_95 : decode b_WE_writeCondition 95 = .ok (.goto 57, 3) := by decide +kernel
theorem d_WE_writeCondition_98 : decode b_WE_writeCondition 98 = .ok (.iload_n 2, 1) := by decide +kernel
theorem d_WE_writeCondition_99 : decode b_WE_writeCondition 99 = .ok (.iconst 2, 1) := by decide +kernel
theorem d_WE_writeCondition_100 : decode b_WE_writeCondition 100 = .ok (.if_icmp .ne 12, 3) := by decide +kernel
theorem d_WE_writeCondition_103 : decode b_WE_writeCondition 103 = .ok (.aload_n 0, 1) := by decide +kernel
theorem d_WE_writeCondition_104 : decode b_WE_writeCondition 104 = .ok (.iload 4, 2) := by decide +kernel
theorem d_WE_writeCondition_106 : decode b_WE_writeCondition 106 = .ok (.invokevirtual 104, 3) := by decide +kernel
theorem d_WE_writeCondition_109 : decode b_WE_writeCondition 109 = .ok (.goto 10, 3) := by decide +kernel
theorem d_WE_writeCondition_112 : decode b_WE_writeCondition 112 = .ok (.aload_n 0, 1) := by decide +kernel
theorem d_WE_writeCondition_113 : decode b_WE_writeCondition 113 = .ok (.iload_n 3, 1) := by decide +kernel
theorem d_WE_writeCondition_114 : decode b_WE_writeCondition 114 = .ok (.iload 4, 2) := by decide +kernel
theorem d_WE_writeCondition_116 : decode b_WE_writeCondition 116 = .ok (.invokevirtual 107, 3) := by decide +kernel
theorem d_WE_writeCondition_119 : decode b_WE_writeCondition 119 = .ok (.aload_n 0, 1) := by decide +kernel
theorem d_WE_writeCondition_120 : decode b_WE_writeCondition 120 = .ok (.bipush 14, 2) := by decide +kernel
theorem d_WE_writeCondition_122 : decode b_WE_writeCondition 122 = .ok (.aload_n 0, 1) := by decide +kernel
theorem d_WE_writeCondition_123 : decode b_WE_writeCondition 123 = .ok (.getfield 14, 3) := by decide +kernel
theorem d_WE_writeCondition_126 : decode b_WE_writeCondition 126 = .ok (.getfield 66, 3) := by decide +kernel
theorem d_WE_writeCondition_129 : decode b_WE_writeCondition 129 = .ok (.iconst 2, 1) := by decide +kernel
theorem d_WE_writeCondition_130 : decode b_WE_writeCondition 130 = .ok (.iadd, 1) := by decide +kernel
theorem d_WE_writeCondition_131 : decode b_WE_writeCondition 131 = .ok (.invokevirtual 89, 3) := by decide +kernel
theorem d_WE_writeCondition_134 : decode b_WE_writeCondition 134 = .ok (.aload_n 0, 1) := by decide +kernel
theorem d_WE_writeCondition_135 : decode b_WE_writeCondition 135 = .ok (.bipush 13, 2) := by decide +kernel
theorem d_WE_writeCondition_137 : decode b_WE_writeCondition 137 = .ok (.aload_n 0, 1) := by decide +kernel
theorem d_WE_writeCondition_138 : decode b_WE_writeCondition 138 = .ok (.getfield 14, 3) := by decide +kernel
theorem d_WE_writeCondition_141 : decode b_WE_writeCondition 141 = .ok (.getfield 66, 3) := by decide +kernel
theorem d_WE_writeCondition_144 : decode b_WE_writeCondition 144 = .ok (.iconst 1, 1) := by decide +kernel
theorem d_WE_writeCondition_145 : decode b_WE_writeCondition 145 = .ok (.iadd, 1) := by decide +kernel
theorem d_WE_writeCondition_146 : decode b_WE_writeCondition 146 = .ok (.iload 6, 2) := by decide +kernel
theorem d_WE_writeCondition_148 : decode b_WE_writeCondition 148 = .ok (.iadd, 1) := by decide +kernel
theorem d_WE_writeCondition_149 : decode b_WE_writeCondition 149 = .ok (.invokevirtual 89, 3) := by decide +kernel
theorem d_WE_writeCondition_152 : decode b_WE_writeCondition 152 = .ok (.aload_n 0, 1) := by decide +kernel
theorem d_WE_writeCondition_153 : decode b_WE_writeCondition 153 = .ok (.iload_n 1, 1) := by decide +kernel
theorem d_WE_writeCondition_154 : decode b_WE_writeCondition 154 = .ok (.iload 5, 2) := by decide +kernel
theorem d_WE_writeCondition_156 : decode b_WE_writeCondition 156 = .ok (.invokevirtual 110, 3) := by decide +kernel
theorem d_WE_writeCondition_159 : decode b_WE_writeCondition 159 = .ok (.return_, 1) := by decide +kernel
noncomputable def f_WE_writeCondition (fq : Nat) (fo : Nat → Int32) (fa : Nat → Int32) (bc : Nat) (b : Nat) (gg : Int32) (he : Nat → Int32) (st : Nat → Int32) : Nat × (Nat → Int32) × (Nat → Int32) × Int32 := (if (dr (gn gg)) - (dr (gn gg)) / 4 * 4 = 0 then (fq, fo, fa, gn (gn (gn (gn gg)))) else (if (dr (gn gg)) - (dr (gn gg)) / 4 * 4 = 1 then ((f_WE_writeJunk ((fq + 7) + 1) (upd ((f_WE_writeEvenProduct fq fo fa ((dr (gn (gn (gn gg)))) - (dr (gn (gn (gn gg)))) / 4 * 4)).2.1) (fq + 7) 14) (upd ((f_WE_writeEvenProduct fq fo fa ((dr (gn (gn (gn gg)))) - (dr (gn (gn (gn gg)))) / 4 * 4)).2.2) (fq + 7) (nI (fq + 7 + 1 + (tn (he b) + 3)))) b ((tn (dr (gn (gn (gn (gn gg)))))) % bc) he st).1, (f_WE_writeJunk ((fq + 7) + 1) (upd ((f_WE_writeEvenProduct fq fo fa ((dr (gn (gn (gn gg)))) - (dr (gn (gn (gn gg)))) / 4 * 4)).2.1) (fq + 7) 14) (upd ((f_WE_writeEvenProduct fq fo fa ((dr (gn (gn (gn gg)))) - (dr (gn (gn (gn gg)))) / 4 * 4)).2.2) (fq + 7) (nI (fq + 7 + 1 + (tn (he b) + 3)))) b ((tn (dr (gn (gn (gn (gn gg)))))) % bc) he st).2.1, (f_WE_writeJunk ((fq + 7) + 1) (upd ((f_WE_writeEvenProduct fq fo fa ((dr (gn (gn (gn gg)))) - (dr (gn (gn (gn gg)))) / 4 * 4)).2.1) (fq + 7) 14) (upd ((f_WE_writeEvenProduct fq fo fa ((dr (gn (gn (gn gg)))) - (dr (gn (gn (gn gg)))) / 4 * 4)).2.2) (fq + 7) (nI (fq + 7 + 1 + (tn (he b) + 3)))) b ((tn (dr (gn (gn (gn (gn gg)))))) % bc) he st).2.2, gn (gn (gn (gn gg)))) else (if (dr (gn gg)) - (dr (gn gg)) / 4 * 4 = 2 then ((f_WE_writeJunk (((fq + 7) + 1) + 1) (upd (upd ((f_WE_writeSquareNeverTwo fq fo fa ((dr (gn (gn (gn gg)))) - (dr (gn (gn (gn gg)))) / 4 * 4)).2.1) (fq + 7) 14) ((fq + 7) + 1) 13) (upd (upd ((f_WE_writeSquareNeverTwo fq fo fa ((dr (gn (gn (gn gg)))) - (dr (gn (gn (gn gg)))) / 4 * 4)).2.2) (fq + 7) (nI (fq + 7 + 2))) ((fq + 7) + 1) (nI ((fq + 7) + 1 + 1 + (tn (he b) + 3)))) b ((tn (dr (gn (gn (gn (gn gg)))))) % bc) he st).1, (f_WE_writeJunk (((fq + 7) + 1) + 1) (upd (upd ((f_WE_writeSquareNeverTwo fq fo fa ((dr (gn (gn (gn gg)))) - (dr (gn (gn (gn gg)))) / 4 * 4)).2.1) (fq + 7) 14) ((fq + 7) + 1) 13) (upd (upd ((f_WE_writeSquareNeverTwo fq fo fa ((dr (gn (gn (gn gg)))) - (dr (gn (gn (gn gg)))) / 4 * 4)).2.2) (fq + 7) (nI (fq + 7 + 2))) ((fq + 7) + 1) (nI ((fq + 7) + 1 + 1 + (tn (he b) + 3)))) b ((tn (dr (gn (gn (gn (gn gg)))))) % bc) he st).2.1, (f_WE_writeJunk (((fq + 7) + 1) + 1) (upd (upd ((f_WE_writeSquareNeverTwo fq fo fa ((dr (gn (gn (gn gg)))) - (dr (gn (gn (gn gg)))) / 4 * 4)).2.1) (fq + 7) 14) ((fq + 7) + 1) 13) (upd (upd ((f_WE_writeSquareNeverTwo fq fo fa ((dr (gn (gn (gn gg)))) - (dr (gn (gn (gn gg)))) / 4 * 4)).2.2) (fq + 7) (nI (fq + 7 + 2))) ((fq + 7) + 1) (nI ((fq + 7) + 1 + 1 + (tn (he b) + 3)))) b ((tn (dr (gn (gn (gn (gn gg)))))) % bc) he st).2.2, gn (gn (gn (gn gg)))) else ((f_WE_writeJunk (((fq + 11) + 1) + 1) (upd (upd ((f_WE_writeSquaresNeverMeet fq fo fa ((dr (gn (gn gg))) - (dr (gn (gn gg))) / 4 * 4) ((dr (gn (gn (gn gg)))) - (dr (gn (gn (gn gg)))) / 4 * 4)).2.1) (fq + 11) 14) ((fq + 11) + 1) 13) (upd (upd ((f_WE_writeSquaresNeverMeet fq fo fa ((dr (gn (gn gg))) - (dr (gn (gn gg))) / 4 * 4) ((dr (gn (gn (gn gg)))) - (dr (gn (gn (gn gg)))) / 4 * 4)).2.2) (fq + 11) (nI (fq + 11 + 2))) ((fq + 11) + 1) (nI ((fq + 11) + 1 + 1 + (tn (he b) + 3)))) b ((tn (dr (gn (gn (gn (gn gg)))))) % bc) he st).1, (f_WE_writeJunk (((fq + 11) + 1) + 1) (upd (upd ((f_WE_writeSquaresNeverMeet fq fo fa ((dr (gn (gn gg))) - (dr (gn (gn gg))) / 4 * 4) ((dr (gn (gn (gn gg)))) - (dr (gn (gn (gn gg)))) / 4 * 4)).2.1) (fq + 11) 14) ((fq + 11) + 1) 13) (upd (upd ((f_WE_writeSquaresNeverMeet fq fo fa ((dr (gn (gn gg))) - (dr (gn (gn gg))) / 4 * 4) ((dr (gn (gn (gn gg)))) - (dr (gn (gn (gn gg)))) / 4 * 4)).2.2) (fq + 11) (nI (fq + 11 + 2))) ((fq + 11) + 1) (nI ((fq + 11) + 1 + 1 + (tn (he b) + 3)))) b ((tn (dr (gn (gn (gn (gn gg)))))) % bc) he st).2.1, (f_WE_writeJunk (((fq + 11) + 1) + 1) (upd (upd ((f_WE_writeSquaresNeverMeet fq fo fa ((dr (gn (gn gg))) - (dr (gn (gn gg))) / 4 * 4) ((dr (gn (gn (gn gg)))) - (dr (gn (gn (gn gg)))) / 4 * 4)).2.1) (fq + 11) 14) ((fq + 11) + 1) 13) (upd (upd ((f_WE_writeSquaresNeverMeet fq fo fa ((dr (gn (gn gg))) - (dr (gn (gn gg))) / 4 * 4) ((dr (gn (gn (gn gg)))) - (dr (gn (gn (gn gg)))) / 4 * 4)).2.2) (fq + 11) (nI (fq + 11 + 2))) ((fq + 11) + 1) (nI ((fq + 11) + 1 + 1 + (tn (he b) + 3)))) b ((tn (dr (gn (gn (gn (gn gg)))))) % bc) he st).2.2, gn (gn (gn (gn gg)))))))
set_option maxHeartbeats 1000000 in
set_option maxRecDepth 100000 in
theorem c_WE_writeCondition (l : Launch) (D : va_G) (cI cZ : ClassId) (we bl dq : Nat) (fc fc_ops fc_opd fc_fr fc_to fc_tg fq fhn : Nat) (fo fa : Nat → Int32) (bl_le bl_he bl_st bl_fi bl_be bl_by bl_sa bl_mk bc : Nat) (b : Nat) (gg : Int32) (he st : Nat → Int32) (hb1 : 1 ≤ bc) (hb32 : bc ≤ 32) (hb : b < 32) (hhe : Nn he b 5) (hfq : fq + 20 ≤ 1328) : MG l y_WE_writeCondition w_WE_writeCondition (rmK 4 88) D classes (tyz cI cZ) E0 [.ref we, .int (nI b)] [(we, .inr (5, [.ref fc, .ref bl, .ref dq])), (fc, .inr (1, [.ref fc_ops, .ref fc_opd, .ref fc_fr, .ref fc_to, .ref fc_tg, .int (nI fq), .int (nI fhn)])), (fc_ops, .inl (cI, 1328, .inl fo)), (fc_opd, .inl (cI, 1328, .inl fa)), (bl, .inr (4, [.ref bl_le, .ref bl_he, .ref bl_st, .ref bl_fi, .ref bl_be, .ref bl_by, .ref bl_sa, .ref bl_mk, .int (nI bc)])), (bl_he, .inl (cI, 32, .inl he)), (bl_st, .inl (cI, 32, .inl st)), (dq, .inr (3, [.int gg]))] (RV D classes (tyz cI cZ) [(we, .inr (5, [.ref fc, .ref bl, .ref dq])), (fc, .inr (1, [.ref fc_ops, .ref fc_opd, .ref fc_fr, .ref fc_to, .ref fc_tg, .int (nI ((f_WE_writeCondition fq fo fa bc b gg he st).1)), .int (nI fhn)])), (fc_ops, .inl (cI, 1328, .inl ((f_WE_writeCondition fq fo fa bc b gg he st).2.1))), (fc_opd, .inl (cI, 1328, .inl ((f_WE_writeCondition fq fo fa bc b gg he st).2.2.1))), (bl, .inr (4, [.ref bl_le, .ref bl_he, .ref bl_st, .ref bl_fi, .ref bl_be, .ref bl_by, .ref bl_sa, .ref bl_mk, .int (nI bc)])), (bl_he, .inl (cI, 32, .inl he)), (bl_st, .inl (cI, 32, .inl st)), (dq, .inr (3, [.int ((f_WE_writeCondition fq fo fa bc b gg he st).2.2.2)]))]) := by
  refine MG.of (cc := b_WE_writeCondition) (maxL := 7) (ret := none) (own := "FlowFlattener$Weaver") rfl (by decide) rfl (Nat.le_of_ble_eq_true rfl) ?_
  intro p e s m below meth c A ls S hr hlocks hA hP hK hD hS hE hl
  have hx := S.1
  have hb := S.2.1
  have hl : lv_has ls 7 [(0, .ref we), (1, .int (nI b))] := hl
  refine lv_aload_n hx hb d_WE_writeCondition_0 rfl (lv_at hl 0 rfl) ?_
  refine k_get (v := .ref dq) S in_WE hK hP 0 rfl rfl 2 (by decide) ql_WE_30 rfl d_WE_writeCondition_1 ?_
  refine k_goi (ws' := [(we, .inr (5, [.ref fc, .ref bl, .ref dq])), (fc, .inr (1, [.ref fc_ops, .ref fc_opd, .ref fc_fr, .ref fc_to, .ref fc_tg, .int (nI fq), .int (nI fhn)])), (fc_ops, .inl (cI, 1328, .inl fo)), (fc_opd, .inl (cI, 1328, .inl fa)), (bl, .inr (4, [.ref bl_le, .ref bl_he, .ref bl_st, .ref bl_fi, .ref bl_be, .ref bl_by, .ref bl_sa, .ref bl_mk, .int (nI bc)])), (bl_he, .inl (cI, 32, .inl he)), (bl_st, .inl (cI, 32, .inl st)), (dq, .inr (3, [.int (gn gg)]))]) (wr := [(we, .inr (5, [.ref fc, .ref bl, .ref dq])), (fc, .inr (1, [.ref fc_ops, .ref fc_opd, .ref fc_fr, .ref fc_to, .ref fc_tg, .int (nI fq), .int (nI fhn)])), (fc_ops, .inl (cI, 1328, .inl fo)), (fc_opd, .inl (cI, 1328, .inl fa)), (bl, .inr (4, [.ref bl_le, .ref bl_he, .ref bl_st, .ref bl_fi, .ref bl_be, .ref bl_by, .ref bl_sa, .ref bl_mk, .int (nI bc)])), (bl_he, .inl (cI, 32, .inl he)), (bl_st, .inl (cI, 32, .inl st))]) (k_runV (q0 := 7) (As := []) (rest := []) (n := 0) S (c_DR_next l D cI cZ dq gg) E0_b E0_t ql_WE_97 qi_DR_next qs_DR_next qn_DR qc_DR_next (by decide +kernel) rfl ⟨rfl, rfl⟩ ⟨Nat.le_of_ble_eq_true rfl, Nat.le_of_ble_eq_true rfl⟩ hK hP hD [7] rfl (by decide) rfl rfl hl.1 rfl (Nat.le_of_ble_eq_true rfl) d_WE_writeCondition_4 ⟨Nat.zero_le _, Nat.zero_le _⟩) hP hD hS hA [7] [0, 1, 2, 3, 4, 5, 6] [0, 1, 2, 3, 4, 5, 6, 7] rfl rfl (by decide) (by decide) rfl (by decide) (fun H locs hP hD hS => ?_)
  refine lv_iconst (v := 4) hx hb d_WE_writeCondition_7 (by decide) ?_
  refine lv_irem hx hb d_WE_writeCondition_8 (by decide) ?_
  refine lv_istore_n (lv' := [(2, .int ((dr (gn gg)) - (dr (gn gg)) / 4 * 4)), (0, .ref we), (1, .int (nI b))]) hx hb d_WE_writeCondition_9 rfl hl (by decide) rfl (fun ls hl => ?_)
  refine lv_aload_n hx hb d_WE_writeCondition_10 rfl (lv_at hl 1 rfl) ?_
  refine k_get (v := .ref dq) S in_WE hK hP 0 rfl rfl 2 (by decide) ql_WE_30 rfl d_WE_writeCondition_11 ?_
  refine k_goi (ws' := [(we, .inr (5, [.ref fc, .ref bl, .ref dq])), (fc, .inr (1, [.ref fc_ops, .ref fc_opd, .ref fc_fr, .ref fc_to, .ref fc_tg, .int (nI fq), .int (nI fhn)])), (fc_ops, .inl (cI, 1328, .inl fo)), (fc_opd, .inl (cI, 1328, .inl fa)), (bl, .inr (4, [.ref bl_le, .ref bl_he, .ref bl_st, .ref bl_fi, .ref bl_be, .ref bl_by, .ref bl_sa, .ref bl_mk, .int (nI bc)])), (bl_he, .inl (cI, 32, .inl he)), (bl_st, .inl (cI, 32, .inl st)), (dq, .inr (3, [.int (gn (gn gg))]))]) (wr := [(we, .inr (5, [.ref fc, .ref bl, .ref dq])), (fc, .inr (1, [.ref fc_ops, .ref fc_opd, .ref fc_fr, .ref fc_to, .ref fc_tg, .int (nI fq), .int (nI fhn)])), (fc_ops, .inl (cI, 1328, .inl fo)), (fc_opd, .inl (cI, 1328, .inl fa)), (bl, .inr (4, [.ref bl_le, .ref bl_he, .ref bl_st, .ref bl_fi, .ref bl_be, .ref bl_by, .ref bl_sa, .ref bl_mk, .int (nI bc)])), (bl_he, .inl (cI, 32, .inl he)), (bl_st, .inl (cI, 32, .inl st))]) (k_runV (q0 := 7) (As := []) (rest := []) (n := 0) S (c_DR_next l D cI cZ dq (gn gg)) E0_b E0_t ql_WE_97 qi_DR_next qs_DR_next qn_DR qc_DR_next (by decide +kernel) rfl ⟨rfl, rfl⟩ ⟨Nat.le_of_ble_eq_true rfl, Nat.le_of_ble_eq_true rfl⟩ hK hP hD [7] rfl (by decide) rfl rfl hl.1 rfl (Nat.le_of_ble_eq_true rfl) d_WE_writeCondition_14 ⟨Nat.zero_le _, Nat.zero_le _⟩) hP hD hS hA [7] [0, 1, 2, 3, 4, 5, 6] [0, 1, 2, 3, 4, 5, 6, 7] rfl rfl (by decide) (by decide) rfl (by decide) (fun H locs hP hD hS => ?_)
  refine lv_iconst (v := 4) hx hb d_WE_writeCondition_17 (by decide) ?_
  refine lv_irem hx hb d_WE_writeCondition_18 (by decide) ?_
  refine lv_istore_n (lv' := [(3, .int ((dr (gn (gn gg))) - (dr (gn (gn gg))) / 4 * 4)), (2, .int ((dr (gn gg)) - (dr (gn gg)) / 4 * 4)), (0, .ref we), (1, .int (nI b))]) hx hb d_WE_writeCondition_19 rfl hl (by decide) rfl (fun ls hl => ?_)
  refine lv_aload_n hx hb d_WE_writeCondition_20 rfl (lv_at hl 2 rfl) ?_
  refine k_get (v := .ref dq) S in_WE hK hP 0 rfl rfl 2 (by decide) ql_WE_30 rfl d_WE_writeCondition_21 ?_
  refine k_goi (ws' := [(we, .inr (5, [.ref fc, .ref bl, .ref dq])), (fc, .inr (1, [.ref fc_ops, .ref fc_opd, .ref fc_fr, .ref fc_to, .ref fc_tg, .int (nI fq), .int (nI fhn)])), (fc_ops, .inl (cI, 1328, .inl fo)), (fc_opd, .inl (cI, 1328, .inl fa)), (bl, .inr (4, [.ref bl_le, .ref bl_he, .ref bl_st, .ref bl_fi, .ref bl_be, .ref bl_by, .ref bl_sa, .ref bl_mk, .int (nI bc)])), (bl_he, .inl (cI, 32, .inl he)), (bl_st, .inl (cI, 32, .inl st)), (dq, .inr (3, [.int (gn (gn (gn gg)))]))]) (wr := [(we, .inr (5, [.ref fc, .ref bl, .ref dq])), (fc, .inr (1, [.ref fc_ops, .ref fc_opd, .ref fc_fr, .ref fc_to, .ref fc_tg, .int (nI fq), .int (nI fhn)])), (fc_ops, .inl (cI, 1328, .inl fo)), (fc_opd, .inl (cI, 1328, .inl fa)), (bl, .inr (4, [.ref bl_le, .ref bl_he, .ref bl_st, .ref bl_fi, .ref bl_be, .ref bl_by, .ref bl_sa, .ref bl_mk, .int (nI bc)])), (bl_he, .inl (cI, 32, .inl he)), (bl_st, .inl (cI, 32, .inl st))]) (k_runV (q0 := 7) (As := []) (rest := []) (n := 0) S (c_DR_next l D cI cZ dq (gn (gn gg))) E0_b E0_t ql_WE_97 qi_DR_next qs_DR_next qn_DR qc_DR_next (by decide +kernel) rfl ⟨rfl, rfl⟩ ⟨Nat.le_of_ble_eq_true rfl, Nat.le_of_ble_eq_true rfl⟩ hK hP hD [7] rfl (by decide) rfl rfl hl.1 rfl (Nat.le_of_ble_eq_true rfl) d_WE_writeCondition_24 ⟨Nat.zero_le _, Nat.zero_le _⟩) hP hD hS hA [7] [0, 1, 2, 3, 4, 5, 6] [0, 1, 2, 3, 4, 5, 6, 7] rfl rfl (by decide) (by decide) rfl (by decide) (fun H locs hP hD hS => ?_)
  refine lv_iconst (v := 4) hx hb d_WE_writeCondition_27 (by decide) ?_
  refine lv_irem hx hb d_WE_writeCondition_28 (by decide) ?_
  refine lv_istore (lv' := [(4, .int ((dr (gn (gn (gn gg)))) - (dr (gn (gn (gn gg)))) / 4 * 4)), (3, .int ((dr (gn (gn gg))) - (dr (gn (gn gg))) / 4 * 4)), (2, .int ((dr (gn gg)) - (dr (gn gg)) / 4 * 4)), (0, .ref we), (1, .int (nI b))]) hx hb d_WE_writeCondition_29 hl (by decide) rfl (fun ls hl => ?_)
  refine lv_aload_n hx hb d_WE_writeCondition_31 rfl (lv_at hl 3 rfl) ?_
  refine k_get (v := .ref dq) S in_WE hK hP 0 rfl rfl 2 (by decide) ql_WE_30 rfl d_WE_writeCondition_32 ?_
  refine k_goi (ws' := [(we, .inr (5, [.ref fc, .ref bl, .ref dq])), (fc, .inr (1, [.ref fc_ops, .ref fc_opd, .ref fc_fr, .ref fc_to, .ref fc_tg, .int (nI fq), .int (nI fhn)])), (fc_ops, .inl (cI, 1328, .inl fo)), (fc_opd, .inl (cI, 1328, .inl fa)), (bl, .inr (4, [.ref bl_le, .ref bl_he, .ref bl_st, .ref bl_fi, .ref bl_be, .ref bl_by, .ref bl_sa, .ref bl_mk, .int (nI bc)])), (bl_he, .inl (cI, 32, .inl he)), (bl_st, .inl (cI, 32, .inl st)), (dq, .inr (3, [.int (gn (gn (gn (gn gg))))]))]) (wr := [(we, .inr (5, [.ref fc, .ref bl, .ref dq])), (fc, .inr (1, [.ref fc_ops, .ref fc_opd, .ref fc_fr, .ref fc_to, .ref fc_tg, .int (nI fq), .int (nI fhn)])), (fc_ops, .inl (cI, 1328, .inl fo)), (fc_opd, .inl (cI, 1328, .inl fa)), (bl, .inr (4, [.ref bl_le, .ref bl_he, .ref bl_st, .ref bl_fi, .ref bl_be, .ref bl_by, .ref bl_sa, .ref bl_mk, .int (nI bc)])), (bl_he, .inl (cI, 32, .inl he)), (bl_st, .inl (cI, 32, .inl st))]) (k_runV (q0 := 7) (As := []) (rest := []) (n := 0) S (c_DR_next l D cI cZ dq (gn (gn (gn gg)))) E0_b E0_t ql_WE_97 qi_DR_next qs_DR_next qn_DR qc_DR_next (by decide +kernel) rfl ⟨rfl, rfl⟩ ⟨Nat.le_of_ble_eq_true rfl, Nat.le_of_ble_eq_true rfl⟩ hK hP hD [7] rfl (by decide) rfl rfl hl.1 rfl (Nat.le_of_ble_eq_true rfl) d_WE_writeCondition_35 ⟨Nat.zero_le _, Nat.zero_le _⟩) hP hD hS hA [7] [0, 1, 2, 3, 4, 5, 6] [0, 1, 2, 3, 4, 5, 6, 7] rfl rfl (by decide) (by decide) rfl (by decide) (fun H locs hP hD hS => ?_)
  refine k_top (y := nI (tn (dr (gn (gn (gn (gn gg))))))) (dr_n _).1 ?_
  refine lv_aload_n hx hb d_WE_writeCondition_38 rfl (lv_at hl 3 rfl) ?_
  refine k_get (v := .ref bl) S in_WE hK hP 0 rfl rfl 1 (by decide) ql_WE_23 rfl d_WE_writeCondition_39 ?_
  refine k_get (v := .int (nI bc)) S in_BL hK hP 4 rfl rfl 8 (by decide) ql_WE_55 rfl d_WE_writeCondition_42 ?_
  refine lv_irem hx hb d_WE_writeCondition_45 (nI_ne0 (by omega) (by omega)) ?_
  refine k_top (y := nI ((tn (dr (gn (gn (gn (gn gg)))))) % bc)) (nc_rem rfl rfl (by have := (dr_n (gn (gn (gn (gn gg))))).2; omega) (by omega) (by omega)) ?_
  refine lv_istore (lv' := [(5, .int (nI ((tn (dr (gn (gn (gn (gn gg)))))) % bc))), (4, .int ((dr (gn (gn (gn gg)))) - (dr (gn (gn (gn gg)))) / 4 * 4)), (3, .int ((dr (gn (gn gg))) - (dr (gn (gn gg))) / 4 * 4)), (2, .int ((dr (gn gg)) - (dr (gn gg)) / 4 * 4)), (0, .ref we), (1, .int (nI b))]) hx hb d_WE_writeCondition_46 hl (by decide) rfl (fun ls hl => ?_)
  refine lv_aload_n hx hb d_WE_writeCondition_48 rfl (lv_at hl 4 rfl) ?_
  refine k_get (v := .ref bl) S in_WE hK hP 0 rfl rfl 1 (by decide) ql_WE_23 rfl d_WE_writeCondition_49 ?_
  refine k_get (v := .ref bl_he) S in_BL hK hP 4 rfl rfl 1 (by decide) ql_WE_94 rfl d_WE_writeCondition_52 ?_
  refine lv_iload_n hx hb d_WE_writeCondition_55 rfl (lv_at hl 5 rfl) ?_
  refine k_ld (k := b) hx hb hK hP 5 0 rfl rfl rfl (by omega) (by decide) d_WE_writeCondition_56 ?_
  refine k_top (y := nI (tn (he b))) hhe.1 ?_
  have h5 := hhe.2
  refine lv_iconst (v := 3) hx hb d_WE_writeCondition_57 (by decide) ?_
  refine lv_iadd hx hb d_WE_writeCondition_58 ?_
  refine k_top (y := nI (tn (he b) + 3)) (nc_add rfl (by decide)) ?_
  refine lv_istore (lv' := [(6, .int (nI (tn (he b) + 3))), (5, .int (nI ((tn (dr (gn (gn (gn (gn gg)))))) % bc))), (4, .int ((dr (gn (gn (gn gg)))) - (dr (gn (gn (gn gg)))) / 4 * 4)), (3, .int ((dr (gn (gn gg))) - (dr (gn (gn gg))) / 4 * 4)), (2, .int ((dr (gn gg)) - (dr (gn gg)) / 4 * 4)), (0, .ref we), (1, .int (nI b))]) hx hb d_WE_writeCondition_59 hl (by decide) rfl (fun ls hl => ?_)
  refine lv_iload_n hx hb d_WE_writeCondition_61 rfl (lv_at hl 4 rfl) ?_
  refine lv_if_ne (tgt := 66) hx hb d_WE_writeCondition_62 (by decide) (fun h62_1 => ?_) (fun h62_1 => ?_)
  · skip
    refine lv_iload_n hx hb d_WE_writeCondition_66 rfl (lv_at hl 4 rfl) ?_
    refine lv_iconst (v := 1) hx hb d_WE_writeCondition_67 (by decide) ?_
    refine lv_icmp_ne (tgt := 98) hx hb d_WE_writeCondition_68 (by decide) (fun h68_2 => ?_) (fun h68_2 => ?_)
    · skip
      refine lv_iload_n hx hb d_WE_writeCondition_98 rfl (lv_at hl 4 rfl) ?_
      refine lv_iconst (v := 2) hx hb d_WE_writeCondition_99 (by decide) ?_
      refine lv_icmp_ne (tgt := 112) hx hb d_WE_writeCondition_100 (by decide) (fun h100_3 => ?_) (fun h100_3 => ?_)
      · skip
        refine lv_aload_n hx hb d_WE_writeCondition_112 rfl (lv_at hl 5 rfl) ?_
        refine lv_iload_n hx hb d_WE_writeCondition_113 rfl (lv_at hl 3 rfl) ?_
        refine lv_iload hx hb d_WE_writeCondition_114 (lv_at hl 2 rfl) ?_
        refine k_gov (ws' := [(we, .inr (5, [.ref fc, .ref bl, .ref dq])), (fc, .inr (1, [.ref fc_ops, .ref fc_opd, .ref fc_fr, .ref fc_to, .ref fc_tg, .int (nI ((f_WE_writeSquaresNeverMeet fq fo fa ((dr (gn (gn gg))) - (dr (gn (gn gg))) / 4 * 4) ((dr (gn (gn (gn gg)))) - (dr (gn (gn (gn gg)))) / 4 * 4)).1)), .int (nI fhn)])), (fc_ops, .inl (cI, 1328, .inl ((f_WE_writeSquaresNeverMeet fq fo fa ((dr (gn (gn gg))) - (dr (gn (gn gg))) / 4 * 4) ((dr (gn (gn (gn gg)))) - (dr (gn (gn (gn gg)))) / 4 * 4)).2.1))), (fc_opd, .inl (cI, 1328, .inl ((f_WE_writeSquaresNeverMeet fq fo fa ((dr (gn (gn gg))) - (dr (gn (gn gg))) / 4 * 4) ((dr (gn (gn (gn gg)))) - (dr (gn (gn (gn gg)))) / 4 * 4)).2.2))), (bl, .inr (4, [.ref bl_le, .ref bl_he, .ref bl_st, .ref bl_fi, .ref bl_be, .ref bl_by, .ref bl_sa, .ref bl_mk, .int (nI bc)])), (bl_he, .inl (cI, 32, .inl he)), (bl_st, .inl (cI, 32, .inl st)), (dq, .inr (3, [.int (gn (gn (gn (gn gg))))]))]) (wr := [(bl, .inr (4, [.ref bl_le, .ref bl_he, .ref bl_st, .ref bl_fi, .ref bl_be, .ref bl_by, .ref bl_sa, .ref bl_mk, .int (nI bc)])), (bl_he, .inl (cI, 32, .inl he)), (bl_st, .inl (cI, 32, .inl st)), (dq, .inr (3, [.int (gn (gn (gn (gn gg))))]))]) (k_runV (q0 := 0) (As := [.int ((dr (gn (gn gg))) - (dr (gn (gn gg))) / 4 * 4), .int ((dr (gn (gn (gn gg)))) - (dr (gn (gn (gn gg)))) / 4 * 4)]) (rest := []) (n := 2) S (c_WE_writeSquaresNeverMeet l D cI cZ we bl dq fc fc_ops fc_opd fc_fr fc_to fc_tg fq fhn fo fa ((dr (gn (gn gg))) - (dr (gn (gn gg))) / 4 * 4) ((dr (gn (gn (gn gg)))) - (dr (gn (gn (gn gg)))) / 4 * 4) (by omega)) E0_b E0_t ql_WE_107 qi_WE_writeSquaresNeverMeet qs_WE_writeSquaresNeverMeet qn_WE qc_WE_writeSquaresNeverMeet (by decide +kernel) rfl ⟨rfl, rfl⟩ ⟨Nat.le_of_ble_eq_true rfl, Nat.le_of_ble_eq_true rfl⟩ hK hP hD [0, 1, 2, 3] rfl (by decide) rfl rfl hl.1 rfl (Nat.le_of_ble_eq_true rfl) d_WE_writeCondition_116 ⟨Nat.zero_le _, Nat.zero_le _⟩) hP hD hS hA [0, 1, 2, 3] [4, 5, 6, 7] [4, 5, 6, 7, 0, 1, 2, 3] rfl rfl (by decide) (by decide) rfl (by decide) (fun H locs hP hD hS => ?_)
        rw [wsm_c] at hP hD
        refine lv_aload_n hx hb d_WE_writeCondition_119 rfl (lv_at hl 5 rfl) ?_
        refine lv_bipush (v := 14) hx hb d_WE_writeCondition_120 (by decide) ?_
        refine lv_aload_n hx hb d_WE_writeCondition_122 rfl (lv_at hl 5 rfl) ?_
        refine k_get (v := .ref fc) S in_WE hK hP 0 rfl rfl 0 (by decide) ql_WE_14 rfl d_WE_writeCondition_123 ?_
        refine k_get (v := .int (nI (fq + 11))) S in_CO hK hP 1 rfl rfl 5 (by decide) ql_WE_66 rfl d_WE_writeCondition_126 ?_
        refine lv_iconst (v := 2) hx hb d_WE_writeCondition_129 (by decide) ?_
        refine lv_iadd hx hb d_WE_writeCondition_130 ?_
        refine k_top (y := nI (fq + 11 + 2)) (nc_add rfl (by decide)) ?_
        refine k_gov (ws' := [(we, .inr (5, [.ref fc, .ref bl, .ref dq])), (fc, .inr (1, [.ref fc_ops, .ref fc_opd, .ref fc_fr, .ref fc_to, .ref fc_tg, .int (nI ((fq + 11) + 1)), .int (nI fhn)])), (fc_ops, .inl (cI, 1328, .inl (upd ((f_WE_writeSquaresNeverMeet fq fo fa ((dr (gn (gn gg))) - (dr (gn (gn gg))) / 4 * 4) ((dr (gn (gn (gn gg)))) - (dr (gn (gn (gn gg)))) / 4 * 4)).2.1) (fq + 11) 14))), (fc_opd, .inl (cI, 1328, .inl (upd ((f_WE_writeSquaresNeverMeet fq fo fa ((dr (gn (gn gg))) - (dr (gn (gn gg))) / 4 * 4) ((dr (gn (gn (gn gg)))) - (dr (gn (gn (gn gg)))) / 4 * 4)).2.2) (fq + 11) (nI (fq + 11 + 2))))), (bl, .inr (4, [.ref bl_le, .ref bl_he, .ref bl_st, .ref bl_fi, .ref bl_be, .ref bl_by, .ref bl_sa, .ref bl_mk, .int (nI bc)])), (bl_he, .inl (cI, 32, .inl he)), (bl_st, .inl (cI, 32, .inl st)), (dq, .inr (3, [.int (gn (gn (gn (gn gg))))]))]) (wr := [(bl, .inr (4, [.ref bl_le, .ref bl_he, .ref bl_st, .ref bl_fi, .ref bl_be, .ref bl_by, .ref bl_sa, .ref bl_mk, .int (nI bc)])), (bl_he, .inl (cI, 32, .inl he)), (bl_st, .inl (cI, 32, .inl st)), (dq, .inr (3, [.int (gn (gn (gn (gn gg))))]))]) (k_runV (q0 := 0) (As := [.int 14, .int (nI (fq + 11 + 2))]) (rest := []) (n := 2) S (c_WE_write2 l D cI cZ we bl dq fc fc_ops fc_opd fc_fr fc_to fc_tg (fq + 11) fhn ((f_WE_writeSquaresNeverMeet fq fo fa ((dr (gn (gn gg))) - (dr (gn (gn gg))) / 4 * 4) ((dr (gn (gn (gn gg)))) - (dr (gn (gn (gn gg)))) / 4 * 4)).2.1) ((f_WE_writeSquaresNeverMeet fq fo fa ((dr (gn (gn gg))) - (dr (gn (gn gg))) / 4 * 4) ((dr (gn (gn (gn gg)))) - (dr (gn (gn (gn gg)))) / 4 * 4)).2.2) 14 (nI (fq + 11 + 2)) (by omega)) E0_b E0_t ql_WE_89 qi_WE_write2 qs_WE_write2 qn_WE qc_WE_write2 (by decide +kernel) rfl ⟨rfl, rfl⟩ ⟨Nat.le_of_ble_eq_true rfl, Nat.le_of_ble_eq_true rfl⟩ hK hP hD [0, 1, 2, 3] rfl (by decide) rfl rfl hl.1 rfl (Nat.le_of_ble_eq_true rfl) d_WE_writeCondition_131 ⟨Nat.zero_le _, Nat.zero_le _⟩) hP hD hS hA [0, 1, 2, 3] [4, 5, 6, 7] [4, 5, 6, 7, 0, 1, 2, 3] rfl rfl (by decide) (by decide) rfl (by decide) (fun H locs hP hD hS => ?_)
        refine lv_aload_n hx hb d_WE_writeCondition_134 rfl (lv_at hl 5 rfl) ?_
        refine lv_bipush (v := 13) hx hb d_WE_writeCondition_135 (by decide) ?_
        refine lv_aload_n hx hb d_WE_writeCondition_137 rfl (lv_at hl 5 rfl) ?_
        refine k_get (v := .ref fc) S in_WE hK hP 0 rfl rfl 0 (by decide) ql_WE_14 rfl d_WE_writeCondition_138 ?_
        refine k_get (v := .int (nI ((fq + 11) + 1))) S in_CO hK hP 1 rfl rfl 5 (by decide) ql_WE_66 rfl d_WE_writeCondition_141 ?_
        refine lv_iconst (v := 1) hx hb d_WE_writeCondition_144 (by decide) ?_
        refine lv_iadd hx hb d_WE_writeCondition_145 ?_
        refine k_top (y := nI ((fq + 11) + 1 + 1)) (nc_add rfl (by decide)) ?_
        refine lv_iload hx hb d_WE_writeCondition_146 (lv_at hl 0 rfl) ?_
        refine lv_iadd hx hb d_WE_writeCondition_148 ?_
        refine k_top (y := nI ((fq + 11) + 1 + 1 + (tn (he b) + 3))) (nc_add rfl rfl) ?_
        refine k_gov (ws' := [(we, .inr (5, [.ref fc, .ref bl, .ref dq])), (fc, .inr (1, [.ref fc_ops, .ref fc_opd, .ref fc_fr, .ref fc_to, .ref fc_tg, .int (nI (((fq + 11) + 1) + 1)), .int (nI fhn)])), (fc_ops, .inl (cI, 1328, .inl (upd (upd ((f_WE_writeSquaresNeverMeet fq fo fa ((dr (gn (gn gg))) - (dr (gn (gn gg))) / 4 * 4) ((dr (gn (gn (gn gg)))) - (dr (gn (gn (gn gg)))) / 4 * 4)).2.1) (fq + 11) 14) ((fq + 11) + 1) 13))), (fc_opd, .inl (cI, 1328, .inl (upd (upd ((f_WE_writeSquaresNeverMeet fq fo fa ((dr (gn (gn gg))) - (dr (gn (gn gg))) / 4 * 4) ((dr (gn (gn (gn gg)))) - (dr (gn (gn (gn gg)))) / 4 * 4)).2.2) (fq + 11) (nI (fq + 11 + 2))) ((fq + 11) + 1) (nI ((fq + 11) + 1 + 1 + (tn (he b) + 3)))))), (bl, .inr (4, [.ref bl_le, .ref bl_he, .ref bl_st, .ref bl_fi, .ref bl_be, .ref bl_by, .ref bl_sa, .ref bl_mk, .int (nI bc)])), (bl_he, .inl (cI, 32, .inl he)), (bl_st, .inl (cI, 32, .inl st)), (dq, .inr (3, [.int (gn (gn (gn (gn gg))))]))]) (wr := [(bl, .inr (4, [.ref bl_le, .ref bl_he, .ref bl_st, .ref bl_fi, .ref bl_be, .ref bl_by, .ref bl_sa, .ref bl_mk, .int (nI bc)])), (bl_he, .inl (cI, 32, .inl he)), (bl_st, .inl (cI, 32, .inl st)), (dq, .inr (3, [.int (gn (gn (gn (gn gg))))]))]) (k_runV (q0 := 0) (As := [.int 13, .int (nI ((fq + 11) + 1 + 1 + (tn (he b) + 3)))]) (rest := []) (n := 2) S (c_WE_write2 l D cI cZ we bl dq fc fc_ops fc_opd fc_fr fc_to fc_tg ((fq + 11) + 1) fhn (upd ((f_WE_writeSquaresNeverMeet fq fo fa ((dr (gn (gn gg))) - (dr (gn (gn gg))) / 4 * 4) ((dr (gn (gn (gn gg)))) - (dr (gn (gn (gn gg)))) / 4 * 4)).2.1) (fq + 11) 14) (upd ((f_WE_writeSquaresNeverMeet fq fo fa ((dr (gn (gn gg))) - (dr (gn (gn gg))) / 4 * 4) ((dr (gn (gn (gn gg)))) - (dr (gn (gn (gn gg)))) / 4 * 4)).2.2) (fq + 11) (nI (fq + 11 + 2))) 13 (nI ((fq + 11) + 1 + 1 + (tn (he b) + 3))) (by omega)) E0_b E0_t ql_WE_89 qi_WE_write2 qs_WE_write2 qn_WE qc_WE_write2 (by decide +kernel) rfl ⟨rfl, rfl⟩ ⟨Nat.le_of_ble_eq_true rfl, Nat.le_of_ble_eq_true rfl⟩ hK hP hD [0, 1, 2, 3] rfl (by decide) rfl rfl hl.1 rfl (Nat.le_of_ble_eq_true rfl) d_WE_writeCondition_149 ⟨Nat.zero_le _, Nat.zero_le _⟩) hP hD hS hA [0, 1, 2, 3] [4, 5, 6, 7] [4, 5, 6, 7, 0, 1, 2, 3] rfl rfl (by decide) (by decide) rfl (by decide) (fun H locs hP hD hS => ?_)
        refine lv_aload_n hx hb d_WE_writeCondition_152 rfl (lv_at hl 5 rfl) ?_
        refine lv_iload_n hx hb d_WE_writeCondition_153 rfl (lv_at hl 6 rfl) ?_
        refine lv_iload hx hb d_WE_writeCondition_154 (lv_at hl 1 rfl) ?_
        refine k_gov (ws' := [(we, .inr (5, [.ref fc, .ref bl, .ref dq])), (fc, .inr (1, [.ref fc_ops, .ref fc_opd, .ref fc_fr, .ref fc_to, .ref fc_tg, .int (nI ((f_WE_writeJunk (((fq + 11) + 1) + 1) (upd (upd ((f_WE_writeSquaresNeverMeet fq fo fa ((dr (gn (gn gg))) - (dr (gn (gn gg))) / 4 * 4) ((dr (gn (gn (gn gg)))) - (dr (gn (gn (gn gg)))) / 4 * 4)).2.1) (fq + 11) 14) ((fq + 11) + 1) 13) (upd (upd ((f_WE_writeSquaresNeverMeet fq fo fa ((dr (gn (gn gg))) - (dr (gn (gn gg))) / 4 * 4) ((dr (gn (gn (gn gg)))) - (dr (gn (gn (gn gg)))) / 4 * 4)).2.2) (fq + 11) (nI (fq + 11 + 2))) ((fq + 11) + 1) (nI ((fq + 11) + 1 + 1 + (tn (he b) + 3)))) b ((tn (dr (gn (gn (gn (gn gg)))))) % bc) he st).1)), .int (nI fhn)])), (fc_ops, .inl (cI, 1328, .inl ((f_WE_writeJunk (((fq + 11) + 1) + 1) (upd (upd ((f_WE_writeSquaresNeverMeet fq fo fa ((dr (gn (gn gg))) - (dr (gn (gn gg))) / 4 * 4) ((dr (gn (gn (gn gg)))) - (dr (gn (gn (gn gg)))) / 4 * 4)).2.1) (fq + 11) 14) ((fq + 11) + 1) 13) (upd (upd ((f_WE_writeSquaresNeverMeet fq fo fa ((dr (gn (gn gg))) - (dr (gn (gn gg))) / 4 * 4) ((dr (gn (gn (gn gg)))) - (dr (gn (gn (gn gg)))) / 4 * 4)).2.2) (fq + 11) (nI (fq + 11 + 2))) ((fq + 11) + 1) (nI ((fq + 11) + 1 + 1 + (tn (he b) + 3)))) b ((tn (dr (gn (gn (gn (gn gg)))))) % bc) he st).2.1))), (fc_opd, .inl (cI, 1328, .inl ((f_WE_writeJunk (((fq + 11) + 1) + 1) (upd (upd ((f_WE_writeSquaresNeverMeet fq fo fa ((dr (gn (gn gg))) - (dr (gn (gn gg))) / 4 * 4) ((dr (gn (gn (gn gg)))) - (dr (gn (gn (gn gg)))) / 4 * 4)).2.1) (fq + 11) 14) ((fq + 11) + 1) 13) (upd (upd ((f_WE_writeSquaresNeverMeet fq fo fa ((dr (gn (gn gg))) - (dr (gn (gn gg))) / 4 * 4) ((dr (gn (gn (gn gg)))) - (dr (gn (gn (gn gg)))) / 4 * 4)).2.2) (fq + 11) (nI (fq + 11 + 2))) ((fq + 11) + 1) (nI ((fq + 11) + 1 + 1 + (tn (he b) + 3)))) b ((tn (dr (gn (gn (gn (gn gg)))))) % bc) he st).2.2))), (bl, .inr (4, [.ref bl_le, .ref bl_he, .ref bl_st, .ref bl_fi, .ref bl_be, .ref bl_by, .ref bl_sa, .ref bl_mk, .int (nI bc)])), (bl_he, .inl (cI, 32, .inl he)), (bl_st, .inl (cI, 32, .inl st)), (dq, .inr (3, [.int (gn (gn (gn (gn gg))))]))]) (wr := [(dq, .inr (3, [.int (gn (gn (gn (gn gg))))]))]) (k_runV (q0 := 0) (As := [.int (nI b), .int (nI ((tn (dr (gn (gn (gn (gn gg)))))) % bc))]) (rest := []) (n := 2) S (c_WE_writeJunk l D cI cZ we bl dq fc fc_ops fc_opd fc_fr fc_to fc_tg (((fq + 11) + 1) + 1) fhn (upd (upd ((f_WE_writeSquaresNeverMeet fq fo fa ((dr (gn (gn gg))) - (dr (gn (gn gg))) / 4 * 4) ((dr (gn (gn (gn gg)))) - (dr (gn (gn (gn gg)))) / 4 * 4)).2.1) (fq + 11) 14) ((fq + 11) + 1) 13) (upd (upd ((f_WE_writeSquaresNeverMeet fq fo fa ((dr (gn (gn gg))) - (dr (gn (gn gg))) / 4 * 4) ((dr (gn (gn (gn gg)))) - (dr (gn (gn (gn gg)))) / 4 * 4)).2.2) (fq + 11) (nI (fq + 11 + 2))) ((fq + 11) + 1) (nI ((fq + 11) + 1 + 1 + (tn (he b) + 3)))) bl_le bl_he bl_st bl_fi bl_be bl_by bl_sa bl_mk bc b ((tn (dr (gn (gn (gn (gn gg)))))) % bc) he st (by omega) (Nat.lt_of_lt_of_le (Nat.mod_lt _ (by omega)) hb32) hhe (by omega)) E0_b E0_t ql_WE_110 qi_WE_writeJunk qs_WE_writeJunk qn_WE qc_WE_writeJunk (by decide +kernel) rfl ⟨rfl, rfl⟩ ⟨Nat.le_of_ble_eq_true rfl, Nat.le_of_ble_eq_true rfl⟩ hK hP hD [0, 1, 2, 3, 4, 5, 6] rfl (by decide) rfl rfl hl.1 rfl (Nat.le_of_ble_eq_true rfl) d_WE_writeCondition_156 ⟨Nat.zero_le _, Nat.zero_le _⟩) hP hD hS hA [0, 1, 2, 3, 4, 5, 6] [7] [1, 2, 3, 4, 5, 6, 7, 0] rfl rfl (by decide) (by decide) rfl (by decide) (fun H locs hP hD hS => ?_)
        exact k_vret hx hb hr hlocks hK hP hD hS (by rw [f_WE_writeCondition, if_neg h62_1, if_neg h68_2, if_neg h100_3]) d_WE_writeCondition_159
      · skip
        refine lv_aload_n hx hb d_WE_writeCondition_103 rfl (lv_at hl 5 rfl) ?_
        refine lv_iload hx hb d_WE_writeCondition_104 (lv_at hl 2 rfl) ?_
        refine k_gov (ws' := [(we, .inr (5, [.ref fc, .ref bl, .ref dq])), (fc, .inr (1, [.ref fc_ops, .ref fc_opd, .ref fc_fr, .ref fc_to, .ref fc_tg, .int (nI ((f_WE_writeSquareNeverTwo fq fo fa ((dr (gn (gn (gn gg)))) - (dr (gn (gn (gn gg)))) / 4 * 4)).1)), .int (nI fhn)])), (fc_ops, .inl (cI, 1328, .inl ((f_WE_writeSquareNeverTwo fq fo fa ((dr (gn (gn (gn gg)))) - (dr (gn (gn (gn gg)))) / 4 * 4)).2.1))), (fc_opd, .inl (cI, 1328, .inl ((f_WE_writeSquareNeverTwo fq fo fa ((dr (gn (gn (gn gg)))) - (dr (gn (gn (gn gg)))) / 4 * 4)).2.2))), (bl, .inr (4, [.ref bl_le, .ref bl_he, .ref bl_st, .ref bl_fi, .ref bl_be, .ref bl_by, .ref bl_sa, .ref bl_mk, .int (nI bc)])), (bl_he, .inl (cI, 32, .inl he)), (bl_st, .inl (cI, 32, .inl st)), (dq, .inr (3, [.int (gn (gn (gn (gn gg))))]))]) (wr := [(bl, .inr (4, [.ref bl_le, .ref bl_he, .ref bl_st, .ref bl_fi, .ref bl_be, .ref bl_by, .ref bl_sa, .ref bl_mk, .int (nI bc)])), (bl_he, .inl (cI, 32, .inl he)), (bl_st, .inl (cI, 32, .inl st)), (dq, .inr (3, [.int (gn (gn (gn (gn gg))))]))]) (k_runV (q0 := 0) (As := [.int ((dr (gn (gn (gn gg)))) - (dr (gn (gn (gn gg)))) / 4 * 4)]) (rest := []) (n := 1) S (c_WE_writeSquareNeverTwo l D cI cZ we bl dq fc fc_ops fc_opd fc_fr fc_to fc_tg fq fhn fo fa ((dr (gn (gn (gn gg)))) - (dr (gn (gn (gn gg)))) / 4 * 4) (by omega)) E0_b E0_t ql_WE_104 qi_WE_writeSquareNeverTwo qs_WE_writeSquareNeverTwo qn_WE qc_WE_writeSquareNeverTwo (by decide +kernel) rfl ⟨rfl, rfl⟩ ⟨Nat.le_of_ble_eq_true rfl, Nat.le_of_ble_eq_true rfl⟩ hK hP hD [0, 1, 2, 3] rfl (by decide) rfl rfl hl.1 rfl (Nat.le_of_ble_eq_true rfl) d_WE_writeCondition_106 ⟨Nat.zero_le _, Nat.zero_le _⟩) hP hD hS hA [0, 1, 2, 3] [4, 5, 6, 7] [4, 5, 6, 7, 0, 1, 2, 3] rfl rfl (by decide) (by decide) rfl (by decide) (fun H locs hP hD hS => ?_)
        rw [wst_c] at hP hD
        refine lv_goto (tgt := 119) hx hb d_WE_writeCondition_109 (by decide) ?_
        refine lv_aload_n hx hb d_WE_writeCondition_119 rfl (lv_at hl 5 rfl) ?_
        refine lv_bipush (v := 14) hx hb d_WE_writeCondition_120 (by decide) ?_
        refine lv_aload_n hx hb d_WE_writeCondition_122 rfl (lv_at hl 5 rfl) ?_
        refine k_get (v := .ref fc) S in_WE hK hP 0 rfl rfl 0 (by decide) ql_WE_14 rfl d_WE_writeCondition_123 ?_
        refine k_get (v := .int (nI (fq + 7))) S in_CO hK hP 1 rfl rfl 5 (by decide) ql_WE_66 rfl d_WE_writeCondition_126 ?_
        refine lv_iconst (v := 2) hx hb d_WE_writeCondition_129 (by decide) ?_
        refine lv_iadd hx hb d_WE_writeCondition_130 ?_
        refine k_top (y := nI (fq + 7 + 2)) (nc_add rfl (by decide)) ?_
        refine k_gov (ws' := [(we, .inr (5, [.ref fc, .ref bl, .ref dq])), (fc, .inr (1, [.ref fc_ops, .ref fc_opd, .ref fc_fr, .ref fc_to, .ref fc_tg, .int (nI ((fq + 7) + 1)), .int (nI fhn)])), (fc_ops, .inl (cI, 1328, .inl (upd ((f_WE_writeSquareNeverTwo fq fo fa ((dr (gn (gn (gn gg)))) - (dr (gn (gn (gn gg)))) / 4 * 4)).2.1) (fq + 7) 14))), (fc_opd, .inl (cI, 1328, .inl (upd ((f_WE_writeSquareNeverTwo fq fo fa ((dr (gn (gn (gn gg)))) - (dr (gn (gn (gn gg)))) / 4 * 4)).2.2) (fq + 7) (nI (fq + 7 + 2))))), (bl, .inr (4, [.ref bl_le, .ref bl_he, .ref bl_st, .ref bl_fi, .ref bl_be, .ref bl_by, .ref bl_sa, .ref bl_mk, .int (nI bc)])), (bl_he, .inl (cI, 32, .inl he)), (bl_st, .inl (cI, 32, .inl st)), (dq, .inr (3, [.int (gn (gn (gn (gn gg))))]))]) (wr := [(bl, .inr (4, [.ref bl_le, .ref bl_he, .ref bl_st, .ref bl_fi, .ref bl_be, .ref bl_by, .ref bl_sa, .ref bl_mk, .int (nI bc)])), (bl_he, .inl (cI, 32, .inl he)), (bl_st, .inl (cI, 32, .inl st)), (dq, .inr (3, [.int (gn (gn (gn (gn gg))))]))]) (k_runV (q0 := 0) (As := [.int 14, .int (nI (fq + 7 + 2))]) (rest := []) (n := 2) S (c_WE_write2 l D cI cZ we bl dq fc fc_ops fc_opd fc_fr fc_to fc_tg (fq + 7) fhn ((f_WE_writeSquareNeverTwo fq fo fa ((dr (gn (gn (gn gg)))) - (dr (gn (gn (gn gg)))) / 4 * 4)).2.1) ((f_WE_writeSquareNeverTwo fq fo fa ((dr (gn (gn (gn gg)))) - (dr (gn (gn (gn gg)))) / 4 * 4)).2.2) 14 (nI (fq + 7 + 2)) (by omega)) E0_b E0_t ql_WE_89 qi_WE_write2 qs_WE_write2 qn_WE qc_WE_write2 (by decide +kernel) rfl ⟨rfl, rfl⟩ ⟨Nat.le_of_ble_eq_true rfl, Nat.le_of_ble_eq_true rfl⟩ hK hP hD [0, 1, 2, 3] rfl (by decide) rfl rfl hl.1 rfl (Nat.le_of_ble_eq_true rfl) d_WE_writeCondition_131 ⟨Nat.zero_le _, Nat.zero_le _⟩) hP hD hS hA [0, 1, 2, 3] [4, 5, 6, 7] [4, 5, 6, 7, 0, 1, 2, 3] rfl rfl (by decide) (by decide) rfl (by decide) (fun H locs hP hD hS => ?_)
        refine lv_aload_n hx hb d_WE_writeCondition_134 rfl (lv_at hl 5 rfl) ?_
        refine lv_bipush (v := 13) hx hb d_WE_writeCondition_135 (by decide) ?_
        refine lv_aload_n hx hb d_WE_writeCondition_137 rfl (lv_at hl 5 rfl) ?_
        refine k_get (v := .ref fc) S in_WE hK hP 0 rfl rfl 0 (by decide) ql_WE_14 rfl d_WE_writeCondition_138 ?_
        refine k_get (v := .int (nI ((fq + 7) + 1))) S in_CO hK hP 1 rfl rfl 5 (by decide) ql_WE_66 rfl d_WE_writeCondition_141 ?_
        refine lv_iconst (v := 1) hx hb d_WE_writeCondition_144 (by decide) ?_
        refine lv_iadd hx hb d_WE_writeCondition_145 ?_
        refine k_top (y := nI ((fq + 7) + 1 + 1)) (nc_add rfl (by decide)) ?_
        refine lv_iload hx hb d_WE_writeCondition_146 (lv_at hl 0 rfl) ?_
        refine lv_iadd hx hb d_WE_writeCondition_148 ?_
        refine k_top (y := nI ((fq + 7) + 1 + 1 + (tn (he b) + 3))) (nc_add rfl rfl) ?_
        refine k_gov (ws' := [(we, .inr (5, [.ref fc, .ref bl, .ref dq])), (fc, .inr (1, [.ref fc_ops, .ref fc_opd, .ref fc_fr, .ref fc_to, .ref fc_tg, .int (nI (((fq + 7) + 1) + 1)), .int (nI fhn)])), (fc_ops, .inl (cI, 1328, .inl (upd (upd ((f_WE_writeSquareNeverTwo fq fo fa ((dr (gn (gn (gn gg)))) - (dr (gn (gn (gn gg)))) / 4 * 4)).2.1) (fq + 7) 14) ((fq + 7) + 1) 13))), (fc_opd, .inl (cI, 1328, .inl (upd (upd ((f_WE_writeSquareNeverTwo fq fo fa ((dr (gn (gn (gn gg)))) - (dr (gn (gn (gn gg)))) / 4 * 4)).2.2) (fq + 7) (nI (fq + 7 + 2))) ((fq + 7) + 1) (nI ((fq + 7) + 1 + 1 + (tn (he b) + 3)))))), (bl, .inr (4, [.ref bl_le, .ref bl_he, .ref bl_st, .ref bl_fi, .ref bl_be, .ref bl_by, .ref bl_sa, .ref bl_mk, .int (nI bc)])), (bl_he, .inl (cI, 32, .inl he)), (bl_st, .inl (cI, 32, .inl st)), (dq, .inr (3, [.int (gn (gn (gn (gn gg))))]))]) (wr := [(bl, .inr (4, [.ref bl_le, .ref bl_he, .ref bl_st, .ref bl_fi, .ref bl_be, .ref bl_by, .ref bl_sa, .ref bl_mk, .int (nI bc)])), (bl_he, .inl (cI, 32, .inl he)), (bl_st, .inl (cI, 32, .inl st)), (dq, .inr (3, [.int (gn (gn (gn (gn gg))))]))]) (k_runV (q0 := 0) (As := [.int 13, .int (nI ((fq + 7) + 1 + 1 + (tn (he b) + 3)))]) (rest := []) (n := 2) S (c_WE_write2 l D cI cZ we bl dq fc fc_ops fc_opd fc_fr fc_to fc_tg ((fq + 7) + 1) fhn (upd ((f_WE_writeSquareNeverTwo fq fo fa ((dr (gn (gn (gn gg)))) - (dr (gn (gn (gn gg)))) / 4 * 4)).2.1) (fq + 7) 14) (upd ((f_WE_writeSquareNeverTwo fq fo fa ((dr (gn (gn (gn gg)))) - (dr (gn (gn (gn gg)))) / 4 * 4)).2.2) (fq + 7) (nI (fq + 7 + 2))) 13 (nI ((fq + 7) + 1 + 1 + (tn (he b) + 3))) (by omega)) E0_b E0_t ql_WE_89 qi_WE_write2 qs_WE_write2 qn_WE qc_WE_write2 (by decide +kernel) rfl ⟨rfl, rfl⟩ ⟨Nat.le_of_ble_eq_true rfl, Nat.le_of_ble_eq_true rfl⟩ hK hP hD [0, 1, 2, 3] rfl (by decide) rfl rfl hl.1 rfl (Nat.le_of_ble_eq_true rfl) d_WE_writeCondition_149 ⟨Nat.zero_le _, Nat.zero_le _⟩) hP hD hS hA [0, 1, 2, 3] [4, 5, 6, 7] [4, 5, 6, 7, 0, 1, 2, 3] rfl rfl (by decide) (by decide) rfl (by decide) (fun H locs hP hD hS => ?_)
        refine lv_aload_n hx hb d_WE_writeCondition_152 rfl (lv_at hl 5 rfl) ?_
        refine lv_iload_n hx hb d_WE_writeCondition_153 rfl (lv_at hl 6 rfl) ?_
        refine lv_iload hx hb d_WE_writeCondition_154 (lv_at hl 1 rfl) ?_
        refine k_gov (ws' := [(we, .inr (5, [.ref fc, .ref bl, .ref dq])), (fc, .inr (1, [.ref fc_ops, .ref fc_opd, .ref fc_fr, .ref fc_to, .ref fc_tg, .int (nI ((f_WE_writeJunk (((fq + 7) + 1) + 1) (upd (upd ((f_WE_writeSquareNeverTwo fq fo fa ((dr (gn (gn (gn gg)))) - (dr (gn (gn (gn gg)))) / 4 * 4)).2.1) (fq + 7) 14) ((fq + 7) + 1) 13) (upd (upd ((f_WE_writeSquareNeverTwo fq fo fa ((dr (gn (gn (gn gg)))) - (dr (gn (gn (gn gg)))) / 4 * 4)).2.2) (fq + 7) (nI (fq + 7 + 2))) ((fq + 7) + 1) (nI ((fq + 7) + 1 + 1 + (tn (he b) + 3)))) b ((tn (dr (gn (gn (gn (gn gg)))))) % bc) he st).1)), .int (nI fhn)])), (fc_ops, .inl (cI, 1328, .inl ((f_WE_writeJunk (((fq + 7) + 1) + 1) (upd (upd ((f_WE_writeSquareNeverTwo fq fo fa ((dr (gn (gn (gn gg)))) - (dr (gn (gn (gn gg)))) / 4 * 4)).2.1) (fq + 7) 14) ((fq + 7) + 1) 13) (upd (upd ((f_WE_writeSquareNeverTwo fq fo fa ((dr (gn (gn (gn gg)))) - (dr (gn (gn (gn gg)))) / 4 * 4)).2.2) (fq + 7) (nI (fq + 7 + 2))) ((fq + 7) + 1) (nI ((fq + 7) + 1 + 1 + (tn (he b) + 3)))) b ((tn (dr (gn (gn (gn (gn gg)))))) % bc) he st).2.1))), (fc_opd, .inl (cI, 1328, .inl ((f_WE_writeJunk (((fq + 7) + 1) + 1) (upd (upd ((f_WE_writeSquareNeverTwo fq fo fa ((dr (gn (gn (gn gg)))) - (dr (gn (gn (gn gg)))) / 4 * 4)).2.1) (fq + 7) 14) ((fq + 7) + 1) 13) (upd (upd ((f_WE_writeSquareNeverTwo fq fo fa ((dr (gn (gn (gn gg)))) - (dr (gn (gn (gn gg)))) / 4 * 4)).2.2) (fq + 7) (nI (fq + 7 + 2))) ((fq + 7) + 1) (nI ((fq + 7) + 1 + 1 + (tn (he b) + 3)))) b ((tn (dr (gn (gn (gn (gn gg)))))) % bc) he st).2.2))), (bl, .inr (4, [.ref bl_le, .ref bl_he, .ref bl_st, .ref bl_fi, .ref bl_be, .ref bl_by, .ref bl_sa, .ref bl_mk, .int (nI bc)])), (bl_he, .inl (cI, 32, .inl he)), (bl_st, .inl (cI, 32, .inl st)), (dq, .inr (3, [.int (gn (gn (gn (gn gg))))]))]) (wr := [(dq, .inr (3, [.int (gn (gn (gn (gn gg))))]))]) (k_runV (q0 := 0) (As := [.int (nI b), .int (nI ((tn (dr (gn (gn (gn (gn gg)))))) % bc))]) (rest := []) (n := 2) S (c_WE_writeJunk l D cI cZ we bl dq fc fc_ops fc_opd fc_fr fc_to fc_tg (((fq + 7) + 1) + 1) fhn (upd (upd ((f_WE_writeSquareNeverTwo fq fo fa ((dr (gn (gn (gn gg)))) - (dr (gn (gn (gn gg)))) / 4 * 4)).2.1) (fq + 7) 14) ((fq + 7) + 1) 13) (upd (upd ((f_WE_writeSquareNeverTwo fq fo fa ((dr (gn (gn (gn gg)))) - (dr (gn (gn (gn gg)))) / 4 * 4)).2.2) (fq + 7) (nI (fq + 7 + 2))) ((fq + 7) + 1) (nI ((fq + 7) + 1 + 1 + (tn (he b) + 3)))) bl_le bl_he bl_st bl_fi bl_be bl_by bl_sa bl_mk bc b ((tn (dr (gn (gn (gn (gn gg)))))) % bc) he st (by omega) (Nat.lt_of_lt_of_le (Nat.mod_lt _ (by omega)) hb32) hhe (by omega)) E0_b E0_t ql_WE_110 qi_WE_writeJunk qs_WE_writeJunk qn_WE qc_WE_writeJunk (by decide +kernel) rfl ⟨rfl, rfl⟩ ⟨Nat.le_of_ble_eq_true rfl, Nat.le_of_ble_eq_true rfl⟩ hK hP hD [0, 1, 2, 3, 4, 5, 6] rfl (by decide) rfl rfl hl.1 rfl (Nat.le_of_ble_eq_true rfl) d_WE_writeCondition_156 ⟨Nat.zero_le _, Nat.zero_le _⟩) hP hD hS hA [0, 1, 2, 3, 4, 5, 6] [7] [1, 2, 3, 4, 5, 6, 7, 0] rfl rfl (by decide) (by decide) rfl (by decide) (fun H locs hP hD hS => ?_)
        exact k_vret hx hb hr hlocks hK hP hD hS (by rw [f_WE_writeCondition, if_neg h62_1, if_neg h68_2, if_pos h100_3]) d_WE_writeCondition_159
    · skip
      refine lv_aload_n hx hb d_WE_writeCondition_71 rfl (lv_at hl 5 rfl) ?_
      refine lv_iload hx hb d_WE_writeCondition_72 (lv_at hl 2 rfl) ?_
      refine k_gov (ws' := [(we, .inr (5, [.ref fc, .ref bl, .ref dq])), (fc, .inr (1, [.ref fc_ops, .ref fc_opd, .ref fc_fr, .ref fc_to, .ref fc_tg, .int (nI ((f_WE_writeEvenProduct fq fo fa ((dr (gn (gn (gn gg)))) - (dr (gn (gn (gn gg)))) / 4 * 4)).1)), .int (nI fhn)])), (fc_ops, .inl (cI, 1328, .inl ((f_WE_writeEvenProduct fq fo fa ((dr (gn (gn (gn gg)))) - (dr (gn (gn (gn gg)))) / 4 * 4)).2.1))), (fc_opd, .inl (cI, 1328, .inl ((f_WE_writeEvenProduct fq fo fa ((dr (gn (gn (gn gg)))) - (dr (gn (gn (gn gg)))) / 4 * 4)).2.2))), (bl, .inr (4, [.ref bl_le, .ref bl_he, .ref bl_st, .ref bl_fi, .ref bl_be, .ref bl_by, .ref bl_sa, .ref bl_mk, .int (nI bc)])), (bl_he, .inl (cI, 32, .inl he)), (bl_st, .inl (cI, 32, .inl st)), (dq, .inr (3, [.int (gn (gn (gn (gn gg))))]))]) (wr := [(bl, .inr (4, [.ref bl_le, .ref bl_he, .ref bl_st, .ref bl_fi, .ref bl_be, .ref bl_by, .ref bl_sa, .ref bl_mk, .int (nI bc)])), (bl_he, .inl (cI, 32, .inl he)), (bl_st, .inl (cI, 32, .inl st)), (dq, .inr (3, [.int (gn (gn (gn (gn gg))))]))]) (k_runV (q0 := 0) (As := [.int ((dr (gn (gn (gn gg)))) - (dr (gn (gn (gn gg)))) / 4 * 4)]) (rest := []) (n := 1) S (c_WE_writeEvenProduct l D cI cZ we bl dq fc fc_ops fc_opd fc_fr fc_to fc_tg fq fhn fo fa ((dr (gn (gn (gn gg)))) - (dr (gn (gn (gn gg)))) / 4 * 4) (by omega)) E0_b E0_t ql_WE_101 qi_WE_writeEvenProduct qs_WE_writeEvenProduct qn_WE qc_WE_writeEvenProduct (by decide +kernel) rfl ⟨rfl, rfl⟩ ⟨Nat.le_of_ble_eq_true rfl, Nat.le_of_ble_eq_true rfl⟩ hK hP hD [0, 1, 2, 3] rfl (by decide) rfl rfl hl.1 rfl (Nat.le_of_ble_eq_true rfl) d_WE_writeCondition_74 ⟨Nat.zero_le _, Nat.zero_le _⟩) hP hD hS hA [0, 1, 2, 3] [4, 5, 6, 7] [4, 5, 6, 7, 0, 1, 2, 3] rfl rfl (by decide) (by decide) rfl (by decide) (fun H locs hP hD hS => ?_)
      rw [wev_c] at hP hD
      refine lv_aload_n hx hb d_WE_writeCondition_77 rfl (lv_at hl 5 rfl) ?_
      refine lv_bipush (v := 14) hx hb d_WE_writeCondition_78 (by decide) ?_
      refine lv_aload_n hx hb d_WE_writeCondition_80 rfl (lv_at hl 5 rfl) ?_
      refine k_get (v := .ref fc) S in_WE hK hP 0 rfl rfl 0 (by decide) ql_WE_14 rfl d_WE_writeCondition_81 ?_
      refine k_get (v := .int (nI (fq + 7))) S in_CO hK hP 1 rfl rfl 5 (by decide) ql_WE_66 rfl d_WE_writeCondition_84 ?_
      refine lv_iconst (v := 1) hx hb d_WE_writeCondition_87 (by decide) ?_
      refine lv_iadd hx hb d_WE_writeCondition_88 ?_
      refine k_top (y := nI (fq + 7 + 1)) (nc_add rfl (by decide)) ?_
      refine lv_iload hx hb d_WE_writeCondition_89 (lv_at hl 0 rfl) ?_
      refine lv_iadd hx hb d_WE_writeCondition_91 ?_
      refine k_top (y := nI (fq + 7 + 1 + (tn (he b) + 3))) (nc_add rfl rfl) ?_
      refine k_gov (ws' := [(we, .inr (5, [.ref fc, .ref bl, .ref dq])), (fc, .inr (1, [.ref fc_ops, .ref fc_opd, .ref fc_fr, .ref fc_to, .ref fc_tg, .int (nI ((fq + 7) + 1)), .int (nI fhn)])), (fc_ops, .inl (cI, 1328, .inl (upd ((f_WE_writeEvenProduct fq fo fa ((dr (gn (gn (gn gg)))) - (dr (gn (gn (gn gg)))) / 4 * 4)).2.1) (fq + 7) 14))), (fc_opd, .inl (cI, 1328, .inl (upd ((f_WE_writeEvenProduct fq fo fa ((dr (gn (gn (gn gg)))) - (dr (gn (gn (gn gg)))) / 4 * 4)).2.2) (fq + 7) (nI (fq + 7 + 1 + (tn (he b) + 3)))))), (bl, .inr (4, [.ref bl_le, .ref bl_he, .ref bl_st, .ref bl_fi, .ref bl_be, .ref bl_by, .ref bl_sa, .ref bl_mk, .int (nI bc)])), (bl_he, .inl (cI, 32, .inl he)), (bl_st, .inl (cI, 32, .inl st)), (dq, .inr (3, [.int (gn (gn (gn (gn gg))))]))]) (wr := [(bl, .inr (4, [.ref bl_le, .ref bl_he, .ref bl_st, .ref bl_fi, .ref bl_be, .ref bl_by, .ref bl_sa, .ref bl_mk, .int (nI bc)])), (bl_he, .inl (cI, 32, .inl he)), (bl_st, .inl (cI, 32, .inl st)), (dq, .inr (3, [.int (gn (gn (gn (gn gg))))]))]) (k_runV (q0 := 0) (As := [.int 14, .int (nI (fq + 7 + 1 + (tn (he b) + 3)))]) (rest := []) (n := 2) S (c_WE_write2 l D cI cZ we bl dq fc fc_ops fc_opd fc_fr fc_to fc_tg (fq + 7) fhn ((f_WE_writeEvenProduct fq fo fa ((dr (gn (gn (gn gg)))) - (dr (gn (gn (gn gg)))) / 4 * 4)).2.1) ((f_WE_writeEvenProduct fq fo fa ((dr (gn (gn (gn gg)))) - (dr (gn (gn (gn gg)))) / 4 * 4)).2.2) 14 (nI (fq + 7 + 1 + (tn (he b) + 3))) (by omega)) E0_b E0_t ql_WE_89 qi_WE_write2 qs_WE_write2 qn_WE qc_WE_write2 (by decide +kernel) rfl ⟨rfl, rfl⟩ ⟨Nat.le_of_ble_eq_true rfl, Nat.le_of_ble_eq_true rfl⟩ hK hP hD [0, 1, 2, 3] rfl (by decide) rfl rfl hl.1 rfl (Nat.le_of_ble_eq_true rfl) d_WE_writeCondition_92 ⟨Nat.zero_le _, Nat.zero_le _⟩) hP hD hS hA [0, 1, 2, 3] [4, 5, 6, 7] [4, 5, 6, 7, 0, 1, 2, 3] rfl rfl (by decide) (by decide) rfl (by decide) (fun H locs hP hD hS => ?_)
      refine lv_goto (tgt := 152) hx hb d_WE_writeCondition_95 (by decide) ?_
      refine lv_aload_n hx hb d_WE_writeCondition_152 rfl (lv_at hl 5 rfl) ?_
      refine lv_iload_n hx hb d_WE_writeCondition_153 rfl (lv_at hl 6 rfl) ?_
      refine lv_iload hx hb d_WE_writeCondition_154 (lv_at hl 1 rfl) ?_
      refine k_gov (ws' := [(we, .inr (5, [.ref fc, .ref bl, .ref dq])), (fc, .inr (1, [.ref fc_ops, .ref fc_opd, .ref fc_fr, .ref fc_to, .ref fc_tg, .int (nI ((f_WE_writeJunk ((fq + 7) + 1) (upd ((f_WE_writeEvenProduct fq fo fa ((dr (gn (gn (gn gg)))) - (dr (gn (gn (gn gg)))) / 4 * 4)).2.1) (fq + 7) 14) (upd ((f_WE_writeEvenProduct fq fo fa ((dr (gn (gn (gn gg)))) - (dr (gn (gn (gn gg)))) / 4 * 4)).2.2) (fq + 7) (nI (fq + 7 + 1 + (tn (he b) + 3)))) b ((tn (dr (gn (gn (gn (gn gg)))))) % bc) he st).1)), .int (nI fhn)])), (fc_ops, .inl (cI, 1328, .inl ((f_WE_writeJunk ((fq + 7) + 1) (upd ((f_WE_writeEvenProduct fq fo fa ((dr (gn (gn (gn gg)))) - (dr (gn (gn (gn gg)))) / 4 * 4)).2.1) (fq + 7) 14) (upd ((f_WE_writeEvenProduct fq fo fa ((dr (gn (gn (gn gg)))) - (dr (gn (gn (gn gg)))) / 4 * 4)).2.2) (fq + 7) (nI (fq + 7 + 1 + (tn (he b) + 3)))) b ((tn (dr (gn (gn (gn (gn gg)))))) % bc) he st).2.1))), (fc_opd, .inl (cI, 1328, .inl ((f_WE_writeJunk ((fq + 7) + 1) (upd ((f_WE_writeEvenProduct fq fo fa ((dr (gn (gn (gn gg)))) - (dr (gn (gn (gn gg)))) / 4 * 4)).2.1) (fq + 7) 14) (upd ((f_WE_writeEvenProduct fq fo fa ((dr (gn (gn (gn gg)))) - (dr (gn (gn (gn gg)))) / 4 * 4)).2.2) (fq + 7) (nI (fq + 7 + 1 + (tn (he b) + 3)))) b ((tn (dr (gn (gn (gn (gn gg)))))) % bc) he st).2.2))), (bl, .inr (4, [.ref bl_le, .ref bl_he, .ref bl_st, .ref bl_fi, .ref bl_be, .ref bl_by, .ref bl_sa, .ref bl_mk, .int (nI bc)])), (bl_he, .inl (cI, 32, .inl he)), (bl_st, .inl (cI, 32, .inl st)), (dq, .inr (3, [.int (gn (gn (gn (gn gg))))]))]) (wr := [(dq, .inr (3, [.int (gn (gn (gn (gn gg))))]))]) (k_runV (q0 := 0) (As := [.int (nI b), .int (nI ((tn (dr (gn (gn (gn (gn gg)))))) % bc))]) (rest := []) (n := 2) S (c_WE_writeJunk l D cI cZ we bl dq fc fc_ops fc_opd fc_fr fc_to fc_tg ((fq + 7) + 1) fhn (upd ((f_WE_writeEvenProduct fq fo fa ((dr (gn (gn (gn gg)))) - (dr (gn (gn (gn gg)))) / 4 * 4)).2.1) (fq + 7) 14) (upd ((f_WE_writeEvenProduct fq fo fa ((dr (gn (gn (gn gg)))) - (dr (gn (gn (gn gg)))) / 4 * 4)).2.2) (fq + 7) (nI (fq + 7 + 1 + (tn (he b) + 3)))) bl_le bl_he bl_st bl_fi bl_be bl_by bl_sa bl_mk bc b ((tn (dr (gn (gn (gn (gn gg)))))) % bc) he st (by omega) (Nat.lt_of_lt_of_le (Nat.mod_lt _ (by omega)) hb32) hhe (by omega)) E0_b E0_t ql_WE_110 qi_WE_writeJunk qs_WE_writeJunk qn_WE qc_WE_writeJunk (by decide +kernel) rfl ⟨rfl, rfl⟩ ⟨Nat.le_of_ble_eq_true rfl, Nat.le_of_ble_eq_true rfl⟩ hK hP hD [0, 1, 2, 3, 4, 5, 6] rfl (by decide) rfl rfl hl.1 rfl (Nat.le_of_ble_eq_true rfl) d_WE_writeCondition_156 ⟨Nat.zero_le _, Nat.zero_le _⟩) hP hD hS hA [0, 1, 2, 3, 4, 5, 6] [7] [1, 2, 3, 4, 5, 6, 7, 0] rfl rfl (by decide) (by decide) rfl (by decide) (fun H locs hP hD hS => ?_)
      exact k_vret hx hb hr hlocks hK hP hD hS (by rw [f_WE_writeCondition, if_neg h62_1, if_pos h68_2]) d_WE_writeCondition_159
  · skip
    exact k_vret hx hb hr hlocks hK hP hD hS (by rw [f_WE_writeCondition, if_pos h62_1]) d_WE_writeCondition_65

theorem d_WE_writeJump_0 : decode b_WE_writeJump 0 = .ok (.aload_n 1, 1) := by decide +kernel
theorem d_WE_writeJump_1 : decode b_WE_writeJump 1 = .ok (.getfield 128, 3) := by decide +kernel
theorem d_WE_writeJump_4 : decode b_WE_writeJump 4 = .ok (.iload_n 3, 1) := by decide +kernel
theorem d_WE_writeJump_5 : decode b_WE_writeJump 5 = .ok (.iaload, 1) := by decide +kernel
theorem d_WE_writeJump_6 : decode b_WE_writeJump 6 = .ok (.invokestatic 145, 3) := by decide +kernel
theorem d_WE_writeJump_9 : decode b_WE_writeJump 9 = .ok (.ifCond .eq 49, 3) := by decide +kernel
theorem d_WE_writeJump_12 : decode b_WE_writeJump 12 = .ok (.aload_n 0, 1) := by decide +kernel
theorem d_WE_writeJump_13 : decode b_WE_writeJump 13 = .ok (.getfield 23, 3) := by decide +kernel
theorem d_WE_writeJump_16 : decode b_WE_writeJump 16 = .ok (.getfield 122, 3) := by decide +kernel
theorem d_WE_writeJump_19 : decode b_WE_writeJump 19 = .ok (.iload_n 3, 1) := by decide +kernel
theorem d_WE_writeJump_20 : decode b_WE_writeJump 20 = .ok (.iconst 1, 1) := by decide +kernel
theorem d_WE_writeJump_21 : decode b_WE_writeJump 21 = .ok (.iadd, 1) := by decide +kernel
theorem d_WE_writeJump_22 : decode b_WE_writeJump 22 = .ok (.iaload, 1) := by decide +kernel
theorem d_WE_writeJump_23 : decode b_WE_writeJump 23 = .ok (.istore 4, 2) := by decide +kernel
theorem d_WE_writeJump_25 : decode b_WE_writeJump 25 = .ok (.aload_n 0, 1) := by decide +kernel
theorem d_WE_writeJump_26 : decode b_WE_writeJump 26 = .ok (.aload_n 1, 1) := by decide +kernel
theorem d_WE_writeJump_27 : decode b_WE_writeJump 27 = .ok (.getfield 128, 3) := by decide +kernel
theorem d_WE_writeJump_30 : decode b_WE_writeJump 30 = .ok (.iload_n 3, 1) := by decide +kernel
theorem d_WE_writeJump_31 : decode b_WE_writeJump 31 = .ok (.iaload, 1) := by decide +kernel
theorem d_WE_writeJump_32 : decode b_WE_writeJump 32 = .ok (.aload_n 0, 1) := by decide +kernel
theorem d_WE_writeJump_33 : decode b_WE_writeJump 33 = .ok (.getfield 14, 3) := by decide +kernel
theorem d_WE_writeJump_36 : decode b_WE_writeJump 36 = .ok (.getfield 66, 3) := by decide +kernel
theorem d_WE_writeJump_39 : decode b_WE_writeJump 39 = .ok (.iconst 1, 1) := by decide +kernel
theorem d_WE_writeJump_40 : decode b_WE_writeJump 40 = .ok (.iadd, 1) := by decide +kernel
theorem d_WE_writeJump_41 : decode b_WE_writeJump 41 = .ok (.aload_n 0, 1) := by decide +kernel
theorem d_WE_writeJump_42 : decode b_WE_writeJump 42 = .ok (.iload 4, 2) := by decide +kernel
theorem d_WE_writeJump_44 : decode b_WE_writeJump 44 = .ok (.invokevirtual 148, 3) := by decide +kernel
theorem d_WE_writeJump_47 : decode b_WE_writeJump 47 = .ok (.iadd, 1) := by decide +kernel
theorem d_WE_writeJump_48 : decode b_WE_writeJump 48 = .ok (.invokevirtual 89, 3) := by decide +kernel
theorem d_WE_writeJump_51 : decode b_WE_writeJump 51 = .ok (.aload_n 0, 1) := by decide +kernel
theorem d_WE_writeJump_52 : decode b_WE_writeJump 52 = .ok (.iload_n 2, 1) := by decide +kernel
theorem d_WE_writeJump_53 : decode b_WE_writeJump 53 = .ok (.iload 4, 2) := by decide +kernel
theorem d_WE_writeJump_55 : decode b_WE_writeJump 55 = .ok (.invokevirtual 125, 3) := by decide +kernel
theorem d_WE_writeJump_58 : decode b_WE_writeJump 58 = .ok (.aload_n 0, 1) := by decide +kernel
theorem d_WE_writeJump_59 : decode b_WE_writeJump 59 = .ok (.iload_n 2, 1) := by decide +kernel
theorem d_WE_writeJump_60 : decode b_WE_writeJump 60 = .ok (.aload_n 0, 1) := by decide +kernel
theorem d_WE_writeJump_61 : decode b_WE_writeJump 61 = .ok (.getfield 23, 3) := by decide +kernel
theorem d_WE_writeJump_64 : decode b_WE_writeJump 64 = .ok (.getfield 122, 3) := by decide +kernel
theorem d_WE_writeJump_67 : decode b_WE_writeJump 67 = .ok (.aload_n 1, 1) := by decide +kernel
theorem d_WE_writeJump_68 : decode b_WE_writeJump 68 = .ok (.getfield 139, 3) := by decide +kernel
theorem d_WE_writeJump_71 : decode b_WE_writeJump 71 = .ok (.iload_n 3, 1) := by decide +kernel
theorem d_WE_writeJump_72 : decode b_WE_writeJump 72 = .ok (.iaload, 1) := by decide +kernel
theorem d_WE_writeJump_73 : decode b_WE_writeJump 73 = .ok (.iaload, 1) := by decide +kernel
theorem d_WE_writeJump_74 : decode b_WE_writeJump 74 = .ok (.invokevirtual 125, 3) := by decide +kernel
theorem d_WE_writeJump_77 : decode b_WE_writeJump 77 = .ok (.return_, 1) := by decide +kernel
def f_WE_writeJump (fq : Nat) (fo : Nat → Int32) (fa : Nat → Int32) (b : Nat) (i : Nat) (f : Nat → Int32) (g : Nat → Int32) (he : Nat → Int32) (st : Nat → Int32) (sa : Nat → Int32) : Nat × (Nat → Int32) × (Nat → Int32) := (if f_FF_branches (f i) = 0 then ((f_WE_writeLead fq fo fa b (tn (sa (tn (g i)))) he st).1, (f_WE_writeLead fq fo fa b (tn (sa (tn (g i)))) he st).2.1, (f_WE_writeLead fq fo fa b (tn (sa (tn (g i)))) he st).2.2) else ((f_WE_writeLead (fq + 1 + tn (he (tn (sa (i + 1)))) + 5) ((f_WE_writeLead (fq + 1) (upd fo fq (f i)) (upd fa fq (nI (fq + 1 + (tn (he (tn (sa (i + 1)))) + 5)))) b (tn (sa (i + 1))) he st).2.1) ((f_WE_writeLead (fq + 1) (upd fo fq (f i)) (upd fa fq (nI (fq + 1 + (tn (he (tn (sa (i + 1)))) + 5)))) b (tn (sa (i + 1))) he st).2.2) b (tn (sa (tn (g i)))) he st).1, (f_WE_writeLead (fq + 1 + tn (he (tn (sa (i + 1)))) + 5) ((f_WE_writeLead (fq + 1) (upd fo fq (f i)) (upd fa fq (nI (fq + 1 + (tn (he (tn (sa (i + 1)))) + 5)))) b (tn (sa (i + 1))) he st).2.1) ((f_WE_writeLead (fq + 1) (upd fo fq (f i)) (upd fa fq (nI (fq + 1 + (tn (he (tn (sa (i + 1)))) + 5)))) b (tn (sa (i + 1))) he st).2.2) b (tn (sa (tn (g i)))) he st).2.1, (f_WE_writeLead (fq + 1 + tn (he (tn (sa (i + 1)))) + 5) ((f_WE_writeLead (fq + 1) (upd fo fq (f i)) (upd fa fq (nI (fq + 1 + (tn (he (tn (sa (i + 1)))) + 5)))) b (tn (sa (i + 1))) he st).2.1) ((f_WE_writeLead (fq + 1) (upd fo fq (f i)) (upd fa fq (nI (fq + 1 + (tn (he (tn (sa (i + 1)))) + 5)))) b (tn (sa (i + 1))) he st).2.2) b (tn (sa (tn (g i)))) he st).2.2))
set_option maxHeartbeats 1000000 in
set_option maxRecDepth 100000 in
theorem c_WE_writeJump (l : Launch) (D : va_G) (cI cZ : ClassId) (tt tp : Nat) (we bl dq : Nat) (fc fc_ops fc_opd fc_fr fc_to fc_tg fq fhn : Nat) (fo fa : Nat → Int32) (bl_le bl_he bl_st bl_fi bl_be bl_by bl_sa bl_mk bc : Nat) (oc oc_ops oc_opd oc_fr oc_to oc_tg n hn : Nat) (b i : Nat) (f g he st sa : Nat → Int32) (hb32 : bc ≤ 32) (hb : b < 32) (hi : i < 32) (hhe : ∀ b, b < bc → Nn he b 5) (hfq : fq + 19 ≤ 1328) (hsn : ¬ f_FF_branches (f i) = 0 → i + 1 < 32 ∧ Nn sa (i + 1) bc) (hgi : Nn g i 32) (hsg : Nn sa (tn (g i)) bc) : MG l y_WE_writeJump w_WE_writeJump (rmK 3 67) D classes (tyz cI cZ) (EN tt tp) [.ref we, .ref oc, .int (nI b), .int (nI i)] [(we, .inr (5, [.ref fc, .ref bl, .ref dq])), (fc, .inr (1, [.ref fc_ops, .ref fc_opd, .ref fc_fr, .ref fc_to, .ref fc_tg, .int (nI fq), .int (nI fhn)])), (fc_ops, .inl (cI, 1328, .inl fo)), (fc_opd, .inl (cI, 1328, .inl fa)), (bl, .inr (4, [.ref bl_le, .ref bl_he, .ref bl_st, .ref bl_fi, .ref bl_be, .ref bl_by, .ref bl_sa, .ref bl_mk, .int (nI bc)])), (bl_he, .inl (cI, 32, .inl he)), (bl_st, .inl (cI, 32, .inl st)), (bl_sa, .inl (cI, 32, .inl sa)), (oc, .inr (1, [.ref oc_ops, .ref oc_opd, .ref oc_fr, .ref oc_to, .ref oc_tg, .int (nI n), .int (nI hn)])), (oc_ops, .inl (cI, 32, .inl f)), (oc_opd, .inl (cI, 32, .inl g))] (RV D classes (tyz cI cZ) [(we, .inr (5, [.ref fc, .ref bl, .ref dq])), (fc, .inr (1, [.ref fc_ops, .ref fc_opd, .ref fc_fr, .ref fc_to, .ref fc_tg, .int (nI ((f_WE_writeJump fq fo fa b i f g he st sa).1)), .int (nI fhn)])), (fc_ops, .inl (cI, 1328, .inl ((f_WE_writeJump fq fo fa b i f g he st sa).2.1))), (fc_opd, .inl (cI, 1328, .inl ((f_WE_writeJump fq fo fa b i f g he st sa).2.2))), (bl, .inr (4, [.ref bl_le, .ref bl_he, .ref bl_st, .ref bl_fi, .ref bl_be, .ref bl_by, .ref bl_sa, .ref bl_mk, .int (nI bc)])), (bl_he, .inl (cI, 32, .inl he)), (bl_st, .inl (cI, 32, .inl st)), (bl_sa, .inl (cI, 32, .inl sa)), (oc, .inr (1, [.ref oc_ops, .ref oc_opd, .ref oc_fr, .ref oc_to, .ref oc_tg, .int (nI n), .int (nI hn)])), (oc_ops, .inl (cI, 32, .inl f)), (oc_opd, .inl (cI, 32, .inl g))]) := by
  refine MG.of (cc := b_WE_writeJump) (maxL := 5) (ret := none) (own := "FlowFlattener$Weaver") rfl (by decide) rfl (Nat.le_of_ble_eq_true rfl) ?_
  intro p e s m below meth c A ls S hr hlocks hA hP hK hD hS hE hl
  have hx := S.1
  have hb := S.2.1
  have hl : lv_has ls 5 [(0, .ref we), (1, .ref oc), (2, .int (nI b)), (3, .int (nI i))] := hl
  refine lv_aload_n hx hb d_WE_writeJump_0 rfl (lv_at hl 1 rfl) ?_
  refine k_get (v := .ref oc_ops) S in_CO hK hP 8 rfl rfl 0 (by decide) ql_WE_128 rfl d_WE_writeJump_1 ?_
  refine lv_iload_n hx hb d_WE_writeJump_4 rfl (lv_at hl 3 rfl) ?_
  refine k_ld (k := i) hx hb hK hP 9 0 rfl rfl rfl (by omega) (by decide) d_WE_writeJump_5 ?_
  refine k_goi (ws' := [(we, .inr (5, [.ref fc, .ref bl, .ref dq])), (fc, .inr (1, [.ref fc_ops, .ref fc_opd, .ref fc_fr, .ref fc_to, .ref fc_tg, .int (nI fq), .int (nI fhn)])), (fc_ops, .inl (cI, 1328, .inl fo)), (fc_opd, .inl (cI, 1328, .inl fa)), (bl, .inr (4, [.ref bl_le, .ref bl_he, .ref bl_st, .ref bl_fi, .ref bl_be, .ref bl_by, .ref bl_sa, .ref bl_mk, .int (nI bc)])), (bl_he, .inl (cI, 32, .inl he)), (bl_st, .inl (cI, 32, .inl st)), (bl_sa, .inl (cI, 32, .inl sa)), (oc, .inr (1, [.ref oc_ops, .ref oc_opd, .ref oc_fr, .ref oc_to, .ref oc_tg, .int (nI n), .int (nI hn)])), (oc_ops, .inl (cI, 32, .inl f)), (oc_opd, .inl (cI, 32, .inl g))]) (wr := [(we, .inr (5, [.ref fc, .ref bl, .ref dq])), (fc, .inr (1, [.ref fc_ops, .ref fc_opd, .ref fc_fr, .ref fc_to, .ref fc_tg, .int (nI fq), .int (nI fhn)])), (fc_ops, .inl (cI, 1328, .inl fo)), (fc_opd, .inl (cI, 1328, .inl fa)), (bl, .inr (4, [.ref bl_le, .ref bl_he, .ref bl_st, .ref bl_fi, .ref bl_be, .ref bl_by, .ref bl_sa, .ref bl_mk, .int (nI bc)])), (bl_he, .inl (cI, 32, .inl he)), (bl_st, .inl (cI, 32, .inl st)), (bl_sa, .inl (cI, 32, .inl sa)), (oc, .inr (1, [.ref oc_ops, .ref oc_opd, .ref oc_fr, .ref oc_to, .ref oc_tg, .int (nI n), .int (nI hn)])), (oc_ops, .inl (cI, 32, .inl f)), (oc_opd, .inl (cI, 32, .inl g))]) (k_runSN (As := [.int (f i)]) (rest := []) (n := 1) S (c_FF_branches l D cI cZ (f i)) E0_b E0_t (hE.1 _ (List.mem_of_getElem? (i := 12) rfl)) qt_FF_branches qn_FF qc_FF_branches (by decide +kernel) rfl ⟨rfl, rfl⟩ ⟨Nat.le_of_ble_eq_true rfl, Nat.le_of_ble_eq_true rfl⟩ hK hP hD [] rfl (by decide) hl.1 rfl (Nat.le_of_ble_eq_true rfl) d_WE_writeJump_6 ⟨Nat.zero_le _, Nat.zero_le _⟩) hP hD hS hA [] [0, 1, 2, 3, 4, 5, 6, 7, 8, 9, 10] [0, 1, 2, 3, 4, 5, 6, 7, 8, 9, 10] rfl rfl (by decide) (by decide) rfl (by decide) (fun H locs hP hD hS => ?_)
  refine lv_if_eq (tgt := 58) hx hb d_WE_writeJump_9 (by decide) (fun h9_1 => ?_) (fun h9_1 => ?_)
  · skip
    refine lv_aload_n hx hb d_WE_writeJump_58 rfl (lv_at hl 0 rfl) ?_
    refine lv_iload_n hx hb d_WE_writeJump_59 rfl (lv_at hl 2 rfl) ?_
    refine lv_aload_n hx hb d_WE_writeJump_60 rfl (lv_at hl 0 rfl) ?_
    refine k_get (v := .ref bl) S in_WE hK hP 0 rfl rfl 1 (by decide) ql_WE_23 rfl d_WE_writeJump_61 ?_
    refine k_get (v := .ref bl_sa) S in_BL hK hP 4 rfl rfl 6 (by decide) ql_WE_122 rfl d_WE_writeJump_64 ?_
    refine lv_aload_n hx hb d_WE_writeJump_67 rfl (lv_at hl 1 rfl) ?_
    refine k_get (v := .ref oc_opd) S in_CO hK hP 8 rfl rfl 1 (by decide) ql_WE_139 rfl d_WE_writeJump_68 ?_
    refine lv_iload_n hx hb d_WE_writeJump_71 rfl (lv_at hl 3 rfl) ?_
    refine k_ld (k := i) hx hb hK hP 10 0 rfl rfl rfl (by omega) (by decide) d_WE_writeJump_72 ?_
    refine k_top (y := nI (tn (g i))) hgi.1 ?_
    refine k_ld (k := tn (g i)) hx hb hK hP 7 0 rfl rfl rfl hgi.2 (by decide) d_WE_writeJump_73 ?_
    refine k_top (y := nI (tn (sa (tn (g i))))) hsg.1 ?_
    refine k_gov (ws' := [(we, .inr (5, [.ref fc, .ref bl, .ref dq])), (fc, .inr (1, [.ref fc_ops, .ref fc_opd, .ref fc_fr, .ref fc_to, .ref fc_tg, .int (nI ((f_WE_writeLead fq fo fa b (tn (sa (tn (g i)))) he st).1)), .int (nI fhn)])), (fc_ops, .inl (cI, 1328, .inl ((f_WE_writeLead fq fo fa b (tn (sa (tn (g i)))) he st).2.1))), (fc_opd, .inl (cI, 1328, .inl ((f_WE_writeLead fq fo fa b (tn (sa (tn (g i)))) he st).2.2))), (bl, .inr (4, [.ref bl_le, .ref bl_he, .ref bl_st, .ref bl_fi, .ref bl_be, .ref bl_by, .ref bl_sa, .ref bl_mk, .int (nI bc)])), (bl_he, .inl (cI, 32, .inl he)), (bl_st, .inl (cI, 32, .inl st)), (bl_sa, .inl (cI, 32, .inl sa)), (oc, .inr (1, [.ref oc_ops, .ref oc_opd, .ref oc_fr, .ref oc_to, .ref oc_tg, .int (nI n), .int (nI hn)])), (oc_ops, .inl (cI, 32, .inl f)), (oc_opd, .inl (cI, 32, .inl g))]) (wr := [(bl_sa, .inl (cI, 32, .inl sa)), (oc, .inr (1, [.ref oc_ops, .ref oc_opd, .ref oc_fr, .ref oc_to, .ref oc_tg, .int (nI n), .int (nI hn)])), (oc_ops, .inl (cI, 32, .inl f)), (oc_opd, .inl (cI, 32, .inl g))]) (k_runV (q0 := 0) (As := [.int (nI b), .int (nI (tn (sa (tn (g i)))))]) (rest := []) (n := 2) S (c_WE_writeLead l D cI cZ we bl dq fc fc_ops fc_opd fc_fr fc_to fc_tg fq fhn fo fa bl_le bl_he bl_st bl_fi bl_be bl_by bl_sa bl_mk bc b (tn (sa (tn (g i)))) he st (by omega) (Nat.lt_of_lt_of_le hsg.2 hb32) (hhe _ hsg.2) (by omega)) E0_b E0_t ql_WE_125 qi_WE_writeLead qs_WE_writeLead qn_WE qc_WE_writeLead (by decide +kernel) rfl ⟨rfl, rfl⟩ ⟨Nat.le_of_ble_eq_true rfl, Nat.le_of_ble_eq_true rfl⟩ hK hP hD [0, 1, 2, 3, 4, 5, 6] rfl (by decide) rfl rfl hl.1 rfl (Nat.le_of_ble_eq_true rfl) d_WE_writeJump_74 ⟨Nat.zero_le _, Nat.zero_le _⟩) hP hD hS hA [0, 1, 2, 3, 4, 5, 6] [7, 8, 9, 10] [4, 5, 6, 7, 8, 9, 10, 0, 1, 2, 3] rfl rfl (by decide) (by decide) rfl (by decide) (fun H locs hP hD hS => ?_)
    exact k_vret hx hb hr hlocks hK hP hD hS (by rw [f_WE_writeJump, if_pos h9_1]) d_WE_writeJump_77
  · skip
    refine lv_aload_n hx hb d_WE_writeJump_12 rfl (lv_at hl 0 rfl) ?_
    refine k_get (v := .ref bl) S in_WE hK hP 0 rfl rfl 1 (by decide) ql_WE_23 rfl d_WE_writeJump_13 ?_
    refine k_get (v := .ref bl_sa) S in_BL hK hP 4 rfl rfl 6 (by decide) ql_WE_122 rfl d_WE_writeJump_16 ?_
    refine lv_iload_n hx hb d_WE_writeJump_19 rfl (lv_at hl 3 rfl) ?_
    refine lv_iconst (v := 1) hx hb d_WE_writeJump_20 (by decide) ?_
    refine lv_iadd hx hb d_WE_writeJump_21 ?_
    refine k_top (y := nI (i + 1)) (nc_add rfl (by decide)) ?_
    refine k_ld (k := i + 1) hx hb hK hP 7 0 rfl rfl rfl (hsn (by assumption)).1 (by decide) d_WE_writeJump_22 ?_
    refine k_top (y := nI (tn (sa (i + 1)))) (hsn (by assumption)).2.1 ?_
    refine lv_istore (lv' := [(4, .int (nI (tn (sa (i + 1))))), (0, .ref we), (1, .ref oc), (2, .int (nI b)), (3, .int (nI i))]) hx hb d_WE_writeJump_23 hl (by decide) rfl (fun ls hl => ?_)
    refine lv_aload_n hx hb d_WE_writeJump_25 rfl (lv_at hl 1 rfl) ?_
    refine lv_aload_n hx hb d_WE_writeJump_26 rfl (lv_at hl 2 rfl) ?_
    refine k_get (v := .ref oc_ops) S in_CO hK hP 8 rfl rfl 0 (by decide) ql_WE_128 rfl d_WE_writeJump_27 ?_
    refine lv_iload_n hx hb d_WE_writeJump_30 rfl (lv_at hl 4 rfl) ?_
    refine k_ld (k := i) hx hb hK hP 9 0 rfl rfl rfl (by omega) (by decide) d_WE_writeJump_31 ?_
    refine lv_aload_n hx hb d_WE_writeJump_32 rfl (lv_at hl 1 rfl) ?_
    refine k_get (v := .ref fc) S in_WE hK hP 0 rfl rfl 0 (by decide) ql_WE_14 rfl d_WE_writeJump_33 ?_
    refine k_get (v := .int (nI fq)) S in_CO hK hP 1 rfl rfl 5 (by decide) ql_WE_66 rfl d_WE_writeJump_36 ?_
    refine lv_iconst (v := 1) hx hb d_WE_writeJump_39 (by decide) ?_
    refine lv_iadd hx hb d_WE_writeJump_40 ?_
    refine k_top (y := nI (fq + 1)) (nc_add rfl (by decide)) ?_
    refine lv_aload_n hx hb d_WE_writeJump_41 rfl (lv_at hl 1 rfl) ?_
    refine lv_iload hx hb d_WE_writeJump_42 (lv_at hl 0 rfl) ?_
    refine k_goi (ws' := [(we, .inr (5, [.ref fc, .ref bl, .ref dq])), (fc, .inr (1, [.ref fc_ops, .ref fc_opd, .ref fc_fr, .ref fc_to, .ref fc_tg, .int (nI fq), .int (nI fhn)])), (fc_ops, .inl (cI, 1328, .inl fo)), (fc_opd, .inl (cI, 1328, .inl fa)), (bl, .inr (4, [.ref bl_le, .ref bl_he, .ref bl_st, .ref bl_fi, .ref bl_be, .ref bl_by, .ref bl_sa, .ref bl_mk, .int (nI bc)])), (bl_he, .inl (cI, 32, .inl he)), (bl_st, .inl (cI, 32, .inl st)), (bl_sa, .inl (cI, 32, .inl sa)), (oc, .inr (1, [.ref oc_ops, .ref oc_opd, .ref oc_fr, .ref oc_to, .ref oc_tg, .int (nI n), .int (nI hn)])), (oc_ops, .inl (cI, 32, .inl f)), (oc_opd, .inl (cI, 32, .inl g))]) (wr := [(fc, .inr (1, [.ref fc_ops, .ref fc_opd, .ref fc_fr, .ref fc_to, .ref fc_tg, .int (nI fq), .int (nI fhn)])), (fc_ops, .inl (cI, 1328, .inl fo)), (fc_opd, .inl (cI, 1328, .inl fa)), (bl_st, .inl (cI, 32, .inl st)), (bl_sa, .inl (cI, 32, .inl sa)), (oc, .inr (1, [.ref oc_ops, .ref oc_opd, .ref oc_fr, .ref oc_to, .ref oc_tg, .int (nI n), .int (nI hn)])), (oc_ops, .inl (cI, 32, .inl f)), (oc_opd, .inl (cI, 32, .inl g))]) (k_runV (q0 := 0) (As := [.int (nI (tn (sa (i + 1))))]) (rest := [.int (nI (fq + 1)), .int (f i), .ref we]) (n := 1) S (c_WE_leadSize l D cI cZ we fc bl dq (tn (sa (i + 1))) bl_le bl_he bl_st bl_fi bl_be bl_by bl_sa bl_mk bc he (Nat.lt_of_lt_of_le (hsn (by assumption)).2.2 hb32) (hhe _ (hsn (by assumption)).2.2)) E0_b E0_t ql_WE_148 qi_WE_leadSize qs_WE_leadSize qn_WE qc_WE_leadSize (by decide +kernel) rfl ⟨rfl, rfl⟩ ⟨Nat.le_of_ble_eq_true rfl, Nat.le_of_ble_eq_true rfl⟩ hK hP hD [0, 4, 5] rfl (by decide) rfl rfl hl.1 rfl (Nat.le_of_ble_eq_true rfl) d_WE_writeJump_44 ⟨Nat.zero_le _, Nat.zero_le _⟩) hP hD hS hA [0, 4, 5] [1, 2, 3, 6, 7, 8, 9, 10] [8, 0, 1, 2, 9, 10, 3, 4, 5, 6, 7] rfl rfl (by decide) (by decide) rfl (by decide) (fun H locs hP hD hS => ?_)
    refine lv_iadd hx hb d_WE_writeJump_47 ?_
    refine k_top (y := nI (fq + 1 + (tn (he (tn (sa (i + 1)))) + 5))) (nc_add rfl rfl) ?_
    refine k_gov (ws' := [(we, .inr (5, [.ref fc, .ref bl, .ref dq])), (fc, .inr (1, [.ref fc_ops, .ref fc_opd, .ref fc_fr, .ref fc_to, .ref fc_tg, .int (nI (fq + 1)), .int (nI fhn)])), (fc_ops, .inl (cI, 1328, .inl (upd fo fq (f i)))), (fc_opd, .inl (cI, 1328, .inl (upd fa fq (nI (fq + 1 + (tn (he (tn (sa (i + 1)))) + 5)))))), (bl, .inr (4, [.ref bl_le, .ref bl_he, .ref bl_st, .ref bl_fi, .ref bl_be, .ref bl_by, .ref bl_sa, .ref bl_mk, .int (nI bc)])), (bl_he, .inl (cI, 32, .inl he)), (bl_st, .inl (cI, 32, .inl st)), (bl_sa, .inl (cI, 32, .inl sa)), (oc, .inr (1, [.ref oc_ops, .ref oc_opd, .ref oc_fr, .ref oc_to, .ref oc_tg, .int (nI n), .int (nI hn)])), (oc_ops, .inl (cI, 32, .inl f)), (oc_opd, .inl (cI, 32, .inl g))]) (wr := [(bl, .inr (4, [.ref bl_le, .ref bl_he, .ref bl_st, .ref bl_fi, .ref bl_be, .ref bl_by, .ref bl_sa, .ref bl_mk, .int (nI bc)])), (bl_he, .inl (cI, 32, .inl he)), (bl_st, .inl (cI, 32, .inl st)), (bl_sa, .inl (cI, 32, .inl sa)), (oc, .inr (1, [.ref oc_ops, .ref oc_opd, .ref oc_fr, .ref oc_to, .ref oc_tg, .int (nI n), .int (nI hn)])), (oc_ops, .inl (cI, 32, .inl f)), (oc_opd, .inl (cI, 32, .inl g))]) (k_runV (q0 := 0) (As := [.int (f i), .int (nI (fq + 1 + (tn (he (tn (sa (i + 1)))) + 5)))]) (rest := []) (n := 2) S (c_WE_write2 l D cI cZ we bl dq fc fc_ops fc_opd fc_fr fc_to fc_tg fq fhn fo fa (f i) (nI (fq + 1 + (tn (he (tn (sa (i + 1)))) + 5))) (by omega)) E0_b E0_t ql_WE_89 qi_WE_write2 qs_WE_write2 qn_WE qc_WE_write2 (by decide +kernel) rfl ⟨rfl, rfl⟩ ⟨Nat.le_of_ble_eq_true rfl, Nat.le_of_ble_eq_true rfl⟩ hK hP hD [0, 1, 2, 3] rfl (by decide) rfl rfl hl.1 rfl (Nat.le_of_ble_eq_true rfl) d_WE_writeJump_48 ⟨Nat.zero_le _, Nat.zero_le _⟩) hP hD hS hA [0, 1, 2, 3] [4, 5, 6, 7, 8, 9, 10] [7, 8, 9, 10, 0, 1, 2, 3, 4, 5, 6] rfl rfl (by decide) (by decide) rfl (by decide) (fun H locs hP hD hS => ?_)
    refine lv_aload_n hx hb d_WE_writeJump_51 rfl (lv_at hl 1 rfl) ?_
    refine lv_iload_n hx hb d_WE_writeJump_52 rfl (lv_at hl 3 rfl) ?_
    refine lv_iload hx hb d_WE_writeJump_53 (lv_at hl 0 rfl) ?_
    refine k_gov (ws' := [(we, .inr (5, [.ref fc, .ref bl, .ref dq])), (fc, .inr (1, [.ref fc_ops, .ref fc_opd, .ref fc_fr, .ref fc_to, .ref fc_tg, .int (nI ((f_WE_writeLead (fq + 1) (upd fo fq (f i)) (upd fa fq (nI (fq + 1 + (tn (he (tn (sa (i + 1)))) + 5)))) b (tn (sa (i + 1))) he st).1)), .int (nI fhn)])), (fc_ops, .inl (cI, 1328, .inl ((f_WE_writeLead (fq + 1) (upd fo fq (f i)) (upd fa fq (nI (fq + 1 + (tn (he (tn (sa (i + 1)))) + 5)))) b (tn (sa (i + 1))) he st).2.1))), (fc_opd, .inl (cI, 1328, .inl ((f_WE_writeLead (fq + 1) (upd fo fq (f i)) (upd fa fq (nI (fq + 1 + (tn (he (tn (sa (i + 1)))) + 5)))) b (tn (sa (i + 1))) he st).2.2))), (bl, .inr (4, [.ref bl_le, .ref bl_he, .ref bl_st, .ref bl_fi, .ref bl_be, .ref bl_by, .ref bl_sa, .ref bl_mk, .int (nI bc)])), (bl_he, .inl (cI, 32, .inl he)), (bl_st, .inl (cI, 32, .inl st)), (bl_sa, .inl (cI, 32, .inl sa)), (oc, .inr (1, [.ref oc_ops, .ref oc_opd, .ref oc_fr, .ref oc_to, .ref oc_tg, .int (nI n), .int (nI hn)])), (oc_ops, .inl (cI, 32, .inl f)), (oc_opd, .inl (cI, 32, .inl g))]) (wr := [(bl_sa, .inl (cI, 32, .inl sa)), (oc, .inr (1, [.ref oc_ops, .ref oc_opd, .ref oc_fr, .ref oc_to, .ref oc_tg, .int (nI n), .int (nI hn)])), (oc_ops, .inl (cI, 32, .inl f)), (oc_opd, .inl (cI, 32, .inl g))]) (k_runV (q0 := 0) (As := [.int (nI b), .int (nI (tn (sa (i + 1))))]) (rest := []) (n := 2) S (c_WE_writeLead l D cI cZ we bl dq fc fc_ops fc_opd fc_fr fc_to fc_tg (fq + 1) fhn (upd fo fq (f i)) (upd fa fq (nI (fq + 1 + (tn (he (tn (sa (i + 1)))) + 5)))) bl_le bl_he bl_st bl_fi bl_be bl_by bl_sa bl_mk bc b (tn (sa (i + 1))) he st (by omega) (Nat.lt_of_lt_of_le (hsn (by assumption)).2.2 hb32) (hhe _ (hsn (by assumption)).2.2) (by omega)) E0_b E0_t ql_WE_125 qi_WE_writeLead qs_WE_writeLead qn_WE qc_WE_writeLead (by decide +kernel) rfl ⟨rfl, rfl⟩ ⟨Nat.le_of_ble_eq_true rfl, Nat.le_of_ble_eq_true rfl⟩ hK hP hD [0, 1, 2, 3, 4, 5, 6] rfl (by decide) rfl rfl hl.1 rfl (Nat.le_of_ble_eq_true rfl) d_WE_writeJump_55 ⟨Nat.zero_le _, Nat.zero_le _⟩) hP hD hS hA [0, 1, 2, 3, 4, 5, 6] [7, 8, 9, 10] [4, 5, 6, 7, 8, 9, 10, 0, 1, 2, 3] rfl rfl (by decide) (by decide) rfl (by decide) (fun H locs hP hD hS => ?_)
    rw [wle_c] at hP hD
    have h5 := (hhe _ (hsn (by assumption)).2.2).2
    refine lv_aload_n hx hb d_WE_writeJump_58 rfl (lv_at hl 1 rfl) ?_
    refine lv_iload_n hx hb d_WE_writeJump_59 rfl (lv_at hl 3 rfl) ?_
    refine lv_aload_n hx hb d_WE_writeJump_60 rfl (lv_at hl 1 rfl) ?_
    refine k_get (v := .ref bl) S in_WE hK hP 0 rfl rfl 1 (by decide) ql_WE_23 rfl d_WE_writeJump_61 ?_
    refine k_get (v := .ref bl_sa) S in_BL hK hP 4 rfl rfl 6 (by decide) ql_WE_122 rfl d_WE_writeJump_64 ?_
    refine lv_aload_n hx hb d_WE_writeJump_67 rfl (lv_at hl 2 rfl) ?_
    refine k_get (v := .ref oc_opd) S in_CO hK hP 8 rfl rfl 1 (by decide) ql_WE_139 rfl d_WE_writeJump_68 ?_
    refine lv_iload_n hx hb d_WE_writeJump_71 rfl (lv_at hl 4 rfl) ?_
    refine k_ld (k := i) hx hb hK hP 10 0 rfl rfl rfl (by omega) (by decide) d_WE_writeJump_72 ?_
    refine k_top (y := nI (tn (g i))) hgi.1 ?_
    refine k_ld (k := tn (g i)) hx hb hK hP 7 0 rfl rfl rfl hgi.2 (by decide) d_WE_writeJump_73 ?_
    refine k_top (y := nI (tn (sa (tn (g i))))) hsg.1 ?_
    refine k_gov (ws' := [(we, .inr (5, [.ref fc, .ref bl, .ref dq])), (fc, .inr (1, [.ref fc_ops, .ref fc_opd, .ref fc_fr, .ref fc_to, .ref fc_tg, .int (nI ((f_WE_writeLead (fq + 1 + tn (he (tn (sa (i + 1)))) + 5) ((f_WE_writeLead (fq + 1) (upd fo fq (f i)) (upd fa fq (nI (fq + 1 + (tn (he (tn (sa (i + 1)))) + 5)))) b (tn (sa (i + 1))) he st).2.1) ((f_WE_writeLead (fq + 1) (upd fo fq (f i)) (upd fa fq (nI (fq + 1 + (tn (he (tn (sa (i + 1)))) + 5)))) b (tn (sa (i + 1))) he st).2.2) b (tn (sa (tn (g i)))) he st).1)), .int (nI fhn)])), (fc_ops, .inl (cI, 1328, .inl ((f_WE_writeLead (fq + 1 + tn (he (tn (sa (i + 1)))) + 5) ((f_WE_writeLead (fq + 1) (upd fo fq (f i)) (upd fa fq (nI (fq + 1 + (tn (he (tn (sa (i + 1)))) + 5)))) b (tn (sa (i + 1))) he st).2.1) ((f_WE_writeLead (fq + 1) (upd fo fq (f i)) (upd fa fq (nI (fq + 1 + (tn (he (tn (sa (i + 1)))) + 5)))) b (tn (sa (i + 1))) he st).2.2) b (tn (sa (tn (g i)))) he st).2.1))), (fc_opd, .inl (cI, 1328, .inl ((f_WE_writeLead (fq + 1 + tn (he (tn (sa (i + 1)))) + 5) ((f_WE_writeLead (fq + 1) (upd fo fq (f i)) (upd fa fq (nI (fq + 1 + (tn (he (tn (sa (i + 1)))) + 5)))) b (tn (sa (i + 1))) he st).2.1) ((f_WE_writeLead (fq + 1) (upd fo fq (f i)) (upd fa fq (nI (fq + 1 + (tn (he (tn (sa (i + 1)))) + 5)))) b (tn (sa (i + 1))) he st).2.2) b (tn (sa (tn (g i)))) he st).2.2))), (bl, .inr (4, [.ref bl_le, .ref bl_he, .ref bl_st, .ref bl_fi, .ref bl_be, .ref bl_by, .ref bl_sa, .ref bl_mk, .int (nI bc)])), (bl_he, .inl (cI, 32, .inl he)), (bl_st, .inl (cI, 32, .inl st)), (bl_sa, .inl (cI, 32, .inl sa)), (oc, .inr (1, [.ref oc_ops, .ref oc_opd, .ref oc_fr, .ref oc_to, .ref oc_tg, .int (nI n), .int (nI hn)])), (oc_ops, .inl (cI, 32, .inl f)), (oc_opd, .inl (cI, 32, .inl g))]) (wr := [(bl_sa, .inl (cI, 32, .inl sa)), (oc, .inr (1, [.ref oc_ops, .ref oc_opd, .ref oc_fr, .ref oc_to, .ref oc_tg, .int (nI n), .int (nI hn)])), (oc_ops, .inl (cI, 32, .inl f)), (oc_opd, .inl (cI, 32, .inl g))]) (k_runV (q0 := 0) (As := [.int (nI b), .int (nI (tn (sa (tn (g i)))))]) (rest := []) (n := 2) S (c_WE_writeLead l D cI cZ we bl dq fc fc_ops fc_opd fc_fr fc_to fc_tg (fq + 1 + tn (he (tn (sa (i + 1)))) + 5) fhn ((f_WE_writeLead (fq + 1) (upd fo fq (f i)) (upd fa fq (nI (fq + 1 + (tn (he (tn (sa (i + 1)))) + 5)))) b (tn (sa (i + 1))) he st).2.1) ((f_WE_writeLead (fq + 1) (upd fo fq (f i)) (upd fa fq (nI (fq + 1 + (tn (he (tn (sa (i + 1)))) + 5)))) b (tn (sa (i + 1))) he st).2.2) bl_le bl_he bl_st bl_fi bl_be bl_by bl_sa bl_mk bc b (tn (sa (tn (g i)))) he st (by omega) (Nat.lt_of_lt_of_le hsg.2 hb32) (hhe _ hsg.2) (by omega)) E0_b E0_t ql_WE_125 qi_WE_writeLead qs_WE_writeLead qn_WE qc_WE_writeLead (by decide +kernel) rfl ⟨rfl, rfl⟩ ⟨Nat.le_of_ble_eq_true rfl, Nat.le_of_ble_eq_true rfl⟩ hK hP hD [0, 1, 2, 3, 4, 5, 6] rfl (by decide) rfl rfl hl.1 rfl (Nat.le_of_ble_eq_true rfl) d_WE_writeJump_74 ⟨Nat.zero_le _, Nat.zero_le _⟩) hP hD hS hA [0, 1, 2, 3, 4, 5, 6] [7, 8, 9, 10] [4, 5, 6, 7, 8, 9, 10, 0, 1, 2, 3] rfl rfl (by decide) (by decide) rfl (by decide) (fun H locs hP hD hS => ?_)
    exact k_vret hx hb hr hlocks hK hP hD hS (by rw [f_WE_writeJump, if_neg h9_1]) d_WE_writeJump_77
