def nws : List Cond := [Cond.methodLinkNest "FlowFlattener" 20 y_CH_init "FlowFlattener", Cond.methodLinkNest "FlowFlattener" 27 y_WE_init "FlowFlattener", Cond.methodLinkNest "FlowFlattener$Weaver" 22 y_BL_init "FlowFlattener", Cond.methodLinkNest "FlowFlattener$Weaver" 29 y_DR_init "FlowFlattener", Cond.methodLinkNest "FlowFlattener" 34 y_MA_init "FlowFlattener", Cond.fieldLinkNest "FlowFlattener$Checker" 43 "FlowFlattener" "TAKES" "[I" "FlowFlattener", Cond.fieldLinkNest "FlowFlattener$Checker" 46 "FlowFlattener" "PUTS" "[I" "FlowFlattener", Cond.methodLinkNest "FlowFlattener$Checker" 52 y_FF_goesToNext "FlowFlattener", Cond.methodLinkNest "FlowFlattener$Checker" 59 y_FF_jumps "FlowFlattener", Cond.methodLinkNest "FlowFlattener$Blocks" 60 y_FF_jumps "FlowFlattener", Cond.methodLinkNest "FlowFlattener$Blocks" 66 y_FF_branches "FlowFlattener", Cond.methodLinkNest "FlowFlattener$Weaver" 131 y_FF_jumps "FlowFlattener", Cond.methodLinkNest "FlowFlattener$Weaver" 145 y_FF_branches "FlowFlattener", Cond.methodLinkNest "FlowFlattener$Weaver" 142 y_FF_ends "FlowFlattener"]
theorem nws_l : ∀ w ∈ nws, w ∈ lw_tbl := by
  intro w h
  unfold nws at h
  simp only [List.mem_cons, List.not_mem_nil, or_false] at h
  rcases h with rfl | rfl | rfl | rfl | rfl | rfl | rfl | rfl | rfl | rfl | rfl | rfl | rfl | rfl
  · exact ql_FF_20
  · exact ql_FF_27
  · exact ql_WE_22
  · exact ql_WE_29
  · exact ql_FF_34
  · exact ql_CH_43
  · exact ql_CH_46
  · exact ql_CH_52
  · exact ql_CH_59
  · exact ql_BL_60
  · exact ql_BL_66
  · exact ql_WE_131
  · exact ql_WE_145
  · exact ql_WE_142
theorem nws_w {s U : State} (hW : s.WarmedH U.vm) : ∀ w ∈ nws, va_Nw w s → va_Nw w U := by
  intro w h
  unfold nws at h
  simp only [List.mem_cons, List.not_mem_nil, or_false] at h
  rcases h with rfl | rfl | rfl | rfl | rfl | rfl | rfl | rfl | rfl | rfl | rfl | rfl | rfl | rfl
  · exact va_Nw.warmM hW
  · exact va_Nw.warmM hW
  · exact va_Nw.warmM hW
  · exact va_Nw.warmM hW
  · exact va_Nw.warmM hW
  · exact va_Nw.warmF hW
  · exact va_Nw.warmF hW
  · exact va_Nw.warmM hW
  · exact va_Nw.warmM hW
  · exact va_Nw.warmM hW
  · exact va_Nw.warmM hW
  · exact va_Nw.warmM hW
  · exact va_Nw.warmM hW
  · exact va_Nw.warmM hW
theorem nws_t : ∀ w ∈ nws, w.onTables = true := by
  intro w h
  unfold nws at h
  simp only [List.mem_cons, List.not_mem_nil, or_false] at h
  rcases h with rfl | rfl | rfl | rfl | rfl | rfl | rfl | rfl | rfl | rfl | rfl | rfl | rfl | rfl <;> rfl
def TK (j : Nat) : Int32 := ([0, 0, 1, 2, 2, 2, 2, 2, 2, 1, 2, 1, 1, 0, 1, 1, 1, 1, 1] : List Int32).getD j 0
def PU (j : Nat) : Int32 := ([1, 1, 0, 1, 1, 1, 1, 1, 1, 2, 2, 0, 0, 0, 0, 0, 0, 0, 0] : List Int32).getD j 0
def EN (tt tp : Nat) : (Nat → Prop) → State → Prop := fun A U => (∀ w ∈ nws, va_Nw w U) ∧ va_Z "FlowFlattener" "TAKES" "[I" (.ref tt) A U U.heap ∧ va_T .int tt 19 (fun j => .int (TK j)) A U U.heap ∧ va_Z "FlowFlattener" "PUTS" "[I" (.ref tp) A U U.heap ∧ va_T .int tp 19 (fun j => .int (PU j)) A U U.heap
theorem EN_b {tt tp : Nat} : ∀ (A : Nat → Prop) (U V : State), U.vm = V.vm → U.heap = V.heap → EN tt tp A U → EN tt tp A V := by
  intro A U V hv hh h
  have ha : U.vm.Alike V.vm := by rw [hv]; exact Vm.Alike.refl _
  obtain ⟨h0, h1, h2, h3, h4⟩ := h
  refine ⟨fun w hw => va_Nw.same (nws_t w hw) hv (h0 w hw), ?_, ?_, ?_, ?_⟩
  · rw [← hh]; exact h1.moved ha
  · rw [← hh]; exact h2.moved ha
  · rw [← hh]; exact h3.moved ha
  · rw [← hh]; exact h4.moved ha
theorem EN_t {tt tp : Nat} {A B : Nat → Prop} {s : State} {H : Heap} {locs : List Loc} (hE : EN tt tp A s) (hS : va_S A s.heap H locs) (hF : ∀ q, B q → A q) : ∀ U : State, U.heap = H → s.WarmedH U.vm → EN tt tp B U := by
  intro U hU hW
  obtain ⟨h0, h1, h2, h3, h4⟩ := hE
  refine ⟨fun w hw => nws_w hW w hw (h0 w hw), ?_, ?_, ?_, ?_⟩
  · rw [hU]; exact ((h1.kept hS.2.1).moved hW.alike).narrow hF
  · rw [hU]; exact ((h2.kept hS.2.1).moved hW.alike).narrow hF
  · rw [hU]; exact ((h3.kept hS.2.1).moved hW.alike).narrow hF
  · rw [hU]; exact ((h4.kept hS.2.1).moved hW.alike).narrow hF
theorem k_ti {p : Program} {l : Launch} {e : Env} {R : Room} {s : State} {m : MethodId} {args : Array Value} {below : List Frame} {meth : Method} {c : Code} {H : Heap} {locs : List Loc} {cells slots : Nat} {Q : State → Prop} {cc : ByteArray} {pc : Nat} {ls : Array Slot} {rest : List Value} {A : Nat → Prop} {t N : Nat} {f : Nat → Int32} (hx : p.tables.exec = Jvm.exec) (hb : c.code = cc) (hT : va_T .int t N (fun j => .int (f j)) A s s.heap) (hS : va_S A s.heap H locs) {i : Int32} {k : Nat} (hi : i = nI k) (hk : k < N) (hN : N < 2 ^ 31) (hdg : decode cc pc = .ok (.iaload, 1))
    (kk : W p l e R s m args below meth c H locs cells slots Q (F0 m (pc + 1) ls (.int (f k) :: rest))) : W p l e R s m args below meth c H locs cells slots Q (F0 m pc ls (.int i :: .ref t :: rest)) := by
  subst hi
  refine va_ti (v := .int (f k)) hx hb hT hS (vp_in_nI hk hN) ?_ hdg kk
  show Value.int (f (nI k).toNatClampNeg) = .int (f k)
  rw [nI_clamp (by omega)]
theorem tn_nI {k : Nat} (h : k < 2 ^ 31) : tn (nI k) = k := nI_clamp h
theorem tn_eq {x : Int32} (h : ¬ x < 0) : x = nI (tn x) := by
  obtain ⟨j, hj, rfl⟩ := nI_of h
  rw [tn_nI hj]
theorem tn_lt {x : Int32} {n : Nat} (h : ¬ x < 0) (hn : n < 2 ^ 31) (h2 : ¬ nI n ≤ x) : tn x < n := by
  obtain ⟨j, hj, rfl⟩ := nI_of h
  rw [tn_nI hj]
  exact Nat.lt_of_not_le (fun h3 => h2 ((nI_leI hn hj).mpr h3))
theorem tn_le {x : Int32} {n : Nat} (h : ¬ x < 0) (hn : n < 2 ^ 31) (h2 : x ≤ nI n) : tn x ≤ n := by
  obtain ⟨j, hj, rfl⟩ := nI_of h
  rw [tn_nI hj]
  exact (nI_leI hj hn).mp h2
theorem tn_lt2 {x : Int32} {n : Nat} (h : ¬ x < 0) (hn : n < 2 ^ 31) (h2 : x < nI n) : tn x < n := by
  obtain ⟨j, hj, rfl⟩ := nI_of h
  rw [tn_nI hj]
  exact (nI_ltI hj hn).mp h2
