-- rows of my own over the kit's: contracts whose worlds are written out before and behind, one row a call, one row a return
theorem nc_add {X Y : Int32} {x y : Nat} (eX : X = nI x) (eY : Y = nI y) : X + Y = nI (x + y) := by rw [eX, eY, nI_add]
theorem nc_mul {X Y : Int32} {x y : Nat} (eX : X = nI x) (eY : Y = nI y) : X * Y = nI (x * y) := by rw [eX, eY, pk_mul]
theorem nc_sub {X Y : Int32} {x y : Nat} (eX : X = nI x) (eY : Y = nI y) (h : y ≤ x) : X - Y = nI (x - y) := by rw [eX, eY, pk_sub h]
theorem nc_dec {x : Nat} (h : 1 ≤ x) : nI x + Int32.ofInt (-1) = nI (x - 1) := by
  obtain ⟨k, rfl⟩ : ∃ k, x = k + 1 := ⟨x - 1, by omega⟩
  exact pk_m1 k
section Base
variable {p : Program} {l : Launch} {e : Env} {R : Room} {s : State} {m : MethodId} {args : Array Value} {below : List Frame} {meth : Method} {c : Code} {H : Heap} {locs : List Loc} {cells slots : Nat} {Q : State → Prop} {cc : ByteArray} {pc : Nat} {ls : Array Slot} {rest : List Value} {D : va_G} {cl : List vw_C} {ws : va_W} {tys : List (ClassId × FieldType)} {A : Nat → Prop} {a : Nat} {H0 : Heap}
theorem k_top {x y : Int32} (h : x = y) (k : W p l e R s m args below meth c H locs cells slots Q (F0 m pc ls (.int y :: rest))) : W p l e R s m args below meth c H locs cells slots Q (F0 m pc ls (.int x :: rest)) := by
  subst h; exact k
theorem k_ld (hx : p.tables.exec = Jvm.exec) (hb : c.code = cc) (hK : va_K D cl tys s) (hP : va_P D cl ws H) (q0 t0 : Nat) {cA : ClassId} {n : Nat} {f : Nat → Int32} (ha : ws[q0]? = some (a, .inl (cA, n, .inl f))) (ht : tys[t0]? = some (cA, .int)) {i : Int32} {k : Nat} (hi : i = nI k) (hk : k < n) (hn : n < 2 ^ 31) (hdg : decode cc pc = .ok (.iaload, 1))
    (kk : W p l e R s m args below meth c H locs cells slots Q (F0 m (pc + 1) ls (.int (f k) :: rest))) : W p l e R s m args below meth c H locs cells slots Q (F0 m pc ls (.int i :: .ref a :: rest)) := by
  subst hi
  refine va_iald hx hb hK hP q0 t0 ha ht (vp_in_nI hk hn) hdg ?_
  rw [nI_clamp (by omega)]
  exact kk
theorem k_zld (hx : p.tables.exec = Jvm.exec) (hb : c.code = cc) (hK : va_K D cl tys s) (hP : va_P D cl ws H) (q0 t0 : Nat) {cA : ClassId} {n : Nat} {f : Nat → Int32} (ha : ws[q0]? = some (a, .inl (cA, n, .inl f))) (ht : tys[t0]? = some (cA, .boolean)) {i : Int32} {k : Nat} (hi : i = nI k) (hk : k < n) (hn : n < 2 ^ 31) (hdg : decode cc pc = .ok (.baload, 1))
    (kk : W p l e R s m args below meth c H locs cells slots Q (F0 m (pc + 1) ls (.int (f k) :: rest))) : W p l e R s m args below meth c H locs cells slots Q (F0 m pc ls (.int i :: .ref a :: rest)) := by
  subst hi
  refine va_zald hx hb hK hP q0 t0 ha ht (vp_in_nI hk hn) hdg ?_
  rw [nI_clamp (by omega)]
  exact kk
theorem k_st (hx : p.tables.exec = Jvm.exec) (hb : c.code = cc) (hK : va_K D cl tys s) (hP : va_P D cl ws H) (hD : va_D A ws) (hS : va_S A H0 H locs) (q0 t0 : Nat) {cA : ClassId} {n : Nat} {f : Nat → Int32} (ha : ws[q0]? = some (a, .inl (cA, n, .inl f))) (ht : tys[t0]? = some (cA, .int)) {i x : Int32} {k : Nat} (hi : i = nI k) (hk : k < n) (hn : n < 2 ^ 31) {ws' : va_W} (hw : ws.set q0 (a, .inl (cA, n, .inl (upd f k x))) = ws') (hdg : decode cc pc = .ok (.iastore, 1))
    (kk : ∀ (H1 : Heap) (locs1 : List Loc), va_P D cl ws' H1 → va_D A ws' → va_S A H0 H1 locs1 → W p l e R s m args below meth c H1 locs1 cells slots Q (F0 m (pc + 1) ls rest)) : W p l e R s m args below meth c H locs cells slots Q (F0 m pc ls (.int x :: .int i :: .ref a :: rest)) := by
  subst hi
  subst hw
  refine va_iast hx hb hK hP hD hS q0 t0 ha ht (vp_in_nI hk hn) hdg ?_
  rw [nI_clamp (by omega)]
  exact kk
theorem k_zst (hx : p.tables.exec = Jvm.exec) (hb : c.code = cc) (hK : va_K D cl tys s) (hP : va_P D cl ws H) (hD : va_D A ws) (hS : va_S A H0 H locs) (q0 t0 : Nat) {cA : ClassId} {n : Nat} {f : Nat → Int32} (ha : ws[q0]? = some (a, .inl (cA, n, .inl f))) (ht : tys[t0]? = some (cA, .boolean)) {i x : Int32} {k : Nat} (hi : i = nI k) (hx0 : x = 0 ∨ x = 1) (hk : k < n) (hn : n < 2 ^ 31) {ws' : va_W} (hw : ws.set q0 (a, .inl (cA, n, .inl (upd f k x))) = ws') (hdg : decode cc pc = .ok (.bastore, 1))
    (kk : ∀ (H1 : Heap) (locs1 : List Loc), va_P D cl ws' H1 → va_D A ws' → va_S A H0 H1 locs1 → W p l e R s m args below meth c H1 locs1 cells slots Q (F0 m (pc + 1) ls rest)) : W p l e R s m args below meth c H locs cells slots Q (F0 m pc ls (.int x :: .int i :: .ref a :: rest)) := by
  subst hi
  subst hw
  refine va_zast hx hb hK hP hD hS q0 t0 ha ht (vp_in_nI hk hn) hdg ?_
  rw [nI_clamp (by omega)]
  have hz : vp_nar .boolean x = x := by rcases hx0 with rfl | rfl <;> rfl
  rw [hz]
  exact kk
theorem n_icmp_lt (hx : p.tables.exec = Jvm.exec) (hb : c.code = cc) {X Y : Int32} {x y : Nat} (eX : X = nI x) (eY : Y = nI y) (lx : x < 2 ^ 31) (ly : y < 2 ^ 31) {off : Int} {tgt : Nat} (hdg : decode cc pc = .ok (.if_icmp .lt off, 3)) (ht : (pc : Int) + off = (tgt : Int))
    (kt : x < y → W p l e R s m args below meth c H locs cells slots Q (F0 m tgt ls rest)) (kf : y ≤ x → W p l e R s m args below meth c H locs cells slots Q (F0 m (pc + 3) ls rest)) : W p l e R s m args below meth c H locs cells slots Q (F0 m pc ls (.int Y :: .int X :: rest)) := by
  subst eX; subst eY
  exact lv_icmp_lt hx hb hdg ht (fun h => kt ((nI_ltI lx ly).mp h)) (fun h => kf (Nat.le_of_not_lt (fun h2 => h ((nI_ltI lx ly).mpr h2))))
theorem n_icmp_ge (hx : p.tables.exec = Jvm.exec) (hb : c.code = cc) {X Y : Int32} {x y : Nat} (eX : X = nI x) (eY : Y = nI y) (lx : x < 2 ^ 31) (ly : y < 2 ^ 31) {off : Int} {tgt : Nat} (hdg : decode cc pc = .ok (.if_icmp .ge off, 3)) (ht : (pc : Int) + off = (tgt : Int))
    (kt : y ≤ x → W p l e R s m args below meth c H locs cells slots Q (F0 m tgt ls rest)) (kf : x < y → W p l e R s m args below meth c H locs cells slots Q (F0 m (pc + 3) ls rest)) : W p l e R s m args below meth c H locs cells slots Q (F0 m pc ls (.int Y :: .int X :: rest)) := by
  subst eX; subst eY
  exact lv_icmp_ge hx hb hdg ht (fun h => kt ((nI_leI ly lx).mp h)) (fun h => kf (Nat.lt_of_not_le (fun h2 => h ((nI_leI ly lx).mpr h2))))
theorem n_icmp_gt (hx : p.tables.exec = Jvm.exec) (hb : c.code = cc) {X Y : Int32} {x y : Nat} (eX : X = nI x) (eY : Y = nI y) (lx : x < 2 ^ 31) (ly : y < 2 ^ 31) {off : Int} {tgt : Nat} (hdg : decode cc pc = .ok (.if_icmp .gt off, 3)) (ht : (pc : Int) + off = (tgt : Int))
    (kt : y < x → W p l e R s m args below meth c H locs cells slots Q (F0 m tgt ls rest)) (kf : x ≤ y → W p l e R s m args below meth c H locs cells slots Q (F0 m (pc + 3) ls rest)) : W p l e R s m args below meth c H locs cells slots Q (F0 m pc ls (.int Y :: .int X :: rest)) := by
  subst eX; subst eY
  exact lv_icmp_gt hx hb hdg ht (fun h => kt ((nI_ltI ly lx).mp h)) (fun h => kf (Nat.le_of_not_lt (fun h2 => h ((nI_ltI ly lx).mpr h2))))
theorem n_icmp_le (hx : p.tables.exec = Jvm.exec) (hb : c.code = cc) {X Y : Int32} {x y : Nat} (eX : X = nI x) (eY : Y = nI y) (lx : x < 2 ^ 31) (ly : y < 2 ^ 31) {off : Int} {tgt : Nat} (hdg : decode cc pc = .ok (.if_icmp .le off, 3)) (ht : (pc : Int) + off = (tgt : Int))
    (kt : x ≤ y → W p l e R s m args below meth c H locs cells slots Q (F0 m tgt ls rest)) (kf : y < x → W p l e R s m args below meth c H locs cells slots Q (F0 m (pc + 3) ls rest)) : W p l e R s m args below meth c H locs cells slots Q (F0 m pc ls (.int Y :: .int X :: rest)) := by
  subst eX; subst eY
  exact lv_icmp_le hx hb hdg ht (fun h => kt ((nI_leI lx ly).mp h)) (fun h => kf (Nat.lt_of_not_le (fun h2 => h ((nI_leI lx ly).mpr h2))))
theorem n_icmp_eq (hx : p.tables.exec = Jvm.exec) (hb : c.code = cc) {X Y : Int32} {x y : Nat} (eX : X = nI x) (eY : Y = nI y) (lx : x < 2 ^ 31) (ly : y < 2 ^ 31) {off : Int} {tgt : Nat} (hdg : decode cc pc = .ok (.if_icmp .eq off, 3)) (ht : (pc : Int) + off = (tgt : Int))
    (kt : x = y → W p l e R s m args below meth c H locs cells slots Q (F0 m tgt ls rest)) (kf : ¬ x = y → W p l e R s m args below meth c H locs cells slots Q (F0 m (pc + 3) ls rest)) : W p l e R s m args below meth c H locs cells slots Q (F0 m pc ls (.int Y :: .int X :: rest)) := by
  subst eX; subst eY
  exact lv_icmp_eq hx hb hdg ht (fun h => kt ((nI_eq lx ly).mp h)) (fun h => kf (fun h2 => h ((nI_eq lx ly).mpr h2)))
theorem n_icmp_ne (hx : p.tables.exec = Jvm.exec) (hb : c.code = cc) {X Y : Int32} {x y : Nat} (eX : X = nI x) (eY : Y = nI y) (lx : x < 2 ^ 31) (ly : y < 2 ^ 31) {off : Int} {tgt : Nat} (hdg : decode cc pc = .ok (.if_icmp .ne off, 3)) (ht : (pc : Int) + off = (tgt : Int))
    (kt : ¬ x = y → W p l e R s m args below meth c H locs cells slots Q (F0 m tgt ls rest)) (kf : x = y → W p l e R s m args below meth c H locs cells slots Q (F0 m (pc + 3) ls rest)) : W p l e R s m args below meth c H locs cells slots Q (F0 m pc ls (.int Y :: .int X :: rest)) := by
  subst eX; subst eY
  exact lv_icmp_ne hx hb hdg ht (fun h => kt (fun h2 => h ((nI_eq lx ly).mpr h2))) (fun h => kf ((nI_eq lx ly).mp h))
theorem n_if_eq (hx : p.tables.exec = Jvm.exec) (hb : c.code = cc) {x : Nat} (lx : x < 2 ^ 31) {off : Int} {tgt : Nat} (hdg : decode cc pc = .ok (.ifCond .eq off, 3)) (ht : (pc : Int) + off = (tgt : Int))
    (kt : x = 0 → W p l e R s m args below meth c H locs cells slots Q (F0 m tgt ls rest)) (kf : 0 < x → W p l e R s m args below meth c H locs cells slots Q (F0 m (pc + 3) ls rest)) : W p l e R s m args below meth c H locs cells slots Q (F0 m pc ls (.int (nI x) :: rest)) :=
  lv_if_eq hx hb hdg ht (fun h => kt ((nI_eq lx (by decide)).mp h)) (fun h => kf (Nat.pos_of_ne_zero (fun h2 => h (by rw [h2]; rfl))))
theorem n_if_ne (hx : p.tables.exec = Jvm.exec) (hb : c.code = cc) {x : Nat} (lx : x < 2 ^ 31) {off : Int} {tgt : Nat} (hdg : decode cc pc = .ok (.ifCond .ne off, 3)) (ht : (pc : Int) + off = (tgt : Int))
    (kt : 0 < x → W p l e R s m args below meth c H locs cells slots Q (F0 m tgt ls rest)) (kf : x = 0 → W p l e R s m args below meth c H locs cells slots Q (F0 m (pc + 3) ls rest)) : W p l e R s m args below meth c H locs cells slots Q (F0 m pc ls (.int (nI x) :: rest)) :=
  lv_if_ne hx hb hdg ht (fun h => kt (Nat.pos_of_ne_zero (fun h2 => h (by rw [h2]; rfl)))) (fun h => kf ((nI_eq lx (by decide)).mp h))
theorem n_if_le (hx : p.tables.exec = Jvm.exec) (hb : c.code = cc) {x : Nat} (lx : x < 2 ^ 31) {off : Int} {tgt : Nat} (hdg : decode cc pc = .ok (.ifCond .le off, 3)) (ht : (pc : Int) + off = (tgt : Int))
    (kt : x = 0 → W p l e R s m args below meth c H locs cells slots Q (F0 m tgt ls rest)) (kf : 0 < x → W p l e R s m args below meth c H locs cells slots Q (F0 m (pc + 3) ls rest)) : W p l e R s m args below meth c H locs cells slots Q (F0 m pc ls (.int (nI x) :: rest)) :=
  lv_if_le hx hb hdg ht (fun h => kt (Nat.le_zero.mp ((nI_leI lx (by decide)).mp h))) (fun h => kf (Nat.pos_of_ne_zero (fun h2 => h (by rw [h2]; decide))))
theorem n_if_gt (hx : p.tables.exec = Jvm.exec) (hb : c.code = cc) {x : Nat} (lx : x < 2 ^ 31) {off : Int} {tgt : Nat} (hdg : decode cc pc = .ok (.ifCond .gt off, 3)) (ht : (pc : Int) + off = (tgt : Int))
    (kt : 0 < x → W p l e R s m args below meth c H locs cells slots Q (F0 m tgt ls rest)) (kf : x = 0 → W p l e R s m args below meth c H locs cells slots Q (F0 m (pc + 3) ls rest)) : W p l e R s m args below meth c H locs cells slots Q (F0 m pc ls (.int (nI x) :: rest)) :=
  lv_if_gt hx hb hdg ht (fun h => kt ((nI_ltI (by decide) lx).mp h)) (fun h => kf (Nat.le_zero.mp (Nat.le_of_not_lt (fun h2 => h ((nI_ltI (by decide) lx).mpr h2)))))
-- contracts
def cPre (D : va_G) (cl : List vw_C) (tys : List (ClassId × FieldType)) (E : (Nat → Prop) → State → Prop) (w0 : va_W) (sz : Nat) : State → Prop := fun U => U.heap.size = sz ∧ va_P D cl w0 U.heap ∧ va_K D cl tys U ∧ va_D (fun _ => True) w0 ∧ E (va_A w0 sz) U
def RI (D : va_G) (cl : List vw_C) (tys : List (ClassId × FieldType)) (r : Int32) (w1 : va_W) (A : Nat → Prop) : Array Value → State → Outcome → State → Prop := va_Qi (fun (z : Int32) (_ : Unit) => z = r) (fun _ t => va_P D cl w1 t.heap ∧ va_K D cl tys t ∧ va_D A w1) A
def RV (D : va_G) (cl : List vw_C) (tys : List (ClassId × FieldType)) (w1 : va_W) (A : Nat → Prop) : Array Value → State → Outcome → State → Prop := va_Qv (fun (_ : Unit) => True) (fun _ t => va_P D cl w1 t.heap ∧ va_K D cl tys t ∧ va_D A w1) A
def RR (D : va_G) (cl : List vw_C) (tys : List (ClassId × FieldType)) (r : Nat) (w1 : va_W) (A : Nat → Prop) : Array Value → State → Outcome → State → Prop := va_Qr (fun (_ : Unit) => True) (fun _ ra t => ra = r ∧ va_P D cl w1 t.heap ∧ va_K D cl tys t ∧ va_D A w1) A
def MG (l : Launch) (y : MethodName) (wy : List Cond) (rm : Room) (D : va_G) (cl : List vw_C) (tys : List (ClassId × FieldType)) (E : (Nat → Prop) → State → Prop) (av : List Value) (w0 : va_W) (Rt : (Nat → Prop) → Array Value → State → Outcome → State → Prop) : Prop :=
  ∀ sz : Nat, Met l y wy rm (va_Pc av (cPre D cl tys E w0 sz)) (Rt (va_A w0 sz)) 0 0 (va_A w0 sz)
theorem MG.of {y : MethodName} {wy Ts : List Cond} {rm : Room} {E : (Nat → Prop) → State → Prop} {av : List Value} {w0 : va_W} {Rt : (Nat → Prop) → Array Value → State → Outcome → State → Prop} {maxL : Nat} {ret : Option FieldType} {own : String} (ho : y.cls = own) (hy : plainName y.cls = true) (hw : wy = Cond.code y cc maxL ret :: Ts) (hn : (lg_sl av).length ≤ maxL)
    (body : ∀ (p : Program) (e : Env) (s : State) (m : MethodId) (below : List Frame) (meth : Method) (c : Code) (A : Nat → Prop) (ls : Array Slot), CallFix p m c cc maxL s av.toArray Ts own → meth.sig.returnType = ret → meth.locks = false → (∀ q, s.heap.size ≤ q → A q) → va_P D cl w0 s.heap → va_K D cl tys s → va_D A w0 → va_S A s.heap s.heap [] → E A s → lv_has ls maxL (lv_args 0 av) →
      W p l e rm s m av.toArray below meth c s.heap [] 0 0 (MQ below (Rt A) av.toArray s 0 0 A) (F0 m 0 ls [])) : MG l y wy rm D cl tys E av w0 Rt := by
  subst ho
  intro sz
  refine Met.ofW (cc := cc) (maxL := maxL) (ret := ret) hy hw ?_
  intro p e s m args below meth c s₁ B hml hv
  obtain ⟨rfl, hsz, hP, hK, hD0, hE⟩ := hv
  subst hsz
  have hts := atoms_spec (ws := wy) B.pre
  rw [lg_entry_eq]
  exact body p e s m below meth c (va_A w0 s.heap.size) _ ⟨B.exec, B.bytes, hml, findClass_of_methodNamed B.named, fun w h => hts w (by rw [hw]; exact List.mem_cons_of_mem _ h)⟩ B.returns B.notSynchronized (fun q h => Or.inr h) hP hK hD0.self va_S.rf hE (lv_entry av hn)
theorem k_iret (hx : p.tables.exec = Jvm.exec) (hb : c.code = cc) (hr : meth.sig.returnType = some .int) (hlocks : meth.locks = false) (hK : va_K D cl tys s) (hP : va_P D cl ws H) (hD : va_D A ws) (hS : va_S A s.heap H locs) {v r : Int32} {w1 : va_W} (hv : v = r) (hw : ws = w1) (hdg : decode cc pc = .ok (.ireturn, 1)) :
    W p l e R s m args below meth c H locs 0 0 (MQ below (RI D cl tys r w1 A) args s 0 0 A) (F0 m pc ls [.int v]) := by
  subst hv; subst hw
  exact W.iret (v := v) hx hb hr (fun t ht hW => ⟨⟨v, (), rfl, rfl, by rw [ht]; exact hP, va_K.moved hW.alike hK, hD⟩, hS.F ht⟩) hS.2.2 hdg hlocks
theorem k_zret (hx : p.tables.exec = Jvm.exec) (hb : c.code = cc) (hr : meth.sig.returnType = some .boolean) (hlocks : meth.locks = false) (hK : va_K D cl tys s) (hP : va_P D cl ws H) (hD : va_D A ws) (hS : va_S A s.heap H locs) {v r : Int32} {w1 : va_W} (h01 : v = 0 ∨ v = 1) (hv : v = r) (hw : ws = w1) (hdg : decode cc pc = .ok (.ireturn, 1)) :
    W p l e R s m args below meth c H locs 0 0 (MQ below (RI D cl tys r w1 A) args s 0 0 A) (F0 m pc ls [.int v]) := by
  subst hv; subst hw
  exact W.zret (v := v) hx hb hr (by rcases h01 with rfl | rfl <;> rfl) (fun t ht hW => ⟨⟨v, (), rfl, rfl, by rw [ht]; exact hP, va_K.moved hW.alike hK, hD⟩, hS.F ht⟩) hS.2.2 hdg hlocks
theorem k_aret (hx : p.tables.exec = Jvm.exec) (hb : c.code = cc) {rn : String} (hr : meth.sig.returnType = some (.object rn)) (hlocks : meth.locks = false) (hK : va_K D cl tys s) (hP : va_P D cl ws H) (hD : va_D A ws) (hS : va_S A s.heap H locs) {v r : Nat} {w1 : va_W} (hv : v = r) (hw : ws = w1) (hdg : decode cc pc = .ok (.areturn, 1)) :
    W p l e R s m args below meth c H locs 0 0 (MQ below (RR D cl tys r w1 A) args s 0 0 A) (F0 m pc ls [.ref v]) := by
  subst hv; subst hw
  exact W.aret (v := .ref v) hx hb hr (Or.inl ⟨_, rfl⟩) (Or.inr ⟨v, rfl⟩) (fun t ht hW => ⟨⟨(), v, rfl, trivial, rfl, by rw [ht]; exact hP, va_K.moved hW.alike hK, hD⟩, hS.F ht⟩) hS.2.2 hdg hlocks
theorem k_vret (hx : p.tables.exec = Jvm.exec) (hb : c.code = cc) (hr : meth.sig.returnType = none) (hlocks : meth.locks = false) (hK : va_K D cl tys s) (hP : va_P D cl ws H) (hD : va_D A ws) (hS : va_S A s.heap H locs) {w1 : va_W} (hw : ws = w1) (hdg : decode cc pc = .ok (.return_, 1)) :
    W p l e R s m args below meth c H locs 0 0 (MQ below (RV D cl tys w1 A) args s 0 0 A) (F0 m pc ls []) := by
  subst hw
  exact W.vret hx hb hr (fun t ht hW => ⟨⟨(), rfl, trivial, by rw [ht]; exact hP, va_K.moved hW.alike hK, hD⟩, hS.F ht⟩) hS.2.2 hdg hlocks
theorem fm_of {α β : Type} {f : α → Option β} : ∀ (is : List α) {ws' : List β}, is.map f = ws'.map some → is.filterMap f = ws' := by
  intro is
  induction is with
  | nil => intro ws' h; cases ws' with
    | nil => rfl
    | cons _ _ => cases h
  | cons i is ih => intro ws' h; cases ws' with
    | nil => cases h
    | cons w ws' =>
      rw [List.map_cons, List.map_cons, List.cons.injEq] at h
      rw [List.filterMap_cons, h.1, ih h.2]
theorem k_blind {D : va_G} {cl : List vw_C} {tys : List (ClassId × FieldType)} {E : (Nat → Prop) → State → Prop} (hE : ∀ (A : Nat → Prop) (U V : State), U.vm = V.vm → U.heap = V.heap → E A U → E A V) {av : List Value} {w0 : va_W} {sz : Nat} : FrameBlind (va_Pc av (cPre D cl tys E w0 sz)) := by
  intro a U g mk q
  obtain ⟨q0, q1, qP, qK, qD, qE⟩ := q
  exact ⟨q0, q1, qP, va_K.moved (u := U) (U := U.calling g mk a) (Vm.Alike.refl U.vm) qK, qD, hE _ U _ rfl rfl qE⟩
theorem k_goi {st0 : List Value} {av : Array Value} {r : Int32} {w0 w1 wr ws' : va_W} (hr : va_Run p l e R s m args below meth c H locs cells slots 0 0 (F0 m pc ls st0) rest (RI D cl tys r w1 (va_A w0 H.size) av) (va_A w0 H.size)) (hP : va_P D cl ws H) (hD : va_D A ws) (hS : va_S A H0 H locs) (hA : ∀ q, H0.size ≤ q → A q)
    (isC isR isP : List Nat) (hC : isC.map (fun i => ws[i]?) = w0.map some) (hR : isR.map (fun i => ws[i]?) = wr.map some) (hn : va_nd isR = true) (hdis : ∀ i ∈ isR, i ∉ isC) (hp : isP.map (fun i => (wr ++ w1)[i]?) = ws'.map some) (hpn : va_nd isP = true)
    (kk : ∀ (H1 : Heap) (locs1 : List Loc), va_P D cl ws' H1 → va_D A ws' → va_S A H0 H1 locs1 → W p l e R s m args below meth c H1 locs1 cells slots Q (F0 m (pc + 3) ls (.int r :: rest))) : W p l e R s m args below meth c H locs cells slots Q (F0 m pc ls st0) := by
  have hFc := va_free (wc := w0) hD hS hA isC hC
  refine va_calli hr hS (fun q _ h => hFc q h) hFc (fun r' u t H1 locs1 ht hvm hpost hB hz hk hS1 => ?_)
  obtain ⟨hP1, hK1, hD1⟩ := hB
  rw [ht] at hP1
  obtain ⟨hP', hD'⟩ := va_join (wc := w0) (wr := wr) (w1 := w1) hP hD isC isR hC hR hn hdis hk hFc hP1 hD1
  subst hpost
  exact kk H1 locs1 (hP'.sub isP (fm_of isP hp)) (hD'.sub isP hpn hp) hS1
theorem k_gov {st0 : List Value} {av : Array Value} {w0 w1 wr ws' : va_W} (hr : va_Run p l e R s m args below meth c H locs cells slots 0 0 (F0 m pc ls st0) rest (RV D cl tys w1 (va_A w0 H.size) av) (va_A w0 H.size)) (hP : va_P D cl ws H) (hD : va_D A ws) (hS : va_S A H0 H locs) (hA : ∀ q, H0.size ≤ q → A q)
    (isC isR isP : List Nat) (hC : isC.map (fun i => ws[i]?) = w0.map some) (hR : isR.map (fun i => ws[i]?) = wr.map some) (hn : va_nd isR = true) (hdis : ∀ i ∈ isR, i ∉ isC) (hp : isP.map (fun i => (wr ++ w1)[i]?) = ws'.map some) (hpn : va_nd isP = true)
    (kk : ∀ (H1 : Heap) (locs1 : List Loc), va_P D cl ws' H1 → va_D A ws' → va_S A H0 H1 locs1 → W p l e R s m args below meth c H1 locs1 cells slots Q (F0 m (pc + 3) ls rest)) : W p l e R s m args below meth c H locs cells slots Q (F0 m pc ls st0) := by
  have hFc := va_free (wc := w0) hD hS hA isC hC
  refine va_callv hr hS (fun q _ h => hFc q h) hFc (fun u t H1 locs1 ht hvm hpost hB hz hk hS1 => ?_)
  obtain ⟨hP1, hK1, hD1⟩ := hB
  rw [ht] at hP1
  obtain ⟨hP', hD'⟩ := va_join (wc := w0) (wr := wr) (w1 := w1) hP hD isC isR hC hR hn hdis hk hFc hP1 hD1
  exact kk H1 locs1 (hP'.sub isP (fm_of isP hp)) (hD'.sub isP hpn hp) hS1
theorem k_gor {st0 : List Value} {av : Array Value} {r : Nat} {w0 w1 wr ws' : va_W} (hr : va_Run p l e R s m args below meth c H locs cells slots 0 0 (F0 m pc ls st0) rest (RR D cl tys r w1 (va_A w0 H.size) av) (va_A w0 H.size)) (hP : va_P D cl ws H) (hD : va_D A ws) (hS : va_S A H0 H locs) (hA : ∀ q, H0.size ≤ q → A q)
    (isC isR isP : List Nat) (hC : isC.map (fun i => ws[i]?) = w0.map some) (hR : isR.map (fun i => ws[i]?) = wr.map some) (hn : va_nd isR = true) (hdis : ∀ i ∈ isR, i ∉ isC) (hp : isP.map (fun i => (wr ++ w1)[i]?) = ws'.map some) (hpn : va_nd isP = true)
    (kk : ∀ (H1 : Heap) (locs1 : List Loc), va_P D cl ws' H1 → va_D A ws' → va_S A H0 H1 locs1 → W p l e R s m args below meth c H1 locs1 cells slots Q (F0 m (pc + 3) ls (.ref r :: rest))) : W p l e R s m args below meth c H locs cells slots Q (F0 m pc ls st0) := by
  have hFc := va_free (wc := w0) hD hS hA isC hC
  refine va_callr hr hS (fun q _ h => hFc q h) hFc (fun u ra t H1 locs1 ht hvm hpost hB hz hk hS1 => ?_)
  obtain ⟨hra, hP1, hK1, hD1⟩ := hB
  rw [ht] at hP1
  obtain ⟨hP', hD'⟩ := va_join (wc := w0) (wr := wr) (w1 := w1) hP hD isC isR hC hR hn hdis hk hFc hP1 hD1
  subst hra
  exact kk H1 locs1 (hP'.sub isP (fm_of isP hp)) (hD'.sub isP hpn hp) hS1
theorem good_all : GoodIn WS WS := fun w hw => ⟨hw, good_of_word (List.mem_filter.mp hw).2⟩
theorem good_c {c0 : Cond} (h : c0 ∈ WS) : GoodIn WS (c0 :: WS) := fun w hw => (List.mem_cons.mp hw).elim (fun e => good_all w (by rw [e]; exact h)) (good_all w)
theorem good_V {own C : String} {idx n : Nat} {y : MethodName} {bytes : ByteArray} {ret : Option FieldType} (h1 : Cond.methodLink own idx y ∈ WS) (h2 : Cond.instanceMethod y ∈ WS) (h3 : Cond.selects C y y ∈ WS) (h4 : Cond.initialized C ∈ WS) (h5 : Cond.code y bytes n ret ∈ WS) : GoodIn WS (wsV own idx C y (Cond.code y bytes n ret :: WS)) := by
  intro w hw
  unfold wsV at hw
  rcases List.mem_append.mp hw with h | h
  · simp only [List.mem_cons, List.not_mem_nil, or_false] at h
    rcases h with rfl | rfl | rfl | rfl
    · exact good_all _ h1
    · exact good_all _ h2
    · exact good_all _ h3
    · exact good_all _ h4
  · exact good_c h5 w h
theorem good_S {own : String} {idx n : Nat} {y : MethodName} {bytes : ByteArray} {ret : Option FieldType} (h1 : Cond.methodLink own idx y ∈ WS) (h2 : Cond.static y ∈ WS) (h4 : Cond.initialized y.cls ∈ WS) (h5 : Cond.code y bytes n ret ∈ WS) : GoodIn WS (va_wsS own idx y (Cond.code y bytes n ret :: WS)) := by
  intro w hw
  unfold va_wsS at hw
  rcases List.mem_append.mp hw with h | h
  · simp only [List.mem_cons, List.not_mem_nil, or_false] at h
    rcases h with rfl | rfl | rfl
    · exact good_all _ h1
    · exact good_all _ h2
    · exact good_all _ h4
  · exact good_c h5 w h
section Runs
variable {nL maxL n index ci q0 N : Nat} {own C host : String} {y : MethodName} {bytes : ByteArray} {ret : Option FieldType} {rm : Room} {E : (Nat → Prop) → State → Prop} {b : Nat} {As : List Value} {w0 : va_W} {Rt : (Nat → Prop) → Array Value → State → Outcome → State → Prop} {T : u_T} {fs : List Value}
theorem k_pre {av : List Value} (hE : ∀ U : State, U.heap = H → s.WarmedH U.vm → E (va_A w0 H.size) U) (hK : va_K D cl tys s) (hP : va_P D cl ws H) (hD : va_D A ws) (isC : List Nat) (hC : isC.map (fun i => ws[i]?) = w0.map some) (hnd : va_nd isC = true) : ∀ U : State, U.heap = H → s.WarmedH U.vm → va_Pc av (cPre D cl tys E w0 H.size) av.toArray U := by
  intro U hU hW
  have hPc := hP.sub isC (fm_of isC hC)
  have hDc := hD.sub isC hnd hC
  exact ⟨rfl, by rw [hU], by rw [hU]; exact hPc, va_K.moved hW.alike hK, hDc.weaken (fun _ _ _ _ => trivial), hE U hU hW⟩
theorem k_runV (S : CallFix p m c cc nL s args WS own) (hM : MG l y (Cond.code y bytes maxL ret :: WS) rm D cl tys E (.ref b :: As) w0 Rt) (hEb : ∀ (A : Nat → Prop) (U V : State), U.vm = V.vm → U.heap = V.heap → E A U → E A V) (hE : ∀ U : State, U.heap = H → s.WarmedH U.vm → E (va_A w0 H.size) U)
    (h1 : Cond.methodLink own index y ∈ WS) (h2 : Cond.instanceMethod y ∈ WS) (h3 : Cond.selects C y y ∈ WS) (h4 : Cond.initialized C ∈ WS) (h5 : Cond.code y bytes maxL ret ∈ WS) (hd : y.cls = C ∧ y.cls ≠ "java/lang/invoke/MethodHandle" ∧ y.cls ≠ "java/lang/invoke/VarHandle" ∧ (parseMethodDescriptor y.desc).map (fun d => d.parameters.length) = some n) (hn : As.length = n)
    (hc0 : rm.cells = 0 ∧ rm.slots = 0) (hR : rm.frames + 1 ≤ R.frames ∧ 8 + (maxL + 11) + rm.locals ≤ R.locals) (hK : va_K D cl tys s) (hP : va_P D cl ws H) (hD : va_D A ws) (isC : List Nat) (hC : isC.map (fun i => ws[i]?) = w0.map some) (hnd : va_nd isC = true) (he : ws[q0]? = some (b, .inr (ci, fs))) (hci : cl[ci]? = some (C, T, N))
    (hsize : ls.size = nL) {st0 : List Value} (hst : st0 = As.reverse ++ .ref b :: rest) (hroom : (rest.map fun v => v.category).sum ≤ 8) (hdg : decode cc pc = .ok (.invokevirtual index, 3)) (hf : cells ≤ R.cells ∧ slots ≤ R.slots) :
    va_Run p l e R s m args below meth c H locs cells slots 0 0 (F0 m pc ls st0) rest (Rt (va_A w0 H.size) (Value.ref b :: As).toArray) (va_A w0 H.size) := by
  subst hst
  exact va_runV S (hM H.size) (cwV n S.2.2.2.2 (good_V h1 h2 h3 h4 h5) rfl hc0.1 hc0.2 hd hR) ⟨k_blind hEb, va_recv hK hP hci he, k_pre hE hK hP hD isC hC hnd⟩ rfl hn hsize rfl (lv_room hroom) hdg hf
theorem k_runS (S : CallFix p m c cc nL s args WS own) (hM : MG l y (Cond.code y bytes maxL ret :: WS) rm D cl tys E As w0 Rt) (hEb : ∀ (A : Nat → Prop) (U V : State), U.vm = V.vm → U.heap = V.heap → E A U → E A V) (hE : ∀ U : State, U.heap = H → s.WarmedH U.vm → E (va_A w0 H.size) U)
    (h1 : Cond.methodLink own index y ∈ WS) (h2 : Cond.static y ∈ WS) (h4 : Cond.initialized y.cls ∈ WS) (h5 : Cond.code y bytes maxL ret ∈ WS) (hd : y.cls ≠ "java/lang/invoke/MethodHandle" ∧ y.cls ≠ "java/lang/invoke/VarHandle" ∧ (parseMethodDescriptor y.desc).map (fun d => d.parameters.length) = some n) (hn : As.length = n)
    (hc0 : rm.cells = 0 ∧ rm.slots = 0) (hR : rm.frames + 1 ≤ R.frames ∧ 8 + (maxL + 11) + rm.locals ≤ R.locals) (hK : va_K D cl tys s) (hP : va_P D cl ws H) (hD : va_D A ws) (isC : List Nat) (hC : isC.map (fun i => ws[i]?) = w0.map some) (hnd : va_nd isC = true)
    (hsize : ls.size = nL) {st0 : List Value} (hst : st0 = As.reverse ++ rest) (hroom : (rest.map fun v => v.category).sum ≤ 8) (hdg : decode cc pc = .ok (.invokestatic index, 3)) (hf : cells ≤ R.cells ∧ slots ≤ R.slots) :
    va_Run p l e R s m args below meth c H locs cells slots 0 0 (F0 m pc ls st0) rest (Rt (va_A w0 H.size) As.toArray) (va_A w0 H.size) := by
  subst hst
  exact va_runS S (hM H.size) (va_cwS n S.2.2.2.2 (good_S h1 h2 h4 h5) rfl hc0.1 hc0.2 hd hR) ⟨k_blind hEb, k_pre hE hK hP hD isC hC hnd⟩ rfl hn hsize rfl (lv_room hroom) hdg hf
theorem k_runVN (S : CallFix p m c cc nL s args WS own) (hM : MG l y (Cond.code y bytes maxL ret :: WS) rm D cl tys E (.ref b :: As) w0 Rt) (hEb : ∀ (A : Nat → Prop) (U V : State), U.vm = V.vm → U.heap = V.heap → E A U → E A V) (hE : ∀ U : State, U.heap = H → s.WarmedH U.vm → E (va_A w0 H.size) U)
    (h1 : va_Nw (.methodLinkNest own index y host) s) (h2 : Cond.instanceMethod y ∈ WS) (h3 : Cond.selects C y y ∈ WS) (h4 : Cond.initialized y.cls ∈ WS) (h5 : Cond.code y bytes maxL ret ∈ WS) (hd : y.cls ≠ "java/lang/invoke/MethodHandle" ∧ y.cls ≠ "java/lang/invoke/VarHandle" ∧ (parseMethodDescriptor y.desc).map (fun d => d.parameters.length) = some n) (hn : As.length = n)
    (hc0 : rm.cells = 0 ∧ rm.slots = 0) (hR : rm.frames + 1 ≤ R.frames ∧ 8 + (maxL + 11) + rm.locals ≤ R.locals) (hK : va_K D cl tys s) (hP : va_P D cl ws H) (hD : va_D A ws) (isC : List Nat) (hC : isC.map (fun i => ws[i]?) = w0.map some) (hnd : va_nd isC = true) (he : ws[q0]? = some (b, .inr (ci, fs))) (hci : cl[ci]? = some (C, T, N))
    (hsize : ls.size = nL) {st0 : List Value} (hst : st0 = As.reverse ++ .ref b :: rest) (hroom : (rest.map fun v => v.category).sum ≤ 8) (hdg : decode cc pc = .ok (.invokevirtual index, 3)) (hf : cells ≤ R.cells ∧ slots ≤ R.slots) :
    va_Run p l e R s m args below meth c H locs cells slots 0 0 (F0 m pc ls st0) rest (Rt (va_A w0 H.size) (Value.ref b :: As).toArray) (va_A w0 H.size) := by
  subst hst
  exact va_runVN S (hM H.size) ⟨va_cnB n S.2.2.2.2 (good_c h5) rfl hc0.1 hc0.2 h1 (S.2.2.2.2 _ h4) hd hR, S.2.2.2.2 _ h2, S.2.2.2.2 _ h3⟩ ⟨k_blind hEb, va_recv hK hP hci he, k_pre hE hK hP hD isC hC hnd⟩ rfl hn hsize rfl (lv_room hroom) hdg hf
theorem k_runSN (S : CallFix p m c cc nL s args WS own) (hM : MG l y (Cond.code y bytes maxL ret :: WS) rm D cl tys E As w0 Rt) (hEb : ∀ (A : Nat → Prop) (U V : State), U.vm = V.vm → U.heap = V.heap → E A U → E A V) (hE : ∀ U : State, U.heap = H → s.WarmedH U.vm → E (va_A w0 H.size) U)
    (h1 : va_Nw (.methodLinkNest own index y host) s) (h2 : Cond.static y ∈ WS) (h4 : Cond.initialized y.cls ∈ WS) (h5 : Cond.code y bytes maxL ret ∈ WS) (hd : y.cls ≠ "java/lang/invoke/MethodHandle" ∧ y.cls ≠ "java/lang/invoke/VarHandle" ∧ (parseMethodDescriptor y.desc).map (fun d => d.parameters.length) = some n) (hn : As.length = n)
    (hc0 : rm.cells = 0 ∧ rm.slots = 0) (hR : rm.frames + 1 ≤ R.frames ∧ 8 + (maxL + 11) + rm.locals ≤ R.locals) (hK : va_K D cl tys s) (hP : va_P D cl ws H) (hD : va_D A ws) (isC : List Nat) (hC : isC.map (fun i => ws[i]?) = w0.map some) (hnd : va_nd isC = true)
    (hsize : ls.size = nL) {st0 : List Value} (hst : st0 = As.reverse ++ rest) (hroom : (rest.map fun v => v.category).sum ≤ 8) (hdg : decode cc pc = .ok (.invokestatic index, 3)) (hf : cells ≤ R.cells ∧ slots ≤ R.slots) :
    va_Run p l e R s m args below meth c H locs cells slots 0 0 (F0 m pc ls st0) rest (Rt (va_A w0 H.size) As.toArray) (va_A w0 H.size) := by
  subst hst
  exact va_runSN S (hM H.size) ⟨va_cnB n S.2.2.2.2 (good_c h5) rfl hc0.1 hc0.2 h1 (S.2.2.2.2 _ h4) hd hR, S.2.2.2.2 _ h2, trivial⟩ ⟨k_blind hEb, k_pre hE hK hP hD isC hC hnd⟩ rfl hn hsize rfl (lv_room hroom) hdg hf
theorem k_get (S : CallFix p m c cc nL s args WS own) (hin : ∀ w ∈ u_ws C T N, w ∈ WS) (hK : va_K D cl tys s) (hP : va_P D cl ws H) (q0 : Nat) (he : ws[q0]? = some (a, .inr (ci, fs))) (hc : cl[ci]? = some (C, T, N)) (k : Nat) (hk : k < N) (hlink : Cond.fieldLink own index (T k).1 (T k).2.1 (T k).2.2.1 ∈ WS) {v : Value} (hv : fs[k]? = some v) (hdg : decode cc pc = .ok (.getfield index, 3))
    (kk : W p l e R s m args below meth c H locs cells slots Q (F0 m (pc + 3) ls (v :: rest))) : W p l e R s m args below meth c H locs cells slots Q (F0 m pc ls (.ref a :: rest)) :=
  va_get S.1 S.2.1 S.2.2.2.2 hin S.2.2.2.1 hK hP q0 he hc k hk (S.2.2.2.2 _ hlink) (fun _ h => h) hv hdg kk
theorem k_put (S : CallFix p m c cc nL s args WS own) (hin : ∀ w ∈ u_ws C T N, w ∈ WS) {ty0 : Nat → FieldType} (hty : ∀ k, k < N → parseFieldDescriptor (T k).2.2.1 = some (ty0 k)) (hnm : ∀ a, a < N → ∀ b, b < N → a ≠ b → (T a).2.1 ≠ (T b).2.1) (hK : va_K D cl tys s) (hP : va_P D cl ws H) (hD : va_D A ws) (hS0 : va_S A H0 H locs) (q0 : Nat) (he : ws[q0]? = some (a, .inr (ci, fs))) (hc : cl[ci]? = some (C, T, N)) (k : Nat) (hk : k < N) (hlink : Cond.fieldLink own index (T k).1 (T k).2.1 (T k).2.2.1 ∈ WS) (hfin : (T k).2.2.2 = false) {ty : FieldType} {v : Value} (hd : ty0 k = ty) (hn : narrow ty v = v) (hfit : fits ty v = true) (hl : k < fs.length) {ws' : va_W} (hw : ws.set q0 (a, .inr (ci, fs.set k v)) = ws')
    (hdg : decode cc pc = .ok (.putfield index, 3)) (kk : ∀ (H1 : Heap) (locs1 : List Loc), va_P D cl ws' H1 → va_D A ws' → va_S A H0 H1 locs1 → W p l e R s m args below meth c H1 locs1 cells slots Q (F0 m (pc + 3) ls rest)) : W p l e R s m args below meth c H locs cells slots Q (F0 m pc ls (v :: .ref a :: rest)) := by
  subst hw
  exact va_put S.1 S.2.1 S.2.2.2.2 hin ty0 hty hnm S.2.2.2.1 hK hP hD hS0 q0 he hc k hk (S.2.2.2.2 _ hlink) (fun _ h => h) hfin (by rw [hty k hk, hd]) hn hfit hl hdg kk
end Runs
end Base
def E0 : (Nat → Prop) → State → Prop := fun _ _ => True
theorem E0_b : ∀ (A : Nat → Prop) (U V : State), U.vm = V.vm → U.heap = V.heap → E0 A U → E0 A V := fun _ _ _ _ _ _ => trivial
theorem E0_t {s : State} {H : Heap} {A : Nat → Prop} : ∀ U : State, U.heap = H → s.WarmedH U.vm → E0 A U := fun _ _ _ => trivial
def rmK (f lo : Nat) : Room := { frames := f, cells := 0, slots := 0, locals := lo }
abbrev tyz (cI cZ : ClassId) : List (ClassId × FieldType) := [(cI, .int), (cZ, .boolean)]
def tn (x : Int32) : Nat := x.toNatClampNeg
