/-! THE CLAIM OUT OF ONE WALK OF THE LAW'S BODY. Your part is whole_start (and what it stands on); all else here is the same for every law, but numbers. -/
def R_law : String := "FlowFlattenerLaw"
def lw_P (b : Addr) (xs : List Int32) (args : Array Value) (s : State) : Prop := args = #[.ref b] ∧ s.IntsAt b xs ∧ xs.length ≤ 2048 ∧ (Jvm.Cond.and given_1 narrow_1).before args s = true
def lw_Q (_ : Array Value) (s : State) (o : Outcome) (t : State) : Prop := o = .returned (some (.int 1)) ∧ Framed s o t [] 600000 7302250
def lw_Z (below : List Frame) (a : Array Value) (s : State) : State → Prop := fun t => ∃ o, t.status = .running ∧ Ended t below o ∧ lw_Q a s o t
/-- the law's own end, with 1 on the stack, nothing written that was there before, its room as the claim has it -/
theorem lw_ret {p : Program} {l : Launch} {e : Env} {s : State} {m : MethodId} {below : List Frame} {meth : Method} {c : Code} {b : Nat} (hx : p.tables.exec = Jvm.exec) (hb : c.code = code) (hr : meth.sig.returnType = ret) (hlocks : meth.locks = false) {pc : Nat} {H : Heap} {ls : Array Slot} (hdg : decode code pc = .ok (.ireturn, 1)) : W p l e room_1 s m #[Value.ref b] below meth c H [] 600000 7302250 (lw_Z below #[Value.ref b] s) (F0 m pc ls [.int 1]) := by
  intro T hT X
  obtain ⟨fs, hret, hrun, hended, hW, hframe⟩ := X.leave (v := some (.int 1)) (hlocks := hlocks) (fun h => by rw [hr] at h; cases h)
  have hmeth' : T.vm.method? m = some meth := X.method'
  refine ⟨T.setFrames fs, ?_, .returned (some (.int 1)), hrun, hended, rfl, ⟨_, rfl⟩, hW, hframe⟩
  jvm_step X.here [X.here.top, hx, hb, hdg, hmeth', hr, ret, narrow_b1]
  (try refine ⟨rfl, ?_⟩); (try refine ⟨rfl, ?_⟩)
  first | (intro acts; rw [hret _ acts rfl rfl rfl]) | rw [hret _ _ rfl rfl rfl]
  exact Steps.refl _
/-- what holds at the law's entry: the machine, the code, the tables' words (any of lw_tbl by 'hts w (by decide +kernel)'), the script of L ints xs at the cell b, what the Statement gives of the start (any of its parts by flat_of_before) -/
def lw_At (p : Program) (s : State) (m : MethodId) (meth : Method) (c : Code) (b L : Nat) (xs : Nat → Int32) : Prop :=
  p.tables.exec = Jvm.exec ∧ c.code = code ∧ meth.sig.returnType = ret ∧ c.maxLocals = 4 ∧ s.vm.findClass R_law = some m.cls ∧ (∀ w ∈ lw_tbl, w.before #[Value.ref b] s = true) ∧ va_X b L xs s s.heap ∧ b < s.heap.size ∧ meth.locks = false ∧ (Jvm.Cond.and given_1 narrow_1).before #[Value.ref b] s = true
-- rows of the law
def stW0 : List Nat → va_W → va_W → va_W
  | [], _, ws => ws
  | i :: is, xs, ws => match xs with
    | [] => ws
    | x :: xs => stW0 is xs (ws.set i x)
abbrev stW (ws : va_W) (is : List Nat) (xs : va_W) : va_W := stW0 is xs ws
theorem stW_P {D : va_G} {cl : List vw_C} {H1 : Heap} : ∀ (is : List Nat) (xs ws : va_W), is.length = xs.length → (∀ k q, ws[k]? = some q → k ∉ is → va_at D cl q H1) → (∀ (k : Nat) q, xs[k]? = some q → va_at D cl q H1) → va_P D cl (stW ws is xs) H1 := by
  intro is
  induction is with
  | nil => intro xs ws _ h1 _ k q hk; exact h1 k q hk List.not_mem_nil
  | cons i is ih =>
    intro xs ws hl h1 h2
    cases xs with
    | nil => cases hl
    | cons x xs =>
      apply ih xs (ws.set i x) (by simpa using hl)
      · intro k q hk hn
        by_cases e : k = i
        · subst e
          rw [List.getElem?_set] at hk
          rw [if_pos rfl] at hk
          by_cases hlen : k < ws.length
          · rw [if_pos hlen] at hk
            cases hk
            exact h2 0 x rfl
          · rw [if_neg hlen] at hk; cases hk
        · rw [List.getElem?_set, if_neg (fun h => e h.symm)] at hk
          exact h1 k q hk (fun hm => by rcases List.mem_cons.mp hm with h | h; exact e h; exact hn h)
      · intro k q hk
        exact h2 (k + 1) q hk
theorem stW_fst : ∀ (is : List Nat) (xs ws : va_W), is.map (fun i => (ws.map Prod.fst)[i]?) = xs.map (fun x => some x.1) → (stW ws is xs).map Prod.fst = ws.map Prod.fst := by
  intro is
  induction is with
  | nil => intro xs ws _; rfl
  | cons i is ih =>
    intro xs ws h
    cases xs with
    | nil => rfl
    | cons x xs =>
      rw [List.map_cons, List.map_cons, List.cons.injEq] at h
      have hs : (ws.set i x).map Prod.fst = ws.map Prod.fst := by
        rw [List.map_set]
        apply List.ext_getElem?
        intro k
        rw [List.getElem?_set]
        by_cases e : i = k
        · subst e
          rw [if_pos rfl]
          by_cases hlen : i < (ws.map Prod.fst).length
          · rw [if_pos hlen]; exact h.1.symm
          · rw [if_neg hlen, List.getElem?_eq_none (by omega)]
        · rw [if_neg e]
      show (stW (ws.set i x) is xs).map Prod.fst = _
      rw [ih xs (ws.set i x) (by rw [hs]; exact h.2), hs]
theorem va_D_fst {A : Nat → Prop} {ws ws' : va_W} (h : ws'.map Prod.fst = ws.map Prod.fst) (hD : va_D A ws) : va_D A ws' := by
  have key : ∀ (k : Nat) (q : Nat × va_E), ws'[k]? = some q → ∃ q2, ws[k]? = some q2 ∧ q2.1 = q.1 := by
    intro k q hk
    have h1 : (ws'.map Prod.fst)[k]? = some q.1 := by rw [List.getElem?_map, hk]; rfl
    rw [h, List.getElem?_map] at h1
    cases h2 : ws[k]? with
    | none => rw [h2] at h1; cases h1
    | some q2 => rw [h2] at h1; exact ⟨q2, rfl, Option.some.inj h1⟩
  constructor
  · intro i j p q hi hj e
    obtain ⟨p2, a1, a2⟩ := key i p hi
    obtain ⟨q2, b1, b2⟩ := key j q hj
    exact hD.1 i j p2 q2 a1 b1 (by rw [a2, b2, e])
  · intro k q hk
    obtain ⟨q2, a1, a2⟩ := key k q hk
    rw [← a2]
    exact hD.2 k q2 a1
theorem k_join2 {A0 : Nat → Prop} {D : va_G} {cl : List vw_C} {ws w0 w1 : va_W} {H H1 : Heap} (hP : va_P D cl ws H) (hD : va_D A0 ws) (isC : List Nat) (hC : isC.map (fun i => ws[i]?) = w0.map some) (hf : w1.map Prod.fst = w0.map Prod.fst) (hk : ∀ q : Nat, q < H.size → ¬ va_A w0 H.size q → H1[q]? = H[q]?) (hP1 : va_P D cl w1 H1) : va_P D cl (stW ws isC w1) H1 ∧ va_D A0 (stW ws isC w1) := by
  have l0 : isC.length = w0.length := by
    have := congrArg List.length hC
    rw [List.length_map, List.length_map] at this
    exact this
  have l1 : w1.length = w0.length := by
    have := congrArg List.length hf
    rw [List.length_map, List.length_map] at this
    exact this
  constructor
  · refine stW_P isC w1 ws (by rw [l0, l1]) (fun k q hq hn => ?_) hP1
    refine (hP k q hq).kept (hk q.1 (hP k q hq).lt ?_)
    intro ha
    rcases ha with ⟨j, e, hj⟩ | ha
    · have h1 : (isC.map (fun i => ws[i]?))[j]? = some (some (q.1, e)) := by rw [hC, List.getElem?_map, hj]; rfl
      rw [List.getElem?_map] at h1
      cases hi : isC[j]? with
      | none => rw [hi] at h1; cases h1
      | some i =>
        rw [hi] at h1
        have h2 := hD.1 k i q (q.1, e) hq (Option.some.inj h1) rfl
        exact hn (by rw [h2]; exact List.mem_of_getElem? hi)
    · exact absurd (hP k q hq).lt (Nat.not_lt.mpr ha)
  · apply va_D_fst _ hD
    apply stW_fst
    have e1 : isC.map (fun i => (ws.map Prod.fst)[i]?) = (isC.map (fun i => ws[i]?)).map (Option.map Prod.fst) := by
      rw [List.map_map]
      apply List.map_congr_left
      intro i _
      show (ws.map Prod.fst)[i]? = Option.map Prod.fst ws[i]?
      rw [List.getElem?_map]
    rw [e1, hC, List.map_map]
    have e2 : w1.map (fun x => some x.1) = (w1.map Prod.fst).map some := by rw [List.map_map]; rfl
    rw [e2, hf, List.map_map]
    rfl
section LawK
variable {p : Program} {l : Launch} {e : Env} {R : Room} {s : State} {m : MethodId} {args : Array Value} {below : List Frame} {meth : Method} {c : Code} {H : Heap} {locs : List Loc} {cells slots : Nat} {Q : State → Prop} {cc : ByteArray} {pc : Nat} {ls : Array Slot} {rest : List Value} {A : Nat → Prop}
theorem k_goi2 {D : va_G} {cl : List vw_C} {ws : va_W} {tys : List (ClassId × FieldType)} {H0 : Heap} {st0 : List Value} {av : Array Value} {r : Int32} {w0 w1 ws' : va_W} (hr : va_Run p l e R s m args below meth c H locs cells slots 0 0 (F0 m pc ls st0) rest (RI D cl tys r w1 (va_A w0 H.size) av) (va_A w0 H.size)) (hP : va_P D cl ws H) (hD : va_D A ws) (hS : va_S A H0 H locs) (hA : ∀ q, H0.size ≤ q → A q) (isC : List Nat) (hC : isC.map (fun i => ws[i]?) = w0.map some) (hf : w1.map Prod.fst = w0.map Prod.fst) (hset : stW ws isC w1 = ws')
    (kk : ∀ (H1 : Heap) (locs1 : List Loc), va_P D cl ws' H1 → va_D A ws' → va_S A H0 H1 locs1 → W p l e R s m args below meth c H1 locs1 cells slots Q (F0 m (pc + 3) ls (.int r :: rest))) : W p l e R s m args below meth c H locs cells slots Q (F0 m pc ls st0) := by
  have hFc := va_free (wc := w0) hD hS hA isC hC
  refine va_calli hr hS (fun q _ h => hFc q h) hFc (fun r' u t H1 locs1 ht hvm hpost hB hz hk hS1 => ?_)
  obtain ⟨hP1, hK1, hD1⟩ := hB
  rw [ht] at hP1
  obtain ⟨hP', hD'⟩ := k_join2 hP hD isC hC hf hk hP1
  subst hpost
  subst hset
  exact kk H1 locs1 hP' hD' hS1
theorem k_gov2 {D : va_G} {cl : List vw_C} {ws : va_W} {tys : List (ClassId × FieldType)} {H0 : Heap} {st0 : List Value} {av : Array Value} {w0 w1 ws' : va_W} (hr : va_Run p l e R s m args below meth c H locs cells slots 0 0 (F0 m pc ls st0) rest (RV D cl tys w1 (va_A w0 H.size) av) (va_A w0 H.size)) (hP : va_P D cl ws H) (hD : va_D A ws) (hS : va_S A H0 H locs) (hA : ∀ q, H0.size ≤ q → A q) (isC : List Nat) (hC : isC.map (fun i => ws[i]?) = w0.map some) (hf : w1.map Prod.fst = w0.map Prod.fst) (hset : stW ws isC w1 = ws')
    (kk : ∀ (H1 : Heap) (locs1 : List Loc), va_P D cl ws' H1 → va_D A ws' → va_S A H0 H1 locs1 → W p l e R s m args below meth c H1 locs1 cells slots Q (F0 m (pc + 3) ls rest)) : W p l e R s m args below meth c H locs cells slots Q (F0 m pc ls st0) := by
  have hFc := va_free (wc := w0) hD hS hA isC hC
  refine va_callv hr hS (fun q _ h => hFc q h) hFc (fun u t H1 locs1 ht hvm hpost hB hz hk hS1 => ?_)
  obtain ⟨hP1, hK1, hD1⟩ := hB
  rw [ht] at hP1
  obtain ⟨hP', hD'⟩ := k_join2 hP hD isC hC hf hk hP1
  subst hset
  exact kk H1 locs1 hP' hD' hS1
theorem k_sld (hx : p.tables.exec = Jvm.exec) (hb : c.code = cc) {b L : Nat} {xs : Nat → Int32} (hX : va_X b L xs s s.heap) (hbl : b < s.heap.size) (hbA : ¬ A b) (hS : va_S A s.heap H locs) {i : Int32} {k : Nat} (hi : i = nI k) (hk : k < L) (hL : L < 2 ^ 31) (hdg : decode cc pc = .ok (.iaload, 1))
    (kk : W p l e R s m args below meth c H locs cells slots Q (F0 m (pc + 1) ls (.int (xs k) :: rest))) : W p l e R s m args below meth c H locs cells slots Q (F0 m pc ls (.int i :: .ref b :: rest)) := by
  subst hi
  refine va_sld hx hb hX hbl hbA hS (vp_in_nI hk hL) hdg ?_
  rw [nI_clamp (by omega)]
  exact kk
theorem k_slen (hx : p.tables.exec = Jvm.exec) (hb : c.code = cc) {b L : Nat} {xs : Nat → Int32} (hX : va_X b L xs s s.heap) (hbl : b < s.heap.size) (hbA : ¬ A b) (hS : va_S A s.heap H locs) (hdg : decode cc pc = .ok (.arraylength, 1))
    (kk : W p l e R s m args below meth c H locs cells slots Q (F0 m (pc + 1) ls (.int (nI L) :: rest))) : W p l e R s m args below meth c H locs cells slots Q (F0 m pc ls (.ref b :: rest)) := va_slen hx hb hX hbl hbA hS hdg kk
end LawK
section LawL
variable {n hn fq fh bc : Nat} {f g fr to tg hd d ov fo fa xf xt xg fx st fi bs : Nat → Int32} {ye yo xr : Int32}
theorem LI_hgc (I : LI n hn fq fh bc f g fr to tg hd d fo fa xf xt xg fx st fi bs ye yo xr) : ∀ h, h < hn → tg h = nI (tn (tg h)) ∧ tn (tg h) ≤ 32 := fun h hh => ⟨(I.1.2.2.1.2.2.1 h hh).2.2.1, by have := (I.1.2.2.1.2.2.1 h hh).2.2.2; omega⟩
theorem LI_hbr (I : LI n hn fq fh bc f g fr to tg hd d fo fa xf xt xg fx st fi bs ye yo xr) : ∀ h, h < hn → Nn fr h 33 ∧ Nn to h 33 ∧ Nn tg h 33 := I.1.2.2.1.2.2.1
theorem LI_hjm (I : LI n hn fq fh bc f g fr to tg hd d fo fa xf xt xg fx st fi bs ye yo xr) : ∀ i, i < n → ¬ f_MO_jumps (f i) = 0 → g i = nI (tn (g i)) ∧ tn (g i) < 32 := fun i hi hj => I.1.2.2.1.2.1 i hi (by rw [jumps_eq]; exact hj)
theorem LI_hgm (I : LI n hn fq fh bc f g fr to tg hd d fo fa xf xt xg fx st fi bs ye yo xr) : ∀ h, h < hn → hd (3 * h + 2) = nI (tn (hd (3 * h + 2))) ∧ tn (hd (3 * h + 2)) ≤ 32 := fun h hh => by
  rw [(I.1.2.2.1.2.2.2.1 h hh).2.2]
  exact LI_hgc I h hh
theorem opn1_eq (n : Nat) (f : Nat → Int32) (v : Int32) : f_FF_operation n f v = f_MO_operation1 n f v := opn_eq n f v
theorem opd1_eq (n : Nat) (f : Nat → Int32) (v : Int32) : f_FF_operand n f v = f_MO_operand1 n f v := opd_eq n f v
theorem ha0_eq {fr to tg hd : Nat → Int32} {hn : Nat} (hn2 : hn < 2 ^ 31) (hr : ∀ h, h < hn → hd (3 * h) = fr h ∧ hd (3 * h + 1) = to h ∧ hd (3 * h + 2) = tg h) {u v : Int32} : f_FF_handlerAt0 hn fr to tg u v = f_MO_handlerAt0 hn hd u v := by
  unfold f_FF_handlerAt0 f_MO_handlerAt0
  by_cases h1 : u < 0
  · rw [if_pos h1, if_pos h1]
  · rw [if_neg h1, if_neg h1]
    by_cases h2 : nI hn ≤ u
    · have h2' : ¬ u < nI hn := by rw [Int32.lt_iff_toInt_lt]; rw [Int32.le_iff_toInt_le] at h2; omega
      simp only [if_pos h2, if_neg h2']
    · have h2' : u < nI hn := by rw [Int32.lt_iff_toInt_lt]; rw [Int32.le_iff_toInt_le] at h2; omega
      simp only [if_neg h2, if_pos h2']
      obtain ⟨r1, r2, r3⟩ := hr (tn u) (tn_lt h1 hn2 h2)
      by_cases v0 : v = 0
      · subst v0
        rw [if_pos rfl, if_pos (by decide)]
        exact r1.symm
      · rw [if_neg v0]
        by_cases v1 : v = 1
        · subst v1
          rw [if_pos rfl, if_pos (by decide)]
          exact r2.symm
        · rw [if_neg v1]
          by_cases v2 : v = 2
          · subst v2
            rw [if_pos rfl, if_pos (by decide)]
            exact r3.symm
          · rw [if_neg v2, if_neg]
            intro ho
            obtain ⟨q1, q2⟩ := out_n (v := v) (k := 2) (by decide) ho
            have : tn v = 0 ∨ tn v = 1 ∨ tn v = 2 := by omega
            rcases this with e | e | e
            · exact v0 (by rw [q1, e]; rfl)
            · exact v1 (by rw [q1, e]; rfl)
            · exact v2 (by rw [q1, e]; rfl)
theorem ha1_eq {fr to tg hd : Nat → Int32} {hn : Nat} (hn2 : hn < 2 ^ 31) (hr : ∀ h, h < hn → hd (3 * h) = fr h ∧ hd (3 * h + 1) = to h ∧ hd (3 * h + 2) = tg h) {u v : Int32} : f_FF_handlerAt1 hn fr to tg u v = f_MO_handlerAt1 hn hd u v := ha0_eq hn2 hr
theorem LI_J1 (I : LI n hn fq fh bc f g fr to tg hd d fo fa xf xt xg fx st fi bs ye yo xr) : ∃ Jv, 0 < fq → JP fq fh bc fo fa fx st fi Jv ∧ ∀ lo sk, Jv lo sk 0 (nI 0) := by
  by_cases h : 0 < fq
  · obtain ⟨Jv, h1⟩ := I.2.1.2.2.2.2.2 h
    exact ⟨Jv, fun _ => h1⟩
  · exact ⟨fun _ _ _ _ => False, fun h2 => absurd h2 h⟩
theorem fine_ck (I : LI n hn fq fh bc f g fr to tg hd d fo fa xf xt xg fx st fi bs ye yo xr) (h : ¬ (f_FF_originalIsFine n hn f g fr to tg d ov).1 = 0) : (f_MO_check n hn f g hd d ov).1 = 0 := by
  obtain ⟨e1, e2⟩ := fine_eq (g := g) (ov := ov) I.1.1 I.1.2.2.1.1 I.1.2.2.1.2.2.2.1 I.1.2.2.2
  exact Classical.byContradiction (fun h9 => h (e2.mpr h9))
theorem r0_J (I : LI n hn fq fh bc f g fr to tg hd d fo fa xf xt xg fx st fi bs ye yo xr) (h : ¬ (f_FF_originalIsFine n hn f g fr to tg d ov).1 = 0) : ∀ lo sk tq ya, JO n (f_MO_check n hn f g hd d ov).2.1 lo sk tq ya → ¬ f_CO_hasI n ya = 0 → SafeM f g tq ya := fun lo sk tq ya j _ => ((LI_J0 I (fine_ck I h)).1.1 lo sk tq ya j).2.2.2.1
theorem r0_Js (I : LI n hn fq fh bc f g fr to tg hd d fo fa xf xt xg fx st fi bs ye yo xr) (h : ¬ (f_FF_originalIsFine n hn f g fr to tg d ov).1 = 0) : ∀ ye yo lo ke sk tq ya em, ye = 0 → JO n (f_MO_check n hn f g hd d ov).2.1 lo sk tq ya → ¬ f_CO_hasI n ya = 0 → (f_MA_goThrough ye yo hn bc tq em ya lo ke sk f g fr to tg st fi).2.2.2.2.2.2.1 = 0 → JO n (f_MO_check n hn f g hd d ov).2.1 (f_MA_goThrough ye yo hn bc tq em ya lo ke sk f g fr to tg st fi).1 (f_MA_goThrough ye yo hn bc tq em ya lo ke sk f g fr to tg st fi).2.2.1 (f_MA_goThrough ye yo hn bc tq em ya lo ke sk f g fr to tg st fi).2.2.2.1 (f_MA_goThrough ye yo hn bc tq em ya lo ke sk f g fr to tg st fi).2.2.2.2.1 :=
  JP_M (by have := I.1.2.1; omega) I.2.1.2.2.1 I.1.2.2.1.2.2.2.1 (LI_tg I) (LI_J0 I (fine_ck I h)).1
theorem r0_J0 (I : LI n hn fq fh bc f g fr to tg hd d fo fa xf xt xg fx st fi bs ye yo xr) (lo : Nat → Int32) (h : ¬ (f_FF_originalIsFine n hn f g fr to tg d ov).1 = 0) : ∀ sk, JO n (f_MO_check n hn f g hd d ov).2.1 lo sk 0 (nI 0) := fun sk => (LI_J0 I (fine_ck I h)).2 lo sk
theorem r0_RJ (I : LI n hn fq fh bc f g fr to tg hd d fo fa xf xt xg fx st fi bs ye yo xr) (h : (f_MO_check n hn f g hd d ov).1 = 0) : ∀ lo sk tq ya, JO n (f_MO_check n hn f g hd d ov).2.1 lo sk tq ya → SafeR n bc f g sk st tq ya := fun lo sk tq ya j => ((LI_J0 (bc := bc) (st := st) I h).1.1 lo sk tq ya j).2.2.2.2
theorem r0_RJs (I : LI n hn fq fh bc f g fr to tg hd d fo fa xf xt xg fx st fi bs ye yo xr) (h : (f_MO_check n hn f g hd d ov).1 = 0) : ∀ xe xr lo ke sk tq ya em, xe = 0 → JO n (f_MO_check n hn f g hd d ov).2.1 lo sk tq ya → (f_MO_step0 xe xr hn tq em bc ya f g hd lo ke sk st fi).2.2.2.2.2.2.1 = 0 → JO n (f_MO_check n hn f g hd d ov).2.1 (f_MO_step0 xe xr hn tq em bc ya f g hd lo ke sk st fi).1 (f_MO_step0 xe xr hn tq em bc ya f g hd lo ke sk st fi).2.2.1 (f_MO_step0 xe xr hn tq em bc ya f g hd lo ke sk st fi).2.2.2.1 (f_MO_step0 xe xr hn tq em bc ya f g hd lo ke sk st fi).2.2.2.2.1 := (LI_J0 I h).1.2
theorem r0_RJ0 (I : LI n hn fq fh bc f g fr to tg hd d fo fa xf xt xg fx st fi bs ye yo xr) (lo : Nat → Int32) (h : (f_MO_check n hn f g hd d ov).1 = 0) : ∀ sk, JO n (f_MO_check n hn f g hd d ov).2.1 lo sk 0 (nI 0) := fun sk => (LI_J0 I h).2 lo sk
theorem r1_RJs {Jv : (Nat → Int32) → (Nat → Int32) → Nat → Int32 → Prop} (P : JP fq fh bc fo fa fx st fi Jv) : ∀ xe xr lo ke sk tq ya em, xe = 0 → Jv lo sk tq ya → (f_MO_step1 xe xr fh tq em bc ya fo fa fx lo ke sk st fi).2.2.2.2.2.2.1 = 0 → Jv (f_MO_step1 xe xr fh tq em bc ya fo fa fx lo ke sk st fi).1 (f_MO_step1 xe xr fh tq em bc ya fo fa fx lo ke sk st fi).2.2.1 (f_MO_step1 xe xr fh tq em bc ya fo fa fx lo ke sk st fi).2.2.2.1 (f_MO_step1 xe xr fh tq em bc ya fo fa fx lo ke sk st fi).2.2.2.2.1 := by
  intro xe xr lo ke sk tq ya em h1 h2 h3
  rw [st_01] at h3 ⊢
  exact P.2 xe xr lo ke sk tq ya em h1 h2 h3
end LawL
def LWs (cI cZ : ClassId) (x oc oc_ops oc_opd oc_fr oc_to oc_tg k k_d k_o we fc fc_ops fc_opd fc_fr fc_to fc_tg bl bl_le bl_he bl_st bl_fi bl_be bl_by bl_sa bl_mk dq ma ma_lo ma_ke ma_sk q_st a q_op q_arg q_handler q_depth q_over q_flatOp q_flatArg q_flatHandler q_leader q_last q_height q_state q_begin q_drawn q_order q_starters q_emitted q_locals q_stack : Nat) (n hn fq fh bc : Nat) (gg y_top y_at y_wu y_tk y_ec ye yo g2 xr x_top x_at : Int32) (f g fr to tg d ov fo fa xf xt xg le he st fi be bs sa mk lo ke sk sr hd fx la dw od : Nat → Int32) : va_W := [(x, .inr (0, [.ref oc, .ref k, .ref we, .ref ma, .ref q_st])), (oc, .inr (1, [.ref oc_ops, .ref oc_opd, .ref oc_fr, .ref oc_to, .ref oc_tg, .int (nI n), .int (nI hn)])), (oc_ops, .inl (cI, 32, .inl f)), (oc_opd, .inl (cI, 32, .inl g)), (oc_fr, .inl (cI, 3, .inl fr)), (oc_to, .inl (cI, 3, .inl to)), (oc_tg, .inl (cI, 3, .inl tg)), (k, .inr (2, [.ref k_d, .ref k_o])), (k_d, .inl (cI, 32, .inl d)), (k_o, .inl (cZ, 32, .inl ov)), (we, .inr (5, [.ref fc, .ref bl, .ref dq])), (fc, .inr (1, [.ref fc_ops, .ref fc_opd, .ref fc_fr, .ref fc_to, .ref fc_tg, .int (nI fq), .int (nI fh)])), (fc_ops, .inl (cI, 1328, .inl fo)), (fc_opd, .inl (cI, 1328, .inl fa)), (fc_fr, .inl (cI, 96, .inl xf)), (fc_to, .inl (cI, 96, .inl xt)), (fc_tg, .inl (cI, 96, .inl xg)), (bl, .inr (4, [.ref bl_le, .ref bl_he, .ref bl_st, .ref bl_fi, .ref bl_be, .ref bl_by, .ref bl_sa, .ref bl_mk, .int (nI bc)])), (bl_le, .inl (cI, 32, .inl le)), (bl_he, .inl (cI, 32, .inl he)), (bl_st, .inl (cI, 32, .inl st)), (bl_fi, .inl (cI, 32, .inl fi)), (bl_be, .inl (cI, 32, .inl be)), (bl_by, .inl (cI, 32, .inl bs)), (bl_sa, .inl (cI, 32, .inl sa)), (bl_mk, .inl (cZ, 33, .inl mk)), (dq, .inr (3, [.int gg])), (ma, .inr (6, [.ref ma_lo, .ref ma_ke, .ref ma_sk, .int y_top, .int y_at, .int y_wu, .int y_tk, .int y_ec, .int ye, .int yo])), (ma_lo, .inl (cI, 9, .inl lo)), (ma_ke, .inl (cI, 40, .inl ke)), (ma_sk, .inl (cI, 7, .inl sk)), (q_st, .inl (cI, 4, .inl sr)), (a, .inr (7, [.int (nI n), .ref q_op, .ref q_arg, .int (nI hn), .ref q_handler, .ref q_depth, .ref q_over, .int (nI fq), .ref q_flatOp, .ref q_flatArg, .int (nI fh), .ref q_flatHandler, .int (nI bc), .ref q_leader, .ref q_last, .ref q_height, .ref q_state, .ref q_begin, .ref q_drawn, .ref q_order, .int g2, .ref q_starters, .int y_wu, .int ye, .int xr, .int y_tk, .int y_ec, .ref q_emitted, .ref q_locals, .ref q_stack, .int x_top, .int x_at])), (q_op, .inl (cI, 32, .inl f)), (q_arg, .inl (cI, 32, .inl g)), (q_handler, .inl (cI, 9, .inl hd)), (q_depth, .inl (cI, 32, .inl d)), (q_over, .inl (cZ, 32, .inl ov)), (q_flatOp, .inl (cI, 1600, .inl fo)), (q_flatArg, .inl (cI, 1600, .inl fa)), (q_flatHandler, .inl (cI, 288, .inl fx)), (q_leader, .inl (cI, 32, .inl le)), (q_last, .inl (cI, 32, .inl la)), (q_height, .inl (cI, 32, .inl he)), (q_state, .inl (cI, 32, .inl st)), (q_begin, .inl (cI, 32, .inl fi)), (q_drawn, .inl (cI, 128, .inl dw)), (q_order, .inl (cI, 32, .inl od)), (q_starters, .inl (cI, 4, .inl sr)), (q_emitted, .inl (cI, 40, .inl ke)), (q_locals, .inl (cI, 9, .inl lo)), (q_stack, .inl (cI, 24, .inl sk))]
def KKp (p : Program) (l : Launch) (e : Env) (s : State) (m : MethodId) (below : List Frame) (meth : Method) (c : Code) (D : va_G) (cI cZ : ClassId) (A : Nat → Prop) (b i : Nat) (x oc oc_ops oc_opd oc_fr oc_to oc_tg k k_d k_o we fc fc_ops fc_opd fc_fr fc_to fc_tg bl bl_le bl_he bl_st bl_fi bl_be bl_by bl_sa bl_mk dq ma ma_lo ma_ke ma_sk q_st a q_op q_arg q_handler q_depth q_over q_flatOp q_flatArg q_flatHandler q_leader q_last q_height q_state q_begin q_drawn q_order q_starters q_emitted q_locals q_stack : Nat) : Prop := ∀ (n hn fq fh bc : Nat) (gg y_top y_at y_wu y_tk y_ec ye yo g2 xr x_top x_at : Int32) (f g fr to tg d ov fo fa xf xt xg le he st fi be bs sa mk lo ke sk sr hd fx la dw od : Nat → Int32), LI n hn fq fh bc f g fr to tg hd d fo fa xf xt xg fx st fi bs ye yo xr → ∀ (ls : Array Slot) (H : Heap) (locs : List Loc), lv_has ls 4 [(0, .ref b), (1, .ref x), (2, .ref a), (3, .int (nI i))] → va_P D classes (LWs cI cZ x oc oc_ops oc_opd oc_fr oc_to oc_tg k k_d k_o we fc fc_ops fc_opd fc_fr fc_to fc_tg bl bl_le bl_he bl_st bl_fi bl_be bl_by bl_sa bl_mk dq ma ma_lo ma_ke ma_sk q_st a q_op q_arg q_handler q_depth q_over q_flatOp q_flatArg q_flatHandler q_leader q_last q_height q_state q_begin q_drawn q_order q_starters q_emitted q_locals q_stack n hn fq fh bc gg y_top y_at y_wu y_tk y_ec ye yo g2 xr x_top x_at f g fr to tg d ov fo fa xf xt xg le he st fi be bs sa mk lo ke sk sr hd fx la dw od) H → va_D A (LWs cI cZ x oc oc_ops oc_opd oc_fr oc_to oc_tg k k_d k_o we fc fc_ops fc_opd fc_fr fc_to fc_tg bl bl_le bl_he bl_st bl_fi bl_be bl_by bl_sa bl_mk dq ma ma_lo ma_ke ma_sk q_st a q_op q_arg q_handler q_depth q_over q_flatOp q_flatArg q_flatHandler q_leader q_last q_height q_state q_begin q_drawn q_order q_starters q_emitted q_locals q_stack n hn fq fh bc gg y_top y_at y_wu y_tk y_ec ye yo g2 xr x_top x_at f g fr to tg d ov fo fa xf xt xg le he st fi be bs sa mk lo ke sk sr hd fx la dw od) → va_S A s.heap H locs → W p l e room_1 s m #[Value.ref b] below meth c H locs 600000 7302250 (lw_Z below #[Value.ref b] s) (F0 m 679 ls [])
theorem d_LA_law_0 : decode code 0 = .ok (.new 7, 3) := by decide +kernel
theorem d_LA_law_3 : decode code 3 = .ok (.dup, 1) := by decide +kernel
theorem d_LA_law_4 : decode code 4 = .ok (.invokespecial 9, 3) := by decide +kernel
theorem d_LA_law_7 : decode code 7 = .ok (.astore_n 1, 1) := by decide +kernel
theorem d_LA_law_8 : decode code 8 = .ok (.new 10, 3) := by decide +kernel
theorem d_LA_law_11 : decode code 11 = .ok (.dup, 1) := by decide +kernel
theorem d_LA_law_12 : decode code 12 = .ok (.invokespecial 12, 3) := by decide +kernel
theorem d_LA_law_15 : decode code 15 = .ok (.astore_n 2, 1) := by decide +kernel
theorem d_LA_law_16 : decode code 16 = .ok (.iconst 0, 1) := by decide +kernel
theorem d_LA_law_17 : decode code 17 = .ok (.istore_n 3, 1) := by decide +kernel
theorem d_LA_law_18 : decode code 18 = .ok (.iload_n 3, 1) := by decide +kernel
theorem d_LA_law_19 : decode code 19 = .ok (.aload_n 0, 1) := by decide +kernel
theorem d_LA_law_20 : decode code 20 = .ok (.arraylength, 1) := by decide +kernel
theorem d_LA_law_21 : decode code 21 = .ok (.iconst 4, 1) := by decide +kernel
theorem d_LA_law_22 : decode code 22 = .ok (.isub, 1) := by decide +kernel
theorem d_LA_law_23 : decode code 23 = .ok (.if_icmp .gt 662, 3) := by decide +kernel
theorem d_LA_law_26 : decode code 26 = .ok (.aload_n 0, 1) := by decide +kernel
theorem d_LA_law_27 : decode code 27 = .ok (.iload_n 3, 1) := by decide +kernel
theorem d_LA_law_28 : decode code 28 = .ok (.iaload, 1) := by decide +kernel
theorem d_LA_law_29 : decode code 29 = .ok (.bipush 31, 2) := by decide +kernel
theorem d_LA_law_31 : decode code 31 = .ok (.iand, 1) := by decide +kernel
theorem d_LA_law_32 : decode code 32 = .ok (.tableswitch 647 0 18 #[92, 103, 136, 179, 192, 215, 238, 277, 326, 375, 434, 447, 480, 513, 562, 575, 588, 601, 624], 92) := by decide +kernel
theorem d_LA_law_124 : decode code 124 = .ok (.aload_n 1, 1) := by decide +kernel
theorem d_LA_law_125 : decode code 125 = .ok (.invokevirtual 13, 3) := by decide +kernel
theorem d_LA_law_128 : decode code 128 = .ok (.aload_n 2, 1) := by decide +kernel
theorem d_LA_law_129 : decode code 129 = .ok (.invokevirtual 16, 3) := by decide +kernel
theorem d_LA_law_132 : decode code 132 = .ok (.goto 547, 3) := by decide +kernel
theorem d_LA_law_135 : decode code 135 = .ok (.aload_n 1, 1) := by decide +kernel
theorem d_LA_law_136 : decode code 136 = .ok (.aload_n 0, 1) := by decide +kernel
theorem d_LA_law_137 : decode code 137 = .ok (.iload_n 3, 1) := by decide +kernel
theorem d_LA_law_138 : decode code 138 = .ok (.iconst 1, 1) := by decide +kernel
theorem d_LA_law_139 : decode code 139 = .ok (.iadd, 1) := by decide +kernel
theorem d_LA_law_140 : decode code 140 = .ok (.iaload, 1) := by decide +kernel
theorem d_LA_law_141 : decode code 141 = .ok (.aload_n 0, 1) := by decide +kernel
theorem d_LA_law_142 : decode code 142 = .ok (.iload_n 3, 1) := by decide +kernel
theorem d_LA_law_143 : decode code 143 = .ok (.iconst 2, 1) := by decide +kernel
theorem d_LA_law_144 : decode code 144 = .ok (.iadd, 1) := by decide +kernel
theorem d_LA_law_145 : decode code 145 = .ok (.iaload, 1) := by decide +kernel
theorem d_LA_law_146 : decode code 146 = .ok (.invokevirtual 17, 3) := by decide +kernel
theorem d_LA_law_149 : decode code 149 = .ok (.aload_n 2, 1) := by decide +kernel
theorem d_LA_law_150 : decode code 150 = .ok (.aload_n 0, 1) := by decide +kernel
theorem d_LA_law_151 : decode code 151 = .ok (.iload_n 3, 1) := by decide +kernel
theorem d_LA_law_152 : decode code 152 = .ok (.iconst 1, 1) := by decide +kernel
theorem d_LA_law_153 : decode code 153 = .ok (.iadd, 1) := by decide +kernel
theorem d_LA_law_154 : decode code 154 = .ok (.iaload, 1) := by decide +kernel
theorem d_LA_law_155 : decode code 155 = .ok (.aload_n 0, 1) := by decide +kernel
theorem d_LA_law_156 : decode code 156 = .ok (.iload_n 3, 1) := by decide +kernel
theorem d_LA_law_157 : decode code 157 = .ok (.iconst 2, 1) := by decide +kernel
theorem d_LA_law_158 : decode code 158 = .ok (.iadd, 1) := by decide +kernel
theorem d_LA_law_159 : decode code 159 = .ok (.iaload, 1) := by decide +kernel
theorem d_LA_law_160 : decode code 160 = .ok (.invokevirtual 21, 3) := by decide +kernel
theorem d_LA_law_163 : decode code 163 = .ok (.if_icmp .eq 516, 3) := by decide +kernel
theorem d_LA_law_166 : decode code 166 = .ok (.iconst 0, 1) := by decide +kernel
theorem d_LA_law_167 : decode code 167 = .ok (.ireturn, 1) := by decide +kernel
theorem d_LA_law_168 : decode code 168 = .ok (.aload_n 1, 1) := by decide +kernel
theorem d_LA_law_169 : decode code 169 = .ok (.aload_n 0, 1) := by decide +kernel
theorem d_LA_law_170 : decode code 170 = .ok (.iload_n 3, 1) := by decide +kernel
theorem d_LA_law_171 : decode code 171 = .ok (.iconst 1, 1) := by decide +kernel
theorem d_LA_law_172 : decode code 172 = .ok (.iadd, 1) := by decide +kernel
theorem d_LA_law_173 : decode code 173 = .ok (.iaload, 1) := by decide +kernel
theorem d_LA_law_174 : decode code 174 = .ok (.aload_n 0, 1) := by decide +kernel
theorem d_LA_law_175 : decode code 175 = .ok (.iload_n 3, 1) := by decide +kernel
theorem d_LA_law_176 : decode code 176 = .ok (.iconst 2, 1) := by decide +kernel
theorem d_LA_law_177 : decode code 177 = .ok (.iadd, 1) := by decide +kernel
theorem d_LA_law_178 : decode code 178 = .ok (.iaload, 1) := by decide +kernel
theorem d_LA_law_179 : decode code 179 = .ok (.aload_n 0, 1) := by decide +kernel
theorem d_LA_law_180 : decode code 180 = .ok (.iload_n 3, 1) := by decide +kernel
theorem d_LA_law_181 : decode code 181 = .ok (.iconst 3, 1) := by decide +kernel
theorem d_LA_law_182 : decode code 182 = .ok (.iadd, 1) := by decide +kernel
theorem d_LA_law_183 : decode code 183 = .ok (.iaload, 1) := by decide +kernel
theorem d_LA_law_184 : decode code 184 = .ok (.invokevirtual 22, 3) := by decide +kernel
theorem d_LA_law_187 : decode code 187 = .ok (.aload_n 2, 1) := by decide +kernel
theorem d_LA_law_188 : decode code 188 = .ok (.aload_n 0, 1) := by decide +kernel
theorem d_LA_law_189 : decode code 189 = .ok (.iload_n 3, 1) := by decide +kernel
theorem d_LA_law_190 : decode code 190 = .ok (.iconst 1, 1) := by decide +kernel
theorem d_LA_law_191 : decode code 191 = .ok (.iadd, 1) := by decide +kernel
theorem d_LA_law_192 : decode code 192 = .ok (.iaload, 1) := by decide +kernel
theorem d_LA_law_193 : decode code 193 = .ok (.aload_n 0, 1) := by decide +kernel
theorem d_LA_law_194 : decode code 194 = .ok (.iload_n 3, 1) := by decide +kernel
theorem d_LA_law_195 : decode code 195 = .ok (.iconst 2, 1) := by decide +kernel
theorem d_LA_law_196 : decode code 196 = .ok (.iadd, 1) := by decide +kernel
theorem d_LA_law_197 : decode code 197 = .ok (.iaload, 1) := by decide +kernel
theorem d_LA_law_198 : decode code 198 = .ok (.aload_n 0, 1) := by decide +kernel
theorem d_LA_law_199 : decode code 199 = .ok (.iload_n 3, 1) := by decide +kernel
theorem d_LA_law_200 : decode code 200 = .ok (.iconst 3, 1) := by decide +kernel
theorem d_LA_law_201 : decode code 201 = .ok (.iadd, 1) := by decide +kernel
theorem d_LA_law_202 : decode code 202 = .ok (.iaload, 1) := by decide +kernel
theorem d_LA_law_203 : decode code 203 = .ok (.invokevirtual 26, 3) := by decide +kernel
theorem d_LA_law_206 : decode code 206 = .ok (.if_icmp .eq 473, 3) := by decide +kernel
theorem d_LA_law_209 : decode code 209 = .ok (.iconst 0, 1) := by decide +kernel
theorem d_LA_law_210 : decode code 210 = .ok (.ireturn, 1) := by decide +kernel
theorem d_LA_law_211 : decode code 211 = .ok (.aload_n 1, 1) := by decide +kernel
theorem d_LA_law_212 : decode code 212 = .ok (.invokevirtual 27, 3) := by decide +kernel
theorem d_LA_law_215 : decode code 215 = .ok (.aload_n 2, 1) := by decide +kernel
theorem d_LA_law_216 : decode code 216 = .ok (.invokevirtual 31, 3) := by decide +kernel
theorem d_LA_law_219 : decode code 219 = .ok (.if_icmp .eq 460, 3) := by decide +kernel
theorem d_LA_law_222 : decode code 222 = .ok (.iconst 0, 1) := by decide +kernel
theorem d_LA_law_223 : decode code 223 = .ok (.ireturn, 1) := by decide +kernel
theorem d_LA_law_224 : decode code 224 = .ok (.aload_n 1, 1) := by decide +kernel
theorem d_LA_law_225 : decode code 225 = .ok (.aload_n 0, 1) := by decide +kernel
theorem d_LA_law_226 : decode code 226 = .ok (.iload_n 3, 1) := by decide +kernel
theorem d_LA_law_227 : decode code 227 = .ok (.iconst 1, 1) := by decide +kernel
theorem d_LA_law_228 : decode code 228 = .ok (.iadd, 1) := by decide +kernel
theorem d_LA_law_229 : decode code 229 = .ok (.iaload, 1) := by decide +kernel
theorem d_LA_law_230 : decode code 230 = .ok (.invokevirtual 32, 3) := by decide +kernel
theorem d_LA_law_233 : decode code 233 = .ok (.aload_n 2, 1) := by decide +kernel
theorem d_LA_law_234 : decode code 234 = .ok (.aload_n 0, 1) := by decide +kernel
theorem d_LA_law_235 : decode code 235 = .ok (.iload_n 3, 1) := by decide +kernel
theorem d_LA_law_236 : decode code 236 = .ok (.iconst 1, 1) := by decide +kernel
theorem d_LA_law_237 : decode code 237 = .ok (.iadd, 1) := by decide +kernel
theorem d_LA_law_238 : decode code 238 = .ok (.iaload, 1) := by decide +kernel
theorem d_LA_law_239 : decode code 239 = .ok (.invokevirtual 36, 3) := by decide +kernel
theorem d_LA_law_242 : decode code 242 = .ok (.if_icmp .eq 437, 3) := by decide +kernel
theorem d_LA_law_245 : decode code 245 = .ok (.iconst 0, 1) := by decide +kernel
theorem d_LA_law_246 : decode code 246 = .ok (.ireturn, 1) := by decide +kernel
theorem d_LA_law_247 : decode code 247 = .ok (.aload_n 1, 1) := by decide +kernel
theorem d_LA_law_248 : decode code 248 = .ok (.aload_n 0, 1) := by decide +kernel
theorem d_LA_law_249 : decode code 249 = .ok (.iload_n 3, 1) := by decide +kernel
theorem d_LA_law_250 : decode code 250 = .ok (.iconst 1, 1) := by decide +kernel
theorem d_LA_law_251 : decode code 251 = .ok (.iadd, 1) := by decide +kernel
theorem d_LA_law_252 : decode code 252 = .ok (.iaload, 1) := by decide +kernel
theorem d_LA_law_253 : decode code 253 = .ok (.invokevirtual 37, 3) := by decide +kernel
theorem d_LA_law_256 : decode code 256 = .ok (.aload_n 2, 1) := by decide +kernel
theorem d_LA_law_257 : decode code 257 = .ok (.aload_n 0, 1) := by decide +kernel
theorem d_LA_law_258 : decode code 258 = .ok (.iload_n 3, 1) := by decide +kernel
theorem d_LA_law_259 : decode code 259 = .ok (.iconst 1, 1) := by decide +kernel
theorem d_LA_law_260 : decode code 260 = .ok (.iadd, 1) := by decide +kernel
theorem d_LA_law_261 : decode code 261 = .ok (.iaload, 1) := by decide +kernel
theorem d_LA_law_262 : decode code 262 = .ok (.invokevirtual 40, 3) := by decide +kernel
theorem d_LA_law_265 : decode code 265 = .ok (.if_icmp .eq 414, 3) := by decide +kernel
theorem d_LA_law_268 : decode code 268 = .ok (.iconst 0, 1) := by decide +kernel
theorem d_LA_law_269 : decode code 269 = .ok (.ireturn, 1) := by decide +kernel
theorem d_LA_law_270 : decode code 270 = .ok (.aload_n 1, 1) := by decide +kernel
theorem d_LA_law_271 : decode code 271 = .ok (.aload_n 0, 1) := by decide +kernel
theorem d_LA_law_272 : decode code 272 = .ok (.iload_n 3, 1) := by decide +kernel
theorem d_LA_law_273 : decode code 273 = .ok (.iconst 1, 1) := by decide +kernel
theorem d_LA_law_274 : decode code 274 = .ok (.iadd, 1) := by decide +kernel
theorem d_LA_law_275 : decode code 275 = .ok (.iaload, 1) := by decide +kernel
theorem d_LA_law_276 : decode code 276 = .ok (.ifCond .eq 7, 3) := by decide +kernel
theorem d_LA_law_279 : decode code 279 = .ok (.iconst 1, 1) := by decide +kernel
theorem d_LA_law_280 : decode code 280 = .ok (.goto 4, 3) := by decide +kernel
theorem d_LA_law_283 : decode code 283 = .ok (.iconst 0, 1) := by decide +kernel
theorem d_LA_law_284 : decode code 284 = .ok (.invokevirtual 41, 3) := by decide +kernel
theorem d_LA_law_287 : decode code 287 = .ok (.aload_n 2, 1) := by decide +kernel
theorem d_LA_law_288 : decode code 288 = .ok (.aload_n 0, 1) := by decide +kernel
theorem d_LA_law_289 : decode code 289 = .ok (.iload_n 3, 1) := by decide +kernel
theorem d_LA_law_290 : decode code 290 = .ok (.iconst 1, 1) := by decide +kernel
theorem d_LA_law_291 : decode code 291 = .ok (.iadd, 1) := by decide +kernel
theorem d_LA_law_292 : decode code 292 = .ok (.iaload, 1) := by decide +kernel
theorem d_LA_law_293 : decode code 293 = .ok (.ifCond .eq 7, 3) := by decide +kernel
theorem d_LA_law_296 : decode code 296 = .ok (.iconst 1, 1) := by decide +kernel
theorem d_LA_law_297 : decode code 297 = .ok (.goto 4, 3) := by decide +kernel
theorem d_LA_law_300 : decode code 300 = .ok (.iconst 0, 1) := by decide +kernel
theorem d_LA_law_301 : decode code 301 = .ok (.invokevirtual 45, 3) := by decide +kernel
theorem d_LA_law_304 : decode code 304 = .ok (.if_icmp .eq 375, 3) := by decide +kernel
theorem d_LA_law_307 : decode code 307 = .ok (.iconst 0, 1) := by decide +kernel
theorem d_LA_law_308 : decode code 308 = .ok (.ireturn, 1) := by decide +kernel
theorem d_LA_law_309 : decode code 309 = .ok (.aload_n 1, 1) := by decide +kernel
theorem d_LA_law_310 : decode code 310 = .ok (.aload_n 0, 1) := by decide +kernel
theorem d_LA_law_311 : decode code 311 = .ok (.iload_n 3, 1) := by decide +kernel
theorem d_LA_law_312 : decode code 312 = .ok (.iconst 1, 1) := by decide +kernel
theorem d_LA_law_313 : decode code 313 = .ok (.iadd, 1) := by decide +kernel
theorem d_LA_law_314 : decode code 314 = .ok (.iaload, 1) := by decide +kernel
theorem d_LA_law_315 : decode code 315 = .ok (.ifCond .eq 7, 3) := by decide +kernel
theorem d_LA_law_318 : decode code 318 = .ok (.iconst 1, 1) := by decide +kernel
theorem d_LA_law_319 : decode code 319 = .ok (.goto 4, 3) := by decide +kernel
theorem d_LA_law_322 : decode code 322 = .ok (.iconst 0, 1) := by decide +kernel
theorem d_LA_law_323 : decode code 323 = .ok (.aload_n 0, 1) := by decide +kernel
theorem d_LA_law_324 : decode code 324 = .ok (.iload_n 3, 1) := by decide +kernel
theorem d_LA_law_325 : decode code 325 = .ok (.iconst 2, 1) := by decide +kernel
theorem d_LA_law_326 : decode code 326 = .ok (.iadd, 1) := by decide +kernel
theorem d_LA_law_327 : decode code 327 = .ok (.iaload, 1) := by decide +kernel
theorem d_LA_law_328 : decode code 328 = .ok (.invokevirtual 46, 3) := by decide +kernel
theorem d_LA_law_331 : decode code 331 = .ok (.aload_n 2, 1) := by decide +kernel
theorem d_LA_law_332 : decode code 332 = .ok (.aload_n 0, 1) := by decide +kernel
theorem d_LA_law_333 : decode code 333 = .ok (.iload_n 3, 1) := by decide +kernel
theorem d_LA_law_334 : decode code 334 = .ok (.iconst 1, 1) := by decide +kernel
theorem d_LA_law_335 : decode code 335 = .ok (.iadd, 1) := by decide +kernel
theorem d_LA_law_336 : decode code 336 = .ok (.iaload, 1) := by decide +kernel
theorem d_LA_law_337 : decode code 337 = .ok (.ifCond .eq 7, 3) := by decide +kernel
theorem d_LA_law_340 : decode code 340 = .ok (.iconst 1, 1) := by decide +kernel
theorem d_LA_law_341 : decode code 341 = .ok (.goto 4, 3) := by decide +kernel
theorem d_LA_law_344 : decode code 344 = .ok (.iconst 0, 1) := by decide +kernel
theorem d_LA_law_345 : decode code 345 = .ok (.aload_n 0, 1) := by decide +kernel
theorem d_LA_law_346 : decode code 346 = .ok (.iload_n 3, 1) := by decide +kernel
theorem d_LA_law_347 : decode code 347 = .ok (.iconst 2, 1) := by decide +kernel
theorem d_LA_law_348 : decode code 348 = .ok (.iadd, 1) := by decide +kernel
theorem d_LA_law_349 : decode code 349 = .ok (.iaload, 1) := by decide +kernel
theorem d_LA_law_350 : decode code 350 = .ok (.invokevirtual 50, 3) := by decide +kernel
theorem d_LA_law_353 : decode code 353 = .ok (.if_icmp .eq 326, 3) := by decide +kernel
theorem d_LA_law_356 : decode code 356 = .ok (.iconst 0, 1) := by decide +kernel
theorem d_LA_law_357 : decode code 357 = .ok (.ireturn, 1) := by decide +kernel
theorem d_LA_law_358 : decode code 358 = .ok (.aload_n 1, 1) := by decide +kernel
theorem d_LA_law_359 : decode code 359 = .ok (.aload_n 0, 1) := by decide +kernel
theorem d_LA_law_360 : decode code 360 = .ok (.iload_n 3, 1) := by decide +kernel
theorem d_LA_law_361 : decode code 361 = .ok (.iconst 1, 1) := by decide +kernel
theorem d_LA_law_362 : decode code 362 = .ok (.iadd, 1) := by decide +kernel
theorem d_LA_law_363 : decode code 363 = .ok (.iaload, 1) := by decide +kernel
theorem d_LA_law_364 : decode code 364 = .ok (.ifCond .eq 7, 3) := by decide +kernel
theorem d_LA_law_367 : decode code 367 = .ok (.iconst 1, 1) := by decide +kernel
theorem d_LA_law_368 : decode code 368 = .ok (.goto 4, 3) := by decide +kernel
theorem d_LA_law_371 : decode code 371 = .ok (.iconst 0, 1) := by decide +kernel
theorem d_LA_law_372 : decode code 372 = .ok (.aload_n 0, 1) := by decide +kernel
theorem d_LA_law_373 : decode code 373 = .ok (.iload_n 3, 1) := by decide +kernel
theorem d_LA_law_374 : decode code 374 = .ok (.iconst 2, 1) := by decide +kernel
theorem d_LA_law_375 : decode code 375 = .ok (.iadd, 1) := by decide +kernel
theorem d_LA_law_376 : decode code 376 = .ok (.iaload, 1) := by decide +kernel
theorem d_LA_law_377 : decode code 377 = .ok (.invokevirtual 51, 3) := by decide +kernel
theorem d_LA_law_380 : decode code 380 = .ok (.aload_n 2, 1) := by decide +kernel
theorem d_LA_law_381 : decode code 381 = .ok (.aload_n 0, 1) := by decide +kernel
theorem d_LA_law_382 : decode code 382 = .ok (.iload_n 3, 1) := by decide +kernel
theorem d_LA_law_383 : decode code 383 = .ok (.iconst 1, 1) := by decide +kernel
theorem d_LA_law_384 : decode code 384 = .ok (.iadd, 1) := by decide +kernel
theorem d_LA_law_385 : decode code 385 = .ok (.iaload, 1) := by decide +kernel
theorem d_LA_law_386 : decode code 386 = .ok (.ifCond .eq 7, 3) := by decide +kernel
theorem d_LA_law_389 : decode code 389 = .ok (.iconst 1, 1) := by decide +kernel
theorem d_LA_law_390 : decode code 390 = .ok (.goto 4, 3) := by decide +kernel
theorem d_LA_law_393 : decode code 393 = .ok (.iconst 0, 1) := by decide +kernel
theorem d_LA_law_394 : decode code 394 = .ok (.aload_n 0, 1) := by decide +kernel
theorem d_LA_law_395 : decode code 395 = .ok (.iload_n 3, 1) := by decide +kernel
theorem d_LA_law_396 : decode code 396 = .ok (.iconst 2, 1) := by decide +kernel
theorem d_LA_law_397 : decode code 397 = .ok (.iadd, 1) := by decide +kernel
theorem d_LA_law_398 : decode code 398 = .ok (.iaload, 1) := by decide +kernel
theorem d_LA_law_399 : decode code 399 = .ok (.invokevirtual 54, 3) := by decide +kernel
theorem d_LA_law_402 : decode code 402 = .ok (.if_icmp .eq 277, 3) := by decide +kernel
theorem d_LA_law_405 : decode code 405 = .ok (.iconst 0, 1) := by decide +kernel
theorem d_LA_law_406 : decode code 406 = .ok (.ireturn, 1) := by decide +kernel
theorem d_LA_law_407 : decode code 407 = .ok (.aload_n 1, 1) := by decide +kernel
theorem d_LA_law_408 : decode code 408 = .ok (.aload_n 0, 1) := by decide +kernel
theorem d_LA_law_409 : decode code 409 = .ok (.iload_n 3, 1) := by decide +kernel
theorem d_LA_law_410 : decode code 410 = .ok (.iconst 1, 1) := by decide +kernel
theorem d_LA_law_411 : decode code 411 = .ok (.iadd, 1) := by decide +kernel
theorem d_LA_law_412 : decode code 412 = .ok (.iaload, 1) := by decide +kernel
theorem d_LA_law_413 : decode code 413 = .ok (.ifCond .eq 7, 3) := by decide +kernel
theorem d_LA_law_416 : decode code 416 = .ok (.iconst 1, 1) := by decide +kernel
theorem d_LA_law_417 : decode code 417 = .ok (.goto 4, 3) := by decide +kernel
theorem d_LA_law_420 : decode code 420 = .ok (.iconst 0, 1) := by decide +kernel
theorem d_LA_law_421 : decode code 421 = .ok (.aload_n 0, 1) := by decide +kernel
theorem d_LA_law_422 : decode code 422 = .ok (.iload_n 3, 1) := by decide +kernel
theorem d_LA_law_423 : decode code 423 = .ok (.iconst 2, 1) := by decide +kernel
theorem d_LA_law_424 : decode code 424 = .ok (.iadd, 1) := by decide +kernel
theorem d_LA_law_425 : decode code 425 = .ok (.iaload, 1) := by decide +kernel
theorem d_LA_law_426 : decode code 426 = .ok (.aload_n 0, 1) := by decide +kernel
theorem d_LA_law_427 : decode code 427 = .ok (.iload_n 3, 1) := by decide +kernel
theorem d_LA_law_428 : decode code 428 = .ok (.iconst 3, 1) := by decide +kernel
theorem d_LA_law_429 : decode code 429 = .ok (.iadd, 1) := by decide +kernel
theorem d_LA_law_430 : decode code 430 = .ok (.iaload, 1) := by decide +kernel
theorem d_LA_law_431 : decode code 431 = .ok (.invokevirtual 55, 3) := by decide +kernel
theorem d_LA_law_434 : decode code 434 = .ok (.aload_n 2, 1) := by decide +kernel
theorem d_LA_law_435 : decode code 435 = .ok (.aload_n 0, 1) := by decide +kernel
theorem d_LA_law_436 : decode code 436 = .ok (.iload_n 3, 1) := by decide +kernel
theorem d_LA_law_437 : decode code 437 = .ok (.iconst 1, 1) := by decide +kernel
theorem d_LA_law_438 : decode code 438 = .ok (.iadd, 1) := by decide +kernel
theorem d_LA_law_439 : decode code 439 = .ok (.iaload, 1) := by decide +kernel
theorem d_LA_law_440 : decode code 440 = .ok (.ifCond .eq 7, 3) := by decide +kernel
theorem d_LA_law_443 : decode code 443 = .ok (.iconst 1, 1) := by decide +kernel
theorem d_LA_law_444 : decode code 444 = .ok (.goto 4, 3) := by decide +kernel
theorem d_LA_law_447 : decode code 447 = .ok (.iconst 0, 1) := by decide +kernel
theorem d_LA_law_448 : decode code 448 = .ok (.aload_n 0, 1) := by decide +kernel
theorem d_LA_law_449 : decode code 449 = .ok (.iload_n 3, 1) := by decide +kernel
theorem d_LA_law_450 : decode code 450 = .ok (.iconst 2, 1) := by decide +kernel
theorem d_LA_law_451 : decode code 451 = .ok (.iadd, 1) := by decide +kernel
theorem d_LA_law_452 : decode code 452 = .ok (.iaload, 1) := by decide +kernel
theorem d_LA_law_453 : decode code 453 = .ok (.aload_n 0, 1) := by decide +kernel
theorem d_LA_law_454 : decode code 454 = .ok (.iload_n 3, 1) := by decide +kernel
theorem d_LA_law_455 : decode code 455 = .ok (.iconst 3, 1) := by decide +kernel
theorem d_LA_law_456 : decode code 456 = .ok (.iadd, 1) := by decide +kernel
theorem d_LA_law_457 : decode code 457 = .ok (.iaload, 1) := by decide +kernel
theorem d_LA_law_458 : decode code 458 = .ok (.invokevirtual 59, 3) := by decide +kernel
theorem d_LA_law_461 : decode code 461 = .ok (.if_icmp .eq 218, 3) := by decide +kernel
theorem d_LA_law_464 : decode code 464 = .ok (.iconst 0, 1) := by decide +kernel
theorem d_LA_law_465 : decode code 465 = .ok (.ireturn, 1) := by decide +kernel
theorem d_LA_law_466 : decode code 466 = .ok (.aload_n 1, 1) := by decide +kernel
theorem d_LA_law_467 : decode code 467 = .ok (.invokevirtual 60, 3) := by decide +kernel
theorem d_LA_law_470 : decode code 470 = .ok (.aload_n 2, 1) := by decide +kernel
theorem d_LA_law_471 : decode code 471 = .ok (.invokevirtual 63, 3) := by decide +kernel
theorem d_LA_law_474 : decode code 474 = .ok (.if_icmp .eq 205, 3) := by decide +kernel
theorem d_LA_law_477 : decode code 477 = .ok (.iconst 0, 1) := by decide +kernel
theorem d_LA_law_478 : decode code 478 = .ok (.ireturn, 1) := by decide +kernel
theorem d_LA_law_479 : decode code 479 = .ok (.aload_n 1, 1) := by decide +kernel
theorem d_LA_law_480 : decode code 480 = .ok (.aload_n 0, 1) := by decide +kernel
theorem d_LA_law_481 : decode code 481 = .ok (.iload_n 3, 1) := by decide +kernel
theorem d_LA_law_482 : decode code 482 = .ok (.iconst 1, 1) := by decide +kernel
theorem d_LA_law_483 : decode code 483 = .ok (.iadd, 1) := by decide +kernel
theorem d_LA_law_484 : decode code 484 = .ok (.iaload, 1) := by decide +kernel
theorem d_LA_law_485 : decode code 485 = .ok (.aload_n 0, 1) := by decide +kernel
theorem d_LA_law_486 : decode code 486 = .ok (.iload_n 3, 1) := by decide +kernel
theorem d_LA_law_487 : decode code 487 = .ok (.iconst 2, 1) := by decide +kernel
theorem d_LA_law_488 : decode code 488 = .ok (.iadd, 1) := by decide +kernel
theorem d_LA_law_489 : decode code 489 = .ok (.iaload, 1) := by decide +kernel
theorem d_LA_law_490 : decode code 490 = .ok (.invokevirtual 64, 3) := by decide +kernel
theorem d_LA_law_493 : decode code 493 = .ok (.aload_n 2, 1) := by decide +kernel
theorem d_LA_law_494 : decode code 494 = .ok (.aload_n 0, 1) := by decide +kernel
theorem d_LA_law_495 : decode code 495 = .ok (.iload_n 3, 1) := by decide +kernel
theorem d_LA_law_496 : decode code 496 = .ok (.iconst 1, 1) := by decide +kernel
theorem d_LA_law_497 : decode code 497 = .ok (.iadd, 1) := by decide +kernel
theorem d_LA_law_498 : decode code 498 = .ok (.iaload, 1) := by decide +kernel
theorem d_LA_law_499 : decode code 499 = .ok (.aload_n 0, 1) := by decide +kernel
theorem d_LA_law_500 : decode code 500 = .ok (.iload_n 3, 1) := by decide +kernel
theorem d_LA_law_501 : decode code 501 = .ok (.iconst 2, 1) := by decide +kernel
theorem d_LA_law_502 : decode code 502 = .ok (.iadd, 1) := by decide +kernel
theorem d_LA_law_503 : decode code 503 = .ok (.iaload, 1) := by decide +kernel
theorem d_LA_law_504 : decode code 504 = .ok (.invokevirtual 67, 3) := by decide +kernel
theorem d_LA_law_507 : decode code 507 = .ok (.if_icmp .eq 172, 3) := by decide +kernel
theorem d_LA_law_510 : decode code 510 = .ok (.iconst 0, 1) := by decide +kernel
theorem d_LA_law_511 : decode code 511 = .ok (.ireturn, 1) := by decide +kernel
theorem d_LA_law_512 : decode code 512 = .ok (.aload_n 1, 1) := by decide +kernel
theorem d_LA_law_513 : decode code 513 = .ok (.aload_n 0, 1) := by decide +kernel
theorem d_LA_law_514 : decode code 514 = .ok (.iload_n 3, 1) := by decide +kernel
theorem d_LA_law_515 : decode code 515 = .ok (.iconst 1, 1) := by decide +kernel
theorem d_LA_law_516 : decode code 516 = .ok (.iadd, 1) := by decide +kernel
theorem d_LA_law_517 : decode code 517 = .ok (.iaload, 1) := by decide +kernel
theorem d_LA_law_518 : decode code 518 = .ok (.aload_n 0, 1) := by decide +kernel
theorem d_LA_law_519 : decode code 519 = .ok (.iload_n 3, 1) := by decide +kernel
theorem d_LA_law_520 : decode code 520 = .ok (.iconst 2, 1) := by decide +kernel
theorem d_LA_law_521 : decode code 521 = .ok (.iadd, 1) := by decide +kernel
theorem d_LA_law_522 : decode code 522 = .ok (.iaload, 1) := by decide +kernel
theorem d_LA_law_523 : decode code 523 = .ok (.invokevirtual 68, 3) := by decide +kernel
theorem d_LA_law_526 : decode code 526 = .ok (.aload_n 2, 1) := by decide +kernel
theorem d_LA_law_527 : decode code 527 = .ok (.aload_n 0, 1) := by decide +kernel
theorem d_LA_law_528 : decode code 528 = .ok (.iload_n 3, 1) := by decide +kernel
theorem d_LA_law_529 : decode code 529 = .ok (.iconst 1, 1) := by decide +kernel
theorem d_LA_law_530 : decode code 530 = .ok (.iadd, 1) := by decide +kernel
theorem d_LA_law_531 : decode code 531 = .ok (.iaload, 1) := by decide +kernel
theorem d_LA_law_532 : decode code 532 = .ok (.aload_n 0, 1) := by decide +kernel
theorem d_LA_law_533 : decode code 533 = .ok (.iload_n 3, 1) := by decide +kernel
theorem d_LA_law_534 : decode code 534 = .ok (.iconst 2, 1) := by decide +kernel
theorem d_LA_law_535 : decode code 535 = .ok (.iadd, 1) := by decide +kernel
theorem d_LA_law_536 : decode code 536 = .ok (.iaload, 1) := by decide +kernel
theorem d_LA_law_537 : decode code 537 = .ok (.invokevirtual 72, 3) := by decide +kernel
theorem d_LA_law_540 : decode code 540 = .ok (.if_icmp .eq 139, 3) := by decide +kernel
theorem d_LA_law_543 : decode code 543 = .ok (.iconst 0, 1) := by decide +kernel
theorem d_LA_law_544 : decode code 544 = .ok (.ireturn, 1) := by decide +kernel
theorem d_LA_law_545 : decode code 545 = .ok (.aload_n 1, 1) := by decide +kernel
theorem d_LA_law_546 : decode code 546 = .ok (.aload_n 0, 1) := by decide +kernel
theorem d_LA_law_547 : decode code 547 = .ok (.iload_n 3, 1) := by decide +kernel
theorem d_LA_law_548 : decode code 548 = .ok (.iconst 1, 1) := by decide +kernel
theorem d_LA_law_549 : decode code 549 = .ok (.iadd, 1) := by decide +kernel
theorem d_LA_law_550 : decode code 550 = .ok (.iaload, 1) := by decide +kernel
theorem d_LA_law_551 : decode code 551 = .ok (.ifCond .eq 7, 3) := by decide +kernel
theorem d_LA_law_554 : decode code 554 = .ok (.iconst 1, 1) := by decide +kernel
theorem d_LA_law_555 : decode code 555 = .ok (.goto 4, 3) := by decide +kernel
theorem d_LA_law_558 : decode code 558 = .ok (.iconst 0, 1) := by decide +kernel
theorem d_LA_law_559 : decode code 559 = .ok (.aload_n 0, 1) := by decide +kernel
theorem d_LA_law_560 : decode code 560 = .ok (.iload_n 3, 1) := by decide +kernel
theorem d_LA_law_561 : decode code 561 = .ok (.iconst 2, 1) := by decide +kernel
theorem d_LA_law_562 : decode code 562 = .ok (.iadd, 1) := by decide +kernel
theorem d_LA_law_563 : decode code 563 = .ok (.iaload, 1) := by decide +kernel
theorem d_LA_law_564 : decode code 564 = .ok (.invokevirtual 73, 3) := by decide +kernel
theorem d_LA_law_567 : decode code 567 = .ok (.aload_n 2, 1) := by decide +kernel
theorem d_LA_law_568 : decode code 568 = .ok (.aload_n 0, 1) := by decide +kernel
theorem d_LA_law_569 : decode code 569 = .ok (.iload_n 3, 1) := by decide +kernel
theorem d_LA_law_570 : decode code 570 = .ok (.iconst 1, 1) := by decide +kernel
theorem d_LA_law_571 : decode code 571 = .ok (.iadd, 1) := by decide +kernel
theorem d_LA_law_572 : decode code 572 = .ok (.iaload, 1) := by decide +kernel
theorem d_LA_law_573 : decode code 573 = .ok (.ifCond .eq 7, 3) := by decide +kernel
theorem d_LA_law_576 : decode code 576 = .ok (.iconst 1, 1) := by decide +kernel
theorem d_LA_law_577 : decode code 577 = .ok (.goto 4, 3) := by decide +kernel
theorem d_LA_law_580 : decode code 580 = .ok (.iconst 0, 1) := by decide +kernel
theorem d_LA_law_581 : decode code 581 = .ok (.aload_n 0, 1) := by decide +kernel
theorem d_LA_law_582 : decode code 582 = .ok (.iload_n 3, 1) := by decide +kernel
theorem d_LA_law_583 : decode code 583 = .ok (.iconst 2, 1) := by decide +kernel
theorem d_LA_law_584 : decode code 584 = .ok (.iadd, 1) := by decide +kernel
theorem d_LA_law_585 : decode code 585 = .ok (.iaload, 1) := by decide +kernel
theorem d_LA_law_586 : decode code 586 = .ok (.invokevirtual 76, 3) := by decide +kernel
theorem d_LA_law_589 : decode code 589 = .ok (.if_icmp .eq 90, 3) := by decide +kernel
theorem d_LA_law_592 : decode code 592 = .ok (.iconst 0, 1) := by decide +kernel
theorem d_LA_law_593 : decode code 593 = .ok (.ireturn, 1) := by decide +kernel
theorem d_LA_law_594 : decode code 594 = .ok (.aload_n 1, 1) := by decide +kernel
theorem d_LA_law_595 : decode code 595 = .ok (.invokevirtual 77, 3) := by decide +kernel
theorem d_LA_law_598 : decode code 598 = .ok (.aload_n 2, 1) := by decide +kernel
theorem d_LA_law_599 : decode code 599 = .ok (.invokevirtual 80, 3) := by decide +kernel
theorem d_LA_law_602 : decode code 602 = .ok (.if_icmp .eq 77, 3) := by decide +kernel
theorem d_LA_law_605 : decode code 605 = .ok (.iconst 0, 1) := by decide +kernel
theorem d_LA_law_606 : decode code 606 = .ok (.ireturn, 1) := by decide +kernel
theorem d_LA_law_607 : decode code 607 = .ok (.aload_n 1, 1) := by decide +kernel
theorem d_LA_law_608 : decode code 608 = .ok (.invokevirtual 81, 3) := by decide +kernel
theorem d_LA_law_611 : decode code 611 = .ok (.aload_n 2, 1) := by decide +kernel
theorem d_LA_law_612 : decode code 612 = .ok (.invokevirtual 84, 3) := by decide +kernel
theorem d_LA_law_615 : decode code 615 = .ok (.if_icmp .eq 64, 3) := by decide +kernel
theorem d_LA_law_618 : decode code 618 = .ok (.iconst 0, 1) := by decide +kernel
theorem d_LA_law_619 : decode code 619 = .ok (.ireturn, 1) := by decide +kernel
theorem d_LA_law_620 : decode code 620 = .ok (.aload_n 1, 1) := by decide +kernel
theorem d_LA_law_621 : decode code 621 = .ok (.invokevirtual 85, 3) := by decide +kernel
theorem d_LA_law_624 : decode code 624 = .ok (.aload_n 2, 1) := by decide +kernel
theorem d_LA_law_625 : decode code 625 = .ok (.invokevirtual 88, 3) := by decide +kernel
theorem d_LA_law_628 : decode code 628 = .ok (.if_icmp .eq 51, 3) := by decide +kernel
theorem d_LA_law_631 : decode code 631 = .ok (.iconst 0, 1) := by decide +kernel
theorem d_LA_law_632 : decode code 632 = .ok (.ireturn, 1) := by decide +kernel
theorem d_LA_law_633 : decode code 633 = .ok (.aload_n 1, 1) := by decide +kernel
theorem d_LA_law_634 : decode code 634 = .ok (.aload_n 0, 1) := by decide +kernel
theorem d_LA_law_635 : decode code 635 = .ok (.iload_n 3, 1) := by decide +kernel
theorem d_LA_law_636 : decode code 636 = .ok (.iconst 1, 1) := by decide +kernel
theorem d_LA_law_637 : decode code 637 = .ok (.iadd, 1) := by decide +kernel
theorem d_LA_law_638 : decode code 638 = .ok (.iaload, 1) := by decide +kernel
theorem d_LA_law_639 : decode code 639 = .ok (.invokevirtual 89, 3) := by decide +kernel
theorem d_LA_law_642 : decode code 642 = .ok (.aload_n 2, 1) := by decide +kernel
theorem d_LA_law_643 : decode code 643 = .ok (.aload_n 0, 1) := by decide +kernel
theorem d_LA_law_644 : decode code 644 = .ok (.iload_n 3, 1) := by decide +kernel
theorem d_LA_law_645 : decode code 645 = .ok (.iconst 1, 1) := by decide +kernel
theorem d_LA_law_646 : decode code 646 = .ok (.iadd, 1) := by decide +kernel
theorem d_LA_law_647 : decode code 647 = .ok (.iaload, 1) := by decide +kernel
theorem d_LA_law_648 : decode code 648 = .ok (.invokevirtual 92, 3) := by decide +kernel
theorem d_LA_law_651 : decode code 651 = .ok (.if_icmp .eq 28, 3) := by decide +kernel
theorem d_LA_law_654 : decode code 654 = .ok (.iconst 0, 1) := by decide +kernel
theorem d_LA_law_655 : decode code 655 = .ok (.ireturn, 1) := by decide +kernel
theorem d_LA_law_656 : decode code 656 = .ok (.aload_n 1, 1) := by decide +kernel
theorem d_LA_law_657 : decode code 657 = .ok (.aload_n 0, 1) := by decide +kernel
theorem d_LA_law_658 : decode code 658 = .ok (.iload_n 3, 1) := by decide +kernel
theorem d_LA_law_659 : decode code 659 = .ok (.iconst 1, 1) := by decide +kernel
theorem d_LA_law_660 : decode code 660 = .ok (.iadd, 1) := by decide +kernel
theorem d_LA_law_661 : decode code 661 = .ok (.iaload, 1) := by decide +kernel
theorem d_LA_law_662 : decode code 662 = .ok (.invokevirtual 93, 3) := by decide +kernel
theorem d_LA_law_665 : decode code 665 = .ok (.aload_n 2, 1) := by decide +kernel
theorem d_LA_law_666 : decode code 666 = .ok (.aload_n 0, 1) := by decide +kernel
theorem d_LA_law_667 : decode code 667 = .ok (.iload_n 3, 1) := by decide +kernel
theorem d_LA_law_668 : decode code 668 = .ok (.iconst 1, 1) := by decide +kernel
theorem d_LA_law_669 : decode code 669 = .ok (.iadd, 1) := by decide +kernel
theorem d_LA_law_670 : decode code 670 = .ok (.iaload, 1) := by decide +kernel
theorem d_LA_law_671 : decode code 671 = .ok (.invokevirtual 96, 3) := by decide +kernel
theorem d_LA_law_674 : decode code 674 = .ok (.if_icmp .eq 5, 3) := by decide +kernel
theorem d_LA_law_677 : decode code 677 = .ok (.iconst 0, 1) := by decide +kernel
theorem d_LA_law_678 : decode code 678 = .ok (.ireturn, 1) := by decide +kernel
theorem d_LA_law_679 : decode code 679 = .ok (.iinc 3 4, 3) := by decide +kernel
theorem d_LA_law_682 : decode code 682 = .ok (.goto (-664), 3) := by decide +kernel
theorem d_LA_law_685 : decode code 685 = .ok (.iconst 1, 1) := by decide +kernel
theorem d_LA_law_686 : decode code 686 = .ok (.ireturn, 1) := by decide +kernel
