-- flatten: class and reference; what holds between two calls
theorem ckd_of {n hn : Nat} {f g hd d ov : Nat → Int32} (h32 : n ≤ 32) (ho : ∀ i, i < n → Ok18 (f i)) (hD : D4 d) (h : (f_MO_check n hn f g hd d ov).1 = 0) : CKd n hn f g hd (f_MO_check n hn f g hd d ov).2.1 := by
  obtain ⟨a1, a2⟩ := ck_ok (hn := hn) (g := g) (hd := hd) (ov := ov) h32 ho hD
  obtain ⟨b1, b2, b3, b4⟩ := a2 h
  exact ⟨h32, b1, a1, b2, b3, b4⟩
theorem weave_def {n hn : Nat} {v : Int32} {fo fa xf xt xg mk f g fr to tg d le he sa st fi be bs : Nat → Int32} {bc1 : Nat} {le1 he1 sa1 mk1 st1 bs1 : Nat → Int32} {g1 : Int32} {L : (Nat → Int32) × (Nat → Int32) × (Nat → Int32) × (Nat → Int32) × Nat × Int32} {M : (Nat → Int32) × (Nat → Int32) × Nat × Nat × (Nat → Int32) × (Nat → Int32) × (Nat → Int32)}
    (e1 : bc1 = (f_BL_find n hn mk f g fr to tg d le he sa).2.1) (e2 : le1 = (f_BL_find n hn mk f g fr to tg d le he sa).2.2.1) (e3 : he1 = (f_BL_find n hn mk f g fr to tg d le he sa).2.2.2.1) (e4 : sa1 = (f_BL_find n hn mk f g fr to tg d le he sa).2.2.2.2) (e5 : mk1 = (f_BL_find n hn mk f g fr to tg d le he sa).1) (e6 : st1 = (f_BL_drawStates bc1 v st).1) (e7 : g1 = (f_BL_drawStates bc1 v st).2) (e8 : bs1 = f_BL_sortByState bc1 st1 bs)
    (e9 : L = lp_WE_weave n f g bc1 le1 he1 sa1 st1 bs1 bc1 0 fi be (f_WE_writeLoop 0 fo fa st1).2.1 (f_WE_writeLoop 0 fo fa st1).2.2 (0 + 4) g1) (e10 : M = lc_WE_weave fr to tg bc1 le1 sa1 st1 bs1 L.1 L.2.1 hn 0 L.2.2.1 L.2.2.2.1 L.2.2.2.2.1 0 xf xt xg) :
    f_WE_weave n hn v fo fa xf xt xg mk f g fr to tg d le he sa st fi be bs = (M.2.2.1, M.1, M.2.1, M.2.2.2.1, M.2.2.2.2.1, M.2.2.2.2.2.1, M.2.2.2.2.2.2, L.2.2.2.2.2, bc1, le1, he1, st1, L.1, L.2.1, bs1, sa1, mk1) := by
  subst e1 e2 e3 e4 e5 e6 e7 e8 e9 e10
  rfl
theorem mflat_def {n hn fq fh bc : Nat} {gg v : Int32} {f g hd d ov fo fa fx le la he st fi dw od : Nat → Int32} {bc1 : Nat} {le1 la1 he1 st1 od1 dw1 FI : Nat → Int32} {L : (Nat → Int32) × (Nat → Int32) × Nat} {M : (Nat → Int32) × (Nat → Int32) × Nat × Nat × (Nat → Int32)} (h : (f_MO_check n hn f g hd d ov).1 = 0)
    (e1 : bc1 = (f_MO_cut n hn f g hd (f_MO_check n hn f g hd d ov).2.1 le la he).1) (e2 : le1 = (f_MO_cut n hn f g hd (f_MO_check n hn f g hd d ov).2.1 le la he).2.1) (e3 : la1 = (f_MO_cut n hn f g hd (f_MO_check n hn f g hd d ov).2.1 le la he).2.2.1) (e4 : he1 = (f_MO_cut n hn f g hd (f_MO_check n hn f g hd d ov).2.1 le la he).2.2.2) (e5 : st1 = (f_MO_drawAll bc1 v st od dw).2.1) (e6 : od1 = (f_MO_drawAll bc1 v st od dw).2.2.1) (e7 : dw1 = (f_MO_drawAll bc1 v st od dw).2.2.2)
    (e8 : FI = lp_MO_begin f g bc1 le1 la1 he1 od1 dw1 bc1 0 4 fi) (e9 : L = lp_MO_fl f g bc1 le1 la1 he1 st1 od1 dw1 FI bc1 0 (upd (upd (upd (upd fo 0 0) 1 2) 2 1) 3 18) (upd (upd (upd (upd fa 0 (st1 0)) 1 4) 2 4) 3 0) 4) (e10 : M = lh_MO_fl f g hd bc1 le1 la1 he1 st1 od1 dw1 FI hn 0 L.1 L.2.1 L.2.2 0 fx) :
    f_MO_flatten n hn fq fh bc gg v f g hd d ov fo fa fx le la he st fi dw od = (nI M.2.2.1, (f_MO_check n hn f g hd d ov).2.1, (f_MO_check n hn f g hd d ov).2.2, M.2.2.1, M.1, M.2.1, M.2.2.2.1, M.2.2.2.2, (f_MO_drawAll bc1 v st od dw).1, bc1, le1, la1, he1, st1, FI, dw1, od1) := by
  subst e1 e2 e3 e4 e5 e6 e7 e8 e9 e10
  unfold f_MO_flatten
  rw [if_pos h]
/-- what holds between two calls -/
def LI (n hn fq fh bc : Nat) (f g fr to tg hd d fo fa xf xt xg fx st fi bs : Nat → Int32) (ye yo xr : Int32) : Prop :=
  (n ≤ 32 ∧ hn ≤ 3 ∧ CDe n hn f g fr to tg hd ∧ D4 d) ∧ (fq ≤ 1328 ∧ fh ≤ 96 ∧ bc ≤ 32 ∧ HR fh xf xt xg fx ∧ (∀ h, h < fh → ¬ xg h = -1) ∧ (0 < fq → ∃ Jv, JP fq fh bc fo fa fx st fi Jv ∧ ∀ lo sk, Jv lo sk 0 (nI 0))) ∧ (∀ q, q < 32 → Nn bs q 32) ∧ ((ye = 0 ∧ xr = -2147483648) ∨ (¬ ye = 0 ∧ xr = yo))
theorem sort_Nn {bc : Nat} (hb : bc ≤ 32) (st : Nat → Int32) {bs : Nat → Int32} (h : ∀ q, q < 32 → Nn bs q 32) : ∀ q, q < 32 → Nn (f_BL_sortByState bc st bs) q 32 := by
  have key : ∀ (kf b : Nat) (bs : Nat → Int32), b + kf = bc → (∀ q, q < 32 → Nn bs q 32) → ∀ q, q < 32 → Nn (lp_BL_sort st kf b bs) q 32 := by
    intro kf
    induction kf with
    | zero => intro b bs _ h; exact h
    | succ kf ih =>
      intro b bs h1 h2
      rw [lp_BL_sort]
      exact ih (b + 1) _ (by omega) (Nn_upd (v := b) (ins_Nn b st b b bs rfl (by omega) h2).1 rfl (by omega) (by decide))
  exact key bc 0 bs (by omega) h
section Fl
variable {n hn fq fh bc : Nat} {f g fr to tg hd d ov fo fa xf xt xg fx le he la sa st fi be bs mk dw od : Nat → Int32} {gg g2 v ye yo xr : Int32}
theorem fl_C (I : LI n hn fq fh bc f g fr to tg hd d fo fa xf xt xg fx st fi bs ye yo xr) (h : (f_MO_check n hn f g hd d ov).1 = 0) : CKd n hn f g hd (f_MO_check n hn f g hd d ov).2.1 := ckd_of I.1.1 I.1.2.2.1.1 I.1.2.2.2 h
/-- what the class's flatten asks -/
theorem fl_bk (I : LI n hn fq fh bc f g fr to tg hd d fo fa xf xt xg fx st fi bs ye yo xr) (h : ¬ (f_FF_originalIsFine n hn f g fr to tg d ov).1 = 0) : BK n hn (f_BL_find n hn mk f g fr to tg (f_FF_originalIsFine n hn f g fr to tg d ov).2.1 le he sa).2.1 f g fr to tg (f_BL_find n hn mk f g fr to tg (f_FF_originalIsFine n hn f g fr to tg d ov).2.1 le he sa).2.2.1 (f_BL_find n hn mk f g fr to tg (f_FF_originalIsFine n hn f g fr to tg d ov).2.1 le he sa).2.2.2.1 (f_BL_find n hn mk f g fr to tg (f_FF_originalIsFine n hn f g fr to tg d ov).2.1 le he sa).2.2.2.2
    (ebF (f_BL_find n hn mk f g fr to tg (f_MO_check n hn f g hd d ov).2.1 le he sa).2.1 n (f_BL_find n hn mk f g fr to tg (f_MO_check n hn f g hd d ov).2.1 le he sa).2.2.1) (fun i => i < n ∧ ¬ (f_MO_check n hn f g hd d ov).2.1 i = -1) := by
  obtain ⟨e1, e2⟩ := fine_eq (g := g) (ov := ov) I.1.1 I.1.2.2.1.1 I.1.2.2.1.2.2.2.1 I.1.2.2.2
  have h0 : (f_MO_check n hn f g hd d ov).1 = 0 := Classical.byContradiction (fun h9 => h (e2.mpr h9))
  rw [e1]
  exact BK_of (fl_C I h0) I.1.2.2.1 (ck_FD (fl_C I h0) I.1.2.2.1 le he sa)
theorem fl_FD (I : LI n hn fq fh bc f g fr to tg hd d fo fa xf xt xg fx st fi bs ye yo xr) (h : (f_MO_check n hn f g hd d ov).1 = 0) (mk sa : Nat → Int32) : FD (fun i => f_MO_isLeader n hn i f g hd (f_MO_check n hn f g hd d ov).2.1) (f_MO_check n hn f g hd d ov).2.1 32 (f_MO_cut n hn f g hd (f_MO_check n hn f g hd d ov).2.1 le la he).1 (f_MO_cut n hn f g hd (f_MO_check n hn f g hd d ov).2.1 le la he).2.1 (f_MO_cut n hn f g hd (f_MO_check n hn f g hd d ov).2.1 le la he).2.2.2 (f_BL_find n hn mk f g fr to tg (f_MO_check n hn f g hd d ov).2.1 le he sa).2.2.2.2 := by
  obtain ⟨c1, c2, c3⟩ := ck_cut (mk := mk) (fl_C I h) I.1.2.2.1 le he sa la
  have := ck_FD (mk := mk) (fl_C I h) I.1.2.2.1 le he sa
  rw [c1, c2, c3] at this
  exact this
theorem fl_la (I : LI n hn fq fh bc f g fr to tg hd d fo fa xf xt xg fx st fi bs ye yo xr) : ∀ b, b < (f_MO_cut n hn f g hd (f_MO_check n hn f g hd d ov).2.1 le la he).1 → (f_MO_cut n hn f g hd (f_MO_check n hn f g hd d ov).2.1 le la he).2.2.1 b = nI (lq_MO_cut n hn f g hd (f_MO_check n hn f g hd d ov).2.1 (n - 1 - tn ((f_MO_cut n hn f g hd (f_MO_check n hn f g hd d ov).2.1 le la he).2.1 b)) (tn ((f_MO_cut n hn f g hd (f_MO_check n hn f g hd d ov).2.1 le la he).2.1 b))) := cut_la I.1.1 n 0 0 le la he (by omega) (fun b hb => by omega)
/-- what the reference's flatten asks -/
theorem fl_br (I : LI n hn fq fh bc f g fr to tg hd d fo fa xf xt xg fx st fi bs ye yo xr) (h : (f_MO_check n hn f g hd d ov).1 = 0) : BR n hn (f_MO_cut n hn f g hd (f_MO_check n hn f g hd d ov).2.1 le la he).1 f g hd (f_MO_cut n hn f g hd (f_MO_check n hn f g hd d ov).2.1 le la he).2.1 (f_MO_cut n hn f g hd (f_MO_check n hn f g hd d ov).2.1 le la he).2.2.1 (f_MO_cut n hn f g hd (f_MO_check n hn f g hd d ov).2.1 le la he).2.2.2 := BR_of (fl_C I h) I.1.2.2.1 (fl_FD I h (fun _ => 0) (fun _ => 0)) (fl_la I)
theorem fl_bo (I : LI n hn fq fh bc f g fr to tg hd d fo fa xf xt xg fx st fi bs ye yo xr) (h : (f_MO_check n hn f g hd d ov).1 = 0) : BO (f_MO_cut n hn f g hd (f_MO_check n hn f g hd d ov).2.1 le la he).1 (f_MO_drawAll (f_MO_cut n hn f g hd (f_MO_check n hn f g hd d ov).2.1 le la he).1 v st od dw).2.2.1 (f_MO_drawAll (f_MO_cut n hn f g hd (f_MO_check n hn f g hd d ov).2.1 le la he).1 v st od dw).2.2.2 := (draws_all (fl_br I h).1.2 v st od dw (fun _ => 0)).2.2.2.2.2
theorem flat_eq (I : LI n hn fq fh bc f g fr to tg hd d fo fa xf xt xg fx st fi bs ye yo xr) {A : Int32 × (Nat → Int32) × (Nat → Int32) × Nat × (Nat → Int32) × (Nat → Int32) × Nat × (Nat → Int32) × (Nat → Int32) × (Nat → Int32) × Int32 × Nat × (Nat → Int32) × (Nat → Int32) × (Nat → Int32) × (Nat → Int32) × (Nat → Int32) × (Nat → Int32) × (Nat → Int32) × (Nat → Int32)} {B : Int32 × (Nat → Int32) × (Nat → Int32) × Nat × (Nat → Int32) × (Nat → Int32) × Nat × (Nat → Int32) × Int32 × Nat × (Nat → Int32) × (Nat → Int32) × (Nat → Int32) × (Nat → Int32) × (Nat → Int32) × (Nat → Int32) × (Nat → Int32)}
    (eA : A = f_FF_flatten n hn f g fr to tg d ov fq fh bc gg v fo fa xf xt xg mk le he sa st fi be bs) (eB : B = f_MO_flatten n hn fq fh bc g2 v f g hd d ov fo fa fx le la he st fi dw od) :
    A.1 = B.1 ∧ A.2.1 = B.2.1 ∧ A.2.2.1 = B.2.2.1 ∧ A.2.2.2.1 = B.2.2.2.1 ∧ A.2.2.2.2.1 = B.2.2.2.2.1 ∧ A.2.2.2.2.2.1 = B.2.2.2.2.2.1 ∧ A.2.2.2.2.2.2.1 = B.2.2.2.2.2.2.1 ∧ A.2.2.2.2.2.2.2.2.2.2.2.1 = B.2.2.2.2.2.2.2.2.2.1 ∧ A.2.2.2.2.2.2.2.2.2.2.2.2.1 = B.2.2.2.2.2.2.2.2.2.2.1 ∧ A.2.2.2.2.2.2.2.2.2.2.2.2.2.1 = B.2.2.2.2.2.2.2.2.2.2.2.2.1 ∧ A.2.2.2.2.2.2.2.2.2.2.2.2.2.2.1 = B.2.2.2.2.2.2.2.2.2.2.2.2.2.1 ∧ A.2.2.2.2.2.2.2.2.2.2.2.2.2.2.2.1 = B.2.2.2.2.2.2.2.2.2.2.2.2.2.2.1 ∧
    LI n hn A.2.2.2.1 A.2.2.2.2.2.2.1 A.2.2.2.2.2.2.2.2.2.2.2.1 f g fr to tg hd A.2.1 A.2.2.2.2.1 A.2.2.2.2.2.1 A.2.2.2.2.2.2.2.1 A.2.2.2.2.2.2.2.2.1 A.2.2.2.2.2.2.2.2.2.1 B.2.2.2.2.2.2.2.1 A.2.2.2.2.2.2.2.2.2.2.2.2.2.2.1 A.2.2.2.2.2.2.2.2.2.2.2.2.2.2.2.1 A.2.2.2.2.2.2.2.2.2.2.2.2.2.2.2.2.2.1 ye yo xr := by
  obtain ⟨e1, e2⟩ := fine_eq (g := g) (ov := ov) I.1.1 I.1.2.2.1.1 I.1.2.2.1.2.2.2.1 I.1.2.2.2
  have hD4 := (ck_ok (hn := hn) (g := g) (hd := hd) (ov := ov) I.1.1 I.1.2.2.1.1 I.1.2.2.2).1
  unfold f_FF_flatten at eA
  by_cases h0 : (f_MO_check n hn f g hd d ov).1 = 0
  · have hf : ¬ (f_FF_originalIsFine n hn f g fr to tg d ov).1 = 0 := fun h9 => e2.mp h9 h0
    rw [if_neg hf, e1] at eA
    have C := fl_C I h0
    have E := I.1.2.2.1
    have K := fl_br (le := le) (la := la) (he := he) I h0
    have O := fl_bo (v := v) (st := st) (od := od) (dw := dw) (le := le) (la := la) (he := he) I h0
    have F := fl_FD (le := le) (la := la) (he := he) I h0 mk sa
    have La := fl_la (ov := ov) (le := le) (la := la) (he := he) I
    obtain ⟨c1, c2, c3⟩ := ck_cut (mk := mk) C E le he sa la
    generalize hbc1 : (f_MO_cut n hn f g hd (f_MO_check n hn f g hd d ov).2.1 le la he).1 = bc1 at K O F La c1
    generalize hle1 : (f_MO_cut n hn f g hd (f_MO_check n hn f g hd d ov).2.1 le la he).2.1 = le1 at K F La c2
    generalize hla1 : (f_MO_cut n hn f g hd (f_MO_check n hn f g hd d ov).2.1 le la he).2.2.1 = la1 at K La
    generalize hhe1 : (f_MO_cut n hn f g hd (f_MO_check n hn f g hd d ov).2.1 le la he).2.2.2 = he1 at K F c3
    obtain ⟨D1, D2, D3, D4', D5, D6⟩ := draws_all K.1.2 v st od dw bs
    have Hs := sort_Nn K.1.2 (f_BL_drawStates bc1 v st).1 I.2.2.1
    have So := (sort_ok (f_BL_drawStates bc1 v st).1 bs (c := bc1) (by have := K.1.2; omega)).1
    generalize hst1 : (f_BL_drawStates bc1 v st).1 = st1 at D1 D2 D3 D4' Hs So
    generalize hod1 : (f_MO_drawAll bc1 v st od dw).2.2.1 = od1 at O D4' D5 D6
    generalize hdw1 : (f_MO_drawAll bc1 v st od dw).2.2.2 = dw1 at O D5 D6
    generalize hbs1 : f_BL_sortByState bc1 st1 bs = bs1 at D4' Hs So
    generalize hsa1 : (f_BL_find n hn mk f g fr to tg (f_MO_check n hn f g hd d ov).2.1 le he sa).2.2.2.2 = sa1 at F
    have hinj : ∀ q r, q < bc1 → r < bc1 → tn (od1 q) = tn (od1 r) → q = r := by
      intro q r hq hr h9
      rw [D4' q hq, D4' r hr] at h9
      have n1 := (So q hq).1
      have n2 := (So r hr).1
      rw [← hbs1] at n1 n2 h9
      exact od_inj (by have := K.1.2; omega) D2 bs hq hr (by rw [n1, n2, h9])
    obtain ⟨FI, hFI⟩ : ∃ z, z = lp_MO_begin f g bc1 le1 la1 he1 od1 dw1 bc1 0 4 fi := ⟨_, rfl⟩
    obtain ⟨L, hL⟩ : ∃ z, z = lp_WE_weave n f g bc1 le1 he1 sa1 st1 bs1 bc1 0 fi be (f_WE_writeLoop 0 fo fa st1).2.1 (f_WE_writeLoop 0 fo fa st1).2.2 (0 + 4) (f_BL_drawStates bc1 v st).2 := ⟨_, rfl⟩
    obtain ⟨L2, hL2⟩ : ∃ z, z = lp_MO_fl f g bc1 le1 la1 he1 st1 od1 dw1 FI bc1 0 (upd (upd (upd (upd fo 0 0) 1 2) 2 1) 3 18) (upd (upd (upd (upd fa 0 (st1 0)) 1 4) 2 4) 3 0) 4 := ⟨_, rfl⟩
    have hs : sm (fun q => 40 + (tn (la1 (tn (od1 q))) - tn (le1 (tn (od1 q))) + 1)) bc1 ≤ 40 * bc1 + 32 := by
      rw [O.2.1 (fun b => 40 + (tn (la1 b) - tn (le1 b) + 1))]
      exact sm_40 (G := fun b => tn (la1 b) - tn (le1 b) + 1) K.2.2.2.2.2.2.2.2.1
    have hs0 : 4 + sm (fun q => 40 + (tn (la1 (tn (od1 q))) - tn (le1 (tn (od1 q))) + 1)) bc1 ≤ 1316 + sm (fun q => 40 + (tn (la1 (tn (od1 q))) - tn (le1 (tn (od1 q))) + 1)) 0 := by
      have : sm (fun q => 40 + (tn (la1 (tn (od1 q))) - tn (le1 (tn (od1 q))) + 1)) 0 = 0 := rfl
      have := K.1.2
      omega
    obtain ⟨w1', w2, w3⟩ := wv_eq (st := st1) C E F La K D4' So hinj D5 FI bc1 0 fi be (upd (upd (upd (upd fo 0 0) 1 2) 2 1) 3 18) (upd (upd (upd (upd fa 0 (st1 0)) 1 4) 2 4) 3 0) 4 (f_BL_drawStates bc1 v st).2 (by omega) hs0 rfl hFI (fun r hr => by omega)
    rw [← hL2] at w3
    have hLe : L = lp_WE_weave n f g bc1 le1 he1 sa1 st1 bs1 bc1 0 fi be (upd (upd (upd (upd fo 0 0) 1 2) 2 1) 3 18) (upd (upd (upd (upd fa 0 (st1 0)) 1 4) 2 4) 3 0) 4 (f_BL_drawStates bc1 v st).2 := hL
    rw [← hLe] at w1' w2 w3
    obtain ⟨M, hM⟩ : ∃ z, z = lc_WE_weave fr to tg bc1 le1 sa1 st1 bs1 L.1 L.2.1 hn 0 L.2.2.1 L.2.2.2.1 L.2.2.2.2.1 0 xf xt xg := ⟨_, rfl⟩
    obtain ⟨M2, hM2⟩ : ∃ z, z = lh_MO_fl f g hd bc1 le1 la1 he1 st1 od1 dw1 FI hn 0 L2.1 L2.2.1 L2.2.2 0 fx := ⟨_, rfl⟩
    obtain ⟨m1, m2, m3, m4, m5⟩ := lc_eq (st := st1) (bs := bs1) (dw := dw1) (la := la1) (fi := FI) (be := L.2.1) C E F D4' So O.2.1 w2 hn 0 L2.1 L2.2.1 L2.2.2 0 xf xt xg fx (by omega) (fun k hk => by omega)
    have hM' : M = lc_WE_weave fr to tg bc1 le1 sa1 st1 bs1 FI L.2.1 hn 0 L2.1 L2.2.1 L2.2.2 0 xf xt xg := by
      rw [hM, w1', ← w3]
    rw [← hM', ← hM2] at m1 m2 m3 m4 m5
    have hW := weave_def (n := n) (hn := hn) (v := v) (fo := fo) (fa := fa) (xf := xf) (xt := xt) (xg := xg) (mk := mk) (f := f) (g := g) (fr := fr) (to := to) (tg := tg) (d := (f_MO_check n hn f g hd d ov).2.1) (le := le) (he := he) (sa := sa) (st := st) (fi := fi) (be := be) (bs := bs) c1.symm c2.symm c3.symm hsa1.symm rfl hst1.symm rfl hbs1.symm hL hM
    have hMf := mflat_def (fq := fq) (fh := fh) (bc := bc) (gg := g2) (fo := fo) (fa := fa) (fx := fx) (v := v) (st := st) (fi := fi) (dw := dw) (od := od) h0 hbc1.symm hle1.symm hla1.symm hhe1.symm D1 hod1.symm hdw1.symm hFI hL2 hM2
    rw [hW] at eA
    rw [hMf] at eB
    obtain ⟨J1, J2, J3, J4, J5⟩ := flat_J (st := st1) C E F La K O hinj D2 I.1.2.1 fi fo fa fx (FI := FI) (fo := M2.1) (fa := M2.2.1) (fx := M2.2.2.2.2) (fo9 := L2.1) (fa9 := L2.2.1) (fq9 := L2.2.2) (fq := M2.2.2.1) (fh := M2.2.2.2.1) (xf := M.2.2.2.2.1) (xt := M.2.2.2.2.2.1) (xg := M.2.2.2.2.2.2) hFI hL2 hM2 (by rw [← m4]; exact m5)
    subst eA
    subst eB
    refine ⟨by show nI M.2.2.1 = nI M2.2.2.1; rw [m3], rfl, rfl, m3, m1, m2, m4, rfl, rfl, rfl, rfl, w1', ⟨I.1.1, I.1.2.1, I.1.2.2.1, hD4⟩, ⟨?_, ?_, K.1.2, m5, ?_, ?_⟩, Hs, I.2.2.2⟩
    · show M.2.2.1 ≤ 1328; rw [m3]; exact J2
    · show M.2.2.2.1 ≤ 96; rw [m4]; exact J3
    · show ∀ h, h < M.2.2.2.1 → _; rw [m4]; exact J4
    · intro _
      show ∃ Jv, JP M.2.2.1 M.2.2.2.1 bc1 M.1 M.2.1 M2.2.2.2.2 st1 L.1 Jv ∧ _
      rw [m3, m4, m1, m2, w1']
      exact J1
  · have hf : (f_FF_originalIsFine n hn f g fr to tg d ov).1 = 0 := e2.mpr h0
    rw [if_pos hf, e1] at eA
    unfold f_MO_flatten at eB
    rw [if_neg h0] at eB
    subst eA
    subst eB
    exact ⟨rfl, rfl, rfl, rfl, rfl, rfl, rfl, rfl, rfl, rfl, rfl, rfl, ⟨I.1.1, I.1.2.1, I.1.2.2.1, hD4⟩, I.2⟩
end Fl
