-- draws and order
theorem lr_eq (b : Nat) (hb : b < 2 ^ 31) : ∀ (kf ag : Nat) (st : Nat → Int32) (g : Int32), lr_BL_drawStates b kf ag st g = lr_MO_drawAll b kf st g := by
  intro kf
  induction kf with
  | zero => intro ag st g; rw [lr_BL_drawStates, lr_MO_drawAll]
  | succ kf ih =>
    intro ag st g
    rw [lr_BL_drawStates, lr_MO_drawAll]
    by_cases h : f_MO_taken b st = 0
    · have h2 : f_BL_among b st (st b) = -1 := (am_0 hb st (st b)).mpr ((tk_0 b st).mp h)
      rw [if_pos h, if_pos h2]
    · have h2 : ¬ f_BL_among b st (st b) = -1 := fun h3 => h ((tk_0 b st).mpr ((am_0 hb st (st b)).mp h3))
      rw [if_neg h, if_neg h2, ih]
theorem lp_draw_eq {c : Nat} (hc : c < 2 ^ 31) : ∀ (kf b : Nat) (st : Nat → Int32) (g : Int32), b + kf = c → lp_BL_drawStates kf b st g = lpA_MO_drawAll kf b st g := by
  intro kf
  induction kf with
  | zero => intro b st g _; rw [lp_BL_drawStates, lpA_MO_drawAll]
  | succ kf ih =>
    intro b st g h
    rw [lp_BL_drawStates, lpA_MO_drawAll, lr_eq b (by omega)]
    exact ih (b + 1) _ _ (by omega)
theorem draw_eq {bc : Nat} (hb : bc < 2 ^ 31) (gg : Int32) (st od dw : Nat → Int32) : (f_BL_drawStates bc gg st).1 = (f_MO_drawAll bc gg st od dw).2.1 ∧ (f_BL_drawStates bc gg st) = lpA_MO_drawAll bc 0 st gg := by
  unfold f_BL_drawStates f_MO_drawAll
  rw [lp_draw_eq hb bc 0 st gg (by omega)]
  exact ⟨rfl, rfl⟩
theorem lr_other (b : Nat) : ∀ (kf : Nat) (st : Nat → Int32) (g : Int32) (k : Nat), k ≠ b → (lr_MO_drawAll b kf st g).1 k = st k := by
  intro kf
  induction kf with
  | zero => intro st g k hk; rfl
  | succ kf ih =>
    intro st g k hk
    rw [lr_MO_drawAll]
    by_cases h : f_MO_taken b st = 0
    · rw [if_pos h]
    · rw [if_neg h, ih _ _ _ hk, pk_un hk]
/-- the states differ -/
def Dst (c : Nat) (st : Nat → Int32) : Prop := ∀ i j, i < c → j < c → st i = st j → i = j
theorem lpA_dst {c : Nat} (hc : c ≤ 32) : ∀ (kf b : Nat) (st : Nat → Int32) (g : Int32), b + kf = c → Dst b st → (∀ k, k < b → ∃ x, st k = dr x) → Dst c (lpA_MO_drawAll kf b st g).1 ∧ ∀ k, k < c → ∃ x, (lpA_MO_drawAll kf b st g).1 k = dr x := by
  intro kf
  induction kf with
  | zero =>
    intro b st g h hD hx
    have e : b = c := by omega
    subst e
    exact ⟨hD, hx⟩
  | succ kf ih =>
    intro b st g h hD hx
    rw [lpA_MO_drawAll]
    obtain ⟨l1, l2, l3⟩ := lr_rd b (upd st b (dr (gn g))) 7936 (upd st b (dr (gn g))) (gn g) pk_us (fun _ _ => rfl)
    have hT := taken_ends (b := b) (by omega) (upd st b (dr (gn g))) (gn g) pk_us
    rw [tk_0] at hT
    have old : ∀ k, k < b → (lr_MO_drawAll b 7936 (upd st b (dr (gn g))) (gn g)).1 k = st k := fun k hk => by rw [lr_other b _ _ _ k (by omega), pk_un (by omega)]
    have new : ∀ k, k < b → ¬ (lr_MO_drawAll b 7936 (upd st b (dr (gn g))) (gn g)).1 k = (lr_MO_drawAll b 7936 (upd st b (dr (gn g))) (gn g)).1 b := by
      intro k hk e
      rw [seen_of e hk] at hT
      cases hT
    apply ih (b + 1) _ _ (by omega)
    · intro i j hi hj e
      by_cases ei : i = b
      · by_cases ej : j = b
        · omega
        · subst ei
          exact absurd e.symm (new j (by omega))
      · by_cases ej : j = b
        · subst ej
          exact absurd e (new i (by omega))
        · rw [old i (by omega), old j (by omega)] at e
          exact hD i j (by omega) (by omega) e
    · intro k hk
      by_cases e : k = b
      · subst e; exact ⟨_, l2⟩
      · rw [old k (by omega)]; exact hx k (by omega)
theorem lq_insP (st : Nat → Int32) (b : Nat) : ∀ (kf : Nat) (bs : Nat → Int32), lq_BL_sort st b kf kf bs = insP st (st b) kf bs := by
  intro kf
  induction kf with
  | zero => intro bs; rfl
  | succ kf ih =>
    intro bs
    rw [lq_BL_sort, insP]
    have e : kf + 1 - 1 = kf := by omega
    rw [e]
    by_cases h : st (tn (bs kf)) ≤ st b
    · have h2 : ¬ st b < st (bs kf).toNatClampNeg := by
        show ¬ st b < st (tn (bs kf))
        rw [i32_lt_iff]; rw [Int32.le_iff_toInt_le] at h; omega
      rw [if_pos h, if_neg h2]
    · have h2 : st b < st (bs kf).toNatClampNeg := by
        show st b < st (tn (bs kf))
        rw [i32_lt_iff]; rw [Int32.le_iff_toInt_le] at h; omega
      rw [if_neg h, if_pos h2, ih]
theorem lp_srt (st bs0 : Nat → Int32) : ∀ (kf b : Nat), lp_BL_sort st kf b (srt st b bs0) = srt st (b + kf) bs0 := by
  intro kf
  induction kf with
  | zero => intro b; rfl
  | succ kf ih =>
    intro b
    rw [lp_BL_sort, lq_insP]
    have e : upd (insP st (st b) b (srt st b bs0)).2 (insP st (st b) b (srt st b bs0)).1 (nI b) = srt st (b + 1) bs0 := rfl
    rw [e, ih (b + 1), show b + 1 + kf = b + (kf + 1) by omega]
theorem sort_srt {c : Nat} (hc : c < 2 ^ 31) {st : Nat → Int32} (hD : Dst c st) (bs : Nat → Int32) : Srt st c (f_BL_sortByState c st bs) := by
  have e : f_BL_sortByState c st bs = srt st c bs := by
    have := lp_srt st bs c 0
    rw [Nat.zero_add] at this
    exact this
  rw [e]
  exact srt_ok hc hD bs c (Nat.le_refl _)
theorem rk_inj {st : Nat → Int32} {c i j : Nat} (hD : Dst c st) (hi : i < c) (hj : j < c) (h : rk st c (st i) = rk st c (st j)) : i = j := by
  apply hD i j hi hj
  apply Classical.byContradiction
  intro hne
  by_cases hlt : st i < st j
  · have := rk_lt st c hi hlt; omega
  · have := rk_lt st c hj (i32_lt_of_ne hlt hne); omega
theorem lpB_at {bc : Nat} {st : Nat → Int32} (hD : Dst bc st) : ∀ (kf b : Nat) (od : Nat → Int32), b + kf = bc → (∀ k, k < b → od (rk st bc (st k)) = nI k) → ∀ k, k < bc → (lpB_MO_drawAll bc st kf b od) (rk st bc (st k)) = nI k := by
  intro kf
  induction kf with
  | zero => intro b od h h2 k hk; exact h2 k (by omega)
  | succ kf ih =>
    intro b od h h2
    rw [lpB_MO_drawAll, rank_eq]
    apply ih (b + 1) _ (by omega)
    intro k hk
    by_cases e : k = b
    · subst e; exact pk_us
    · rw [pk_un (fun e2 => e (rk_inj hD (by omega) (by omega) e2))]
      exact h2 k (by omega)
theorem od_bs {bc : Nat} (hb : bc < 2 ^ 31) {st : Nat → Int32} (hD : Dst bc st) (od bs : Nat → Int32) : ∀ q, q < bc → (lpB_MO_drawAll bc st bc 0 od) q = f_BL_sortByState bc st bs q := by
  intro q hq
  obtain ⟨j, hj, e1, e2⟩ := sort_srt hb hD bs q hq
  rw [e1, ← e2]
  exact lpB_at hD bc 0 od (by omega) (fun k hk => by omega) j hj
theorem od_inj {bc : Nat} (hb : bc < 2 ^ 31) {st : Nat → Int32} (hD : Dst bc st) (bs : Nat → Int32) {q r : Nat} (hq : q < bc) (hr : r < bc) (h : f_BL_sortByState bc st bs q = f_BL_sortByState bc st bs r) : q = r := by
  obtain ⟨j, hj, e1, e2⟩ := sort_srt hb hD bs q hq
  obtain ⟨k, hk, e3, e4⟩ := sort_srt hb hD bs r hr
  rw [e1, e3] at h
  have := nn_eq (by omega) (by omega) h
  subst this
  omega
-- the four draws of each block
theorem gi_s (k : Nat) (g : Int32) : gi k (gn g) = gi (k + 1) g := it_in gn k g
theorem lpD_at (od : Nat → Int32) (q : Nat) : ∀ (kf k2 : Nat) (dw : Nat → Int32) (g : Int32) (x : Nat), (lpD_MO_drawAll od q kf k2 dw g).1 x = (if 4 * tn (od q) + k2 ≤ x ∧ x < 4 * tn (od q) + k2 + kf then dr (gi (x - (4 * tn (od q) + k2) + 1) g) else dw x) ∧ (lpD_MO_drawAll od q kf k2 dw g).2 = gi kf g := by
  intro kf
  induction kf with
  | zero => intro k2 dw g x; rw [if_neg (by omega)]; exact ⟨rfl, rfl⟩
  | succ kf ih =>
    intro k2 dw g x
    rw [lpD_MO_drawAll]
    have hi := ih (k2 + 1) (upd dw (4 * tn (od q) + k2) (dr (gn g))) (gn g) x
    have hg : ∀ k, gi k (gn g) = gi (k + 1) g := fun k => gi_s k g
    refine ⟨?_, by rw [hi.2, hg]⟩
    rw [hi.1]
    by_cases e : x = 4 * tn (od q) + k2
    · rw [if_neg (by omega), if_pos (by omega), e, pk_us, Nat.sub_self]; rfl
    · by_cases h : 4 * tn (od q) + (k2 + 1) ≤ x ∧ x < 4 * tn (od q) + (k2 + 1) + kf
      · rw [if_pos h, if_pos (by omega), hg]
        congr 2
        omega
      · rw [if_neg h, if_neg (by omega), pk_un e]
theorem gi_add (a b : Nat) : ∀ g : Int32, gi a (gi b g) = gi (a + b) g := by
  intro g
  induction b generalizing g with
  | zero => rfl
  | succ b ih =>
    have e1 : gi (b + 1) g = gi b (gn g) := (gi_s b g).symm
    have e2 : gi (a + (b + 1)) g = gi (a + b) (gn g) := (gi_s (a + b) g).symm
    rw [e1, e2, ih]
theorem lpC_at {bc : Nat} {od : Nat → Int32} (hi : ∀ q r, q < bc → r < bc → tn (od q) = tn (od r) → q = r) : ∀ (kf q : Nat) (dw : Nat → Int32) (g : Int32), q + kf = bc → (∀ r, q ≤ r → r < bc → ∀ k, k < 4 → (lpC_MO_drawAll od kf q dw g).1 (4 * tn (od r) + k) = dr (gi (4 * (r - q) + k + 1) g)) ∧ (∀ r, r < q → ∀ k, k < 4 → (lpC_MO_drawAll od kf q dw g).1 (4 * tn (od r) + k) = dw (4 * tn (od r) + k)) := by
  intro kf
  induction kf with
  | zero => intro q dw g h; exact ⟨fun r h1 h2 => by omega, fun r h1 k hk => rfl⟩
  | succ kf ih =>
    intro q dw g h
    rw [lpC_MO_drawAll]
    have hd := fun x => lpD_at od q 4 0 dw g x
    obtain ⟨a1, a2⟩ := ih (q + 1) (lpD_MO_drawAll od q 4 0 dw g).1 (lpD_MO_drawAll od q 4 0 dw g).2 (by omega)
    constructor
    · intro r h1 h2 k hk
      by_cases e : r = q
      · subst e
        rw [a2 r (by omega) k hk, (hd _).1, if_pos (by omega), Nat.sub_self]
        congr 2
        omega
      · rw [a1 r (by omega) h2 k hk, (hd 0).2, gi_add]
        congr 2
        omega
    · intro r h1 k hk
      rw [a2 r (by omega) k hk, (hd _).1]
      have hne : tn (od r) ≠ tn (od q) := fun e => by have := hi r q (by omega) (by omega) e; omega
      rw [if_neg (by omega)]
theorem dr_Nn {dw : Nat → Int32} {k : Nat} {x : Int32} (e : dw k = dr x) : Nn dw k (2 ^ 24) := by
  unfold Nn
  rw [e]
  exact dr_n x
/-- what is drawn: the same states, the same order, the draws in the order of the blocks -/
theorem draws_all {bc : Nat} (hb : bc ≤ 32) (v : Int32) (st od dw bs : Nat → Int32) : (f_BL_drawStates bc v st).1 = (f_MO_drawAll bc v st od dw).2.1 ∧ Dst bc (f_BL_drawStates bc v st).1 ∧ (∀ k, k < bc → ∃ x, (f_BL_drawStates bc v st).1 k = dr x) ∧
    (∀ q, q < bc → (f_MO_drawAll bc v st od dw).2.2.1 q = f_BL_sortByState bc (f_BL_drawStates bc v st).1 bs q) ∧
    (∀ q, q < bc → ∀ k, k < 4 → (f_MO_drawAll bc v st od dw).2.2.2 (4 * tn ((f_MO_drawAll bc v st od dw).2.2.1 q) + k) = dr (gi (4 * q + k + 1) (f_BL_drawStates bc v st).2)) ∧ BO bc (f_MO_drawAll bc v st od dw).2.2.1 (f_MO_drawAll bc v st od dw).2.2.2 := by
  obtain ⟨e1, e2⟩ := draw_eq (bc := bc) (by omega) v st od dw
  have hA := lpA_dst (c := bc) hb bc 0 st v (by omega) (fun i j hi => by omega) (fun k hk => by omega)
  rw [e2] at e1 ⊢
  obtain ⟨hD, hx⟩ := hA
  have hob := od_bs (bc := bc) (by omega) hD od bs
  have hinj : ∀ q r, q < bc → r < bc → tn ((lpB_MO_drawAll bc (lpA_MO_drawAll bc 0 st v).1 bc 0 od) q) = tn ((lpB_MO_drawAll bc (lpA_MO_drawAll bc 0 st v).1 bc 0 od) r) → q = r := by
    intro q r hq hr h
    rw [hob q hq, hob r hr] at h
    obtain ⟨n1, _⟩ := (sort_ok (lpA_MO_drawAll bc 0 st v).1 bs (c := bc) (by omega)).1 q hq
    obtain ⟨n2, _⟩ := (sort_ok (lpA_MO_drawAll bc 0 st v).1 bs (c := bc) (by omega)).1 r hr
    exact od_inj (by omega) hD bs hq hr (by rw [n1, n2, h])
  have hC := (lpC_at hinj bc 0 dw (lpA_MO_drawAll bc 0 st v).2 (by omega)).1
  have hdw : ∀ q, q < bc → ∀ k, k < 4 → (f_MO_drawAll bc v st od dw).2.2.2 (4 * tn ((f_MO_drawAll bc v st od dw).2.2.1 q) + k) = dr (gi (4 * q + k + 1) (lpA_MO_drawAll bc 0 st v).2) := by
    intro q hq k hk
    have := hC q (by omega) hq k hk
    rw [Nat.sub_zero] at this
    exact this
  refine ⟨e1, hD, hx, hob, hdw, ?_, ?_, ?_⟩
  · intro q hq
    show Nn (lpB_MO_drawAll bc (lpA_MO_drawAll bc 0 st v).1 bc 0 od) q bc
    unfold Nn
    rw [hob q hq]
    exact (sort_ok (lpA_MO_drawAll bc 0 st v).1 bs (by omega)).1 q hq
  · intro F
    rw [← (sort_ok (lpA_MO_drawAll bc 0 st v).1 bs (c := bc) (by omega)).2 F]
    exact sm_c (fun q hq => by show F (tn ((lpB_MO_drawAll bc (lpA_MO_drawAll bc 0 st v).1 bc 0 od) q)) = _; rw [hob q hq])
  · intro b hb2 k hk
    have hperm : ∀ F : Nat → Nat, sm (fun q => F (tn ((f_MO_drawAll bc v st od dw).2.2.1 q))) bc = sm F bc := by
      intro F
      rw [← (sort_ok (lpA_MO_drawAll bc 0 st v).1 bs (c := bc) (by omega)).2 F]
      exact sm_c (fun q hq => by show F (tn ((lpB_MO_drawAll bc (lpA_MO_drawAll bc 0 st v).1 bc 0 od) q)) = _; rw [hob q hq])
    obtain ⟨q, hq, e⟩ := sm_has hperm hb2
    rw [← e]
    exact dr_Nn (hdw q hq k hk)
