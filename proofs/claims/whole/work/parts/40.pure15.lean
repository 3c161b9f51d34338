-- a step of the machine: class and reference
theorem upd_self (f : Nat → Int32) (i : Nat) : upd f i (f i) = f := by
  funext j
  by_cases e : j = i
  · subst e; exact pk_us
  · exact pk_un e
theorem i32_19 : ∀ k, k < 19 → nI k = 0 ∨ nI k = 1 ∨ nI k = 2 ∨ nI k = 3 ∨ nI k = 4 ∨ nI k = 5 ∨ nI k = 6 ∨ nI k = 7 ∨ nI k = 8 ∨ nI k = 9 ∨ nI k = 10 ∨ nI k = 11 ∨ nI k = 12 ∨ nI k = 13 ∨ nI k = 14 ∨ nI k = 15 ∨ nI k = 16 ∨ nI k = 17 ∨ nI k = 18 := by decide +kernel
theorem hat_0 {hn h : Nat} {hd : Nat → Int32} (hh : h < hn) (hn2 : hn < 2 ^ 31) : f_MO_handlerAt0 hn hd (nI h) 0 = hd (3 * h) ∧ f_MO_handlerAt0 hn hd (nI h) 1 = hd (3 * h + 1) ∧ f_MO_handlerAt0 hn hd (nI h) 2 = hd (3 * h + 2) := by
  unfold f_MO_handlerAt0
  have h1 : ¬ nI h < 0 := nI_pos (by omega)
  have h2 : ¬ nI hn ≤ nI h := fun e => by have := (nI_leI (by omega) (by omega)).mp e; omega
  rw [if_neg h1, if_neg h1, if_neg h1, if_neg h2, if_neg h2, if_neg h2, if_pos (by decide), if_pos (by decide), if_pos (by decide), tn_nI (by omega)]
  exact ⟨rfl, rfl, rfl⟩
theorem ra_01 {xe xr ya v : Int32} {hn tq : Nat} {hd sk : Nat → Int32} : ∀ (kf h : Nat), lp_MO_raise1 xe xr ya hn tq hd sk v kf h = lp_MO_raise0 xe xr ya hn tq hd sk v kf h := by
  intro kf
  induction kf with
  | zero => intro h; rfl
  | succ kf ih => intro h; rw [lp_MO_raise1, lp_MO_raise0, ih]; rfl
theorem ra_eq {xe xr ya v : Int32} {hn tq : Nat} {hd fr to tg sk : Nat → Int32} (hn2 : hn < 2 ^ 31) (hr : ∀ h, h < hn → hd (3 * h) = fr h ∧ hd (3 * h + 1) = to h ∧ hd (3 * h + 2) = tg h) (ht : ∀ h, h < hn → ¬ tg h = -1) : ∀ (kf h : Nat), h + kf ≤ hn → lp_MO_raise0 xe xr ya hn tq hd sk v kf h = (if lp_CO_catcher fr to tg ya kf h = -1 then (sk, tq, ya, 2, v) else (upd sk 0 v, 1, lp_CO_catcher fr to tg ya kf h, xe, xr)) := by
  intro kf
  induction kf with
  | zero => intro h _; rfl
  | succ kf ih =>
    intro h hh
    rw [lp_MO_raise0, lp_CO_catcher]
    obtain ⟨e1, e2, e3⟩ := hat_0 (hd := hd) (show h < hn by omega) hn2
    obtain ⟨r1, r2, r3⟩ := hr h (by omega)
    rw [e1, e2, e3, r1, r2, r3, ih (h + 1) (by omega)]
    unfold f_CO_covers
    by_cases h1 : ya < fr h
    · rw [if_pos h1, if_pos h1, if_pos rfl]
    · rw [if_neg h1, if_neg h1]
      by_cases h2 : to h ≤ ya
      · rw [if_pos h2, if_pos h2, if_pos rfl]
      · rw [if_neg h2, if_neg h2, if_neg (show ¬ (1 : Int32) = 0 by decide), if_neg (ht h (by omega))]
theorem raise_eq {ye yo xr ya v : Int32} {hn tq : Nat} {hd fr to tg sk : Nat → Int32} (hn2 : hn < 2 ^ 31) (hr : ∀ h, h < hn → hd (3 * h) = fr h ∧ hd (3 * h + 1) = to h ∧ hd (3 * h + 2) = tg h) (ht : ∀ h, h < hn → ¬ tg h = -1) :
    f_MA_raise ya ye yo hn tq sk fr to tg v = (if f_CO_catcher hn fr to tg ya = -1 then (sk, tq, ya, 2, v) else (upd sk 0 v, 1, f_CO_catcher hn fr to tg ya, ye, yo)) ∧ f_MO_raise0 ye xr ya hn tq hd sk v = (if f_CO_catcher hn fr to tg ya = -1 then (sk, tq, ya, 2, v) else (upd sk 0 v, 1, f_CO_catcher hn fr to tg ya, ye, xr)) := ⟨rfl, ra_eq hn2 hr ht hn 0 (by omega)⟩
theorem am_di (tq : Nat) (sk st : Nat → Int32) : ∀ (kf b : Nat), lp_MO_dispatch tq sk st kf b < b + kf → lp_BL_among st (sk (tq - 1)) kf b = nI (lp_MO_dispatch tq sk st kf b) := by
  intro kf
  induction kf with
  | zero => intro b h; rw [lp_MO_dispatch] at h; omega
  | succ kf ih =>
    intro b h
    rw [lp_MO_dispatch] at h ⊢
    rw [lp_BL_among]
    by_cases h1 : st b = sk (tq - 1)
    · rw [if_pos h1, if_pos h1]
    · rw [if_neg h1] at h; rw [if_neg h1, if_neg h1]; exact ih (b + 1) (by omega)
theorem ent_eq {tq bc : Nat} {sk st fi : Nat → Int32} (hb : bc ≤ 32) (h : lp_MO_dispatch tq sk st bc 0 < bc) : f_BL_entry bc st fi (sk (tq - 1)) = f_MO_dispatch tq bc sk st fi := by
  have e := am_di tq sk st bc 0 (by omega)
  unfold f_BL_entry f_MO_dispatch f_BL_among
  rw [e, tn_nI (by omega)]
  have h3 : ¬ nI (lp_MO_dispatch tq sk st bc 0) = -1 := by
    intro h2
    have h3 : (nI (lp_MO_dispatch tq sk st bc 0)).toInt = (-1 : Int32).toInt := by rw [h2]
    rw [nI_toInt (by omega)] at h3
    have h4 : (-1 : Int32).toInt = -1 := by decide
    omega
  rw [if_neg h3]
def MR (A B : (Nat → Int32) × (Nat → Int32) × (Nat → Int32) × Nat × Int32 × Nat × Int32 × Int32) (ye yo xr : Int32) : Prop := A.1 = B.1 ∧ A.2.1 = B.2.1 ∧ A.2.2.1 = B.2.2.1 ∧ A.2.2.2.1 = B.2.2.2.1 ∧ A.2.2.2.2.1 = B.2.2.2.2.1 ∧ A.2.2.2.2.2.1 = B.2.2.2.2.2.1 ∧ A.2.2.2.2.2.2.1 = B.2.2.2.2.2.2.1 ∧ ((A.2.2.2.2.2.2.1 = ye ∧ A.2.2.2.2.2.2.2 = yo ∧ B.2.2.2.2.2.2.2 = xr) ∨ (¬ A.2.2.2.2.2.2.1 = 0 ∧ A.2.2.2.2.2.2.2 = B.2.2.2.2.2.2.2))
theorem MR_same {lo ke sk : Nat → Int32} {tq em : Nat} {ya ye yo xr : Int32} : MR (lo, ke, sk, tq, ya, em, ye, yo) (lo, ke, sk, tq, ya, em, ye, xr) ye yo xr := ⟨rfl, rfl, rfl, rfl, rfl, rfl, rfl, Or.inl ⟨rfl, rfl, rfl⟩⟩
theorem MR_end {lo ke sk : Nat → Int32} {tq em : Nat} {ya ye yo xr v w : Int32} (h : ¬ w = 0) : MR (lo, ke, sk, tq, ya, em, w, v) (lo, ke, sk, tq, ya, em, w, v) ye yo xr := ⟨rfl, rfl, rfl, rfl, rfl, rfl, rfl, Or.inr ⟨h, rfl⟩⟩
theorem st0_eq {ye yo xr ya : Int32} {n hn bc tq em : Nat} {lo ke sk f g fr to tg hd st fi : Nat → Int32} (hn2 : hn < 2 ^ 31) (hb : bc ≤ 32) (hr : ∀ h, h < hn → hd (3 * h) = fr h ∧ hd (3 * h + 1) = to h ∧ hd (3 * h + 2) = tg h) (ht : ∀ h, h < hn → ¬ tg h = -1)
    (ho : f (tn ya) = nI (tn (f (tn ya))) ∧ tn (f (tn ya)) < 19) (h9 : f (tn ya) = 9 → 1 ≤ tq) (h18 : f (tn ya) = 18 → lp_MO_dispatch tq sk st bc 0 < bc) :
    MR (f_MA_goThrough ye yo hn bc tq em ya lo ke sk f g fr to tg st fi) (f_MO_step0 ye xr hn tq em bc ya f g hd lo ke sk st fi) ye yo xr := by
  have hk := i32_19 _ ho.2
  rw [← ho.1] at hk
  unfold f_MA_goThrough f_MO_step0 g40_MO_step0
  generalize f (tn ya) = o at hk h9 h18
  generalize g (tn ya) = b
  have hdiv : MR (lo, ke, (f_MA_divide ya ye yo hn tq sk fr to tg).1, (f_MA_divide ya ye yo hn tq sk fr to tg).2.1, (f_MA_divide ya ye yo hn tq sk fr to tg).2.2.1, em, (f_MA_divide ya ye yo hn tq sk fr to tg).2.2.2.1, (f_MA_divide ya ye yo hn tq sk fr to tg).2.2.2.2) (lo, ke, (f_MO_reckon0 ye xr ya hn tq hd sk 6).1, (f_MO_reckon0 ye xr ya hn tq hd sk 6).2.1, (f_MO_reckon0 ye xr ya hn tq hd sk 6).2.2.1, em, (f_MO_reckon0 ye xr ya hn tq hd sk 6).2.2.2.1, (f_MO_reckon0 ye xr ya hn tq hd sk 6).2.2.2.2) ye yo xr := by
    unfold f_MA_divide f_MO_reckon0
    rw [if_pos rfl]
    by_cases h0 : sk (tq - 1) = 0
    · simp only [if_pos h0]
      obtain ⟨e1, e2⟩ := raise_eq (ye := ye) (yo := yo) (xr := xr) (ya := ya) (v := -1) (tq := tq - 1 - 1) (sk := sk) hn2 hr ht
      rw [e1, e2]
      by_cases hc : f_CO_catcher hn fr to tg ya = -1
      · simp only [if_pos hc]; exact MR_end (by decide)
      · simp only [if_neg hc]; exact MR_same
    · simp only [if_neg h0]; exact MR_same
  have hthr : MR (lo, ke, (f_MA_raise ya ye yo hn (tq - 1) sk fr to tg (sk (tq - 1))).1, (f_MA_raise ya ye yo hn (tq - 1) sk fr to tg (sk (tq - 1))).2.1, (f_MA_raise ya ye yo hn (tq - 1) sk fr to tg (sk (tq - 1))).2.2.1, em, (f_MA_raise ya ye yo hn (tq - 1) sk fr to tg (sk (tq - 1))).2.2.2.1, (f_MA_raise ya ye yo hn (tq - 1) sk fr to tg (sk (tq - 1))).2.2.2.2) (lo, ke, (f_MO_raise0 ye xr ya hn (tq - 1) hd sk (sk (tq - 1))).1, (f_MO_raise0 ye xr ya hn (tq - 1) hd sk (sk (tq - 1))).2.1, (f_MO_raise0 ye xr ya hn (tq - 1) hd sk (sk (tq - 1))).2.2.1, em, (f_MO_raise0 ye xr ya hn (tq - 1) hd sk (sk (tq - 1))).2.2.2.1, (f_MO_raise0 ye xr ya hn (tq - 1) hd sk (sk (tq - 1))).2.2.2.2) ye yo xr := by
    obtain ⟨e1, e2⟩ := raise_eq (ye := ye) (yo := yo) (xr := xr) (ya := ya) (v := sk (tq - 1)) (tq := tq - 1) (sk := sk) hn2 hr ht
    rw [e1, e2]
    by_cases hc : f_CO_catcher hn fr to tg ya = -1
    · simp only [if_pos hc]; exact MR_end (by decide)
    · simp only [if_neg hc]; exact MR_same
  rcases hk with e | e | e | e | e | e | e | e | e | e | e | e | e | e | e | e | e | e | e <;> subst e
  · exact MR_same
  · exact MR_same
  · exact MR_same
  · exact MR_same
  · exact MR_same
  · exact MR_same
  · exact hdiv
  · exact MR_same
  · exact MR_same
  · have h1 := h9 rfl
    show MR (lo, ke, upd (upd sk (tq - 1) (sk (tq - 1))) (tq - 1 + 1) (sk (tq - 1)), tq - 1 + 1 + 1, ya + 1, em, ye, yo) (lo, ke, upd sk tq (sk (tq - 1)), tq + 1, ya + 1, em, ye, xr) ye yo xr
    rw [upd_self, show tq - 1 + 1 = tq by omega]
    exact MR_same
  · exact MR_same
  · exact MR_same
  · exact MR_same
  · exact MR_same
  · show MR (if sk (tq - 1) = 0 then (lo, ke, sk, tq - 1, b, em, ye, yo) else (lo, ke, sk, tq - 1, ya + 1, em, ye, yo)) (lo, ke, sk, (if sk (tq - 1) = 0 then (tq - 1, b) else (tq - 1, ya + 1)).1, (if sk (tq - 1) = 0 then (tq - 1, b) else (tq - 1, ya + 1)).2, em, ye, xr) ye yo xr
    by_cases h : sk (tq - 1) = 0
    · simp only [if_pos h]; exact MR_same
    · simp only [if_neg h]; exact MR_same
  · show MR (if 0 ≤ sk (tq - 1) then (lo, ke, sk, tq - 1, ya + 1, em, ye, yo) else (lo, ke, sk, tq - 1, b, em, ye, yo)) (lo, ke, sk, (if 0 ≤ sk (tq - 1) then (tq - 1, ya + 1) else (tq - 1, b)).1, (if 0 ≤ sk (tq - 1) then (tq - 1, ya + 1) else (tq - 1, b)).2, em, ye, xr) ye yo xr
    by_cases h : 0 ≤ sk (tq - 1)
    · simp only [if_pos h]; exact MR_same
    · simp only [if_neg h]; exact MR_same
  · exact MR_end (by decide)
  · exact hthr
  · have e := ent_eq (fi := fi) hb (h18 rfl)
    show MR (lo, ke, sk, tq - 1, f_BL_entry bc st fi (sk (tq - 1)), em, ye, yo) (lo, ke, sk, tq - 1, f_MO_dispatch tq bc sk st fi, em, ye, xr) ye yo xr
    rw [e]
    exact MR_same
theorem st_01 {xe xr ya : Int32} {hn bc tq em : Nat} {lo ke sk f g hd st fi : Nat → Int32} : f_MO_step1 xe xr hn tq em bc ya f g hd lo ke sk st fi = f_MO_step0 xe xr hn tq em bc ya f g hd lo ke sk st fi := by
  have e : ∀ tq v, f_MO_raise1 xe xr ya hn tq hd sk v = f_MO_raise0 xe xr ya hn tq hd sk v := fun tq v => ra_01 hn 0
  unfold f_MO_step1 f_MO_step0 g40_MO_step1 g40_MO_step0 f_MO_reckon1 f_MO_reckon0
  simp only [e]
