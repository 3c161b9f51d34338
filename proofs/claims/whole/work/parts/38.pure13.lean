-- blocks are found: class and reference, and what holds of them
theorem find_cut {n hn : Nat} {mk f g fr to tg hd d : Nat → Int32} (hl : ∀ i, i < 32 → ((¬ (f_BL_mark n hn mk f g fr to tg d) i = 0 ∧ ¬ f_CH_reached i d = 0) ↔ ¬ f_MO_isLeader n hn i f g hd d = 0)) (hend : ∀ i, n ≤ i → i < 32 → f_MO_isLeader n hn i f g hd d = 0) : ∀ (kf i bq : Nat) (le he sa la : Nat → Int32), i + kf = 32 →
    (lp_BL_find n hn mk f g fr to tg d kf i bq le he sa).1 = (lp_MO_cut n hn f g hd d (n - i) i bq le la he).1 ∧ (lp_BL_find n hn mk f g fr to tg d kf i bq le he sa).2.1 = (lp_MO_cut n hn f g hd d (n - i) i bq le la he).2.1 ∧ (lp_BL_find n hn mk f g fr to tg d kf i bq le he sa).2.2.1 = (lp_MO_cut n hn f g hd d (n - i) i bq le la he).2.2.2 ∨ 32 < n := by
  intro kf
  induction kf with
  | zero =>
    intro i bq le he sa la h
    by_cases hn2 : 32 < n
    · exact Or.inr hn2
    · rw [show n - i = 0 by omega]
      exact Or.inl ⟨rfl, rfl, rfl⟩
  | succ kf ih =>
    intro i bq le he sa la h
    by_cases h1 : f_MO_isLeader n hn i f g hd d = 0
    · have e : lp_BL_find n hn mk f g fr to tg d (kf + 1) i bq le he sa = lp_BL_find n hn mk f g fr to tg d kf (i + 1) bq le he (upd sa i (-1)) := by
        rw [lp_BL_find]
        by_cases h2 : (f_BL_mark n hn mk f g fr to tg d) i = 0
        · rw [if_pos h2]
        · rw [if_neg h2]
          by_cases h3 : f_CH_reached i d = 0
          · rw [if_pos h3]
          · exact absurd h1 ((hl i (by omega)).mp ⟨h2, h3⟩)
      rw [e]
      have e2 : lp_MO_cut n hn f g hd d (n - i) i bq le la he = lp_MO_cut n hn f g hd d (n - (i + 1)) (i + 1) bq le la he := by
        by_cases hi : i < n
        · rw [show n - i = (n - (i + 1)) + 1 by omega, lp_MO_cut, if_pos h1]
        · rw [show n - i = 0 by omega, show n - (i + 1) = 0 by omega, lp_MO_cut, lp_MO_cut]
      rw [e2]
      exact ih (i + 1) bq le he _ la (by omega)
    · obtain ⟨h2, h3⟩ := (hl i (by omega)).mpr h1
      have hi : i < n := Nat.lt_of_not_le (fun h9 => h1 (hend i h9 (by omega)))
      rw [lp_BL_find, if_neg h2, if_neg h3, show n - i = (n - (i + 1)) + 1 by omega, lp_MO_cut, if_neg h1]
      exact ih (i + 1) (bq + 1) _ _ _ _ (by omega)
def FD (IL d : Nat → Int32) (i bq : Nat) (le he sa : Nat → Int32) : Prop := bq ≤ i ∧ (∀ b, b < bq → Nn le b i ∧ ¬ IL (tn (le b)) = 0 ∧ he b = d (tn (le b))) ∧ (∀ b c, b < c → c < bq → tn (le b) < tn (le c)) ∧ (∀ j, j < i → IL j = 0 → sa j = -1) ∧ (∀ j, j < i → ¬ IL j = 0 → Nn sa j bq ∧ tn (le (tn (sa j))) = j)
theorem FD_skip {IL d : Nat → Int32} {i bq : Nat} {le he sa : Nat → Int32} (h : FD IL d i bq le he sa) (h1 : IL i = 0) : FD IL d (i + 1) bq le he (upd sa i (-1)) := by
  obtain ⟨a1, a2, a3, a4, a5⟩ := h
  refine ⟨by omega, fun b hb => ?_, a3, fun j hj hz => ?_, fun j hj hz => ?_⟩
  · obtain ⟨⟨b1, b2⟩, b3⟩ := a2 b hb
    exact ⟨⟨b1, by omega⟩, b3⟩
  · by_cases e : j = i
    · subst e; exact pk_us
    · rw [pk_un e]; exact a4 j (by omega) hz
  · have e : j ≠ i := fun e => hz (by rw [e]; exact h1)
    unfold Nn
    rw [pk_un e]
    exact a5 j (by omega) hz
theorem FD_take {IL d : Nat → Int32} {i bq : Nat} {le he sa : Nat → Int32} (hi : i < 2 ^ 31) (h : FD IL d i bq le he sa) (h1 : ¬ IL i = 0) : FD IL d (i + 1) (bq + 1) (upd le bq (nI i)) (upd he bq (d i)) (upd (upd sa i (-1)) i (nI bq)) := by
  obtain ⟨a1, a2, a3, a4, a5⟩ := h
  refine ⟨by omega, fun b hb => ?_, fun b c hb hc => ?_, fun j hj hz => ?_, fun j hj hz => ?_⟩
  · by_cases e : b = bq
    · subst e
      unfold Nn
      rw [pk_us, pk_us, tn_nI hi]
      exact ⟨⟨rfl, by omega⟩, h1, rfl⟩
    · obtain ⟨⟨b1, b2⟩, b3⟩ := a2 b (by omega)
      unfold Nn
      rw [pk_un e, pk_un e]
      exact ⟨⟨b1, by omega⟩, b3⟩
  · rw [pk_un (by omega : b ≠ bq)]
    by_cases e : c = bq
    · subst e; rw [pk_us, tn_nI hi]; exact (a2 b (by omega)).1.2
    · rw [pk_un e]; exact a3 b c hb (by omega)
  · have e : j ≠ i := fun e => h1 (by rw [← e]; exact hz)
    rw [pk_un e, pk_un e]
    exact a4 j (by omega) hz
  · by_cases e : j = i
    · subst e
      unfold Nn
      rw [pk_us, tn_nI (by omega), pk_us, tn_nI hi]
      exact ⟨⟨rfl, by omega⟩, rfl⟩
    · obtain ⟨⟨b1, b2⟩, b3⟩ := a5 j (by omega) hz
      unfold Nn
      rw [pk_un e, pk_un e, pk_un (by omega : tn (sa j) ≠ bq)]
      exact ⟨⟨b1, by omega⟩, b3⟩
theorem find_FD {n hn : Nat} {mk f g fr to tg hd d : Nat → Int32} (hl : ∀ i, i < 32 → ((¬ (f_BL_mark n hn mk f g fr to tg d) i = 0 ∧ ¬ f_CH_reached i d = 0) ↔ ¬ f_MO_isLeader n hn i f g hd d = 0)) : ∀ (kf i bq : Nat) (le he sa : Nat → Int32), i + kf = 32 → FD (fun i => f_MO_isLeader n hn i f g hd d) d i bq le he sa →
    FD (fun i => f_MO_isLeader n hn i f g hd d) d 32 (lp_BL_find n hn mk f g fr to tg d kf i bq le he sa).1 (lp_BL_find n hn mk f g fr to tg d kf i bq le he sa).2.1 (lp_BL_find n hn mk f g fr to tg d kf i bq le he sa).2.2.1 (lp_BL_find n hn mk f g fr to tg d kf i bq le he sa).2.2.2 := by
  intro kf
  induction kf with
  | zero =>
    intro i bq le he sa h hF
    have e : i = 32 := by omega
    subst e
    exact hF
  | succ kf ih =>
    intro i bq le he sa h hF
    by_cases h1 : f_MO_isLeader n hn i f g hd d = 0
    · have e : lp_BL_find n hn mk f g fr to tg d (kf + 1) i bq le he sa = lp_BL_find n hn mk f g fr to tg d kf (i + 1) bq le he (upd sa i (-1)) := by
        rw [lp_BL_find]
        by_cases h2 : (f_BL_mark n hn mk f g fr to tg d) i = 0
        · rw [if_pos h2]
        · rw [if_neg h2]
          by_cases h3 : f_CH_reached i d = 0
          · rw [if_pos h3]
          · exact absurd h1 ((hl i (by omega)).mp ⟨h2, h3⟩)
      rw [e]
      exact ih (i + 1) bq le he _ (by omega) (FD_skip hF h1)
    · obtain ⟨h2, h3⟩ := (hl i (by omega)).mpr h1
      rw [lp_BL_find, if_neg h2, if_neg h3]
      exact ih (i + 1) (bq + 1) _ _ _ (by omega) (FD_take (by omega) hF h1)
theorem lq_ok {n hn : Nat} {f g hd d : Nat → Int32} (hfall : ∀ i, i < n → 0 ≤ d i → f_MO_jumps (f i) = 0 → f_MO_ends (f i) = 0 → i + 1 < n ∧ 0 ≤ d (i + 1)) : ∀ (kf ed : Nat), ed + kf + 1 = n → 0 ≤ d ed → ed ≤ lq_MO_cut n hn f g hd d kf ed ∧ lq_MO_cut n hn f g hd d kf ed < n ∧ 0 ≤ d (lq_MO_cut n hn f g hd d kf ed) ∧ (∀ j, ed ≤ j → j < lq_MO_cut n hn f g hd d kf ed → f_MO_jumps (f j) = 0 ∧ f_MO_ends (f j) = 0 ∧ f_MO_isLeader n hn (j + 1) f g hd d = 0) ∧ (¬ f_MO_jumps (f (lq_MO_cut n hn f g hd d kf ed)) = 0 ∨ ¬ f_MO_ends (f (lq_MO_cut n hn f g hd d kf ed)) = 0 ∨ ¬ f_MO_isLeader n hn (lq_MO_cut n hn f g hd d kf ed + 1) f g hd d = 0) := by
  intro kf
  induction kf with
  | zero =>
    intro ed h h0
    have e : lq_MO_cut n hn f g hd d 0 ed = ed := by rw [lq_MO_cut]; split <;> rfl
    rw [e]
    refine ⟨Nat.le_refl _, by omega, h0, fun j h1 h2 => by omega, ?_⟩
    by_cases h1 : f_MO_jumps (f ed) = 0
    · by_cases h2 : f_MO_ends (f ed) = 0
      · have := (hfall ed (by omega) h0 h1 h2).1; omega
      · exact Or.inr (Or.inl h2)
    · exact Or.inl h1
  | succ kf ih =>
    intro ed h h0
    rw [lq_MO_cut]
    by_cases h1 : f_MO_jumps (f ed) = 0
    · rw [if_pos h1]
      by_cases h2 : f_MO_ends (f ed) = 0
      · rw [if_pos h2]
        by_cases h3 : f_MO_isLeader n hn (ed + 1) f g hd d = 0
        · rw [if_pos h3]
          obtain ⟨a1, a2, a3, a4, a5⟩ := ih (ed + 1) (by omega) (hfall ed (by omega) h0 h1 h2).2
          refine ⟨by omega, a2, a3, fun j hj hj2 => ?_, a5⟩
          by_cases e : j = ed
          · subst e; exact ⟨h1, h2, h3⟩
          · exact a4 j (by omega) hj2
        · rw [if_neg h3]
          exact ⟨Nat.le_refl _, by omega, h0, fun j h4 h5 => by omega, Or.inr (Or.inr h3)⟩
      · rw [if_neg h2]
        exact ⟨Nat.le_refl _, by omega, h0, fun j h4 h5 => by omega, Or.inr (Or.inl h2)⟩
    · rw [if_neg h1]
      exact ⟨Nat.le_refl _, by omega, h0, fun j h4 h5 => by omega, Or.inl h1⟩
theorem cut_la {n hn : Nat} {f g hd d : Nat → Int32} (h32 : n ≤ 32) : ∀ (kf i bq : Nat) (le la he : Nat → Int32), i + kf = n → (∀ b, b < bq → la b = nI (lq_MO_cut n hn f g hd d (n - 1 - tn (le b)) (tn (le b)))) → ∀ b, b < (lp_MO_cut n hn f g hd d kf i bq le la he).1 → (lp_MO_cut n hn f g hd d kf i bq le la he).2.2.1 b = nI (lq_MO_cut n hn f g hd d (n - 1 - tn ((lp_MO_cut n hn f g hd d kf i bq le la he).2.1 b)) (tn ((lp_MO_cut n hn f g hd d kf i bq le la he).2.1 b))) := by
  intro kf
  induction kf with
  | zero => intro i bq le la he h h2; exact h2
  | succ kf ih =>
    intro i bq le la he h h2
    rw [lp_MO_cut]
    by_cases h1 : f_MO_isLeader n hn i f g hd d = 0
    · rw [if_pos h1]; exact ih (i + 1) bq le la he (by omega) h2
    · rw [if_neg h1]
      refine ih (i + 1) (bq + 1) _ _ _ (by omega) (fun b hb => ?_)
      by_cases e : b = bq
      · subst e; rw [pk_us, pk_us, tn_nI (by omega)]
      · rw [pk_un e, pk_un e]; exact h2 b (by omega)
-- what the check gives, as one word; what the code gives
def CKd (n hn : Nat) (f g hd d : Nat → Int32) : Prop := n ≤ 32 ∧ 0 < n ∧ D4 d ∧ d 0 = nI 0 ∧ (∀ j, n ≤ j → j < 32 → d j = -1) ∧ ∀ i, i < n → ¬ d i = -1 → Gd n hn f g hd d i
def CDe (n hn : Nat) (f g fr to tg hd : Nat → Int32) : Prop := (∀ i, i < n → Ok18 (f i)) ∧ (∀ i, i < n → ¬ f_FF_jumps (f i) = 0 → Nn g i 32) ∧ (∀ h, h < hn → Nn fr h 33 ∧ Nn to h 33 ∧ Nn tg h 33) ∧ (∀ h, h < hn → hd (3 * h) = fr h ∧ hd (3 * h + 1) = to h ∧ hd (3 * h + 2) = tg h) ∧ (∀ i, i < n → f i = 1 ∨ f i = 2 → Nn g i 4)
theorem ck_lead {n hn : Nat} {f g fr to tg hd d mk : Nat → Int32} (C : CKd n hn f g hd d) (E : CDe n hn f g fr to tg hd) : ∀ i, i < 32 → ((¬ (f_BL_mark n hn mk f g fr to tg d) i = 0 ∧ ¬ f_CH_reached i d = 0) ↔ ¬ f_MO_isLeader n hn i f g hd d = 0) := fun i hi => lead_iff C.1 C.2.2.1 C.2.2.2.2.1 hi E.2.1 E.2.2.1 E.2.2.2.1
theorem ck_lend {n hn : Nat} {f g hd d : Nat → Int32} (C : CKd n hn f g hd d) : ∀ i, n ≤ i → i < 32 → f_MO_isLeader n hn i f g hd d = 0 := by
  intro i h1 h2
  apply Classical.byContradiction
  intro h
  have := (il_iff.mp h).1
  rw [C.2.2.2.2.1 i h1 h2] at this
  exact absurd this (by decide)
theorem ck_cut {n hn : Nat} {mk f g fr to tg hd d : Nat → Int32} (C : CKd n hn f g hd d) (E : CDe n hn f g fr to tg hd) (le he sa la : Nat → Int32) : (f_BL_find n hn mk f g fr to tg d le he sa).2.1 = (f_MO_cut n hn f g hd d le la he).1 ∧ (f_BL_find n hn mk f g fr to tg d le he sa).2.2.1 = (f_MO_cut n hn f g hd d le la he).2.1 ∧ (f_BL_find n hn mk f g fr to tg d le he sa).2.2.2.1 = (f_MO_cut n hn f g hd d le la he).2.2.2 := by
  rcases find_cut (ck_lead (mk := mk) C E) (ck_lend C) 32 0 0 le he sa la (by omega) with h | h
  · exact h
  · have := C.1; omega
theorem ck_FD {n hn : Nat} {mk f g fr to tg hd d : Nat → Int32} (C : CKd n hn f g hd d) (E : CDe n hn f g fr to tg hd) (le he sa : Nat → Int32) : FD (fun i => f_MO_isLeader n hn i f g hd d) d 32 (f_BL_find n hn mk f g fr to tg d le he sa).2.1 (f_BL_find n hn mk f g fr to tg d le he sa).2.2.1 (f_BL_find n hn mk f g fr to tg d le he sa).2.2.2.1 (f_BL_find n hn mk f g fr to tg d le he sa).2.2.2.2 :=
  find_FD (ck_lead C E) 32 0 0 le he sa (by omega) ⟨Nat.le_refl _, fun b hb => by omega, fun b c h1 h2 => by omega, fun j hj => by omega, fun j hj => by omega⟩
