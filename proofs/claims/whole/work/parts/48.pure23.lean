-- a flat method's invariant: every place has a word of its own, every step leads from word to word
abbrev Pd : Type := (Nat → Int32) → (Nat → Int32) → Nat → Prop
def Nx (fq : Nat) (An : Nat → Pd) (p : Nat) : Pd := fun lo sk tq => p + 1 < fq ∧ An (p + 1) lo sk tq
def Gt (fq : Nat) (An : Nat → Pd) (x : Int32) : Pd := fun lo sk tq => ∃ q, x = nI q ∧ q < fq ∧ An q lo sk tq
def Rs (fq : Nat) (An : Nat → Pd) (x : Int32) (lo : Nat → Int32) : Prop := ¬ x = -1 → ∃ q, x = nI q ∧ q < fq ∧ ∀ sk, An q lo sk 1
def Ok (fq bc : Nat) (st fi : Nat → Int32) (cat : Int32 → Int32) (An : Nat → Pd) (p : Nat) (o a : Int32) (lo sk : Nat → Int32) (tq : Nat) : Prop :=
  (o = 0 ∧ tq < 7 ∧ Nx fq An p lo (upd sk tq a) (tq + 1)) ∨ (o = 1 ∧ tq < 7 ∧ (a = nI (tn a) ∧ tn a < 9) ∧ Nx fq An p lo (upd sk tq (lo (tn a))) (tq + 1)) ∨ (o = 2 ∧ 1 ≤ tq ∧ (a = nI (tn a) ∧ tn a < 9) ∧ Nx fq An p (upd lo (tn a) (sk (tq - 1))) sk (tq - 1)) ∨ (o = 3 ∧ 2 ≤ tq ∧ Nx fq An p lo (upd sk (tq - 1 - 1) (sk (tq - 1 - 1) + sk (tq - 1))) (tq - 1 - 1 + 1)) ∨ (o = 4 ∧ 2 ≤ tq ∧ Nx fq An p lo (upd sk (tq - 1 - 1) (sk (tq - 1 - 1) - sk (tq - 1))) (tq - 1 - 1 + 1)) ∨ (o = 5 ∧ 2 ≤ tq ∧ Nx fq An p lo (upd sk (tq - 1 - 1) (sk (tq - 1 - 1) * sk (tq - 1))) (tq - 1 - 1 + 1)) ∨ (o = 6 ∧ 2 ≤ tq ∧ Rs fq An (cat (nI p)) lo ∧ Nx fq An p lo (upd sk (tq - 1 - 1) (sk (tq - 1 - 1) / sk (tq - 1))) (tq - 1 - 1 + 1)) ∨ (o = 7 ∧ 2 ≤ tq ∧ Nx fq An p lo (upd sk (tq - 1 - 1) (sk (tq - 1 - 1) &&& sk (tq - 1))) (tq - 1 - 1 + 1)) ∨ (o = 8 ∧ 2 ≤ tq ∧ Nx fq An p lo (upd sk (tq - 1 - 1) (sk (tq - 1 - 1) ^^^ sk (tq - 1))) (tq - 1 - 1 + 1)) ∨ (o = 9 ∧ 1 ≤ tq ∧ tq < 7 ∧ Nx fq An p lo (upd sk tq (sk (tq - 1))) (tq + 1)) ∨ (o = 10 ∧ 2 ≤ tq ∧ Nx fq An p lo (upd (upd sk (tq - 1 - 1) (sk (tq - 1))) (tq - 1 - 1 + 1) (sk (tq - 1 - 1))) (tq - 1 - 1 + 1 + 1)) ∨ (o = 11 ∧ 1 ≤ tq ∧ Nx fq An p lo sk (tq - 1)) ∨ (o = 12 ∧ 1 ≤ tq ∧ Nx fq An p lo sk (tq - 1)) ∨ (o = 13 ∧ Gt fq An a lo sk tq) ∨ (o = 14 ∧ 1 ≤ tq ∧ Gt fq An a lo sk (tq - 1) ∧ Nx fq An p lo sk (tq - 1)) ∨ (o = 15 ∧ 1 ≤ tq ∧ Gt fq An a lo sk (tq - 1) ∧ Nx fq An p lo sk (tq - 1)) ∨ (o = 16 ∧ 1 ≤ tq) ∨ (o = 17 ∧ 1 ≤ tq ∧ Rs fq An (cat (nI p)) lo) ∨ (o = 18 ∧ 1 ≤ tq ∧ ∃ b, b < bc ∧ st b = sk (tq - 1) ∧ ∃ q, fi b = nI q ∧ q < fq ∧ An q lo sk (tq - 1))
def JF (fq : Nat) (An : Nat → Pd) : (Nat → Int32) → (Nat → Int32) → Nat → Int32 → Prop := fun lo sk tq ya => ∃ p, p < fq ∧ ya = nI p ∧ An p lo sk tq
theorem di_ex {tq : Nat} {sk st : Nat → Int32} : ∀ (kf b : Nat), (∃ j, b ≤ j ∧ j < b + kf ∧ st j = sk (tq - 1)) → lp_MO_dispatch tq sk st kf b < b + kf ∧ st (lp_MO_dispatch tq sk st kf b) = sk (tq - 1) := by
  intro kf
  induction kf with
  | zero => intro b h; obtain ⟨j, h1, h2, _⟩ := h; omega
  | succ kf ih =>
    intro b h
    rw [lp_MO_dispatch]
    by_cases e : st b = sk (tq - 1)
    · rw [if_pos e]; exact ⟨by omega, e⟩
    · rw [if_neg e]
      obtain ⟨j, h1, h2, h3⟩ := h
      have hne : j ≠ b := fun e2 => e (by rw [← e2]; exact h3)
      obtain ⟨a1, a2⟩ := ih (b + 1) ⟨j, by omega, by omega, h3⟩
      exact ⟨by omega, a2⟩
theorem JF_P {fq fh bc : Nat} {fo fa fx xf xt xg st fi : Nat → Int32} {An : Nat → Pd} (h13 : fq ≤ 1328) (hfh : fh < 2 ^ 31) (hb : bc ≤ 32) (hD : Dst bc st) (hr : ∀ h, h < fh → fx (3 * h) = xf h ∧ fx (3 * h + 1) = xt h ∧ fx (3 * h + 2) = xg h) (ht : ∀ h, h < fh → ¬ xg h = -1)
    (hok : ∀ p, p < fq → ∀ lo sk tq, An p lo sk tq → tq ≤ 7 ∧ Ok fq bc st fi (fun x => f_CO_catcher fh xf xt xg x) An p (fo p) (fa p) lo sk tq) : JP fq fh bc fo fa fx st fi (JF fq An) := by
  constructor
  · intro lo sk tq ya hJ
    obtain ⟨p, hp, e, hA⟩ := hJ
    have et : tn ya = p := by rw [e, tn_nI (by omega)]
    obtain ⟨h7, ho⟩ := hok p hp lo sk tq hA
    have hpl : ya = nI (tn ya) ∧ tn ya < fq := by rw [et]; exact ⟨e, hp⟩
    have hI : ¬ f_CO_hasI fq ya = 0 := by
      rw [e]
      unfold f_CO_hasI
      have h1 : ¬ nI p < 0 := nI_pos (by omega)
      have h2 : ¬ nI fq ≤ nI p := fun e => by have := (nI_leI (by omega) (by omega)).mp e; omega
      rw [if_neg h1, if_neg h2]; decide
    have hdi : fo p = 18 → lp_MO_dispatch tq sk st bc 0 < bc := by
      intro e2
      unfold Ok at ho
      rw [e2] at ho
      rcases ho with h | h | h | h | h | h | h | h | h | h | h | h | h | h | h | h | h | h | h
      all_goals first
        | exact absurd h.1 (by decide)
        | (obtain ⟨_, _, b, hb2, hb3, _⟩ := h
           have := (di_ex (tq := tq) (sk := sk) (st := st) bc 0 ⟨b, Nat.zero_le _, by omega, hb3⟩).1
           omega)
    refine ⟨hI, ?_, by rw [et]; exact hdi, ?_, ?_⟩
    · rw [et]
      unfold Ok at ho
      rcases ho with h | h | h | h | h | h | h | h | h | h | h | h | h | h | h | h | h | h | h
      all_goals (rw [h.1]; decide)
    · unfold SafeM
      rw [et]
      unfold Ok at ho
      generalize fo p = o at ho
      generalize fa p = a at ho
      rcases ho with h | h | h | h | h | h | h | h | h | h | h | h | h | h | h | h | h | h | h
      · obtain ⟨e9, h⟩ := h; subst e9
        refine ⟨h7, fun h9 => ?_, fun h9 => ?_, fun h9 => ?_, fun h9 => ?_, fun h9 => ?_, fun h9 => ?_, fun h9 => ?_, fun h9 => ?_, fun h9 => ?_, fun h9 => ?_, fun h9 => ?_, fun h9 => ?_, fun b0 b1 b2 b9 b11 b12 b6 b13 b14 b15 b16 b17 b18 => ?_⟩
        all_goals first | exact absurd h9 (by decide) | exact absurd rfl (by assumption) | exact h.1 | exact h | exact ⟨h.1, h.2.1⟩
      · obtain ⟨e9, h⟩ := h; subst e9
        refine ⟨h7, fun h9 => ?_, fun h9 => ?_, fun h9 => ?_, fun h9 => ?_, fun h9 => ?_, fun h9 => ?_, fun h9 => ?_, fun h9 => ?_, fun h9 => ?_, fun h9 => ?_, fun h9 => ?_, fun h9 => ?_, fun b0 b1 b2 b9 b11 b12 b6 b13 b14 b15 b16 b17 b18 => ?_⟩
        all_goals first | exact absurd h9 (by decide) | exact absurd rfl (by assumption) | exact h.1 | exact h | exact ⟨h.1, h.2.1⟩
      · obtain ⟨e9, h⟩ := h; subst e9
        refine ⟨h7, fun h9 => ?_, fun h9 => ?_, fun h9 => ?_, fun h9 => ?_, fun h9 => ?_, fun h9 => ?_, fun h9 => ?_, fun h9 => ?_, fun h9 => ?_, fun h9 => ?_, fun h9 => ?_, fun h9 => ?_, fun b0 b1 b2 b9 b11 b12 b6 b13 b14 b15 b16 b17 b18 => ?_⟩
        all_goals first | exact absurd h9 (by decide) | exact absurd rfl (by assumption) | exact h.1 | exact h | exact ⟨h.1, h.2.1⟩
      · obtain ⟨e9, h⟩ := h; subst e9
        refine ⟨h7, fun h9 => ?_, fun h9 => ?_, fun h9 => ?_, fun h9 => ?_, fun h9 => ?_, fun h9 => ?_, fun h9 => ?_, fun h9 => ?_, fun h9 => ?_, fun h9 => ?_, fun h9 => ?_, fun h9 => ?_, fun b0 b1 b2 b9 b11 b12 b6 b13 b14 b15 b16 b17 b18 => ?_⟩
        all_goals first | exact absurd h9 (by decide) | exact absurd rfl (by assumption) | exact h.1 | exact h | exact ⟨h.1, h.2.1⟩
      · obtain ⟨e9, h⟩ := h; subst e9
        refine ⟨h7, fun h9 => ?_, fun h9 => ?_, fun h9 => ?_, fun h9 => ?_, fun h9 => ?_, fun h9 => ?_, fun h9 => ?_, fun h9 => ?_, fun h9 => ?_, fun h9 => ?_, fun h9 => ?_, fun h9 => ?_, fun b0 b1 b2 b9 b11 b12 b6 b13 b14 b15 b16 b17 b18 => ?_⟩
        all_goals first | exact absurd h9 (by decide) | exact absurd rfl (by assumption) | exact h.1 | exact h | exact ⟨h.1, h.2.1⟩
      · obtain ⟨e9, h⟩ := h; subst e9
        refine ⟨h7, fun h9 => ?_, fun h9 => ?_, fun h9 => ?_, fun h9 => ?_, fun h9 => ?_, fun h9 => ?_, fun h9 => ?_, fun h9 => ?_, fun h9 => ?_, fun h9 => ?_, fun h9 => ?_, fun h9 => ?_, fun b0 b1 b2 b9 b11 b12 b6 b13 b14 b15 b16 b17 b18 => ?_⟩
        all_goals first | exact absurd h9 (by decide) | exact absurd rfl (by assumption) | exact h.1 | exact h | exact ⟨h.1, h.2.1⟩
      · obtain ⟨e9, h⟩ := h; subst e9
        refine ⟨h7, fun h9 => ?_, fun h9 => ?_, fun h9 => ?_, fun h9 => ?_, fun h9 => ?_, fun h9 => ?_, fun h9 => ?_, fun h9 => ?_, fun h9 => ?_, fun h9 => ?_, fun h9 => ?_, fun h9 => ?_, fun b0 b1 b2 b9 b11 b12 b6 b13 b14 b15 b16 b17 b18 => ?_⟩
        all_goals first | exact absurd h9 (by decide) | exact absurd rfl (by assumption) | exact h.1 | exact h | exact ⟨h.1, h.2.1⟩
      · obtain ⟨e9, h⟩ := h; subst e9
        refine ⟨h7, fun h9 => ?_, fun h9 => ?_, fun h9 => ?_, fun h9 => ?_, fun h9 => ?_, fun h9 => ?_, fun h9 => ?_, fun h9 => ?_, fun h9 => ?_, fun h9 => ?_, fun h9 => ?_, fun h9 => ?_, fun b0 b1 b2 b9 b11 b12 b6 b13 b14 b15 b16 b17 b18 => ?_⟩
        all_goals first | exact absurd h9 (by decide) | exact absurd rfl (by assumption) | exact h.1 | exact h | exact ⟨h.1, h.2.1⟩
      · obtain ⟨e9, h⟩ := h; subst e9
        refine ⟨h7, fun h9 => ?_, fun h9 => ?_, fun h9 => ?_, fun h9 => ?_, fun h9 => ?_, fun h9 => ?_, fun h9 => ?_, fun h9 => ?_, fun h9 => ?_, fun h9 => ?_, fun h9 => ?_, fun h9 => ?_, fun b0 b1 b2 b9 b11 b12 b6 b13 b14 b15 b16 b17 b18 => ?_⟩
        all_goals first | exact absurd h9 (by decide) | exact absurd rfl (by assumption) | exact h.1 | exact h | exact ⟨h.1, h.2.1⟩
      · obtain ⟨e9, h⟩ := h; subst e9
        refine ⟨h7, fun h9 => ?_, fun h9 => ?_, fun h9 => ?_, fun h9 => ?_, fun h9 => ?_, fun h9 => ?_, fun h9 => ?_, fun h9 => ?_, fun h9 => ?_, fun h9 => ?_, fun h9 => ?_, fun h9 => ?_, fun b0 b1 b2 b9 b11 b12 b6 b13 b14 b15 b16 b17 b18 => ?_⟩
        all_goals first | exact absurd h9 (by decide) | exact absurd rfl (by assumption) | exact h.1 | exact h | exact ⟨h.1, h.2.1⟩
      · obtain ⟨e9, h⟩ := h; subst e9
        refine ⟨h7, fun h9 => ?_, fun h9 => ?_, fun h9 => ?_, fun h9 => ?_, fun h9 => ?_, fun h9 => ?_, fun h9 => ?_, fun h9 => ?_, fun h9 => ?_, fun h9 => ?_, fun h9 => ?_, fun h9 => ?_, fun b0 b1 b2 b9 b11 b12 b6 b13 b14 b15 b16 b17 b18 => ?_⟩
        all_goals first | exact absurd h9 (by decide) | exact absurd rfl (by assumption) | exact h.1 | exact h | exact ⟨h.1, h.2.1⟩
      · obtain ⟨e9, h⟩ := h; subst e9
        refine ⟨h7, fun h9 => ?_, fun h9 => ?_, fun h9 => ?_, fun h9 => ?_, fun h9 => ?_, fun h9 => ?_, fun h9 => ?_, fun h9 => ?_, fun h9 => ?_, fun h9 => ?_, fun h9 => ?_, fun h9 => ?_, fun b0 b1 b2 b9 b11 b12 b6 b13 b14 b15 b16 b17 b18 => ?_⟩
        all_goals first | exact absurd h9 (by decide) | exact absurd rfl (by assumption) | exact h.1 | exact h | exact ⟨h.1, h.2.1⟩
      · obtain ⟨e9, h⟩ := h; subst e9
        refine ⟨h7, fun h9 => ?_, fun h9 => ?_, fun h9 => ?_, fun h9 => ?_, fun h9 => ?_, fun h9 => ?_, fun h9 => ?_, fun h9 => ?_, fun h9 => ?_, fun h9 => ?_, fun h9 => ?_, fun h9 => ?_, fun b0 b1 b2 b9 b11 b12 b6 b13 b14 b15 b16 b17 b18 => ?_⟩
        all_goals first | exact absurd h9 (by decide) | exact absurd rfl (by assumption) | exact h.1 | exact h | exact ⟨h.1, h.2.1⟩
      · obtain ⟨e9, h⟩ := h; subst e9
        refine ⟨h7, fun h9 => ?_, fun h9 => ?_, fun h9 => ?_, fun h9 => ?_, fun h9 => ?_, fun h9 => ?_, fun h9 => ?_, fun h9 => ?_, fun h9 => ?_, fun h9 => ?_, fun h9 => ?_, fun h9 => ?_, fun b0 b1 b2 b9 b11 b12 b6 b13 b14 b15 b16 b17 b18 => ?_⟩
        all_goals first | exact absurd h9 (by decide) | exact absurd rfl (by assumption) | exact h.1 | exact h | exact ⟨h.1, h.2.1⟩
      · obtain ⟨e9, h⟩ := h; subst e9
        refine ⟨h7, fun h9 => ?_, fun h9 => ?_, fun h9 => ?_, fun h9 => ?_, fun h9 => ?_, fun h9 => ?_, fun h9 => ?_, fun h9 => ?_, fun h9 => ?_, fun h9 => ?_, fun h9 => ?_, fun h9 => ?_, fun b0 b1 b2 b9 b11 b12 b6 b13 b14 b15 b16 b17 b18 => ?_⟩
        all_goals first | exact absurd h9 (by decide) | exact absurd rfl (by assumption) | exact h.1 | exact h | exact ⟨h.1, h.2.1⟩
      · obtain ⟨e9, h⟩ := h; subst e9
        refine ⟨h7, fun h9 => ?_, fun h9 => ?_, fun h9 => ?_, fun h9 => ?_, fun h9 => ?_, fun h9 => ?_, fun h9 => ?_, fun h9 => ?_, fun h9 => ?_, fun h9 => ?_, fun h9 => ?_, fun h9 => ?_, fun b0 b1 b2 b9 b11 b12 b6 b13 b14 b15 b16 b17 b18 => ?_⟩
        all_goals first | exact absurd h9 (by decide) | exact absurd rfl (by assumption) | exact h.1 | exact h | exact ⟨h.1, h.2.1⟩
      · obtain ⟨e9, h⟩ := h; subst e9
        refine ⟨h7, fun h9 => ?_, fun h9 => ?_, fun h9 => ?_, fun h9 => ?_, fun h9 => ?_, fun h9 => ?_, fun h9 => ?_, fun h9 => ?_, fun h9 => ?_, fun h9 => ?_, fun h9 => ?_, fun h9 => ?_, fun b0 b1 b2 b9 b11 b12 b6 b13 b14 b15 b16 b17 b18 => ?_⟩
        all_goals first | exact absurd h9 (by decide) | exact absurd rfl (by assumption) | exact h.1 | exact h | exact ⟨h.1, h.2.1⟩
      · obtain ⟨e9, h⟩ := h; subst e9
        refine ⟨h7, fun h9 => ?_, fun h9 => ?_, fun h9 => ?_, fun h9 => ?_, fun h9 => ?_, fun h9 => ?_, fun h9 => ?_, fun h9 => ?_, fun h9 => ?_, fun h9 => ?_, fun h9 => ?_, fun h9 => ?_, fun b0 b1 b2 b9 b11 b12 b6 b13 b14 b15 b16 b17 b18 => ?_⟩
        all_goals first | exact absurd h9 (by decide) | exact absurd rfl (by assumption) | exact h.1 | exact h | exact ⟨h.1, h.2.1⟩
      · obtain ⟨e9, h⟩ := h; subst e9
        refine ⟨h7, fun h9 => ?_, fun h9 => ?_, fun h9 => ?_, fun h9 => ?_, fun h9 => ?_, fun h9 => ?_, fun h9 => ?_, fun h9 => ?_, fun h9 => ?_, fun h9 => ?_, fun h9 => ?_, fun h9 => ?_, fun b0 b1 b2 b9 b11 b12 b6 b13 b14 b15 b16 b17 b18 => ?_⟩
        all_goals first | exact absurd h9 (by decide) | exact absurd rfl (by assumption) | exact h.1 | exact h | exact ⟨h.1, h.2.1⟩
    · unfold SafeR
      rw [et] at hpl ⊢
      unfold Ok at ho
      generalize fo p = o at ho hdi
      generalize fa p = a at ho
      rcases ho with h | h | h | h | h | h | h | h | h | h | h | h | h | h | h | h | h | h | h
      · obtain ⟨e9, h⟩ := h; subst e9
        refine ⟨by omega, fun h9 => ?_, fun h9 => ?_, fun h9 => ?_, fun h9 => ?_, fun h9 => ?_, fun h9 h2 => ?_, fun h9 h2 => ?_, fun h9 => ?_, fun h9 => ?_, fun h9 => ?_, fun h9 => ?_, fun b0 b1 b2 b9 b11 b12 b16 b17 b18 bj h9 => ?_, hpl⟩
        all_goals first | exact absurd h9 (by decide) | exact absurd (by decide) h9 | exact absurd (by decide) h2 | exact absurd rfl (by assumption) | exact absurd bj (by decide) | exact h.1 | exact h | exact ⟨h.1, by have := hdi rfl; omega⟩ | exact ⟨Nat.lt_of_lt_of_le h.1 (by decide), h.2.1⟩ | exact ⟨h.1, h.2.1⟩ | exact ⟨h.1, Nat.lt_of_lt_of_le h.2.1 (by decide)⟩ | exact Nat.lt_of_lt_of_le h.1 (by decide)
      · obtain ⟨e9, h⟩ := h; subst e9
        refine ⟨by omega, fun h9 => ?_, fun h9 => ?_, fun h9 => ?_, fun h9 => ?_, fun h9 => ?_, fun h9 h2 => ?_, fun h9 h2 => ?_, fun h9 => ?_, fun h9 => ?_, fun h9 => ?_, fun h9 => ?_, fun b0 b1 b2 b9 b11 b12 b16 b17 b18 bj h9 => ?_, hpl⟩
        all_goals first | exact absurd h9 (by decide) | exact absurd (by decide) h9 | exact absurd (by decide) h2 | exact absurd rfl (by assumption) | exact absurd bj (by decide) | exact h.1 | exact h | exact ⟨h.1, by have := hdi rfl; omega⟩ | exact ⟨Nat.lt_of_lt_of_le h.1 (by decide), h.2.1⟩ | exact ⟨h.1, h.2.1⟩ | exact ⟨h.1, Nat.lt_of_lt_of_le h.2.1 (by decide)⟩ | exact Nat.lt_of_lt_of_le h.1 (by decide)
      · obtain ⟨e9, h⟩ := h; subst e9
        refine ⟨by omega, fun h9 => ?_, fun h9 => ?_, fun h9 => ?_, fun h9 => ?_, fun h9 => ?_, fun h9 h2 => ?_, fun h9 h2 => ?_, fun h9 => ?_, fun h9 => ?_, fun h9 => ?_, fun h9 => ?_, fun b0 b1 b2 b9 b11 b12 b16 b17 b18 bj h9 => ?_, hpl⟩
        all_goals first | exact absurd h9 (by decide) | exact absurd (by decide) h9 | exact absurd (by decide) h2 | exact absurd rfl (by assumption) | exact absurd bj (by decide) | exact h.1 | exact h | exact ⟨h.1, by have := hdi rfl; omega⟩ | exact ⟨Nat.lt_of_lt_of_le h.1 (by decide), h.2.1⟩ | exact ⟨h.1, h.2.1⟩ | exact ⟨h.1, Nat.lt_of_lt_of_le h.2.1 (by decide)⟩ | exact Nat.lt_of_lt_of_le h.1 (by decide)
      · obtain ⟨e9, h⟩ := h; subst e9
        refine ⟨by omega, fun h9 => ?_, fun h9 => ?_, fun h9 => ?_, fun h9 => ?_, fun h9 => ?_, fun h9 h2 => ?_, fun h9 h2 => ?_, fun h9 => ?_, fun h9 => ?_, fun h9 => ?_, fun h9 => ?_, fun b0 b1 b2 b9 b11 b12 b16 b17 b18 bj h9 => ?_, hpl⟩
        all_goals first | exact absurd h9 (by decide) | exact absurd (by decide) h9 | exact absurd (by decide) h2 | exact absurd rfl (by assumption) | exact absurd bj (by decide) | exact h.1 | exact h | exact ⟨h.1, by have := hdi rfl; omega⟩ | exact ⟨Nat.lt_of_lt_of_le h.1 (by decide), h.2.1⟩ | exact ⟨h.1, h.2.1⟩ | exact ⟨h.1, Nat.lt_of_lt_of_le h.2.1 (by decide)⟩ | exact Nat.lt_of_lt_of_le h.1 (by decide)
      · obtain ⟨e9, h⟩ := h; subst e9
        refine ⟨by omega, fun h9 => ?_, fun h9 => ?_, fun h9 => ?_, fun h9 => ?_, fun h9 => ?_, fun h9 h2 => ?_, fun h9 h2 => ?_, fun h9 => ?_, fun h9 => ?_, fun h9 => ?_, fun h9 => ?_, fun b0 b1 b2 b9 b11 b12 b16 b17 b18 bj h9 => ?_, hpl⟩
        all_goals first | exact absurd h9 (by decide) | exact absurd (by decide) h9 | exact absurd (by decide) h2 | exact absurd rfl (by assumption) | exact absurd bj (by decide) | exact h.1 | exact h | exact ⟨h.1, by have := hdi rfl; omega⟩ | exact ⟨Nat.lt_of_lt_of_le h.1 (by decide), h.2.1⟩ | exact ⟨h.1, h.2.1⟩ | exact ⟨h.1, Nat.lt_of_lt_of_le h.2.1 (by decide)⟩ | exact Nat.lt_of_lt_of_le h.1 (by decide)
      · obtain ⟨e9, h⟩ := h; subst e9
        refine ⟨by omega, fun h9 => ?_, fun h9 => ?_, fun h9 => ?_, fun h9 => ?_, fun h9 => ?_, fun h9 h2 => ?_, fun h9 h2 => ?_, fun h9 => ?_, fun h9 => ?_, fun h9 => ?_, fun h9 => ?_, fun b0 b1 b2 b9 b11 b12 b16 b17 b18 bj h9 => ?_, hpl⟩
        all_goals first | exact absurd h9 (by decide) | exact absurd (by decide) h9 | exact absurd (by decide) h2 | exact absurd rfl (by assumption) | exact absurd bj (by decide) | exact h.1 | exact h | exact ⟨h.1, by have := hdi rfl; omega⟩ | exact ⟨Nat.lt_of_lt_of_le h.1 (by decide), h.2.1⟩ | exact ⟨h.1, h.2.1⟩ | exact ⟨h.1, Nat.lt_of_lt_of_le h.2.1 (by decide)⟩ | exact Nat.lt_of_lt_of_le h.1 (by decide)
      · obtain ⟨e9, h⟩ := h; subst e9
        refine ⟨by omega, fun h9 => ?_, fun h9 => ?_, fun h9 => ?_, fun h9 => ?_, fun h9 => ?_, fun h9 h2 => ?_, fun h9 h2 => ?_, fun h9 => ?_, fun h9 => ?_, fun h9 => ?_, fun h9 => ?_, fun b0 b1 b2 b9 b11 b12 b16 b17 b18 bj h9 => ?_, hpl⟩
        all_goals first | exact absurd h9 (by decide) | exact absurd (by decide) h9 | exact absurd (by decide) h2 | exact absurd rfl (by assumption) | exact absurd bj (by decide) | exact h.1 | exact h | exact ⟨h.1, by have := hdi rfl; omega⟩ | exact ⟨Nat.lt_of_lt_of_le h.1 (by decide), h.2.1⟩ | exact ⟨h.1, h.2.1⟩ | exact ⟨h.1, Nat.lt_of_lt_of_le h.2.1 (by decide)⟩ | exact Nat.lt_of_lt_of_le h.1 (by decide)
      · obtain ⟨e9, h⟩ := h; subst e9
        refine ⟨by omega, fun h9 => ?_, fun h9 => ?_, fun h9 => ?_, fun h9 => ?_, fun h9 => ?_, fun h9 h2 => ?_, fun h9 h2 => ?_, fun h9 => ?_, fun h9 => ?_, fun h9 => ?_, fun h9 => ?_, fun b0 b1 b2 b9 b11 b12 b16 b17 b18 bj h9 => ?_, hpl⟩
        all_goals first | exact absurd h9 (by decide) | exact absurd (by decide) h9 | exact absurd (by decide) h2 | exact absurd rfl (by assumption) | exact absurd bj (by decide) | exact h.1 | exact h | exact ⟨h.1, by have := hdi rfl; omega⟩ | exact ⟨Nat.lt_of_lt_of_le h.1 (by decide), h.2.1⟩ | exact ⟨h.1, h.2.1⟩ | exact ⟨h.1, Nat.lt_of_lt_of_le h.2.1 (by decide)⟩ | exact Nat.lt_of_lt_of_le h.1 (by decide)
      · obtain ⟨e9, h⟩ := h; subst e9
        refine ⟨by omega, fun h9 => ?_, fun h9 => ?_, fun h9 => ?_, fun h9 => ?_, fun h9 => ?_, fun h9 h2 => ?_, fun h9 h2 => ?_, fun h9 => ?_, fun h9 => ?_, fun h9 => ?_, fun h9 => ?_, fun b0 b1 b2 b9 b11 b12 b16 b17 b18 bj h9 => ?_, hpl⟩
        all_goals first | exact absurd h9 (by decide) | exact absurd (by decide) h9 | exact absurd (by decide) h2 | exact absurd rfl (by assumption) | exact absurd bj (by decide) | exact h.1 | exact h | exact ⟨h.1, by have := hdi rfl; omega⟩ | exact ⟨Nat.lt_of_lt_of_le h.1 (by decide), h.2.1⟩ | exact ⟨h.1, h.2.1⟩ | exact ⟨h.1, Nat.lt_of_lt_of_le h.2.1 (by decide)⟩ | exact Nat.lt_of_lt_of_le h.1 (by decide)
      · obtain ⟨e9, h⟩ := h; subst e9
        refine ⟨by omega, fun h9 => ?_, fun h9 => ?_, fun h9 => ?_, fun h9 => ?_, fun h9 => ?_, fun h9 h2 => ?_, fun h9 h2 => ?_, fun h9 => ?_, fun h9 => ?_, fun h9 => ?_, fun h9 => ?_, fun b0 b1 b2 b9 b11 b12 b16 b17 b18 bj h9 => ?_, hpl⟩
        all_goals first | exact absurd h9 (by decide) | exact absurd (by decide) h9 | exact absurd (by decide) h2 | exact absurd rfl (by assumption) | exact absurd bj (by decide) | exact h.1 | exact h | exact ⟨h.1, by have := hdi rfl; omega⟩ | exact ⟨Nat.lt_of_lt_of_le h.1 (by decide), h.2.1⟩ | exact ⟨h.1, h.2.1⟩ | exact ⟨h.1, Nat.lt_of_lt_of_le h.2.1 (by decide)⟩ | exact Nat.lt_of_lt_of_le h.1 (by decide)
      · obtain ⟨e9, h⟩ := h; subst e9
        refine ⟨by omega, fun h9 => ?_, fun h9 => ?_, fun h9 => ?_, fun h9 => ?_, fun h9 => ?_, fun h9 h2 => ?_, fun h9 h2 => ?_, fun h9 => ?_, fun h9 => ?_, fun h9 => ?_, fun h9 => ?_, fun b0 b1 b2 b9 b11 b12 b16 b17 b18 bj h9 => ?_, hpl⟩
        all_goals first | exact absurd h9 (by decide) | exact absurd (by decide) h9 | exact absurd (by decide) h2 | exact absurd rfl (by assumption) | exact absurd bj (by decide) | exact h.1 | exact h | exact ⟨h.1, by have := hdi rfl; omega⟩ | exact ⟨Nat.lt_of_lt_of_le h.1 (by decide), h.2.1⟩ | exact ⟨h.1, h.2.1⟩ | exact ⟨h.1, Nat.lt_of_lt_of_le h.2.1 (by decide)⟩ | exact Nat.lt_of_lt_of_le h.1 (by decide)
      · obtain ⟨e9, h⟩ := h; subst e9
        refine ⟨by omega, fun h9 => ?_, fun h9 => ?_, fun h9 => ?_, fun h9 => ?_, fun h9 => ?_, fun h9 h2 => ?_, fun h9 h2 => ?_, fun h9 => ?_, fun h9 => ?_, fun h9 => ?_, fun h9 => ?_, fun b0 b1 b2 b9 b11 b12 b16 b17 b18 bj h9 => ?_, hpl⟩
        all_goals first | exact absurd h9 (by decide) | exact absurd (by decide) h9 | exact absurd (by decide) h2 | exact absurd rfl (by assumption) | exact absurd bj (by decide) | exact h.1 | exact h | exact ⟨h.1, by have := hdi rfl; omega⟩ | exact ⟨Nat.lt_of_lt_of_le h.1 (by decide), h.2.1⟩ | exact ⟨h.1, h.2.1⟩ | exact ⟨h.1, Nat.lt_of_lt_of_le h.2.1 (by decide)⟩ | exact Nat.lt_of_lt_of_le h.1 (by decide)
      · obtain ⟨e9, h⟩ := h; subst e9
        refine ⟨by omega, fun h9 => ?_, fun h9 => ?_, fun h9 => ?_, fun h9 => ?_, fun h9 => ?_, fun h9 h2 => ?_, fun h9 h2 => ?_, fun h9 => ?_, fun h9 => ?_, fun h9 => ?_, fun h9 => ?_, fun b0 b1 b2 b9 b11 b12 b16 b17 b18 bj h9 => ?_, hpl⟩
        all_goals first | exact absurd h9 (by decide) | exact absurd (by decide) h9 | exact absurd (by decide) h2 | exact absurd rfl (by assumption) | exact absurd bj (by decide) | exact h.1 | exact h | exact ⟨h.1, by have := hdi rfl; omega⟩ | exact ⟨Nat.lt_of_lt_of_le h.1 (by decide), h.2.1⟩ | exact ⟨h.1, h.2.1⟩ | exact ⟨h.1, Nat.lt_of_lt_of_le h.2.1 (by decide)⟩ | exact Nat.lt_of_lt_of_le h.1 (by decide)
      · obtain ⟨e9, h⟩ := h; subst e9
        refine ⟨by omega, fun h9 => ?_, fun h9 => ?_, fun h9 => ?_, fun h9 => ?_, fun h9 => ?_, fun h9 h2 => ?_, fun h9 h2 => ?_, fun h9 => ?_, fun h9 => ?_, fun h9 => ?_, fun h9 => ?_, fun b0 b1 b2 b9 b11 b12 b16 b17 b18 bj h9 => ?_, hpl⟩
        all_goals first | exact absurd h9 (by decide) | exact absurd (by decide) h9 | exact absurd (by decide) h2 | exact absurd rfl (by assumption) | exact absurd bj (by decide) | exact h.1 | exact h | exact ⟨h.1, by have := hdi rfl; omega⟩ | exact ⟨Nat.lt_of_lt_of_le h.1 (by decide), h.2.1⟩ | exact ⟨h.1, h.2.1⟩ | exact ⟨h.1, Nat.lt_of_lt_of_le h.2.1 (by decide)⟩ | exact Nat.lt_of_lt_of_le h.1 (by decide)
      · obtain ⟨e9, h⟩ := h; subst e9
        refine ⟨by omega, fun h9 => ?_, fun h9 => ?_, fun h9 => ?_, fun h9 => ?_, fun h9 => ?_, fun h9 h2 => ?_, fun h9 h2 => ?_, fun h9 => ?_, fun h9 => ?_, fun h9 => ?_, fun h9 => ?_, fun b0 b1 b2 b9 b11 b12 b16 b17 b18 bj h9 => ?_, hpl⟩
        all_goals first | exact absurd h9 (by decide) | exact absurd (by decide) h9 | exact absurd (by decide) h2 | exact absurd rfl (by assumption) | exact absurd bj (by decide) | exact h.1 | exact h | exact ⟨h.1, by have := hdi rfl; omega⟩ | exact ⟨Nat.lt_of_lt_of_le h.1 (by decide), h.2.1⟩ | exact ⟨h.1, h.2.1⟩ | exact ⟨h.1, Nat.lt_of_lt_of_le h.2.1 (by decide)⟩ | exact Nat.lt_of_lt_of_le h.1 (by decide)
      · obtain ⟨e9, h⟩ := h; subst e9
        refine ⟨by omega, fun h9 => ?_, fun h9 => ?_, fun h9 => ?_, fun h9 => ?_, fun h9 => ?_, fun h9 h2 => ?_, fun h9 h2 => ?_, fun h9 => ?_, fun h9 => ?_, fun h9 => ?_, fun h9 => ?_, fun b0 b1 b2 b9 b11 b12 b16 b17 b18 bj h9 => ?_, hpl⟩
        all_goals first | exact absurd h9 (by decide) | exact absurd (by decide) h9 | exact absurd (by decide) h2 | exact absurd rfl (by assumption) | exact absurd bj (by decide) | exact h.1 | exact h | exact ⟨h.1, by have := hdi rfl; omega⟩ | exact ⟨Nat.lt_of_lt_of_le h.1 (by decide), h.2.1⟩ | exact ⟨h.1, h.2.1⟩ | exact ⟨h.1, Nat.lt_of_lt_of_le h.2.1 (by decide)⟩ | exact Nat.lt_of_lt_of_le h.1 (by decide)
      · obtain ⟨e9, h⟩ := h; subst e9
        refine ⟨by omega, fun h9 => ?_, fun h9 => ?_, fun h9 => ?_, fun h9 => ?_, fun h9 => ?_, fun h9 h2 => ?_, fun h9 h2 => ?_, fun h9 => ?_, fun h9 => ?_, fun h9 => ?_, fun h9 => ?_, fun b0 b1 b2 b9 b11 b12 b16 b17 b18 bj h9 => ?_, hpl⟩
        all_goals first | exact absurd h9 (by decide) | exact absurd (by decide) h9 | exact absurd (by decide) h2 | exact absurd rfl (by assumption) | exact absurd bj (by decide) | exact h.1 | exact h | exact ⟨h.1, by have := hdi rfl; omega⟩ | exact ⟨Nat.lt_of_lt_of_le h.1 (by decide), h.2.1⟩ | exact ⟨h.1, h.2.1⟩ | exact ⟨h.1, Nat.lt_of_lt_of_le h.2.1 (by decide)⟩ | exact Nat.lt_of_lt_of_le h.1 (by decide)
      · obtain ⟨e9, h⟩ := h; subst e9
        refine ⟨by omega, fun h9 => ?_, fun h9 => ?_, fun h9 => ?_, fun h9 => ?_, fun h9 => ?_, fun h9 h2 => ?_, fun h9 h2 => ?_, fun h9 => ?_, fun h9 => ?_, fun h9 => ?_, fun h9 => ?_, fun b0 b1 b2 b9 b11 b12 b16 b17 b18 bj h9 => ?_, hpl⟩
        all_goals first | exact absurd h9 (by decide) | exact absurd (by decide) h9 | exact absurd (by decide) h2 | exact absurd rfl (by assumption) | exact absurd bj (by decide) | exact h.1 | exact h | exact ⟨h.1, by have := hdi rfl; omega⟩ | exact ⟨Nat.lt_of_lt_of_le h.1 (by decide), h.2.1⟩ | exact ⟨h.1, h.2.1⟩ | exact ⟨h.1, Nat.lt_of_lt_of_le h.2.1 (by decide)⟩ | exact Nat.lt_of_lt_of_le h.1 (by decide)
      · obtain ⟨e9, h⟩ := h; subst e9
        refine ⟨by omega, fun h9 => ?_, fun h9 => ?_, fun h9 => ?_, fun h9 => ?_, fun h9 => ?_, fun h9 h2 => ?_, fun h9 h2 => ?_, fun h9 => ?_, fun h9 => ?_, fun h9 => ?_, fun h9 => ?_, fun b0 b1 b2 b9 b11 b12 b16 b17 b18 bj h9 => ?_, hpl⟩
        all_goals first | exact absurd h9 (by decide) | exact absurd (by decide) h9 | exact absurd (by decide) h2 | exact absurd rfl (by assumption) | exact absurd bj (by decide) | exact h.1 | exact h | exact ⟨h.1, by have := hdi rfl; omega⟩ | exact ⟨Nat.lt_of_lt_of_le h.1 (by decide), h.2.1⟩ | exact ⟨h.1, h.2.1⟩ | exact ⟨h.1, Nat.lt_of_lt_of_le h.2.1 (by decide)⟩ | exact Nat.lt_of_lt_of_le h.1 (by decide)
  · intro xe xr lo ke sk tq ya em hxe hJ hen
    obtain ⟨p, hp, e, hA⟩ := hJ
    subst e
    have et : tn (nI p) = p := tn_nI (by omega)
    obtain ⟨h7, ho⟩ := hok p hp lo sk tq hA
    have next : ∀ lo sk tq, Nx fq An p lo sk tq → JF fq An lo sk tq (nI p + 1) := fun lo sk tq h => ⟨p + 1, h.1, by rw [← nI_add]; rfl, h.2⟩
    have jump : ∀ lo sk tq, Gt fq An (fa p) lo sk tq → JF fq An lo sk tq (fa (tn (nI p))) := by
      intro lo sk tq h
      obtain ⟨q, h1, h2, h3⟩ := h
      rw [et]
      exact ⟨q, h2, h1, h3⟩
    have rais : Rs fq An (f_CO_catcher fh xf xt xg (nI p)) lo → ¬ f_CO_catcher fh xf xt xg (nI p) = -1 → ∀ sk, JF fq An lo sk 1 (f_CO_catcher fh xf xt xg (nI p)) := by
      intro h hc sk
      obtain ⟨q, h1, h2, h3⟩ := h hc
      exact ⟨q, h2, h1, h3 sk⟩
    unfold Ok at ho
    rcases ho with h | h | h | h | h | h | h | h | h | h | h | h | h | h | h | h | h | h | h
    · obtain ⟨e9, h⟩ := h
      have e1 : fo (tn (nI p)) = 0 := by rw [et]; exact e9
      rw [s_0 e1, et]; exact next _ _ _ h.2
    · obtain ⟨e9, h⟩ := h
      have e1 : fo (tn (nI p)) = 1 := by rw [et]; exact e9
      rw [s_1 e1, et]; exact next _ _ _ h.2.2
    · obtain ⟨e9, h⟩ := h
      have e1 : fo (tn (nI p)) = 2 := by rw [et]; exact e9
      rw [s_2 e1, et]; exact next _ _ _ h.2.2
    · obtain ⟨e9, h⟩ := h
      have e1 : fo (tn (nI p)) = 3 := by rw [et]; exact e9
      rw [s_3 e1]; exact next _ _ _ h.2
    · obtain ⟨e9, h⟩ := h
      have e1 : fo (tn (nI p)) = 4 := by rw [et]; exact e9
      rw [s_4 e1]; exact next _ _ _ h.2
    · obtain ⟨e9, h⟩ := h
      have e1 : fo (tn (nI p)) = 5 := by rw [et]; exact e9
      rw [s_5 e1]; exact next _ _ _ h.2
    · obtain ⟨e9, h⟩ := h
      have e1 : fo (tn (nI p)) = 6 := by rw [et]; exact e9
      rw [s_6 e1 hfh hr ht] at hen ⊢
      by_cases h0 : sk (tq - 1) = 0
      · rw [if_pos h0] at hen ⊢
        by_cases hc : f_CO_catcher fh xf xt xg (nI p) = -1
        · rw [if_pos hc] at hen; exact absurd (show (2 : Int32) = 0 from hen) (by decide)
        · rw [if_neg hc]; exact rais h.2.1 hc _
      · rw [if_neg h0]; exact next _ _ _ h.2.2
    · obtain ⟨e9, h⟩ := h
      have e1 : fo (tn (nI p)) = 7 := by rw [et]; exact e9
      rw [s_7 e1]; exact next _ _ _ h.2
    · obtain ⟨e9, h⟩ := h
      have e1 : fo (tn (nI p)) = 8 := by rw [et]; exact e9
      rw [s_8 e1]; exact next _ _ _ h.2
    · obtain ⟨e9, h⟩ := h
      have e1 : fo (tn (nI p)) = 9 := by rw [et]; exact e9
      rw [s_9 e1]; exact next _ _ _ h.2.2
    · obtain ⟨e9, h⟩ := h
      have e1 : fo (tn (nI p)) = 10 := by rw [et]; exact e9
      rw [s_10 e1]; exact next _ _ _ h.2
    · obtain ⟨e9, h⟩ := h
      have e1 : fo (tn (nI p)) = 11 := by rw [et]; exact e9
      rw [s_11 e1]; exact next _ _ _ h.2
    · obtain ⟨e9, h⟩ := h
      have e1 : fo (tn (nI p)) = 12 := by rw [et]; exact e9
      rw [s_12 e1]; exact next _ _ _ h.2
    · obtain ⟨e9, h⟩ := h
      have e1 : fo (tn (nI p)) = 13 := by rw [et]; exact e9
      rw [s_13 e1]; exact jump _ _ _ h
    · obtain ⟨e9, h⟩ := h
      have e1 : fo (tn (nI p)) = 14 := by rw [et]; exact e9
      rw [s_14 e1]
      by_cases hc : sk (tq - 1) = 0
      · simp only [if_pos hc]; exact jump _ _ _ h.2.1
      · simp only [if_neg hc]; exact next _ _ _ h.2.2
    · obtain ⟨e9, h⟩ := h
      have e1 : fo (tn (nI p)) = 15 := by rw [et]; exact e9
      rw [s_15 e1]
      by_cases hc : 0 ≤ sk (tq - 1)
      · simp only [if_pos hc]; exact next _ _ _ h.2.2
      · simp only [if_neg hc]; exact jump _ _ _ h.2.1
    · obtain ⟨e9, h⟩ := h
      have e1 : fo (tn (nI p)) = 16 := by rw [et]; exact e9
      rw [s_16 e1] at hen
      exact absurd (show (1 : Int32) = 0 from hen) (by decide)
    · obtain ⟨e9, h⟩ := h
      have e1 : fo (tn (nI p)) = 17 := by rw [et]; exact e9
      rw [s_17 e1 hfh hr ht] at hen ⊢
      by_cases hc : f_CO_catcher fh xf xt xg (nI p) = -1
      · rw [if_pos hc] at hen; exact absurd (show (2 : Int32) = 0 from hen) (by decide)
      · rw [if_neg hc]; exact rais h.2 hc _
    · obtain ⟨e9, h⟩ := h
      have e1 : fo (tn (nI p)) = 18 := by rw [et]; exact e9
      rw [s_18 e1]
      obtain ⟨_, b, hb2, hb3, q, hq1, hq2, hq3⟩ := h
      obtain ⟨d1, d2⟩ := di_ex (tq := tq) (sk := sk) (st := st) bc 0 ⟨b, Nat.zero_le _, by omega, hb3⟩
      have eb : lp_MO_dispatch tq sk st bc 0 = b := hD _ _ (by omega) hb2 (by rw [d2, hb3])
      refine ⟨q, hq2, ?_, hq3⟩
      show f_MO_dispatch tq bc sk st fi = nI q
      unfold f_MO_dispatch
      rw [eb, hq1]
