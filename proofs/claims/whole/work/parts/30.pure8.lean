-- going over one instruction is the same, as a whole
theorem sh_eq {α : Type} (p q : Int32) (X : α) : (if p = 0 then ((0 : Int32), X) else (if q = 0 then (0, X) else (1, X))) = ((if p = 0 then 0 else (if q = 0 then 0 else 1)), X) := by
  split
  · rfl
  · split <;> rfl
theorem stays_eq (n i : Nat) (f g : Nat → Int32) : f_CH_staysInside n i f g = 0 ↔ (¬ f_FF_goesToNext (f i) = 0 ∧ n ≤ i + 1) ∨ (¬ f_MO_jumps (f i) = 0 ∧ ¬ tn (g i) < n) := by
  have eh : ∀ k, f_CO_has n k = 0 ↔ n ≤ k := by
    intro k
    unfold f_CO_has
    by_cases h : n ≤ k
    · rw [if_pos h]; exact ⟨fun _ => h, fun _ => rfl⟩
    · rw [if_neg h]; exact ⟨fun h2 => absurd h2 (by decide), fun h2 => absurd h2 h⟩
  unfold f_CH_staysInside
  rw [jumps_eq]
  simp only [eh]
  by_cases hX : f_FF_goesToNext (f i) = 0
  · by_cases hJ : f_MO_jumps (f i) = 0
    · simp [hX, hJ]
    · by_cases hT : n ≤ tn (g i)
      · have : ¬ tn (g i) < n := by omega
        simp [hX, hJ, hT]
      · have : tn (g i) < n := by omega
        simp [hX, hJ, hT]
  · by_cases hN : n ≤ i + 1
    · simp [hX, hN]
    · by_cases hJ : f_MO_jumps (f i) = 0
      · simp [hX, hN, hJ]
      · by_cases hT : n ≤ tn (g i)
        · simp [hX, hN, hJ, hT]
        · simp [hX, hN, hJ, hT]
theorem goes_eq {n hn i : Nat} {f g fr to tg hd d ov : Nat → Int32} (ho : Ok18 (f i)) (hD : Dg d) (hA : ¬ d i < f_MO_takes (f i) → ¬ 4 < d i - f_MO_takes (f i) + f_MO_gives (f i) → 0 ≤ d i - f_MO_takes (f i) + f_MO_gives (f i)) (hr : ∀ h, h < hn → hd (3 * h) = fr h ∧ hd (3 * h + 1) = to h ∧ hd (3 * h + 2) = tg h) :
    f_MO_goOver n hn i f g hd d ov = ((f_CH_goesOver n hn i f g fr to tg d).1, (f_CH_goesOver n hn i f g fr to tg d).2, upd ov i 1) ∧ Dg (f_CH_goesOver n hn i f g fr to tg d).2 := by
  unfold f_CH_goesOver f_MO_goOver
  rw [tk_o ho, pu_o ho, g31_eq]
  by_cases h1 : d i < f_MO_takes (f i)
  · simp only [if_pos h1]; exact ⟨trivial, hD⟩
  · by_cases h2 : 4 < d i - f_MO_takes (f i) + f_MO_gives (f i)
    · simp only [if_neg h1, if_pos h2]; exact ⟨trivial, hD⟩
    · obtain ⟨hG, hGD⟩ := g106_eq (n := n) (g := g) (ov := ov) ho hD (hA h1 h2) hr
      simp only [if_neg h1, if_neg h2, sh_eq]
      by_cases hs : f_CH_staysInside n i f g = 0
      · simp only [if_pos hs]
        refine ⟨?_, hD⟩
        rcases (stays_eq n i f g).mp hs with ⟨hX, hN⟩ | ⟨hJ, hT⟩
        · simp only [if_neg hX, if_pos hN]
        · simp only [if_neg hJ, if_neg hT]
          split
          · rfl
          · split <;> rfl
      · simp only [if_neg hs]
        rw [stays_eq, not_or] at hs
        refine ⟨?_, hGD⟩
        rw [← hG]
        by_cases hX : f_FF_goesToNext (f i) = 0
        · by_cases hJ : f_MO_jumps (f i) = 0
          · simp only [if_pos hX, if_pos hJ]
          · have hT : tn (g i) < n := Classical.byContradiction (fun hh => hs.2 ⟨hJ, hh⟩)
            simp only [if_pos hX, if_neg hJ, if_pos hT]
        · have hN : ¬ n ≤ i + 1 := fun hh => hs.1 ⟨hX, hh⟩
          by_cases hJ : f_MO_jumps (f i) = 0
          · simp only [if_neg hX, if_neg hN, if_pos hJ]
          · have hT : tn (g i) < n := Classical.byContradiction (fun hh => hs.2 ⟨hJ, hh⟩)
            simp only [if_neg hX, if_neg hN, if_neg hJ, if_pos hT]
