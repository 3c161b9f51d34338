-- the same answers: add, handler
theorem add_eq (n : Nat) (f g : Nat → Int32) (o b : Int32) : f_FF_add n f g o b = f_MO_add n f g o b := by
  have j1 : f_MO_jumps 1 = 0 := by decide
  have j2 : f_MO_jumps 2 = 0 := by decide
  unfold f_FF_add f_MO_add
  by_cases hA : f_MO_outside o 17 = 0
  · have h := (out_eq o 17).mp hA
    rw [if_neg h.1, if_neg (show ¬ 17 < o by rw [lt_not]; exact not_not_intro h.2), has_eq]
    by_cases hn : n = 32
    · simp [hn, hA]
    · by_cases hT : f_FF_takesOperand o b = 0
      · rw [if_neg hn, if_pos hT]
        rw [takes_op] at hT
        rcases hT with ⟨h1 | h1, h2⟩ | ⟨h1, h2⟩
        · subst h1; simp [hA, hn, h2]
        · subst h1; simp [hA, hn, h2]
        · have n1 : ¬ o = 1 := fun e => h1 (by rw [e]; exact j1)
          have n2 : ¬ o = 2 := fun e => h1 (by rw [e]; exact j2)
          simp [hA, hn, h1, h2, n1, n2]
      · rw [if_neg hn, if_neg hT]
        rw [takes_op, not_or] at hT
        obtain ⟨hT1, hT2⟩ := hT
        by_cases h1 : o = 1
        · subst h1
          have h3 : f_MO_outside b 3 = 0 := Classical.byContradiction (fun hh => hT1 ⟨Or.inl rfl, hh⟩)
          simp [hA, hn, h3, j1]
        · by_cases h2 : o = 2
          · subst h2
            have h3 : f_MO_outside b 3 = 0 := Classical.byContradiction (fun hh => hT1 ⟨Or.inr rfl, hh⟩)
            simp [hA, hn, h3, j2]
          · by_cases h3 : f_MO_jumps o = 0
            · simp [hA, hn, h1, h2, h3]
            · have h4 : f_MO_outside b 31 = 0 := Classical.byContradiction (fun hh => hT2 ⟨h3, hh⟩)
              simp [hA, hn, h1, h2, h3, h4]
  · have hbad : (if o < 0 then (((-1), n, f, g) : Int32 × Nat × (Nat → Int32) × (Nat → Int32)) else (if 17 < o then ((-1), n, f, g) else (if n = 32 then ((-1), n, f, g) else (if f_FF_takesOperand o b = 0 then ((-1), n, f, g) else (if f_FF_hasOperand o = 0 then (nI (n + 1 - 1), n + 1, upd f n o, upd g n 0) else (nI (n + 1 - 1), n + 1, upd f n o, upd g n b)))))) = ((-1), n, f, g) := by
      by_cases h0 : o < 0
      · rw [if_pos h0]
      · rw [if_neg h0]
        by_cases h17 : o ≤ 17
        · exact absurd ((out_eq o 17).mpr ⟨h0, h17⟩) hA
        · rw [if_pos (by rw [lt_not]; exact h17)]
    rw [hbad]
    by_cases h1 : o = 1
    · subst h1; simp [hA]
    · by_cases h2 : o = 2
      · subst h2; simp [hA]
      · simp [hA, h1, h2]
theorem handler_ret (hn : Nat) (fr to tg hd : Nat → Int32) (u v w : Int32) : (f_FF_handler hn fr to tg u v w).1 = (f_MO_handler hn hd u v w).1 ∧ (f_FF_handler hn fr to tg u v w).2.1 = (f_MO_handler hn hd u v w).2.1 := by
  unfold f_FF_handler f_MO_handler
  simp only [place_eq]
  by_cases h1 : f_MO_outside u 32 = 0
  · by_cases h2 : f_MO_outside v 32 = 0
    · by_cases h3 : f_MO_outside w 32 = 0
      · by_cases h4 : v ≤ u
        · simp [h1, h2, h3, h4]
        · by_cases h5 : hn = 3 <;> simp [h1, h2, h3, h4, h5]
      · simp [h1, h2, h3]
    · simp [h1, h2]
  · simp [h1]
