-- the same answers: more of it
theorem block_eq (bc : Nat) (le st fi : Nat → Int32) (u v : Int32) : f_FF_block bc le st fi u v = f_MO_block bc le st fi u v := rfl
theorem le_40_39 (x : Int32) : (40 ≤ x) ↔ ¬ x ≤ 39 := i_le_lt 40 39 39 (by decide) (by decide) x
theorem le_9_8 (x : Int32) : (9 ≤ x) ↔ ¬ x ≤ 8 := i_le_lt 9 8 8 (by decide) (by decide) x
theorem emitted_eq (em : Int32) (ke : Nat → Int32) (u : Int32) : f_FF_emitted em ke u = f_MO_emitted em ke u := by
  unfold f_FF_emitted f_MO_emitted
  by_cases h1 : u < 0
  · simp [h1]
  · by_cases h2 : em ≤ u
    · simp [h1, h2]
    · by_cases h3 : u ≤ 39
      · rw [if_neg h1, if_neg h2, if_neg (by rw [le_40_39]; exact not_not_intro h3), if_neg h1, if_neg h2, if_pos h3]
      · rw [if_neg h1, if_neg h2, if_pos (by rw [le_40_39]; exact h3), if_neg h1, if_neg h2, if_neg h3]
theorem out_eq (x k : Int32) : f_MO_outside x k = 0 ↔ ¬ x < 0 ∧ x ≤ k := by
  unfold f_MO_outside
  by_cases h1 : x < 0
  · rw [if_pos h1]; exact ⟨fun h => absurd h (by decide), fun h => absurd h1 h.1⟩
  · by_cases h2 : x ≤ k
    · rw [if_neg h1, if_pos h2]; exact ⟨fun _ => ⟨h1, h2⟩, fun _ => rfl⟩
    · rw [if_neg h1, if_neg h2]; exact ⟨fun h => absurd h (by decide), fun h => absurd h.2 h2⟩
theorem local_eq (w : Int32) (lo : Nat → Int32) (u : Int32) : f_FF_local w lo u = f_MO_local w lo u := by
  unfold f_FF_local f_MO_local
  by_cases h0 : w = 0
  · rw [if_pos h0, if_pos h0]
  · rw [if_neg h0, if_neg h0]
    by_cases h1 : u < 0
    · rw [if_pos h1, if_neg (by rw [out_eq]; exact fun h => h.1 h1)]
    · rw [if_neg h1]
      by_cases h3 : u ≤ 8
      · rw [if_neg (by rw [le_9_8]; exact not_not_intro h3), if_pos ((out_eq u 8).mpr ⟨h1, h3⟩)]
      · rw [if_pos (by rw [le_9_8]; exact h3), if_neg (by rw [out_eq]; exact fun h => h3 h.2)]
theorem place_eq (x : Int32) : f_FF_isPlace x = 0 ↔ ¬ f_MO_outside x 32 = 0 := by
  rw [out_eq]
  unfold f_FF_isPlace
  by_cases h1 : x < 0
  · rw [if_pos h1]; exact ⟨fun _ h => h.1 h1, fun _ => rfl⟩
  · rw [if_neg h1]
    by_cases h2 : x ≤ 32
    · rw [if_neg (by rw [lt_not]; exact not_not_intro h2)]; exact ⟨fun h => absurd h (by decide), fun h => absurd ⟨h1, h2⟩ h⟩
    · rw [if_pos (by rw [lt_not]; exact h2)]; exact ⟨fun _ h => h2 h.2, fun _ => rfl⟩
theorem takes_op (o b : Int32) : f_FF_takesOperand o b = 0 ↔ ((o = 1 ∨ o = 2) ∧ ¬ f_MO_outside b 3 = 0) ∨ (¬ f_MO_jumps o = 0 ∧ ¬ f_MO_outside b 31 = 0) := by
  have j1 : f_MO_jumps 1 = 0 := by decide
  have j2 : f_MO_jumps 2 = 0 := by decide
  have w3 : (if b < 0 then (0 : Int32) else if 4 ≤ b then 0 else 1) = 0 ↔ ¬ f_MO_outside b 3 = 0 := by
    rw [out_eq]
    by_cases h1 : b < 0
    · rw [if_pos h1]; exact ⟨fun _ h => h.1 h1, fun _ => rfl⟩
    · rw [if_neg h1]
      by_cases h2 : b ≤ 3
      · rw [if_neg (by rw [le_4_3]; exact not_not_intro h2)]; exact ⟨fun h => absurd h (by decide), fun h => absurd ⟨h1, h2⟩ h⟩
      · rw [if_pos (by rw [le_4_3]; exact h2)]; exact ⟨fun _ h => h2 h.2, fun _ => rfl⟩
  have w31 : (if b < 0 then (0 : Int32) else if 32 ≤ b then 0 else 1) = 0 ↔ ¬ f_MO_outside b 31 = 0 := by
    rw [out_eq]
    by_cases h1 : b < 0
    · rw [if_pos h1]; exact ⟨fun _ h => h.1 h1, fun _ => rfl⟩
    · rw [if_neg h1]
      by_cases h2 : b ≤ 31
      · rw [if_neg (by rw [le_32_31]; exact not_not_intro h2)]; exact ⟨fun h => absurd h (by decide), fun h => absurd ⟨h1, h2⟩ h⟩
      · rw [if_pos (by rw [le_32_31]; exact h2)]; exact ⟨fun _ h => h2 h.2, fun _ => rfl⟩
  unfold f_FF_takesOperand
  rw [jumps_eq]
  by_cases h1 : o = 1
  · rw [if_pos h1, w3, h1]; simp [j1]
  · rw [if_neg h1]
    by_cases h2 : o = 2
    · rw [if_pos h2, w3, h2]; simp [j2]
    · rw [if_neg h2]
      by_cases h3 : f_MO_jumps o = 0
      · rw [if_pos h3]; simp [h1, h2, h3]
      · rw [if_neg h3, w31]; simp [h1, h2, h3]
