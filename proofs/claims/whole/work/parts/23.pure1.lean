-- the same answers: leaves of class and reference
theorem i_le_lt (a b : Int32) (k : Int) (ha : a.toInt = k + 1) (hb : b.toInt = k) (x : Int32) : a ≤ x ↔ ¬ x ≤ b := by
  rw [Int32.le_iff_toInt_le, Int32.le_iff_toInt_le]; omega
theorem le_4_3 (x : Int32) : (4 ≤ x) ↔ ¬ x ≤ 3 := i_le_lt 4 3 3 (by decide) (by decide) x
theorem le_32_31 (x : Int32) : (32 ≤ x) ↔ ¬ x ≤ 31 := i_le_lt 32 31 31 (by decide) (by decide) x
theorem lt_not (a x : Int32) : (a < x) ↔ ¬ x ≤ a := by
  rw [Int32.le_iff_toInt_le, Int32.lt_iff_toInt_lt]; omega
theorem jumps_eq (o : Int32) : f_FF_jumps o = f_MO_jumps o := by
  unfold f_FF_jumps f_FF_branches f_MO_jumps
  by_cases h1 : o = 13
  · simp [h1]
  · by_cases h2 : o = 14
    · simp [h2]
    · by_cases h3 : o = 15 <;> simp [h1, h2, h3]
theorem ends_eq (o : Int32) : f_FF_ends o = f_MO_ends o := rfl
theorem has_eq (o : Int32) : f_FF_hasOperand o = f_MO_bears o := by
  unfold f_FF_hasOperand f_MO_bears
  rw [jumps_eq]
theorem takes_eq : ∀ k, k < 18 → TK k = f_MO_takes (nI k) := by decide +kernel
theorem puts_eq : ∀ k, k < 18 → PU k = f_MO_gives (nI k) := by decide +kernel
theorem starter_eq (sa : Nat → Int32) (u v : Int32) : f_FF_starter sa u v = f_MO_starter sa u v := by
  unfold f_FF_starter f_MO_starter f_MO_outside
  by_cases h1 : u < 0
  · simp [h1]
  · by_cases h2 : u ≤ 3
    · have h3 : u < 4 := by rw [Int32.lt_iff_toInt_lt]; rw [Int32.le_iff_toInt_le] at h2; have e1 : (4 : Int32).toInt = 4 := by decide
                            have e2 : (3 : Int32).toInt = 3 := by decide
                            omega
      simp [h1, h2, h3]
    · have h3 : ¬ u < 4 := by rw [Int32.lt_iff_toInt_lt]; rw [Int32.le_iff_toInt_le] at h2; have e1 : (4 : Int32).toInt = 4 := by decide
                              have e2 : (3 : Int32).toInt = 3 := by decide
                              omega
      simp [h1, h2, h3]
theorem opn_eq (n : Nat) (f : Nat → Int32) (v : Int32) : f_FF_operation n f v = f_MO_operation0 n f v := by
  unfold f_FF_operation f_MO_operation0 f_CO_hasI f_MO_isPlace0
  by_cases h1 : v < 0
  · simp [h1]
  · by_cases h2 : nI n ≤ v <;> simp [h1, h2]
theorem opd_eq (n : Nat) (f : Nat → Int32) (v : Int32) : f_FF_operand n f v = f_MO_operand0 n f v := by
  unfold f_FF_operand f_MO_operand0 f_CO_hasI f_MO_isPlace0
  by_cases h1 : v < 0
  · simp [h1]
  · by_cases h2 : nI n ≤ v <;> simp [h1, h2]
