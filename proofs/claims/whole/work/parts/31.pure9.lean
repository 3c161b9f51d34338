-- the check's loops: the start, and the least instruction that is left
theorem fill_eq : ∀ (kf i : Nat) (d o : Nat → Int32), lp_CH_forget kf i d o = lp_MO_fill kf i d o := by
  intro kf
  induction kf with
  | zero => intro i d o; rfl
  | succ kf ih => intro i d o; rw [lp_CH_forget, lp_MO_fill, ih]
theorem ll_eq_nx {d ov : Nat → Int32} (hD : Dg d) : ∀ (kf i : Nat), (lp_MO_nextOver d ov kf i = i + kf ∧ lp_CH_leastLeft d ov kf i = -1) ∨ (lp_MO_nextOver d ov kf i < i + kf ∧ lp_CH_leastLeft d ov kf i = nI (lp_MO_nextOver d ov kf i)) := by
  intro kf
  induction kf with
  | zero => intro i; exact Or.inl ⟨rfl, rfl⟩
  | succ kf ih =>
    intro i
    have hi := ih (i + 1)
    have ei : i + 1 + kf = i + (kf + 1) := by omega
    rw [ei] at hi
    rw [lp_MO_nextOver, lp_CH_leastLeft]
    unfold f_CH_reached
    rcases hD i with h | h
    · have h2 : d i < 0 := by rw [h]; decide
      rw [if_pos h2, if_pos (show (if d i = -1 then (0 : Int32) else 1) = 0 by rw [if_pos h])]
      exact hi
    · obtain ⟨h2, h3⟩ := neg_of h
      rw [if_neg h2, if_neg (show ¬ (if d i = -1 then (0 : Int32) else 1) = 0 by rw [if_neg h3]; decide)]
      by_cases h4 : ov i = 0
      · rw [if_pos h4, if_pos h4]; exact Or.inr ⟨by omega, rfl⟩
      · rw [if_neg h4, if_neg h4]; exact hi
