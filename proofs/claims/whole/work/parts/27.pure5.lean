-- the reference's flag 'good' beside the class's two
theorem go_and (n i : Nat) (hd : Nat → Int32) : ∀ (kf h : Nat) (b c : Int32) (d : Nat → Int32), (b = 0 ∨ b = 1) → (c = 0 ∨ c = 1) → (lp_MO_goOver n i hd kf h (if c = 0 then 0 else b) d).2 = (lp_MO_goOver n i hd kf h c d).2 ∧ (lp_MO_goOver n i hd kf h (if c = 0 then 0 else b) d).1 = (if (lp_MO_goOver n i hd kf h c d).1 = 0 then 0 else b) := by
  intro kf
  induction kf with
  | zero => intro h b c d _ _; exact ⟨rfl, rfl⟩
  | succ kf ih =>
    intro h b c d hb hc
    rw [lp_MO_goOver, lp_MO_goOver]
    by_cases h1 : f_MO_inRange hd h (nI i) = 0
    · rw [if_pos h1, if_pos h1]; exact ih _ _ _ _ hb hc
    · rw [if_neg h1, if_neg h1]
      have z0 := ih (h + 1) b 0 (f_MO_reach n (tn (hd (3 * h + 2))) d 1).2 hb (Or.inl rfl)
      have z1 := ih (h + 1) b 1 (f_MO_reach n (tn (hd (3 * h + 2))) d 1).2 hb (Or.inr rfl)
      rw [if_pos rfl] at z0
      rw [if_neg (by decide)] at z1
      by_cases h2 : (f_MO_reach n (tn (hd (3 * h + 2))) d 1).1 = 0
      · rw [if_pos h2, if_pos h2]; exact z0
      · rw [if_neg h2, if_neg h2]
        rcases hc with rfl | rfl
        · rw [if_pos rfl, if_pos rfl]; exact z0
        · rw [if_neg (by decide : ¬ (1 : Int32) = 0), if_neg (by decide : ¬ (1 : Int32) = 0)]
          rcases hb with rfl | rfl
          · rw [if_pos rfl]; exact z1
          · rw [if_neg (by decide : ¬ (1 : Int32) = 0)]; exact z1
theorem next_eq (o : Int32) : f_FF_goesToNext o = (if o = 13 then 0 else if f_MO_ends o = 0 then 1 else 0) := rfl
