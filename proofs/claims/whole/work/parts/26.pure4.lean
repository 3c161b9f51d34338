-- the checks are the same: steps of it
def Dg (d : Nat → Int32) : Prop := ∀ i, d i = -1 ∨ 0 ≤ d i
theorem neg_of {x : Int32} (h : 0 ≤ x) : ¬ x < 0 ∧ ¬ x = -1 := by
  have e0 : (0 : Int32).toInt = 0 := by decide
  have e1 : (-1 : Int32).toInt = -1 := by decide
  rw [Int32.le_iff_toInt_le, e0] at h
  refine ⟨fun h2 => ?_, fun h2 => ?_⟩
  · rw [Int32.lt_iff_toInt_lt, e0] at h2; omega
  · rw [h2, e1] at h; omega
theorem gives_eq {n i : Nat} {d : Nat → Int32} {v : Int32} (h : d i = -1 ∨ 0 ≤ d i) : f_CH_gives n i d v = f_MO_reach n i d v := by
  unfold f_CH_gives f_MO_reach f_CO_has f_CH_reached
  by_cases h1 : n ≤ i
  · simp [h1]
  · rcases h with h | h
    · have h2 : d i < 0 := by rw [h]; decide
      rw [if_neg (by rw [if_neg h1]; decide), if_pos (by rw [if_pos h]), if_neg h1, if_pos h2]
    · obtain ⟨h2, h3⟩ := neg_of h
      rw [if_neg (by rw [if_neg h1]; decide), if_neg (by rw [if_neg h3]; decide), if_neg h1, if_neg h2]
theorem Dg_upd {d : Nat → Int32} {i : Nat} {v : Int32} (h : Dg d) (hv : 0 ≤ v) : Dg (upd d i v) := by
  intro j
  by_cases e : j = i
  · subst e; rw [pk_us]; exact Or.inr hv
  · rw [pk_un e]; exact h j
theorem Dg_reach {n i : Nat} {d : Nat → Int32} {v : Int32} (h : Dg d) (hv : 0 ≤ v) : Dg (f_MO_reach n i d v).2 := by
  unfold f_MO_reach
  split
  · exact h
  · split
    · exact Dg_upd h hv
    · split
      · exact Dg_upd h hv
      · exact h
theorem gt_eq {n i hn : Nat} {fr to tg hd : Nat → Int32} (hr : ∀ h, h < hn → hd (3 * h) = fr h ∧ hd (3 * h + 1) = to h ∧ hd (3 * h + 2) = tg h) : ∀ (kf h : Nat) (b : Int32) (d : Nat → Int32), h + kf ≤ hn → Dg d → lp_CH_givesTargets n i fr to tg kf h b d = lp_MO_goOver n i hd kf h b d ∧ Dg (lp_MO_goOver n i hd kf h b d).2 := by
  intro kf
  induction kf with
  | zero => intro h b d _ hD; exact ⟨rfl, hD⟩
  | succ kf ih =>
    intro h b d hk hD
    obtain ⟨e1, e2, e3⟩ := hr h (by omega)
    have ec : f_CO_covers h fr to (nI i) = f_MO_inRange hd h (nI i) := by
      unfold f_CO_covers f_MO_inRange
      rw [e1, e2]
    have h1 : (0 : Int32) ≤ 1 := by decide
    rw [lp_CH_givesTargets, lp_MO_goOver, ec, e3, gives_eq (hD _)]
    split
    · exact ih _ _ _ (by omega) hD
    · split
      · exact ih _ _ _ (by omega) (Dg_reach hD h1)
      · split
        · exact ih _ _ _ (by omega) (Dg_reach hD h1)
        · exact ih _ _ _ (by omega) (Dg_reach hD h1)
